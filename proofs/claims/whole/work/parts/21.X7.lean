def f_X7_in (v0 : Int) (v2 : Int) (v4 : Int) (σ : gs_Mem) : Option (Int) :=
  if (gn (gcmp v0 v2)) < 0 then
    some 0
  else
    if 0 < (gn (gcmp v0 v4)) then
      some 0
    else
      some 1
set_option maxRecDepth 100000 in
set_option maxHeartbeats 4000000 in
theorem c_X7_in {E : gs_E} (v0 : Int) (v2 : Int) (v4 : Int)  (σ : gs_Mem) : gs_C E yX7_in cX7_in 6 (some .boolean) 0 { frames := 0, cells := 0, slots := 0, locals := 0 } [gl v0, gl v2, gl v4] σ (f_X7_in v0 v2 v4 σ) (fun v : Int => (v, σ)) := by
  unfold f_X7_in
  refine gs_enter (L := [(0, gl v0), (2, gl v2), (4, gl v4)]) (by decide) rfl rfl (Nat.le_of_ble_eq_true rfl) rfl ?_
  refine gk_lload_n (pc := 0) 0 dX7_in_0 rfl ?_
  refine gk_lload_n (pc := 1) 1 dX7_in_1 rfl ?_
  refine gk_lcmp (pc := 2) dX7_in_2 ?_
  refine gk_if_lt (tgt := 17) (pc := 3) dX7_in_3 (by decide) rfl ?_ ?_
  · refine gk_iconst (pc := 17) dX7_in_17 ?_
    exact gk_zret (pc := 18) (Or.inl (by decide +kernel)) rfl dX7_in_18
  · refine gk_lload_n (pc := 6) 0 dX7_in_6 rfl ?_
    refine gk_lload (pc := 7) 2 dX7_in_7 rfl ?_
    refine gk_lcmp (pc := 9) dX7_in_9 ?_
    refine gk_if_gt (tgt := 17) (pc := 10) dX7_in_10 (by decide) rfl ?_ ?_
    · refine gk_iconst (pc := 17) dX7_in_17 ?_
      exact gk_zret (pc := 18) (Or.inl (by decide +kernel)) rfl dX7_in_18
    · refine gk_iconst (pc := 13) dX7_in_13 ?_
      refine gk_goto (tgt := 18) (pc := 14) dX7_in_14 (by decide) ?_
      exact gk_zret (pc := 18) (Or.inr (by decide +kernel)) rfl dX7_in_18
def f_X7_copies_L2 (v0 : Nat) (v1 : Nat) : Nat → Int → gs_Mem → Option (Int × gs_Mem)
  | 0, _, _ => none
  | n + 1, v2, σ =>
    if 84 ≤ (gn v2) then
      some (0, σ)
    else
      gs_chk (gn v2) 84 (
      gs_chk (gn v2) 84 (
      f_X7_copies_L2 v0 v1 n (v2 + 1) (gs_st σ v1 (gn v2).toNat (σ v0 (gn v2).toNat))))
set_option maxRecDepth 100000 in
set_option maxHeartbeats 4000000 in
theorem k_X7_copies_L2 {E : gs_E} (v0 : Nat) (v1 : Nat) (hv0 : isMa v0) (hv1 : isMa v1)  : ∀ (n : Nat) (v2 : Int) (σ : gs_Mem), gs_K E (gs_MC E yX7_copies cX7_copies 3 none 2 { frames := 0, cells := 0, slots := 0, locals := 0 }) (fun b : Int × gs_Mem => b) (f_X7_copies_L2 v0 v1 n v2 σ) 2 [(0, gr E v0), (1, gr E v1), (2, gi v2)] [] σ := by
  intro n
  induction n with
  | zero => intro v2 σ; rw [f_X7_copies_L2]; exact gk_none
  | succ n ih =>
    intro v2 σ; rw [f_X7_copies_L2]
    refine gk_iload_n (pc := 2) 2 dX7_copies_2 rfl ?_
    refine gk_bipush (pc := 3) dX7_copies_3 (by decide +kernel) ?_
    refine gk_icmp_ge (tgt := 20) (pc := 5) dX7_copies_5 (by decide) rfl (by decide +kernel) ?_ ?_
    · exact gk_vret (pc := 20) rfl dX7_copies_20
    · refine gk_aload_n (pc := 8) 1 dX7_copies_8 rfl ?_
      refine gk_iload_n (pc := 9) 2 dX7_copies_9 rfl ?_
      refine gk_aload_n (pc := 10) 0 dX7_copies_10 rfl ?_
      refine gk_iload_n (pc := 11) 2 dX7_copies_11 rfl ?_
      refine gk_iald_c (pc := 12) (ma_lt0 hv0) (ma_sh hv0) rfl dX7_copies_12 ?_
      refine gk_iast_c (pc := 13) (ma_lt0 hv1) (ma_sh hv1) rfl dX7_copies_13 ?_
      refine gk_iinc (L' := [(2, gi (v2 + 1)), (0, gr E v0), (1, gr E v1)]) (pc := 14) 2 dX7_copies_14 rfl (Nat.le_of_ble_eq_true rfl) rfl ?_
      refine gk_goto (tgt := 2) (pc := 17) dX7_copies_17 (by decide) ?_
      refine gk_sub (L' := [(0, gr E v0), (1, gr E v1), (2, gi (v2 + 1))]) [1, 2, 0] rfl ?_
      exact ih (v2 + 1) (gs_st σ v1 (gn v2).toNat (σ v0 (gn v2).toNat))
def f_X7_copies (r0 : Nat) (r1 : Nat) (σ : gs_Mem) : Option (Int × gs_Mem) :=
  f_X7_copies_L2 r0 r1 gs_fuel 0 σ
set_option maxRecDepth 100000 in
set_option maxHeartbeats 4000000 in
theorem c_X7_copies {E : gs_E} (r0 : Nat) (r1 : Nat) (hr0 : isMa r0) (hr1 : isMa r1) (σ : gs_Mem) : gs_C E yX7_copies cX7_copies 3 none 2 { frames := 0, cells := 0, slots := 0, locals := 0 } [gr E r0, gr E r1] σ (f_X7_copies r0 r1 σ) (fun b : Int × gs_Mem => b) := by
  unfold f_X7_copies
  refine gs_enter (L := [(0, gr E r0), (1, gr E r1)]) (by decide) rfl rfl (Nat.le_of_ble_eq_true rfl) rfl ?_
  refine gk_iconst (pc := 0) dX7_copies_0 ?_
  refine gk_istore_n (L' := [(2, gi 0), (0, gr E r0), (1, gr E r1)]) (pc := 1) dX7_copies_1 (Nat.le_of_ble_eq_true rfl) rfl ?_
  refine gk_sub (L' := [(0, gr E r0), (1, gr E r1), (2, gi 0)]) [1, 2, 0] rfl ?_
  exact k_X7_copies_L2 r0 r1 hr0 hr1 gs_fuel 0 σ
def f_X7_isStation (v1 : Int) (σ : gs_Mem) : Option (Int) :=
  gs_chk 0 84 (
  (f_X7_in (gn v1) 0 (gn ((σ 71 0) - 1)) σ).bind fun u1 =>
  gs_chkz (gn u1) (some u1))
set_option maxRecDepth 100000 in
set_option maxHeartbeats 4000000 in
theorem c_X7_isStation {E : gs_E} (v1 : Int)  (σ : gs_Mem) : gs_C E yX7_isStation cX7_isStation 2 (some .boolean) 0 { frames := 1, cells := 0, slots := 0, locals := 25 } [gr E 70, gi v1] σ (f_X7_isStation v1 σ) (fun v : Int => (v, σ)) := by
  unfold f_X7_isStation
  refine gs_enter (L := [(0, gr E 70), (1, gi v1)]) (by decide) rfl rfl (Nat.le_of_ble_eq_true rfl) rfl ?_
  refine gk_iload_n (pc := 0) 1 dX7_isStation_0 rfl ?_
  refine gk_i2l (pc := 1) dX7_isStation_1 ?_
  refine gk_lconst (x := 0) (pc := 2) dX7_isStation_2 (by decide +kernel) ?_
  refine gk_aload_n (pc := 3) 0 dX7_isStation_3 rfl ?_
  refine gk_getR (q := 71) (pc := 4) rfl clsX7 cll_70 sh_70 0 (by decide) rfl ww_775 dX7_isStation_4 ?_
  refine gk_iconst (pc := 7) dX7_isStation_7 ?_
  refine gk_iald_c (pc := 8) cll_71 sh_71 (by decide +kernel) dX7_isStation_8 ?_
  refine gk_iconst (pc := 9) dX7_isStation_9 ?_
  refine gk_isub (pc := 10) dX7_isStation_10 ?_
  refine gk_i2l (pc := 11) dX7_isStation_11 ?_
  refine gk_callS_ir (As := [gl (gn v1), gl 0, gl (gn ((σ 71 0) - 1))]) (pc := 12) (c_X7_in (gn v1) 0 (gn ((σ 71 0) - 1)) σ) rfl mm_X7_in ww_817 (gs_fit_of (Nat.le_of_ble_eq_true rfl) (Nat.le_of_ble_eq_true rfl)) rfl rfl (Nat.le_of_ble_eq_true rfl) dX7_isStation_12 (fun u1 => ?_)
  exact gk_zretG_c (pc := 15) rfl rfl dX7_isStation_15
def f_X7_x (v1 : Int) (σ : gs_Mem) : Option (Int) :=
  gs_chk (gn (4 + (4 * v1))) 84 (
  some (σ 71 (gn (4 + (4 * v1))).toNat))
set_option maxRecDepth 100000 in
set_option maxHeartbeats 4000000 in
theorem c_X7_x {E : gs_E} (v1 : Int)  (σ : gs_Mem) : gs_C E yX7_x cX7_x 2 (some .int) 0 { frames := 0, cells := 0, slots := 0, locals := 0 } [gr E 70, gi v1] σ (f_X7_x v1 σ) (fun v : Int => (v, σ)) := by
  unfold f_X7_x
  refine gs_enter (L := [(0, gr E 70), (1, gi v1)]) (by decide) rfl rfl (Nat.le_of_ble_eq_true rfl) rfl ?_
  refine gk_aload_n (pc := 0) 0 dX7_x_0 rfl ?_
  refine gk_getR (q := 71) (pc := 1) rfl clsX7 cll_70 sh_70 0 (by decide) rfl ww_775 dX7_x_1 ?_
  refine gk_iconst (pc := 4) dX7_x_4 ?_
  refine gk_iconst (pc := 5) dX7_x_5 ?_
  refine gk_iload_n (pc := 6) 1 dX7_x_6 rfl ?_
  refine gk_imul (pc := 7) dX7_x_7 ?_
  refine gk_iadd (pc := 8) dX7_x_8 ?_
  refine gk_iald_c (pc := 9) cll_71 sh_71 rfl dX7_x_9 ?_
  exact gk_iret (pc := 10) rfl dX7_x_10
def f_X7_y (v1 : Int) (σ : gs_Mem) : Option (Int) :=
  gs_chk (gn ((4 + (4 * v1)) + 1)) 84 (
  some (σ 71 (gn ((4 + (4 * v1)) + 1)).toNat))
set_option maxRecDepth 100000 in
set_option maxHeartbeats 4000000 in
theorem c_X7_y {E : gs_E} (v1 : Int)  (σ : gs_Mem) : gs_C E yX7_y cX7_y 2 (some .int) 0 { frames := 0, cells := 0, slots := 0, locals := 0 } [gr E 70, gi v1] σ (f_X7_y v1 σ) (fun v : Int => (v, σ)) := by
  unfold f_X7_y
  refine gs_enter (L := [(0, gr E 70), (1, gi v1)]) (by decide) rfl rfl (Nat.le_of_ble_eq_true rfl) rfl ?_
  refine gk_aload_n (pc := 0) 0 dX7_y_0 rfl ?_
  refine gk_getR (q := 71) (pc := 1) rfl clsX7 cll_70 sh_70 0 (by decide) rfl ww_775 dX7_y_1 ?_
  refine gk_iconst (pc := 4) dX7_y_4 ?_
  refine gk_iconst (pc := 5) dX7_y_5 ?_
  refine gk_iload_n (pc := 6) 1 dX7_y_6 rfl ?_
  refine gk_imul (pc := 7) dX7_y_7 ?_
  refine gk_iadd (pc := 8) dX7_y_8 ?_
  refine gk_iconst (pc := 9) dX7_y_9 ?_
  refine gk_iadd (pc := 10) dX7_y_10 ?_
  refine gk_iald_c (pc := 11) cll_71 sh_71 rfl dX7_y_11 ?_
  exact gk_iret (pc := 12) rfl dX7_y_12
def f_X7_channelOf (v1 : Int) (σ : gs_Mem) : Option (Int) :=
  gs_chk (gn ((4 + (4 * v1)) + 2)) 84 (
  some (σ 71 (gn ((4 + (4 * v1)) + 2)).toNat))
set_option maxRecDepth 100000 in
set_option maxHeartbeats 4000000 in
theorem c_X7_channelOf {E : gs_E} (v1 : Int)  (σ : gs_Mem) : gs_C E yX7_channelOf cX7_channelOf 2 (some .int) 0 { frames := 0, cells := 0, slots := 0, locals := 0 } [gr E 70, gi v1] σ (f_X7_channelOf v1 σ) (fun v : Int => (v, σ)) := by
  unfold f_X7_channelOf
  refine gs_enter (L := [(0, gr E 70), (1, gi v1)]) (by decide) rfl rfl (Nat.le_of_ble_eq_true rfl) rfl ?_
  refine gk_aload_n (pc := 0) 0 dX7_channelOf_0 rfl ?_
  refine gk_getR (q := 71) (pc := 1) rfl clsX7 cll_70 sh_70 0 (by decide) rfl ww_775 dX7_channelOf_1 ?_
  refine gk_iconst (pc := 4) dX7_channelOf_4 ?_
  refine gk_iconst (pc := 5) dX7_channelOf_5 ?_
  refine gk_iload_n (pc := 6) 1 dX7_channelOf_6 rfl ?_
  refine gk_imul (pc := 7) dX7_channelOf_7 ?_
  refine gk_iadd (pc := 8) dX7_channelOf_8 ?_
  refine gk_iconst (pc := 9) dX7_channelOf_9 ?_
  refine gk_iadd (pc := 10) dX7_channelOf_10 ?_
  refine gk_iald_c (pc := 11) cll_71 sh_71 rfl dX7_channelOf_11 ?_
  exact gk_iret (pc := 12) rfl dX7_channelOf_12
def f_X7_isFixed (v1 : Int) (σ : gs_Mem) : Option (Int) :=
  gs_chk (gn ((4 + (4 * v1)) + 3)) 84 (
  if (gn (σ 71 (gn ((4 + (4 * v1)) + 3)).toNat)) = 1 then
    some 1
  else
    some 0)
set_option maxRecDepth 100000 in
set_option maxHeartbeats 4000000 in
theorem c_X7_isFixed {E : gs_E} (v1 : Int)  (σ : gs_Mem) : gs_C E yX7_isFixed cX7_isFixed 2 (some .boolean) 0 { frames := 0, cells := 0, slots := 0, locals := 0 } [gr E 70, gi v1] σ (f_X7_isFixed v1 σ) (fun v : Int => (v, σ)) := by
  unfold f_X7_isFixed
  refine gs_enter (L := [(0, gr E 70), (1, gi v1)]) (by decide) rfl rfl (Nat.le_of_ble_eq_true rfl) rfl ?_
  refine gk_aload_n (pc := 0) 0 dX7_isFixed_0 rfl ?_
  refine gk_getR (q := 71) (pc := 1) rfl clsX7 cll_70 sh_70 0 (by decide) rfl ww_775 dX7_isFixed_1 ?_
  refine gk_iconst (pc := 4) dX7_isFixed_4 ?_
  refine gk_iconst (pc := 5) dX7_isFixed_5 ?_
  refine gk_iload_n (pc := 6) 1 dX7_isFixed_6 rfl ?_
  refine gk_imul (pc := 7) dX7_isFixed_7 ?_
  refine gk_iadd (pc := 8) dX7_isFixed_8 ?_
  refine gk_iconst (pc := 9) dX7_isFixed_9 ?_
  refine gk_iadd (pc := 10) dX7_isFixed_10 ?_
  refine gk_iald_c (pc := 11) cll_71 sh_71 rfl dX7_isFixed_11 ?_
  refine gk_iconst (pc := 12) dX7_isFixed_12 ?_
  refine gk_icmp_ne (tgt := 20) (pc := 13) dX7_isFixed_13 (by decide) rfl (by decide +kernel) ?_ ?_
  · refine gk_iconst (pc := 20) dX7_isFixed_20 ?_
    exact gk_zret (pc := 21) (Or.inl (by decide +kernel)) rfl dX7_isFixed_21
  · refine gk_iconst (pc := 16) dX7_isFixed_16 ?_
    refine gk_goto (tgt := 21) (pc := 17) dX7_isFixed_17 (by decide) ?_
    exact gk_zret (pc := 21) (Or.inr (by decide +kernel)) rfl dX7_isFixed_21
def f_X7_has (v1 : Int) (v2 : Int) (σ : gs_Mem) : Option (Int × gs_Mem) :=
  gs_chk (gn ((4 + (4 * v1)) + 2)) 84 (
  some (0, (gs_st σ 71 (gn ((4 + (4 * v1)) + 2)).toNat v2)))
set_option maxRecDepth 100000 in
set_option maxHeartbeats 4000000 in
theorem c_X7_has {E : gs_E} (v1 : Int) (v2 : Int)  (σ : gs_Mem) : gs_C E yX7_has cX7_has 3 none 2 { frames := 0, cells := 0, slots := 0, locals := 0 } [gr E 70, gi v1, gi v2] σ (f_X7_has v1 v2 σ) (fun b : Int × gs_Mem => b) := by
  unfold f_X7_has
  refine gs_enter (L := [(0, gr E 70), (1, gi v1), (2, gi v2)]) (by decide) rfl rfl (Nat.le_of_ble_eq_true rfl) rfl ?_
  refine gk_aload_n (pc := 0) 0 dX7_has_0 rfl ?_
  refine gk_getR (q := 71) (pc := 1) rfl clsX7 cll_70 sh_70 0 (by decide) rfl ww_775 dX7_has_1 ?_
  refine gk_iconst (pc := 4) dX7_has_4 ?_
  refine gk_iconst (pc := 5) dX7_has_5 ?_
  refine gk_iload_n (pc := 6) 1 dX7_has_6 rfl ?_
  refine gk_imul (pc := 7) dX7_has_7 ?_
  refine gk_iadd (pc := 8) dX7_has_8 ?_
  refine gk_iconst (pc := 9) dX7_has_9 ?_
  refine gk_iadd (pc := 10) dX7_has_10 ?_
  refine gk_iload_n (pc := 11) 2 dX7_has_11 rfl ?_
  refine gk_iast_c (pc := 12) cll_71 sh_71 rfl dX7_has_12 ?_
  exact gk_vret (pc := 13) rfl dX7_has_13
def f_X7_stationAt_J32 (σ : gs_Mem) (k2 : Int → Option (Int)) (v1 : Int) (v2 : Int) (v3 : Int) : Option (Int) :=
  k2 (v3 + 1)
set_option maxRecDepth 100000 in
set_option maxHeartbeats 4000000 in
theorem k_X7_stationAt_J32 {E : gs_E} (σ : gs_Mem) (k2 : Int → Option (Int))  (v1 : Int) (v2 : Int) (v3 : Int)  (hk2 : ∀ (w3 : Int), gs_K E (gs_MC E yX7_stationAt cX7_stationAt 4 (some .int) 0 { frames := 1, cells := 0, slots := 0, locals := 21 }) (fun v : Int => (v, σ)) (k2 w3) 2 [(0, gr E 70), (1, gi v1), (2, gi v2), (3, gi w3)] [] σ) : gs_K E (gs_MC E yX7_stationAt cX7_stationAt 4 (some .int) 0 { frames := 1, cells := 0, slots := 0, locals := 21 }) (fun v : Int => (v, σ)) (f_X7_stationAt_J32 σ k2 v1 v2 v3) 32 [(0, gr E 70), (1, gi v1), (2, gi v2), (3, gi v3)] [] σ := by
  unfold f_X7_stationAt_J32
  refine gk_iinc (L' := [(3, gi (v3 + 1)), (0, gr E 70), (1, gi v1), (2, gi v2)]) (pc := 32) 3 dX7_stationAt_32 rfl (Nat.le_of_ble_eq_true rfl) rfl ?_
  refine gk_goto (tgt := 2) (pc := 35) dX7_stationAt_35 (by decide) ?_
  refine gk_sub (L' := [(0, gr E 70), (1, gi v1), (2, gi v2), (3, gi (v3 + 1))]) [1, 2, 3, 0] rfl ?_
  exact hk2 (v3 + 1)
def f_X7_stationAt_L2 (σ : gs_Mem) (v1 : Int) (v2 : Int) : Nat → Int → Option (Int)
  | 0, _ => none
  | n + 1, v3 =>
    gs_chk 0 84 (
    if (gn (σ 71 0)) ≤ (gn v3) then
      some (-1)
    else
      (f_X7_x v3 σ).bind fun u1 =>
      if (gn u1) = (gn v1) then
        (f_X7_y v3 σ).bind fun u2 =>
        if (gn u2) = (gn v2) then
          some v3
        else
          f_X7_stationAt_J32 σ (f_X7_stationAt_L2 σ v1 v2 n) v1 v2 v3
      else
        f_X7_stationAt_J32 σ (f_X7_stationAt_L2 σ v1 v2 n) v1 v2 v3)
set_option maxRecDepth 100000 in
set_option maxHeartbeats 4000000 in
theorem k_X7_stationAt_L2 {E : gs_E} (σ : gs_Mem) (v1 : Int) (v2 : Int)   : ∀ (n : Nat) (v3 : Int), gs_K E (gs_MC E yX7_stationAt cX7_stationAt 4 (some .int) 0 { frames := 1, cells := 0, slots := 0, locals := 21 }) (fun v : Int => (v, σ)) (f_X7_stationAt_L2 σ v1 v2 n v3) 2 [(0, gr E 70), (1, gi v1), (2, gi v2), (3, gi v3)] [] σ := by
  intro n
  induction n with
  | zero => intro v3; rw [f_X7_stationAt_L2]; exact gk_none
  | succ n ih =>
    intro v3; rw [f_X7_stationAt_L2]
    refine gk_iload_n (pc := 2) 3 dX7_stationAt_2 rfl ?_
    refine gk_aload_n (pc := 3) 0 dX7_stationAt_3 rfl ?_
    refine gk_getR (q := 71) (pc := 4) rfl clsX7 cll_70 sh_70 0 (by decide) rfl ww_775 dX7_stationAt_4 ?_
    refine gk_iconst (pc := 7) dX7_stationAt_7 ?_
    refine gk_iald_c (pc := 8) cll_71 sh_71 (by decide +kernel) dX7_stationAt_8 ?_
    refine gk_icmp_ge (tgt := 38) (pc := 9) dX7_stationAt_9 (by decide) rfl rfl ?_ ?_
    · refine gk_iconst (pc := 38) dX7_stationAt_38 ?_
      exact gk_iret (pc := 39) rfl dX7_stationAt_39
    · refine gk_aload_n (pc := 12) 0 dX7_stationAt_12 rfl ?_
      refine gk_iload_n (pc := 13) 3 dX7_stationAt_13 rfl ?_
      refine gk_callV_ir (As := [gi v3]) (pc := 14) (c_X7_x v3 σ) rfl mm_X7_x ww_824 clsX7 rfl cll_70 sh_70 (gs_fit_of (Nat.le_of_ble_eq_true rfl) (Nat.le_of_ble_eq_true rfl)) rfl rfl (Nat.le_of_ble_eq_true rfl) dX7_stationAt_14 (fun u1 => ?_)
      refine gk_iload_n (pc := 17) 1 dX7_stationAt_17 rfl ?_
      refine gk_icmp_ne (tgt := 32) (pc := 18) dX7_stationAt_18 (by decide) rfl rfl ?_ ?_
      · exact k_X7_stationAt_J32 σ (f_X7_stationAt_L2 σ v1 v2 n) v1 v2 v3 ih
      · refine gk_aload_n (pc := 21) 0 dX7_stationAt_21 rfl ?_
        refine gk_iload_n (pc := 22) 3 dX7_stationAt_22 rfl ?_
        refine gk_callV_ir (As := [gi v3]) (pc := 23) (c_X7_y v3 σ) rfl mm_X7_y ww_828 clsX7 rfl cll_70 sh_70 (gs_fit_of (Nat.le_of_ble_eq_true rfl) (Nat.le_of_ble_eq_true rfl)) rfl rfl (Nat.le_of_ble_eq_true rfl) dX7_stationAt_23 (fun u2 => ?_)
        refine gk_iload_n (pc := 26) 2 dX7_stationAt_26 rfl ?_
        refine gk_icmp_ne (tgt := 32) (pc := 27) dX7_stationAt_27 (by decide) rfl rfl ?_ ?_
        · exact k_X7_stationAt_J32 σ (f_X7_stationAt_L2 σ v1 v2 n) v1 v2 v3 ih
        · refine gk_iload_n (pc := 30) 3 dX7_stationAt_30 rfl ?_
          exact gk_iret (pc := 31) rfl dX7_stationAt_31
def f_X7_stationAt (v1 : Int) (v2 : Int) (σ : gs_Mem) : Option (Int) :=
  f_X7_stationAt_L2 σ v1 v2 gs_fuel 0
set_option maxRecDepth 100000 in
set_option maxHeartbeats 4000000 in
theorem c_X7_stationAt {E : gs_E} (v1 : Int) (v2 : Int)  (σ : gs_Mem) : gs_C E yX7_stationAt cX7_stationAt 4 (some .int) 0 { frames := 1, cells := 0, slots := 0, locals := 21 } [gr E 70, gi v1, gi v2] σ (f_X7_stationAt v1 v2 σ) (fun v : Int => (v, σ)) := by
  unfold f_X7_stationAt
  refine gs_enter (L := [(0, gr E 70), (1, gi v1), (2, gi v2)]) (by decide) rfl rfl (Nat.le_of_ble_eq_true rfl) rfl ?_
  refine gk_iconst (pc := 0) dX7_stationAt_0 ?_
  refine gk_istore_n (L' := [(3, gi 0), (0, gr E 70), (1, gi v1), (2, gi v2)]) (pc := 1) dX7_stationAt_1 (Nat.le_of_ble_eq_true rfl) rfl ?_
  refine gk_sub (L' := [(0, gr E 70), (1, gi v1), (2, gi v2), (3, gi 0)]) [1, 2, 3, 0] rfl ?_
  exact k_X7_stationAt_L2 σ v1 v2 gs_fuel 0
def f_X7_isPlace (v0 : Int) (v1 : Int) (σ : gs_Mem) : Option (Int) :=
  (f_X7_in (gn v0) 0 31 σ).bind fun u1 =>
  if (gn u1) = 0 then
    some 0
  else
    (f_X7_in (gn v1) 0 31 σ).bind fun u2 =>
    if (gn u2) = 0 then
      some 0
    else
      some 1
set_option maxRecDepth 100000 in
set_option maxHeartbeats 4000000 in
theorem c_X7_isPlace {E : gs_E} (v0 : Int) (v1 : Int)  (σ : gs_Mem) : gs_C E yX7_isPlace cX7_isPlace 2 (some .boolean) 0 { frames := 1, cells := 0, slots := 0, locals := 25 } [gi v0, gi v1] σ (f_X7_isPlace v0 v1 σ) (fun v : Int => (v, σ)) := by
  unfold f_X7_isPlace
  refine gs_enter (L := [(0, gi v0), (1, gi v1)]) (by decide) rfl rfl (Nat.le_of_ble_eq_true rfl) rfl ?_
  refine gk_iload_n (pc := 0) 0 dX7_isPlace_0 rfl ?_
  refine gk_i2l (pc := 1) dX7_isPlace_1 ?_
  refine gk_lconst (x := 0) (pc := 2) dX7_isPlace_2 (by decide +kernel) ?_
  refine gk_ldc2 (x := 31) (pc := 3) rfl dX7_isPlace_3 ww_816 (by decide +kernel) ?_
  refine gk_callS_ir (As := [gl (gn v0), gl 0, gl 31]) (pc := 6) (c_X7_in (gn v0) 0 31 σ) rfl mm_X7_in ww_817 (gs_fit_of (Nat.le_of_ble_eq_true rfl) (Nat.le_of_ble_eq_true rfl)) rfl rfl (Nat.le_of_ble_eq_true rfl) dX7_isPlace_6 (fun u1 => ?_)
  refine gk_if_eq (tgt := 28) (pc := 9) dX7_isPlace_9 (by decide) rfl ?_ ?_
  · refine gk_iconst (pc := 28) dX7_isPlace_28 ?_
    exact gk_zret (pc := 29) (Or.inl (by decide +kernel)) rfl dX7_isPlace_29
  · refine gk_iload_n (pc := 12) 1 dX7_isPlace_12 rfl ?_
    refine gk_i2l (pc := 13) dX7_isPlace_13 ?_
    refine gk_lconst (x := 0) (pc := 14) dX7_isPlace_14 (by decide +kernel) ?_
    refine gk_ldc2 (x := 31) (pc := 15) rfl dX7_isPlace_15 ww_816 (by decide +kernel) ?_
    refine gk_callS_ir (As := [gl (gn v1), gl 0, gl 31]) (pc := 18) (c_X7_in (gn v1) 0 31 σ) rfl mm_X7_in ww_817 (gs_fit_of (Nat.le_of_ble_eq_true rfl) (Nat.le_of_ble_eq_true rfl)) rfl rfl (Nat.le_of_ble_eq_true rfl) dX7_isPlace_18 (fun u2 => ?_)
    refine gk_if_eq (tgt := 28) (pc := 21) dX7_isPlace_21 (by decide) rfl ?_ ?_
    · refine gk_iconst (pc := 28) dX7_isPlace_28 ?_
      exact gk_zret (pc := 29) (Or.inl (by decide +kernel)) rfl dX7_isPlace_29
    · refine gk_iconst (pc := 24) dX7_isPlace_24 ?_
      refine gk_goto (tgt := 29) (pc := 25) dX7_isPlace_25 (by decide) ?_
      exact gk_zret (pc := 29) (Or.inr (by decide +kernel)) rfl dX7_isPlace_29
def f_X7_station (v1 : Int) (v2 : Int) (σ : gs_Mem) : Option (Int × gs_Mem) :=
  (f_X7_isPlace v1 v2 σ).bind fun u1 =>
  if (gn u1) = 0 then
    some ((-2), σ)
  else
    (f_X7_stationAt v1 v2 σ).bind fun u2 =>
    if (gn u2) < 0 then
      gs_chk 0 84 (
      if (gn (σ 71 0)) = 8 then
        some ((-4), σ)
      else
        gs_chk (gn (4 + (4 * (σ 71 0)))) 84 (
        gs_chk (gn ((4 + (4 * (σ 71 0))) + 1)) 84 (
        gs_chk (gn ((4 + (4 * (σ 71 0))) + 2)) 84 (
        gs_chk (gn ((4 + (4 * (σ 71 0))) + 3)) 84 (
        gs_chk 0 84 (
        some ((σ 71 0), (gs_st (gs_st (gs_st (gs_st (gs_st σ 71 (gn (4 + (4 * (σ 71 0)))).toNat v1) 71 (gn ((4 + (4 * (σ 71 0))) + 1)).toNat v2) 71 (gn ((4 + (4 * (σ 71 0))) + 2)).toNat (-1)) 71 (gn ((4 + (4 * (σ 71 0))) + 3)).toNat 0) 71 0 ((σ 71 0) + 1)))))))))
    else
      some ((-3), σ)
set_option maxRecDepth 100000 in
set_option maxHeartbeats 4000000 in
theorem c_X7_station {E : gs_E} (v1 : Int) (v2 : Int)  (σ : gs_Mem) : gs_C E yX7_station cX7_station 4 (some .int) 0 { frames := 2, cells := 0, slots := 0, locals := 46 } [gr E 70, gi v1, gi v2] σ (f_X7_station v1 v2 σ) (fun b : Int × gs_Mem => b) := by
  unfold f_X7_station
  refine gs_enter (L := [(0, gr E 70), (1, gi v1), (2, gi v2)]) (by decide) rfl rfl (Nat.le_of_ble_eq_true rfl) rfl ?_
  refine gk_iload_n (pc := 0) 1 dX7_station_0 rfl ?_
  refine gk_iload_n (pc := 1) 2 dX7_station_1 rfl ?_
  refine gk_callS_ir (As := [gi v1, gi v2]) (pc := 2) (c_X7_isPlace v1 v2 σ) rfl mm_X7_isPlace ww_813 (gs_fit_of (Nat.le_of_ble_eq_true rfl) (Nat.le_of_ble_eq_true rfl)) rfl rfl (Nat.le_of_ble_eq_true rfl) dX7_station_2 (fun u1 => ?_)
  refine gk_if_ne (tgt := 11) (pc := 5) dX7_station_5 (by decide) rfl ?_ ?_
  · refine gk_aload_n (pc := 11) 0 dX7_station_11 rfl ?_
    refine gk_iload_n (pc := 12) 1 dX7_station_12 rfl ?_
    refine gk_iload_n (pc := 13) 2 dX7_station_13 rfl ?_
    refine gk_callV_ir (As := [gi v1, gi v2]) (pc := 14) (c_X7_stationAt v1 v2 σ) rfl mm_X7_stationAt ww_820 clsX7 rfl cll_70 sh_70 (gs_fit_of (Nat.le_of_ble_eq_true rfl) (Nat.le_of_ble_eq_true rfl)) rfl rfl (Nat.le_of_ble_eq_true rfl) dX7_station_14 (fun u2 => ?_)
    refine gk_if_lt (tgt := 23) (pc := 17) dX7_station_17 (by decide) rfl ?_ ?_
    · refine gk_aload_n (pc := 23) 0 dX7_station_23 rfl ?_
      refine gk_getR (q := 71) (pc := 24) rfl clsX7 cll_70 sh_70 0 (by decide) rfl ww_775 dX7_station_24 ?_
      refine gk_iconst (pc := 27) dX7_station_27 ?_
      refine gk_iald_c (pc := 28) cll_71 sh_71 (by decide +kernel) dX7_station_28 ?_
      refine gk_istore_n (L' := [(3, gi (σ 71 0)), (0, gr E 70), (1, gi v1), (2, gi v2)]) (pc := 29) dX7_station_29 (Nat.le_of_ble_eq_true rfl) rfl ?_
      refine gk_iload_n (pc := 30) 0 dX7_station_30 rfl ?_
      refine gk_bipush (pc := 31) dX7_station_31 (by decide +kernel) ?_
      refine gk_icmp_ne (tgt := 39) (pc := 33) dX7_station_33 (by decide) rfl (by decide +kernel) ?_ ?_
      · refine gk_aload_n (pc := 39) 1 dX7_station_39 rfl ?_
        refine gk_getR (q := 71) (pc := 40) rfl clsX7 cll_70 sh_70 0 (by decide) rfl ww_775 dX7_station_40 ?_
        refine gk_iconst (pc := 43) dX7_station_43 ?_
        refine gk_iconst (pc := 44) dX7_station_44 ?_
        refine gk_iload_n (pc := 45) 0 dX7_station_45 rfl ?_
        refine gk_imul (pc := 46) dX7_station_46 ?_
        refine gk_iadd (pc := 47) dX7_station_47 ?_
        refine gk_iload_n (pc := 48) 2 dX7_station_48 rfl ?_
        refine gk_iast_c (pc := 49) cll_71 sh_71 rfl dX7_station_49 ?_
        refine gk_aload_n (pc := 50) 1 dX7_station_50 rfl ?_
        refine gk_getR (q := 71) (pc := 51) rfl clsX7 cll_70 sh_70 0 (by decide) rfl ww_775 dX7_station_51 ?_
        refine gk_iconst (pc := 54) dX7_station_54 ?_
        refine gk_iconst (pc := 55) dX7_station_55 ?_
        refine gk_iload_n (pc := 56) 0 dX7_station_56 rfl ?_
        refine gk_imul (pc := 57) dX7_station_57 ?_
        refine gk_iadd (pc := 58) dX7_station_58 ?_
        refine gk_iconst (pc := 59) dX7_station_59 ?_
        refine gk_iadd (pc := 60) dX7_station_60 ?_
        refine gk_iload_n (pc := 61) 3 dX7_station_61 rfl ?_
        refine gk_iast_c (pc := 62) cll_71 sh_71 rfl dX7_station_62 ?_
        refine gk_aload_n (pc := 63) 1 dX7_station_63 rfl ?_
        refine gk_getR (q := 71) (pc := 64) rfl clsX7 cll_70 sh_70 0 (by decide) rfl ww_775 dX7_station_64 ?_
        refine gk_iconst (pc := 67) dX7_station_67 ?_
        refine gk_iconst (pc := 68) dX7_station_68 ?_
        refine gk_iload_n (pc := 69) 0 dX7_station_69 rfl ?_
        refine gk_imul (pc := 70) dX7_station_70 ?_
        refine gk_iadd (pc := 71) dX7_station_71 ?_
        refine gk_iconst (pc := 72) dX7_station_72 ?_
        refine gk_iadd (pc := 73) dX7_station_73 ?_
        refine gk_iconst (pc := 74) dX7_station_74 ?_
        refine gk_iast_c (pc := 75) cll_71 sh_71 rfl dX7_station_75 ?_
        refine gk_aload_n (pc := 76) 1 dX7_station_76 rfl ?_
        refine gk_getR (q := 71) (pc := 77) rfl clsX7 cll_70 sh_70 0 (by decide) rfl ww_775 dX7_station_77 ?_
        refine gk_iconst (pc := 80) dX7_station_80 ?_
        refine gk_iconst (pc := 81) dX7_station_81 ?_
        refine gk_iload_n (pc := 82) 0 dX7_station_82 rfl ?_
        refine gk_imul (pc := 83) dX7_station_83 ?_
        refine gk_iadd (pc := 84) dX7_station_84 ?_
        refine gk_iconst (pc := 85) dX7_station_85 ?_
        refine gk_iadd (pc := 86) dX7_station_86 ?_
        refine gk_iconst (pc := 87) dX7_station_87 ?_
        refine gk_iast_c (pc := 88) cll_71 sh_71 rfl dX7_station_88 ?_
        refine gk_aload_n (pc := 89) 1 dX7_station_89 rfl ?_
        refine gk_getR (q := 71) (pc := 90) rfl clsX7 cll_70 sh_70 0 (by decide) rfl ww_775 dX7_station_90 ?_
        refine gk_iconst (pc := 93) dX7_station_93 ?_
        refine gk_iload_n (pc := 94) 0 dX7_station_94 rfl ?_
        refine gk_iconst (pc := 95) dX7_station_95 ?_
        refine gk_iadd (pc := 96) dX7_station_96 ?_
        refine gk_iast_c (pc := 97) cll_71 sh_71 (by decide +kernel) dX7_station_97 ?_
        refine gk_iload_n (pc := 98) 0 dX7_station_98 rfl ?_
        exact gk_iret (pc := 99) rfl dX7_station_99
      · refine gk_bipush (pc := 36) dX7_station_36 (by decide +kernel) ?_
        exact gk_iret (pc := 38) rfl dX7_station_38
    · refine gk_bipush (pc := 20) dX7_station_20 (by decide +kernel) ?_
      exact gk_iret (pc := 22) rfl dX7_station_22
  · refine gk_bipush (pc := 8) dX7_station_8 (by decide +kernel) ?_
    exact gk_iret (pc := 10) rfl dX7_station_10
def f_X7_rule (v1 : Int) (v2 : Int) (v3 : Int) (σ : gs_Mem) : Option (Int × gs_Mem) :=
  (f_X7_in (gn v1) 0 2 σ).bind fun u1 =>
  if (gn u1) = 0 then
    some ((-1), σ)
  else
    (f_X7_in (gn v2) 0 40 σ).bind fun u2 =>
    if (gn u2) = 0 then
      some ((-2), σ)
    else
      (f_X7_in (gn v3) 1 4 σ).bind fun u3 =>
      if (gn u3) = 0 then
        some ((-2), σ)
      else
        gs_chk (gn (36 + (2 * v1))) 84 (
        gs_chk (gn ((36 + (2 * v1)) + 1)) 84 (
        gs_let ((100 * (σ 71 (gn (36 + (2 * v1))).toNat)) + (σ 71 (gn ((36 + (2 * v1)) + 1)).toNat)) fun x4 =>
        gs_chk (gn (36 + (2 * v1))) 84 (
        gs_chk (gn ((36 + (2 * v1)) + 1)) 84 (
        some (x4, (gs_st (gs_st σ 71 (gn (36 + (2 * v1))).toNat v2) 71 (gn ((36 + (2 * v1)) + 1)).toNat v3))))))
set_option maxRecDepth 100000 in
set_option maxHeartbeats 4000000 in
theorem c_X7_rule {E : gs_E} (v1 : Int) (v2 : Int) (v3 : Int)  (σ : gs_Mem) : gs_C E yX7_rule cX7_rule 5 (some .int) 0 { frames := 1, cells := 0, slots := 0, locals := 25 } [gr E 70, gi v1, gi v2, gi v3] σ (f_X7_rule v1 v2 v3 σ) (fun b : Int × gs_Mem => b) := by
  unfold f_X7_rule
  refine gs_enter (L := [(0, gr E 70), (1, gi v1), (2, gi v2), (3, gi v3)]) (by decide) rfl rfl (Nat.le_of_ble_eq_true rfl) rfl ?_
  refine gk_iload_n (pc := 0) 1 dX7_rule_0 rfl ?_
  refine gk_i2l (pc := 1) dX7_rule_1 ?_
  refine gk_lconst (x := 0) (pc := 2) dX7_rule_2 (by decide +kernel) ?_
  refine gk_ldc2 (x := 2) (pc := 3) rfl dX7_rule_3 ww_836 (by decide +kernel) ?_
  refine gk_callS_ir (As := [gl (gn v1), gl 0, gl 2]) (pc := 6) (c_X7_in (gn v1) 0 2 σ) rfl mm_X7_in ww_817 (gs_fit_of (Nat.le_of_ble_eq_true rfl) (Nat.le_of_ble_eq_true rfl)) rfl rfl (Nat.le_of_ble_eq_true rfl) dX7_rule_6 (fun u1 => ?_)
  refine gk_if_ne (tgt := 14) (pc := 9) dX7_rule_9 (by decide) rfl ?_ ?_
  · refine gk_iload_n (pc := 14) 2 dX7_rule_14 rfl ?_
    refine gk_i2l (pc := 15) dX7_rule_15 ?_
    refine gk_lconst (x := 0) (pc := 16) dX7_rule_16 (by decide +kernel) ?_
    refine gk_ldc2 (x := 40) (pc := 17) rfl dX7_rule_17 ww_837 (by decide +kernel) ?_
    refine gk_callS_ir (As := [gl (gn v2), gl 0, gl 40]) (pc := 20) (c_X7_in (gn v2) 0 40 σ) rfl mm_X7_in ww_817 (gs_fit_of (Nat.le_of_ble_eq_true rfl) (Nat.le_of_ble_eq_true rfl)) rfl rfl (Nat.le_of_ble_eq_true rfl) dX7_rule_20 (fun u2 => ?_)
    refine gk_if_eq (tgt := 38) (pc := 23) dX7_rule_23 (by decide) rfl ?_ ?_
    · refine gk_bipush (pc := 38) dX7_rule_38 (by decide +kernel) ?_
      exact gk_iret (pc := 40) rfl dX7_rule_40
    · refine gk_iload_n (pc := 26) 3 dX7_rule_26 rfl ?_
      refine gk_i2l (pc := 27) dX7_rule_27 ?_
      refine gk_lconst (x := 1) (pc := 28) dX7_rule_28 (by decide +kernel) ?_
      refine gk_ldc2 (x := 4) (pc := 29) rfl dX7_rule_29 ww_838 (by decide +kernel) ?_
      refine gk_callS_ir (As := [gl (gn v3), gl 1, gl 4]) (pc := 32) (c_X7_in (gn v3) 1 4 σ) rfl mm_X7_in ww_817 (gs_fit_of (Nat.le_of_ble_eq_true rfl) (Nat.le_of_ble_eq_true rfl)) rfl rfl (Nat.le_of_ble_eq_true rfl) dX7_rule_32 (fun u3 => ?_)
      refine gk_if_ne (tgt := 41) (pc := 35) dX7_rule_35 (by decide) rfl ?_ ?_
      · refine gk_bipush (pc := 41) dX7_rule_41 (by decide +kernel) ?_
        refine gk_aload_n (pc := 43) 0 dX7_rule_43 rfl ?_
        refine gk_getR (q := 71) (pc := 44) rfl clsX7 cll_70 sh_70 0 (by decide) rfl ww_775 dX7_rule_44 ?_
        refine gk_bipush (pc := 47) dX7_rule_47 (by decide +kernel) ?_
        refine gk_iconst (pc := 49) dX7_rule_49 ?_
        refine gk_iload_n (pc := 50) 1 dX7_rule_50 rfl ?_
        refine gk_imul (pc := 51) dX7_rule_51 ?_
        refine gk_iadd (pc := 52) dX7_rule_52 ?_
        refine gk_iald_c (pc := 53) cll_71 sh_71 rfl dX7_rule_53 ?_
        refine gk_imul (pc := 54) dX7_rule_54 ?_
        refine gk_aload_n (pc := 55) 0 dX7_rule_55 rfl ?_
        refine gk_getR (q := 71) (pc := 56) rfl clsX7 cll_70 sh_70 0 (by decide) rfl ww_775 dX7_rule_56 ?_
        refine gk_bipush (pc := 59) dX7_rule_59 (by decide +kernel) ?_
        refine gk_iconst (pc := 61) dX7_rule_61 ?_
        refine gk_iload_n (pc := 62) 1 dX7_rule_62 rfl ?_
        refine gk_imul (pc := 63) dX7_rule_63 ?_
        refine gk_iadd (pc := 64) dX7_rule_64 ?_
        refine gk_iconst (pc := 65) dX7_rule_65 ?_
        refine gk_iadd (pc := 66) dX7_rule_66 ?_
        refine gk_iald_c (pc := 67) cll_71 sh_71 rfl dX7_rule_67 ?_
        refine gk_iadd (pc := 68) dX7_rule_68 ?_
        refine gk_let (fun x4 => ?_)
        refine gk_istore (L' := [(4, gi x4), (0, gr E 70), (1, gi v1), (2, gi v2), (3, gi v3)]) (pc := 69) dX7_rule_69 (Nat.le_of_ble_eq_true rfl) rfl ?_
        refine gk_aload_n (pc := 71) 1 dX7_rule_71 rfl ?_
        refine gk_getR (q := 71) (pc := 72) rfl clsX7 cll_70 sh_70 0 (by decide) rfl ww_775 dX7_rule_72 ?_
        refine gk_bipush (pc := 75) dX7_rule_75 (by decide +kernel) ?_
        refine gk_iconst (pc := 77) dX7_rule_77 ?_
        refine gk_iload_n (pc := 78) 2 dX7_rule_78 rfl ?_
        refine gk_imul (pc := 79) dX7_rule_79 ?_
        refine gk_iadd (pc := 80) dX7_rule_80 ?_
        refine gk_iload_n (pc := 81) 3 dX7_rule_81 rfl ?_
        refine gk_iast_c (pc := 82) cll_71 sh_71 rfl dX7_rule_82 ?_
        refine gk_aload_n (pc := 83) 1 dX7_rule_83 rfl ?_
        refine gk_getR (q := 71) (pc := 84) rfl clsX7 cll_70 sh_70 0 (by decide) rfl ww_775 dX7_rule_84 ?_
        refine gk_bipush (pc := 87) dX7_rule_87 (by decide +kernel) ?_
        refine gk_iconst (pc := 89) dX7_rule_89 ?_
        refine gk_iload_n (pc := 90) 2 dX7_rule_90 rfl ?_
        refine gk_imul (pc := 91) dX7_rule_91 ?_
        refine gk_iadd (pc := 92) dX7_rule_92 ?_
        refine gk_iconst (pc := 93) dX7_rule_93 ?_
        refine gk_iadd (pc := 94) dX7_rule_94 ?_
        refine gk_iload_n (pc := 95) 4 dX7_rule_95 rfl ?_
        refine gk_iast_c (pc := 96) cll_71 sh_71 rfl dX7_rule_96 ?_
        refine gk_iload (pc := 97) 0 dX7_rule_97 rfl ?_
        exact gk_iret (pc := 99) rfl dX7_rule_99
      · refine gk_bipush (pc := 38) dX7_rule_38 (by decide +kernel) ?_
        exact gk_iret (pc := 40) rfl dX7_rule_40
  · refine gk_iconst (pc := 12) dX7_rule_12 ?_
    exact gk_iret (pc := 13) rfl dX7_rule_13
def f_X7_toldOf (v0 : Int) (σ : gs_Mem) : Option (Int) :=
  if 0 ≤ (gn v0) then
    some v0
  else
    some (-5)
set_option maxRecDepth 100000 in
set_option maxHeartbeats 4000000 in
theorem c_X7_toldOf {E : gs_E} (v0 : Int)  (σ : gs_Mem) : gs_C E yX7_toldOf cX7_toldOf 1 (some .int) 0 { frames := 0, cells := 0, slots := 0, locals := 0 } [gi v0] σ (f_X7_toldOf v0 σ) (fun v : Int => (v, σ)) := by
  unfold f_X7_toldOf
  refine gs_enter (L := [(0, gi v0)]) (by decide) rfl rfl (Nat.le_of_ble_eq_true rfl) rfl ?_
  refine gk_iload_n (pc := 0) 0 dX7_toldOf_0 rfl ?_
  refine gk_if_ge (tgt := 9) (pc := 1) dX7_toldOf_1 (by decide) rfl ?_ ?_
  · refine gk_iload_n (pc := 9) 0 dX7_toldOf_9 rfl ?_
    exact gk_iret (pc := 10) rfl dX7_toldOf_10
  · refine gk_bipush (pc := 4) dX7_toldOf_4 (by decide +kernel) ?_
    refine gk_goto (tgt := 10) (pc := 6) dX7_toldOf_6 (by decide) ?_
    exact gk_iret (pc := 10) rfl dX7_toldOf_10
def f_X7_channel_J42 (v1 : Int) (v2 : Int) (σ : gs_Mem) : Option (Int × gs_Mem) :=
  (f_X7_channelOf v1 σ).bind fun u4 =>
  (f_X7_has v1 v2 σ).bind fun b5 =>
  gs_chk (gn ((4 + (4 * v1)) + 3)) 84 (
  (f_X7_toldOf u4 (gs_st b5.2 71 (gn ((4 + (4 * v1)) + 3)).toNat 0)).bind fun u6 =>
  some (u6, (gs_st b5.2 71 (gn ((4 + (4 * v1)) + 3)).toNat 0)))
set_option maxRecDepth 100000 in
set_option maxHeartbeats 4000000 in
theorem k_X7_channel_J42 {E : gs_E}  (v1 : Int) (v2 : Int)   (σ : gs_Mem) : gs_K E (gs_MC E yX7_channel cX7_channel 4 (some .int) 0 { frames := 2, cells := 0, slots := 0, locals := 46 }) (fun b : Int × gs_Mem => b) (f_X7_channel_J42 v1 v2 σ) 42 [(0, gr E 70), (1, gi v1), (2, gi v2)] [] σ := by
  unfold f_X7_channel_J42
  refine gk_aload_n (pc := 42) 0 dX7_channel_42 rfl ?_
  refine gk_iload_n (pc := 43) 1 dX7_channel_43 rfl ?_
  refine gk_callV_ir (As := [gi v1]) (pc := 44) (c_X7_channelOf v1 σ) rfl mm_X7_channelOf ww_853 clsX7 rfl cll_70 sh_70 (gs_fit_of (Nat.le_of_ble_eq_true rfl) (Nat.le_of_ble_eq_true rfl)) rfl rfl (Nat.le_of_ble_eq_true rfl) dX7_channel_44 (fun u4 => ?_)
  refine gk_istore_n (L' := [(3, gi u4), (0, gr E 70), (1, gi v1), (2, gi v2)]) (pc := 47) dX7_channel_47 (Nat.le_of_ble_eq_true rfl) rfl ?_
  refine gk_aload_n (pc := 48) 1 dX7_channel_48 rfl ?_
  refine gk_iload_n (pc := 49) 2 dX7_channel_49 rfl ?_
  refine gk_iload_n (pc := 50) 3 dX7_channel_50 rfl ?_
  refine gk_callV_vw (As := [gi v1, gi v2]) (pc := 51) (c_X7_has v1 v2 σ) rfl mm_X7_has ww_857 clsX7 rfl cll_70 sh_70 (gs_fit_of (Nat.le_of_ble_eq_true rfl) (Nat.le_of_ble_eq_true rfl)) rfl rfl (Nat.le_of_ble_eq_true rfl) dX7_channel_51 (fun b5 => ?_)
  refine gk_aload_n (pc := 54) 1 dX7_channel_54 rfl ?_
  refine gk_getR (q := 71) (pc := 55) rfl clsX7 cll_70 sh_70 0 (by decide) rfl ww_775 dX7_channel_55 ?_
  refine gk_iconst (pc := 58) dX7_channel_58 ?_
  refine gk_iconst (pc := 59) dX7_channel_59 ?_
  refine gk_iload_n (pc := 60) 2 dX7_channel_60 rfl ?_
  refine gk_imul (pc := 61) dX7_channel_61 ?_
  refine gk_iadd (pc := 62) dX7_channel_62 ?_
  refine gk_iconst (pc := 63) dX7_channel_63 ?_
  refine gk_iadd (pc := 64) dX7_channel_64 ?_
  refine gk_iconst (pc := 65) dX7_channel_65 ?_
  refine gk_iast_c (pc := 66) cll_71 sh_71 rfl dX7_channel_66 ?_
  refine gk_iload_n (pc := 67) 0 dX7_channel_67 rfl ?_
  refine gk_callS_ir (As := [gi u4]) (pc := 68) (c_X7_toldOf u4 (gs_st b5.2 71 (gn ((4 + (4 * v1)) + 3)).toNat 0)) rfl mm_X7_toldOf ww_861 (gs_fit_of (Nat.le_of_ble_eq_true rfl) (Nat.le_of_ble_eq_true rfl)) rfl rfl (Nat.le_of_ble_eq_true rfl) dX7_channel_68 (fun u6 => ?_)
  exact gk_iret (pc := 71) rfl dX7_channel_71
def f_X7_channel (v1 : Int) (v2 : Int) (σ : gs_Mem) : Option (Int × gs_Mem) :=
  (f_X7_isStation v1 σ).bind fun u1 =>
  if (gn u1) = 0 then
    some ((-1), σ)
  else
    (f_X7_in (gn v2) (-1) 19 σ).bind fun u2 =>
    if (gn u2) = 0 then
      some ((-2), σ)
    else
      (f_X7_isFixed v1 σ).bind fun u3 =>
      if (gn u3) = 0 then
        f_X7_channel_J42 v1 v2 σ
      else
        if (gn v2) < 0 then
          f_X7_channel_J42 v1 v2 σ
        else
          some ((-3), σ)
set_option maxRecDepth 100000 in
set_option maxHeartbeats 4000000 in
theorem c_X7_channel {E : gs_E} (v1 : Int) (v2 : Int)  (σ : gs_Mem) : gs_C E yX7_channel cX7_channel 4 (some .int) 0 { frames := 2, cells := 0, slots := 0, locals := 46 } [gr E 70, gi v1, gi v2] σ (f_X7_channel v1 v2 σ) (fun b : Int × gs_Mem => b) := by
  unfold f_X7_channel
  refine gs_enter (L := [(0, gr E 70), (1, gi v1), (2, gi v2)]) (by decide) rfl rfl (Nat.le_of_ble_eq_true rfl) rfl ?_
  refine gk_aload_n (pc := 0) 0 dX7_channel_0 rfl ?_
  refine gk_iload_n (pc := 1) 1 dX7_channel_1 rfl ?_
  refine gk_callV_ir (As := [gi v1]) (pc := 2) (c_X7_isStation v1 σ) rfl mm_X7_isStation ww_843 clsX7 rfl cll_70 sh_70 (gs_fit_of (Nat.le_of_ble_eq_true rfl) (Nat.le_of_ble_eq_true rfl)) rfl rfl (Nat.le_of_ble_eq_true rfl) dX7_channel_2 (fun u1 => ?_)
  refine gk_if_ne (tgt := 10) (pc := 5) dX7_channel_5 (by decide) rfl ?_ ?_
  · refine gk_iload_n (pc := 10) 2 dX7_channel_10 rfl ?_
    refine gk_i2l (pc := 11) dX7_channel_11 ?_
    refine gk_ldc2 (x := -1) (pc := 12) rfl dX7_channel_12 ww_847 (by decide +kernel) ?_
    refine gk_ldc2 (x := 19) (pc := 15) rfl dX7_channel_15 ww_848 (by decide +kernel) ?_
    refine gk_callS_ir (As := [gl (gn v2), gl (-1), gl 19]) (pc := 18) (c_X7_in (gn v2) (-1) 19 σ) rfl mm_X7_in ww_817 (gs_fit_of (Nat.le_of_ble_eq_true rfl) (Nat.le_of_ble_eq_true rfl)) rfl rfl (Nat.le_of_ble_eq_true rfl) dX7_channel_18 (fun u2 => ?_)
    refine gk_if_ne (tgt := 27) (pc := 21) dX7_channel_21 (by decide) rfl ?_ ?_
    · refine gk_aload_n (pc := 27) 0 dX7_channel_27 rfl ?_
      refine gk_iload_n (pc := 28) 1 dX7_channel_28 rfl ?_
      refine gk_callV_ir (As := [gi v1]) (pc := 29) (c_X7_isFixed v1 σ) rfl mm_X7_isFixed ww_849 clsX7 rfl cll_70 sh_70 (gs_fit_of (Nat.le_of_ble_eq_true rfl) (Nat.le_of_ble_eq_true rfl)) rfl rfl (Nat.le_of_ble_eq_true rfl) dX7_channel_29 (fun u3 => ?_)
      refine gk_if_eq (tgt := 42) (pc := 32) dX7_channel_32 (by decide) rfl ?_ ?_
      · exact k_X7_channel_J42 v1 v2 σ
      · refine gk_iload_n (pc := 35) 2 dX7_channel_35 rfl ?_
        refine gk_if_lt (tgt := 42) (pc := 36) dX7_channel_36 (by decide) rfl ?_ ?_
        · exact k_X7_channel_J42 v1 v2 σ
        · refine gk_bipush (pc := 39) dX7_channel_39 (by decide +kernel) ?_
          exact gk_iret (pc := 41) rfl dX7_channel_41
    · refine gk_bipush (pc := 24) dX7_channel_24 (by decide +kernel) ?_
      exact gk_iret (pc := 26) rfl dX7_channel_26
  · refine gk_iconst (pc := 8) dX7_channel_8 ?_
    exact gk_iret (pc := 9) rfl dX7_channel_9
def f_X7_fix_J54 (v3 : Int) (t0 : Int) (t1 : Int) (σ : gs_Mem) : Option (Int × gs_Mem) :=
  gs_chk (gn t1) 84 (
  some (v3, (gs_st σ 71 (gn t1).toNat t0)))
set_option maxRecDepth 100000 in
set_option maxHeartbeats 4000000 in
theorem k_X7_fix_J54 {E : gs_E}  (v3 : Int) (t0 : Int) (t1 : Int)   (σ : gs_Mem) : gs_K E (gs_MC E yX7_fix cX7_fix 4 (some .int) 0 { frames := 2, cells := 0, slots := 0, locals := 46 }) (fun b : Int × gs_Mem => b) (f_X7_fix_J54 v3 t0 t1 σ) 54 [(3, gi v3)] [gi t0, gi t1, gr E 71] σ := by
  unfold f_X7_fix_J54
  refine gk_iast_c (pc := 54) cll_71 sh_71 rfl dX7_fix_54 ?_
  refine gk_iload_n (pc := 55) 0 dX7_fix_55 rfl ?_
  exact gk_iret (pc := 56) rfl dX7_fix_56
def f_X7_fix (v1 : Int) (v2 : Int) (σ : gs_Mem) : Option (Int × gs_Mem) :=
  (f_X7_isStation v1 σ).bind fun u1 =>
  if (gn u1) = 0 then
    some ((-1), σ)
  else
    (f_X7_channelOf v1 σ).bind fun u2 =>
    if 0 ≤ (gn u2) then
      gs_chk (gn ((4 + (4 * v1)) + 3)) 84 (
      if (gn v2) = 0 then
        f_X7_fix_J54 (σ 71 (gn ((4 + (4 * v1)) + 3)).toNat) 0 ((4 + (4 * v1)) + 3) σ
      else
        f_X7_fix_J54 (σ 71 (gn ((4 + (4 * v1)) + 3)).toNat) 1 ((4 + (4 * v1)) + 3) σ)
    else
      some ((-3), σ)
set_option maxRecDepth 100000 in
set_option maxHeartbeats 4000000 in
theorem c_X7_fix {E : gs_E} (v1 : Int) (v2 : Int)  (σ : gs_Mem) : gs_C E yX7_fix cX7_fix 4 (some .int) 0 { frames := 2, cells := 0, slots := 0, locals := 46 } [gr E 70, gi v1, gi v2] σ (f_X7_fix v1 v2 σ) (fun b : Int × gs_Mem => b) := by
  unfold f_X7_fix
  refine gs_enter (L := [(0, gr E 70), (1, gi v1), (2, gi v2)]) (by decide) rfl rfl (Nat.le_of_ble_eq_true rfl) rfl ?_
  refine gk_aload_n (pc := 0) 0 dX7_fix_0 rfl ?_
  refine gk_iload_n (pc := 1) 1 dX7_fix_1 rfl ?_
  refine gk_callV_ir (As := [gi v1]) (pc := 2) (c_X7_isStation v1 σ) rfl mm_X7_isStation ww_843 clsX7 rfl cll_70 sh_70 (gs_fit_of (Nat.le_of_ble_eq_true rfl) (Nat.le_of_ble_eq_true rfl)) rfl rfl (Nat.le_of_ble_eq_true rfl) dX7_fix_2 (fun u1 => ?_)
  refine gk_if_ne (tgt := 10) (pc := 5) dX7_fix_5 (by decide) rfl ?_ ?_
  · refine gk_aload_n (pc := 10) 0 dX7_fix_10 rfl ?_
    refine gk_iload_n (pc := 11) 1 dX7_fix_11 rfl ?_
    refine gk_callV_ir (As := [gi v1]) (pc := 12) (c_X7_channelOf v1 σ) rfl mm_X7_channelOf ww_853 clsX7 rfl cll_70 sh_70 (gs_fit_of (Nat.le_of_ble_eq_true rfl) (Nat.le_of_ble_eq_true rfl)) rfl rfl (Nat.le_of_ble_eq_true rfl) dX7_fix_12 (fun u2 => ?_)
    refine gk_if_ge (tgt := 21) (pc := 15) dX7_fix_15 (by decide) rfl ?_ ?_
    · refine gk_aload_n (pc := 21) 0 dX7_fix_21 rfl ?_
      refine gk_getR (q := 71) (pc := 22) rfl clsX7 cll_70 sh_70 0 (by decide) rfl ww_775 dX7_fix_22 ?_
      refine gk_iconst (pc := 25) dX7_fix_25 ?_
      refine gk_iconst (pc := 26) dX7_fix_26 ?_
      refine gk_iload_n (pc := 27) 1 dX7_fix_27 rfl ?_
      refine gk_imul (pc := 28) dX7_fix_28 ?_
      refine gk_iadd (pc := 29) dX7_fix_29 ?_
      refine gk_iconst (pc := 30) dX7_fix_30 ?_
      refine gk_iadd (pc := 31) dX7_fix_31 ?_
      refine gk_iald_c (pc := 32) cll_71 sh_71 rfl dX7_fix_32 ?_
      refine gk_istore_n (L' := [(3, gi (σ 71 (gn ((4 + (4 * v1)) + 3)).toNat)), (0, gr E 70), (1, gi v1), (2, gi v2)]) (pc := 33) dX7_fix_33 (Nat.le_of_ble_eq_true rfl) rfl ?_
      refine gk_aload_n (pc := 34) 1 dX7_fix_34 rfl ?_
      refine gk_getR (q := 71) (pc := 35) rfl clsX7 cll_70 sh_70 0 (by decide) rfl ww_775 dX7_fix_35 ?_
      refine gk_iconst (pc := 38) dX7_fix_38 ?_
      refine gk_iconst (pc := 39) dX7_fix_39 ?_
      refine gk_iload_n (pc := 40) 2 dX7_fix_40 rfl ?_
      refine gk_imul (pc := 41) dX7_fix_41 ?_
      refine gk_iadd (pc := 42) dX7_fix_42 ?_
      refine gk_iconst (pc := 43) dX7_fix_43 ?_
      refine gk_iadd (pc := 44) dX7_fix_44 ?_
      refine gk_iload_n (pc := 45) 3 dX7_fix_45 rfl ?_
      refine gk_if_eq (tgt := 53) (pc := 46) dX7_fix_46 (by decide) rfl ?_ ?_
      · refine gk_iconst (pc := 53) dX7_fix_53 ?_
        refine gk_sub (L' := [(3, gi (σ 71 (gn ((4 + (4 * v1)) + 3)).toNat))]) [0] rfl ?_
        exact k_X7_fix_J54 (σ 71 (gn ((4 + (4 * v1)) + 3)).toNat) 0 ((4 + (4 * v1)) + 3) σ
      · refine gk_iconst (pc := 49) dX7_fix_49 ?_
        refine gk_goto (tgt := 54) (pc := 50) dX7_fix_50 (by decide) ?_
        refine gk_sub (L' := [(3, gi (σ 71 (gn ((4 + (4 * v1)) + 3)).toNat))]) [0] rfl ?_
        exact k_X7_fix_J54 (σ 71 (gn ((4 + (4 * v1)) + 3)).toNat) 1 ((4 + (4 * v1)) + 3) σ
    · refine gk_bipush (pc := 18) dX7_fix_18 (by decide +kernel) ?_
      exact gk_iret (pc := 20) rfl dX7_fix_20
  · refine gk_iconst (pc := 8) dX7_fix_8 ?_
    exact gk_iret (pc := 9) rfl dX7_fix_9
def f_X7_square (v0 : Int) (σ : gs_Mem) : Option (Int) :=
  some (v0 * v0)
set_option maxRecDepth 100000 in
set_option maxHeartbeats 4000000 in
theorem c_X7_square {E : gs_E} (v0 : Int)  (σ : gs_Mem) : gs_C E yX7_square cX7_square 1 (some .int) 0 { frames := 0, cells := 0, slots := 0, locals := 0 } [gi v0] σ (f_X7_square v0 σ) (fun v : Int => (v, σ)) := by
  unfold f_X7_square
  refine gs_enter (L := [(0, gi v0)]) (by decide) rfl rfl (Nat.le_of_ble_eq_true rfl) rfl ?_
  refine gk_iload_n (pc := 0) 0 dX7_square_0 rfl ?_
  refine gk_iload_n (pc := 1) 0 dX7_square_1 rfl ?_
  refine gk_imul (pc := 2) dX7_square_2 ?_
  exact gk_iret (pc := 3) rfl dX7_square_3
def f_X7_move_J43 (v1 : Int) (v2 : Int) (v3 : Int) (σ : gs_Mem) : Option (Int × gs_Mem) :=
  (f_X7_x v1 σ).bind fun u4 =>
  (f_X7_square (v2 - u4) σ).bind fun u5 =>
  (f_X7_y v1 σ).bind fun u6 =>
  (f_X7_square (v3 - u6) σ).bind fun u7 =>
  gs_chk (gn (4 + (4 * v1))) 84 (
  gs_chk (gn ((4 + (4 * v1)) + 1)) 84 (
  some ((u5 + u7), (gs_st (gs_st σ 71 (gn (4 + (4 * v1))).toNat v2) 71 (gn ((4 + (4 * v1)) + 1)).toNat v3))))
set_option maxRecDepth 100000 in
set_option maxHeartbeats 4000000 in
theorem k_X7_move_J43 {E : gs_E}  (v1 : Int) (v2 : Int) (v3 : Int)   (σ : gs_Mem) : gs_K E (gs_MC E yX7_move cX7_move 6 (some .int) 0 { frames := 2, cells := 0, slots := 0, locals := 46 }) (fun b : Int × gs_Mem => b) (f_X7_move_J43 v1 v2 v3 σ) 43 [(0, gr E 70), (1, gi v1), (2, gi v2), (3, gi v3)] [] σ := by
  unfold f_X7_move_J43
  refine gk_iload_n (pc := 43) 2 dX7_move_43 rfl ?_
  refine gk_aload_n (pc := 44) 0 dX7_move_44 rfl ?_
  refine gk_iload_n (pc := 45) 1 dX7_move_45 rfl ?_
  refine gk_callV_ir (As := [gi v1]) (pc := 46) (c_X7_x v1 σ) rfl mm_X7_x ww_824 clsX7 rfl cll_70 sh_70 (gs_fit_of (Nat.le_of_ble_eq_true rfl) (Nat.le_of_ble_eq_true rfl)) rfl rfl (Nat.le_of_ble_eq_true rfl) dX7_move_46 (fun u4 => ?_)
  refine gk_isub (pc := 49) dX7_move_49 ?_
  refine gk_callS_ir (As := [gi (v2 - u4)]) (pc := 50) (c_X7_square (v2 - u4) σ) rfl mm_X7_square ww_872 (gs_fit_of (Nat.le_of_ble_eq_true rfl) (Nat.le_of_ble_eq_true rfl)) rfl rfl (Nat.le_of_ble_eq_true rfl) dX7_move_50 (fun u5 => ?_)
  refine gk_iload_n (pc := 53) 3 dX7_move_53 rfl ?_
  refine gk_aload_n (pc := 54) 0 dX7_move_54 rfl ?_
  refine gk_iload_n (pc := 55) 1 dX7_move_55 rfl ?_
  refine gk_callV_ir (As := [gi v1]) (pc := 56) (c_X7_y v1 σ) rfl mm_X7_y ww_828 clsX7 rfl cll_70 sh_70 (gs_fit_of (Nat.le_of_ble_eq_true rfl) (Nat.le_of_ble_eq_true rfl)) rfl rfl (Nat.le_of_ble_eq_true rfl) dX7_move_56 (fun u6 => ?_)
  refine gk_isub (pc := 59) dX7_move_59 ?_
  refine gk_callS_ir (As := [gi (v3 - u6)]) (pc := 60) (c_X7_square (v3 - u6) σ) rfl mm_X7_square ww_872 (gs_fit_of (Nat.le_of_ble_eq_true rfl) (Nat.le_of_ble_eq_true rfl)) rfl rfl (Nat.le_of_ble_eq_true rfl) dX7_move_60 (fun u7 => ?_)
  refine gk_iadd (pc := 63) dX7_move_63 ?_
  refine gk_istore (L' := [(5, gi (u5 + u7)), (0, gr E 70), (1, gi v1), (2, gi v2), (3, gi v3)]) (pc := 64) dX7_move_64 (Nat.le_of_ble_eq_true rfl) rfl ?_
  refine gk_aload_n (pc := 66) 1 dX7_move_66 rfl ?_
  refine gk_getR (q := 71) (pc := 67) rfl clsX7 cll_70 sh_70 0 (by decide) rfl ww_775 dX7_move_67 ?_
  refine gk_iconst (pc := 70) dX7_move_70 ?_
  refine gk_iconst (pc := 71) dX7_move_71 ?_
  refine gk_iload_n (pc := 72) 2 dX7_move_72 rfl ?_
  refine gk_imul (pc := 73) dX7_move_73 ?_
  refine gk_iadd (pc := 74) dX7_move_74 ?_
  refine gk_iload_n (pc := 75) 3 dX7_move_75 rfl ?_
  refine gk_iast_c (pc := 76) cll_71 sh_71 rfl dX7_move_76 ?_
  refine gk_aload_n (pc := 77) 1 dX7_move_77 rfl ?_
  refine gk_getR (q := 71) (pc := 78) rfl clsX7 cll_70 sh_70 0 (by decide) rfl ww_775 dX7_move_78 ?_
  refine gk_iconst (pc := 81) dX7_move_81 ?_
  refine gk_iconst (pc := 82) dX7_move_82 ?_
  refine gk_iload_n (pc := 83) 2 dX7_move_83 rfl ?_
  refine gk_imul (pc := 84) dX7_move_84 ?_
  refine gk_iadd (pc := 85) dX7_move_85 ?_
  refine gk_iconst (pc := 86) dX7_move_86 ?_
  refine gk_iadd (pc := 87) dX7_move_87 ?_
  refine gk_iload_n (pc := 88) 4 dX7_move_88 rfl ?_
  refine gk_iast_c (pc := 89) cll_71 sh_71 rfl dX7_move_89 ?_
  refine gk_iload (pc := 90) 0 dX7_move_90 rfl ?_
  exact gk_iret (pc := 92) rfl dX7_move_92
def f_X7_move (v1 : Int) (v2 : Int) (v3 : Int) (σ : gs_Mem) : Option (Int × gs_Mem) :=
  (f_X7_isStation v1 σ).bind fun u1 =>
  if (gn u1) = 0 then
    some ((-1), σ)
  else
    (f_X7_isPlace v2 v3 σ).bind fun u2 =>
    if (gn u2) = 0 then
      some ((-2), σ)
    else
      (f_X7_stationAt v2 v3 σ).bind fun u3 =>
      if (gn u3) < 0 then
        f_X7_move_J43 v1 v2 v3 σ
      else
        if (gn u3) = (gn v1) then
          f_X7_move_J43 v1 v2 v3 σ
        else
          some ((-3), σ)
set_option maxRecDepth 100000 in
set_option maxHeartbeats 4000000 in
theorem c_X7_move {E : gs_E} (v1 : Int) (v2 : Int) (v3 : Int)  (σ : gs_Mem) : gs_C E yX7_move cX7_move 6 (some .int) 0 { frames := 2, cells := 0, slots := 0, locals := 46 } [gr E 70, gi v1, gi v2, gi v3] σ (f_X7_move v1 v2 v3 σ) (fun b : Int × gs_Mem => b) := by
  unfold f_X7_move
  refine gs_enter (L := [(0, gr E 70), (1, gi v1), (2, gi v2), (3, gi v3)]) (by decide) rfl rfl (Nat.le_of_ble_eq_true rfl) rfl ?_
  refine gk_aload_n (pc := 0) 0 dX7_move_0 rfl ?_
  refine gk_iload_n (pc := 1) 1 dX7_move_1 rfl ?_
  refine gk_callV_ir (As := [gi v1]) (pc := 2) (c_X7_isStation v1 σ) rfl mm_X7_isStation ww_843 clsX7 rfl cll_70 sh_70 (gs_fit_of (Nat.le_of_ble_eq_true rfl) (Nat.le_of_ble_eq_true rfl)) rfl rfl (Nat.le_of_ble_eq_true rfl) dX7_move_2 (fun u1 => ?_)
  refine gk_if_ne (tgt := 10) (pc := 5) dX7_move_5 (by decide) rfl ?_ ?_
  · refine gk_iload_n (pc := 10) 2 dX7_move_10 rfl ?_
    refine gk_iload_n (pc := 11) 3 dX7_move_11 rfl ?_
    refine gk_callS_ir (As := [gi v2, gi v3]) (pc := 12) (c_X7_isPlace v2 v3 σ) rfl mm_X7_isPlace ww_813 (gs_fit_of (Nat.le_of_ble_eq_true rfl) (Nat.le_of_ble_eq_true rfl)) rfl rfl (Nat.le_of_ble_eq_true rfl) dX7_move_12 (fun u2 => ?_)
    refine gk_if_ne (tgt := 21) (pc := 15) dX7_move_15 (by decide) rfl ?_ ?_
    · refine gk_aload_n (pc := 21) 0 dX7_move_21 rfl ?_
      refine gk_iload_n (pc := 22) 2 dX7_move_22 rfl ?_
      refine gk_iload_n (pc := 23) 3 dX7_move_23 rfl ?_
      refine gk_callV_ir (As := [gi v2, gi v3]) (pc := 24) (c_X7_stationAt v2 v3 σ) rfl mm_X7_stationAt ww_820 clsX7 rfl cll_70 sh_70 (gs_fit_of (Nat.le_of_ble_eq_true rfl) (Nat.le_of_ble_eq_true rfl)) rfl rfl (Nat.le_of_ble_eq_true rfl) dX7_move_24 (fun u3 => ?_)
      refine gk_istore (L' := [(4, gi u3), (0, gr E 70), (1, gi v1), (2, gi v2), (3, gi v3)]) (pc := 27) dX7_move_27 (Nat.le_of_ble_eq_true rfl) rfl ?_
      refine gk_iload (pc := 29) 0 dX7_move_29 rfl ?_
      refine gk_if_lt (tgt := 43) (pc := 31) dX7_move_31 (by decide) rfl ?_ ?_
      · refine gk_sub (L' := [(0, gr E 70), (1, gi v1), (2, gi v2), (3, gi v3)]) [1, 2, 3, 4] rfl ?_
        exact k_X7_move_J43 v1 v2 v3 σ
      · refine gk_iload (pc := 34) 0 dX7_move_34 rfl ?_
        refine gk_iload_n (pc := 36) 2 dX7_move_36 rfl ?_
        refine gk_icmp_eq (tgt := 43) (pc := 37) dX7_move_37 (by decide) rfl rfl ?_ ?_
        · refine gk_sub (L' := [(0, gr E 70), (1, gi v1), (2, gi v2), (3, gi v3)]) [1, 2, 3, 4] rfl ?_
          exact k_X7_move_J43 v1 v2 v3 σ
        · refine gk_bipush (pc := 40) dX7_move_40 (by decide +kernel) ?_
          exact gk_iret (pc := 42) rfl dX7_move_42
    · refine gk_bipush (pc := 18) dX7_move_18 (by decide +kernel) ?_
      exact gk_iret (pc := 20) rfl dX7_move_20
  · refine gk_iconst (pc := 8) dX7_move_8 ?_
    exact gk_iret (pc := 9) rfl dX7_move_9
def f_X7_feed (v1 : Int) (σ : gs_Mem) : Option (Int × gs_Mem) :=
  (f_X7_in (gn v1) 0 127 σ).bind fun u1 =>
  if (gn u1) = 0 then
    some ((-2), σ)
  else
    if (gn (σ 70 5)) = 100 then
      some ((-4), σ)
    else
      gs_chk (gn (σ 70 5)) 100 (
      some (((gs_st (gs_st σ 74 (gn (σ 70 5)).toNat v1) 70 5 (((gs_st σ 74 (gn (σ 70 5)).toNat v1) 70 5) + 1)) 70 5), (gs_st (gs_st σ 74 (gn (σ 70 5)).toNat v1) 70 5 (((gs_st σ 74 (gn (σ 70 5)).toNat v1) 70 5) + 1))))
set_option maxRecDepth 100000 in
set_option maxHeartbeats 4000000 in
theorem c_X7_feed {E : gs_E} (v1 : Int)  (σ : gs_Mem) : gs_C E yX7_feed cX7_feed 2 (some .int) 0 { frames := 1, cells := 0, slots := 0, locals := 25 } [gr E 70, gi v1] σ (f_X7_feed v1 σ) (fun b : Int × gs_Mem => b) := by
  unfold f_X7_feed
  refine gs_enter (L := [(0, gr E 70), (1, gi v1)]) (by decide) rfl rfl (Nat.le_of_ble_eq_true rfl) rfl ?_
  refine gk_iload_n (pc := 0) 1 dX7_feed_0 rfl ?_
  refine gk_i2l (pc := 1) dX7_feed_1 ?_
  refine gk_lconst (x := 0) (pc := 2) dX7_feed_2 (by decide +kernel) ?_
  refine gk_ldc2 (x := 127) (pc := 3) rfl dX7_feed_3 ww_879 (by decide +kernel) ?_
  refine gk_callS_ir (As := [gl (gn v1), gl 0, gl 127]) (pc := 6) (c_X7_in (gn v1) 0 127 σ) rfl mm_X7_in ww_817 (gs_fit_of (Nat.le_of_ble_eq_true rfl) (Nat.le_of_ble_eq_true rfl)) rfl rfl (Nat.le_of_ble_eq_true rfl) dX7_feed_6 (fun u1 => ?_)
  refine gk_if_ne (tgt := 15) (pc := 9) dX7_feed_9 (by decide) rfl ?_ ?_
  · refine gk_aload_n (pc := 15) 0 dX7_feed_15 rfl ?_
    refine gk_getI (pc := 16) rfl clsX7 cll_70 sh_70 5 (by decide) rfl ww_780 dX7_feed_16 ?_
    refine gk_bipush (pc := 19) dX7_feed_19 (by decide +kernel) ?_
    refine gk_icmp_ne (tgt := 27) (pc := 21) dX7_feed_21 (by decide) rfl (by decide +kernel) ?_ ?_
    · refine gk_aload_n (pc := 27) 0 dX7_feed_27 rfl ?_
      refine gk_getR (q := 74) (pc := 28) rfl clsX7 cll_70 sh_70 4 (by decide) rfl ww_779 dX7_feed_28 ?_
      refine gk_aload_n (pc := 31) 0 dX7_feed_31 rfl ?_
      refine gk_getI (pc := 32) rfl clsX7 cll_70 sh_70 5 (by decide) rfl ww_780 dX7_feed_32 ?_
      refine gk_iload_n (pc := 35) 1 dX7_feed_35 rfl ?_
      refine gk_iast_c (pc := 36) cll_74 sh_74 rfl dX7_feed_36 ?_
      refine gk_aload_n (pc := 37) 0 dX7_feed_37 rfl ?_
      refine gk_dup (pc := 38) dX7_feed_38 rfl ?_
      refine gk_getI (pc := 39) rfl clsX7 cll_70 sh_70 5 (by decide) rfl ww_780 dX7_feed_39 ?_
      refine gk_iconst (pc := 42) dX7_feed_42 ?_
      refine gk_iadd (pc := 43) dX7_feed_43 ?_
      refine gk_putF (pc := 44) rfl clsX7 cll_70 sh_70 5 (by decide) rfl rfl rfl rfl ww_780 dX7_feed_44 ?_
      refine gk_aload_n (pc := 47) 0 dX7_feed_47 rfl ?_
      refine gk_getI (pc := 48) rfl clsX7 cll_70 sh_70 5 (by decide) rfl ww_780 dX7_feed_48 ?_
      exact gk_iret (pc := 51) rfl dX7_feed_51
    · refine gk_bipush (pc := 24) dX7_feed_24 (by decide +kernel) ?_
      exact gk_iret (pc := 26) rfl dX7_feed_26
  · refine gk_bipush (pc := 12) dX7_feed_12 (by decide +kernel) ?_
    exact gk_iret (pc := 14) rfl dX7_feed_14
def f_X7_byteAt (v1 : Int) (σ : gs_Mem) : Option (Int) :=
  if (gn (σ 70 5)) ≤ (gn v1) then
    some (-1)
  else
    gs_chk (gn v1) 100 (
    some (σ 74 (gn v1).toNat))
set_option maxRecDepth 100000 in
set_option maxHeartbeats 4000000 in
theorem c_X7_byteAt {E : gs_E} (v1 : Int)  (σ : gs_Mem) : gs_C E yX7_byteAt cX7_byteAt 2 (some .int) 0 { frames := 0, cells := 0, slots := 0, locals := 0 } [gr E 70, gi v1] σ (f_X7_byteAt v1 σ) (fun v : Int => (v, σ)) := by
  unfold f_X7_byteAt
  refine gs_enter (L := [(0, gr E 70), (1, gi v1)]) (by decide) rfl rfl (Nat.le_of_ble_eq_true rfl) rfl ?_
  refine gk_iload_n (pc := 0) 1 dX7_byteAt_0 rfl ?_
  refine gk_aload_n (pc := 1) 0 dX7_byteAt_1 rfl ?_
  refine gk_getI (pc := 2) rfl clsX7 cll_70 sh_70 5 (by decide) rfl ww_780 dX7_byteAt_2 ?_
  refine gk_icmp_ge (tgt := 17) (pc := 5) dX7_byteAt_5 (by decide) rfl rfl ?_ ?_
  · refine gk_iconst (pc := 17) dX7_byteAt_17 ?_
    exact gk_iret (pc := 18) rfl dX7_byteAt_18
  · refine gk_aload_n (pc := 8) 0 dX7_byteAt_8 rfl ?_
    refine gk_getR (q := 74) (pc := 9) rfl clsX7 cll_70 sh_70 4 (by decide) rfl ww_779 dX7_byteAt_9 ?_
    refine gk_iload_n (pc := 12) 1 dX7_byteAt_12 rfl ?_
    refine gk_iald_c (pc := 13) cll_74 sh_74 rfl dX7_byteAt_13 ?_
    refine gk_goto (tgt := 18) (pc := 14) dX7_byteAt_14 (by decide) ?_
    exact gk_iret (pc := 18) rfl dX7_byteAt_18
def f_X7_isNumber_J97 (v1 : Int) (v4 : Int) (σ : gs_Mem) : Option (Int × gs_Mem) :=
  gs_chk (gn v1) 32 (
  some (1, (gs_st σ 75 (gn v1).toNat v4)))
set_option maxRecDepth 100000 in
set_option maxHeartbeats 4000000 in
theorem k_X7_isNumber_J97 {E : gs_E}  (v1 : Int) (v4 : Int)   (σ : gs_Mem) : gs_K E (gs_MC E yX7_isNumber cX7_isNumber 6 (some .boolean) 0 { frames := 1, cells := 0, slots := 0, locals := 25 }) (fun b : Int × gs_Mem => b) (f_X7_isNumber_J97 v1 v4 σ) 97 [(0, gr E 70), (1, gi v1), (4, gi v4)] [] σ := by
  unfold f_X7_isNumber_J97
  refine gk_aload_n (pc := 97) 0 dX7_isNumber_97 rfl ?_
  refine gk_getR (q := 75) (pc := 98) rfl clsX7 cll_70 sh_70 7 (by decide) rfl ww_782 dX7_isNumber_98 ?_
  refine gk_iload_n (pc := 101) 1 dX7_isNumber_101 rfl ?_
  refine gk_iload (pc := 102) 2 dX7_isNumber_102 rfl ?_
  refine gk_iast_c (pc := 104) cll_75 sh_75 rfl dX7_isNumber_104 ?_
  refine gk_iconst (pc := 105) dX7_isNumber_105 ?_
  exact gk_zret (pc := 106) (Or.inr (by decide +kernel)) rfl dX7_isNumber_106
def f_X7_isNumber (v1 : Int) (v2 : Int) (σ : gs_Mem) : Option (Int × gs_Mem) :=
  (f_X7_byteAt (σ 70 6) σ).bind fun u1 =>
  (f_X7_in (gn u1) 48 57 σ).bind fun u2 =>
  if (gn u2) = 0 then
    some (0, σ)
  else
    (f_X7_byteAt ((gs_st σ 70 6 ((σ 70 6) + 1)) 70 6) (gs_st σ 70 6 ((σ 70 6) + 1))).bind fun u3 =>
    (f_X7_in (gn u3) 48 57 (gs_st σ 70 6 ((σ 70 6) + 1))).bind fun u4 =>
    if (gn u4) = 0 then
      f_X7_isNumber_J97 v1 (u1 - 48) (gs_st σ 70 6 ((σ 70 6) + 1))
    else
      if (gn (((10 * (u1 - 48)) + u3) - 48)) ≤ (gn v2) then
        f_X7_isNumber_J97 v1 (((10 * (u1 - 48)) + u3) - 48) (gs_st (gs_st σ 70 6 ((σ 70 6) + 1)) 70 6 (((gs_st σ 70 6 ((σ 70 6) + 1)) 70 6) + 1))
      else
        some (0, (gs_st σ 70 6 ((σ 70 6) + 1)))
set_option maxRecDepth 100000 in
set_option maxHeartbeats 4000000 in
theorem c_X7_isNumber {E : gs_E} (v1 : Int) (v2 : Int)  (σ : gs_Mem) : gs_C E yX7_isNumber cX7_isNumber 6 (some .boolean) 0 { frames := 1, cells := 0, slots := 0, locals := 25 } [gr E 70, gi v1, gi v2] σ (f_X7_isNumber v1 v2 σ) (fun b : Int × gs_Mem => b) := by
  unfold f_X7_isNumber
  refine gs_enter (L := [(0, gr E 70), (1, gi v1), (2, gi v2)]) (by decide) rfl rfl (Nat.le_of_ble_eq_true rfl) rfl ?_
  refine gk_aload_n (pc := 0) 0 dX7_isNumber_0 rfl ?_
  refine gk_aload_n (pc := 1) 0 dX7_isNumber_1 rfl ?_
  refine gk_getI (pc := 2) rfl clsX7 cll_70 sh_70 6 (by decide) rfl ww_781 dX7_isNumber_2 ?_
  refine gk_callV_ir (As := [gi (σ 70 6)]) (pc := 5) (c_X7_byteAt (σ 70 6) σ) rfl mm_X7_byteAt ww_892 clsX7 rfl cll_70 sh_70 (gs_fit_of (Nat.le_of_ble_eq_true rfl) (Nat.le_of_ble_eq_true rfl)) rfl rfl (Nat.le_of_ble_eq_true rfl) dX7_isNumber_5 (fun u1 => ?_)
  refine gk_istore_n (L' := [(3, gi u1), (0, gr E 70), (1, gi v1), (2, gi v2)]) (pc := 8) dX7_isNumber_8 (Nat.le_of_ble_eq_true rfl) rfl ?_
  refine gk_iload_n (pc := 9) 0 dX7_isNumber_9 rfl ?_
  refine gk_i2l (pc := 10) dX7_isNumber_10 ?_
  refine gk_ldc2 (x := 48) (pc := 11) rfl dX7_isNumber_11 ww_896 (by decide +kernel) ?_
  refine gk_ldc2 (x := 57) (pc := 14) rfl dX7_isNumber_14 ww_897 (by decide +kernel) ?_
  refine gk_callS_ir (As := [gl (gn u1), gl 48, gl 57]) (pc := 17) (c_X7_in (gn u1) 48 57 σ) rfl mm_X7_in ww_817 (gs_fit_of (Nat.le_of_ble_eq_true rfl) (Nat.le_of_ble_eq_true rfl)) rfl rfl (Nat.le_of_ble_eq_true rfl) dX7_isNumber_17 (fun u2 => ?_)
  refine gk_if_ne (tgt := 25) (pc := 20) dX7_isNumber_20 (by decide) rfl ?_ ?_
  · refine gk_aload_n (pc := 25) 1 dX7_isNumber_25 rfl ?_
    refine gk_dup (pc := 26) dX7_isNumber_26 rfl ?_
    refine gk_getI (pc := 27) rfl clsX7 cll_70 sh_70 6 (by decide) rfl ww_781 dX7_isNumber_27 ?_
    refine gk_iconst (pc := 30) dX7_isNumber_30 ?_
    refine gk_iadd (pc := 31) dX7_isNumber_31 ?_
    refine gk_putF (pc := 32) rfl clsX7 cll_70 sh_70 6 (by decide) rfl rfl rfl rfl ww_781 dX7_isNumber_32 ?_
    refine gk_iload_n (pc := 35) 0 dX7_isNumber_35 rfl ?_
    refine gk_bipush (pc := 36) dX7_isNumber_36 (by decide +kernel) ?_
    refine gk_isub (pc := 38) dX7_isNumber_38 ?_
    refine gk_istore (L' := [(4, gi (u1 - 48)), (3, gi u1), (0, gr E 70), (1, gi v1), (2, gi v2)]) (pc := 39) dX7_isNumber_39 (Nat.le_of_ble_eq_true rfl) rfl ?_
    refine gk_aload_n (pc := 41) 2 dX7_isNumber_41 rfl ?_
    refine gk_aload_n (pc := 42) 2 dX7_isNumber_42 rfl ?_
    refine gk_getI (pc := 43) rfl clsX7 cll_70 sh_70 6 (by decide) rfl ww_781 dX7_isNumber_43 ?_
    refine gk_callV_ir (As := [gi ((gs_st σ 70 6 ((σ 70 6) + 1)) 70 6)]) (pc := 46) (c_X7_byteAt ((gs_st σ 70 6 ((σ 70 6) + 1)) 70 6) (gs_st σ 70 6 ((σ 70 6) + 1))) rfl mm_X7_byteAt ww_892 clsX7 rfl cll_70 sh_70 (gs_fit_of (Nat.le_of_ble_eq_true rfl) (Nat.le_of_ble_eq_true rfl)) rfl rfl (Nat.le_of_ble_eq_true rfl) dX7_isNumber_46 (fun u3 => ?_)
    refine gk_istore (L' := [(5, gi u3), (4, gi (u1 - 48)), (3, gi u1), (0, gr E 70), (1, gi v1), (2, gi v2)]) (pc := 49) dX7_isNumber_49 (Nat.le_of_ble_eq_true rfl) rfl ?_
    refine gk_iload (pc := 51) 0 dX7_isNumber_51 rfl ?_
    refine gk_i2l (pc := 53) dX7_isNumber_53 ?_
    refine gk_ldc2 (x := 48) (pc := 54) rfl dX7_isNumber_54 ww_896 (by decide +kernel) ?_
    refine gk_ldc2 (x := 57) (pc := 57) rfl dX7_isNumber_57 ww_897 (by decide +kernel) ?_
    refine gk_callS_ir (As := [gl (gn u3), gl 48, gl 57]) (pc := 60) (c_X7_in (gn u3) 48 57 (gs_st σ 70 6 ((σ 70 6) + 1))) rfl mm_X7_in ww_817 (gs_fit_of (Nat.le_of_ble_eq_true rfl) (Nat.le_of_ble_eq_true rfl)) rfl rfl (Nat.le_of_ble_eq_true rfl) dX7_isNumber_60 (fun u4 => ?_)
    refine gk_if_eq (tgt := 97) (pc := 63) dX7_isNumber_63 (by decide) rfl ?_ ?_
    · refine gk_sub (L' := [(0, gr E 70), (1, gi v1), (4, gi (u1 - 48))]) [3, 4, 1] rfl ?_
      exact k_X7_isNumber_J97 v1 (u1 - 48) (gs_st σ 70 6 ((σ 70 6) + 1))
    · refine gk_bipush (pc := 66) dX7_isNumber_66 (by decide +kernel) ?_
      refine gk_iload (pc := 68) 1 dX7_isNumber_68 rfl ?_
      refine gk_imul (pc := 70) dX7_isNumber_70 ?_
      refine gk_iload (pc := 71) 0 dX7_isNumber_71 rfl ?_
      refine gk_iadd (pc := 73) dX7_isNumber_73 ?_
      refine gk_bipush (pc := 74) dX7_isNumber_74 (by decide +kernel) ?_
      refine gk_isub (pc := 76) dX7_isNumber_76 ?_
      refine gk_istore (L' := [(4, gi (((10 * (u1 - 48)) + u3) - 48)), (5, gi u3), (3, gi u1), (0, gr E 70), (1, gi v1), (2, gi v2)]) (pc := 77) dX7_isNumber_77 (Nat.le_of_ble_eq_true rfl) rfl ?_
      refine gk_iload (pc := 79) 0 dX7_isNumber_79 rfl ?_
      refine gk_iload_n (pc := 81) 5 dX7_isNumber_81 rfl ?_
      refine gk_icmp_le (tgt := 87) (pc := 82) dX7_isNumber_82 (by decide) rfl rfl ?_ ?_
      · refine gk_aload_n (pc := 87) 3 dX7_isNumber_87 rfl ?_
        refine gk_dup (pc := 88) dX7_isNumber_88 rfl ?_
        refine gk_getI (pc := 89) rfl clsX7 cll_70 sh_70 6 (by decide) rfl ww_781 dX7_isNumber_89 ?_
        refine gk_iconst (pc := 92) dX7_isNumber_92 ?_
        refine gk_iadd (pc := 93) dX7_isNumber_93 ?_
        refine gk_putF (pc := 94) rfl clsX7 cll_70 sh_70 6 (by decide) rfl rfl rfl rfl ww_781 dX7_isNumber_94 ?_
        refine gk_sub (L' := [(0, gr E 70), (1, gi v1), (4, gi (((10 * (u1 - 48)) + u3) - 48))]) [3, 4, 0] rfl ?_
        exact k_X7_isNumber_J97 v1 (((10 * (u1 - 48)) + u3) - 48) (gs_st (gs_st σ 70 6 ((σ 70 6) + 1)) 70 6 (((gs_st σ 70 6 ((σ 70 6) + 1)) 70 6) + 1))
      · refine gk_iconst (pc := 85) dX7_isNumber_85 ?_
        exact gk_zret (pc := 86) (Or.inl (by decide +kernel)) rfl dX7_isNumber_86
  · refine gk_iconst (pc := 23) dX7_isNumber_23 ?_
    exact gk_zret (pc := 24) (Or.inl (by decide +kernel)) rfl dX7_isNumber_24
def f_X7_isClause (v1 : Int) (σ : gs_Mem) : Option (Int × gs_Mem) :=
  (f_X7_isNumber (4 * v1) 31 σ).bind fun b1 =>
  if (gn b1.1) = 0 then
    some (0, b1.2)
  else
    (f_X7_byteAt (b1.2 70 6) b1.2).bind fun u2 =>
    if (gn u2) = 44 then
      (f_X7_isNumber ((4 * v1) + 1) 31 (gs_st b1.2 70 6 ((b1.2 70 6) + 1))).bind fun b3 =>
      if (gn b3.1) = 0 then
        some (0, b3.2)
      else
        gs_chk (gn ((4 * v1) + 2)) 32 (
        gs_chk (gn ((4 * v1) + 3)) 32 (
        (f_X7_byteAt ((gs_st (gs_st b3.2 75 (gn ((4 * v1) + 2)).toNat (-1)) 75 (gn ((4 * v1) + 3)).toNat 0) 70 6) (gs_st (gs_st b3.2 75 (gn ((4 * v1) + 2)).toNat (-1)) 75 (gn ((4 * v1) + 3)).toNat 0)).bind fun u4 =>
        if (gn u4) = 61 then
          (f_X7_isNumber ((4 * v1) + 2) 19 (gs_st (gs_st (gs_st b3.2 75 (gn ((4 * v1) + 2)).toNat (-1)) 75 (gn ((4 * v1) + 3)).toNat 0) 70 6 (((gs_st (gs_st b3.2 75 (gn ((4 * v1) + 2)).toNat (-1)) 75 (gn ((4 * v1) + 3)).toNat 0) 70 6) + 1))).bind fun b5 =>
          if (gn b5.1) = 0 then
            some (0, b5.2)
          else
            (f_X7_byteAt (b5.2 70 6) b5.2).bind fun u6 =>
            if (gn u6) = 33 then
              gs_chk (gn ((4 * v1) + 3)) 32 (
              some (1, (gs_st (gs_st b5.2 70 6 ((b5.2 70 6) + 1)) 75 (gn ((4 * v1) + 3)).toNat 1)))
            else
              some (1, b5.2)
        else
          some (1, (gs_st (gs_st b3.2 75 (gn ((4 * v1) + 2)).toNat (-1)) 75 (gn ((4 * v1) + 3)).toNat 0))))
    else
      some (0, b1.2)
set_option maxRecDepth 100000 in
set_option maxHeartbeats 4000000 in
theorem c_X7_isClause {E : gs_E} (v1 : Int)  (σ : gs_Mem) : gs_C E yX7_isClause cX7_isClause 2 (some .boolean) 0 { frames := 2, cells := 0, slots := 0, locals := 50 } [gr E 70, gi v1] σ (f_X7_isClause v1 σ) (fun b : Int × gs_Mem => b) := by
  unfold f_X7_isClause
  refine gs_enter (L := [(0, gr E 70), (1, gi v1)]) (by decide) rfl rfl (Nat.le_of_ble_eq_true rfl) rfl ?_
  refine gk_aload_n (pc := 0) 0 dX7_isClause_0 rfl ?_
  refine gk_iconst (pc := 1) dX7_isClause_1 ?_
  refine gk_iload_n (pc := 2) 1 dX7_isClause_2 rfl ?_
  refine gk_imul (pc := 3) dX7_isClause_3 ?_
  refine gk_bipush (pc := 4) dX7_isClause_4 (by decide +kernel) ?_
  refine gk_callV_iw (As := [gi (4 * v1), gi 31]) (pc := 6) (c_X7_isNumber (4 * v1) 31 σ) rfl mm_X7_isNumber ww_888 clsX7 rfl cll_70 sh_70 (gs_fit_of (Nat.le_of_ble_eq_true rfl) (Nat.le_of_ble_eq_true rfl)) rfl rfl (Nat.le_of_ble_eq_true rfl) dX7_isClause_6 (fun b1 => ?_)
  refine gk_if_eq (tgt := 25) (pc := 9) dX7_isClause_9 (by decide) rfl ?_ ?_
  · refine gk_iconst (pc := 25) dX7_isClause_25 ?_
    exact gk_zret (pc := 26) (Or.inl (by decide +kernel)) rfl dX7_isClause_26
  · refine gk_aload_n (pc := 12) 0 dX7_isClause_12 rfl ?_
    refine gk_aload_n (pc := 13) 0 dX7_isClause_13 rfl ?_
    refine gk_getI (pc := 14) rfl clsX7 cll_70 sh_70 6 (by decide) rfl ww_781 dX7_isClause_14 ?_
    refine gk_callV_ir (As := [gi (b1.2 70 6)]) (pc := 17) (c_X7_byteAt (b1.2 70 6) b1.2) rfl mm_X7_byteAt ww_892 clsX7 rfl cll_70 sh_70 (gs_fit_of (Nat.le_of_ble_eq_true rfl) (Nat.le_of_ble_eq_true rfl)) rfl rfl (Nat.le_of_ble_eq_true rfl) dX7_isClause_17 (fun u2 => ?_)
    refine gk_bipush (pc := 20) dX7_isClause_20 (by decide +kernel) ?_
    refine gk_icmp_eq (tgt := 27) (pc := 22) dX7_isClause_22 (by decide) rfl (by decide +kernel) ?_ ?_
    · refine gk_aload_n (pc := 27) 0 dX7_isClause_27 rfl ?_
      refine gk_dup (pc := 28) dX7_isClause_28 rfl ?_
      refine gk_getI (pc := 29) rfl clsX7 cll_70 sh_70 6 (by decide) rfl ww_781 dX7_isClause_29 ?_
      refine gk_iconst (pc := 32) dX7_isClause_32 ?_
      refine gk_iadd (pc := 33) dX7_isClause_33 ?_
      refine gk_putF (pc := 34) rfl clsX7 cll_70 sh_70 6 (by decide) rfl rfl rfl rfl ww_781 dX7_isClause_34 ?_
      refine gk_aload_n (pc := 37) 0 dX7_isClause_37 rfl ?_
      refine gk_iconst (pc := 38) dX7_isClause_38 ?_
      refine gk_iload_n (pc := 39) 1 dX7_isClause_39 rfl ?_
      refine gk_imul (pc := 40) dX7_isClause_40 ?_
      refine gk_iconst (pc := 41) dX7_isClause_41 ?_
      refine gk_iadd (pc := 42) dX7_isClause_42 ?_
      refine gk_bipush (pc := 43) dX7_isClause_43 (by decide +kernel) ?_
      refine gk_callV_iw (As := [gi ((4 * v1) + 1), gi 31]) (pc := 45) (c_X7_isNumber ((4 * v1) + 1) 31 (gs_st b1.2 70 6 ((b1.2 70 6) + 1))) rfl mm_X7_isNumber ww_888 clsX7 rfl cll_70 sh_70 (gs_fit_of (Nat.le_of_ble_eq_true rfl) (Nat.le_of_ble_eq_true rfl)) rfl rfl (Nat.le_of_ble_eq_true rfl) dX7_isClause_45 (fun b3 => ?_)
      refine gk_if_ne (tgt := 53) (pc := 48) dX7_isClause_48 (by decide) rfl ?_ ?_
      · refine gk_aload_n (pc := 53) 0 dX7_isClause_53 rfl ?_
        refine gk_getR (q := 75) (pc := 54) rfl clsX7 cll_70 sh_70 7 (by decide) rfl ww_782 dX7_isClause_54 ?_
        refine gk_iconst (pc := 57) dX7_isClause_57 ?_
        refine gk_iload_n (pc := 58) 1 dX7_isClause_58 rfl ?_
        refine gk_imul (pc := 59) dX7_isClause_59 ?_
        refine gk_iconst (pc := 60) dX7_isClause_60 ?_
        refine gk_iadd (pc := 61) dX7_isClause_61 ?_
        refine gk_iconst (pc := 62) dX7_isClause_62 ?_
        refine gk_iast_c (pc := 63) cll_75 sh_75 rfl dX7_isClause_63 ?_
        refine gk_aload_n (pc := 64) 0 dX7_isClause_64 rfl ?_
        refine gk_getR (q := 75) (pc := 65) rfl clsX7 cll_70 sh_70 7 (by decide) rfl ww_782 dX7_isClause_65 ?_
        refine gk_iconst (pc := 68) dX7_isClause_68 ?_
        refine gk_iload_n (pc := 69) 1 dX7_isClause_69 rfl ?_
        refine gk_imul (pc := 70) dX7_isClause_70 ?_
        refine gk_iconst (pc := 71) dX7_isClause_71 ?_
        refine gk_iadd (pc := 72) dX7_isClause_72 ?_
        refine gk_iconst (pc := 73) dX7_isClause_73 ?_
        refine gk_iast_c (pc := 74) cll_75 sh_75 rfl dX7_isClause_74 ?_
        refine gk_aload_n (pc := 75) 0 dX7_isClause_75 rfl ?_
        refine gk_aload_n (pc := 76) 0 dX7_isClause_76 rfl ?_
        refine gk_getI (pc := 77) rfl clsX7 cll_70 sh_70 6 (by decide) rfl ww_781 dX7_isClause_77 ?_
        refine gk_callV_ir (As := [gi ((gs_st (gs_st b3.2 75 (gn ((4 * v1) + 2)).toNat (-1)) 75 (gn ((4 * v1) + 3)).toNat 0) 70 6)]) (pc := 80) (c_X7_byteAt ((gs_st (gs_st b3.2 75 (gn ((4 * v1) + 2)).toNat (-1)) 75 (gn ((4 * v1) + 3)).toNat 0) 70 6) (gs_st (gs_st b3.2 75 (gn ((4 * v1) + 2)).toNat (-1)) 75 (gn ((4 * v1) + 3)).toNat 0)) rfl mm_X7_byteAt ww_892 clsX7 rfl cll_70 sh_70 (gs_fit_of (Nat.le_of_ble_eq_true rfl) (Nat.le_of_ble_eq_true rfl)) rfl rfl (Nat.le_of_ble_eq_true rfl) dX7_isClause_80 (fun u4 => ?_)
        refine gk_bipush (pc := 83) dX7_isClause_83 (by decide +kernel) ?_
        refine gk_icmp_ne (tgt := 148) (pc := 85) dX7_isClause_85 (by decide) rfl (by decide +kernel) ?_ ?_
        · refine gk_iconst (pc := 148) dX7_isClause_148 ?_
          exact gk_zret (pc := 149) (Or.inr (by decide +kernel)) rfl dX7_isClause_149
        · refine gk_aload_n (pc := 88) 0 dX7_isClause_88 rfl ?_
          refine gk_dup (pc := 89) dX7_isClause_89 rfl ?_
          refine gk_getI (pc := 90) rfl clsX7 cll_70 sh_70 6 (by decide) rfl ww_781 dX7_isClause_90 ?_
          refine gk_iconst (pc := 93) dX7_isClause_93 ?_
          refine gk_iadd (pc := 94) dX7_isClause_94 ?_
          refine gk_putF (pc := 95) rfl clsX7 cll_70 sh_70 6 (by decide) rfl rfl rfl rfl ww_781 dX7_isClause_95 ?_
          refine gk_aload_n (pc := 98) 0 dX7_isClause_98 rfl ?_
          refine gk_iconst (pc := 99) dX7_isClause_99 ?_
          refine gk_iload_n (pc := 100) 1 dX7_isClause_100 rfl ?_
          refine gk_imul (pc := 101) dX7_isClause_101 ?_
          refine gk_iconst (pc := 102) dX7_isClause_102 ?_
          refine gk_iadd (pc := 103) dX7_isClause_103 ?_
          refine gk_bipush (pc := 104) dX7_isClause_104 (by decide +kernel) ?_
          refine gk_callV_iw (As := [gi ((4 * v1) + 2), gi 19]) (pc := 106) (c_X7_isNumber ((4 * v1) + 2) 19 (gs_st (gs_st (gs_st b3.2 75 (gn ((4 * v1) + 2)).toNat (-1)) 75 (gn ((4 * v1) + 3)).toNat 0) 70 6 (((gs_st (gs_st b3.2 75 (gn ((4 * v1) + 2)).toNat (-1)) 75 (gn ((4 * v1) + 3)).toNat 0) 70 6) + 1))) rfl mm_X7_isNumber ww_888 clsX7 rfl cll_70 sh_70 (gs_fit_of (Nat.le_of_ble_eq_true rfl) (Nat.le_of_ble_eq_true rfl)) rfl rfl (Nat.le_of_ble_eq_true rfl) dX7_isClause_106 (fun b5 => ?_)
          refine gk_if_ne (tgt := 114) (pc := 109) dX7_isClause_109 (by decide) rfl ?_ ?_
          · refine gk_aload_n (pc := 114) 0 dX7_isClause_114 rfl ?_
            refine gk_aload_n (pc := 115) 0 dX7_isClause_115 rfl ?_
            refine gk_getI (pc := 116) rfl clsX7 cll_70 sh_70 6 (by decide) rfl ww_781 dX7_isClause_116 ?_
            refine gk_callV_ir (As := [gi (b5.2 70 6)]) (pc := 119) (c_X7_byteAt (b5.2 70 6) b5.2) rfl mm_X7_byteAt ww_892 clsX7 rfl cll_70 sh_70 (gs_fit_of (Nat.le_of_ble_eq_true rfl) (Nat.le_of_ble_eq_true rfl)) rfl rfl (Nat.le_of_ble_eq_true rfl) dX7_isClause_119 (fun u6 => ?_)
            refine gk_bipush (pc := 122) dX7_isClause_122 (by decide +kernel) ?_
            refine gk_icmp_ne (tgt := 148) (pc := 124) dX7_isClause_124 (by decide) rfl (by decide +kernel) ?_ ?_
            · refine gk_iconst (pc := 148) dX7_isClause_148 ?_
              exact gk_zret (pc := 149) (Or.inr (by decide +kernel)) rfl dX7_isClause_149
            · refine gk_aload_n (pc := 127) 0 dX7_isClause_127 rfl ?_
              refine gk_dup (pc := 128) dX7_isClause_128 rfl ?_
              refine gk_getI (pc := 129) rfl clsX7 cll_70 sh_70 6 (by decide) rfl ww_781 dX7_isClause_129 ?_
              refine gk_iconst (pc := 132) dX7_isClause_132 ?_
              refine gk_iadd (pc := 133) dX7_isClause_133 ?_
              refine gk_putF (pc := 134) rfl clsX7 cll_70 sh_70 6 (by decide) rfl rfl rfl rfl ww_781 dX7_isClause_134 ?_
              refine gk_aload_n (pc := 137) 0 dX7_isClause_137 rfl ?_
              refine gk_getR (q := 75) (pc := 138) rfl clsX7 cll_70 sh_70 7 (by decide) rfl ww_782 dX7_isClause_138 ?_
              refine gk_iconst (pc := 141) dX7_isClause_141 ?_
              refine gk_iload_n (pc := 142) 1 dX7_isClause_142 rfl ?_
              refine gk_imul (pc := 143) dX7_isClause_143 ?_
              refine gk_iconst (pc := 144) dX7_isClause_144 ?_
              refine gk_iadd (pc := 145) dX7_isClause_145 ?_
              refine gk_iconst (pc := 146) dX7_isClause_146 ?_
              refine gk_iast_c (pc := 147) cll_75 sh_75 rfl dX7_isClause_147 ?_
              refine gk_iconst (pc := 148) dX7_isClause_148 ?_
              exact gk_zret (pc := 149) (Or.inr (by decide +kernel)) rfl dX7_isClause_149
          · refine gk_iconst (pc := 112) dX7_isClause_112 ?_
            exact gk_zret (pc := 113) (Or.inl (by decide +kernel)) rfl dX7_isClause_113
      · refine gk_iconst (pc := 51) dX7_isClause_51 ?_
        exact gk_zret (pc := 52) (Or.inl (by decide +kernel)) rfl dX7_isClause_52
    · refine gk_iconst (pc := 25) dX7_isClause_25 ?_
      exact gk_zret (pc := 26) (Or.inl (by decide +kernel)) rfl dX7_isClause_26
def f_X7_read_J29 (k9 : Int → Int → gs_Mem → Option (Int × gs_Mem)) (k54 : Int → Int → gs_Mem → Option (Int × gs_Mem)) (k70 : Int → Int → gs_Mem → Option (Int × gs_Mem)) (v2 : Int) (t0 : Int) (t1 : Int) (σ : gs_Mem) : Option (Int × gs_Mem) :=
  if (gn v2) = 0 then
    k70 (t1 + t0) v2 σ
  else
    if (gn (t1 + t0)) = 8 then
      k70 (t1 + t0) v2 σ
    else
      (f_X7_byteAt (σ 70 6) σ).bind fun u2 =>
      if (gn u2) = 59 then
        k9 (t1 + t0) v2 (gs_st σ 70 6 ((σ 70 6) + 1))
      else
        k54 (t1 + t0) v2 σ
set_option maxRecDepth 100000 in
set_option maxHeartbeats 4000000 in
theorem k_X7_read_J29 {E : gs_E} (k9 : Int → Int → gs_Mem → Option (Int × gs_Mem)) (k54 : Int → Int → gs_Mem → Option (Int × gs_Mem)) (k70 : Int → Int → gs_Mem → Option (Int × gs_Mem))  (v2 : Int) (t0 : Int) (t1 : Int)  (hk9 : ∀ (w1 : Int) (w2 : Int) (σ : gs_Mem), gs_K E (gs_MC E yX7_read cX7_read 6 (some .int) 0 { frames := 3, cells := 0, slots := 0, locals := 71 }) (fun b : Int × gs_Mem => b) (k9 w1 w2 σ) 9 [(0, gr E 70), (1, gi w1), (2, gi w2)] [] σ) (hk54 : ∀ (w1 : Int) (w2 : Int) (σ : gs_Mem), gs_K E (gs_MC E yX7_read cX7_read 6 (some .int) 0 { frames := 3, cells := 0, slots := 0, locals := 71 }) (fun b : Int × gs_Mem => b) (k54 w1 w2 σ) 54 [(0, gr E 70), (1, gi w1), (2, gi w2)] [] σ) (hk70 : ∀ (w1 : Int) (w2 : Int) (σ : gs_Mem), gs_K E (gs_MC E yX7_read cX7_read 6 (some .int) 0 { frames := 3, cells := 0, slots := 0, locals := 71 }) (fun b : Int × gs_Mem => b) (k70 w1 w2 σ) 70 [(0, gr E 70), (1, gi w1), (2, gi w2)] [] σ) (σ : gs_Mem) : gs_K E (gs_MC E yX7_read cX7_read 6 (some .int) 0 { frames := 3, cells := 0, slots := 0, locals := 71 }) (fun b : Int × gs_Mem => b) (f_X7_read_J29 k9 k54 k70 v2 t0 t1 σ) 29 [(0, gr E 70), (2, gi v2)] [gi t0, gi t1] σ := by
  unfold f_X7_read_J29
  refine gk_iadd (pc := 29) dX7_read_29 ?_
  refine gk_istore_n (L' := [(1, gi (t1 + t0)), (0, gr E 70), (2, gi v2)]) (pc := 30) dX7_read_30 (Nat.le_of_ble_eq_true rfl) rfl ?_
  refine gk_iload_n (pc := 31) 2 dX7_read_31 rfl ?_
  refine gk_if_eq (tgt := 70) (pc := 32) dX7_read_32 (by decide) rfl ?_ ?_
  · refine gk_sub (L' := [(0, gr E 70), (1, gi (t1 + t0)), (2, gi v2)]) [1, 0, 2] rfl ?_
    exact hk70 (t1 + t0) v2 σ
  · refine gk_iload_n (pc := 35) 0 dX7_read_35 rfl ?_
    refine gk_bipush (pc := 36) dX7_read_36 (by decide +kernel) ?_
    refine gk_icmp_eq (tgt := 70) (pc := 38) dX7_read_38 (by decide) rfl (by decide +kernel) ?_ ?_
    · refine gk_sub (L' := [(0, gr E 70), (1, gi (t1 + t0)), (2, gi v2)]) [1, 0, 2] rfl ?_
      exact hk70 (t1 + t0) v2 σ
    · refine gk_aload_n (pc := 41) 1 dX7_read_41 rfl ?_
      refine gk_aload_n (pc := 42) 1 dX7_read_42 rfl ?_
      refine gk_getI (pc := 43) rfl clsX7 cll_70 sh_70 6 (by decide) rfl ww_781 dX7_read_43 ?_
      refine gk_callV_ir (As := [gi (σ 70 6)]) (pc := 46) (c_X7_byteAt (σ 70 6) σ) rfl mm_X7_byteAt ww_892 clsX7 rfl cll_70 sh_70 (gs_fit_of (Nat.le_of_ble_eq_true rfl) (Nat.le_of_ble_eq_true rfl)) rfl rfl (Nat.le_of_ble_eq_true rfl) dX7_read_46 (fun u2 => ?_)
      refine gk_bipush (pc := 49) dX7_read_49 (by decide +kernel) ?_
      refine gk_icmp_eq (tgt := 57) (pc := 51) dX7_read_51 (by decide) rfl (by decide +kernel) ?_ ?_
      · refine gk_aload_n (pc := 57) 1 dX7_read_57 rfl ?_
        refine gk_dup (pc := 58) dX7_read_58 rfl ?_
        refine gk_getI (pc := 59) rfl clsX7 cll_70 sh_70 6 (by decide) rfl ww_781 dX7_read_59 ?_
        refine gk_iconst (pc := 62) dX7_read_62 ?_
        refine gk_iadd (pc := 63) dX7_read_63 ?_
        refine gk_putF (pc := 64) rfl clsX7 cll_70 sh_70 6 (by decide) rfl rfl rfl rfl ww_781 dX7_read_64 ?_
        refine gk_goto (tgt := 9) (pc := 67) dX7_read_67 (by decide) ?_
        refine gk_sub (L' := [(0, gr E 70), (1, gi (t1 + t0)), (2, gi v2)]) [1, 0, 2] rfl ?_
        exact hk9 (t1 + t0) v2 (gs_st σ 70 6 ((σ 70 6) + 1))
      · refine gk_sub (L' := [(0, gr E 70), (1, gi (t1 + t0)), (2, gi v2)]) [1, 0, 2] rfl ?_
        exact hk54 (t1 + t0) v2 σ
def f_X7_read_L9  (k54 : Int → Int → gs_Mem → Option (Int × gs_Mem)) (k70 : Int → Int → gs_Mem → Option (Int × gs_Mem)) : Nat → Int → Int → gs_Mem → Option (Int × gs_Mem)
  | 0, _, _, _ => none
  | n + 1, v1, v2, σ =>
    if (gn v2) = 0 then
      k70 v1 v2 σ
    else
      (f_X7_isClause v1 σ).bind fun b1 =>
      if (gn b1.1) = 0 then
        f_X7_read_J29 (f_X7_read_L9 k54 k70 n) k54 k70 b1.1 0 v1 b1.2
      else
        f_X7_read_J29 (f_X7_read_L9 k54 k70 n) k54 k70 b1.1 1 v1 b1.2
set_option maxRecDepth 100000 in
set_option maxHeartbeats 4000000 in
theorem k_X7_read_L9 {E : gs_E}  (k54 : Int → Int → gs_Mem → Option (Int × gs_Mem)) (k70 : Int → Int → gs_Mem → Option (Int × gs_Mem))  (hk54 : ∀ (w1 : Int) (w2 : Int) (σ : gs_Mem), gs_K E (gs_MC E yX7_read cX7_read 6 (some .int) 0 { frames := 3, cells := 0, slots := 0, locals := 71 }) (fun b : Int × gs_Mem => b) (k54 w1 w2 σ) 54 [(0, gr E 70), (1, gi w1), (2, gi w2)] [] σ) (hk70 : ∀ (w1 : Int) (w2 : Int) (σ : gs_Mem), gs_K E (gs_MC E yX7_read cX7_read 6 (some .int) 0 { frames := 3, cells := 0, slots := 0, locals := 71 }) (fun b : Int × gs_Mem => b) (k70 w1 w2 σ) 70 [(0, gr E 70), (1, gi w1), (2, gi w2)] [] σ) : ∀ (n : Nat) (v1 : Int) (v2 : Int) (σ : gs_Mem), gs_K E (gs_MC E yX7_read cX7_read 6 (some .int) 0 { frames := 3, cells := 0, slots := 0, locals := 71 }) (fun b : Int × gs_Mem => b) (f_X7_read_L9 k54 k70 n v1 v2 σ) 9 [(0, gr E 70), (1, gi v1), (2, gi v2)] [] σ := by
  intro n
  induction n with
  | zero => intro v1 v2 σ; rw [f_X7_read_L9]; exact gk_none
  | succ n ih =>
    intro v1 v2 σ; rw [f_X7_read_L9]
    refine gk_iload_n (pc := 9) 2 dX7_read_9 rfl ?_
    refine gk_if_eq (tgt := 70) (pc := 10) dX7_read_10 (by decide) rfl ?_ ?_
    · exact hk70 v1 v2 σ
    · refine gk_aload_n (pc := 13) 0 dX7_read_13 rfl ?_
      refine gk_iload_n (pc := 14) 1 dX7_read_14 rfl ?_
      refine gk_callV_iw (As := [gi v1]) (pc := 15) (c_X7_isClause v1 σ) rfl mm_X7_isClause ww_884 clsX7 rfl cll_70 sh_70 (gs_fit_of (Nat.le_of_ble_eq_true rfl) (Nat.le_of_ble_eq_true rfl)) rfl rfl (Nat.le_of_ble_eq_true rfl) dX7_read_15 (fun b1 => ?_)
      refine gk_istore_n (L' := [(2, gi b1.1), (0, gr E 70), (1, gi v1)]) (pc := 18) dX7_read_18 (Nat.le_of_ble_eq_true rfl) rfl ?_
      refine gk_iload_n (pc := 19) 2 dX7_read_19 rfl ?_
      refine gk_iload_n (pc := 20) 0 dX7_read_20 rfl ?_
      refine gk_if_eq (tgt := 28) (pc := 21) dX7_read_21 (by decide) rfl ?_ ?_
      · refine gk_iconst (pc := 28) dX7_read_28 ?_
        refine gk_sub (L' := [(0, gr E 70), (2, gi b1.1)]) [1, 0] rfl ?_
        exact k_X7_read_J29 (f_X7_read_L9 k54 k70 n) k54 k70 b1.1 0 v1 ih hk54 hk70 b1.2
      · refine gk_iconst (pc := 24) dX7_read_24 ?_
        refine gk_goto (tgt := 29) (pc := 25) dX7_read_25 (by decide) ?_
        refine gk_sub (L' := [(0, gr E 70), (2, gi b1.1)]) [1, 0] rfl ?_
        exact k_X7_read_J29 (f_X7_read_L9 k54 k70 n) k54 k70 b1.1 1 v1 ih hk54 hk70 b1.2
def f_X7_read_J194 (k113 : Int → Int → gs_Mem → Option (Int × gs_Mem)) (v1 : Int) (v3 : Int) (v4 : Int) (σ : gs_Mem) : Option (Int × gs_Mem) :=
  k113 v3 (v4 + 1) σ
set_option maxRecDepth 100000 in
set_option maxHeartbeats 4000000 in
theorem k_X7_read_J194 {E : gs_E} (k113 : Int → Int → gs_Mem → Option (Int × gs_Mem))  (v1 : Int) (v3 : Int) (v4 : Int)  (hk113 : ∀ (w3 : Int) (w4 : Int) (σ : gs_Mem), gs_K E (gs_MC E yX7_read cX7_read 6 (some .int) 0 { frames := 3, cells := 0, slots := 0, locals := 71 }) (fun b : Int × gs_Mem => b) (k113 w3 w4 σ) 113 [(0, gr E 70), (1, gi v1), (3, gi w3), (4, gi w4)] [] σ) (σ : gs_Mem) : gs_K E (gs_MC E yX7_read cX7_read 6 (some .int) 0 { frames := 3, cells := 0, slots := 0, locals := 71 }) (fun b : Int × gs_Mem => b) (f_X7_read_J194 k113 v1 v3 v4 σ) 194 [(0, gr E 70), (1, gi v1), (3, gi v3), (4, gi v4)] [] σ := by
  unfold f_X7_read_J194
  refine gk_iinc (L' := [(4, gi (v4 + 1)), (0, gr E 70), (1, gi v1), (3, gi v3)]) (pc := 194) 3 dX7_read_194 rfl (Nat.le_of_ble_eq_true rfl) rfl ?_
  refine gk_goto (tgt := 113) (pc := 197) dX7_read_197 (by decide) ?_
  refine gk_sub (L' := [(0, gr E 70), (1, gi v1), (3, gi v3), (4, gi (v4 + 1))]) [1, 2, 3, 0] rfl ?_
  exact hk113 v3 (v4 + 1) σ
def f_X7_read_L113 (v1 : Int) : Nat → Int → Int → gs_Mem → Option (Int × gs_Mem)
  | 0, _, _, _ => none
  | n + 1, v3, v4, σ =>
    if (gn v1) ≤ (gn v4) then
      some (v3, σ)
    else
      gs_chk (gn (4 * v4)) 32 (
      gs_chk (gn ((4 * v4) + 1)) 32 (
      (f_X7_station (σ 75 (gn (4 * v4)).toNat) (σ 75 (gn ((4 * v4) + 1)).toNat) σ).bind fun b4 =>
      if (gn b4.1) < 0 then
        f_X7_read_J194 (f_X7_read_L113 v1 n) v1 v3 v4 b4.2
      else
        gs_chk (gn ((4 * v4) + 2)) 32 (
        (f_X7_has b4.1 (b4.2 75 (gn ((4 * v4) + 2)).toNat) b4.2).bind fun b5 =>
        gs_chk (gn ((4 * v4) + 3)) 32 (
        gs_chk (gn ((4 + (4 * b4.1)) + 3)) 84 (
        f_X7_read_J194 (f_X7_read_L113 v1 n) v1 (v3 + 1) v4 (gs_st b5.2 71 (gn ((4 + (4 * b4.1)) + 3)).toNat (b5.2 75 (gn ((4 * v4) + 3)).toNat)))))))
set_option maxRecDepth 100000 in
set_option maxHeartbeats 4000000 in
theorem k_X7_read_L113 {E : gs_E} (v1 : Int)   : ∀ (n : Nat) (v3 : Int) (v4 : Int) (σ : gs_Mem), gs_K E (gs_MC E yX7_read cX7_read 6 (some .int) 0 { frames := 3, cells := 0, slots := 0, locals := 71 }) (fun b : Int × gs_Mem => b) (f_X7_read_L113 v1 n v3 v4 σ) 113 [(0, gr E 70), (1, gi v1), (3, gi v3), (4, gi v4)] [] σ := by
  intro n
  induction n with
  | zero => intro v3 v4 σ; rw [f_X7_read_L113]; exact gk_none
  | succ n ih =>
    intro v3 v4 σ; rw [f_X7_read_L113]
    refine gk_iload (pc := 113) 3 dX7_read_113 rfl ?_
    refine gk_iload_n (pc := 115) 1 dX7_read_115 rfl ?_
    refine gk_icmp_ge (tgt := 200) (pc := 116) dX7_read_116 (by decide) rfl rfl ?_ ?_
    · refine gk_iload_n (pc := 200) 2 dX7_read_200 rfl ?_
      exact gk_iret (pc := 201) rfl dX7_read_201
    · refine gk_aload_n (pc := 119) 0 dX7_read_119 rfl ?_
      refine gk_aload_n (pc := 120) 0 dX7_read_120 rfl ?_
      refine gk_getR (q := 75) (pc := 121) rfl clsX7 cll_70 sh_70 7 (by decide) rfl ww_782 dX7_read_121 ?_
      refine gk_iconst (pc := 124) dX7_read_124 ?_
      refine gk_iload (pc := 125) 3 dX7_read_125 rfl ?_
      refine gk_imul (pc := 127) dX7_read_127 ?_
      refine gk_iald_c (pc := 128) cll_75 sh_75 rfl dX7_read_128 ?_
      refine gk_aload_n (pc := 129) 0 dX7_read_129 rfl ?_
      refine gk_getR (q := 75) (pc := 130) rfl clsX7 cll_70 sh_70 7 (by decide) rfl ww_782 dX7_read_130 ?_
      refine gk_iconst (pc := 133) dX7_read_133 ?_
      refine gk_iload (pc := 134) 3 dX7_read_134 rfl ?_
      refine gk_imul (pc := 136) dX7_read_136 ?_
      refine gk_iconst (pc := 137) dX7_read_137 ?_
      refine gk_iadd (pc := 138) dX7_read_138 ?_
      refine gk_iald_c (pc := 139) cll_75 sh_75 rfl dX7_read_139 ?_
      refine gk_callV_iw (As := [gi (σ 75 (gn (4 * v4)).toNat), gi (σ 75 (gn ((4 * v4) + 1)).toNat)]) (pc := 140) (c_X7_station (σ 75 (gn (4 * v4)).toNat) (σ 75 (gn ((4 * v4) + 1)).toNat) σ) rfl mm_X7_station ww_898 clsX7 rfl cll_70 sh_70 (gs_fit_of (Nat.le_of_ble_eq_true rfl) (Nat.le_of_ble_eq_true rfl)) rfl rfl (Nat.le_of_ble_eq_true rfl) dX7_read_140 (fun b4 => ?_)
      refine gk_istore (L' := [(5, gi b4.1), (0, gr E 70), (1, gi v1), (3, gi v3), (4, gi v4)]) (pc := 143) dX7_read_143 (Nat.le_of_ble_eq_true rfl) rfl ?_
      refine gk_iload (pc := 145) 0 dX7_read_145 rfl ?_
      refine gk_if_lt (tgt := 194) (pc := 147) dX7_read_147 (by decide) rfl ?_ ?_
      · refine gk_sub (L' := [(0, gr E 70), (1, gi v1), (3, gi v3), (4, gi v4)]) [1, 2, 3, 4] rfl ?_
        exact k_X7_read_J194 (f_X7_read_L113 v1 n) v1 v3 v4 ih b4.2
      · refine gk_aload_n (pc := 150) 1 dX7_read_150 rfl ?_
        refine gk_iload (pc := 151) 0 dX7_read_151 rfl ?_
        refine gk_aload_n (pc := 153) 1 dX7_read_153 rfl ?_
        refine gk_getR (q := 75) (pc := 154) rfl clsX7 cll_70 sh_70 7 (by decide) rfl ww_782 dX7_read_154 ?_
        refine gk_iconst (pc := 157) dX7_read_157 ?_
        refine gk_iload (pc := 158) 4 dX7_read_158 rfl ?_
        refine gk_imul (pc := 160) dX7_read_160 ?_
        refine gk_iconst (pc := 161) dX7_read_161 ?_
        refine gk_iadd (pc := 162) dX7_read_162 ?_
        refine gk_iald_c (pc := 163) cll_75 sh_75 rfl dX7_read_163 ?_
        refine gk_callV_vw (As := [gi b4.1, gi (b4.2 75 (gn ((4 * v4) + 2)).toNat)]) (pc := 164) (c_X7_has b4.1 (b4.2 75 (gn ((4 * v4) + 2)).toNat) b4.2) rfl mm_X7_has ww_857 clsX7 rfl cll_70 sh_70 (gs_fit_of (Nat.le_of_ble_eq_true rfl) (Nat.le_of_ble_eq_true rfl)) rfl rfl (Nat.le_of_ble_eq_true rfl) dX7_read_164 (fun b5 => ?_)
        refine gk_aload_n (pc := 167) 1 dX7_read_167 rfl ?_
        refine gk_getR (q := 71) (pc := 168) rfl clsX7 cll_70 sh_70 0 (by decide) rfl ww_775 dX7_read_168 ?_
        refine gk_iconst (pc := 171) dX7_read_171 ?_
        refine gk_iconst (pc := 172) dX7_read_172 ?_
        refine gk_iload (pc := 173) 0 dX7_read_173 rfl ?_
        refine gk_imul (pc := 175) dX7_read_175 ?_
        refine gk_iadd (pc := 176) dX7_read_176 ?_
        refine gk_iconst (pc := 177) dX7_read_177 ?_
        refine gk_iadd (pc := 178) dX7_read_178 ?_
        refine gk_aload_n (pc := 179) 1 dX7_read_179 rfl ?_
        refine gk_getR (q := 75) (pc := 180) rfl clsX7 cll_70 sh_70 7 (by decide) rfl ww_782 dX7_read_180 ?_
        refine gk_iconst (pc := 183) dX7_read_183 ?_
        refine gk_iload (pc := 184) 4 dX7_read_184 rfl ?_
        refine gk_imul (pc := 186) dX7_read_186 ?_
        refine gk_iconst (pc := 187) dX7_read_187 ?_
        refine gk_iadd (pc := 188) dX7_read_188 ?_
        refine gk_iald_c (pc := 189) cll_75 sh_75 rfl dX7_read_189 ?_
        refine gk_iast_c (pc := 190) cll_71 sh_71 rfl dX7_read_190 ?_
        refine gk_iinc (L' := [(3, gi (v3 + 1)), (5, gi b4.1), (0, gr E 70), (1, gi v1), (4, gi v4)]) (pc := 191) 3 dX7_read_191 rfl (Nat.le_of_ble_eq_true rfl) rfl ?_
        refine gk_sub (L' := [(0, gr E 70), (1, gi v1), (3, gi (v3 + 1)), (4, gi v4)]) [2, 3, 0, 4] rfl ?_
        exact k_X7_read_J194 (f_X7_read_L113 v1 n) v1 (v3 + 1) v4 ih (gs_st b5.2 71 (gn ((4 + (4 * b4.1)) + 3)).toNat (b5.2 75 (gn ((4 * v4) + 3)).toNat))
def f_X7_read_J90 (v1 : Int) (t0 : Int) (σ : gs_Mem) : Option (Int × gs_Mem) :=
  if (gn t0) = 0 then
    some (((-10) - ((gs_st σ 70 5 0) 70 6)), (gs_st σ 70 5 0))
  else
    f_X7_read_L113 v1 gs_fuel 0 0 (gs_st σ 70 5 0)
set_option maxRecDepth 100000 in
set_option maxHeartbeats 4000000 in
theorem k_X7_read_J90 {E : gs_E}  (v1 : Int) (t0 : Int)   (σ : gs_Mem) : gs_K E (gs_MC E yX7_read cX7_read 6 (some .int) 0 { frames := 3, cells := 0, slots := 0, locals := 71 }) (fun b : Int × gs_Mem => b) (f_X7_read_J90 v1 t0 σ) 90 [(0, gr E 70), (1, gi v1)] [gi t0] σ := by
  unfold f_X7_read_J90
  refine gk_istore_n (L' := [(2, gi t0), (0, gr E 70), (1, gi v1)]) (pc := 90) dX7_read_90 (Nat.le_of_ble_eq_true rfl) rfl ?_
  refine gk_aload_n (pc := 91) 1 dX7_read_91 rfl ?_
  refine gk_iconst (pc := 92) dX7_read_92 ?_
  refine gk_putF (pc := 93) rfl clsX7 cll_70 sh_70 5 (by decide) rfl rfl rfl rfl ww_780 dX7_read_93 ?_
  refine gk_iload_n (pc := 96) 0 dX7_read_96 rfl ?_
  refine gk_if_ne (tgt := 108) (pc := 97) dX7_read_97 (by decide) rfl ?_ ?_
  · refine gk_iconst (pc := 108) dX7_read_108 ?_
    refine gk_istore_n (L' := [(3, gi 0), (2, gi t0), (0, gr E 70), (1, gi v1)]) (pc := 109) dX7_read_109 (Nat.le_of_ble_eq_true rfl) rfl ?_
    refine gk_iconst (pc := 110) dX7_read_110 ?_
    refine gk_istore (L' := [(4, gi 0), (3, gi 0), (2, gi t0), (0, gr E 70), (1, gi v1)]) (pc := 111) dX7_read_111 (Nat.le_of_ble_eq_true rfl) rfl ?_
    refine gk_sub (L' := [(0, gr E 70), (1, gi v1), (3, gi 0), (4, gi 0)]) [3, 4, 1, 0] rfl ?_
    exact k_X7_read_L113 v1 gs_fuel 0 0 (gs_st σ 70 5 0)
  · refine gk_bipush (pc := 100) dX7_read_100 (by decide +kernel) ?_
    refine gk_aload_n (pc := 102) 1 dX7_read_102 rfl ?_
    refine gk_getI (pc := 103) rfl clsX7 cll_70 sh_70 6 (by decide) rfl ww_781 dX7_read_103 ?_
    refine gk_isub (pc := 106) dX7_read_106 ?_
    exact gk_iret (pc := 107) rfl dX7_read_107
def f_X7_read_J89 (v1 : Int) (σ : gs_Mem) : Option (Int × gs_Mem) :=
  f_X7_read_J90 v1 0 σ
set_option maxRecDepth 100000 in
set_option maxHeartbeats 4000000 in
theorem k_X7_read_J89 {E : gs_E}  (v1 : Int)   (σ : gs_Mem) : gs_K E (gs_MC E yX7_read cX7_read 6 (some .int) 0 { frames := 3, cells := 0, slots := 0, locals := 71 }) (fun b : Int × gs_Mem => b) (f_X7_read_J89 v1 σ) 89 [(0, gr E 70), (1, gi v1)] [] σ := by
  unfold f_X7_read_J89
  refine gk_iconst (pc := 89) dX7_read_89 ?_
  exact k_X7_read_J90 v1 0 σ
def f_X7_read_J70 (v1 : Int) (v2 : Int) (σ : gs_Mem) : Option (Int × gs_Mem) :=
  if (gn v2) = 0 then
    f_X7_read_J89 v1 σ
  else
    if (gn (σ 70 6)) = (gn (σ 70 5)) then
      f_X7_read_J90 v1 1 σ
    else
      f_X7_read_J89 v1 σ
set_option maxRecDepth 100000 in
set_option maxHeartbeats 4000000 in
theorem k_X7_read_J70 {E : gs_E}  (v1 : Int) (v2 : Int)   (σ : gs_Mem) : gs_K E (gs_MC E yX7_read cX7_read 6 (some .int) 0 { frames := 3, cells := 0, slots := 0, locals := 71 }) (fun b : Int × gs_Mem => b) (f_X7_read_J70 v1 v2 σ) 70 [(0, gr E 70), (1, gi v1), (2, gi v2)] [] σ := by
  unfold f_X7_read_J70
  refine gk_iload_n (pc := 70) 2 dX7_read_70 rfl ?_
  refine gk_if_eq (tgt := 89) (pc := 71) dX7_read_71 (by decide) rfl ?_ ?_
  · refine gk_sub (L' := [(0, gr E 70), (1, gi v1)]) [0, 1] rfl ?_
    exact k_X7_read_J89 v1 σ
  · refine gk_aload_n (pc := 74) 0 dX7_read_74 rfl ?_
    refine gk_getI (pc := 75) rfl clsX7 cll_70 sh_70 6 (by decide) rfl ww_781 dX7_read_75 ?_
    refine gk_aload_n (pc := 78) 0 dX7_read_78 rfl ?_
    refine gk_getI (pc := 79) rfl clsX7 cll_70 sh_70 5 (by decide) rfl ww_780 dX7_read_79 ?_
    refine gk_icmp_ne (tgt := 89) (pc := 82) dX7_read_82 (by decide) rfl rfl ?_ ?_
    · refine gk_sub (L' := [(0, gr E 70), (1, gi v1)]) [0, 1] rfl ?_
      exact k_X7_read_J89 v1 σ
    · refine gk_iconst (pc := 85) dX7_read_85 ?_
      refine gk_goto (tgt := 90) (pc := 86) dX7_read_86 (by decide) ?_
      refine gk_sub (L' := [(0, gr E 70), (1, gi v1)]) [0, 1] rfl ?_
      exact k_X7_read_J90 v1 1 σ
def f_X7_read  (σ : gs_Mem) : Option (Int × gs_Mem) :=
  f_X7_read_L9 (fun w1 w2 σ3 =>
    f_X7_read_J70 w1 w2 σ3) (fun w1 w2 σ6 =>
    f_X7_read_J70 w1 w2 σ6) gs_fuel 0 1 (gs_st σ 70 6 0)
set_option maxRecDepth 100000 in
set_option maxHeartbeats 4000000 in
theorem c_X7_read {E : gs_E}   (σ : gs_Mem) : gs_C E yX7_read cX7_read 6 (some .int) 0 { frames := 3, cells := 0, slots := 0, locals := 71 } [gr E 70] σ (f_X7_read  σ) (fun b : Int × gs_Mem => b) := by
  unfold f_X7_read
  refine gs_enter (L := [(0, gr E 70)]) (by decide) rfl rfl (Nat.le_of_ble_eq_true rfl) rfl ?_
  refine gk_aload_n (pc := 0) 0 dX7_read_0 rfl ?_
  refine gk_iconst (pc := 1) dX7_read_1 ?_
  refine gk_putF (pc := 2) rfl clsX7 cll_70 sh_70 6 (by decide) rfl rfl rfl rfl ww_781 dX7_read_2 ?_
  refine gk_iconst (pc := 5) dX7_read_5 ?_
  refine gk_istore_n (L' := [(1, gi 0), (0, gr E 70)]) (pc := 6) dX7_read_6 (Nat.le_of_ble_eq_true rfl) rfl ?_
  refine gk_iconst (pc := 7) dX7_read_7 ?_
  refine gk_istore_n (L' := [(2, gi 1), (1, gi 0), (0, gr E 70)]) (pc := 8) dX7_read_8 (Nat.le_of_ble_eq_true rfl) rfl ?_
  refine gk_sub (L' := [(0, gr E 70), (1, gi 0), (2, gi 1)]) [2, 1, 0] rfl ?_
  refine k_X7_read_L9 _ _ ?_ ?_ gs_fuel 0 1 (gs_st σ 70 6 0)
  · intro w1 w2 σ3
    refine gk_goto (tgt := 70) (pc := 54) dX7_read_54 (by decide) ?_
    exact k_X7_read_J70 w1 w2 σ3
  · intro w1 w2 σ6
    exact k_X7_read_J70 w1 w2 σ6
def f_X7_apartOf_J94 (σ : gs_Mem) (k36 : Int → Int → Option (Int)) (v3 : Int) (v5 : Int) (t0 : Int) : Option (Int) :=
  k36 t0 (v5 + 1)
set_option maxRecDepth 100000 in
set_option maxHeartbeats 4000000 in
theorem k_X7_apartOf_J94 {E : gs_E} (σ : gs_Mem) (k36 : Int → Int → Option (Int))  (v3 : Int) (v5 : Int) (t0 : Int)  (hk36 : ∀ (w4 : Int) (w5 : Int), gs_K E (gs_MC E yX7_apartOf cX7_apartOf 7 (some .int) 0 { frames := 1, cells := 0, slots := 0, locals := 21 }) (fun v : Int => (v, σ)) (k36 w4 w5) 36 [(0, gr E 70), (3, gi v3), (4, gi w4), (5, gi w5)] [] σ) : gs_K E (gs_MC E yX7_apartOf cX7_apartOf 7 (some .int) 0 { frames := 1, cells := 0, slots := 0, locals := 21 }) (fun v : Int => (v, σ)) (f_X7_apartOf_J94 σ k36 v3 v5 t0) 94 [(0, gr E 70), (3, gi v3), (5, gi v5)] [gi t0] σ := by
  unfold f_X7_apartOf_J94
  refine gk_istore (L' := [(4, gi t0), (0, gr E 70), (3, gi v3), (5, gi v5)]) (pc := 94) dX7_apartOf_94 (Nat.le_of_ble_eq_true rfl) rfl ?_
  refine gk_iinc (L' := [(5, gi (v5 + 1)), (4, gi t0), (0, gr E 70), (3, gi v3)]) (pc := 96) 3 dX7_apartOf_96 rfl (Nat.le_of_ble_eq_true rfl) rfl ?_
  refine gk_goto (tgt := 36) (pc := 99) dX7_apartOf_99 (by decide) ?_
  refine gk_sub (L' := [(0, gr E 70), (3, gi v3), (4, gi t0), (5, gi (v5 + 1))]) [2, 3, 1, 0] rfl ?_
  exact hk36 t0 (v5 + 1)
def f_X7_apartOf_J92 (σ : gs_Mem) (k36 : Int → Int → Option (Int)) (v3 : Int) (v4 : Int) (v5 : Int) : Option (Int) :=
  f_X7_apartOf_J94 σ k36 v3 v5 v4
set_option maxRecDepth 100000 in
set_option maxHeartbeats 4000000 in
theorem k_X7_apartOf_J92 {E : gs_E} (σ : gs_Mem) (k36 : Int → Int → Option (Int))  (v3 : Int) (v4 : Int) (v5 : Int)  (hk36 : ∀ (w4 : Int) (w5 : Int), gs_K E (gs_MC E yX7_apartOf cX7_apartOf 7 (some .int) 0 { frames := 1, cells := 0, slots := 0, locals := 21 }) (fun v : Int => (v, σ)) (k36 w4 w5) 36 [(0, gr E 70), (3, gi v3), (4, gi w4), (5, gi w5)] [] σ) : gs_K E (gs_MC E yX7_apartOf cX7_apartOf 7 (some .int) 0 { frames := 1, cells := 0, slots := 0, locals := 21 }) (fun v : Int => (v, σ)) (f_X7_apartOf_J92 σ k36 v3 v4 v5) 92 [(0, gr E 70), (3, gi v3), (4, gi v4), (5, gi v5)] [] σ := by
  unfold f_X7_apartOf_J92
  refine gk_iload (pc := 92) 2 dX7_apartOf_92 rfl ?_
  refine gk_sub (L' := [(0, gr E 70), (3, gi v3), (5, gi v5)]) [0, 1, 3] rfl ?_
  exact k_X7_apartOf_J94 σ k36 v3 v5 v4 hk36
def f_X7_apartOf_L36 (σ : gs_Mem) (v3 : Int) : Nat → Int → Int → Option (Int)
  | 0, _, _ => none
  | n + 1, v4, v5 =>
    if 3 ≤ (gn v5) then
      some v4
    else
      gs_chk (gn (36 + (2 * v5))) 84 (
      if (gn (σ 71 (gn (36 + (2 * v5))).toNat)) ≤ 0 then
        f_X7_apartOf_J92 σ (f_X7_apartOf_L36 σ v3 n) v3 v4 v5
      else
        if (gn ((σ 71 (gn (36 + (2 * v5))).toNat) * (σ 71 (gn (36 + (2 * v5))).toNat))) < (gn v3) then
          f_X7_apartOf_J92 σ (f_X7_apartOf_L36 σ v3 n) v3 v4 v5
        else
          gs_chk (gn ((36 + (2 * v5)) + 1)) 84 (
          f_X7_apartOf_J94 σ (f_X7_apartOf_L36 σ v3 n) v3 v5 (gmax v4 (σ 71 (gn ((36 + (2 * v5)) + 1)).toNat))))
set_option maxRecDepth 100000 in
set_option maxHeartbeats 4000000 in
theorem k_X7_apartOf_L36 {E : gs_E} (σ : gs_Mem) (v3 : Int)   : ∀ (n : Nat) (v4 : Int) (v5 : Int), gs_K E (gs_MC E yX7_apartOf cX7_apartOf 7 (some .int) 0 { frames := 1, cells := 0, slots := 0, locals := 21 }) (fun v : Int => (v, σ)) (f_X7_apartOf_L36 σ v3 n v4 v5) 36 [(0, gr E 70), (3, gi v3), (4, gi v4), (5, gi v5)] [] σ := by
  intro n
  induction n with
  | zero => intro v4 v5; rw [f_X7_apartOf_L36]; exact gk_none
  | succ n ih =>
    intro v4 v5; rw [f_X7_apartOf_L36]
    refine gk_iload (pc := 36) 3 dX7_apartOf_36 rfl ?_
    refine gk_iconst (pc := 38) dX7_apartOf_38 ?_
    refine gk_icmp_ge (tgt := 102) (pc := 39) dX7_apartOf_39 (by decide) rfl (by decide +kernel) ?_ ?_
    · refine gk_iload (pc := 102) 2 dX7_apartOf_102 rfl ?_
      exact gk_iret (pc := 104) rfl dX7_apartOf_104
    · refine gk_aload_n (pc := 42) 0 dX7_apartOf_42 rfl ?_
      refine gk_getR (q := 71) (pc := 43) rfl clsX7 cll_70 sh_70 0 (by decide) rfl ww_775 dX7_apartOf_43 ?_
      refine gk_bipush (pc := 46) dX7_apartOf_46 (by decide +kernel) ?_
      refine gk_iconst (pc := 48) dX7_apartOf_48 ?_
      refine gk_iload (pc := 49) 3 dX7_apartOf_49 rfl ?_
      refine gk_imul (pc := 51) dX7_apartOf_51 ?_
      refine gk_iadd (pc := 52) dX7_apartOf_52 ?_
      refine gk_iald_c (pc := 53) cll_71 sh_71 rfl dX7_apartOf_53 ?_
      refine gk_istore (L' := [(6, gi (σ 71 (gn (36 + (2 * v5))).toNat)), (0, gr E 70), (3, gi v3), (4, gi v4), (5, gi v5)]) (pc := 54) dX7_apartOf_54 (Nat.le_of_ble_eq_true rfl) rfl ?_
      refine gk_iload (pc := 56) 0 dX7_apartOf_56 rfl ?_
      refine gk_if_le (tgt := 92) (pc := 58) dX7_apartOf_58 (by decide) rfl ?_ ?_
      · refine gk_sub (L' := [(0, gr E 70), (3, gi v3), (4, gi v4), (5, gi v5)]) [1, 2, 3, 4] rfl ?_
        exact k_X7_apartOf_J92 σ (f_X7_apartOf_L36 σ v3 n) v3 v4 v5 ih
      · refine gk_iload_n (pc := 61) 2 dX7_apartOf_61 rfl ?_
        refine gk_iload (pc := 62) 0 dX7_apartOf_62 rfl ?_
        refine gk_iload (pc := 64) 0 dX7_apartOf_64 rfl ?_
        refine gk_imul (pc := 66) dX7_apartOf_66 ?_
        refine gk_icmp_gt (tgt := 92) (pc := 67) dX7_apartOf_67 (by decide) rfl rfl ?_ ?_
        · refine gk_sub (L' := [(0, gr E 70), (3, gi v3), (4, gi v4), (5, gi v5)]) [1, 2, 3, 4] rfl ?_
          exact k_X7_apartOf_J92 σ (f_X7_apartOf_L36 σ v3 n) v3 v4 v5 ih
        · refine gk_iload (pc := 70) 3 dX7_apartOf_70 rfl ?_
          refine gk_aload_n (pc := 72) 1 dX7_apartOf_72 rfl ?_
          refine gk_getR (q := 71) (pc := 73) rfl clsX7 cll_70 sh_70 0 (by decide) rfl ww_775 dX7_apartOf_73 ?_
          refine gk_bipush (pc := 76) dX7_apartOf_76 (by decide +kernel) ?_
          refine gk_iconst (pc := 78) dX7_apartOf_78 ?_
          refine gk_iload (pc := 79) 4 dX7_apartOf_79 rfl ?_
          refine gk_imul (pc := 81) dX7_apartOf_81 ?_
          refine gk_iadd (pc := 82) dX7_apartOf_82 ?_
          refine gk_iconst (pc := 83) dX7_apartOf_83 ?_
          refine gk_iadd (pc := 84) dX7_apartOf_84 ?_
          refine gk_iald_c (pc := 85) cll_71 sh_71 rfl dX7_apartOf_85 ?_
          refine gk_mmax (pc := 86) rfl mmw_RX7_113 (Nat.le_of_ble_eq_true rfl) (Nat.le_of_ble_eq_true rfl) ⟨Nat.le_refl 0, Nat.le_refl 0⟩ dX7_apartOf_86 ?_
          refine gk_goto (tgt := 94) (pc := 89) dX7_apartOf_89 (by decide) ?_
          refine gk_sub (L' := [(0, gr E 70), (3, gi v3), (5, gi v5)]) [1, 2, 4] rfl ?_
          exact k_X7_apartOf_J94 σ (f_X7_apartOf_L36 σ v3 n) v3 v5 (gmax v4 (σ 71 (gn ((36 + (2 * v5)) + 1)).toNat)) ih
def f_X7_apartOf (v1 : Int) (v2 : Int) (σ : gs_Mem) : Option (Int) :=
  (f_X7_x v1 σ).bind fun u1 =>
  (f_X7_x v2 σ).bind fun u2 =>
  (f_X7_square (u1 - u2) σ).bind fun u3 =>
  (f_X7_y v1 σ).bind fun u4 =>
  (f_X7_y v2 σ).bind fun u5 =>
  (f_X7_square (u4 - u5) σ).bind fun u6 =>
  f_X7_apartOf_L36 σ (u3 + u6) gs_fuel 0 0
set_option maxRecDepth 100000 in
set_option maxHeartbeats 4000000 in
theorem c_X7_apartOf {E : gs_E} (v1 : Int) (v2 : Int)  (σ : gs_Mem) : gs_C E yX7_apartOf cX7_apartOf 7 (some .int) 0 { frames := 1, cells := 0, slots := 0, locals := 21 } [gr E 70, gi v1, gi v2] σ (f_X7_apartOf v1 v2 σ) (fun v : Int => (v, σ)) := by
  unfold f_X7_apartOf
  refine gs_enter (L := [(0, gr E 70), (1, gi v1), (2, gi v2)]) (by decide) rfl rfl (Nat.le_of_ble_eq_true rfl) rfl ?_
  refine gk_aload_n (pc := 0) 0 dX7_apartOf_0 rfl ?_
  refine gk_iload_n (pc := 1) 1 dX7_apartOf_1 rfl ?_
  refine gk_callV_ir (As := [gi v1]) (pc := 2) (c_X7_x v1 σ) rfl mm_X7_x ww_824 clsX7 rfl cll_70 sh_70 (gs_fit_of (Nat.le_of_ble_eq_true rfl) (Nat.le_of_ble_eq_true rfl)) rfl rfl (Nat.le_of_ble_eq_true rfl) dX7_apartOf_2 (fun u1 => ?_)
  refine gk_aload_n (pc := 5) 0 dX7_apartOf_5 rfl ?_
  refine gk_iload_n (pc := 6) 2 dX7_apartOf_6 rfl ?_
  refine gk_callV_ir (As := [gi v2]) (pc := 7) (c_X7_x v2 σ) rfl mm_X7_x ww_824 clsX7 rfl cll_70 sh_70 (gs_fit_of (Nat.le_of_ble_eq_true rfl) (Nat.le_of_ble_eq_true rfl)) rfl rfl (Nat.le_of_ble_eq_true rfl) dX7_apartOf_7 (fun u2 => ?_)
  refine gk_isub (pc := 10) dX7_apartOf_10 ?_
  refine gk_callS_ir (As := [gi (u1 - u2)]) (pc := 11) (c_X7_square (u1 - u2) σ) rfl mm_X7_square ww_872 (gs_fit_of (Nat.le_of_ble_eq_true rfl) (Nat.le_of_ble_eq_true rfl)) rfl rfl (Nat.le_of_ble_eq_true rfl) dX7_apartOf_11 (fun u3 => ?_)
  refine gk_aload_n (pc := 14) 0 dX7_apartOf_14 rfl ?_
  refine gk_iload_n (pc := 15) 1 dX7_apartOf_15 rfl ?_
  refine gk_callV_ir (As := [gi v1]) (pc := 16) (c_X7_y v1 σ) rfl mm_X7_y ww_828 clsX7 rfl cll_70 sh_70 (gs_fit_of (Nat.le_of_ble_eq_true rfl) (Nat.le_of_ble_eq_true rfl)) rfl rfl (Nat.le_of_ble_eq_true rfl) dX7_apartOf_16 (fun u4 => ?_)
  refine gk_aload_n (pc := 19) 0 dX7_apartOf_19 rfl ?_
  refine gk_iload_n (pc := 20) 2 dX7_apartOf_20 rfl ?_
  refine gk_callV_ir (As := [gi v2]) (pc := 21) (c_X7_y v2 σ) rfl mm_X7_y ww_828 clsX7 rfl cll_70 sh_70 (gs_fit_of (Nat.le_of_ble_eq_true rfl) (Nat.le_of_ble_eq_true rfl)) rfl rfl (Nat.le_of_ble_eq_true rfl) dX7_apartOf_21 (fun u5 => ?_)
  refine gk_isub (pc := 24) dX7_apartOf_24 ?_
  refine gk_callS_ir (As := [gi (u4 - u5)]) (pc := 25) (c_X7_square (u4 - u5) σ) rfl mm_X7_square ww_872 (gs_fit_of (Nat.le_of_ble_eq_true rfl) (Nat.le_of_ble_eq_true rfl)) rfl rfl (Nat.le_of_ble_eq_true rfl) dX7_apartOf_25 (fun u6 => ?_)
  refine gk_iadd (pc := 28) dX7_apartOf_28 ?_
  refine gk_istore_n (L' := [(3, gi (u3 + u6)), (0, gr E 70), (1, gi v1), (2, gi v2)]) (pc := 29) dX7_apartOf_29 (Nat.le_of_ble_eq_true rfl) rfl ?_
  refine gk_iconst (pc := 30) dX7_apartOf_30 ?_
  refine gk_istore (L' := [(4, gi 0), (3, gi (u3 + u6)), (0, gr E 70), (1, gi v1), (2, gi v2)]) (pc := 31) dX7_apartOf_31 (Nat.le_of_ble_eq_true rfl) rfl ?_
  refine gk_iconst (pc := 33) dX7_apartOf_33 ?_
  refine gk_istore (L' := [(5, gi 0), (4, gi 0), (3, gi (u3 + u6)), (0, gr E 70), (1, gi v1), (2, gi v2)]) (pc := 34) dX7_apartOf_34 (Nat.le_of_ble_eq_true rfl) rfl ?_
  refine gk_sub (L' := [(0, gr E 70), (3, gi (u3 + u6)), (4, gi 0), (5, gi 0)]) [3, 2, 1, 0] rfl ?_
  exact k_X7_apartOf_L36 σ (u3 + u6) gs_fuel 0 0
def f_X7_isClash (v1 : Int) (v2 : Int) (σ : gs_Mem) : Option (Int) :=
  if (gn v1) = (gn v2) then
    some 0
  else
    (f_X7_channelOf v1 σ).bind fun u1 =>
    if (gn u1) < 0 then
      some 0
    else
      (f_X7_channelOf v2 σ).bind fun u2 =>
      if (gn u2) < 0 then
        some 0
      else
        (f_X7_channelOf v1 σ).bind fun u3 =>
        (f_X7_channelOf v2 σ).bind fun u4 =>
        (f_X7_apartOf v1 v2 σ).bind fun u5 =>
        if (gn u5) ≤ (gn (gabs (u3 - u4))) then
          some 0
        else
          some 1
set_option maxRecDepth 100000 in
set_option maxHeartbeats 4000000 in
theorem c_X7_isClash {E : gs_E} (v1 : Int) (v2 : Int)  (σ : gs_Mem) : gs_C E yX7_isClash cX7_isClash 3 (some .boolean) 0 { frames := 2, cells := 0, slots := 0, locals := 47 } [gr E 70, gi v1, gi v2] σ (f_X7_isClash v1 v2 σ) (fun v : Int => (v, σ)) := by
  unfold f_X7_isClash
  refine gs_enter (L := [(0, gr E 70), (1, gi v1), (2, gi v2)]) (by decide) rfl rfl (Nat.le_of_ble_eq_true rfl) rfl ?_
  refine gk_iload_n (pc := 0) 1 dX7_isClash_0 rfl ?_
  refine gk_iload_n (pc := 1) 2 dX7_isClash_1 rfl ?_
  refine gk_icmp_eq (tgt := 48) (pc := 2) dX7_isClash_2 (by decide) rfl rfl ?_ ?_
  · refine gk_iconst (pc := 48) dX7_isClash_48 ?_
    exact gk_zret (pc := 49) (Or.inl (by decide +kernel)) rfl dX7_isClash_49
  · refine gk_aload_n (pc := 5) 0 dX7_isClash_5 rfl ?_
    refine gk_iload_n (pc := 6) 1 dX7_isClash_6 rfl ?_
    refine gk_callV_ir (As := [gi v1]) (pc := 7) (c_X7_channelOf v1 σ) rfl mm_X7_channelOf ww_853 clsX7 rfl cll_70 sh_70 (gs_fit_of (Nat.le_of_ble_eq_true rfl) (Nat.le_of_ble_eq_true rfl)) rfl rfl (Nat.le_of_ble_eq_true rfl) dX7_isClash_7 (fun u1 => ?_)
    refine gk_if_lt (tgt := 48) (pc := 10) dX7_isClash_10 (by decide) rfl ?_ ?_
    · refine gk_iconst (pc := 48) dX7_isClash_48 ?_
      exact gk_zret (pc := 49) (Or.inl (by decide +kernel)) rfl dX7_isClash_49
    · refine gk_aload_n (pc := 13) 0 dX7_isClash_13 rfl ?_
      refine gk_iload_n (pc := 14) 2 dX7_isClash_14 rfl ?_
      refine gk_callV_ir (As := [gi v2]) (pc := 15) (c_X7_channelOf v2 σ) rfl mm_X7_channelOf ww_853 clsX7 rfl cll_70 sh_70 (gs_fit_of (Nat.le_of_ble_eq_true rfl) (Nat.le_of_ble_eq_true rfl)) rfl rfl (Nat.le_of_ble_eq_true rfl) dX7_isClash_15 (fun u2 => ?_)
      refine gk_if_lt (tgt := 48) (pc := 18) dX7_isClash_18 (by decide) rfl ?_ ?_
      · refine gk_iconst (pc := 48) dX7_isClash_48 ?_
        exact gk_zret (pc := 49) (Or.inl (by decide +kernel)) rfl dX7_isClash_49
      · refine gk_aload_n (pc := 21) 0 dX7_isClash_21 rfl ?_
        refine gk_iload_n (pc := 22) 1 dX7_isClash_22 rfl ?_
        refine gk_callV_ir (As := [gi v1]) (pc := 23) (c_X7_channelOf v1 σ) rfl mm_X7_channelOf ww_853 clsX7 rfl cll_70 sh_70 (gs_fit_of (Nat.le_of_ble_eq_true rfl) (Nat.le_of_ble_eq_true rfl)) rfl rfl (Nat.le_of_ble_eq_true rfl) dX7_isClash_23 (fun u3 => ?_)
        refine gk_aload_n (pc := 26) 0 dX7_isClash_26 rfl ?_
        refine gk_iload_n (pc := 27) 2 dX7_isClash_27 rfl ?_
        refine gk_callV_ir (As := [gi v2]) (pc := 28) (c_X7_channelOf v2 σ) rfl mm_X7_channelOf ww_853 clsX7 rfl cll_70 sh_70 (gs_fit_of (Nat.le_of_ble_eq_true rfl) (Nat.le_of_ble_eq_true rfl)) rfl rfl (Nat.le_of_ble_eq_true rfl) dX7_isClash_28 (fun u4 => ?_)
        refine gk_isub (pc := 31) dX7_isClash_31 ?_
        refine gk_mabs (pc := 32) rfl mmw_RX7_118 (Nat.le_of_ble_eq_true rfl) (Nat.le_of_ble_eq_true rfl) ⟨Nat.le_refl 0, Nat.le_refl 0⟩ dX7_isClash_32 ?_
        refine gk_aload_n (pc := 35) 0 dX7_isClash_35 rfl ?_
        refine gk_iload_n (pc := 36) 1 dX7_isClash_36 rfl ?_
        refine gk_iload_n (pc := 37) 2 dX7_isClash_37 rfl ?_
        refine gk_callV_ir (As := [gi v1, gi v2]) (pc := 38) (c_X7_apartOf v1 v2 σ) rfl mm_X7_apartOf ww_915 clsX7 rfl cll_70 sh_70 (gs_fit_of (Nat.le_of_ble_eq_true rfl) (Nat.le_of_ble_eq_true rfl)) rfl rfl (Nat.le_of_ble_eq_true rfl) dX7_isClash_38 (fun u5 => ?_)
        refine gk_icmp_ge (tgt := 48) (pc := 41) dX7_isClash_41 (by decide) rfl rfl ?_ ?_
        · refine gk_iconst (pc := 48) dX7_isClash_48 ?_
          exact gk_zret (pc := 49) (Or.inl (by decide +kernel)) rfl dX7_isClash_49
        · refine gk_iconst (pc := 44) dX7_isClash_44 ?_
          refine gk_goto (tgt := 49) (pc := 45) dX7_isClash_45 (by decide) ?_
          exact gk_zret (pc := 49) (Or.inr (by decide +kernel)) rfl dX7_isClash_49
def f_X7_clashesOf_J29 (σ : gs_Mem) (k4 : Int → Int → Option (Int)) (v1 : Int) (v3 : Int) (t0 : Int) (t1 : Int) : Option (Int) :=
  k4 (t1 + t0) (v3 + 1)
set_option maxRecDepth 100000 in
set_option maxHeartbeats 4000000 in
theorem k_X7_clashesOf_J29 {E : gs_E} (σ : gs_Mem) (k4 : Int → Int → Option (Int))  (v1 : Int) (v3 : Int) (t0 : Int) (t1 : Int)  (hk4 : ∀ (w2 : Int) (w3 : Int), gs_K E (gs_MC E yX7_clashesOf cX7_clashesOf 4 (some .int) 0 { frames := 3, cells := 0, slots := 0, locals := 69 }) (fun v : Int => (v, σ)) (k4 w2 w3) 4 [(0, gr E 70), (1, gi v1), (2, gi w2), (3, gi w3)] [] σ) : gs_K E (gs_MC E yX7_clashesOf cX7_clashesOf 4 (some .int) 0 { frames := 3, cells := 0, slots := 0, locals := 69 }) (fun v : Int => (v, σ)) (f_X7_clashesOf_J29 σ k4 v1 v3 t0 t1) 29 [(0, gr E 70), (1, gi v1), (3, gi v3)] [gi t0, gi t1] σ := by
  unfold f_X7_clashesOf_J29
  refine gk_iadd (pc := 29) dX7_clashesOf_29 ?_
  refine gk_istore_n (L' := [(2, gi (t1 + t0)), (0, gr E 70), (1, gi v1), (3, gi v3)]) (pc := 30) dX7_clashesOf_30 (Nat.le_of_ble_eq_true rfl) rfl ?_
  refine gk_iinc (L' := [(3, gi (v3 + 1)), (2, gi (t1 + t0)), (0, gr E 70), (1, gi v1)]) (pc := 31) 3 dX7_clashesOf_31 rfl (Nat.le_of_ble_eq_true rfl) rfl ?_
  refine gk_goto (tgt := 4) (pc := 34) dX7_clashesOf_34 (by decide) ?_
  refine gk_sub (L' := [(0, gr E 70), (1, gi v1), (2, gi (t1 + t0)), (3, gi (v3 + 1))]) [2, 3, 1, 0] rfl ?_
  exact hk4 (t1 + t0) (v3 + 1)
def f_X7_clashesOf_L4 (σ : gs_Mem) (v1 : Int) : Nat → Int → Int → Option (Int)
  | 0, _, _ => none
  | n + 1, v2, v3 =>
    gs_chk 0 84 (
    if (gn (σ 71 0)) ≤ (gn v3) then
      some v2
    else
      (f_X7_isClash v1 v3 σ).bind fun u1 =>
      if (gn u1) = 0 then
        f_X7_clashesOf_J29 σ (f_X7_clashesOf_L4 σ v1 n) v1 v3 0 v2
      else
        f_X7_clashesOf_J29 σ (f_X7_clashesOf_L4 σ v1 n) v1 v3 1 v2)
set_option maxRecDepth 100000 in
set_option maxHeartbeats 4000000 in
theorem k_X7_clashesOf_L4 {E : gs_E} (σ : gs_Mem) (v1 : Int)   : ∀ (n : Nat) (v2 : Int) (v3 : Int), gs_K E (gs_MC E yX7_clashesOf cX7_clashesOf 4 (some .int) 0 { frames := 3, cells := 0, slots := 0, locals := 69 }) (fun v : Int => (v, σ)) (f_X7_clashesOf_L4 σ v1 n v2 v3) 4 [(0, gr E 70), (1, gi v1), (2, gi v2), (3, gi v3)] [] σ := by
  intro n
  induction n with
  | zero => intro v2 v3; rw [f_X7_clashesOf_L4]; exact gk_none
  | succ n ih =>
    intro v2 v3; rw [f_X7_clashesOf_L4]
    refine gk_iload_n (pc := 4) 3 dX7_clashesOf_4 rfl ?_
    refine gk_aload_n (pc := 5) 0 dX7_clashesOf_5 rfl ?_
    refine gk_getR (q := 71) (pc := 6) rfl clsX7 cll_70 sh_70 0 (by decide) rfl ww_775 dX7_clashesOf_6 ?_
    refine gk_iconst (pc := 9) dX7_clashesOf_9 ?_
    refine gk_iald_c (pc := 10) cll_71 sh_71 (by decide +kernel) dX7_clashesOf_10 ?_
    refine gk_icmp_ge (tgt := 37) (pc := 11) dX7_clashesOf_11 (by decide) rfl rfl ?_ ?_
    · refine gk_iload_n (pc := 37) 2 dX7_clashesOf_37 rfl ?_
      exact gk_iret (pc := 38) rfl dX7_clashesOf_38
    · refine gk_iload_n (pc := 14) 2 dX7_clashesOf_14 rfl ?_
      refine gk_aload_n (pc := 15) 0 dX7_clashesOf_15 rfl ?_
      refine gk_iload_n (pc := 16) 1 dX7_clashesOf_16 rfl ?_
      refine gk_iload_n (pc := 17) 3 dX7_clashesOf_17 rfl ?_
      refine gk_callV_ir (As := [gi v1, gi v3]) (pc := 18) (c_X7_isClash v1 v3 σ) rfl mm_X7_isClash ww_932 clsX7 rfl cll_70 sh_70 (gs_fit_of (Nat.le_of_ble_eq_true rfl) (Nat.le_of_ble_eq_true rfl)) rfl rfl (Nat.le_of_ble_eq_true rfl) dX7_clashesOf_18 (fun u1 => ?_)
      refine gk_if_eq (tgt := 28) (pc := 21) dX7_clashesOf_21 (by decide) rfl ?_ ?_
      · refine gk_iconst (pc := 28) dX7_clashesOf_28 ?_
        refine gk_sub (L' := [(0, gr E 70), (1, gi v1), (3, gi v3)]) [0, 1, 3] rfl ?_
        exact k_X7_clashesOf_J29 σ (f_X7_clashesOf_L4 σ v1 n) v1 v3 0 v2 ih
      · refine gk_iconst (pc := 24) dX7_clashesOf_24 ?_
        refine gk_goto (tgt := 29) (pc := 25) dX7_clashesOf_25 (by decide) ?_
        refine gk_sub (L' := [(0, gr E 70), (1, gi v1), (3, gi v3)]) [0, 1, 3] rfl ?_
        exact k_X7_clashesOf_J29 σ (f_X7_clashesOf_L4 σ v1 n) v1 v3 1 v2 ih
def f_X7_clashesOf (v1 : Int) (σ : gs_Mem) : Option (Int) :=
  f_X7_clashesOf_L4 σ v1 gs_fuel 0 0
set_option maxRecDepth 100000 in
set_option maxHeartbeats 4000000 in
theorem c_X7_clashesOf {E : gs_E} (v1 : Int)  (σ : gs_Mem) : gs_C E yX7_clashesOf cX7_clashesOf 4 (some .int) 0 { frames := 3, cells := 0, slots := 0, locals := 69 } [gr E 70, gi v1] σ (f_X7_clashesOf v1 σ) (fun v : Int => (v, σ)) := by
  unfold f_X7_clashesOf
  refine gs_enter (L := [(0, gr E 70), (1, gi v1)]) (by decide) rfl rfl (Nat.le_of_ble_eq_true rfl) rfl ?_
  refine gk_iconst (pc := 0) dX7_clashesOf_0 ?_
  refine gk_istore_n (L' := [(2, gi 0), (0, gr E 70), (1, gi v1)]) (pc := 1) dX7_clashesOf_1 (Nat.le_of_ble_eq_true rfl) rfl ?_
  refine gk_iconst (pc := 2) dX7_clashesOf_2 ?_
  refine gk_istore_n (L' := [(3, gi 0), (2, gi 0), (0, gr E 70), (1, gi v1)]) (pc := 3) dX7_clashesOf_3 (Nat.le_of_ble_eq_true rfl) rfl ?_
  refine gk_sub (L' := [(0, gr E 70), (1, gi v1), (2, gi 0), (3, gi 0)]) [2, 3, 1, 0] rfl ?_
  exact k_X7_clashesOf_L4 σ v1 gs_fuel 0 0
def f_X7_clashes_L4 (σ : gs_Mem)  (k28 : Int → Option (Int)) : Nat → Int → Int → Option (Int)
  | 0, _, _ => none
  | n + 1, v1, v2 =>
    gs_chk 0 84 (
    if (gn (σ 71 0)) ≤ (gn v2) then
      k28 v1
    else
      (f_X7_clashesOf v2 σ).bind fun u1 =>
      f_X7_clashes_L4 σ k28 n (v1 + u1) (v2 + 1))
set_option maxRecDepth 100000 in
set_option maxHeartbeats 4000000 in
theorem k_X7_clashes_L4 {E : gs_E} (σ : gs_Mem)  (k28 : Int → Option (Int))  (hk28 : ∀ (w1 : Int), gs_K E (gs_MC E yX7_clashes cX7_clashes 3 (some .int) 0 { frames := 4, cells := 0, slots := 0, locals := 92 }) (fun v : Int => (v, σ)) (k28 w1) 28 [(1, gi w1)] [] σ) : ∀ (n : Nat) (v1 : Int) (v2 : Int), gs_K E (gs_MC E yX7_clashes cX7_clashes 3 (some .int) 0 { frames := 4, cells := 0, slots := 0, locals := 92 }) (fun v : Int => (v, σ)) (f_X7_clashes_L4 σ k28 n v1 v2) 4 [(0, gr E 70), (1, gi v1), (2, gi v2)] [] σ := by
  intro n
  induction n with
  | zero => intro v1 v2; rw [f_X7_clashes_L4]; exact gk_none
  | succ n ih =>
    intro v1 v2; rw [f_X7_clashes_L4]
    refine gk_iload_n (pc := 4) 2 dX7_clashes_4 rfl ?_
    refine gk_aload_n (pc := 5) 0 dX7_clashes_5 rfl ?_
    refine gk_getR (q := 71) (pc := 6) rfl clsX7 cll_70 sh_70 0 (by decide) rfl ww_775 dX7_clashes_6 ?_
    refine gk_iconst (pc := 9) dX7_clashes_9 ?_
    refine gk_iald_c (pc := 10) cll_71 sh_71 (by decide +kernel) dX7_clashes_10 ?_
    refine gk_icmp_ge (tgt := 28) (pc := 11) dX7_clashes_11 (by decide) rfl rfl ?_ ?_
    · refine gk_sub (L' := [(1, gi v1)]) [1] rfl ?_
      exact hk28 v1
    · refine gk_iload_n (pc := 14) 1 dX7_clashes_14 rfl ?_
      refine gk_aload_n (pc := 15) 0 dX7_clashes_15 rfl ?_
      refine gk_iload_n (pc := 16) 2 dX7_clashes_16 rfl ?_
      refine gk_callV_ir (As := [gi v2]) (pc := 17) (c_X7_clashesOf v2 σ) rfl mm_X7_clashesOf ww_928 clsX7 rfl cll_70 sh_70 (gs_fit_of (Nat.le_of_ble_eq_true rfl) (Nat.le_of_ble_eq_true rfl)) rfl rfl (Nat.le_of_ble_eq_true rfl) dX7_clashes_17 (fun u1 => ?_)
      refine gk_iadd (pc := 20) dX7_clashes_20 ?_
      refine gk_istore_n (L' := [(1, gi (v1 + u1)), (0, gr E 70), (2, gi v2)]) (pc := 21) dX7_clashes_21 (Nat.le_of_ble_eq_true rfl) rfl ?_
      refine gk_iinc (L' := [(2, gi (v2 + 1)), (1, gi (v1 + u1)), (0, gr E 70)]) (pc := 22) 2 dX7_clashes_22 rfl (Nat.le_of_ble_eq_true rfl) rfl ?_
      refine gk_goto (tgt := 4) (pc := 25) dX7_clashes_25 (by decide) ?_
      refine gk_sub (L' := [(0, gr E 70), (1, gi (v1 + u1)), (2, gi (v2 + 1))]) [2, 1, 0] rfl ?_
      exact ih (v1 + u1) (v2 + 1)
def f_X7_clashes  (σ : gs_Mem) : Option (Int) :=
  f_X7_clashes_L4 σ (fun w1 =>
    gs_chk0 2 (
    some (gdiv w1 2))) gs_fuel 0 0
set_option maxRecDepth 100000 in
set_option maxHeartbeats 4000000 in
theorem c_X7_clashes {E : gs_E}   (σ : gs_Mem) : gs_C E yX7_clashes cX7_clashes 3 (some .int) 0 { frames := 4, cells := 0, slots := 0, locals := 92 } [gr E 70] σ (f_X7_clashes  σ) (fun v : Int => (v, σ)) := by
  unfold f_X7_clashes
  refine gs_enter (L := [(0, gr E 70)]) (by decide) rfl rfl (Nat.le_of_ble_eq_true rfl) rfl ?_
  refine gk_iconst (pc := 0) dX7_clashes_0 ?_
  refine gk_istore_n (L' := [(1, gi 0), (0, gr E 70)]) (pc := 1) dX7_clashes_1 (Nat.le_of_ble_eq_true rfl) rfl ?_
  refine gk_iconst (pc := 2) dX7_clashes_2 ?_
  refine gk_istore_n (L' := [(2, gi 0), (1, gi 0), (0, gr E 70)]) (pc := 3) dX7_clashes_3 (Nat.le_of_ble_eq_true rfl) rfl ?_
  refine gk_sub (L' := [(0, gr E 70), (1, gi 0), (2, gi 0)]) [2, 1, 0] rfl ?_
  refine k_X7_clashes_L4 σ _ ?_ gs_fuel 0 0
  · intro w1
    refine gk_iload_n (pc := 28) 0 dX7_clashes_28 rfl ?_
    refine gk_iconst (pc := 29) dX7_clashes_29 ?_
    refine gk_idiv_g (pc := 30) dX7_clashes_30 (by decide +kernel) ?_
    exact gk_iret (pc := 31) rfl dX7_clashes_31
def f_X7_isAllowed_J46 (σ : gs_Mem) (k2 : Int → Option (Int)) (v1 : Int) (v2 : Int) (v3 : Int) : Option (Int) :=
  k2 (v3 + 1)
set_option maxRecDepth 100000 in
set_option maxHeartbeats 4000000 in
theorem k_X7_isAllowed_J46 {E : gs_E} (σ : gs_Mem) (k2 : Int → Option (Int))  (v1 : Int) (v2 : Int) (v3 : Int)  (hk2 : ∀ (w3 : Int), gs_K E (gs_MC E yX7_isAllowed cX7_isAllowed 4 (some .boolean) 0 { frames := 2, cells := 0, slots := 0, locals := 47 }) (fun v : Int => (v, σ)) (k2 w3) 2 [(0, gr E 70), (1, gi v1), (2, gi v2), (3, gi w3)] [] σ) : gs_K E (gs_MC E yX7_isAllowed cX7_isAllowed 4 (some .boolean) 0 { frames := 2, cells := 0, slots := 0, locals := 47 }) (fun v : Int => (v, σ)) (f_X7_isAllowed_J46 σ k2 v1 v2 v3) 46 [(0, gr E 70), (1, gi v1), (2, gi v2), (3, gi v3)] [] σ := by
  unfold f_X7_isAllowed_J46
  refine gk_iinc (L' := [(3, gi (v3 + 1)), (0, gr E 70), (1, gi v1), (2, gi v2)]) (pc := 46) 3 dX7_isAllowed_46 rfl (Nat.le_of_ble_eq_true rfl) rfl ?_
  refine gk_goto (tgt := 2) (pc := 49) dX7_isAllowed_49 (by decide) ?_
  refine gk_sub (L' := [(0, gr E 70), (1, gi v1), (2, gi v2), (3, gi (v3 + 1))]) [1, 2, 3, 0] rfl ?_
  exact hk2 (v3 + 1)
def f_X7_isAllowed_L2 (σ : gs_Mem) (v1 : Int) (v2 : Int) : Nat → Int → Option (Int)
  | 0, _ => none
  | n + 1, v3 =>
    gs_chk 0 84 (
    if (gn (σ 71 0)) ≤ (gn v3) then
      some 1
    else
      if (gn v3) = (gn v1) then
        f_X7_isAllowed_J46 σ (f_X7_isAllowed_L2 σ v1 v2 n) v1 v2 v3
      else
        (f_X7_channelOf v3 σ).bind fun u1 =>
        if (gn u1) < 0 then
          f_X7_isAllowed_J46 σ (f_X7_isAllowed_L2 σ v1 v2 n) v1 v2 v3
        else
          (f_X7_channelOf v3 σ).bind fun u2 =>
          (f_X7_apartOf v1 v3 σ).bind fun u3 =>
          if (gn u3) ≤ (gn (gabs (u2 - v2))) then
            f_X7_isAllowed_J46 σ (f_X7_isAllowed_L2 σ v1 v2 n) v1 v2 v3
          else
            some 0)
set_option maxRecDepth 100000 in
set_option maxHeartbeats 4000000 in
theorem k_X7_isAllowed_L2 {E : gs_E} (σ : gs_Mem) (v1 : Int) (v2 : Int)   : ∀ (n : Nat) (v3 : Int), gs_K E (gs_MC E yX7_isAllowed cX7_isAllowed 4 (some .boolean) 0 { frames := 2, cells := 0, slots := 0, locals := 47 }) (fun v : Int => (v, σ)) (f_X7_isAllowed_L2 σ v1 v2 n v3) 2 [(0, gr E 70), (1, gi v1), (2, gi v2), (3, gi v3)] [] σ := by
  intro n
  induction n with
  | zero => intro v3; rw [f_X7_isAllowed_L2]; exact gk_none
  | succ n ih =>
    intro v3; rw [f_X7_isAllowed_L2]
    refine gk_iload_n (pc := 2) 3 dX7_isAllowed_2 rfl ?_
    refine gk_aload_n (pc := 3) 0 dX7_isAllowed_3 rfl ?_
    refine gk_getR (q := 71) (pc := 4) rfl clsX7 cll_70 sh_70 0 (by decide) rfl ww_775 dX7_isAllowed_4 ?_
    refine gk_iconst (pc := 7) dX7_isAllowed_7 ?_
    refine gk_iald_c (pc := 8) cll_71 sh_71 (by decide +kernel) dX7_isAllowed_8 ?_
    refine gk_icmp_ge (tgt := 52) (pc := 9) dX7_isAllowed_9 (by decide) rfl rfl ?_ ?_
    · refine gk_iconst (pc := 52) dX7_isAllowed_52 ?_
      exact gk_zret (pc := 53) (Or.inr (by decide +kernel)) rfl dX7_isAllowed_53
    · refine gk_iload_n (pc := 12) 3 dX7_isAllowed_12 rfl ?_
      refine gk_iload_n (pc := 13) 1 dX7_isAllowed_13 rfl ?_
      refine gk_icmp_eq (tgt := 46) (pc := 14) dX7_isAllowed_14 (by decide) rfl rfl ?_ ?_
      · exact k_X7_isAllowed_J46 σ (f_X7_isAllowed_L2 σ v1 v2 n) v1 v2 v3 ih
      · refine gk_aload_n (pc := 17) 0 dX7_isAllowed_17 rfl ?_
        refine gk_iload_n (pc := 18) 3 dX7_isAllowed_18 rfl ?_
        refine gk_callV_ir (As := [gi v3]) (pc := 19) (c_X7_channelOf v3 σ) rfl mm_X7_channelOf ww_853 clsX7 rfl cll_70 sh_70 (gs_fit_of (Nat.le_of_ble_eq_true rfl) (Nat.le_of_ble_eq_true rfl)) rfl rfl (Nat.le_of_ble_eq_true rfl) dX7_isAllowed_19 (fun u1 => ?_)
        refine gk_if_lt (tgt := 46) (pc := 22) dX7_isAllowed_22 (by decide) rfl ?_ ?_
        · exact k_X7_isAllowed_J46 σ (f_X7_isAllowed_L2 σ v1 v2 n) v1 v2 v3 ih
        · refine gk_aload_n (pc := 25) 0 dX7_isAllowed_25 rfl ?_
          refine gk_iload_n (pc := 26) 3 dX7_isAllowed_26 rfl ?_
          refine gk_callV_ir (As := [gi v3]) (pc := 27) (c_X7_channelOf v3 σ) rfl mm_X7_channelOf ww_853 clsX7 rfl cll_70 sh_70 (gs_fit_of (Nat.le_of_ble_eq_true rfl) (Nat.le_of_ble_eq_true rfl)) rfl rfl (Nat.le_of_ble_eq_true rfl) dX7_isAllowed_27 (fun u2 => ?_)
          refine gk_iload_n (pc := 30) 2 dX7_isAllowed_30 rfl ?_
          refine gk_isub (pc := 31) dX7_isAllowed_31 ?_
          refine gk_mabs (pc := 32) rfl mmw_RX7_118 (Nat.le_of_ble_eq_true rfl) (Nat.le_of_ble_eq_true rfl) ⟨Nat.le_refl 0, Nat.le_refl 0⟩ dX7_isAllowed_32 ?_
          refine gk_aload_n (pc := 35) 0 dX7_isAllowed_35 rfl ?_
          refine gk_iload_n (pc := 36) 1 dX7_isAllowed_36 rfl ?_
          refine gk_iload_n (pc := 37) 3 dX7_isAllowed_37 rfl ?_
          refine gk_callV_ir (As := [gi v1, gi v3]) (pc := 38) (c_X7_apartOf v1 v3 σ) rfl mm_X7_apartOf ww_915 clsX7 rfl cll_70 sh_70 (gs_fit_of (Nat.le_of_ble_eq_true rfl) (Nat.le_of_ble_eq_true rfl)) rfl rfl (Nat.le_of_ble_eq_true rfl) dX7_isAllowed_38 (fun u3 => ?_)
          refine gk_icmp_ge (tgt := 46) (pc := 41) dX7_isAllowed_41 (by decide) rfl rfl ?_ ?_
          · exact k_X7_isAllowed_J46 σ (f_X7_isAllowed_L2 σ v1 v2 n) v1 v2 v3 ih
          · refine gk_iconst (pc := 44) dX7_isAllowed_44 ?_
            exact gk_zret (pc := 45) (Or.inl (by decide +kernel)) rfl dX7_isAllowed_45
def f_X7_isAllowed (v1 : Int) (v2 : Int) (σ : gs_Mem) : Option (Int) :=
  f_X7_isAllowed_L2 σ v1 v2 gs_fuel 0
set_option maxRecDepth 100000 in
set_option maxHeartbeats 4000000 in
theorem c_X7_isAllowed {E : gs_E} (v1 : Int) (v2 : Int)  (σ : gs_Mem) : gs_C E yX7_isAllowed cX7_isAllowed 4 (some .boolean) 0 { frames := 2, cells := 0, slots := 0, locals := 47 } [gr E 70, gi v1, gi v2] σ (f_X7_isAllowed v1 v2 σ) (fun v : Int => (v, σ)) := by
  unfold f_X7_isAllowed
  refine gs_enter (L := [(0, gr E 70), (1, gi v1), (2, gi v2)]) (by decide) rfl rfl (Nat.le_of_ble_eq_true rfl) rfl ?_
  refine gk_iconst (pc := 0) dX7_isAllowed_0 ?_
  refine gk_istore_n (L' := [(3, gi 0), (0, gr E 70), (1, gi v1), (2, gi v2)]) (pc := 1) dX7_isAllowed_1 (Nat.le_of_ble_eq_true rfl) rfl ?_
  refine gk_sub (L' := [(0, gr E 70), (1, gi v1), (2, gi v2), (3, gi 0)]) [1, 2, 3, 0] rfl ?_
  exact k_X7_isAllowed_L2 σ v1 v2 gs_fuel 0
def f_X7_allowed_J27 (σ : gs_Mem) (k5 : Int → Int → Option (Int)) (v1 : Int) (v2 : Int) (v4 : Int) (t0 : Int) (t1 : Int) : Option (Int) :=
  k5 (t1 + t0) (v4 + 1)
set_option maxRecDepth 100000 in
set_option maxHeartbeats 4000000 in
theorem k_X7_allowed_J27 {E : gs_E} (σ : gs_Mem) (k5 : Int → Int → Option (Int))  (v1 : Int) (v2 : Int) (v4 : Int) (t0 : Int) (t1 : Int)  (hk5 : ∀ (w3 : Int) (w4 : Int), gs_K E (gs_MC E yX7_allowed cX7_allowed 5 (some .int) 0 { frames := 3, cells := 0, slots := 0, locals := 70 }) (fun v : Int => (v, σ)) (k5 w3 w4) 5 [(0, gr E 70), (1, gi v1), (2, gi v2), (3, gi w3), (4, gi w4)] [] σ) : gs_K E (gs_MC E yX7_allowed cX7_allowed 5 (some .int) 0 { frames := 3, cells := 0, slots := 0, locals := 70 }) (fun v : Int => (v, σ)) (f_X7_allowed_J27 σ k5 v1 v2 v4 t0 t1) 27 [(0, gr E 70), (1, gi v1), (2, gi v2), (4, gi v4)] [gi t0, gi t1] σ := by
  unfold f_X7_allowed_J27
  refine gk_iadd (pc := 27) dX7_allowed_27 ?_
  refine gk_istore_n (L' := [(3, gi (t1 + t0)), (0, gr E 70), (1, gi v1), (2, gi v2), (4, gi v4)]) (pc := 28) dX7_allowed_28 (Nat.le_of_ble_eq_true rfl) rfl ?_
  refine gk_iinc (L' := [(4, gi (v4 + 1)), (3, gi (t1 + t0)), (0, gr E 70), (1, gi v1), (2, gi v2)]) (pc := 29) 4 dX7_allowed_29 rfl (Nat.le_of_ble_eq_true rfl) rfl ?_
  refine gk_goto (tgt := 5) (pc := 32) dX7_allowed_32 (by decide) ?_
  refine gk_sub (L' := [(0, gr E 70), (1, gi v1), (2, gi v2), (3, gi (t1 + t0)), (4, gi (v4 + 1))]) [2, 3, 4, 1, 0] rfl ?_
  exact hk5 (t1 + t0) (v4 + 1)
def f_X7_allowed_L5 (σ : gs_Mem) (v1 : Int) (v2 : Int) : Nat → Int → Int → Option (Int)
  | 0, _, _ => none
  | n + 1, v3, v4 =>
    if (gn v2) ≤ (gn v4) then
      some v3
    else
      (f_X7_isAllowed v1 v4 σ).bind fun u1 =>
      if (gn u1) = 0 then
        f_X7_allowed_J27 σ (f_X7_allowed_L5 σ v1 v2 n) v1 v2 v4 0 v3
      else
        f_X7_allowed_J27 σ (f_X7_allowed_L5 σ v1 v2 n) v1 v2 v4 1 v3
set_option maxRecDepth 100000 in
set_option maxHeartbeats 4000000 in
theorem k_X7_allowed_L5 {E : gs_E} (σ : gs_Mem) (v1 : Int) (v2 : Int)   : ∀ (n : Nat) (v3 : Int) (v4 : Int), gs_K E (gs_MC E yX7_allowed cX7_allowed 5 (some .int) 0 { frames := 3, cells := 0, slots := 0, locals := 70 }) (fun v : Int => (v, σ)) (f_X7_allowed_L5 σ v1 v2 n v3 v4) 5 [(0, gr E 70), (1, gi v1), (2, gi v2), (3, gi v3), (4, gi v4)] [] σ := by
  intro n
  induction n with
  | zero => intro v3 v4; rw [f_X7_allowed_L5]; exact gk_none
  | succ n ih =>
    intro v3 v4; rw [f_X7_allowed_L5]
    refine gk_iload (pc := 5) 4 dX7_allowed_5 rfl ?_
    refine gk_iload_n (pc := 7) 2 dX7_allowed_7 rfl ?_
    refine gk_icmp_ge (tgt := 35) (pc := 8) dX7_allowed_8 (by decide) rfl rfl ?_ ?_
    · refine gk_iload_n (pc := 35) 3 dX7_allowed_35 rfl ?_
      exact gk_iret (pc := 36) rfl dX7_allowed_36
    · refine gk_iload_n (pc := 11) 3 dX7_allowed_11 rfl ?_
      refine gk_aload_n (pc := 12) 0 dX7_allowed_12 rfl ?_
      refine gk_iload_n (pc := 13) 1 dX7_allowed_13 rfl ?_
      refine gk_iload (pc := 14) 4 dX7_allowed_14 rfl ?_
      refine gk_callV_ir (As := [gi v1, gi v4]) (pc := 16) (c_X7_isAllowed v1 v4 σ) rfl mm_X7_isAllowed ww_908 clsX7 rfl cll_70 sh_70 (gs_fit_of (Nat.le_of_ble_eq_true rfl) (Nat.le_of_ble_eq_true rfl)) rfl rfl (Nat.le_of_ble_eq_true rfl) dX7_allowed_16 (fun u1 => ?_)
      refine gk_if_eq (tgt := 26) (pc := 19) dX7_allowed_19 (by decide) rfl ?_ ?_
      · refine gk_iconst (pc := 26) dX7_allowed_26 ?_
        refine gk_sub (L' := [(0, gr E 70), (1, gi v1), (2, gi v2), (4, gi v4)]) [0, 1, 2, 4] rfl ?_
        exact k_X7_allowed_J27 σ (f_X7_allowed_L5 σ v1 v2 n) v1 v2 v4 0 v3 ih
      · refine gk_iconst (pc := 22) dX7_allowed_22 ?_
        refine gk_goto (tgt := 27) (pc := 23) dX7_allowed_23 (by decide) ?_
        refine gk_sub (L' := [(0, gr E 70), (1, gi v1), (2, gi v2), (4, gi v4)]) [0, 1, 2, 4] rfl ?_
        exact k_X7_allowed_J27 σ (f_X7_allowed_L5 σ v1 v2 n) v1 v2 v4 1 v3 ih
def f_X7_allowed (v1 : Int) (v2 : Int) (σ : gs_Mem) : Option (Int) :=
  f_X7_allowed_L5 σ v1 v2 gs_fuel 0 0
set_option maxRecDepth 100000 in
set_option maxHeartbeats 4000000 in
theorem c_X7_allowed {E : gs_E} (v1 : Int) (v2 : Int)  (σ : gs_Mem) : gs_C E yX7_allowed cX7_allowed 5 (some .int) 0 { frames := 3, cells := 0, slots := 0, locals := 70 } [gr E 70, gi v1, gi v2] σ (f_X7_allowed v1 v2 σ) (fun v : Int => (v, σ)) := by
  unfold f_X7_allowed
  refine gs_enter (L := [(0, gr E 70), (1, gi v1), (2, gi v2)]) (by decide) rfl rfl (Nat.le_of_ble_eq_true rfl) rfl ?_
  refine gk_iconst (pc := 0) dX7_allowed_0 ?_
  refine gk_istore_n (L' := [(3, gi 0), (0, gr E 70), (1, gi v1), (2, gi v2)]) (pc := 1) dX7_allowed_1 (Nat.le_of_ble_eq_true rfl) rfl ?_
  refine gk_iconst (pc := 2) dX7_allowed_2 ?_
  refine gk_istore (L' := [(4, gi 0), (3, gi 0), (0, gr E 70), (1, gi v1), (2, gi v2)]) (pc := 3) dX7_allowed_3 (Nat.le_of_ble_eq_true rfl) rfl ?_
  refine gk_sub (L' := [(0, gr E 70), (1, gi v1), (2, gi v2), (3, gi 0), (4, gi 0)]) [2, 3, 4, 1, 0] rfl ?_
  exact k_X7_allowed_L5 σ v1 v2 gs_fuel 0 0
def f_X7_leastAllowed_L2 (σ : gs_Mem) (v1 : Int) : Nat → Int → Option (Int)
  | 0, _ => none
  | n + 1, v2 =>
    if 20 ≤ (gn v2) then
      some (-5)
    else
      (f_X7_isAllowed v1 v2 σ).bind fun u1 =>
      if (gn u1) = 0 then
        f_X7_leastAllowed_L2 σ v1 n (v2 + 1)
      else
        some v2
set_option maxRecDepth 100000 in
set_option maxHeartbeats 4000000 in
theorem k_X7_leastAllowed_L2 {E : gs_E} (σ : gs_Mem) (v1 : Int)   : ∀ (n : Nat) (v2 : Int), gs_K E (gs_MC E yX7_leastAllowed cX7_leastAllowed 3 (some .int) 0 { frames := 3, cells := 0, slots := 0, locals := 70 }) (fun v : Int => (v, σ)) (f_X7_leastAllowed_L2 σ v1 n v2) 2 [(0, gr E 70), (1, gi v1), (2, gi v2)] [] σ := by
  intro n
  induction n with
  | zero => intro v2; rw [f_X7_leastAllowed_L2]; exact gk_none
  | succ n ih =>
    intro v2; rw [f_X7_leastAllowed_L2]
    refine gk_iload_n (pc := 2) 2 dX7_leastAllowed_2 rfl ?_
    refine gk_bipush (pc := 3) dX7_leastAllowed_3 (by decide +kernel) ?_
    refine gk_icmp_ge (tgt := 25) (pc := 5) dX7_leastAllowed_5 (by decide) rfl (by decide +kernel) ?_ ?_
    · refine gk_bipush (pc := 25) dX7_leastAllowed_25 (by decide +kernel) ?_
      exact gk_iret (pc := 27) rfl dX7_leastAllowed_27
    · refine gk_aload_n (pc := 8) 0 dX7_leastAllowed_8 rfl ?_
      refine gk_iload_n (pc := 9) 1 dX7_leastAllowed_9 rfl ?_
      refine gk_iload_n (pc := 10) 2 dX7_leastAllowed_10 rfl ?_
      refine gk_callV_ir (As := [gi v1, gi v2]) (pc := 11) (c_X7_isAllowed v1 v2 σ) rfl mm_X7_isAllowed ww_908 clsX7 rfl cll_70 sh_70 (gs_fit_of (Nat.le_of_ble_eq_true rfl) (Nat.le_of_ble_eq_true rfl)) rfl rfl (Nat.le_of_ble_eq_true rfl) dX7_leastAllowed_11 (fun u1 => ?_)
      refine gk_if_eq (tgt := 19) (pc := 14) dX7_leastAllowed_14 (by decide) rfl ?_ ?_
      · refine gk_iinc (L' := [(2, gi (v2 + 1)), (0, gr E 70), (1, gi v1)]) (pc := 19) 2 dX7_leastAllowed_19 rfl (Nat.le_of_ble_eq_true rfl) rfl ?_
        refine gk_goto (tgt := 2) (pc := 22) dX7_leastAllowed_22 (by decide) ?_
        refine gk_sub (L' := [(0, gr E 70), (1, gi v1), (2, gi (v2 + 1))]) [1, 2, 0] rfl ?_
        exact ih (v2 + 1)
      · refine gk_iload_n (pc := 17) 2 dX7_leastAllowed_17 rfl ?_
        exact gk_iret (pc := 18) rfl dX7_leastAllowed_18
def f_X7_leastAllowed (v1 : Int) (σ : gs_Mem) : Option (Int) :=
  f_X7_leastAllowed_L2 σ v1 gs_fuel 0
set_option maxRecDepth 100000 in
set_option maxHeartbeats 4000000 in
theorem c_X7_leastAllowed {E : gs_E} (v1 : Int)  (σ : gs_Mem) : gs_C E yX7_leastAllowed cX7_leastAllowed 3 (some .int) 0 { frames := 3, cells := 0, slots := 0, locals := 70 } [gr E 70, gi v1] σ (f_X7_leastAllowed v1 σ) (fun v : Int => (v, σ)) := by
  unfold f_X7_leastAllowed
  refine gs_enter (L := [(0, gr E 70), (1, gi v1)]) (by decide) rfl rfl (Nat.le_of_ble_eq_true rfl) rfl ?_
  refine gk_iconst (pc := 0) dX7_leastAllowed_0 ?_
  refine gk_istore_n (L' := [(2, gi 0), (0, gr E 70), (1, gi v1)]) (pc := 1) dX7_leastAllowed_1 (Nat.le_of_ble_eq_true rfl) rfl ?_
  refine gk_sub (L' := [(0, gr E 70), (1, gi v1), (2, gi 0)]) [1, 2, 0] rfl ?_
  exact k_X7_leastAllowed_L2 σ v1 gs_fuel 0
def f_X7_apartMany_J34 (σ : gs_Mem) (k4 : Int → Int → Option (Int)) (v1 : Int) (v3 : Int) (t0 : Int) (t1 : Int) : Option (Int) :=
  k4 (t1 + t0) (v3 + 1)
set_option maxRecDepth 100000 in
set_option maxHeartbeats 4000000 in
theorem k_X7_apartMany_J34 {E : gs_E} (σ : gs_Mem) (k4 : Int → Int → Option (Int))  (v1 : Int) (v3 : Int) (t0 : Int) (t1 : Int)  (hk4 : ∀ (w2 : Int) (w3 : Int), gs_K E (gs_MC E yX7_apartMany cX7_apartMany 4 (some .int) 0 { frames := 2, cells := 0, slots := 0, locals := 47 }) (fun v : Int => (v, σ)) (k4 w2 w3) 4 [(0, gr E 70), (1, gi v1), (2, gi w2), (3, gi w3)] [] σ) : gs_K E (gs_MC E yX7_apartMany cX7_apartMany 4 (some .int) 0 { frames := 2, cells := 0, slots := 0, locals := 47 }) (fun v : Int => (v, σ)) (f_X7_apartMany_J34 σ k4 v1 v3 t0 t1) 34 [(0, gr E 70), (1, gi v1), (3, gi v3)] [gi t0, gi t1] σ := by
  unfold f_X7_apartMany_J34
  refine gk_iadd (pc := 34) dX7_apartMany_34 ?_
  refine gk_istore_n (L' := [(2, gi (t1 + t0)), (0, gr E 70), (1, gi v1), (3, gi v3)]) (pc := 35) dX7_apartMany_35 (Nat.le_of_ble_eq_true rfl) rfl ?_
  refine gk_iinc (L' := [(3, gi (v3 + 1)), (2, gi (t1 + t0)), (0, gr E 70), (1, gi v1)]) (pc := 36) 3 dX7_apartMany_36 rfl (Nat.le_of_ble_eq_true rfl) rfl ?_
  refine gk_goto (tgt := 4) (pc := 39) dX7_apartMany_39 (by decide) ?_
  refine gk_sub (L' := [(0, gr E 70), (1, gi v1), (2, gi (t1 + t0)), (3, gi (v3 + 1))]) [2, 3, 1, 0] rfl ?_
  exact hk4 (t1 + t0) (v3 + 1)
def f_X7_apartMany_J33 (σ : gs_Mem) (k4 : Int → Int → Option (Int)) (v1 : Int) (v3 : Int) (t0 : Int) : Option (Int) :=
  f_X7_apartMany_J34 σ k4 v1 v3 0 t0
set_option maxRecDepth 100000 in
set_option maxHeartbeats 4000000 in
theorem k_X7_apartMany_J33 {E : gs_E} (σ : gs_Mem) (k4 : Int → Int → Option (Int))  (v1 : Int) (v3 : Int) (t0 : Int)  (hk4 : ∀ (w2 : Int) (w3 : Int), gs_K E (gs_MC E yX7_apartMany cX7_apartMany 4 (some .int) 0 { frames := 2, cells := 0, slots := 0, locals := 47 }) (fun v : Int => (v, σ)) (k4 w2 w3) 4 [(0, gr E 70), (1, gi v1), (2, gi w2), (3, gi w3)] [] σ) : gs_K E (gs_MC E yX7_apartMany cX7_apartMany 4 (some .int) 0 { frames := 2, cells := 0, slots := 0, locals := 47 }) (fun v : Int => (v, σ)) (f_X7_apartMany_J33 σ k4 v1 v3 t0) 33 [(0, gr E 70), (1, gi v1), (3, gi v3)] [gi t0] σ := by
  unfold f_X7_apartMany_J33
  refine gk_iconst (pc := 33) dX7_apartMany_33 ?_
  exact k_X7_apartMany_J34 σ k4 v1 v3 0 t0 hk4
def f_X7_apartMany_L4 (σ : gs_Mem) (v1 : Int) : Nat → Int → Int → Option (Int)
  | 0, _, _ => none
  | n + 1, v2, v3 =>
    gs_chk 0 84 (
    if (gn (σ 71 0)) ≤ (gn v3) then
      some v2
    else
      if (gn v3) = (gn v1) then
        f_X7_apartMany_J33 σ (f_X7_apartMany_L4 σ v1 n) v1 v3 v2
      else
        (f_X7_apartOf v1 v3 σ).bind fun u1 =>
        if (gn u1) ≤ 0 then
          f_X7_apartMany_J33 σ (f_X7_apartMany_L4 σ v1 n) v1 v3 v2
        else
          f_X7_apartMany_J34 σ (f_X7_apartMany_L4 σ v1 n) v1 v3 1 v2)
set_option maxRecDepth 100000 in
set_option maxHeartbeats 4000000 in
theorem k_X7_apartMany_L4 {E : gs_E} (σ : gs_Mem) (v1 : Int)   : ∀ (n : Nat) (v2 : Int) (v3 : Int), gs_K E (gs_MC E yX7_apartMany cX7_apartMany 4 (some .int) 0 { frames := 2, cells := 0, slots := 0, locals := 47 }) (fun v : Int => (v, σ)) (f_X7_apartMany_L4 σ v1 n v2 v3) 4 [(0, gr E 70), (1, gi v1), (2, gi v2), (3, gi v3)] [] σ := by
  intro n
  induction n with
  | zero => intro v2 v3; rw [f_X7_apartMany_L4]; exact gk_none
  | succ n ih =>
    intro v2 v3; rw [f_X7_apartMany_L4]
    refine gk_iload_n (pc := 4) 3 dX7_apartMany_4 rfl ?_
    refine gk_aload_n (pc := 5) 0 dX7_apartMany_5 rfl ?_
    refine gk_getR (q := 71) (pc := 6) rfl clsX7 cll_70 sh_70 0 (by decide) rfl ww_775 dX7_apartMany_6 ?_
    refine gk_iconst (pc := 9) dX7_apartMany_9 ?_
    refine gk_iald_c (pc := 10) cll_71 sh_71 (by decide +kernel) dX7_apartMany_10 ?_
    refine gk_icmp_ge (tgt := 42) (pc := 11) dX7_apartMany_11 (by decide) rfl rfl ?_ ?_
    · refine gk_iload_n (pc := 42) 2 dX7_apartMany_42 rfl ?_
      exact gk_iret (pc := 43) rfl dX7_apartMany_43
    · refine gk_iload_n (pc := 14) 2 dX7_apartMany_14 rfl ?_
      refine gk_iload_n (pc := 15) 3 dX7_apartMany_15 rfl ?_
      refine gk_iload_n (pc := 16) 1 dX7_apartMany_16 rfl ?_
      refine gk_icmp_eq (tgt := 33) (pc := 17) dX7_apartMany_17 (by decide) rfl rfl ?_ ?_
      · refine gk_sub (L' := [(0, gr E 70), (1, gi v1), (3, gi v3)]) [0, 1, 3] rfl ?_
        exact k_X7_apartMany_J33 σ (f_X7_apartMany_L4 σ v1 n) v1 v3 v2 ih
      · refine gk_aload_n (pc := 20) 0 dX7_apartMany_20 rfl ?_
        refine gk_iload_n (pc := 21) 1 dX7_apartMany_21 rfl ?_
        refine gk_iload_n (pc := 22) 3 dX7_apartMany_22 rfl ?_
        refine gk_callV_ir (As := [gi v1, gi v3]) (pc := 23) (c_X7_apartOf v1 v3 σ) rfl mm_X7_apartOf ww_915 clsX7 rfl cll_70 sh_70 (gs_fit_of (Nat.le_of_ble_eq_true rfl) (Nat.le_of_ble_eq_true rfl)) rfl rfl (Nat.le_of_ble_eq_true rfl) dX7_apartMany_23 (fun u1 => ?_)
        refine gk_if_le (tgt := 33) (pc := 26) dX7_apartMany_26 (by decide) rfl ?_ ?_
        · refine gk_sub (L' := [(0, gr E 70), (1, gi v1), (3, gi v3)]) [0, 1, 3] rfl ?_
          exact k_X7_apartMany_J33 σ (f_X7_apartMany_L4 σ v1 n) v1 v3 v2 ih
        · refine gk_iconst (pc := 29) dX7_apartMany_29 ?_
          refine gk_goto (tgt := 34) (pc := 30) dX7_apartMany_30 (by decide) ?_
          refine gk_sub (L' := [(0, gr E 70), (1, gi v1), (3, gi v3)]) [0, 1, 3] rfl ?_
          exact k_X7_apartMany_J34 σ (f_X7_apartMany_L4 σ v1 n) v1 v3 1 v2 ih
def f_X7_apartMany (v1 : Int) (σ : gs_Mem) : Option (Int) :=
  f_X7_apartMany_L4 σ v1 gs_fuel 0 0
set_option maxRecDepth 100000 in
set_option maxHeartbeats 4000000 in
theorem c_X7_apartMany {E : gs_E} (v1 : Int)  (σ : gs_Mem) : gs_C E yX7_apartMany cX7_apartMany 4 (some .int) 0 { frames := 2, cells := 0, slots := 0, locals := 47 } [gr E 70, gi v1] σ (f_X7_apartMany v1 σ) (fun v : Int => (v, σ)) := by
  unfold f_X7_apartMany
  refine gs_enter (L := [(0, gr E 70), (1, gi v1)]) (by decide) rfl rfl (Nat.le_of_ble_eq_true rfl) rfl ?_
  refine gk_iconst (pc := 0) dX7_apartMany_0 ?_
  refine gk_istore_n (L' := [(2, gi 0), (0, gr E 70), (1, gi v1)]) (pc := 1) dX7_apartMany_1 (Nat.le_of_ble_eq_true rfl) rfl ?_
  refine gk_iconst (pc := 2) dX7_apartMany_2 ?_
  refine gk_istore_n (L' := [(3, gi 0), (2, gi 0), (0, gr E 70), (1, gi v1)]) (pc := 3) dX7_apartMany_3 (Nat.le_of_ble_eq_true rfl) rfl ?_
  refine gk_sub (L' := [(0, gr E 70), (1, gi v1), (2, gi 0), (3, gi 0)]) [2, 3, 1, 0] rfl ?_
  exact k_X7_apartMany_L4 σ v1 gs_fuel 0 0
def f_X7_of_J95 (σ : gs_Mem) (v1 : Int) (v2 : Int) : Option (Int) :=
  gs_chk (gn ((4 + (4 * v1)) + v2)) 84 (
  some (σ 71 (gn ((4 + (4 * v1)) + v2)).toNat))
set_option maxRecDepth 100000 in
set_option maxHeartbeats 4000000 in
theorem k_X7_of_J95 {E : gs_E} (σ : gs_Mem)  (v1 : Int) (v2 : Int)   : gs_K E (gs_MC E yX7_of cX7_of 3 (some .int) 0 { frames := 4, cells := 0, slots := 0, locals := 94 }) (fun v : Int => (v, σ)) (f_X7_of_J95 σ v1 v2) 95 [(0, gr E 70), (1, gi v1), (2, gi v2)] [] σ := by
  unfold f_X7_of_J95
  refine gk_aload_n (pc := 95) 0 dX7_of_95 rfl ?_
  refine gk_getR (q := 71) (pc := 96) rfl clsX7 cll_70 sh_70 0 (by decide) rfl ww_775 dX7_of_96 ?_
  refine gk_iconst (pc := 99) dX7_of_99 ?_
  refine gk_iconst (pc := 100) dX7_of_100 ?_
  refine gk_iload_n (pc := 101) 1 dX7_of_101 rfl ?_
  refine gk_imul (pc := 102) dX7_of_102 ?_
  refine gk_iadd (pc := 103) dX7_of_103 ?_
  refine gk_iload_n (pc := 104) 2 dX7_of_104 rfl ?_
  refine gk_iadd (pc := 105) dX7_of_105 ?_
  refine gk_iald_c (pc := 106) cll_71 sh_71 rfl dX7_of_106 ?_
  exact gk_iret (pc := 107) rfl dX7_of_107
def f_X7_of (v1 : Int) (v2 : Int) (σ : gs_Mem) : Option (Int) :=
  (f_X7_isStation v1 σ).bind fun u1 =>
  if (gn u1) = 0 then
    some (-1)
  else
    (f_X7_in (gn v2) 0 7 σ).bind fun u2 =>
    if (gn u2) = 0 then
      some (-1)
    else
      if (gn v2) = 2 then
        (f_X7_channelOf v1 σ).bind fun u3 =>
        (f_X7_toldOf u3 σ).bind fun u4 =>
        some u4
      else if (gn v2) = 3 then
        f_X7_of_J95 σ v1 v2
      else if (gn v2) = 4 then
        (f_X7_allowed v1 20 σ).bind fun u5 =>
        some u5
      else if (gn v2) = 5 then
        (f_X7_leastAllowed v1 σ).bind fun u6 =>
        some u6
      else if (gn v2) = 6 then
        (f_X7_apartMany v1 σ).bind fun u7 =>
        some u7
      else if (gn v2) = 7 then
        (f_X7_clashesOf v1 σ).bind fun u8 =>
        some u8
      else 
        f_X7_of_J95 σ v1 v2
set_option maxRecDepth 100000 in
set_option maxHeartbeats 4000000 in
theorem c_X7_of {E : gs_E} (v1 : Int) (v2 : Int)  (σ : gs_Mem) : gs_C E yX7_of cX7_of 3 (some .int) 0 { frames := 4, cells := 0, slots := 0, locals := 94 } [gr E 70, gi v1, gi v2] σ (f_X7_of v1 v2 σ) (fun v : Int => (v, σ)) := by
  unfold f_X7_of
  refine gs_enter (L := [(0, gr E 70), (1, gi v1), (2, gi v2)]) (by decide) rfl rfl (Nat.le_of_ble_eq_true rfl) rfl ?_
  refine gk_aload_n (pc := 0) 0 dX7_of_0 rfl ?_
  refine gk_iload_n (pc := 1) 1 dX7_of_1 rfl ?_
  refine gk_callV_ir (As := [gi v1]) (pc := 2) (c_X7_isStation v1 σ) rfl mm_X7_isStation ww_843 clsX7 rfl cll_70 sh_70 (gs_fit_of (Nat.le_of_ble_eq_true rfl) (Nat.le_of_ble_eq_true rfl)) rfl rfl (Nat.le_of_ble_eq_true rfl) dX7_of_2 (fun u1 => ?_)
  refine gk_if_eq (tgt := 20) (pc := 5) dX7_of_5 (by decide) rfl ?_ ?_
  · refine gk_iconst (pc := 20) dX7_of_20 ?_
    exact gk_iret (pc := 21) rfl dX7_of_21
  · refine gk_iload_n (pc := 8) 2 dX7_of_8 rfl ?_
    refine gk_i2l (pc := 9) dX7_of_9 ?_
    refine gk_lconst (x := 0) (pc := 10) dX7_of_10 (by decide +kernel) ?_
    refine gk_ldc2 (x := 7) (pc := 11) rfl dX7_of_11 ww_903 (by decide +kernel) ?_
    refine gk_callS_ir (As := [gl (gn v2), gl 0, gl 7]) (pc := 14) (c_X7_in (gn v2) 0 7 σ) rfl mm_X7_in ww_817 (gs_fit_of (Nat.le_of_ble_eq_true rfl) (Nat.le_of_ble_eq_true rfl)) rfl rfl (Nat.le_of_ble_eq_true rfl) dX7_of_14 (fun u2 => ?_)
    refine gk_if_ne (tgt := 22) (pc := 17) dX7_of_17 (by decide) rfl ?_ ?_
    · refine gk_iload_n (pc := 22) 2 dX7_of_22 rfl ?_
      refine gk_sw (tgt := 60) (pc := 23) 2 dX7_of_23 (by decide) rfl (by decide) ?_ (fun hs0 => ?_)
      · refine gk_aload_n (pc := 60) 0 dX7_of_60 rfl ?_
        refine gk_iload_n (pc := 61) 1 dX7_of_61 rfl ?_
        refine gk_callV_ir (As := [gi v1]) (pc := 62) (c_X7_channelOf v1 σ) rfl mm_X7_channelOf ww_853 clsX7 rfl cll_70 sh_70 (gs_fit_of (Nat.le_of_ble_eq_true rfl) (Nat.le_of_ble_eq_true rfl)) rfl rfl (Nat.le_of_ble_eq_true rfl) dX7_of_62 (fun u3 => ?_)
        refine gk_callS_ir (As := [gi u3]) (pc := 65) (c_X7_toldOf u3 σ) rfl mm_X7_toldOf ww_861 (gs_fit_of (Nat.le_of_ble_eq_true rfl) (Nat.le_of_ble_eq_true rfl)) rfl rfl (Nat.le_of_ble_eq_true rfl) dX7_of_65 (fun u4 => ?_)
        exact gk_iret (pc := 68) rfl dX7_of_68
      refine gk_sw (tgt := 95) (pc := 23) 3 dX7_of_23 (by decide) rfl (by decide) ?_ (fun hs1 => ?_)
      · exact k_X7_of_J95 σ v1 v2
      refine gk_sw (tgt := 69) (pc := 23) 4 dX7_of_23 (by decide) rfl (by decide) ?_ (fun hs2 => ?_)
      · refine gk_aload_n (pc := 69) 0 dX7_of_69 rfl ?_
        refine gk_iload_n (pc := 70) 1 dX7_of_70 rfl ?_
        refine gk_bipush (pc := 71) dX7_of_71 (by decide +kernel) ?_
        refine gk_callV_ir (As := [gi v1, gi 20]) (pc := 73) (c_X7_allowed v1 20 σ) rfl mm_X7_allowed ww_904 clsX7 rfl cll_70 sh_70 (gs_fit_of (Nat.le_of_ble_eq_true rfl) (Nat.le_of_ble_eq_true rfl)) rfl rfl (Nat.le_of_ble_eq_true rfl) dX7_of_73 (fun u5 => ?_)
        exact gk_iret (pc := 76) rfl dX7_of_76
      refine gk_sw (tgt := 77) (pc := 23) 5 dX7_of_23 (by decide) rfl (by decide) ?_ (fun hs3 => ?_)
      · refine gk_aload_n (pc := 77) 0 dX7_of_77 rfl ?_
        refine gk_iload_n (pc := 78) 1 dX7_of_78 rfl ?_
        refine gk_callV_ir (As := [gi v1]) (pc := 79) (c_X7_leastAllowed v1 σ) rfl mm_X7_leastAllowed ww_920 clsX7 rfl cll_70 sh_70 (gs_fit_of (Nat.le_of_ble_eq_true rfl) (Nat.le_of_ble_eq_true rfl)) rfl rfl (Nat.le_of_ble_eq_true rfl) dX7_of_79 (fun u6 => ?_)
        exact gk_iret (pc := 82) rfl dX7_of_82
      refine gk_sw (tgt := 83) (pc := 23) 6 dX7_of_23 (by decide) rfl (by decide) ?_ (fun hs4 => ?_)
      · refine gk_aload_n (pc := 83) 0 dX7_of_83 rfl ?_
        refine gk_iload_n (pc := 84) 1 dX7_of_84 rfl ?_
        refine gk_callV_ir (As := [gi v1]) (pc := 85) (c_X7_apartMany v1 σ) rfl mm_X7_apartMany ww_924 clsX7 rfl cll_70 sh_70 (gs_fit_of (Nat.le_of_ble_eq_true rfl) (Nat.le_of_ble_eq_true rfl)) rfl rfl (Nat.le_of_ble_eq_true rfl) dX7_of_85 (fun u7 => ?_)
        exact gk_iret (pc := 88) rfl dX7_of_88
      refine gk_sw (tgt := 89) (pc := 23) 7 dX7_of_23 (by decide) rfl (by decide) ?_ (fun hs5 => ?_)
      · refine gk_aload_n (pc := 89) 0 dX7_of_89 rfl ?_
        refine gk_iload_n (pc := 90) 1 dX7_of_90 rfl ?_
        refine gk_callV_ir (As := [gi v1]) (pc := 91) (c_X7_clashesOf v1 σ) rfl mm_X7_clashesOf ww_928 clsX7 rfl cll_70 sh_70 (gs_fit_of (Nat.le_of_ble_eq_true rfl) (Nat.le_of_ble_eq_true rfl)) rfl rfl (Nat.le_of_ble_eq_true rfl) dX7_of_91 (fun u8 => ?_)
        exact gk_iret (pc := 94) rfl dX7_of_94
      refine gk_swD (tgt := 95) (pc := 23) dX7_of_23 (by omega) (by decide) ?_
      exact k_X7_of_J95 σ v1 v2
    · refine gk_iconst (pc := 20) dX7_of_20 ?_
      exact gk_iret (pc := 21) rfl dX7_of_21
def f_X7_apart (v1 : Int) (v2 : Int) (σ : gs_Mem) : Option (Int) :=
  (f_X7_isStation v1 σ).bind fun u1 =>
  if (gn u1) = 0 then
    some (-1)
  else
    (f_X7_isStation v2 σ).bind fun u2 =>
    if (gn u2) = 0 then
      some (-1)
    else
      if (gn v1) = (gn v2) then
        some (-1)
      else
        (f_X7_apartOf v1 v2 σ).bind fun u3 =>
        some u3
set_option maxRecDepth 100000 in
set_option maxHeartbeats 4000000 in
theorem c_X7_apart {E : gs_E} (v1 : Int) (v2 : Int)  (σ : gs_Mem) : gs_C E yX7_apart cX7_apart 3 (some .int) 0 { frames := 2, cells := 0, slots := 0, locals := 47 } [gr E 70, gi v1, gi v2] σ (f_X7_apart v1 v2 σ) (fun v : Int => (v, σ)) := by
  unfold f_X7_apart
  refine gs_enter (L := [(0, gr E 70), (1, gi v1), (2, gi v2)]) (by decide) rfl rfl (Nat.le_of_ble_eq_true rfl) rfl ?_
  refine gk_aload_n (pc := 0) 0 dX7_apart_0 rfl ?_
  refine gk_iload_n (pc := 1) 1 dX7_apart_1 rfl ?_
  refine gk_callV_ir (As := [gi v1]) (pc := 2) (c_X7_isStation v1 σ) rfl mm_X7_isStation ww_843 clsX7 rfl cll_70 sh_70 (gs_fit_of (Nat.le_of_ble_eq_true rfl) (Nat.le_of_ble_eq_true rfl)) rfl rfl (Nat.le_of_ble_eq_true rfl) dX7_apart_2 (fun u1 => ?_)
  refine gk_if_eq (tgt := 30) (pc := 5) dX7_apart_5 (by decide) rfl ?_ ?_
  · refine gk_iconst (pc := 30) dX7_apart_30 ?_
    exact gk_iret (pc := 31) rfl dX7_apart_31
  · refine gk_aload_n (pc := 8) 0 dX7_apart_8 rfl ?_
    refine gk_iload_n (pc := 9) 2 dX7_apart_9 rfl ?_
    refine gk_callV_ir (As := [gi v2]) (pc := 10) (c_X7_isStation v2 σ) rfl mm_X7_isStation ww_843 clsX7 rfl cll_70 sh_70 (gs_fit_of (Nat.le_of_ble_eq_true rfl) (Nat.le_of_ble_eq_true rfl)) rfl rfl (Nat.le_of_ble_eq_true rfl) dX7_apart_10 (fun u2 => ?_)
    refine gk_if_eq (tgt := 30) (pc := 13) dX7_apart_13 (by decide) rfl ?_ ?_
    · refine gk_iconst (pc := 30) dX7_apart_30 ?_
      exact gk_iret (pc := 31) rfl dX7_apart_31
    · refine gk_iload_n (pc := 16) 1 dX7_apart_16 rfl ?_
      refine gk_iload_n (pc := 17) 2 dX7_apart_17 rfl ?_
      refine gk_icmp_eq (tgt := 30) (pc := 18) dX7_apart_18 (by decide) rfl rfl ?_ ?_
      · refine gk_iconst (pc := 30) dX7_apart_30 ?_
        exact gk_iret (pc := 31) rfl dX7_apart_31
      · refine gk_aload_n (pc := 21) 0 dX7_apart_21 rfl ?_
        refine gk_iload_n (pc := 22) 1 dX7_apart_22 rfl ?_
        refine gk_iload_n (pc := 23) 2 dX7_apart_23 rfl ?_
        refine gk_callV_ir (As := [gi v1, gi v2]) (pc := 24) (c_X7_apartOf v1 v2 σ) rfl mm_X7_apartOf ww_915 clsX7 rfl cll_70 sh_70 (gs_fit_of (Nat.le_of_ble_eq_true rfl) (Nat.le_of_ble_eq_true rfl)) rfl rfl (Nat.le_of_ble_eq_true rfl) dX7_apart_24 (fun u3 => ?_)
        refine gk_goto (tgt := 31) (pc := 27) dX7_apart_27 (by decide) ?_
        exact gk_iret (pc := 31) rfl dX7_apart_31
def f_X7_at (v1 : Int) (v2 : Int) (σ : gs_Mem) : Option (Int) :=
  (f_X7_isPlace v1 v2 σ).bind fun u1 =>
  if (gn u1) = 0 then
    some (-2)
  else
    (f_X7_stationAt v1 v2 σ).bind fun u2 =>
    if 0 ≤ (gn u2) then
      some u2
    else
      some (-5)
set_option maxRecDepth 100000 in
set_option maxHeartbeats 4000000 in
theorem c_X7_at {E : gs_E} (v1 : Int) (v2 : Int)  (σ : gs_Mem) : gs_C E yX7_at cX7_at 4 (some .int) 0 { frames := 2, cells := 0, slots := 0, locals := 46 } [gr E 70, gi v1, gi v2] σ (f_X7_at v1 v2 σ) (fun v : Int => (v, σ)) := by
  unfold f_X7_at
  refine gs_enter (L := [(0, gr E 70), (1, gi v1), (2, gi v2)]) (by decide) rfl rfl (Nat.le_of_ble_eq_true rfl) rfl ?_
  refine gk_iload_n (pc := 0) 1 dX7_at_0 rfl ?_
  refine gk_iload_n (pc := 1) 2 dX7_at_1 rfl ?_
  refine gk_callS_ir (As := [gi v1, gi v2]) (pc := 2) (c_X7_isPlace v1 v2 σ) rfl mm_X7_isPlace ww_813 (gs_fit_of (Nat.le_of_ble_eq_true rfl) (Nat.le_of_ble_eq_true rfl)) rfl rfl (Nat.le_of_ble_eq_true rfl) dX7_at_2 (fun u1 => ?_)
  refine gk_if_ne (tgt := 11) (pc := 5) dX7_at_5 (by decide) rfl ?_ ?_
  · refine gk_aload_n (pc := 11) 0 dX7_at_11 rfl ?_
    refine gk_iload_n (pc := 12) 1 dX7_at_12 rfl ?_
    refine gk_iload_n (pc := 13) 2 dX7_at_13 rfl ?_
    refine gk_callV_ir (As := [gi v1, gi v2]) (pc := 14) (c_X7_stationAt v1 v2 σ) rfl mm_X7_stationAt ww_820 clsX7 rfl cll_70 sh_70 (gs_fit_of (Nat.le_of_ble_eq_true rfl) (Nat.le_of_ble_eq_true rfl)) rfl rfl (Nat.le_of_ble_eq_true rfl) dX7_at_14 (fun u2 => ?_)
    refine gk_istore_n (L' := [(3, gi u2), (0, gr E 70), (1, gi v1), (2, gi v2)]) (pc := 17) dX7_at_17 (Nat.le_of_ble_eq_true rfl) rfl ?_
    refine gk_iload_n (pc := 18) 0 dX7_at_18 rfl ?_
    refine gk_if_ge (tgt := 27) (pc := 19) dX7_at_19 (by decide) rfl ?_ ?_
    · refine gk_iload_n (pc := 27) 0 dX7_at_27 rfl ?_
      exact gk_iret (pc := 28) rfl dX7_at_28
    · refine gk_bipush (pc := 22) dX7_at_22 (by decide +kernel) ?_
      refine gk_goto (tgt := 28) (pc := 24) dX7_at_24 (by decide) ?_
      exact gk_iret (pc := 28) rfl dX7_at_28
  · refine gk_bipush (pc := 8) dX7_at_8 (by decide +kernel) ?_
    exact gk_iret (pc := 10) rfl dX7_at_10
def f_X7_isAhead (v1 : Int) (v2 : Int) (σ : gs_Mem) : Option (Int) :=
  (f_X7_allowed v1 20 σ).bind fun u1 =>
  (f_X7_allowed v2 20 σ).bind fun u2 =>
  if (gn u1) = (gn u2) then
    (f_X7_apartMany v1 σ).bind fun u3 =>
    (f_X7_apartMany v2 σ).bind fun u4 =>
    if (gn u3) ≤ (gn u4) then
      some 0
    else
      some 1
  else
    if (gn u2) ≤ (gn u1) then
      some 0
    else
      some 1
set_option maxRecDepth 100000 in
set_option maxHeartbeats 4000000 in
theorem c_X7_isAhead {E : gs_E} (v1 : Int) (v2 : Int)  (σ : gs_Mem) : gs_C E yX7_isAhead cX7_isAhead 5 (some .boolean) 0 { frames := 4, cells := 0, slots := 0, locals := 94 } [gr E 70, gi v1, gi v2] σ (f_X7_isAhead v1 v2 σ) (fun v : Int => (v, σ)) := by
  unfold f_X7_isAhead
  refine gs_enter (L := [(0, gr E 70), (1, gi v1), (2, gi v2)]) (by decide) rfl rfl (Nat.le_of_ble_eq_true rfl) rfl ?_
  refine gk_aload_n (pc := 0) 0 dX7_isAhead_0 rfl ?_
  refine gk_iload_n (pc := 1) 1 dX7_isAhead_1 rfl ?_
  refine gk_bipush (pc := 2) dX7_isAhead_2 (by decide +kernel) ?_
  refine gk_callV_ir (As := [gi v1, gi 20]) (pc := 4) (c_X7_allowed v1 20 σ) rfl mm_X7_allowed ww_904 clsX7 rfl cll_70 sh_70 (gs_fit_of (Nat.le_of_ble_eq_true rfl) (Nat.le_of_ble_eq_true rfl)) rfl rfl (Nat.le_of_ble_eq_true rfl) dX7_isAhead_4 (fun u1 => ?_)
  refine gk_istore_n (L' := [(3, gi u1), (0, gr E 70), (1, gi v1), (2, gi v2)]) (pc := 7) dX7_isAhead_7 (Nat.le_of_ble_eq_true rfl) rfl ?_
  refine gk_aload_n (pc := 8) 1 dX7_isAhead_8 rfl ?_
  refine gk_iload_n (pc := 9) 3 dX7_isAhead_9 rfl ?_
  refine gk_bipush (pc := 10) dX7_isAhead_10 (by decide +kernel) ?_
  refine gk_callV_ir (As := [gi v2, gi 20]) (pc := 12) (c_X7_allowed v2 20 σ) rfl mm_X7_allowed ww_904 clsX7 rfl cll_70 sh_70 (gs_fit_of (Nat.le_of_ble_eq_true rfl) (Nat.le_of_ble_eq_true rfl)) rfl rfl (Nat.le_of_ble_eq_true rfl) dX7_isAhead_12 (fun u2 => ?_)
  refine gk_istore (L' := [(4, gi u2), (3, gi u1), (0, gr E 70), (1, gi v1), (2, gi v2)]) (pc := 15) dX7_isAhead_15 (Nat.le_of_ble_eq_true rfl) rfl ?_
  refine gk_iload_n (pc := 17) 1 dX7_isAhead_17 rfl ?_
  refine gk_iload (pc := 18) 0 dX7_isAhead_18 rfl ?_
  refine gk_icmp_eq (tgt := 37) (pc := 20) dX7_isAhead_20 (by decide) rfl rfl ?_ ?_
  · refine gk_aload_n (pc := 37) 2 dX7_isAhead_37 rfl ?_
    refine gk_iload_n (pc := 38) 3 dX7_isAhead_38 rfl ?_
    refine gk_callV_ir (As := [gi v1]) (pc := 39) (c_X7_apartMany v1 σ) rfl mm_X7_apartMany ww_924 clsX7 rfl cll_70 sh_70 (gs_fit_of (Nat.le_of_ble_eq_true rfl) (Nat.le_of_ble_eq_true rfl)) rfl rfl (Nat.le_of_ble_eq_true rfl) dX7_isAhead_39 (fun u3 => ?_)
    refine gk_aload_n (pc := 42) 2 dX7_isAhead_42 rfl ?_
    refine gk_iload_n (pc := 43) 4 dX7_isAhead_43 rfl ?_
    refine gk_callV_ir (As := [gi v2]) (pc := 44) (c_X7_apartMany v2 σ) rfl mm_X7_apartMany ww_924 clsX7 rfl cll_70 sh_70 (gs_fit_of (Nat.le_of_ble_eq_true rfl) (Nat.le_of_ble_eq_true rfl)) rfl rfl (Nat.le_of_ble_eq_true rfl) dX7_isAhead_44 (fun u4 => ?_)
    refine gk_icmp_le (tgt := 54) (pc := 47) dX7_isAhead_47 (by decide) rfl rfl ?_ ?_
    · refine gk_iconst (pc := 54) dX7_isAhead_54 ?_
      exact gk_zret (pc := 55) (Or.inl (by decide +kernel)) rfl dX7_isAhead_55
    · refine gk_iconst (pc := 50) dX7_isAhead_50 ?_
      refine gk_goto (tgt := 55) (pc := 51) dX7_isAhead_51 (by decide) ?_
      exact gk_zret (pc := 55) (Or.inr (by decide +kernel)) rfl dX7_isAhead_55
  · refine gk_iload_n (pc := 23) 1 dX7_isAhead_23 rfl ?_
    refine gk_iload (pc := 24) 0 dX7_isAhead_24 rfl ?_
    refine gk_icmp_ge (tgt := 33) (pc := 26) dX7_isAhead_26 (by decide) rfl rfl ?_ ?_
    · refine gk_iconst (pc := 33) dX7_isAhead_33 ?_
      refine gk_goto (tgt := 55) (pc := 34) dX7_isAhead_34 (by decide) ?_
      exact gk_zret (pc := 55) (Or.inl (by decide +kernel)) rfl dX7_isAhead_55
    · refine gk_iconst (pc := 29) dX7_isAhead_29 ?_
      refine gk_goto (tgt := 55) (pc := 30) dX7_isAhead_30 (by decide) ?_
      exact gk_zret (pc := 55) (Or.inr (by decide +kernel)) rfl dX7_isAhead_55
def f_X7_nextOne_J45 (σ : gs_Mem) (k4 : Int → Int → Option (Int)) (v1 : Int) (v2 : Int) (v3 : Int) : Option (Int) :=
  k4 v2 (v3 + 1)
set_option maxRecDepth 100000 in
set_option maxHeartbeats 4000000 in
theorem k_X7_nextOne_J45 {E : gs_E} (σ : gs_Mem) (k4 : Int → Int → Option (Int))  (v1 : Int) (v2 : Int) (v3 : Int)  (hk4 : ∀ (w2 : Int) (w3 : Int), gs_K E (gs_MC E yX7_nextOne cX7_nextOne 4 (some .int) 0 { frames := 5, cells := 0, slots := 0, locals := 118 }) (fun v : Int => (v, σ)) (k4 w2 w3) 4 [(0, gr E 70), (1, gi v1), (2, gi w2), (3, gi w3)] [] σ) : gs_K E (gs_MC E yX7_nextOne cX7_nextOne 4 (some .int) 0 { frames := 5, cells := 0, slots := 0, locals := 118 }) (fun v : Int => (v, σ)) (f_X7_nextOne_J45 σ k4 v1 v2 v3) 45 [(0, gr E 70), (1, gi v1), (2, gi v2), (3, gi v3)] [] σ := by
  unfold f_X7_nextOne_J45
  refine gk_iinc (L' := [(3, gi (v3 + 1)), (0, gr E 70), (1, gi v1), (2, gi v2)]) (pc := 45) 3 dX7_nextOne_45 rfl (Nat.le_of_ble_eq_true rfl) rfl ?_
  refine gk_goto (tgt := 4) (pc := 48) dX7_nextOne_48 (by decide) ?_
  refine gk_sub (L' := [(0, gr E 70), (1, gi v1), (2, gi v2), (3, gi (v3 + 1))]) [1, 2, 3, 0] rfl ?_
  exact hk4 v2 (v3 + 1)
def f_X7_nextOne_J43 (σ : gs_Mem) (k4 : Int → Int → Option (Int)) (v1 : Int) (v3 : Int) : Option (Int) :=
  f_X7_nextOne_J45 σ k4 v1 v3 v3
set_option maxRecDepth 100000 in
set_option maxHeartbeats 4000000 in
theorem k_X7_nextOne_J43 {E : gs_E} (σ : gs_Mem) (k4 : Int → Int → Option (Int))  (v1 : Int) (v3 : Int)  (hk4 : ∀ (w2 : Int) (w3 : Int), gs_K E (gs_MC E yX7_nextOne cX7_nextOne 4 (some .int) 0 { frames := 5, cells := 0, slots := 0, locals := 118 }) (fun v : Int => (v, σ)) (k4 w2 w3) 4 [(0, gr E 70), (1, gi v1), (2, gi w2), (3, gi w3)] [] σ) : gs_K E (gs_MC E yX7_nextOne cX7_nextOne 4 (some .int) 0 { frames := 5, cells := 0, slots := 0, locals := 118 }) (fun v : Int => (v, σ)) (f_X7_nextOne_J43 σ k4 v1 v3) 43 [(0, gr E 70), (1, gi v1), (3, gi v3)] [] σ := by
  unfold f_X7_nextOne_J43
  refine gk_iload_n (pc := 43) 2 dX7_nextOne_43 rfl ?_
  refine gk_istore_n (L' := [(2, gi v3), (0, gr E 70), (1, gi v1), (3, gi v3)]) (pc := 44) dX7_nextOne_44 (Nat.le_of_ble_eq_true rfl) rfl ?_
  refine gk_sub (L' := [(0, gr E 70), (1, gi v1), (2, gi v3), (3, gi v3)]) [1, 2, 0, 3] rfl ?_
  exact k_X7_nextOne_J45 σ k4 v1 v3 v3 hk4
def f_X7_nextOne_L4 (σ : gs_Mem) (v1 : Int) : Nat → Int → Int → Option (Int)
  | 0, _, _ => none
  | n + 1, v2, v3 =>
    gs_chk 0 84 (
    if (gn (σ 71 0)) ≤ (gn v3) then
      some v2
    else
      (f_X7_channelOf v3 σ).bind fun u1 =>
      if 0 ≤ (gn u1) then
        f_X7_nextOne_J45 σ (f_X7_nextOne_L4 σ v1 n) v1 v2 v3
      else
        if (gand (gshr v1 v3) 1) = 0 then
          if (gn v2) < 0 then
            f_X7_nextOne_J43 σ (f_X7_nextOne_L4 σ v1 n) v1 v3
          else
            (f_X7_isAhead v3 v2 σ).bind fun u2 =>
            if (gn u2) = 0 then
              f_X7_nextOne_J45 σ (f_X7_nextOne_L4 σ v1 n) v1 v2 v3
            else
              f_X7_nextOne_J43 σ (f_X7_nextOne_L4 σ v1 n) v1 v3
        else
          f_X7_nextOne_J45 σ (f_X7_nextOne_L4 σ v1 n) v1 v2 v3)
set_option maxRecDepth 100000 in
set_option maxHeartbeats 4000000 in
theorem k_X7_nextOne_L4 {E : gs_E} (σ : gs_Mem) (v1 : Int)   : ∀ (n : Nat) (v2 : Int) (v3 : Int), gs_K E (gs_MC E yX7_nextOne cX7_nextOne 4 (some .int) 0 { frames := 5, cells := 0, slots := 0, locals := 118 }) (fun v : Int => (v, σ)) (f_X7_nextOne_L4 σ v1 n v2 v3) 4 [(0, gr E 70), (1, gi v1), (2, gi v2), (3, gi v3)] [] σ := by
  intro n
  induction n with
  | zero => intro v2 v3; rw [f_X7_nextOne_L4]; exact gk_none
  | succ n ih =>
    intro v2 v3; rw [f_X7_nextOne_L4]
    refine gk_iload_n (pc := 4) 3 dX7_nextOne_4 rfl ?_
    refine gk_aload_n (pc := 5) 0 dX7_nextOne_5 rfl ?_
    refine gk_getR (q := 71) (pc := 6) rfl clsX7 cll_70 sh_70 0 (by decide) rfl ww_775 dX7_nextOne_6 ?_
    refine gk_iconst (pc := 9) dX7_nextOne_9 ?_
    refine gk_iald_c (pc := 10) cll_71 sh_71 (by decide +kernel) dX7_nextOne_10 ?_
    refine gk_icmp_ge (tgt := 51) (pc := 11) dX7_nextOne_11 (by decide) rfl rfl ?_ ?_
    · refine gk_iload_n (pc := 51) 2 dX7_nextOne_51 rfl ?_
      exact gk_iret (pc := 52) rfl dX7_nextOne_52
    · refine gk_aload_n (pc := 14) 0 dX7_nextOne_14 rfl ?_
      refine gk_iload_n (pc := 15) 3 dX7_nextOne_15 rfl ?_
      refine gk_callV_ir (As := [gi v3]) (pc := 16) (c_X7_channelOf v3 σ) rfl mm_X7_channelOf ww_853 clsX7 rfl cll_70 sh_70 (gs_fit_of (Nat.le_of_ble_eq_true rfl) (Nat.le_of_ble_eq_true rfl)) rfl rfl (Nat.le_of_ble_eq_true rfl) dX7_nextOne_16 (fun u1 => ?_)
      refine gk_if_ge (tgt := 45) (pc := 19) dX7_nextOne_19 (by decide) rfl ?_ ?_
      · exact k_X7_nextOne_J45 σ (f_X7_nextOne_L4 σ v1 n) v1 v2 v3 ih
      · refine gk_iload_n (pc := 22) 1 dX7_nextOne_22 rfl ?_
        refine gk_iload_n (pc := 23) 3 dX7_nextOne_23 rfl ?_
        refine gk_ishr (pc := 24) dX7_nextOne_24 ?_
        refine gk_iconst (pc := 25) dX7_nextOne_25 ?_
        refine gk_iand (pc := 26) dX7_nextOne_26 ?_
        refine gk_if_ne (tgt := 45) (pc := 27) dX7_nextOne_27 (by decide) (gn_ti _) ?_ ?_
        · exact k_X7_nextOne_J45 σ (f_X7_nextOne_L4 σ v1 n) v1 v2 v3 ih
        · refine gk_iload_n (pc := 30) 2 dX7_nextOne_30 rfl ?_
          refine gk_if_lt (tgt := 43) (pc := 31) dX7_nextOne_31 (by decide) rfl ?_ ?_
          · refine gk_sub (L' := [(0, gr E 70), (1, gi v1), (3, gi v3)]) [0, 1, 3] rfl ?_
            exact k_X7_nextOne_J43 σ (f_X7_nextOne_L4 σ v1 n) v1 v3 ih
          · refine gk_aload_n (pc := 34) 0 dX7_nextOne_34 rfl ?_
            refine gk_iload_n (pc := 35) 3 dX7_nextOne_35 rfl ?_
            refine gk_iload_n (pc := 36) 2 dX7_nextOne_36 rfl ?_
            refine gk_callV_ir (As := [gi v3, gi v2]) (pc := 37) (c_X7_isAhead v3 v2 σ) rfl mm_X7_isAhead ww_956 clsX7 rfl cll_70 sh_70 (gs_fit_of (Nat.le_of_ble_eq_true rfl) (Nat.le_of_ble_eq_true rfl)) rfl rfl (Nat.le_of_ble_eq_true rfl) dX7_nextOne_37 (fun u2 => ?_)
            refine gk_if_eq (tgt := 45) (pc := 40) dX7_nextOne_40 (by decide) rfl ?_ ?_
            · exact k_X7_nextOne_J45 σ (f_X7_nextOne_L4 σ v1 n) v1 v2 v3 ih
            · refine gk_sub (L' := [(0, gr E 70), (1, gi v1), (3, gi v3)]) [0, 1, 3] rfl ?_
              exact k_X7_nextOne_J43 σ (f_X7_nextOne_L4 σ v1 n) v1 v3 ih
def f_X7_nextOne (v1 : Int) (σ : gs_Mem) : Option (Int) :=
  f_X7_nextOne_L4 σ v1 gs_fuel (-1) 0
set_option maxRecDepth 100000 in
set_option maxHeartbeats 4000000 in
theorem c_X7_nextOne {E : gs_E} (v1 : Int)  (σ : gs_Mem) : gs_C E yX7_nextOne cX7_nextOne 4 (some .int) 0 { frames := 5, cells := 0, slots := 0, locals := 118 } [gr E 70, gi v1] σ (f_X7_nextOne v1 σ) (fun v : Int => (v, σ)) := by
  unfold f_X7_nextOne
  refine gs_enter (L := [(0, gr E 70), (1, gi v1)]) (by decide) rfl rfl (Nat.le_of_ble_eq_true rfl) rfl ?_
  refine gk_iconst (pc := 0) dX7_nextOne_0 ?_
  refine gk_istore_n (L' := [(2, gi (-1)), (0, gr E 70), (1, gi v1)]) (pc := 1) dX7_nextOne_1 (Nat.le_of_ble_eq_true rfl) rfl ?_
  refine gk_iconst (pc := 2) dX7_nextOne_2 ?_
  refine gk_istore_n (L' := [(3, gi 0), (2, gi (-1)), (0, gr E 70), (1, gi v1)]) (pc := 3) dX7_nextOne_3 (Nat.le_of_ble_eq_true rfl) rfl ?_
  refine gk_sub (L' := [(0, gr E 70), (1, gi v1), (2, gi (-1)), (3, gi 0)]) [2, 3, 1, 0] rfl ?_
  exact k_X7_nextOne_L4 σ v1 gs_fuel (-1) 0
def f_X7_assigned_J26 (k2 : Int → gs_Mem → Option (Int × gs_Mem)) (k32 : gs_Mem → Option (Int × gs_Mem)) (v1 : Int) (σ : gs_Mem) : Option (Int × gs_Mem) :=
  k2 (v1 + 1) σ
set_option maxRecDepth 100000 in
set_option maxHeartbeats 4000000 in
theorem k_X7_assigned_J26 {E : gs_E} (k2 : Int → gs_Mem → Option (Int × gs_Mem)) (k32 : gs_Mem → Option (Int × gs_Mem))  (v1 : Int)  (hk2 : ∀ (w1 : Int) (σ : gs_Mem), gs_K E (gs_MC E yX7_assigned cX7_assigned 4 (some .int) 0 { frames := 6, cells := 0, slots := 0, locals := 141 }) (fun b : Int × gs_Mem => b) (k2 w1 σ) 2 [(0, gr E 70), (1, gi w1)] [] σ) (hk32 : ∀ (σ : gs_Mem), gs_K E (gs_MC E yX7_assigned cX7_assigned 4 (some .int) 0 { frames := 6, cells := 0, slots := 0, locals := 141 }) (fun b : Int × gs_Mem => b) (k32 σ) 32 [(0, gr E 70)] [] σ) (σ : gs_Mem) : gs_K E (gs_MC E yX7_assigned cX7_assigned 4 (some .int) 0 { frames := 6, cells := 0, slots := 0, locals := 141 }) (fun b : Int × gs_Mem => b) (f_X7_assigned_J26 k2 k32 v1 σ) 26 [(0, gr E 70), (1, gi v1)] [] σ := by
  unfold f_X7_assigned_J26
  refine gk_iinc (L' := [(1, gi (v1 + 1)), (0, gr E 70)]) (pc := 26) 1 dX7_assigned_26 rfl (Nat.le_of_ble_eq_true rfl) rfl ?_
  refine gk_goto (tgt := 2) (pc := 29) dX7_assigned_29 (by decide) ?_
  refine gk_sub (L' := [(0, gr E 70), (1, gi (v1 + 1))]) [1, 0] rfl ?_
  exact hk2 (v1 + 1) σ
def f_X7_assigned_L2  (k32 : gs_Mem → Option (Int × gs_Mem)) : Nat → Int → gs_Mem → Option (Int × gs_Mem)
  | 0, _, _ => none
  | n + 1, v1, σ =>
    gs_chk 0 84 (
    if (gn (σ 71 0)) ≤ (gn v1) then
      k32 σ
    else
      (f_X7_isFixed v1 σ).bind fun u1 =>
      if (gn u1) = 0 then
        (f_X7_has v1 (-1) σ).bind fun b2 =>
        f_X7_assigned_J26 (f_X7_assigned_L2 k32 n) k32 v1 b2.2
      else
        f_X7_assigned_J26 (f_X7_assigned_L2 k32 n) k32 v1 σ)
set_option maxRecDepth 100000 in
set_option maxHeartbeats 4000000 in
theorem k_X7_assigned_L2 {E : gs_E}  (k32 : gs_Mem → Option (Int × gs_Mem))  (hk32 : ∀ (σ : gs_Mem), gs_K E (gs_MC E yX7_assigned cX7_assigned 4 (some .int) 0 { frames := 6, cells := 0, slots := 0, locals := 141 }) (fun b : Int × gs_Mem => b) (k32 σ) 32 [(0, gr E 70)] [] σ) : ∀ (n : Nat) (v1 : Int) (σ : gs_Mem), gs_K E (gs_MC E yX7_assigned cX7_assigned 4 (some .int) 0 { frames := 6, cells := 0, slots := 0, locals := 141 }) (fun b : Int × gs_Mem => b) (f_X7_assigned_L2 k32 n v1 σ) 2 [(0, gr E 70), (1, gi v1)] [] σ := by
  intro n
  induction n with
  | zero => intro v1 σ; rw [f_X7_assigned_L2]; exact gk_none
  | succ n ih =>
    intro v1 σ; rw [f_X7_assigned_L2]
    refine gk_iload_n (pc := 2) 1 dX7_assigned_2 rfl ?_
    refine gk_aload_n (pc := 3) 0 dX7_assigned_3 rfl ?_
    refine gk_getR (q := 71) (pc := 4) rfl clsX7 cll_70 sh_70 0 (by decide) rfl ww_775 dX7_assigned_4 ?_
    refine gk_iconst (pc := 7) dX7_assigned_7 ?_
    refine gk_iald_c (pc := 8) cll_71 sh_71 (by decide +kernel) dX7_assigned_8 ?_
    refine gk_icmp_ge (tgt := 32) (pc := 9) dX7_assigned_9 (by decide) rfl rfl ?_ ?_
    · refine gk_sub (L' := [(0, gr E 70)]) [0] rfl ?_
      exact hk32 σ
    · refine gk_aload_n (pc := 12) 0 dX7_assigned_12 rfl ?_
      refine gk_iload_n (pc := 13) 1 dX7_assigned_13 rfl ?_
      refine gk_callV_ir (As := [gi v1]) (pc := 14) (c_X7_isFixed v1 σ) rfl mm_X7_isFixed ww_849 clsX7 rfl cll_70 sh_70 (gs_fit_of (Nat.le_of_ble_eq_true rfl) (Nat.le_of_ble_eq_true rfl)) rfl rfl (Nat.le_of_ble_eq_true rfl) dX7_assigned_14 (fun u1 => ?_)
      refine gk_if_ne (tgt := 26) (pc := 17) dX7_assigned_17 (by decide) rfl ?_ ?_
      · exact k_X7_assigned_J26 (f_X7_assigned_L2 k32 n) k32 v1 ih hk32 σ
      · refine gk_aload_n (pc := 20) 0 dX7_assigned_20 rfl ?_
        refine gk_iload_n (pc := 21) 1 dX7_assigned_21 rfl ?_
        refine gk_iconst (pc := 22) dX7_assigned_22 ?_
        refine gk_callV_vw (As := [gi v1, gi (-1)]) (pc := 23) (c_X7_has v1 (-1) σ) rfl mm_X7_has ww_857 clsX7 rfl cll_70 sh_70 (gs_fit_of (Nat.le_of_ble_eq_true rfl) (Nat.le_of_ble_eq_true rfl)) rfl rfl (Nat.le_of_ble_eq_true rfl) dX7_assigned_23 (fun b2 => ?_)
        exact k_X7_assigned_J26 (f_X7_assigned_L2 k32 n) k32 v1 ih hk32 b2.2
def f_X7_assigned_J69 (k40 : Int → Int → gs_Mem → Option (Int × gs_Mem)) (k78 : Int → gs_Mem → Option (Int × gs_Mem)) (v1 : Int) (σ : gs_Mem) : Option (Int × gs_Mem) :=
  (f_X7_nextOne v1 σ).bind fun u7 =>
  k40 v1 u7 σ
set_option maxRecDepth 100000 in
set_option maxHeartbeats 4000000 in
theorem k_X7_assigned_J69 {E : gs_E} (k40 : Int → Int → gs_Mem → Option (Int × gs_Mem)) (k78 : Int → gs_Mem → Option (Int × gs_Mem))  (v1 : Int)  (hk40 : ∀ (w1 : Int) (w2 : Int) (σ : gs_Mem), gs_K E (gs_MC E yX7_assigned cX7_assigned 4 (some .int) 0 { frames := 6, cells := 0, slots := 0, locals := 141 }) (fun b : Int × gs_Mem => b) (k40 w1 w2 σ) 40 [(0, gr E 70), (1, gi w1), (2, gi w2)] [] σ) (hk78 : ∀ (w1 : Int) (σ : gs_Mem), gs_K E (gs_MC E yX7_assigned cX7_assigned 4 (some .int) 0 { frames := 6, cells := 0, slots := 0, locals := 141 }) (fun b : Int × gs_Mem => b) (k78 w1 σ) 78 [(1, gi w1)] [] σ) (σ : gs_Mem) : gs_K E (gs_MC E yX7_assigned cX7_assigned 4 (some .int) 0 { frames := 6, cells := 0, slots := 0, locals := 141 }) (fun b : Int × gs_Mem => b) (f_X7_assigned_J69 k40 k78 v1 σ) 69 [(0, gr E 70), (1, gi v1)] [] σ := by
  unfold f_X7_assigned_J69
  refine gk_aload_n (pc := 69) 0 dX7_assigned_69 rfl ?_
  refine gk_iload_n (pc := 70) 1 dX7_assigned_70 rfl ?_
  refine gk_callV_ir (As := [gi v1]) (pc := 71) (c_X7_nextOne v1 σ) rfl mm_X7_nextOne ww_952 clsX7 rfl cll_70 sh_70 (gs_fit_of (Nat.le_of_ble_eq_true rfl) (Nat.le_of_ble_eq_true rfl)) rfl rfl (Nat.le_of_ble_eq_true rfl) dX7_assigned_71 (fun u7 => ?_)
  refine gk_istore_n (L' := [(2, gi u7), (0, gr E 70), (1, gi v1)]) (pc := 74) dX7_assigned_74 (Nat.le_of_ble_eq_true rfl) rfl ?_
  refine gk_goto (tgt := 40) (pc := 75) dX7_assigned_75 (by decide) ?_
  refine gk_sub (L' := [(0, gr E 70), (1, gi v1), (2, gi u7)]) [1, 2, 0] rfl ?_
  exact hk40 v1 u7 σ
def f_X7_assigned_L40  (k78 : Int → gs_Mem → Option (Int × gs_Mem)) : Nat → Int → Int → gs_Mem → Option (Int × gs_Mem)
  | 0, _, _, _ => none
  | n + 1, v1, v2, σ =>
    if (gn v2) < 0 then
      k78 v1 σ
    else
      (f_X7_leastAllowed v2 σ).bind fun u5 =>
      if 0 ≤ (gn u5) then
        (f_X7_has v2 u5 σ).bind fun b6 =>
        f_X7_assigned_J69 (f_X7_assigned_L40 k78 n) k78 v1 b6.2
      else
        f_X7_assigned_J69 (f_X7_assigned_L40 k78 n) k78 (gor v1 (gshl 1 v2)) σ
set_option maxRecDepth 100000 in
set_option maxHeartbeats 4000000 in
theorem k_X7_assigned_L40 {E : gs_E}  (k78 : Int → gs_Mem → Option (Int × gs_Mem))  (hk78 : ∀ (w1 : Int) (σ : gs_Mem), gs_K E (gs_MC E yX7_assigned cX7_assigned 4 (some .int) 0 { frames := 6, cells := 0, slots := 0, locals := 141 }) (fun b : Int × gs_Mem => b) (k78 w1 σ) 78 [(1, gi w1)] [] σ) : ∀ (n : Nat) (v1 : Int) (v2 : Int) (σ : gs_Mem), gs_K E (gs_MC E yX7_assigned cX7_assigned 4 (some .int) 0 { frames := 6, cells := 0, slots := 0, locals := 141 }) (fun b : Int × gs_Mem => b) (f_X7_assigned_L40 k78 n v1 v2 σ) 40 [(0, gr E 70), (1, gi v1), (2, gi v2)] [] σ := by
  intro n
  induction n with
  | zero => intro v1 v2 σ; rw [f_X7_assigned_L40]; exact gk_none
  | succ n ih =>
    intro v1 v2 σ; rw [f_X7_assigned_L40]
    refine gk_iload_n (pc := 40) 2 dX7_assigned_40 rfl ?_
    refine gk_if_lt (tgt := 78) (pc := 41) dX7_assigned_41 (by decide) rfl ?_ ?_
    · refine gk_sub (L' := [(1, gi v1)]) [1] rfl ?_
      exact hk78 v1 σ
    · refine gk_aload_n (pc := 44) 0 dX7_assigned_44 rfl ?_
      refine gk_iload_n (pc := 45) 2 dX7_assigned_45 rfl ?_
      refine gk_callV_ir (As := [gi v2]) (pc := 46) (c_X7_leastAllowed v2 σ) rfl mm_X7_leastAllowed ww_920 clsX7 rfl cll_70 sh_70 (gs_fit_of (Nat.le_of_ble_eq_true rfl) (Nat.le_of_ble_eq_true rfl)) rfl rfl (Nat.le_of_ble_eq_true rfl) dX7_assigned_46 (fun u5 => ?_)
      refine gk_istore_n (L' := [(3, gi u5), (0, gr E 70), (1, gi v1), (2, gi v2)]) (pc := 49) dX7_assigned_49 (Nat.le_of_ble_eq_true rfl) rfl ?_
      refine gk_iload_n (pc := 50) 0 dX7_assigned_50 rfl ?_
      refine gk_if_ge (tgt := 63) (pc := 51) dX7_assigned_51 (by decide) rfl ?_ ?_
      · refine gk_aload_n (pc := 63) 1 dX7_assigned_63 rfl ?_
        refine gk_iload_n (pc := 64) 3 dX7_assigned_64 rfl ?_
        refine gk_iload_n (pc := 65) 0 dX7_assigned_65 rfl ?_
        refine gk_callV_vw (As := [gi v2, gi u5]) (pc := 66) (c_X7_has v2 u5 σ) rfl mm_X7_has ww_857 clsX7 rfl cll_70 sh_70 (gs_fit_of (Nat.le_of_ble_eq_true rfl) (Nat.le_of_ble_eq_true rfl)) rfl rfl (Nat.le_of_ble_eq_true rfl) dX7_assigned_66 (fun b6 => ?_)
        refine gk_sub (L' := [(0, gr E 70), (1, gi v1)]) [1, 2] rfl ?_
        exact k_X7_assigned_J69 (f_X7_assigned_L40 k78 n) k78 v1 ih hk78 b6.2
      · refine gk_iload_n (pc := 54) 2 dX7_assigned_54 rfl ?_
        refine gk_iconst (pc := 55) dX7_assigned_55 ?_
        refine gk_iload_n (pc := 56) 3 dX7_assigned_56 rfl ?_
        refine gk_ishl (pc := 57) dX7_assigned_57 ?_
        refine gk_ior (pc := 58) dX7_assigned_58 ?_
        refine gk_istore_n (L' := [(1, gi (gor v1 (gshl 1 v2))), (3, gi u5), (0, gr E 70), (2, gi v2)]) (pc := 59) dX7_assigned_59 (Nat.le_of_ble_eq_true rfl) rfl ?_
        refine gk_goto (tgt := 69) (pc := 60) dX7_assigned_60 (by decide) ?_
        refine gk_sub (L' := [(0, gr E 70), (1, gi (gor v1 (gshl 1 v2)))]) [2, 0] rfl ?_
        exact k_X7_assigned_J69 (f_X7_assigned_L40 k78 n) k78 (gor v1 (gshl 1 v2)) ih hk78 σ
def f_X7_assigned  (σ : gs_Mem) : Option (Int × gs_Mem) :=
  f_X7_assigned_L2 (fun σ3 =>
    (f_X7_nextOne 0 σ3).bind fun u4 =>
    f_X7_assigned_L40 (fun w1 σ8 =>
      (f_J6_bitCount_0f7a4 w1 σ8).bind fun u9 =>
      some (u9, σ8)) gs_fuel 0 u4 σ3) gs_fuel 0 σ
set_option maxRecDepth 100000 in
set_option maxHeartbeats 4000000 in
theorem c_X7_assigned {E : gs_E}   (σ : gs_Mem) : gs_C E yX7_assigned cX7_assigned 4 (some .int) 0 { frames := 6, cells := 0, slots := 0, locals := 141 } [gr E 70] σ (f_X7_assigned  σ) (fun b : Int × gs_Mem => b) := by
  unfold f_X7_assigned
  refine gs_enter (L := [(0, gr E 70)]) (by decide) rfl rfl (Nat.le_of_ble_eq_true rfl) rfl ?_
  refine gk_iconst (pc := 0) dX7_assigned_0 ?_
  refine gk_istore_n (L' := [(1, gi 0), (0, gr E 70)]) (pc := 1) dX7_assigned_1 (Nat.le_of_ble_eq_true rfl) rfl ?_
  refine gk_sub (L' := [(0, gr E 70), (1, gi 0)]) [1, 0] rfl ?_
  refine k_X7_assigned_L2 _ ?_ gs_fuel 0 σ
  · intro σ3
    refine gk_iconst (pc := 32) dX7_assigned_32 ?_
    refine gk_istore_n (L' := [(1, gi 0), (0, gr E 70)]) (pc := 33) dX7_assigned_33 (Nat.le_of_ble_eq_true rfl) rfl ?_
    refine gk_aload_n (pc := 34) 1 dX7_assigned_34 rfl ?_
    refine gk_iload_n (pc := 35) 0 dX7_assigned_35 rfl ?_
    refine gk_callV_ir (As := [gi 0]) (pc := 36) (c_X7_nextOne 0 σ3) rfl mm_X7_nextOne ww_952 clsX7 rfl cll_70 sh_70 (gs_fit_of (Nat.le_of_ble_eq_true rfl) (Nat.le_of_ble_eq_true rfl)) rfl rfl (Nat.le_of_ble_eq_true rfl) dX7_assigned_36 (fun u4 => ?_)
    refine gk_istore_n (L' := [(2, gi u4), (1, gi 0), (0, gr E 70)]) (pc := 39) dX7_assigned_39 (Nat.le_of_ble_eq_true rfl) rfl ?_
    refine gk_sub (L' := [(0, gr E 70), (1, gi 0), (2, gi u4)]) [2, 1, 0] rfl ?_
    refine k_X7_assigned_L40 _ ?_ gs_fuel 0 u4 σ3
    · intro w1 σ8
      refine gk_iload_n (pc := 78) 0 dX7_assigned_78 rfl ?_
      refine gk_callS_ir (As := [gi w1]) (pc := 79) (c_J6_bitCount_0f7a4 w1 σ8) rfl mm_J6_bitCount_0f7a4 ww_960 (gs_fit_of (Nat.le_of_ble_eq_true rfl) (Nat.le_of_ble_eq_true rfl)) rfl rfl (Nat.le_of_ble_eq_true rfl) dX7_assigned_79 (fun u9 => ?_)
      exact gk_iret (pc := 82) rfl dX7_assigned_82
def f_X7_assign  (σ : gs_Mem) : Option (Int × gs_Mem) :=
  (f_X7_assigned σ).bind fun b1 =>
  some (b1.1, b1.2)
set_option maxRecDepth 100000 in
set_option maxHeartbeats 4000000 in
theorem c_X7_assign {E : gs_E}   (σ : gs_Mem) : gs_C E yX7_assign cX7_assign 1 (some .int) 0 { frames := 7, cells := 0, slots := 0, locals := 164 } [gr E 70] σ (f_X7_assign  σ) (fun b : Int × gs_Mem => b) := by
  unfold f_X7_assign
  refine gs_enter (L := [(0, gr E 70)]) (by decide) rfl rfl (Nat.le_of_ble_eq_true rfl) rfl ?_
  refine gk_aload_n (pc := 0) 0 dX7_assign_0 rfl ?_
  refine gk_callV_iw (As := []) (pc := 1) (c_X7_assigned σ) rfl mm_X7_assigned ww_948 clsX7 rfl cll_70 sh_70 (gs_fit_of (Nat.le_of_ble_eq_true rfl) (Nat.le_of_ble_eq_true rfl)) rfl rfl (Nat.le_of_ble_eq_true rfl) dX7_assign_1 (fun b1 => ?_)
  exact gk_iret (pc := 4) rfl dX7_assign_4
def f_X7_turns_J33 (k2 : Int → gs_Mem → Option (Int × gs_Mem)) (v1 : Int) (v2 : Int) (v3 : Int) (σ : gs_Mem) : Option (Int × gs_Mem) :=
  k2 (v3 + 1) σ
set_option maxRecDepth 100000 in
set_option maxHeartbeats 4000000 in
theorem k_X7_turns_J33 {E : gs_E} (k2 : Int → gs_Mem → Option (Int × gs_Mem))  (v1 : Int) (v2 : Int) (v3 : Int)  (hk2 : ∀ (w3 : Int) (σ : gs_Mem), gs_K E (gs_MC E yX7_turns cX7_turns 4 none 2 { frames := 1, cells := 0, slots := 0, locals := 22 }) (fun b : Int × gs_Mem => b) (k2 w3 σ) 2 [(0, gr E 70), (1, gi v1), (2, gi v2), (3, gi w3)] [] σ) (σ : gs_Mem) : gs_K E (gs_MC E yX7_turns cX7_turns 4 none 2 { frames := 1, cells := 0, slots := 0, locals := 22 }) (fun b : Int × gs_Mem => b) (f_X7_turns_J33 k2 v1 v2 v3 σ) 33 [(0, gr E 70), (1, gi v1), (2, gi v2), (3, gi v3)] [] σ := by
  unfold f_X7_turns_J33
  refine gk_iinc (L' := [(3, gi (v3 + 1)), (0, gr E 70), (1, gi v1), (2, gi v2)]) (pc := 33) 3 dX7_turns_33 rfl (Nat.le_of_ble_eq_true rfl) rfl ?_
  refine gk_goto (tgt := 2) (pc := 36) dX7_turns_36 (by decide) ?_
  refine gk_sub (L' := [(0, gr E 70), (1, gi v1), (2, gi v2), (3, gi (v3 + 1))]) [1, 2, 3, 0] rfl ?_
  exact hk2 (v3 + 1) σ
def f_X7_turns_L2 (v1 : Int) (v2 : Int) : Nat → Int → gs_Mem → Option (Int × gs_Mem)
  | 0, _, _ => none
  | n + 1, v3, σ =>
    gs_chk 0 84 (
    if (gn (σ 71 0)) ≤ (gn v3) then
      some (0, σ)
    else
      if (gand (gshr v1 v3) 1) = 1 then
        (f_X7_channelOf v3 σ).bind fun u1 =>
        (f_X7_has v3 (v2 - u1) σ).bind fun b2 =>
        f_X7_turns_J33 (f_X7_turns_L2 v1 v2 n) v1 v2 v3 b2.2
      else
        f_X7_turns_J33 (f_X7_turns_L2 v1 v2 n) v1 v2 v3 σ)
set_option maxRecDepth 100000 in
set_option maxHeartbeats 4000000 in
theorem k_X7_turns_L2 {E : gs_E} (v1 : Int) (v2 : Int)   : ∀ (n : Nat) (v3 : Int) (σ : gs_Mem), gs_K E (gs_MC E yX7_turns cX7_turns 4 none 2 { frames := 1, cells := 0, slots := 0, locals := 22 }) (fun b : Int × gs_Mem => b) (f_X7_turns_L2 v1 v2 n v3 σ) 2 [(0, gr E 70), (1, gi v1), (2, gi v2), (3, gi v3)] [] σ := by
  intro n
  induction n with
  | zero => intro v3 σ; rw [f_X7_turns_L2]; exact gk_none
  | succ n ih =>
    intro v3 σ; rw [f_X7_turns_L2]
    refine gk_iload_n (pc := 2) 3 dX7_turns_2 rfl ?_
    refine gk_aload_n (pc := 3) 0 dX7_turns_3 rfl ?_
    refine gk_getR (q := 71) (pc := 4) rfl clsX7 cll_70 sh_70 0 (by decide) rfl ww_775 dX7_turns_4 ?_
    refine gk_iconst (pc := 7) dX7_turns_7 ?_
    refine gk_iald_c (pc := 8) cll_71 sh_71 (by decide +kernel) dX7_turns_8 ?_
    refine gk_icmp_ge (tgt := 39) (pc := 9) dX7_turns_9 (by decide) rfl rfl ?_ ?_
    · exact gk_vret (pc := 39) rfl dX7_turns_39
    · refine gk_iload_n (pc := 12) 1 dX7_turns_12 rfl ?_
      refine gk_iload_n (pc := 13) 3 dX7_turns_13 rfl ?_
      refine gk_ishr (pc := 14) dX7_turns_14 ?_
      refine gk_iconst (pc := 15) dX7_turns_15 ?_
      refine gk_iand (pc := 16) dX7_turns_16 ?_
      refine gk_iconst (pc := 17) dX7_turns_17 ?_
      refine gk_icmp_ne (tgt := 33) (pc := 18) dX7_turns_18 (by decide) (gn_ti _) (by decide +kernel) ?_ ?_
      · exact k_X7_turns_J33 (f_X7_turns_L2 v1 v2 n) v1 v2 v3 ih σ
      · refine gk_aload_n (pc := 21) 0 dX7_turns_21 rfl ?_
        refine gk_iload_n (pc := 22) 3 dX7_turns_22 rfl ?_
        refine gk_iload_n (pc := 23) 2 dX7_turns_23 rfl ?_
        refine gk_aload_n (pc := 24) 0 dX7_turns_24 rfl ?_
        refine gk_iload_n (pc := 25) 3 dX7_turns_25 rfl ?_
        refine gk_callV_ir (As := [gi v3]) (pc := 26) (c_X7_channelOf v3 σ) rfl mm_X7_channelOf ww_853 clsX7 rfl cll_70 sh_70 (gs_fit_of (Nat.le_of_ble_eq_true rfl) (Nat.le_of_ble_eq_true rfl)) rfl rfl (Nat.le_of_ble_eq_true rfl) dX7_turns_26 (fun u1 => ?_)
        refine gk_isub (pc := 29) dX7_turns_29 ?_
        refine gk_callV_vw (As := [gi v3, gi (v2 - u1)]) (pc := 30) (c_X7_has v3 (v2 - u1) σ) rfl mm_X7_has ww_857 clsX7 rfl cll_70 sh_70 (gs_fit_of (Nat.le_of_ble_eq_true rfl) (Nat.le_of_ble_eq_true rfl)) rfl rfl (Nat.le_of_ble_eq_true rfl) dX7_turns_30 (fun b2 => ?_)
        exact k_X7_turns_J33 (f_X7_turns_L2 v1 v2 n) v1 v2 v3 ih b2.2
def f_X7_turns (v1 : Int) (v2 : Int) (σ : gs_Mem) : Option (Int × gs_Mem) :=
  f_X7_turns_L2 v1 v2 gs_fuel 0 σ
set_option maxRecDepth 100000 in
set_option maxHeartbeats 4000000 in
theorem c_X7_turns {E : gs_E} (v1 : Int) (v2 : Int)  (σ : gs_Mem) : gs_C E yX7_turns cX7_turns 4 none 2 { frames := 1, cells := 0, slots := 0, locals := 22 } [gr E 70, gi v1, gi v2] σ (f_X7_turns v1 v2 σ) (fun b : Int × gs_Mem => b) := by
  unfold f_X7_turns
  refine gs_enter (L := [(0, gr E 70), (1, gi v1), (2, gi v2)]) (by decide) rfl rfl (Nat.le_of_ble_eq_true rfl) rfl ?_
  refine gk_iconst (pc := 0) dX7_turns_0 ?_
  refine gk_istore_n (L' := [(3, gi 0), (0, gr E 70), (1, gi v1), (2, gi v2)]) (pc := 1) dX7_turns_1 (Nat.le_of_ble_eq_true rfl) rfl ?_
  refine gk_sub (L' := [(0, gr E 70), (1, gi v1), (2, gi v2), (3, gi 0)]) [1, 2, 3, 0] rfl ?_
  exact k_X7_turns_L2 v1 v2 gs_fuel 0 σ
def f_X7_exchange_J178 (k77 : Int → Int → gs_Mem → Option (Int × gs_Mem)) (k187 : Int → gs_Mem → Option (Int × gs_Mem)) (v2 : Int) (v3 : Int) (v6 : Int) (v7 : Int) (v8 : Int) (t0 : Int) (t1 : Int) (σ : gs_Mem) : Option (Int × gs_Mem) :=
  k77 (gor t1 t0) (v8 + 1) σ
set_option maxRecDepth 100000 in
set_option maxHeartbeats 4000000 in
theorem k_X7_exchange_J178 {E : gs_E} (k77 : Int → Int → gs_Mem → Option (Int × gs_Mem)) (k187 : Int → gs_Mem → Option (Int × gs_Mem))  (v2 : Int) (v3 : Int) (v6 : Int) (v7 : Int) (v8 : Int) (t0 : Int) (t1 : Int)  (hk77 : ∀ (w4 : Int) (w8 : Int) (σ : gs_Mem), gs_K E (gs_MC E yX7_exchange cX7_exchange 10 (some .int) 0 { frames := 5, cells := 0, slots := 0, locals := 114 }) (fun b : Int × gs_Mem => b) (k77 w4 w8 σ) 77 [(0, gr E 70), (2, gi v2), (3, gi v3), (4, gi w4), (6, gi v6), (7, gi v7), (8, gi w8)] [] σ) (hk187 : ∀ (w4 : Int) (σ : gs_Mem), gs_K E (gs_MC E yX7_exchange cX7_exchange 10 (some .int) 0 { frames := 5, cells := 0, slots := 0, locals := 114 }) (fun b : Int × gs_Mem => b) (k187 w4 σ) 187 [(0, gr E 70), (2, gi v2), (3, gi v3), (4, gi w4), (6, gi v6), (7, gi v7)] [] σ) (σ : gs_Mem) : gs_K E (gs_MC E yX7_exchange cX7_exchange 10 (some .int) 0 { frames := 5, cells := 0, slots := 0, locals := 114 }) (fun b : Int × gs_Mem => b) (f_X7_exchange_J178 k77 k187 v2 v3 v6 v7 v8 t0 t1 σ) 178 [(0, gr E 70), (2, gi v2), (3, gi v3), (6, gi v6), (7, gi v7), (8, gi v8)] [gi t0, gi t1] σ := by
  unfold f_X7_exchange_J178
  refine gk_ior (pc := 178) dX7_exchange_178 ?_
  refine gk_istore (L' := [(4, gi (gor t1 t0)), (0, gr E 70), (2, gi v2), (3, gi v3), (6, gi v6), (7, gi v7), (8, gi v8)]) (pc := 179) dX7_exchange_179 (Nat.le_of_ble_eq_true rfl) rfl ?_
  refine gk_iinc (L' := [(8, gi (v8 + 1)), (4, gi (gor t1 t0)), (0, gr E 70), (2, gi v2), (3, gi v3), (6, gi v6), (7, gi v7)]) (pc := 181) 6 dX7_exchange_181 rfl (Nat.le_of_ble_eq_true rfl) rfl ?_
  refine gk_goto (tgt := 77) (pc := 184) dX7_exchange_184 (by decide) ?_
  refine gk_sub (L' := [(0, gr E 70), (2, gi v2), (3, gi v3), (4, gi (gor t1 t0)), (6, gi v6), (7, gi v7), (8, gi (v8 + 1))]) [2, 3, 4, 1, 5, 6, 0] rfl ?_
  exact hk77 (gor t1 t0) (v8 + 1) σ
def f_X7_exchange_J161 (k77 : Int → Int → gs_Mem → Option (Int × gs_Mem)) (k187 : Int → gs_Mem → Option (Int × gs_Mem)) (v2 : Int) (v3 : Int) (v4 : Int) (v6 : Int) (v7 : Int) (v8 : Int) (t0 : Int) (σ : gs_Mem) : Option (Int × gs_Mem) :=
  if (gn t0) = 0 then
    f_X7_exchange_J178 k77 k187 v2 v3 v6 v7 v8 0 v4 σ
  else
    f_X7_exchange_J178 k77 k187 v2 v3 v6 v7 v8 (gshl 1 v8) v4 σ
set_option maxRecDepth 100000 in
set_option maxHeartbeats 4000000 in
theorem k_X7_exchange_J161 {E : gs_E} (k77 : Int → Int → gs_Mem → Option (Int × gs_Mem)) (k187 : Int → gs_Mem → Option (Int × gs_Mem))  (v2 : Int) (v3 : Int) (v4 : Int) (v6 : Int) (v7 : Int) (v8 : Int) (t0 : Int)  (hk77 : ∀ (w4 : Int) (w8 : Int) (σ : gs_Mem), gs_K E (gs_MC E yX7_exchange cX7_exchange 10 (some .int) 0 { frames := 5, cells := 0, slots := 0, locals := 114 }) (fun b : Int × gs_Mem => b) (k77 w4 w8 σ) 77 [(0, gr E 70), (2, gi v2), (3, gi v3), (4, gi w4), (6, gi v6), (7, gi v7), (8, gi w8)] [] σ) (hk187 : ∀ (w4 : Int) (σ : gs_Mem), gs_K E (gs_MC E yX7_exchange cX7_exchange 10 (some .int) 0 { frames := 5, cells := 0, slots := 0, locals := 114 }) (fun b : Int × gs_Mem => b) (k187 w4 σ) 187 [(0, gr E 70), (2, gi v2), (3, gi v3), (4, gi w4), (6, gi v6), (7, gi v7)] [] σ) (σ : gs_Mem) : gs_K E (gs_MC E yX7_exchange cX7_exchange 10 (some .int) 0 { frames := 5, cells := 0, slots := 0, locals := 114 }) (fun b : Int × gs_Mem => b) (f_X7_exchange_J161 k77 k187 v2 v3 v4 v6 v7 v8 t0 σ) 161 [(0, gr E 70), (2, gi v2), (3, gi v3), (4, gi v4), (6, gi v6), (7, gi v7), (8, gi v8)] [gi t0] σ := by
  unfold f_X7_exchange_J161
  refine gk_istore (L' := [(9, gi t0), (0, gr E 70), (2, gi v2), (3, gi v3), (4, gi v4), (6, gi v6), (7, gi v7), (8, gi v8)]) (pc := 161) dX7_exchange_161 (Nat.le_of_ble_eq_true rfl) rfl ?_
  refine gk_iload (pc := 163) 4 dX7_exchange_163 rfl ?_
  refine gk_iload (pc := 165) 0 dX7_exchange_165 rfl ?_
  refine gk_if_eq (tgt := 177) (pc := 167) dX7_exchange_167 (by decide) rfl ?_ ?_
  · refine gk_iconst (pc := 177) dX7_exchange_177 ?_
    refine gk_sub (L' := [(0, gr E 70), (2, gi v2), (3, gi v3), (6, gi v6), (7, gi v7), (8, gi v8)]) [1, 2, 3, 5, 6, 7] rfl ?_
    exact k_X7_exchange_J178 k77 k187 v2 v3 v6 v7 v8 0 v4 hk77 hk187 σ
  · refine gk_iconst (pc := 170) dX7_exchange_170 ?_
    refine gk_iload (pc := 171) 7 dX7_exchange_171 rfl ?_
    refine gk_ishl (pc := 173) dX7_exchange_173 ?_
    refine gk_goto (tgt := 178) (pc := 174) dX7_exchange_174 (by decide) ?_
    refine gk_sub (L' := [(0, gr E 70), (2, gi v2), (3, gi v3), (6, gi v6), (7, gi v7), (8, gi v8)]) [1, 2, 3, 5, 6, 7] rfl ?_
    exact k_X7_exchange_J178 k77 k187 v2 v3 v6 v7 v8 (gshl 1 v8) v4 hk77 hk187 σ
def f_X7_exchange_J160 (k77 : Int → Int → gs_Mem → Option (Int × gs_Mem)) (k187 : Int → gs_Mem → Option (Int × gs_Mem)) (v2 : Int) (v3 : Int) (v4 : Int) (v6 : Int) (v7 : Int) (v8 : Int) (σ : gs_Mem) : Option (Int × gs_Mem) :=
  f_X7_exchange_J161 k77 k187 v2 v3 v4 v6 v7 v8 0 σ
set_option maxRecDepth 100000 in
set_option maxHeartbeats 4000000 in
theorem k_X7_exchange_J160 {E : gs_E} (k77 : Int → Int → gs_Mem → Option (Int × gs_Mem)) (k187 : Int → gs_Mem → Option (Int × gs_Mem))  (v2 : Int) (v3 : Int) (v4 : Int) (v6 : Int) (v7 : Int) (v8 : Int)  (hk77 : ∀ (w4 : Int) (w8 : Int) (σ : gs_Mem), gs_K E (gs_MC E yX7_exchange cX7_exchange 10 (some .int) 0 { frames := 5, cells := 0, slots := 0, locals := 114 }) (fun b : Int × gs_Mem => b) (k77 w4 w8 σ) 77 [(0, gr E 70), (2, gi v2), (3, gi v3), (4, gi w4), (6, gi v6), (7, gi v7), (8, gi w8)] [] σ) (hk187 : ∀ (w4 : Int) (σ : gs_Mem), gs_K E (gs_MC E yX7_exchange cX7_exchange 10 (some .int) 0 { frames := 5, cells := 0, slots := 0, locals := 114 }) (fun b : Int × gs_Mem => b) (k187 w4 σ) 187 [(0, gr E 70), (2, gi v2), (3, gi v3), (4, gi w4), (6, gi v6), (7, gi v7)] [] σ) (σ : gs_Mem) : gs_K E (gs_MC E yX7_exchange cX7_exchange 10 (some .int) 0 { frames := 5, cells := 0, slots := 0, locals := 114 }) (fun b : Int × gs_Mem => b) (f_X7_exchange_J160 k77 k187 v2 v3 v4 v6 v7 v8 σ) 160 [(0, gr E 70), (2, gi v2), (3, gi v3), (4, gi v4), (6, gi v6), (7, gi v7), (8, gi v8)] [] σ := by
  unfold f_X7_exchange_J160
  refine gk_iconst (pc := 160) dX7_exchange_160 ?_
  exact k_X7_exchange_J161 k77 k187 v2 v3 v4 v6 v7 v8 0 hk77 hk187 σ
def f_X7_exchange_J145 (k77 : Int → Int → gs_Mem → Option (Int × gs_Mem)) (k187 : Int → gs_Mem → Option (Int × gs_Mem)) (v2 : Int) (v3 : Int) (v4 : Int) (v6 : Int) (v7 : Int) (v8 : Int) (σ : gs_Mem) : Option (Int × gs_Mem) :=
  (f_X7_apartOf v7 v8 σ).bind fun u7 =>
  if (gn u7) ≤ 0 then
    f_X7_exchange_J160 k77 k187 v2 v3 v4 v6 v7 v8 σ
  else
    f_X7_exchange_J161 k77 k187 v2 v3 v4 v6 v7 v8 1 σ
set_option maxRecDepth 100000 in
set_option maxHeartbeats 4000000 in
theorem k_X7_exchange_J145 {E : gs_E} (k77 : Int → Int → gs_Mem → Option (Int × gs_Mem)) (k187 : Int → gs_Mem → Option (Int × gs_Mem))  (v2 : Int) (v3 : Int) (v4 : Int) (v6 : Int) (v7 : Int) (v8 : Int)  (hk77 : ∀ (w4 : Int) (w8 : Int) (σ : gs_Mem), gs_K E (gs_MC E yX7_exchange cX7_exchange 10 (some .int) 0 { frames := 5, cells := 0, slots := 0, locals := 114 }) (fun b : Int × gs_Mem => b) (k77 w4 w8 σ) 77 [(0, gr E 70), (2, gi v2), (3, gi v3), (4, gi w4), (6, gi v6), (7, gi v7), (8, gi w8)] [] σ) (hk187 : ∀ (w4 : Int) (σ : gs_Mem), gs_K E (gs_MC E yX7_exchange cX7_exchange 10 (some .int) 0 { frames := 5, cells := 0, slots := 0, locals := 114 }) (fun b : Int × gs_Mem => b) (k187 w4 σ) 187 [(0, gr E 70), (2, gi v2), (3, gi v3), (4, gi w4), (6, gi v6), (7, gi v7)] [] σ) (σ : gs_Mem) : gs_K E (gs_MC E yX7_exchange cX7_exchange 10 (some .int) 0 { frames := 5, cells := 0, slots := 0, locals := 114 }) (fun b : Int × gs_Mem => b) (f_X7_exchange_J145 k77 k187 v2 v3 v4 v6 v7 v8 σ) 145 [(0, gr E 70), (2, gi v2), (3, gi v3), (4, gi v4), (6, gi v6), (7, gi v7), (8, gi v8)] [] σ := by
  unfold f_X7_exchange_J145
  refine gk_aload_n (pc := 145) 0 dX7_exchange_145 rfl ?_
  refine gk_iload (pc := 146) 5 dX7_exchange_146 rfl ?_
  refine gk_iload (pc := 148) 6 dX7_exchange_148 rfl ?_
  refine gk_callV_ir (As := [gi v7, gi v8]) (pc := 150) (c_X7_apartOf v7 v8 σ) rfl mm_X7_apartOf ww_915 clsX7 rfl cll_70 sh_70 (gs_fit_of (Nat.le_of_ble_eq_true rfl) (Nat.le_of_ble_eq_true rfl)) rfl rfl (Nat.le_of_ble_eq_true rfl) dX7_exchange_150 (fun u7 => ?_)
  refine gk_if_le (tgt := 160) (pc := 153) dX7_exchange_153 (by decide) rfl ?_ ?_
  · exact k_X7_exchange_J160 k77 k187 v2 v3 v4 v6 v7 v8 hk77 hk187 σ
  · refine gk_iconst (pc := 156) dX7_exchange_156 ?_
    refine gk_goto (tgt := 161) (pc := 157) dX7_exchange_157 (by decide) ?_
    exact k_X7_exchange_J161 k77 k187 v2 v3 v4 v6 v7 v8 1 hk77 hk187 σ
def f_X7_exchange_L77 (v2 : Int) (v3 : Int) (v6 : Int) (v7 : Int) (k187 : Int → gs_Mem → Option (Int × gs_Mem)) : Nat → Int → Int → gs_Mem → Option (Int × gs_Mem)
  | 0, _, _, _ => none
  | n + 1, v4, v8, σ =>
    gs_chk 0 84 (
    if (gn (σ 71 0)) ≤ (gn v8) then
      k187 v4 σ
    else
      if (gand (gshr v6 v7) 1) = 1 then
        if (gn v8) = (gn v7) then
          f_X7_exchange_J160 (f_X7_exchange_L77 v2 v3 v6 v7 k187 n) k187 v2 v3 v4 v6 v7 v8 σ
        else
          (f_X7_channelOf v8 σ).bind fun u4 =>
          (f_X7_channelOf v7 σ).bind fun u5 =>
          if (gn u4) = (gn ((v3 + v2) - u5)) then
            (f_X7_channelOf v8 σ).bind fun u6 =>
            if (gn u6) = (gn v3) then
              f_X7_exchange_J145 (f_X7_exchange_L77 v2 v3 v6 v7 k187 n) k187 v2 v3 v4 v6 v7 v8 σ
            else
              (f_X7_channelOf v8 σ).bind fun u8 =>
              if (gn u8) = (gn v2) then
                f_X7_exchange_J145 (f_X7_exchange_L77 v2 v3 v6 v7 k187 n) k187 v2 v3 v4 v6 v7 v8 σ
              else
                f_X7_exchange_J160 (f_X7_exchange_L77 v2 v3 v6 v7 k187 n) k187 v2 v3 v4 v6 v7 v8 σ
          else
            f_X7_exchange_J160 (f_X7_exchange_L77 v2 v3 v6 v7 k187 n) k187 v2 v3 v4 v6 v7 v8 σ
      else
        f_X7_exchange_J160 (f_X7_exchange_L77 v2 v3 v6 v7 k187 n) k187 v2 v3 v4 v6 v7 v8 σ)
set_option maxRecDepth 100000 in
set_option maxHeartbeats 4000000 in
theorem k_X7_exchange_L77 {E : gs_E} (v2 : Int) (v3 : Int) (v6 : Int) (v7 : Int) (k187 : Int → gs_Mem → Option (Int × gs_Mem))  (hk187 : ∀ (w4 : Int) (σ : gs_Mem), gs_K E (gs_MC E yX7_exchange cX7_exchange 10 (some .int) 0 { frames := 5, cells := 0, slots := 0, locals := 114 }) (fun b : Int × gs_Mem => b) (k187 w4 σ) 187 [(0, gr E 70), (2, gi v2), (3, gi v3), (4, gi w4), (6, gi v6), (7, gi v7)] [] σ) : ∀ (n : Nat) (v4 : Int) (v8 : Int) (σ : gs_Mem), gs_K E (gs_MC E yX7_exchange cX7_exchange 10 (some .int) 0 { frames := 5, cells := 0, slots := 0, locals := 114 }) (fun b : Int × gs_Mem => b) (f_X7_exchange_L77 v2 v3 v6 v7 k187 n v4 v8 σ) 77 [(0, gr E 70), (2, gi v2), (3, gi v3), (4, gi v4), (6, gi v6), (7, gi v7), (8, gi v8)] [] σ := by
  intro n
  induction n with
  | zero => intro v4 v8 σ; rw [f_X7_exchange_L77]; exact gk_none
  | succ n ih =>
    intro v4 v8 σ; rw [f_X7_exchange_L77]
    refine gk_iload (pc := 77) 6 dX7_exchange_77 rfl ?_
    refine gk_aload_n (pc := 79) 0 dX7_exchange_79 rfl ?_
    refine gk_getR (q := 71) (pc := 80) rfl clsX7 cll_70 sh_70 0 (by decide) rfl ww_775 dX7_exchange_80 ?_
    refine gk_iconst (pc := 83) dX7_exchange_83 ?_
    refine gk_iald_c (pc := 84) cll_71 sh_71 (by decide +kernel) dX7_exchange_84 ?_
    refine gk_icmp_ge (tgt := 187) (pc := 85) dX7_exchange_85 (by decide) rfl rfl ?_ ?_
    · refine gk_sub (L' := [(0, gr E 70), (2, gi v2), (3, gi v3), (4, gi v4), (6, gi v6), (7, gi v7)]) [0, 1, 2, 3, 4, 5] rfl ?_
      exact hk187 v4 σ
    · refine gk_iload (pc := 88) 4 dX7_exchange_88 rfl ?_
      refine gk_iload (pc := 90) 5 dX7_exchange_90 rfl ?_
      refine gk_ishr (pc := 92) dX7_exchange_92 ?_
      refine gk_iconst (pc := 93) dX7_exchange_93 ?_
      refine gk_iand (pc := 94) dX7_exchange_94 ?_
      refine gk_iconst (pc := 95) dX7_exchange_95 ?_
      refine gk_icmp_ne (tgt := 160) (pc := 96) dX7_exchange_96 (by decide) (gn_ti _) (by decide +kernel) ?_ ?_
      · exact k_X7_exchange_J160 (f_X7_exchange_L77 v2 v3 v6 v7 k187 n) k187 v2 v3 v4 v6 v7 v8 ih hk187 σ
      · refine gk_iload (pc := 99) 6 dX7_exchange_99 rfl ?_
        refine gk_iload (pc := 101) 5 dX7_exchange_101 rfl ?_
        refine gk_icmp_eq (tgt := 160) (pc := 103) dX7_exchange_103 (by decide) rfl rfl ?_ ?_
        · exact k_X7_exchange_J160 (f_X7_exchange_L77 v2 v3 v6 v7 k187 n) k187 v2 v3 v4 v6 v7 v8 ih hk187 σ
        · refine gk_aload_n (pc := 106) 0 dX7_exchange_106 rfl ?_
          refine gk_iload (pc := 107) 6 dX7_exchange_107 rfl ?_
          refine gk_callV_ir (As := [gi v8]) (pc := 109) (c_X7_channelOf v8 σ) rfl mm_X7_channelOf ww_853 clsX7 rfl cll_70 sh_70 (gs_fit_of (Nat.le_of_ble_eq_true rfl) (Nat.le_of_ble_eq_true rfl)) rfl rfl (Nat.le_of_ble_eq_true rfl) dX7_exchange_109 (fun u4 => ?_)
          refine gk_iload_n (pc := 112) 2 dX7_exchange_112 rfl ?_
          refine gk_iload_n (pc := 113) 1 dX7_exchange_113 rfl ?_
          refine gk_iadd (pc := 114) dX7_exchange_114 ?_
          refine gk_aload_n (pc := 115) 0 dX7_exchange_115 rfl ?_
          refine gk_iload (pc := 116) 5 dX7_exchange_116 rfl ?_
          refine gk_callV_ir (As := [gi v7]) (pc := 118) (c_X7_channelOf v7 σ) rfl mm_X7_channelOf ww_853 clsX7 rfl cll_70 sh_70 (gs_fit_of (Nat.le_of_ble_eq_true rfl) (Nat.le_of_ble_eq_true rfl)) rfl rfl (Nat.le_of_ble_eq_true rfl) dX7_exchange_118 (fun u5 => ?_)
          refine gk_isub (pc := 121) dX7_exchange_121 ?_
          refine gk_icmp_ne (tgt := 160) (pc := 122) dX7_exchange_122 (by decide) rfl rfl ?_ ?_
          · exact k_X7_exchange_J160 (f_X7_exchange_L77 v2 v3 v6 v7 k187 n) k187 v2 v3 v4 v6 v7 v8 ih hk187 σ
          · refine gk_aload_n (pc := 125) 0 dX7_exchange_125 rfl ?_
            refine gk_iload (pc := 126) 6 dX7_exchange_126 rfl ?_
            refine gk_callV_ir (As := [gi v8]) (pc := 128) (c_X7_channelOf v8 σ) rfl mm_X7_channelOf ww_853 clsX7 rfl cll_70 sh_70 (gs_fit_of (Nat.le_of_ble_eq_true rfl) (Nat.le_of_ble_eq_true rfl)) rfl rfl (Nat.le_of_ble_eq_true rfl) dX7_exchange_128 (fun u6 => ?_)
            refine gk_iload_n (pc := 131) 2 dX7_exchange_131 rfl ?_
            refine gk_icmp_eq (tgt := 145) (pc := 132) dX7_exchange_132 (by decide) rfl rfl ?_ ?_
            · exact k_X7_exchange_J145 (f_X7_exchange_L77 v2 v3 v6 v7 k187 n) k187 v2 v3 v4 v6 v7 v8 ih hk187 σ
            · refine gk_aload_n (pc := 135) 0 dX7_exchange_135 rfl ?_
              refine gk_iload (pc := 136) 6 dX7_exchange_136 rfl ?_
              refine gk_callV_ir (As := [gi v8]) (pc := 138) (c_X7_channelOf v8 σ) rfl mm_X7_channelOf ww_853 clsX7 rfl cll_70 sh_70 (gs_fit_of (Nat.le_of_ble_eq_true rfl) (Nat.le_of_ble_eq_true rfl)) rfl rfl (Nat.le_of_ble_eq_true rfl) dX7_exchange_138 (fun u8 => ?_)
              refine gk_iload_n (pc := 141) 1 dX7_exchange_141 rfl ?_
              refine gk_icmp_ne (tgt := 160) (pc := 142) dX7_exchange_142 (by decide) rfl rfl ?_ ?_
              · exact k_X7_exchange_J160 (f_X7_exchange_L77 v2 v3 v6 v7 k187 n) k187 v2 v3 v4 v6 v7 v8 ih hk187 σ
              · exact k_X7_exchange_J145 (f_X7_exchange_L77 v2 v3 v6 v7 k187 n) k187 v2 v3 v4 v6 v7 v8 ih hk187 σ
def f_X7_exchange_L63 (v2 : Int) (v3 : Int) (v6 : Int) (k193 : Int → gs_Mem → Option (Int × gs_Mem)) : Nat → Int → Int → gs_Mem → Option (Int × gs_Mem)
  | 0, _, _, _ => none
  | n + 1, v4, v7, σ =>
    gs_chk 0 84 (
    if (gn (σ 71 0)) ≤ (gn v7) then
      k193 v4 σ
    else
      f_X7_exchange_L77 v2 v3 v6 v7 (fun w4 σ9 =>
        f_X7_exchange_L63 v2 v3 v6 k193 n w4 (v7 + 1) σ9) gs_fuel v4 0 σ)
set_option maxRecDepth 100000 in
set_option maxHeartbeats 4000000 in
theorem k_X7_exchange_L63 {E : gs_E} (v2 : Int) (v3 : Int) (v6 : Int) (k193 : Int → gs_Mem → Option (Int × gs_Mem))  (hk193 : ∀ (w4 : Int) (σ : gs_Mem), gs_K E (gs_MC E yX7_exchange cX7_exchange 10 (some .int) 0 { frames := 5, cells := 0, slots := 0, locals := 114 }) (fun b : Int × gs_Mem => b) (k193 w4 σ) 193 [(0, gr E 70), (2, gi v2), (3, gi v3), (4, gi w4), (6, gi v6)] [] σ) : ∀ (n : Nat) (v4 : Int) (v7 : Int) (σ : gs_Mem), gs_K E (gs_MC E yX7_exchange cX7_exchange 10 (some .int) 0 { frames := 5, cells := 0, slots := 0, locals := 114 }) (fun b : Int × gs_Mem => b) (f_X7_exchange_L63 v2 v3 v6 k193 n v4 v7 σ) 63 [(0, gr E 70), (2, gi v2), (3, gi v3), (4, gi v4), (6, gi v6), (7, gi v7)] [] σ := by
  intro n
  induction n with
  | zero => intro v4 v7 σ; rw [f_X7_exchange_L63]; exact gk_none
  | succ n ih =>
    intro v4 v7 σ; rw [f_X7_exchange_L63]
    refine gk_iload (pc := 63) 5 dX7_exchange_63 rfl ?_
    refine gk_aload_n (pc := 65) 0 dX7_exchange_65 rfl ?_
    refine gk_getR (q := 71) (pc := 66) rfl clsX7 cll_70 sh_70 0 (by decide) rfl ww_775 dX7_exchange_66 ?_
    refine gk_iconst (pc := 69) dX7_exchange_69 ?_
    refine gk_iald_c (pc := 70) cll_71 sh_71 (by decide +kernel) dX7_exchange_70 ?_
    refine gk_icmp_ge (tgt := 193) (pc := 71) dX7_exchange_71 (by decide) rfl rfl ?_ ?_
    · refine gk_sub (L' := [(0, gr E 70), (2, gi v2), (3, gi v3), (4, gi v4), (6, gi v6)]) [0, 1, 2, 3, 4] rfl ?_
      exact hk193 v4 σ
    · refine gk_iconst (pc := 74) dX7_exchange_74 ?_
      refine gk_istore (L' := [(8, gi 0), (0, gr E 70), (2, gi v2), (3, gi v3), (4, gi v4), (6, gi v6), (7, gi v7)]) (pc := 75) dX7_exchange_75 (Nat.le_of_ble_eq_true rfl) rfl ?_
      refine gk_sub (L' := [(0, gr E 70), (2, gi v2), (3, gi v3), (4, gi v4), (6, gi v6), (7, gi v7), (8, gi 0)]) [1, 2, 3, 4, 5, 6, 0] rfl ?_
      refine k_X7_exchange_L77 v2 v3 v6 v7 _ ?_ gs_fuel v4 0 σ
      · intro w4 σ9
        refine gk_iinc (L' := [(7, gi (v7 + 1)), (0, gr E 70), (2, gi v2), (3, gi v3), (4, gi w4), (6, gi v6)]) (pc := 187) 5 dX7_exchange_187 rfl (Nat.le_of_ble_eq_true rfl) rfl ?_
        refine gk_goto (tgt := 63) (pc := 190) dX7_exchange_190 (by decide) ?_
        refine gk_sub (L' := [(0, gr E 70), (2, gi v2), (3, gi v3), (4, gi w4), (6, gi v6), (7, gi (v7 + 1))]) [1, 2, 3, 4, 5, 0] rfl ?_
        exact ih w4 (v7 + 1) σ9
def f_X7_exchange_J205 (k51 : Int → Int → gs_Mem → Option (Int × gs_Mem)) (k210 : Int → gs_Mem → Option (Int × gs_Mem)) (v2 : Int) (v3 : Int) (v4 : Int) (t0 : Int) (σ : gs_Mem) : Option (Int × gs_Mem) :=
  k51 v4 t0 σ
set_option maxRecDepth 100000 in
set_option maxHeartbeats 4000000 in
theorem k_X7_exchange_J205 {E : gs_E} (k51 : Int → Int → gs_Mem → Option (Int × gs_Mem)) (k210 : Int → gs_Mem → Option (Int × gs_Mem))  (v2 : Int) (v3 : Int) (v4 : Int) (t0 : Int)  (hk51 : ∀ (w4 : Int) (w5 : Int) (σ : gs_Mem), gs_K E (gs_MC E yX7_exchange cX7_exchange 10 (some .int) 0 { frames := 5, cells := 0, slots := 0, locals := 114 }) (fun b : Int × gs_Mem => b) (k51 w4 w5 σ) 51 [(0, gr E 70), (2, gi v2), (3, gi v3), (4, gi w4), (5, gi w5)] [] σ) (hk210 : ∀ (w4 : Int) (σ : gs_Mem), gs_K E (gs_MC E yX7_exchange cX7_exchange 10 (some .int) 0 { frames := 5, cells := 0, slots := 0, locals := 114 }) (fun b : Int × gs_Mem => b) (k210 w4 σ) 210 [(0, gr E 70), (2, gi v2), (3, gi v3), (4, gi w4)] [] σ) (σ : gs_Mem) : gs_K E (gs_MC E yX7_exchange cX7_exchange 10 (some .int) 0 { frames := 5, cells := 0, slots := 0, locals := 114 }) (fun b : Int × gs_Mem => b) (f_X7_exchange_J205 k51 k210 v2 v3 v4 t0 σ) 205 [(0, gr E 70), (2, gi v2), (3, gi v3), (4, gi v4)] [gi t0] σ := by
  unfold f_X7_exchange_J205
  refine gk_istore (L' := [(5, gi t0), (0, gr E 70), (2, gi v2), (3, gi v3), (4, gi v4)]) (pc := 205) dX7_exchange_205 (Nat.le_of_ble_eq_true rfl) rfl ?_
  refine gk_goto (tgt := 51) (pc := 207) dX7_exchange_207 (by decide) ?_
  refine gk_sub (L' := [(0, gr E 70), (2, gi v2), (3, gi v3), (4, gi v4), (5, gi t0)]) [1, 2, 3, 4, 0] rfl ?_
  exact hk51 v4 t0 σ
def f_X7_exchange_L51 (v2 : Int) (v3 : Int) (k210 : Int → gs_Mem → Option (Int × gs_Mem)) : Nat → Int → Int → gs_Mem → Option (Int × gs_Mem)
  | 0, _, _, _ => none
  | n + 1, v4, v5, σ =>
    if (gn v5) = 0 then
      k210 v4 σ
    else
      f_X7_exchange_L63 v2 v3 v4 (fun w4 σ10 =>
        if (gn w4) = (gn v4) then
          f_X7_exchange_J205 (f_X7_exchange_L51 v2 v3 k210 n) k210 v2 v3 w4 0 σ10
        else
          f_X7_exchange_J205 (f_X7_exchange_L51 v2 v3 k210 n) k210 v2 v3 w4 1 σ10) gs_fuel v4 0 σ
set_option maxRecDepth 100000 in
set_option maxHeartbeats 4000000 in
theorem k_X7_exchange_L51 {E : gs_E} (v2 : Int) (v3 : Int) (k210 : Int → gs_Mem → Option (Int × gs_Mem))  (hk210 : ∀ (w4 : Int) (σ : gs_Mem), gs_K E (gs_MC E yX7_exchange cX7_exchange 10 (some .int) 0 { frames := 5, cells := 0, slots := 0, locals := 114 }) (fun b : Int × gs_Mem => b) (k210 w4 σ) 210 [(0, gr E 70), (2, gi v2), (3, gi v3), (4, gi w4)] [] σ) : ∀ (n : Nat) (v4 : Int) (v5 : Int) (σ : gs_Mem), gs_K E (gs_MC E yX7_exchange cX7_exchange 10 (some .int) 0 { frames := 5, cells := 0, slots := 0, locals := 114 }) (fun b : Int × gs_Mem => b) (f_X7_exchange_L51 v2 v3 k210 n v4 v5 σ) 51 [(0, gr E 70), (2, gi v2), (3, gi v3), (4, gi v4), (5, gi v5)] [] σ := by
  intro n
  induction n with
  | zero => intro v4 v5 σ; rw [f_X7_exchange_L51]; exact gk_none
  | succ n ih =>
    intro v4 v5 σ; rw [f_X7_exchange_L51]
    refine gk_iload (pc := 51) 4 dX7_exchange_51 rfl ?_
    refine gk_if_eq (tgt := 210) (pc := 53) dX7_exchange_53 (by decide) rfl ?_ ?_
    · refine gk_sub (L' := [(0, gr E 70), (2, gi v2), (3, gi v3), (4, gi v4)]) [0, 1, 2, 3] rfl ?_
      exact hk210 v4 σ
    · refine gk_iload (pc := 56) 3 dX7_exchange_56 rfl ?_
      refine gk_istore (L' := [(6, gi v4), (0, gr E 70), (2, gi v2), (3, gi v3), (4, gi v4), (5, gi v5)]) (pc := 58) dX7_exchange_58 (Nat.le_of_ble_eq_true rfl) rfl ?_
      refine gk_iconst (pc := 60) dX7_exchange_60 ?_
      refine gk_istore (L' := [(7, gi 0), (6, gi v4), (0, gr E 70), (2, gi v2), (3, gi v3), (4, gi v4), (5, gi v5)]) (pc := 61) dX7_exchange_61 (Nat.le_of_ble_eq_true rfl) rfl ?_
      refine gk_sub (L' := [(0, gr E 70), (2, gi v2), (3, gi v3), (4, gi v4), (6, gi v4), (7, gi 0)]) [2, 3, 4, 5, 1, 0] rfl ?_
      refine k_X7_exchange_L63 v2 v3 v4 _ ?_ gs_fuel v4 0 σ
      · intro w4 σ10
        refine gk_iload (pc := 193) 3 dX7_exchange_193 rfl ?_
        refine gk_iload (pc := 195) 4 dX7_exchange_195 rfl ?_
        refine gk_icmp_eq (tgt := 204) (pc := 197) dX7_exchange_197 (by decide) rfl rfl ?_ ?_
        · refine gk_iconst (pc := 204) dX7_exchange_204 ?_
          refine gk_sub (L' := [(0, gr E 70), (2, gi v2), (3, gi v3), (4, gi w4)]) [0, 1, 2, 3] rfl ?_
          exact k_X7_exchange_J205 (f_X7_exchange_L51 v2 v3 k210 n) k210 v2 v3 w4 0 ih hk210 σ10
        · refine gk_iconst (pc := 200) dX7_exchange_200 ?_
          refine gk_goto (tgt := 205) (pc := 201) dX7_exchange_201 (by decide) ?_
          refine gk_sub (L' := [(0, gr E 70), (2, gi v2), (3, gi v3), (4, gi w4)]) [0, 1, 2, 3] rfl ?_
          exact k_X7_exchange_J205 (f_X7_exchange_L51 v2 v3 k210 n) k210 v2 v3 w4 1 ih hk210 σ10
def f_X7_exchange_J247 (k213 : Int → gs_Mem → Option (Int × gs_Mem)) (k253 : gs_Mem → Option (Int × gs_Mem)) (v2 : Int) (v3 : Int) (v4 : Int) (v6 : Int) (σ : gs_Mem) : Option (Int × gs_Mem) :=
  k213 (v6 + 1) σ
set_option maxRecDepth 100000 in
set_option maxHeartbeats 4000000 in
theorem k_X7_exchange_J247 {E : gs_E} (k213 : Int → gs_Mem → Option (Int × gs_Mem)) (k253 : gs_Mem → Option (Int × gs_Mem))  (v2 : Int) (v3 : Int) (v4 : Int) (v6 : Int)  (hk213 : ∀ (w6 : Int) (σ : gs_Mem), gs_K E (gs_MC E yX7_exchange cX7_exchange 10 (some .int) 0 { frames := 5, cells := 0, slots := 0, locals := 114 }) (fun b : Int × gs_Mem => b) (k213 w6 σ) 213 [(0, gr E 70), (2, gi v2), (3, gi v3), (4, gi v4), (6, gi w6)] [] σ) (hk253 : ∀ (σ : gs_Mem), gs_K E (gs_MC E yX7_exchange cX7_exchange 10 (some .int) 0 { frames := 5, cells := 0, slots := 0, locals := 114 }) (fun b : Int × gs_Mem => b) (k253 σ) 253 [(0, gr E 70), (2, gi v2), (3, gi v3), (4, gi v4)] [] σ) (σ : gs_Mem) : gs_K E (gs_MC E yX7_exchange cX7_exchange 10 (some .int) 0 { frames := 5, cells := 0, slots := 0, locals := 114 }) (fun b : Int × gs_Mem => b) (f_X7_exchange_J247 k213 k253 v2 v3 v4 v6 σ) 247 [(0, gr E 70), (2, gi v2), (3, gi v3), (4, gi v4), (6, gi v6)] [] σ := by
  unfold f_X7_exchange_J247
  refine gk_iinc (L' := [(6, gi (v6 + 1)), (0, gr E 70), (2, gi v2), (3, gi v3), (4, gi v4)]) (pc := 247) 4 dX7_exchange_247 rfl (Nat.le_of_ble_eq_true rfl) rfl ?_
  refine gk_goto (tgt := 213) (pc := 250) dX7_exchange_250 (by decide) ?_
  refine gk_sub (L' := [(0, gr E 70), (2, gi v2), (3, gi v3), (4, gi v4), (6, gi (v6 + 1))]) [1, 2, 3, 4, 0] rfl ?_
  exact hk213 (v6 + 1) σ
def f_X7_exchange_L213 (v2 : Int) (v3 : Int) (v4 : Int) (k253 : gs_Mem → Option (Int × gs_Mem)) : Nat → Int → gs_Mem → Option (Int × gs_Mem)
  | 0, _, _ => none
  | n + 1, v6, σ =>
    gs_chk 0 84 (
    if (gn (σ 71 0)) ≤ (gn v6) then
      k253 σ
    else
      if (gand (gshr v4 v6) 1) = 1 then
        (f_X7_isFixed v6 σ).bind fun u12 =>
        if (gn u12) = 0 then
          f_X7_exchange_J247 (f_X7_exchange_L213 v2 v3 v4 k253 n) k253 v2 v3 v4 v6 σ
        else
          some ((-5), σ)
      else
        f_X7_exchange_J247 (f_X7_exchange_L213 v2 v3 v4 k253 n) k253 v2 v3 v4 v6 σ)
set_option maxRecDepth 100000 in
set_option maxHeartbeats 4000000 in
theorem k_X7_exchange_L213 {E : gs_E} (v2 : Int) (v3 : Int) (v4 : Int) (k253 : gs_Mem → Option (Int × gs_Mem))  (hk253 : ∀ (σ : gs_Mem), gs_K E (gs_MC E yX7_exchange cX7_exchange 10 (some .int) 0 { frames := 5, cells := 0, slots := 0, locals := 114 }) (fun b : Int × gs_Mem => b) (k253 σ) 253 [(0, gr E 70), (2, gi v2), (3, gi v3), (4, gi v4)] [] σ) : ∀ (n : Nat) (v6 : Int) (σ : gs_Mem), gs_K E (gs_MC E yX7_exchange cX7_exchange 10 (some .int) 0 { frames := 5, cells := 0, slots := 0, locals := 114 }) (fun b : Int × gs_Mem => b) (f_X7_exchange_L213 v2 v3 v4 k253 n v6 σ) 213 [(0, gr E 70), (2, gi v2), (3, gi v3), (4, gi v4), (6, gi v6)] [] σ := by
  intro n
  induction n with
  | zero => intro v6 σ; rw [f_X7_exchange_L213]; exact gk_none
  | succ n ih =>
    intro v6 σ; rw [f_X7_exchange_L213]
    refine gk_iload (pc := 213) 4 dX7_exchange_213 rfl ?_
    refine gk_aload_n (pc := 215) 0 dX7_exchange_215 rfl ?_
    refine gk_getR (q := 71) (pc := 216) rfl clsX7 cll_70 sh_70 0 (by decide) rfl ww_775 dX7_exchange_216 ?_
    refine gk_iconst (pc := 219) dX7_exchange_219 ?_
    refine gk_iald_c (pc := 220) cll_71 sh_71 (by decide +kernel) dX7_exchange_220 ?_
    refine gk_icmp_ge (tgt := 253) (pc := 221) dX7_exchange_221 (by decide) rfl rfl ?_ ?_
    · refine gk_sub (L' := [(0, gr E 70), (2, gi v2), (3, gi v3), (4, gi v4)]) [0, 1, 2, 3] rfl ?_
      exact hk253 σ
    · refine gk_iload (pc := 224) 3 dX7_exchange_224 rfl ?_
      refine gk_iload (pc := 226) 4 dX7_exchange_226 rfl ?_
      refine gk_ishr (pc := 228) dX7_exchange_228 ?_
      refine gk_iconst (pc := 229) dX7_exchange_229 ?_
      refine gk_iand (pc := 230) dX7_exchange_230 ?_
      refine gk_iconst (pc := 231) dX7_exchange_231 ?_
      refine gk_icmp_ne (tgt := 247) (pc := 232) dX7_exchange_232 (by decide) (gn_ti _) (by decide +kernel) ?_ ?_
      · exact k_X7_exchange_J247 (f_X7_exchange_L213 v2 v3 v4 k253 n) k253 v2 v3 v4 v6 ih hk253 σ
      · refine gk_aload_n (pc := 235) 0 dX7_exchange_235 rfl ?_
        refine gk_iload (pc := 236) 4 dX7_exchange_236 rfl ?_
        refine gk_callV_ir (As := [gi v6]) (pc := 238) (c_X7_isFixed v6 σ) rfl mm_X7_isFixed ww_849 clsX7 rfl cll_70 sh_70 (gs_fit_of (Nat.le_of_ble_eq_true rfl) (Nat.le_of_ble_eq_true rfl)) rfl rfl (Nat.le_of_ble_eq_true rfl) dX7_exchange_238 (fun u12 => ?_)
        refine gk_if_eq (tgt := 247) (pc := 241) dX7_exchange_241 (by decide) rfl ?_ ?_
        · exact k_X7_exchange_J247 (f_X7_exchange_L213 v2 v3 v4 k253 n) k253 v2 v3 v4 v6 ih hk253 σ
        · refine gk_bipush (pc := 244) dX7_exchange_244 (by decide +kernel) ?_
          exact gk_iret (pc := 246) rfl dX7_exchange_246
def f_X7_exchange (v1 : Int) (v2 : Int) (σ : gs_Mem) : Option (Int × gs_Mem) :=
  (f_X7_isStation v1 σ).bind fun u1 =>
  if (gn u1) = 0 then
    some ((-1), σ)
  else
    (f_X7_in (gn v2) 0 19 σ).bind fun u2 =>
    if (gn u2) = 0 then
      some ((-2), σ)
    else
      (f_X7_channelOf v1 σ).bind fun u3 =>
      if (gn u3) < 0 then
        some ((-3), σ)
      else
        if (gn u3) = (gn v2) then
          some ((-3), σ)
        else
          f_X7_exchange_L51 v2 u3 (fun w4 σ11 =>
            f_X7_exchange_L213 v2 u3 w4 (fun σ13 =>
              (f_X7_clashes σ13).bind fun u14 =>
              (f_X7_turns w4 (u3 + v2) σ13).bind fun b15 =>
              (f_X7_clashes b15.2).bind fun u16 =>
              if (gn u16) ≤ (gn u14) then
                (f_J6_bitCount_0f7a4 w4 b15.2).bind fun u17 =>
                some (u17, b15.2)
              else
                (f_X7_turns w4 (u3 + v2) b15.2).bind fun b18 =>
                some ((-6), b18.2)) gs_fuel 0 σ11) gs_fuel (gshl 1 v1) 1 σ
set_option maxRecDepth 100000 in
set_option maxHeartbeats 4000000 in
theorem c_X7_exchange {E : gs_E} (v1 : Int) (v2 : Int)  (σ : gs_Mem) : gs_C E yX7_exchange cX7_exchange 10 (some .int) 0 { frames := 5, cells := 0, slots := 0, locals := 114 } [gr E 70, gi v1, gi v2] σ (f_X7_exchange v1 v2 σ) (fun b : Int × gs_Mem => b) := by
  unfold f_X7_exchange
  refine gs_enter (L := [(0, gr E 70), (1, gi v1), (2, gi v2)]) (by decide) rfl rfl (Nat.le_of_ble_eq_true rfl) rfl ?_
  refine gk_aload_n (pc := 0) 0 dX7_exchange_0 rfl ?_
  refine gk_iload_n (pc := 1) 1 dX7_exchange_1 rfl ?_
  refine gk_callV_ir (As := [gi v1]) (pc := 2) (c_X7_isStation v1 σ) rfl mm_X7_isStation ww_843 clsX7 rfl cll_70 sh_70 (gs_fit_of (Nat.le_of_ble_eq_true rfl) (Nat.le_of_ble_eq_true rfl)) rfl rfl (Nat.le_of_ble_eq_true rfl) dX7_exchange_2 (fun u1 => ?_)
  refine gk_if_ne (tgt := 10) (pc := 5) dX7_exchange_5 (by decide) rfl ?_ ?_
  · refine gk_iload_n (pc := 10) 2 dX7_exchange_10 rfl ?_
    refine gk_i2l (pc := 11) dX7_exchange_11 ?_
    refine gk_lconst (x := 0) (pc := 12) dX7_exchange_12 (by decide +kernel) ?_
    refine gk_ldc2 (x := 19) (pc := 13) rfl dX7_exchange_13 ww_848 (by decide +kernel) ?_
    refine gk_callS_ir (As := [gl (gn v2), gl 0, gl 19]) (pc := 16) (c_X7_in (gn v2) 0 19 σ) rfl mm_X7_in ww_817 (gs_fit_of (Nat.le_of_ble_eq_true rfl) (Nat.le_of_ble_eq_true rfl)) rfl rfl (Nat.le_of_ble_eq_true rfl) dX7_exchange_16 (fun u2 => ?_)
    refine gk_if_ne (tgt := 25) (pc := 19) dX7_exchange_19 (by decide) rfl ?_ ?_
    · refine gk_aload_n (pc := 25) 0 dX7_exchange_25 rfl ?_
      refine gk_iload_n (pc := 26) 1 dX7_exchange_26 rfl ?_
      refine gk_callV_ir (As := [gi v1]) (pc := 27) (c_X7_channelOf v1 σ) rfl mm_X7_channelOf ww_853 clsX7 rfl cll_70 sh_70 (gs_fit_of (Nat.le_of_ble_eq_true rfl) (Nat.le_of_ble_eq_true rfl)) rfl rfl (Nat.le_of_ble_eq_true rfl) dX7_exchange_27 (fun u3 => ?_)
      refine gk_istore_n (L' := [(3, gi u3), (0, gr E 70), (1, gi v1), (2, gi v2)]) (pc := 30) dX7_exchange_30 (Nat.le_of_ble_eq_true rfl) rfl ?_
      refine gk_iload_n (pc := 31) 0 dX7_exchange_31 rfl ?_
      refine gk_if_lt (tgt := 40) (pc := 32) dX7_exchange_32 (by decide) rfl ?_ ?_
      · refine gk_bipush (pc := 40) dX7_exchange_40 (by decide +kernel) ?_
        exact gk_iret (pc := 42) rfl dX7_exchange_42
      · refine gk_iload_n (pc := 35) 0 dX7_exchange_35 rfl ?_
        refine gk_iload_n (pc := 36) 3 dX7_exchange_36 rfl ?_
        refine gk_icmp_ne (tgt := 43) (pc := 37) dX7_exchange_37 (by decide) rfl rfl ?_ ?_
        · refine gk_iconst (pc := 43) dX7_exchange_43 ?_
          refine gk_iload_n (pc := 44) 2 dX7_exchange_44 rfl ?_
          refine gk_ishl (pc := 45) dX7_exchange_45 ?_
          refine gk_istore (L' := [(4, gi (gshl 1 v1)), (3, gi u3), (0, gr E 70), (1, gi v1), (2, gi v2)]) (pc := 46) dX7_exchange_46 (Nat.le_of_ble_eq_true rfl) rfl ?_
          refine gk_iconst (pc := 48) dX7_exchange_48 ?_
          refine gk_istore (L' := [(5, gi 1), (4, gi (gshl 1 v1)), (3, gi u3), (0, gr E 70), (1, gi v1), (2, gi v2)]) (pc := 49) dX7_exchange_49 (Nat.le_of_ble_eq_true rfl) rfl ?_
          refine gk_sub (L' := [(0, gr E 70), (2, gi v2), (3, gi u3), (4, gi (gshl 1 v1)), (5, gi 1)]) [3, 5, 2, 1, 0] rfl ?_
          refine k_X7_exchange_L51 v2 u3 _ ?_ gs_fuel (gshl 1 v1) 1 σ
          · intro w4 σ11
            refine gk_iconst (pc := 210) dX7_exchange_210 ?_
            refine gk_istore (L' := [(6, gi 0), (0, gr E 70), (2, gi v2), (3, gi u3), (4, gi w4)]) (pc := 211) dX7_exchange_211 (Nat.le_of_ble_eq_true rfl) rfl ?_
            refine gk_sub (L' := [(0, gr E 70), (2, gi v2), (3, gi u3), (4, gi w4), (6, gi 0)]) [1, 2, 3, 4, 0] rfl ?_
            refine k_X7_exchange_L213 v2 u3 w4 _ ?_ gs_fuel 0 σ11
            · intro σ13
              refine gk_aload_n (pc := 253) 0 dX7_exchange_253 rfl ?_
              refine gk_callV_ir (As := []) (pc := 254) (c_X7_clashes σ13) rfl mm_X7_clashes ww_965 clsX7 rfl cll_70 sh_70 (gs_fit_of (Nat.le_of_ble_eq_true rfl) (Nat.le_of_ble_eq_true rfl)) rfl rfl (Nat.le_of_ble_eq_true rfl) dX7_exchange_254 (fun u14 => ?_)
              refine gk_istore (L' := [(6, gi u14), (0, gr E 70), (2, gi v2), (3, gi u3), (4, gi w4)]) (pc := 257) dX7_exchange_257 (Nat.le_of_ble_eq_true rfl) rfl ?_
              refine gk_aload_n (pc := 259) 1 dX7_exchange_259 rfl ?_
              refine gk_iload (pc := 260) 4 dX7_exchange_260 rfl ?_
              refine gk_iload_n (pc := 262) 3 dX7_exchange_262 rfl ?_
              refine gk_iload_n (pc := 263) 2 dX7_exchange_263 rfl ?_
              refine gk_iadd (pc := 264) dX7_exchange_264 ?_
              refine gk_callV_vw (As := [gi w4, gi (u3 + v2)]) (pc := 265) (c_X7_turns w4 (u3 + v2) σ13) rfl mm_X7_turns ww_969 clsX7 rfl cll_70 sh_70 (gs_fit_of (Nat.le_of_ble_eq_true rfl) (Nat.le_of_ble_eq_true rfl)) rfl rfl (Nat.le_of_ble_eq_true rfl) dX7_exchange_265 (fun b15 => ?_)
              refine gk_aload_n (pc := 268) 1 dX7_exchange_268 rfl ?_
              refine gk_callV_ir (As := []) (pc := 269) (c_X7_clashes b15.2) rfl mm_X7_clashes ww_965 clsX7 rfl cll_70 sh_70 (gs_fit_of (Nat.le_of_ble_eq_true rfl) (Nat.le_of_ble_eq_true rfl)) rfl rfl (Nat.le_of_ble_eq_true rfl) dX7_exchange_269 (fun u16 => ?_)
              refine gk_iload (pc := 272) 0 dX7_exchange_272 rfl ?_
              refine gk_icmp_le (tgt := 289) (pc := 274) dX7_exchange_274 (by decide) rfl rfl ?_ ?_
              · refine gk_iload (pc := 289) 4 dX7_exchange_289 rfl ?_
                refine gk_callS_ir (As := [gi w4]) (pc := 291) (c_J6_bitCount_0f7a4 w4 b15.2) rfl mm_J6_bitCount_0f7a4 ww_960 (gs_fit_of (Nat.le_of_ble_eq_true rfl) (Nat.le_of_ble_eq_true rfl)) rfl rfl (Nat.le_of_ble_eq_true rfl) dX7_exchange_291 (fun u17 => ?_)
                exact gk_iret (pc := 294) rfl dX7_exchange_294
              · refine gk_aload_n (pc := 277) 1 dX7_exchange_277 rfl ?_
                refine gk_iload (pc := 278) 4 dX7_exchange_278 rfl ?_
                refine gk_iload_n (pc := 280) 3 dX7_exchange_280 rfl ?_
                refine gk_iload_n (pc := 281) 2 dX7_exchange_281 rfl ?_
                refine gk_iadd (pc := 282) dX7_exchange_282 ?_
                refine gk_callV_vw (As := [gi w4, gi (u3 + v2)]) (pc := 283) (c_X7_turns w4 (u3 + v2) b15.2) rfl mm_X7_turns ww_969 clsX7 rfl cll_70 sh_70 (gs_fit_of (Nat.le_of_ble_eq_true rfl) (Nat.le_of_ble_eq_true rfl)) rfl rfl (Nat.le_of_ble_eq_true rfl) dX7_exchange_283 (fun b18 => ?_)
                refine gk_bipush (pc := 286) dX7_exchange_286 (by decide +kernel) ?_
                exact gk_iret (pc := 288) rfl dX7_exchange_288
        · refine gk_bipush (pc := 40) dX7_exchange_40 (by decide +kernel) ?_
          exact gk_iret (pc := 42) rfl dX7_exchange_42
    · refine gk_bipush (pc := 22) dX7_exchange_22 (by decide +kernel) ?_
      exact gk_iret (pc := 24) rfl dX7_exchange_24
  · refine gk_iconst (pc := 8) dX7_exchange_8 ?_
    exact gk_iret (pc := 9) rfl dX7_exchange_9
def f_X7_span_J45 (σ : gs_Mem) (k7 : Int → Int → Int → Option (Int)) (k51 : Int → Int → Option (Int)) (v1 : Int) (v2 : Int) (v3 : Int) : Option (Int) :=
  k7 v1 v2 (v3 + 1)
set_option maxRecDepth 100000 in
set_option maxHeartbeats 4000000 in
theorem k_X7_span_J45 {E : gs_E} (σ : gs_Mem) (k7 : Int → Int → Int → Option (Int)) (k51 : Int → Int → Option (Int))  (v1 : Int) (v2 : Int) (v3 : Int)  (hk7 : ∀ (w1 : Int) (w2 : Int) (w3 : Int), gs_K E (gs_MC E yX7_span cX7_span 4 (some .int) 0 { frames := 1, cells := 0, slots := 0, locals := 21 }) (fun v : Int => (v, σ)) (k7 w1 w2 w3) 7 [(0, gr E 70), (1, gi w1), (2, gi w2), (3, gi w3)] [] σ) (hk51 : ∀ (w1 : Int) (w2 : Int), gs_K E (gs_MC E yX7_span cX7_span 4 (some .int) 0 { frames := 1, cells := 0, slots := 0, locals := 21 }) (fun v : Int => (v, σ)) (k51 w1 w2) 51 [(1, gi w1), (2, gi w2)] [] σ) : gs_K E (gs_MC E yX7_span cX7_span 4 (some .int) 0 { frames := 1, cells := 0, slots := 0, locals := 21 }) (fun v : Int => (v, σ)) (f_X7_span_J45 σ k7 k51 v1 v2 v3) 45 [(0, gr E 70), (1, gi v1), (2, gi v2), (3, gi v3)] [] σ := by
  unfold f_X7_span_J45
  refine gk_iinc (L' := [(3, gi (v3 + 1)), (0, gr E 70), (1, gi v1), (2, gi v2)]) (pc := 45) 3 dX7_span_45 rfl (Nat.le_of_ble_eq_true rfl) rfl ?_
  refine gk_goto (tgt := 7) (pc := 48) dX7_span_48 (by decide) ?_
  refine gk_sub (L' := [(0, gr E 70), (1, gi v1), (2, gi v2), (3, gi (v3 + 1))]) [1, 2, 3, 0] rfl ?_
  exact hk7 v1 v2 (v3 + 1)
def f_X7_span_L7 (σ : gs_Mem)  (k51 : Int → Int → Option (Int)) : Nat → Int → Int → Int → Option (Int)
  | 0, _, _, _ => none
  | n + 1, v1, v2, v3 =>
    gs_chk 0 84 (
    if (gn (σ 71 0)) ≤ (gn v3) then
      k51 v1 v2
    else
      (f_X7_channelOf v3 σ).bind fun u1 =>
      if (gn u1) < 0 then
        f_X7_span_J45 σ (f_X7_span_L7 σ k51 n) k51 v1 v2 v3
      else
        (f_X7_channelOf v3 σ).bind fun u2 =>
        (f_X7_channelOf v3 σ).bind fun u3 =>
        f_X7_span_J45 σ (f_X7_span_L7 σ k51 n) k51 (gmin v1 u2) (gmax v2 u3) v3)
set_option maxRecDepth 100000 in
set_option maxHeartbeats 4000000 in
theorem k_X7_span_L7 {E : gs_E} (σ : gs_Mem)  (k51 : Int → Int → Option (Int))  (hk51 : ∀ (w1 : Int) (w2 : Int), gs_K E (gs_MC E yX7_span cX7_span 4 (some .int) 0 { frames := 1, cells := 0, slots := 0, locals := 21 }) (fun v : Int => (v, σ)) (k51 w1 w2) 51 [(1, gi w1), (2, gi w2)] [] σ) : ∀ (n : Nat) (v1 : Int) (v2 : Int) (v3 : Int), gs_K E (gs_MC E yX7_span cX7_span 4 (some .int) 0 { frames := 1, cells := 0, slots := 0, locals := 21 }) (fun v : Int => (v, σ)) (f_X7_span_L7 σ k51 n v1 v2 v3) 7 [(0, gr E 70), (1, gi v1), (2, gi v2), (3, gi v3)] [] σ := by
  intro n
  induction n with
  | zero => intro v1 v2 v3; rw [f_X7_span_L7]; exact gk_none
  | succ n ih =>
    intro v1 v2 v3; rw [f_X7_span_L7]
    refine gk_iload_n (pc := 7) 3 dX7_span_7 rfl ?_
    refine gk_aload_n (pc := 8) 0 dX7_span_8 rfl ?_
    refine gk_getR (q := 71) (pc := 9) rfl clsX7 cll_70 sh_70 0 (by decide) rfl ww_775 dX7_span_9 ?_
    refine gk_iconst (pc := 12) dX7_span_12 ?_
    refine gk_iald_c (pc := 13) cll_71 sh_71 (by decide +kernel) dX7_span_13 ?_
    refine gk_icmp_ge (tgt := 51) (pc := 14) dX7_span_14 (by decide) rfl rfl ?_ ?_
    · refine gk_sub (L' := [(1, gi v1), (2, gi v2)]) [1, 2] rfl ?_
      exact hk51 v1 v2
    · refine gk_aload_n (pc := 17) 0 dX7_span_17 rfl ?_
      refine gk_iload_n (pc := 18) 3 dX7_span_18 rfl ?_
      refine gk_callV_ir (As := [gi v3]) (pc := 19) (c_X7_channelOf v3 σ) rfl mm_X7_channelOf ww_853 clsX7 rfl cll_70 sh_70 (gs_fit_of (Nat.le_of_ble_eq_true rfl) (Nat.le_of_ble_eq_true rfl)) rfl rfl (Nat.le_of_ble_eq_true rfl) dX7_span_19 (fun u1 => ?_)
      refine gk_if_lt (tgt := 45) (pc := 22) dX7_span_22 (by decide) rfl ?_ ?_
      · exact k_X7_span_J45 σ (f_X7_span_L7 σ k51 n) k51 v1 v2 v3 ih hk51
      · refine gk_iload_n (pc := 25) 1 dX7_span_25 rfl ?_
        refine gk_aload_n (pc := 26) 0 dX7_span_26 rfl ?_
        refine gk_iload_n (pc := 27) 3 dX7_span_27 rfl ?_
        refine gk_callV_ir (As := [gi v3]) (pc := 28) (c_X7_channelOf v3 σ) rfl mm_X7_channelOf ww_853 clsX7 rfl cll_70 sh_70 (gs_fit_of (Nat.le_of_ble_eq_true rfl) (Nat.le_of_ble_eq_true rfl)) rfl rfl (Nat.le_of_ble_eq_true rfl) dX7_span_28 (fun u2 => ?_)
        refine gk_mmin (pc := 31) rfl mmw_RX7_165 (Nat.le_of_ble_eq_true rfl) (Nat.le_of_ble_eq_true rfl) ⟨Nat.le_refl 0, Nat.le_refl 0⟩ dX7_span_31 ?_
        refine gk_istore_n (L' := [(1, gi (gmin v1 u2)), (0, gr E 70), (2, gi v2), (3, gi v3)]) (pc := 34) dX7_span_34 (Nat.le_of_ble_eq_true rfl) rfl ?_
        refine gk_iload_n (pc := 35) 2 dX7_span_35 rfl ?_
        refine gk_aload_n (pc := 36) 1 dX7_span_36 rfl ?_
        refine gk_iload_n (pc := 37) 3 dX7_span_37 rfl ?_
        refine gk_callV_ir (As := [gi v3]) (pc := 38) (c_X7_channelOf v3 σ) rfl mm_X7_channelOf ww_853 clsX7 rfl cll_70 sh_70 (gs_fit_of (Nat.le_of_ble_eq_true rfl) (Nat.le_of_ble_eq_true rfl)) rfl rfl (Nat.le_of_ble_eq_true rfl) dX7_span_38 (fun u3 => ?_)
        refine gk_mmax (pc := 41) rfl mmw_RX7_113 (Nat.le_of_ble_eq_true rfl) (Nat.le_of_ble_eq_true rfl) ⟨Nat.le_refl 0, Nat.le_refl 0⟩ dX7_span_41 ?_
        refine gk_istore_n (L' := [(2, gi (gmax v2 u3)), (1, gi (gmin v1 u2)), (0, gr E 70), (3, gi v3)]) (pc := 44) dX7_span_44 (Nat.le_of_ble_eq_true rfl) rfl ?_
        refine gk_sub (L' := [(0, gr E 70), (1, gi (gmin v1 u2)), (2, gi (gmax v2 u3)), (3, gi v3)]) [2, 1, 0, 3] rfl ?_
        exact k_X7_span_J45 σ (f_X7_span_L7 σ k51 n) k51 (gmin v1 u2) (gmax v2 u3) v3 ih hk51
def f_X7_span  (σ : gs_Mem) : Option (Int) :=
  f_X7_span_L7 σ (fun w1 w2 =>
    if 0 ≤ (gn w2) then
      some ((w2 - w1) + 1)
    else
      some 0) gs_fuel 20 (-1) 0
set_option maxRecDepth 100000 in
set_option maxHeartbeats 4000000 in
theorem c_X7_span {E : gs_E}   (σ : gs_Mem) : gs_C E yX7_span cX7_span 4 (some .int) 0 { frames := 1, cells := 0, slots := 0, locals := 21 } [gr E 70] σ (f_X7_span  σ) (fun v : Int => (v, σ)) := by
  unfold f_X7_span
  refine gs_enter (L := [(0, gr E 70)]) (by decide) rfl rfl (Nat.le_of_ble_eq_true rfl) rfl ?_
  refine gk_bipush (pc := 0) dX7_span_0 (by decide +kernel) ?_
  refine gk_istore_n (L' := [(1, gi 20), (0, gr E 70)]) (pc := 2) dX7_span_2 (Nat.le_of_ble_eq_true rfl) rfl ?_
  refine gk_iconst (pc := 3) dX7_span_3 ?_
  refine gk_istore_n (L' := [(2, gi (-1)), (1, gi 20), (0, gr E 70)]) (pc := 4) dX7_span_4 (Nat.le_of_ble_eq_true rfl) rfl ?_
  refine gk_iconst (pc := 5) dX7_span_5 ?_
  refine gk_istore_n (L' := [(3, gi 0), (2, gi (-1)), (1, gi 20), (0, gr E 70)]) (pc := 6) dX7_span_6 (Nat.le_of_ble_eq_true rfl) rfl ?_
  refine gk_sub (L' := [(0, gr E 70), (1, gi 20), (2, gi (-1)), (3, gi 0)]) [3, 2, 1, 0] rfl ?_
  refine k_X7_span_L7 σ _ ?_ gs_fuel 20 (-1) 0
  · intro w1 w2
    refine gk_iload_n (pc := 51) 1 dX7_span_51 rfl ?_
    refine gk_if_ge (tgt := 59) (pc := 52) dX7_span_52 (by decide) rfl ?_ ?_
    · refine gk_iload_n (pc := 59) 1 dX7_span_59 rfl ?_
      refine gk_iload_n (pc := 60) 0 dX7_span_60 rfl ?_
      refine gk_isub (pc := 61) dX7_span_61 ?_
      refine gk_iconst (pc := 62) dX7_span_62 ?_
      refine gk_iadd (pc := 63) dX7_span_63 ?_
      exact gk_iret (pc := 64) rfl dX7_span_64
    · refine gk_iconst (pc := 55) dX7_span_55 ?_
      refine gk_goto (tgt := 64) (pc := 56) dX7_span_56 (by decide) ?_
      exact gk_iret (pc := 64) rfl dX7_span_64
def f_X7_isClique_J53 (σ : gs_Mem) (k15 : Int → Option (Int)) (k59 : Option (Int)) (v1 : Int) (v2 : Int) (v3 : Int) (v4 : Int) : Option (Int) :=
  k15 (v4 + 1)
set_option maxRecDepth 100000 in
set_option maxHeartbeats 4000000 in
theorem k_X7_isClique_J53 {E : gs_E} (σ : gs_Mem) (k15 : Int → Option (Int)) (k59 : Option (Int))  (v1 : Int) (v2 : Int) (v3 : Int) (v4 : Int)  (hk15 : ∀ (w4 : Int), gs_K E (gs_MC E yX7_isClique cX7_isClique 5 (some .boolean) 0 { frames := 2, cells := 0, slots := 0, locals := 47 }) (fun v : Int => (v, σ)) (k15 w4) 15 [(0, gr E 70), (1, gi v1), (2, gi v2), (3, gi v3), (4, gi w4)] [] σ) (hk59 : gs_K E (gs_MC E yX7_isClique cX7_isClique 5 (some .boolean) 0 { frames := 2, cells := 0, slots := 0, locals := 47 }) (fun v : Int => (v, σ)) (k59) 59 [(0, gr E 70), (1, gi v1), (2, gi v2), (3, gi v3)] [] σ) : gs_K E (gs_MC E yX7_isClique cX7_isClique 5 (some .boolean) 0 { frames := 2, cells := 0, slots := 0, locals := 47 }) (fun v : Int => (v, σ)) (f_X7_isClique_J53 σ k15 k59 v1 v2 v3 v4) 53 [(0, gr E 70), (1, gi v1), (2, gi v2), (3, gi v3), (4, gi v4)] [] σ := by
  unfold f_X7_isClique_J53
  refine gk_iinc (L' := [(4, gi (v4 + 1)), (0, gr E 70), (1, gi v1), (2, gi v2), (3, gi v3)]) (pc := 53) 4 dX7_isClique_53 rfl (Nat.le_of_ble_eq_true rfl) rfl ?_
  refine gk_goto (tgt := 15) (pc := 56) dX7_isClique_56 (by decide) ?_
  refine gk_sub (L' := [(0, gr E 70), (1, gi v1), (2, gi v2), (3, gi v3), (4, gi (v4 + 1))]) [1, 2, 3, 4, 0] rfl ?_
  exact hk15 (v4 + 1)
def f_X7_isClique_L15 (σ : gs_Mem) (v1 : Int) (v2 : Int) (v3 : Int) (k59 : Option (Int)) : Nat → Int → Option (Int)
  | 0, _ => none
  | n + 1, v4 =>
    if (gn v3) ≤ (gn v4) then
      k59
    else
      if (gand (gshr v1 v3) 1) = 1 then
        if (gand (gshr v1 v4) 1) = 1 then
          (f_X7_apartOf v3 v4 σ).bind fun u1 =>
          if (gn v2) ≤ (gn u1) then
            f_X7_isClique_J53 σ (f_X7_isClique_L15 σ v1 v2 v3 k59 n) k59 v1 v2 v3 v4
          else
            some 0
        else
          f_X7_isClique_J53 σ (f_X7_isClique_L15 σ v1 v2 v3 k59 n) k59 v1 v2 v3 v4
      else
        f_X7_isClique_J53 σ (f_X7_isClique_L15 σ v1 v2 v3 k59 n) k59 v1 v2 v3 v4
set_option maxRecDepth 100000 in
set_option maxHeartbeats 4000000 in
theorem k_X7_isClique_L15 {E : gs_E} (σ : gs_Mem) (v1 : Int) (v2 : Int) (v3 : Int) (k59 : Option (Int))  (hk59 : gs_K E (gs_MC E yX7_isClique cX7_isClique 5 (some .boolean) 0 { frames := 2, cells := 0, slots := 0, locals := 47 }) (fun v : Int => (v, σ)) (k59) 59 [(0, gr E 70), (1, gi v1), (2, gi v2), (3, gi v3)] [] σ) : ∀ (n : Nat) (v4 : Int), gs_K E (gs_MC E yX7_isClique cX7_isClique 5 (some .boolean) 0 { frames := 2, cells := 0, slots := 0, locals := 47 }) (fun v : Int => (v, σ)) (f_X7_isClique_L15 σ v1 v2 v3 k59 n v4) 15 [(0, gr E 70), (1, gi v1), (2, gi v2), (3, gi v3), (4, gi v4)] [] σ := by
  intro n
  induction n with
  | zero => intro v4; rw [f_X7_isClique_L15]; exact gk_none
  | succ n ih =>
    intro v4; rw [f_X7_isClique_L15]
    refine gk_iload (pc := 15) 4 dX7_isClique_15 rfl ?_
    refine gk_iload_n (pc := 17) 3 dX7_isClique_17 rfl ?_
    refine gk_icmp_ge (tgt := 59) (pc := 18) dX7_isClique_18 (by decide) rfl rfl ?_ ?_
    · refine gk_sub (L' := [(0, gr E 70), (1, gi v1), (2, gi v2), (3, gi v3)]) [0, 1, 2, 3] rfl ?_
      exact hk59
    · refine gk_iload_n (pc := 21) 1 dX7_isClique_21 rfl ?_
      refine gk_iload_n (pc := 22) 3 dX7_isClique_22 rfl ?_
      refine gk_ishr (pc := 23) dX7_isClique_23 ?_
      refine gk_iconst (pc := 24) dX7_isClique_24 ?_
      refine gk_iand (pc := 25) dX7_isClique_25 ?_
      refine gk_iconst (pc := 26) dX7_isClique_26 ?_
      refine gk_icmp_ne (tgt := 53) (pc := 27) dX7_isClique_27 (by decide) (gn_ti _) (by decide +kernel) ?_ ?_
      · exact k_X7_isClique_J53 σ (f_X7_isClique_L15 σ v1 v2 v3 k59 n) k59 v1 v2 v3 v4 ih hk59
      · refine gk_iload_n (pc := 30) 1 dX7_isClique_30 rfl ?_
        refine gk_iload (pc := 31) 4 dX7_isClique_31 rfl ?_
        refine gk_ishr (pc := 33) dX7_isClique_33 ?_
        refine gk_iconst (pc := 34) dX7_isClique_34 ?_
        refine gk_iand (pc := 35) dX7_isClique_35 ?_
        refine gk_iconst (pc := 36) dX7_isClique_36 ?_
        refine gk_icmp_ne (tgt := 53) (pc := 37) dX7_isClique_37 (by decide) (gn_ti _) (by decide +kernel) ?_ ?_
        · exact k_X7_isClique_J53 σ (f_X7_isClique_L15 σ v1 v2 v3 k59 n) k59 v1 v2 v3 v4 ih hk59
        · refine gk_aload_n (pc := 40) 0 dX7_isClique_40 rfl ?_
          refine gk_iload_n (pc := 41) 3 dX7_isClique_41 rfl ?_
          refine gk_iload (pc := 42) 4 dX7_isClique_42 rfl ?_
          refine gk_callV_ir (As := [gi v3, gi v4]) (pc := 44) (c_X7_apartOf v3 v4 σ) rfl mm_X7_apartOf ww_915 clsX7 rfl cll_70 sh_70 (gs_fit_of (Nat.le_of_ble_eq_true rfl) (Nat.le_of_ble_eq_true rfl)) rfl rfl (Nat.le_of_ble_eq_true rfl) dX7_isClique_44 (fun u1 => ?_)
          refine gk_iload_n (pc := 47) 2 dX7_isClique_47 rfl ?_
          refine gk_icmp_ge (tgt := 53) (pc := 48) dX7_isClique_48 (by decide) rfl rfl ?_ ?_
          · exact k_X7_isClique_J53 σ (f_X7_isClique_L15 σ v1 v2 v3 k59 n) k59 v1 v2 v3 v4 ih hk59
          · refine gk_iconst (pc := 51) dX7_isClique_51 ?_
            exact gk_zret (pc := 52) (Or.inl (by decide +kernel)) rfl dX7_isClique_52
def f_X7_isClique_L2 (σ : gs_Mem) (v1 : Int) (v2 : Int) : Nat → Int → Option (Int)
  | 0, _ => none
  | n + 1, v3 =>
    gs_chk 0 84 (
    if (gn (σ 71 0)) ≤ (gn v3) then
      some 1
    else
      f_X7_isClique_L15 σ v1 v2 v3 (
        f_X7_isClique_L2 σ v1 v2 n (v3 + 1)) gs_fuel 0)
set_option maxRecDepth 100000 in
set_option maxHeartbeats 4000000 in
theorem k_X7_isClique_L2 {E : gs_E} (σ : gs_Mem) (v1 : Int) (v2 : Int)   : ∀ (n : Nat) (v3 : Int), gs_K E (gs_MC E yX7_isClique cX7_isClique 5 (some .boolean) 0 { frames := 2, cells := 0, slots := 0, locals := 47 }) (fun v : Int => (v, σ)) (f_X7_isClique_L2 σ v1 v2 n v3) 2 [(0, gr E 70), (1, gi v1), (2, gi v2), (3, gi v3)] [] σ := by
  intro n
  induction n with
  | zero => intro v3; rw [f_X7_isClique_L2]; exact gk_none
  | succ n ih =>
    intro v3; rw [f_X7_isClique_L2]
    refine gk_iload_n (pc := 2) 3 dX7_isClique_2 rfl ?_
    refine gk_aload_n (pc := 3) 0 dX7_isClique_3 rfl ?_
    refine gk_getR (q := 71) (pc := 4) rfl clsX7 cll_70 sh_70 0 (by decide) rfl ww_775 dX7_isClique_4 ?_
    refine gk_iconst (pc := 7) dX7_isClique_7 ?_
    refine gk_iald_c (pc := 8) cll_71 sh_71 (by decide +kernel) dX7_isClique_8 ?_
    refine gk_icmp_ge (tgt := 65) (pc := 9) dX7_isClique_9 (by decide) rfl rfl ?_ ?_
    · refine gk_iconst (pc := 65) dX7_isClique_65 ?_
      exact gk_zret (pc := 66) (Or.inr (by decide +kernel)) rfl dX7_isClique_66
    · refine gk_iconst (pc := 12) dX7_isClique_12 ?_
      refine gk_istore (L' := [(4, gi 0), (0, gr E 70), (1, gi v1), (2, gi v2), (3, gi v3)]) (pc := 13) dX7_isClique_13 (Nat.le_of_ble_eq_true rfl) rfl ?_
      refine gk_sub (L' := [(0, gr E 70), (1, gi v1), (2, gi v2), (3, gi v3), (4, gi 0)]) [1, 2, 3, 4, 0] rfl ?_
      refine k_X7_isClique_L15 σ v1 v2 v3 _ ?_ gs_fuel 0
      · refine gk_iinc (L' := [(3, gi (v3 + 1)), (0, gr E 70), (1, gi v1), (2, gi v2)]) (pc := 59) 3 dX7_isClique_59 rfl (Nat.le_of_ble_eq_true rfl) rfl ?_
        refine gk_goto (tgt := 2) (pc := 62) dX7_isClique_62 (by decide) ?_
        refine gk_sub (L' := [(0, gr E 70), (1, gi v1), (2, gi v2), (3, gi (v3 + 1))]) [1, 2, 3, 0] rfl ?_
        exact ih (v3 + 1)
def f_X7_isClique (v1 : Int) (v2 : Int) (σ : gs_Mem) : Option (Int) :=
  f_X7_isClique_L2 σ v1 v2 gs_fuel 0
set_option maxRecDepth 100000 in
set_option maxHeartbeats 4000000 in
theorem c_X7_isClique {E : gs_E} (v1 : Int) (v2 : Int)  (σ : gs_Mem) : gs_C E yX7_isClique cX7_isClique 5 (some .boolean) 0 { frames := 2, cells := 0, slots := 0, locals := 47 } [gr E 70, gi v1, gi v2] σ (f_X7_isClique v1 v2 σ) (fun v : Int => (v, σ)) := by
  unfold f_X7_isClique
  refine gs_enter (L := [(0, gr E 70), (1, gi v1), (2, gi v2)]) (by decide) rfl rfl (Nat.le_of_ble_eq_true rfl) rfl ?_
  refine gk_iconst (pc := 0) dX7_isClique_0 ?_
  refine gk_istore_n (L' := [(3, gi 0), (0, gr E 70), (1, gi v1), (2, gi v2)]) (pc := 1) dX7_isClique_1 (Nat.le_of_ble_eq_true rfl) rfl ?_
  refine gk_sub (L' := [(0, gr E 70), (1, gi v1), (2, gi v2), (3, gi 0)]) [1, 2, 3, 0] rfl ?_
  exact k_X7_isClique_L2 σ v1 v2 gs_fuel 0
def f_X7_cliqueBy_J41 (σ : gs_Mem) (k4 : Int → Int → Option (Int)) (v1 : Int) (v3 : Int) (t0 : Int) : Option (Int) :=
  k4 t0 (v3 + 1)
set_option maxRecDepth 100000 in
set_option maxHeartbeats 4000000 in
theorem k_X7_cliqueBy_J41 {E : gs_E} (σ : gs_Mem) (k4 : Int → Int → Option (Int))  (v1 : Int) (v3 : Int) (t0 : Int)  (hk4 : ∀ (w2 : Int) (w3 : Int), gs_K E (gs_MC E yX7_cliqueBy cX7_cliqueBy 4 (some .int) 0 { frames := 3, cells := 0, slots := 0, locals := 71 }) (fun v : Int => (v, σ)) (k4 w2 w3) 4 [(0, gr E 70), (1, gi v1), (2, gi w2), (3, gi w3)] [] σ) : gs_K E (gs_MC E yX7_cliqueBy cX7_cliqueBy 4 (some .int) 0 { frames := 3, cells := 0, slots := 0, locals := 71 }) (fun v : Int => (v, σ)) (f_X7_cliqueBy_J41 σ k4 v1 v3 t0) 41 [(0, gr E 70), (1, gi v1), (3, gi v3)] [gi t0] σ := by
  unfold f_X7_cliqueBy_J41
  refine gk_istore_n (L' := [(2, gi t0), (0, gr E 70), (1, gi v1), (3, gi v3)]) (pc := 41) dX7_cliqueBy_41 (Nat.le_of_ble_eq_true rfl) rfl ?_
  refine gk_iinc (L' := [(3, gi (v3 + 1)), (2, gi t0), (0, gr E 70), (1, gi v1)]) (pc := 42) 3 dX7_cliqueBy_42 rfl (Nat.le_of_ble_eq_true rfl) rfl ?_
  refine gk_goto (tgt := 4) (pc := 45) dX7_cliqueBy_45 (by decide) ?_
  refine gk_sub (L' := [(0, gr E 70), (1, gi v1), (2, gi t0), (3, gi (v3 + 1))]) [2, 3, 1, 0] rfl ?_
  exact hk4 t0 (v3 + 1)
def f_X7_cliqueBy_J40 (σ : gs_Mem) (k4 : Int → Int → Option (Int)) (v1 : Int) (v2 : Int) (v3 : Int) : Option (Int) :=
  f_X7_cliqueBy_J41 σ k4 v1 v3 v2
set_option maxRecDepth 100000 in
set_option maxHeartbeats 4000000 in
theorem k_X7_cliqueBy_J40 {E : gs_E} (σ : gs_Mem) (k4 : Int → Int → Option (Int))  (v1 : Int) (v2 : Int) (v3 : Int)  (hk4 : ∀ (w2 : Int) (w3 : Int), gs_K E (gs_MC E yX7_cliqueBy cX7_cliqueBy 4 (some .int) 0 { frames := 3, cells := 0, slots := 0, locals := 71 }) (fun v : Int => (v, σ)) (k4 w2 w3) 4 [(0, gr E 70), (1, gi v1), (2, gi w2), (3, gi w3)] [] σ) : gs_K E (gs_MC E yX7_cliqueBy cX7_cliqueBy 4 (some .int) 0 { frames := 3, cells := 0, slots := 0, locals := 71 }) (fun v : Int => (v, σ)) (f_X7_cliqueBy_J40 σ k4 v1 v2 v3) 40 [(0, gr E 70), (1, gi v1), (2, gi v2), (3, gi v3)] [] σ := by
  unfold f_X7_cliqueBy_J40
  refine gk_iload_n (pc := 40) 2 dX7_cliqueBy_40 rfl ?_
  refine gk_sub (L' := [(0, gr E 70), (1, gi v1), (3, gi v3)]) [0, 1, 3] rfl ?_
  exact k_X7_cliqueBy_J41 σ k4 v1 v3 v2 hk4
def f_X7_cliqueBy_L4 (σ : gs_Mem) (v1 : Int) : Nat → Int → Int → Option (Int)
  | 0, _, _ => none
  | n + 1, v2, v3 =>
    gs_chk 0 84 (
    if (gshl 1 (σ 71 0)) ≤ (gn v3) then
      some v2
    else
      (f_J6_bitCount_0f7a4 v3 σ).bind fun u1 =>
      (f_J6_bitCount_0f7a4 v2 σ).bind fun u2 =>
      if (gn u1) ≤ (gn u2) then
        f_X7_cliqueBy_J40 σ (f_X7_cliqueBy_L4 σ v1 n) v1 v2 v3
      else
        (f_X7_isClique v3 v1 σ).bind fun u3 =>
        if (gn u3) = 0 then
          f_X7_cliqueBy_J40 σ (f_X7_cliqueBy_L4 σ v1 n) v1 v2 v3
        else
          f_X7_cliqueBy_J41 σ (f_X7_cliqueBy_L4 σ v1 n) v1 v3 v3)
set_option maxRecDepth 100000 in
set_option maxHeartbeats 4000000 in
theorem k_X7_cliqueBy_L4 {E : gs_E} (σ : gs_Mem) (v1 : Int)   : ∀ (n : Nat) (v2 : Int) (v3 : Int), gs_K E (gs_MC E yX7_cliqueBy cX7_cliqueBy 4 (some .int) 0 { frames := 3, cells := 0, slots := 0, locals := 71 }) (fun v : Int => (v, σ)) (f_X7_cliqueBy_L4 σ v1 n v2 v3) 4 [(0, gr E 70), (1, gi v1), (2, gi v2), (3, gi v3)] [] σ := by
  intro n
  induction n with
  | zero => intro v2 v3; rw [f_X7_cliqueBy_L4]; exact gk_none
  | succ n ih =>
    intro v2 v3; rw [f_X7_cliqueBy_L4]
    refine gk_iload_n (pc := 4) 3 dX7_cliqueBy_4 rfl ?_
    refine gk_iconst (pc := 5) dX7_cliqueBy_5 ?_
    refine gk_aload_n (pc := 6) 0 dX7_cliqueBy_6 rfl ?_
    refine gk_getR (q := 71) (pc := 7) rfl clsX7 cll_70 sh_70 0 (by decide) rfl ww_775 dX7_cliqueBy_7 ?_
    refine gk_iconst (pc := 10) dX7_cliqueBy_10 ?_
    refine gk_iald_c (pc := 11) cll_71 sh_71 (by decide +kernel) dX7_cliqueBy_11 ?_
    refine gk_ishl (pc := 12) dX7_cliqueBy_12 ?_
    refine gk_icmp_ge (tgt := 48) (pc := 13) dX7_cliqueBy_13 (by decide) rfl (gn_ti _) ?_ ?_
    · refine gk_iload_n (pc := 48) 2 dX7_cliqueBy_48 rfl ?_
      exact gk_iret (pc := 49) rfl dX7_cliqueBy_49
    · refine gk_iload_n (pc := 16) 3 dX7_cliqueBy_16 rfl ?_
      refine gk_callS_ir (As := [gi v3]) (pc := 17) (c_J6_bitCount_0f7a4 v3 σ) rfl mm_J6_bitCount_0f7a4 ww_960 (gs_fit_of (Nat.le_of_ble_eq_true rfl) (Nat.le_of_ble_eq_true rfl)) rfl rfl (Nat.le_of_ble_eq_true rfl) dX7_cliqueBy_17 (fun u1 => ?_)
      refine gk_iload_n (pc := 20) 2 dX7_cliqueBy_20 rfl ?_
      refine gk_callS_ir (As := [gi v2]) (pc := 21) (c_J6_bitCount_0f7a4 v2 σ) rfl mm_J6_bitCount_0f7a4 ww_960 (gs_fit_of (Nat.le_of_ble_eq_true rfl) (Nat.le_of_ble_eq_true rfl)) rfl rfl (Nat.le_of_ble_eq_true rfl) dX7_cliqueBy_21 (fun u2 => ?_)
      refine gk_icmp_le (tgt := 40) (pc := 24) dX7_cliqueBy_24 (by decide) rfl rfl ?_ ?_
      · exact k_X7_cliqueBy_J40 σ (f_X7_cliqueBy_L4 σ v1 n) v1 v2 v3 ih
      · refine gk_aload_n (pc := 27) 0 dX7_cliqueBy_27 rfl ?_
        refine gk_iload_n (pc := 28) 3 dX7_cliqueBy_28 rfl ?_
        refine gk_iload_n (pc := 29) 1 dX7_cliqueBy_29 rfl ?_
        refine gk_callV_ir (As := [gi v3, gi v1]) (pc := 30) (c_X7_isClique v3 v1 σ) rfl mm_X7_isClique ww_981 clsX7 rfl cll_70 sh_70 (gs_fit_of (Nat.le_of_ble_eq_true rfl) (Nat.le_of_ble_eq_true rfl)) rfl rfl (Nat.le_of_ble_eq_true rfl) dX7_cliqueBy_30 (fun u3 => ?_)
        refine gk_if_eq (tgt := 40) (pc := 33) dX7_cliqueBy_33 (by decide) rfl ?_ ?_
        · exact k_X7_cliqueBy_J40 σ (f_X7_cliqueBy_L4 σ v1 n) v1 v2 v3 ih
        · refine gk_iload_n (pc := 36) 3 dX7_cliqueBy_36 rfl ?_
          refine gk_goto (tgt := 41) (pc := 37) dX7_cliqueBy_37 (by decide) ?_
          refine gk_sub (L' := [(0, gr E 70), (1, gi v1), (3, gi v3)]) [0, 1, 3] rfl ?_
          exact k_X7_cliqueBy_J41 σ (f_X7_cliqueBy_L4 σ v1 n) v1 v3 v3 ih
def f_X7_cliqueBy (v1 : Int) (σ : gs_Mem) : Option (Int) :=
  f_X7_cliqueBy_L4 σ v1 gs_fuel 0 1
set_option maxRecDepth 100000 in
set_option maxHeartbeats 4000000 in
theorem c_X7_cliqueBy {E : gs_E} (v1 : Int)  (σ : gs_Mem) : gs_C E yX7_cliqueBy cX7_cliqueBy 4 (some .int) 0 { frames := 3, cells := 0, slots := 0, locals := 71 } [gr E 70, gi v1] σ (f_X7_cliqueBy v1 σ) (fun v : Int => (v, σ)) := by
  unfold f_X7_cliqueBy
  refine gs_enter (L := [(0, gr E 70), (1, gi v1)]) (by decide) rfl rfl (Nat.le_of_ble_eq_true rfl) rfl ?_
  refine gk_iconst (pc := 0) dX7_cliqueBy_0 ?_
  refine gk_istore_n (L' := [(2, gi 0), (0, gr E 70), (1, gi v1)]) (pc := 1) dX7_cliqueBy_1 (Nat.le_of_ble_eq_true rfl) rfl ?_
  refine gk_iconst (pc := 2) dX7_cliqueBy_2 ?_
  refine gk_istore_n (L' := [(3, gi 1), (2, gi 0), (0, gr E 70), (1, gi v1)]) (pc := 3) dX7_cliqueBy_3 (Nat.le_of_ble_eq_true rfl) rfl ?_
  refine gk_sub (L' := [(0, gr E 70), (1, gi v1), (2, gi 0), (3, gi 1)]) [2, 3, 1, 0] rfl ?_
  exact k_X7_cliqueBy_L4 σ v1 gs_fuel 0 1
def f_X7_clique (v1 : Int) (σ : gs_Mem) : Option (Int) :=
  (f_X7_in (gn v1) 1 4 σ).bind fun u1 =>
  if (gn u1) = 0 then
    some (-2)
  else
    (f_X7_cliqueBy v1 σ).bind fun u2 =>
    some u2
set_option maxRecDepth 100000 in
set_option maxHeartbeats 4000000 in
theorem c_X7_clique {E : gs_E} (v1 : Int)  (σ : gs_Mem) : gs_C E yX7_clique cX7_clique 2 (some .int) 0 { frames := 4, cells := 0, slots := 0, locals := 94 } [gr E 70, gi v1] σ (f_X7_clique v1 σ) (fun v : Int => (v, σ)) := by
  unfold f_X7_clique
  refine gs_enter (L := [(0, gr E 70), (1, gi v1)]) (by decide) rfl rfl (Nat.le_of_ble_eq_true rfl) rfl ?_
  refine gk_iload_n (pc := 0) 1 dX7_clique_0 rfl ?_
  refine gk_i2l (pc := 1) dX7_clique_1 ?_
  refine gk_lconst (x := 1) (pc := 2) dX7_clique_2 (by decide +kernel) ?_
  refine gk_ldc2 (x := 4) (pc := 3) rfl dX7_clique_3 ww_838 (by decide +kernel) ?_
  refine gk_callS_ir (As := [gl (gn v1), gl 1, gl 4]) (pc := 6) (c_X7_in (gn v1) 1 4 σ) rfl mm_X7_in ww_817 (gs_fit_of (Nat.le_of_ble_eq_true rfl) (Nat.le_of_ble_eq_true rfl)) rfl rfl (Nat.le_of_ble_eq_true rfl) dX7_clique_6 (fun u1 => ?_)
  refine gk_if_eq (tgt := 20) (pc := 9) dX7_clique_9 (by decide) rfl ?_ ?_
  · refine gk_bipush (pc := 20) dX7_clique_20 (by decide +kernel) ?_
    exact gk_iret (pc := 22) rfl dX7_clique_22
  · refine gk_aload_n (pc := 12) 0 dX7_clique_12 rfl ?_
    refine gk_iload_n (pc := 13) 1 dX7_clique_13 rfl ?_
    refine gk_callV_ir (As := [gi v1]) (pc := 14) (c_X7_cliqueBy v1 σ) rfl mm_X7_cliqueBy ww_977 clsX7 rfl cll_70 sh_70 (gs_fit_of (Nat.le_of_ble_eq_true rfl) (Nat.le_of_ble_eq_true rfl)) rfl rfl (Nat.le_of_ble_eq_true rfl) dX7_clique_14 (fun u2 => ?_)
    refine gk_goto (tgt := 22) (pc := 17) dX7_clique_17 (by decide) ?_
    exact gk_iret (pc := 22) rfl dX7_clique_22
def f_X7_bound_J37 (σ : gs_Mem) (k4 : Int → Int → Option (Int)) (v2 : Int) (t0 : Int) : Option (Int) :=
  k4 t0 (v2 + 1)
set_option maxRecDepth 100000 in
set_option maxHeartbeats 4000000 in
theorem k_X7_bound_J37 {E : gs_E} (σ : gs_Mem) (k4 : Int → Int → Option (Int))  (v2 : Int) (t0 : Int)  (hk4 : ∀ (w1 : Int) (w2 : Int), gs_K E (gs_MC E yX7_bound cX7_bound 4 (some .int) 0 { frames := 4, cells := 0, slots := 0, locals := 94 }) (fun v : Int => (v, σ)) (k4 w1 w2) 4 [(0, gr E 70), (1, gi w1), (2, gi w2)] [] σ) : gs_K E (gs_MC E yX7_bound cX7_bound 4 (some .int) 0 { frames := 4, cells := 0, slots := 0, locals := 94 }) (fun v : Int => (v, σ)) (f_X7_bound_J37 σ k4 v2 t0) 37 [(0, gr E 70), (2, gi v2)] [gi t0] σ := by
  unfold f_X7_bound_J37
  refine gk_istore_n (L' := [(1, gi t0), (0, gr E 70), (2, gi v2)]) (pc := 37) dX7_bound_37 (Nat.le_of_ble_eq_true rfl) rfl ?_
  refine gk_iinc (L' := [(2, gi (v2 + 1)), (1, gi t0), (0, gr E 70)]) (pc := 38) 2 dX7_bound_38 rfl (Nat.le_of_ble_eq_true rfl) rfl ?_
  refine gk_goto (tgt := 4) (pc := 41) dX7_bound_41 (by decide) ?_
  refine gk_sub (L' := [(0, gr E 70), (1, gi t0), (2, gi (v2 + 1))]) [2, 1, 0] rfl ?_
  exact hk4 t0 (v2 + 1)
def f_X7_bound_L4 (σ : gs_Mem)  : Nat → Int → Int → Option (Int)
  | 0, _, _ => none
  | n + 1, v1, v2 =>
    if 4 < (gn v2) then
      some v1
    else
      (f_X7_cliqueBy v2 σ).bind fun u1 =>
      (f_J6_bitCount_0f7a4 u1 σ).bind fun u2 =>
      if (gn u2) = 0 then
        f_X7_bound_J37 σ (f_X7_bound_L4 σ n) v2 v1
      else
        f_X7_bound_J37 σ (f_X7_bound_L4 σ n) v2 (gmax v1 (((u2 - 1) * v2) + 1))
set_option maxRecDepth 100000 in
set_option maxHeartbeats 4000000 in
theorem k_X7_bound_L4 {E : gs_E} (σ : gs_Mem)    : ∀ (n : Nat) (v1 : Int) (v2 : Int), gs_K E (gs_MC E yX7_bound cX7_bound 4 (some .int) 0 { frames := 4, cells := 0, slots := 0, locals := 94 }) (fun v : Int => (v, σ)) (f_X7_bound_L4 σ n v1 v2) 4 [(0, gr E 70), (1, gi v1), (2, gi v2)] [] σ := by
  intro n
  induction n with
  | zero => intro v1 v2; rw [f_X7_bound_L4]; exact gk_none
  | succ n ih =>
    intro v1 v2; rw [f_X7_bound_L4]
    refine gk_iload_n (pc := 4) 2 dX7_bound_4 rfl ?_
    refine gk_iconst (pc := 5) dX7_bound_5 ?_
    refine gk_icmp_gt (tgt := 44) (pc := 6) dX7_bound_6 (by decide) rfl (by decide +kernel) ?_ ?_
    · refine gk_iload_n (pc := 44) 1 dX7_bound_44 rfl ?_
      exact gk_iret (pc := 45) rfl dX7_bound_45
    · refine gk_aload_n (pc := 9) 0 dX7_bound_9 rfl ?_
      refine gk_iload_n (pc := 10) 2 dX7_bound_10 rfl ?_
      refine gk_callV_ir (As := [gi v2]) (pc := 11) (c_X7_cliqueBy v2 σ) rfl mm_X7_cliqueBy ww_977 clsX7 rfl cll_70 sh_70 (gs_fit_of (Nat.le_of_ble_eq_true rfl) (Nat.le_of_ble_eq_true rfl)) rfl rfl (Nat.le_of_ble_eq_true rfl) dX7_bound_11 (fun u1 => ?_)
      refine gk_callS_ir (As := [gi u1]) (pc := 14) (c_J6_bitCount_0f7a4 u1 σ) rfl mm_J6_bitCount_0f7a4 ww_960 (gs_fit_of (Nat.le_of_ble_eq_true rfl) (Nat.le_of_ble_eq_true rfl)) rfl rfl (Nat.le_of_ble_eq_true rfl) dX7_bound_14 (fun u2 => ?_)
      refine gk_istore_n (L' := [(3, gi u2), (0, gr E 70), (1, gi v1), (2, gi v2)]) (pc := 17) dX7_bound_17 (Nat.le_of_ble_eq_true rfl) rfl ?_
      refine gk_iload_n (pc := 18) 0 dX7_bound_18 rfl ?_
      refine gk_if_ne (tgt := 26) (pc := 19) dX7_bound_19 (by decide) rfl ?_ ?_
      · refine gk_iload_n (pc := 26) 2 dX7_bound_26 rfl ?_
        refine gk_iload_n (pc := 27) 0 dX7_bound_27 rfl ?_
        refine gk_iconst (pc := 28) dX7_bound_28 ?_
        refine gk_isub (pc := 29) dX7_bound_29 ?_
        refine gk_iload_n (pc := 30) 3 dX7_bound_30 rfl ?_
        refine gk_imul (pc := 31) dX7_bound_31 ?_
        refine gk_iconst (pc := 32) dX7_bound_32 ?_
        refine gk_iadd (pc := 33) dX7_bound_33 ?_
        refine gk_mmax (pc := 34) rfl mmw_RX7_113 (Nat.le_of_ble_eq_true rfl) (Nat.le_of_ble_eq_true rfl) ⟨Nat.le_refl 0, Nat.le_refl 0⟩ dX7_bound_34 ?_
        refine gk_sub (L' := [(0, gr E 70), (2, gi v2)]) [1, 3] rfl ?_
        exact k_X7_bound_J37 σ (f_X7_bound_L4 σ n) v2 (gmax v1 (((u2 - 1) * v2) + 1)) ih
      · refine gk_iload_n (pc := 22) 2 dX7_bound_22 rfl ?_
        refine gk_goto (tgt := 37) (pc := 23) dX7_bound_23 (by decide) ?_
        refine gk_sub (L' := [(0, gr E 70), (2, gi v2)]) [1, 3] rfl ?_
        exact k_X7_bound_J37 σ (f_X7_bound_L4 σ n) v2 v1 ih
def f_X7_bound  (σ : gs_Mem) : Option (Int) :=
  f_X7_bound_L4 σ gs_fuel 0 1
set_option maxRecDepth 100000 in
set_option maxHeartbeats 4000000 in
theorem c_X7_bound {E : gs_E}   (σ : gs_Mem) : gs_C E yX7_bound cX7_bound 4 (some .int) 0 { frames := 4, cells := 0, slots := 0, locals := 94 } [gr E 70] σ (f_X7_bound  σ) (fun v : Int => (v, σ)) := by
  unfold f_X7_bound
  refine gs_enter (L := [(0, gr E 70)]) (by decide) rfl rfl (Nat.le_of_ble_eq_true rfl) rfl ?_
  refine gk_iconst (pc := 0) dX7_bound_0 ?_
  refine gk_istore_n (L' := [(1, gi 0), (0, gr E 70)]) (pc := 1) dX7_bound_1 (Nat.le_of_ble_eq_true rfl) rfl ?_
  refine gk_iconst (pc := 2) dX7_bound_2 ?_
  refine gk_istore_n (L' := [(2, gi 1), (1, gi 0), (0, gr E 70)]) (pc := 3) dX7_bound_3 (Nat.le_of_ble_eq_true rfl) rfl ?_
  refine gk_sub (L' := [(0, gr E 70), (1, gi 0), (2, gi 1)]) [2, 1, 0] rfl ?_
  exact k_X7_bound_L4 σ gs_fuel 0 1
def f_X7_can_J57 (rcf : Int → gs_Mem → Option (Int × gs_Mem)) (k8 : Int → Int → Int → gs_Mem → Option (Int × gs_Mem)) (k63 : Int → Int → gs_Mem → Option (Int × gs_Mem)) (v1 : Int) (v2 : Int) (v3 : Int) (v4 : Int) (σ : gs_Mem) : Option (Int × gs_Mem) :=
  k8 v2 v3 (v4 + 1) σ
set_option maxRecDepth 100000 in
set_option maxHeartbeats 4000000 in
theorem k_X7_can_J57 {E : gs_E} {d : Nat} (rcf : Int → gs_Mem → Option (Int × gs_Mem)) (hrec : ∀ (v1 : Int)  (σ : gs_Mem), gs_C E yX7_can cX7_can 6 (some .boolean) 0 { frames := d + 4, cells := 0, slots := 0, locals := d * 25 + 94 } [gr E 70, gi v1] σ (rcf v1 σ) (fun b : Int × gs_Mem => b)) (k8 : Int → Int → Int → gs_Mem → Option (Int × gs_Mem)) (k63 : Int → Int → gs_Mem → Option (Int × gs_Mem))  (v1 : Int) (v2 : Int) (v3 : Int) (v4 : Int)  (hk8 : ∀ (w2 : Int) (w3 : Int) (w4 : Int) (σ : gs_Mem), gs_K E (gs_MC E yX7_can cX7_can 6 (some .boolean) 0 { frames := (d + 1) + 4, cells := 0, slots := 0, locals := (d + 1) * 25 + 94 }) (fun b : Int × gs_Mem => b) (k8 w2 w3 w4 σ) 8 [(0, gr E 70), (1, gi v1), (2, gi w2), (3, gi w3), (4, gi w4)] [] σ) (hk63 : ∀ (w2 : Int) (w3 : Int) (σ : gs_Mem), gs_K E (gs_MC E yX7_can cX7_can 6 (some .boolean) 0 { frames := (d + 1) + 4, cells := 0, slots := 0, locals := (d + 1) * 25 + 94 }) (fun b : Int × gs_Mem => b) (k63 w2 w3 σ) 63 [(0, gr E 70), (1, gi v1), (2, gi w2), (3, gi w3)] [] σ) (σ : gs_Mem) : gs_K E (gs_MC E yX7_can cX7_can 6 (some .boolean) 0 { frames := (d + 1) + 4, cells := 0, slots := 0, locals := (d + 1) * 25 + 94 }) (fun b : Int × gs_Mem => b) (f_X7_can_J57 rcf k8 k63 v1 v2 v3 v4 σ) 57 [(0, gr E 70), (1, gi v1), (2, gi v2), (3, gi v3), (4, gi v4)] [] σ := by
  unfold f_X7_can_J57
  refine gk_iinc (L' := [(4, gi (v4 + 1)), (0, gr E 70), (1, gi v1), (2, gi v2), (3, gi v3)]) (pc := 57) 4 dX7_can_57 rfl (Nat.le_of_ble_eq_true rfl) rfl ?_
  refine gk_goto (tgt := 8) (pc := 60) dX7_can_60 (by decide) ?_
  refine gk_sub (L' := [(0, gr E 70), (1, gi v1), (2, gi v2), (3, gi v3), (4, gi (v4 + 1))]) [1, 2, 3, 4, 0] rfl ?_
  exact hk8 v2 v3 (v4 + 1) σ
def f_X7_can_J49 (rcf : Int → gs_Mem → Option (Int × gs_Mem)) (k8 : Int → Int → Int → gs_Mem → Option (Int × gs_Mem)) (k63 : Int → Int → gs_Mem → Option (Int × gs_Mem)) (v1 : Int) (v3 : Int) (v4 : Int) (v5 : Int) (t0 : Int) (σ : gs_Mem) : Option (Int × gs_Mem) :=
  f_X7_can_J57 rcf k8 k63 v1 t0 (gmin v3 v5) v4 σ
set_option maxRecDepth 100000 in
set_option maxHeartbeats 4000000 in
theorem k_X7_can_J49 {E : gs_E} {d : Nat} (rcf : Int → gs_Mem → Option (Int × gs_Mem)) (hrec : ∀ (v1 : Int)  (σ : gs_Mem), gs_C E yX7_can cX7_can 6 (some .boolean) 0 { frames := d + 4, cells := 0, slots := 0, locals := d * 25 + 94 } [gr E 70, gi v1] σ (rcf v1 σ) (fun b : Int × gs_Mem => b)) (k8 : Int → Int → Int → gs_Mem → Option (Int × gs_Mem)) (k63 : Int → Int → gs_Mem → Option (Int × gs_Mem))  (v1 : Int) (v3 : Int) (v4 : Int) (v5 : Int) (t0 : Int)  (hk8 : ∀ (w2 : Int) (w3 : Int) (w4 : Int) (σ : gs_Mem), gs_K E (gs_MC E yX7_can cX7_can 6 (some .boolean) 0 { frames := (d + 1) + 4, cells := 0, slots := 0, locals := (d + 1) * 25 + 94 }) (fun b : Int × gs_Mem => b) (k8 w2 w3 w4 σ) 8 [(0, gr E 70), (1, gi v1), (2, gi w2), (3, gi w3), (4, gi w4)] [] σ) (hk63 : ∀ (w2 : Int) (w3 : Int) (σ : gs_Mem), gs_K E (gs_MC E yX7_can cX7_can 6 (some .boolean) 0 { frames := (d + 1) + 4, cells := 0, slots := 0, locals := (d + 1) * 25 + 94 }) (fun b : Int × gs_Mem => b) (k63 w2 w3 σ) 63 [(0, gr E 70), (1, gi v1), (2, gi w2), (3, gi w3)] [] σ) (σ : gs_Mem) : gs_K E (gs_MC E yX7_can cX7_can 6 (some .boolean) 0 { frames := (d + 1) + 4, cells := 0, slots := 0, locals := (d + 1) * 25 + 94 }) (fun b : Int × gs_Mem => b) (f_X7_can_J49 rcf k8 k63 v1 v3 v4 v5 t0 σ) 49 [(0, gr E 70), (1, gi v1), (3, gi v3), (4, gi v4), (5, gi v5)] [gi t0] σ := by
  unfold f_X7_can_J49
  refine gk_istore_n (L' := [(2, gi t0), (0, gr E 70), (1, gi v1), (3, gi v3), (4, gi v4), (5, gi v5)]) (pc := 49) dX7_can_49 (Nat.le_of_ble_eq_true rfl) rfl ?_
  refine gk_iload_n (pc := 50) 3 dX7_can_50 rfl ?_
  refine gk_iload (pc := 51) 5 dX7_can_51 rfl ?_
  refine gk_mmin (pc := 53) rfl mmw_RX7_165 (show 1 ≤ (d + 1) + 4 by omega) (show _ ≤ (d + 1) * 25 + 94 from Nat.le_trans (m := 94) (Nat.le_of_ble_eq_true rfl) (Nat.le_add_left _ _)) ⟨Nat.le_refl 0, Nat.le_refl 0⟩ dX7_can_53 ?_
  refine gk_istore_n (L' := [(3, gi (gmin v3 v5)), (2, gi t0), (0, gr E 70), (1, gi v1), (4, gi v4), (5, gi v5)]) (pc := 56) dX7_can_56 (Nat.le_of_ble_eq_true rfl) rfl ?_
  refine gk_sub (L' := [(0, gr E 70), (1, gi v1), (2, gi t0), (3, gi (gmin v3 v5)), (4, gi v4)]) [2, 3, 1, 0, 4] rfl ?_
  exact k_X7_can_J57 rcf hrec k8 k63 v1 t0 (gmin v3 v5) v4 hk8 hk63 σ
def f_X7_can_L8 (rcf : Int → gs_Mem → Option (Int × gs_Mem)) (v1 : Int) (k63 : Int → Int → gs_Mem → Option (Int × gs_Mem)) : Nat → Int → Int → Int → gs_Mem → Option (Int × gs_Mem)
  | 0, _, _, _, _ => none
  | n + 1, v2, v3, v4, σ =>
    gs_chk 0 84 (
    if (gn (σ 71 0)) ≤ (gn v4) then
      k63 v2 v3 σ
    else
      (f_X7_channelOf v4 σ).bind fun u1 =>
      if 0 ≤ (gn u1) then
        f_X7_can_J57 rcf (f_X7_can_L8 rcf v1 k63 n) k63 v1 v2 v3 v4 σ
      else
        (f_X7_allowed v4 v1 σ).bind fun u2 =>
        if (gn v3) ≤ (gn u2) then
          f_X7_can_J49 rcf (f_X7_can_L8 rcf v1 k63 n) k63 v1 v3 v4 u2 v2 σ
        else
          f_X7_can_J49 rcf (f_X7_can_L8 rcf v1 k63 n) k63 v1 v3 v4 u2 v4 σ)
set_option maxRecDepth 100000 in
set_option maxHeartbeats 4000000 in
theorem k_X7_can_L8 {E : gs_E} {d : Nat} (rcf : Int → gs_Mem → Option (Int × gs_Mem)) (hrec : ∀ (v1 : Int)  (σ : gs_Mem), gs_C E yX7_can cX7_can 6 (some .boolean) 0 { frames := d + 4, cells := 0, slots := 0, locals := d * 25 + 94 } [gr E 70, gi v1] σ (rcf v1 σ) (fun b : Int × gs_Mem => b)) (v1 : Int) (k63 : Int → Int → gs_Mem → Option (Int × gs_Mem))  (hk63 : ∀ (w2 : Int) (w3 : Int) (σ : gs_Mem), gs_K E (gs_MC E yX7_can cX7_can 6 (some .boolean) 0 { frames := (d + 1) + 4, cells := 0, slots := 0, locals := (d + 1) * 25 + 94 }) (fun b : Int × gs_Mem => b) (k63 w2 w3 σ) 63 [(0, gr E 70), (1, gi v1), (2, gi w2), (3, gi w3)] [] σ) : ∀ (n : Nat) (v2 : Int) (v3 : Int) (v4 : Int) (σ : gs_Mem), gs_K E (gs_MC E yX7_can cX7_can 6 (some .boolean) 0 { frames := (d + 1) + 4, cells := 0, slots := 0, locals := (d + 1) * 25 + 94 }) (fun b : Int × gs_Mem => b) (f_X7_can_L8 rcf v1 k63 n v2 v3 v4 σ) 8 [(0, gr E 70), (1, gi v1), (2, gi v2), (3, gi v3), (4, gi v4)] [] σ := by
  intro n
  induction n with
  | zero => intro v2 v3 v4 σ; rw [f_X7_can_L8]; exact gk_none
  | succ n ih =>
    intro v2 v3 v4 σ; rw [f_X7_can_L8]
    refine gk_iload (pc := 8) 4 dX7_can_8 rfl ?_
    refine gk_aload_n (pc := 10) 0 dX7_can_10 rfl ?_
    refine gk_getR (q := 71) (pc := 11) rfl clsX7 cll_70 sh_70 0 (by decide) rfl ww_775 dX7_can_11 ?_
    refine gk_iconst (pc := 14) dX7_can_14 ?_
    refine gk_iald_c (pc := 15) cll_71 sh_71 (by decide +kernel) dX7_can_15 ?_
    refine gk_icmp_ge (tgt := 63) (pc := 16) dX7_can_16 (by decide) rfl rfl ?_ ?_
    · refine gk_sub (L' := [(0, gr E 70), (1, gi v1), (2, gi v2), (3, gi v3)]) [0, 1, 2, 3] rfl ?_
      exact hk63 v2 v3 σ
    · refine gk_aload_n (pc := 19) 0 dX7_can_19 rfl ?_
      refine gk_iload (pc := 20) 4 dX7_can_20 rfl ?_
      refine gk_callV_ir (As := [gi v4]) (pc := 22) (c_X7_channelOf v4 σ) rfl mm_X7_channelOf ww_853 clsX7 rfl cll_70 sh_70 (gs_fit_of (by omega) (by omega)) rfl rfl (Nat.le_of_ble_eq_true rfl) dX7_can_22 (fun u1 => ?_)
      refine gk_if_ge (tgt := 57) (pc := 25) dX7_can_25 (by decide) rfl ?_ ?_
      · exact k_X7_can_J57 rcf hrec (f_X7_can_L8 rcf v1 k63 n) k63 v1 v2 v3 v4 ih hk63 σ
      · refine gk_aload_n (pc := 28) 0 dX7_can_28 rfl ?_
        refine gk_iload (pc := 29) 4 dX7_can_29 rfl ?_
        refine gk_iload_n (pc := 31) 1 dX7_can_31 rfl ?_
        refine gk_callV_ir (As := [gi v4, gi v1]) (pc := 32) (c_X7_allowed v4 v1 σ) rfl mm_X7_allowed ww_904 clsX7 rfl cll_70 sh_70 (gs_fit_of (by omega) (by omega)) rfl rfl (Nat.le_of_ble_eq_true rfl) dX7_can_32 (fun u2 => ?_)
        refine gk_istore (L' := [(5, gi u2), (0, gr E 70), (1, gi v1), (2, gi v2), (3, gi v3), (4, gi v4)]) (pc := 35) dX7_can_35 (Nat.le_of_ble_eq_true rfl) rfl ?_
        refine gk_iload (pc := 37) 0 dX7_can_37 rfl ?_
        refine gk_iload_n (pc := 39) 4 dX7_can_39 rfl ?_
        refine gk_icmp_ge (tgt := 48) (pc := 40) dX7_can_40 (by decide) rfl rfl ?_ ?_
        · refine gk_iload_n (pc := 48) 3 dX7_can_48 rfl ?_
          refine gk_sub (L' := [(0, gr E 70), (1, gi v1), (3, gi v3), (4, gi v4), (5, gi u2)]) [1, 2, 4, 5, 0] rfl ?_
          exact k_X7_can_J49 rcf hrec (f_X7_can_L8 rcf v1 k63 n) k63 v1 v3 v4 u2 v2 ih hk63 σ
        · refine gk_iload (pc := 43) 5 dX7_can_43 rfl ?_
          refine gk_goto (tgt := 49) (pc := 45) dX7_can_45 (by decide) ?_
          refine gk_sub (L' := [(0, gr E 70), (1, gi v1), (3, gi v3), (4, gi v4), (5, gi u2)]) [1, 2, 4, 5, 0] rfl ?_
          exact k_X7_can_J49 rcf hrec (f_X7_can_L8 rcf v1 k63 n) k63 v1 v3 v4 u2 v4 ih hk63 σ
def f_X7_can_J119 (rcf : Int → gs_Mem → Option (Int × gs_Mem)) (k72 : Int → gs_Mem → Option (Int × gs_Mem)) (v1 : Int) (v2 : Int) (v3 : Int) (v4 : Int) (σ : gs_Mem) : Option (Int × gs_Mem) :=
  k72 (v4 + 1) σ
set_option maxRecDepth 100000 in
set_option maxHeartbeats 4000000 in
theorem k_X7_can_J119 {E : gs_E} {d : Nat} (rcf : Int → gs_Mem → Option (Int × gs_Mem)) (hrec : ∀ (v1 : Int)  (σ : gs_Mem), gs_C E yX7_can cX7_can 6 (some .boolean) 0 { frames := d + 4, cells := 0, slots := 0, locals := d * 25 + 94 } [gr E 70, gi v1] σ (rcf v1 σ) (fun b : Int × gs_Mem => b)) (k72 : Int → gs_Mem → Option (Int × gs_Mem))  (v1 : Int) (v2 : Int) (v3 : Int) (v4 : Int)  (hk72 : ∀ (w4 : Int) (σ : gs_Mem), gs_K E (gs_MC E yX7_can cX7_can 6 (some .boolean) 0 { frames := (d + 1) + 4, cells := 0, slots := 0, locals := (d + 1) * 25 + 94 }) (fun b : Int × gs_Mem => b) (k72 w4 σ) 72 [(0, gr E 70), (1, gi v1), (2, gi v2), (3, gi v3), (4, gi w4)] [] σ) (σ : gs_Mem) : gs_K E (gs_MC E yX7_can cX7_can 6 (some .boolean) 0 { frames := (d + 1) + 4, cells := 0, slots := 0, locals := (d + 1) * 25 + 94 }) (fun b : Int × gs_Mem => b) (f_X7_can_J119 rcf k72 v1 v2 v3 v4 σ) 119 [(0, gr E 70), (1, gi v1), (2, gi v2), (3, gi v3), (4, gi v4)] [] σ := by
  unfold f_X7_can_J119
  refine gk_iinc (L' := [(4, gi (v4 + 1)), (0, gr E 70), (1, gi v1), (2, gi v2), (3, gi v3)]) (pc := 119) 4 dX7_can_119 rfl (Nat.le_of_ble_eq_true rfl) rfl ?_
  refine gk_goto (tgt := 72) (pc := 122) dX7_can_122 (by decide) ?_
  refine gk_sub (L' := [(0, gr E 70), (1, gi v1), (2, gi v2), (3, gi v3), (4, gi (v4 + 1))]) [1, 2, 3, 4, 0] rfl ?_
  exact hk72 (v4 + 1) σ
def f_X7_can_L72 (rcf : Int → gs_Mem → Option (Int × gs_Mem)) (v1 : Int) (v2 : Int) (v3 : Int) : Nat → Int → gs_Mem → Option (Int × gs_Mem)
  | 0, _, _ => none
  | n + 1, v4, σ =>
    if (gn v1) ≤ (gn v4) then
      some (0, σ)
    else
      if (gn v3) ≤ 0 then
        some (0, σ)
      else
        (f_X7_isAllowed v2 v4 σ).bind fun u4 =>
        if (gn u4) = 0 then
          f_X7_can_J119 rcf (f_X7_can_L72 rcf v1 v2 v3 n) v1 v2 v3 v4 σ
        else
          (f_X7_has v2 v4 σ).bind fun b5 =>
          (rcf v1 b5.2).bind fun b6 =>
          (f_X7_has v2 (-1) b6.2).bind fun b7 =>
          if (gn b6.1) = 0 then
            f_X7_can_J119 rcf (f_X7_can_L72 rcf v1 v2 v3 n) v1 v2 v3 v4 b7.2
          else
            some (1, b7.2)
set_option maxRecDepth 100000 in
set_option maxHeartbeats 4000000 in
theorem k_X7_can_L72 {E : gs_E} {d : Nat} (rcf : Int → gs_Mem → Option (Int × gs_Mem)) (hrec : ∀ (v1 : Int)  (σ : gs_Mem), gs_C E yX7_can cX7_can 6 (some .boolean) 0 { frames := d + 4, cells := 0, slots := 0, locals := d * 25 + 94 } [gr E 70, gi v1] σ (rcf v1 σ) (fun b : Int × gs_Mem => b)) (v1 : Int) (v2 : Int) (v3 : Int)   : ∀ (n : Nat) (v4 : Int) (σ : gs_Mem), gs_K E (gs_MC E yX7_can cX7_can 6 (some .boolean) 0 { frames := (d + 1) + 4, cells := 0, slots := 0, locals := (d + 1) * 25 + 94 }) (fun b : Int × gs_Mem => b) (f_X7_can_L72 rcf v1 v2 v3 n v4 σ) 72 [(0, gr E 70), (1, gi v1), (2, gi v2), (3, gi v3), (4, gi v4)] [] σ := by
  intro n
  induction n with
  | zero => intro v4 σ; rw [f_X7_can_L72]; exact gk_none
  | succ n ih =>
    intro v4 σ; rw [f_X7_can_L72]
    refine gk_iload (pc := 72) 4 dX7_can_72 rfl ?_
    refine gk_iload_n (pc := 74) 1 dX7_can_74 rfl ?_
    refine gk_icmp_ge (tgt := 125) (pc := 75) dX7_can_75 (by decide) rfl rfl ?_ ?_
    · refine gk_iconst (pc := 125) dX7_can_125 ?_
      exact gk_zret (pc := 126) (Or.inl (by decide +kernel)) rfl dX7_can_126
    · refine gk_iload_n (pc := 78) 3 dX7_can_78 rfl ?_
      refine gk_if_le (tgt := 125) (pc := 79) dX7_can_79 (by decide) rfl ?_ ?_
      · refine gk_iconst (pc := 125) dX7_can_125 ?_
        exact gk_zret (pc := 126) (Or.inl (by decide +kernel)) rfl dX7_can_126
      · refine gk_aload_n (pc := 82) 0 dX7_can_82 rfl ?_
        refine gk_iload_n (pc := 83) 2 dX7_can_83 rfl ?_
        refine gk_iload (pc := 84) 4 dX7_can_84 rfl ?_
        refine gk_callV_ir (As := [gi v2, gi v4]) (pc := 86) (c_X7_isAllowed v2 v4 σ) rfl mm_X7_isAllowed ww_908 clsX7 rfl cll_70 sh_70 (gs_fit_of (by omega) (by omega)) rfl rfl (Nat.le_of_ble_eq_true rfl) dX7_can_86 (fun u4 => ?_)
        refine gk_if_eq (tgt := 119) (pc := 89) dX7_can_89 (by decide) rfl ?_ ?_
        · exact k_X7_can_J119 rcf hrec (f_X7_can_L72 rcf v1 v2 v3 n) v1 v2 v3 v4 ih σ
        · refine gk_aload_n (pc := 92) 0 dX7_can_92 rfl ?_
          refine gk_iload_n (pc := 93) 2 dX7_can_93 rfl ?_
          refine gk_iload (pc := 94) 4 dX7_can_94 rfl ?_
          refine gk_callV_vw (As := [gi v2, gi v4]) (pc := 96) (c_X7_has v2 v4 σ) rfl mm_X7_has ww_857 clsX7 rfl cll_70 sh_70 (gs_fit_of (by omega) (by omega)) rfl rfl (Nat.le_of_ble_eq_true rfl) dX7_can_96 (fun b5 => ?_)
          refine gk_aload_n (pc := 99) 0 dX7_can_99 rfl ?_
          refine gk_iload_n (pc := 100) 1 dX7_can_100 rfl ?_
          refine gk_callV_iw (As := [gi v1]) (pc := 101) (hrec v1 b5.2) rfl mm_X7_can ww_1005 clsX7 rfl cll_70 sh_70 (gs_fit_of (by omega) (by omega)) rfl rfl (Nat.le_of_ble_eq_true rfl) dX7_can_101 (fun b6 => ?_)
          refine gk_istore (L' := [(5, gi b6.1), (0, gr E 70), (1, gi v1), (2, gi v2), (3, gi v3), (4, gi v4)]) (pc := 104) dX7_can_104 (Nat.le_of_ble_eq_true rfl) rfl ?_
          refine gk_aload_n (pc := 106) 1 dX7_can_106 rfl ?_
          refine gk_iload_n (pc := 107) 3 dX7_can_107 rfl ?_
          refine gk_iconst (pc := 108) dX7_can_108 ?_
          refine gk_callV_vw (As := [gi v2, gi (-1)]) (pc := 109) (c_X7_has v2 (-1) b6.2) rfl mm_X7_has ww_857 clsX7 rfl cll_70 sh_70 (gs_fit_of (by omega) (by omega)) rfl rfl (Nat.le_of_ble_eq_true rfl) dX7_can_109 (fun b7 => ?_)
          refine gk_iload (pc := 112) 0 dX7_can_112 rfl ?_
          refine gk_if_eq (tgt := 119) (pc := 114) dX7_can_114 (by decide) rfl ?_ ?_
          · refine gk_sub (L' := [(0, gr E 70), (1, gi v1), (2, gi v2), (3, gi v3), (4, gi v4)]) [1, 2, 3, 4, 5] rfl ?_
            exact k_X7_can_J119 rcf hrec (f_X7_can_L72 rcf v1 v2 v3 n) v1 v2 v3 v4 ih b7.2
          · refine gk_iconst (pc := 117) dX7_can_117 ?_
            exact gk_zret (pc := 118) (Or.inr (by decide +kernel)) rfl dX7_can_118
def f_X7_can_body (rcf : Int → gs_Mem → Option (Int × gs_Mem)) (v1 : Int) (σ : gs_Mem) : Option (Int × gs_Mem) :=
  f_X7_can_L8 rcf v1 (fun w2 w3 σ3 =>
    if 0 ≤ (gn w2) then
      f_X7_can_L72 rcf v1 w2 w3 gs_fuel 0 σ3
    else
      some (1, σ3)) gs_fuel (-1) 99 0 σ
def f_X7_can : Nat → Int → gs_Mem → Option (Int × gs_Mem)
  | 0, _, _ => none
  | d + 1, v1, σ => f_X7_can_body (f_X7_can d) v1 σ
set_option maxRecDepth 100000 in
set_option maxHeartbeats 4000000 in
theorem c_X7_can {E : gs_E} : ∀ (d : Nat) (v1 : Int)  (σ : gs_Mem), gs_C E yX7_can cX7_can 6 (some .boolean) 0 { frames := d + 4, cells := 0, slots := 0, locals := d * 25 + 94 } [gr E 70, gi v1] σ (f_X7_can d v1 σ) (fun b : Int × gs_Mem => b) := by
  intro d
  induction d with
  | zero => intro v1 σ hE a ha; rw [f_X7_can] at ha; cases ha
  | succ d hrec =>
    intro v1 σ
    rw [f_X7_can, f_X7_can_body]
    refine gs_enter (L := [(0, gr E 70), (1, gi v1)]) (by decide) rfl rfl (Nat.le_of_ble_eq_true rfl) rfl ?_
    refine gk_iconst (pc := 0) dX7_can_0 ?_
    refine gk_istore_n (L' := [(2, gi (-1)), (0, gr E 70), (1, gi v1)]) (pc := 1) dX7_can_1 (Nat.le_of_ble_eq_true rfl) rfl ?_
    refine gk_bipush (pc := 2) dX7_can_2 (by decide +kernel) ?_
    refine gk_istore_n (L' := [(3, gi 99), (2, gi (-1)), (0, gr E 70), (1, gi v1)]) (pc := 4) dX7_can_4 (Nat.le_of_ble_eq_true rfl) rfl ?_
    refine gk_iconst (pc := 5) dX7_can_5 ?_
    refine gk_istore (L' := [(4, gi 0), (3, gi 99), (2, gi (-1)), (0, gr E 70), (1, gi v1)]) (pc := 6) dX7_can_6 (Nat.le_of_ble_eq_true rfl) rfl ?_
    refine gk_sub (L' := [(0, gr E 70), (1, gi v1), (2, gi (-1)), (3, gi 99), (4, gi 0)]) [3, 4, 2, 1, 0] rfl ?_
    refine k_X7_can_L8 (f_X7_can d) hrec v1 _ ?_ gs_fuel (-1) 99 0 σ
    · intro w2 w3 σ3
      refine gk_iload_n (pc := 63) 2 dX7_can_63 rfl ?_
      refine gk_if_ge (tgt := 69) (pc := 64) dX7_can_64 (by decide) rfl ?_ ?_
      · refine gk_iconst (pc := 69) dX7_can_69 ?_
        refine gk_istore (L' := [(4, gi 0), (0, gr E 70), (1, gi v1), (2, gi w2), (3, gi w3)]) (pc := 70) dX7_can_70 (Nat.le_of_ble_eq_true rfl) rfl ?_
        refine gk_sub (L' := [(0, gr E 70), (1, gi v1), (2, gi w2), (3, gi w3), (4, gi 0)]) [1, 2, 3, 4, 0] rfl ?_
        exact k_X7_can_L72 (f_X7_can d) hrec v1 w2 w3 gs_fuel 0 σ3
      · refine gk_iconst (pc := 67) dX7_can_67 ?_
        exact gk_zret (pc := 68) (Or.inr (by decide +kernel)) rfl dX7_can_68
def f_X7_least_J74 (k35 : Int → Int → gs_Mem → Option (Int × gs_Mem)) (k80 : Int → gs_Mem → Option (Int × gs_Mem)) (v1 : Int) (v3 : Int) (σ : gs_Mem) : Option (Int × gs_Mem) :=
  k35 v1 (v3 + 1) σ
set_option maxRecDepth 100000 in
set_option maxHeartbeats 4000000 in
theorem k_X7_least_J74 {E : gs_E} (k35 : Int → Int → gs_Mem → Option (Int × gs_Mem)) (k80 : Int → gs_Mem → Option (Int × gs_Mem))  (v1 : Int) (v3 : Int)  (hk35 : ∀ (w1 : Int) (w3 : Int) (σ : gs_Mem), gs_K E (gs_MC E yX7_least cX7_least 4 (some .int) 0 { frames := 17, cells := 0, slots := 0, locals := 419 }) (fun b : Int × gs_Mem => b) (k35 w1 w3 σ) 35 [(0, gr E 70), (1, gi w1), (3, gi w3)] [] σ) (hk80 : ∀ (w1 : Int) (σ : gs_Mem), gs_K E (gs_MC E yX7_least cX7_least 4 (some .int) 0 { frames := 17, cells := 0, slots := 0, locals := 419 }) (fun b : Int × gs_Mem => b) (k80 w1 σ) 80 [(0, gr E 70), (1, gi w1)] [] σ) (σ : gs_Mem) : gs_K E (gs_MC E yX7_least cX7_least 4 (some .int) 0 { frames := 17, cells := 0, slots := 0, locals := 419 }) (fun b : Int × gs_Mem => b) (f_X7_least_J74 k35 k80 v1 v3 σ) 74 [(0, gr E 70), (1, gi v1), (3, gi v3)] [] σ := by
  unfold f_X7_least_J74
  refine gk_iinc (L' := [(3, gi (v3 + 1)), (0, gr E 70), (1, gi v1)]) (pc := 74) 2 dX7_least_74 rfl (Nat.le_of_ble_eq_true rfl) rfl ?_
  refine gk_goto (tgt := 35) (pc := 77) dX7_least_77 (by decide) ?_
  refine gk_sub (L' := [(0, gr E 70), (1, gi v1), (3, gi (v3 + 1))]) [1, 2, 0] rfl ?_
  exact hk35 v1 (v3 + 1) σ
def f_X7_least_L35  (k80 : Int → gs_Mem → Option (Int × gs_Mem)) : Nat → Int → Int → gs_Mem → Option (Int × gs_Mem)
  | 0, _, _, _ => none
  | n + 1, v1, v3, σ =>
    gs_chk 0 84 (
    if (gn (σ 71 0)) ≤ (gn v3) then
      k80 v1 σ
    else
      (f_X7_isFixed v3 σ).bind fun u3 =>
      if (gn u3) = 0 then
        (f_X7_has v3 (-1) σ).bind fun b4 =>
        f_X7_least_J74 (f_X7_least_L35 k80 n) k80 v1 v3 b4.2
      else
        (f_X7_channelOf v3 σ).bind fun u5 =>
        f_X7_least_J74 (f_X7_least_L35 k80 n) k80 (gmax v1 (u5 + 1)) v3 σ)
set_option maxRecDepth 100000 in
set_option maxHeartbeats 4000000 in
theorem k_X7_least_L35 {E : gs_E}  (k80 : Int → gs_Mem → Option (Int × gs_Mem))  (hk80 : ∀ (w1 : Int) (σ : gs_Mem), gs_K E (gs_MC E yX7_least cX7_least 4 (some .int) 0 { frames := 17, cells := 0, slots := 0, locals := 419 }) (fun b : Int × gs_Mem => b) (k80 w1 σ) 80 [(0, gr E 70), (1, gi w1)] [] σ) : ∀ (n : Nat) (v1 : Int) (v3 : Int) (σ : gs_Mem), gs_K E (gs_MC E yX7_least cX7_least 4 (some .int) 0 { frames := 17, cells := 0, slots := 0, locals := 419 }) (fun b : Int × gs_Mem => b) (f_X7_least_L35 k80 n v1 v3 σ) 35 [(0, gr E 70), (1, gi v1), (3, gi v3)] [] σ := by
  intro n
  induction n with
  | zero => intro v1 v3 σ; rw [f_X7_least_L35]; exact gk_none
  | succ n ih =>
    intro v1 v3 σ; rw [f_X7_least_L35]
    refine gk_iload_n (pc := 35) 2 dX7_least_35 rfl ?_
    refine gk_aload_n (pc := 36) 0 dX7_least_36 rfl ?_
    refine gk_getR (q := 71) (pc := 37) rfl clsX7 cll_70 sh_70 0 (by decide) rfl ww_775 dX7_least_37 ?_
    refine gk_iconst (pc := 40) dX7_least_40 ?_
    refine gk_iald_c (pc := 41) cll_71 sh_71 (by decide +kernel) dX7_least_41 ?_
    refine gk_icmp_ge (tgt := 80) (pc := 42) dX7_least_42 (by decide) rfl rfl ?_ ?_
    · refine gk_sub (L' := [(0, gr E 70), (1, gi v1)]) [0, 1] rfl ?_
      exact hk80 v1 σ
    · refine gk_aload_n (pc := 45) 0 dX7_least_45 rfl ?_
      refine gk_iload_n (pc := 46) 2 dX7_least_46 rfl ?_
      refine gk_callV_ir (As := [gi v3]) (pc := 47) (c_X7_isFixed v3 σ) rfl mm_X7_isFixed ww_849 clsX7 rfl cll_70 sh_70 (gs_fit_of (Nat.le_of_ble_eq_true rfl) (Nat.le_of_ble_eq_true rfl)) rfl rfl (Nat.le_of_ble_eq_true rfl) dX7_least_47 (fun u3 => ?_)
      refine gk_if_eq (tgt := 68) (pc := 50) dX7_least_50 (by decide) rfl ?_ ?_
      · refine gk_aload_n (pc := 68) 0 dX7_least_68 rfl ?_
        refine gk_iload_n (pc := 69) 2 dX7_least_69 rfl ?_
        refine gk_iconst (pc := 70) dX7_least_70 ?_
        refine gk_callV_vw (As := [gi v3, gi (-1)]) (pc := 71) (c_X7_has v3 (-1) σ) rfl mm_X7_has ww_857 clsX7 rfl cll_70 sh_70 (gs_fit_of (Nat.le_of_ble_eq_true rfl) (Nat.le_of_ble_eq_true rfl)) rfl rfl (Nat.le_of_ble_eq_true rfl) dX7_least_71 (fun b4 => ?_)
        exact k_X7_least_J74 (f_X7_least_L35 k80 n) k80 v1 v3 ih hk80 b4.2
      · refine gk_iload_n (pc := 53) 1 dX7_least_53 rfl ?_
        refine gk_aload_n (pc := 54) 0 dX7_least_54 rfl ?_
        refine gk_iload_n (pc := 55) 2 dX7_least_55 rfl ?_
        refine gk_callV_ir (As := [gi v3]) (pc := 56) (c_X7_channelOf v3 σ) rfl mm_X7_channelOf ww_853 clsX7 rfl cll_70 sh_70 (gs_fit_of (Nat.le_of_ble_eq_true rfl) (Nat.le_of_ble_eq_true rfl)) rfl rfl (Nat.le_of_ble_eq_true rfl) dX7_least_56 (fun u5 => ?_)
        refine gk_iconst (pc := 59) dX7_least_59 ?_
        refine gk_iadd (pc := 60) dX7_least_60 ?_
        refine gk_mmax (pc := 61) rfl mmw_RX7_113 (Nat.le_of_ble_eq_true rfl) (Nat.le_of_ble_eq_true rfl) ⟨Nat.le_refl 0, Nat.le_refl 0⟩ dX7_least_61 ?_
        refine gk_istore_n (L' := [(1, gi (gmax v1 (u5 + 1))), (0, gr E 70), (3, gi v3)]) (pc := 64) dX7_least_64 (Nat.le_of_ble_eq_true rfl) rfl ?_
        refine gk_goto (tgt := 74) (pc := 65) dX7_least_65 (by decide) ?_
        refine gk_sub (L' := [(0, gr E 70), (1, gi (gmax v1 (u5 + 1))), (3, gi v3)]) [1, 0, 2] rfl ?_
        exact k_X7_least_J74 (f_X7_least_L35 k80 n) k80 (gmax v1 (u5 + 1)) v3 ih hk80 σ
def f_X7_least_L95 (v2 : Int) (k119 : Int → gs_Mem → Option (Int × gs_Mem)) : Nat → Int → gs_Mem → Option (Int × gs_Mem)
  | 0, _, _ => none
  | n + 1, v3, σ =>
    if (gn v2) = 0 then
      if 12 < (gn v3) then
        k119 v3 σ
      else
        (f_X7_can 12 v3 σ).bind fun b8 =>
        if (gn b8.1) = 0 then
          f_X7_least_L95 v2 k119 n (v3 + 1) b8.2
        else
          k119 v3 b8.2
    else
      k119 v3 σ
set_option maxRecDepth 100000 in
set_option maxHeartbeats 4000000 in
theorem k_X7_least_L95 {E : gs_E} (v2 : Int) (k119 : Int → gs_Mem → Option (Int × gs_Mem))  (hk119 : ∀ (w3 : Int) (σ : gs_Mem), gs_K E (gs_MC E yX7_least cX7_least 4 (some .int) 0 { frames := 17, cells := 0, slots := 0, locals := 419 }) (fun b : Int × gs_Mem => b) (k119 w3 σ) 119 [(0, gr E 70), (2, gi v2), (3, gi w3)] [] σ) : ∀ (n : Nat) (v3 : Int) (σ : gs_Mem), gs_K E (gs_MC E yX7_least cX7_least 4 (some .int) 0 { frames := 17, cells := 0, slots := 0, locals := 419 }) (fun b : Int × gs_Mem => b) (f_X7_least_L95 v2 k119 n v3 σ) 95 [(0, gr E 70), (2, gi v2), (3, gi v3)] [] σ := by
  intro n
  induction n with
  | zero => intro v3 σ; rw [f_X7_least_L95]; exact gk_none
  | succ n ih =>
    intro v3 σ; rw [f_X7_least_L95]
    refine gk_iload_n (pc := 95) 1 dX7_least_95 rfl ?_
    refine gk_if_ne (tgt := 119) (pc := 96) dX7_least_96 (by decide) rfl ?_ ?_
    · exact hk119 v3 σ
    · refine gk_iload_n (pc := 99) 2 dX7_least_99 rfl ?_
      refine gk_bipush (pc := 100) dX7_least_100 (by decide +kernel) ?_
      refine gk_icmp_gt (tgt := 119) (pc := 102) dX7_least_102 (by decide) rfl (by decide +kernel) ?_ ?_
      · exact hk119 v3 σ
      · refine gk_aload_n (pc := 105) 0 dX7_least_105 rfl ?_
        refine gk_iload_n (pc := 106) 2 dX7_least_106 rfl ?_
        refine gk_callV_iw (As := [gi v3]) (pc := 107) (c_X7_can 12 v3 σ) rfl mm_X7_can ww_1005 clsX7 rfl cll_70 sh_70 (gs_fit_of (Nat.le_of_ble_eq_true rfl) (Nat.le_of_ble_eq_true rfl)) rfl rfl (Nat.le_of_ble_eq_true rfl) dX7_least_107 (fun b8 => ?_)
        refine gk_if_ne (tgt := 119) (pc := 110) dX7_least_110 (by decide) rfl ?_ ?_
        · exact hk119 v3 b8.2
        · refine gk_iinc (L' := [(3, gi (v3 + 1)), (0, gr E 70), (2, gi v2)]) (pc := 113) 2 dX7_least_113 rfl (Nat.le_of_ble_eq_true rfl) rfl ?_
          refine gk_goto (tgt := 95) (pc := 116) dX7_least_116 (by decide) ?_
          refine gk_sub (L' := [(0, gr E 70), (2, gi v2), (3, gi (v3 + 1))]) [1, 2, 0] rfl ?_
          exact ih (v3 + 1) b8.2
def f_X7_least_J140  (σ : gs_Mem) : Option (Int × gs_Mem) :=
  some ((-5), σ)
set_option maxRecDepth 100000 in
set_option maxHeartbeats 4000000 in
theorem k_X7_least_J140 {E : gs_E}     (σ : gs_Mem) : gs_K E (gs_MC E yX7_least cX7_least 4 (some .int) 0 { frames := 17, cells := 0, slots := 0, locals := 419 }) (fun b : Int × gs_Mem => b) (f_X7_least_J140 σ) 140 [] [] σ := by
  unfold f_X7_least_J140
  refine gk_bipush (pc := 140) dX7_least_140 (by decide +kernel) ?_
  refine gk_goto (tgt := 146) (pc := 142) dX7_least_142 (by decide) ?_
  exact gk_iret (pc := 146) rfl dX7_least_146
def f_X7_least_J119 (v2 : Int) (v3 : Int) (σ : gs_Mem) : Option (Int × gs_Mem) :=
  (f_X7_copies 72 71 σ).bind fun b10 =>
  if (gn v2) = 0 then
    if (gn v3) ≤ 12 then
      some (v3, b10.2)
    else
      f_X7_least_J140 b10.2
  else
    f_X7_least_J140 b10.2
set_option maxRecDepth 100000 in
set_option maxHeartbeats 4000000 in
theorem k_X7_least_J119 {E : gs_E}  (v2 : Int) (v3 : Int)   (σ : gs_Mem) : gs_K E (gs_MC E yX7_least cX7_least 4 (some .int) 0 { frames := 17, cells := 0, slots := 0, locals := 419 }) (fun b : Int × gs_Mem => b) (f_X7_least_J119 v2 v3 σ) 119 [(0, gr E 70), (2, gi v2), (3, gi v3)] [] σ := by
  unfold f_X7_least_J119
  refine gk_aload_n (pc := 119) 0 dX7_least_119 rfl ?_
  refine gk_getR (q := 72) (pc := 120) rfl clsX7 cll_70 sh_70 1 (by decide) rfl ww_776 dX7_least_120 ?_
  refine gk_aload_n (pc := 123) 0 dX7_least_123 rfl ?_
  refine gk_getR (q := 71) (pc := 124) rfl clsX7 cll_70 sh_70 0 (by decide) rfl ww_775 dX7_least_124 ?_
  refine gk_callS_vw (As := [gr E 72, gr E 71]) (pc := 127) (c_X7_copies 72 71 isMa_72 isMa_71 σ) rfl mm_X7_copies ww_1002 (gs_fit_of (Nat.le_of_ble_eq_true rfl) (Nat.le_of_ble_eq_true rfl)) rfl rfl (Nat.le_of_ble_eq_true rfl) dX7_least_127 (fun b10 => ?_)
  refine gk_iload_n (pc := 130) 1 dX7_least_130 rfl ?_
  refine gk_if_ne (tgt := 140) (pc := 131) dX7_least_131 (by decide) rfl ?_ ?_
  · refine gk_sub (L' := []) [] rfl ?_
    exact k_X7_least_J140 b10.2
  · refine gk_iload_n (pc := 134) 2 dX7_least_134 rfl ?_
    refine gk_bipush (pc := 135) dX7_least_135 (by decide +kernel) ?_
    refine gk_icmp_le (tgt := 145) (pc := 137) dX7_least_137 (by decide) rfl (by decide +kernel) ?_ ?_
    · refine gk_iload_n (pc := 145) 2 dX7_least_145 rfl ?_
      exact gk_iret (pc := 146) rfl dX7_least_146
    · refine gk_sub (L' := []) [] rfl ?_
      exact k_X7_least_J140 b10.2
def f_X7_least_J92 (v1 : Int) (t0 : Int) (σ : gs_Mem) : Option (Int × gs_Mem) :=
  f_X7_least_L95 t0 (fun w3 σ9 =>
    f_X7_least_J119 t0 w3 σ9) gs_fuel v1 σ
set_option maxRecDepth 100000 in
set_option maxHeartbeats 4000000 in
theorem k_X7_least_J92 {E : gs_E}  (v1 : Int) (t0 : Int)   (σ : gs_Mem) : gs_K E (gs_MC E yX7_least cX7_least 4 (some .int) 0 { frames := 17, cells := 0, slots := 0, locals := 419 }) (fun b : Int × gs_Mem => b) (f_X7_least_J92 v1 t0 σ) 92 [(0, gr E 70), (1, gi v1)] [gi t0] σ := by
  unfold f_X7_least_J92
  refine gk_istore_n (L' := [(2, gi t0), (0, gr E 70), (1, gi v1)]) (pc := 92) dX7_least_92 (Nat.le_of_ble_eq_true rfl) rfl ?_
  refine gk_iload_n (pc := 93) 2 dX7_least_93 rfl ?_
  refine gk_istore_n (L' := [(3, gi v1), (2, gi t0), (0, gr E 70), (1, gi v1)]) (pc := 94) dX7_least_94 (Nat.le_of_ble_eq_true rfl) rfl ?_
  refine gk_sub (L' := [(0, gr E 70), (2, gi t0), (3, gi v1)]) [2, 1, 0] rfl ?_
  refine k_X7_least_L95 t0 _ ?_ gs_fuel v1 σ
  · intro w3 σ9
    exact k_X7_least_J119 t0 w3 σ9
def f_X7_least  (σ : gs_Mem) : Option (Int × gs_Mem) :=
  gs_chk 0 84 (
  if (gn (σ 71 0)) = 0 then
    some (0, σ)
  else
    (f_X7_copies 71 72 σ).bind fun b1 =>
    (f_X7_bound b1.2).bind fun u2 =>
    f_X7_least_L35 (fun w1 σ6 =>
      (f_X7_clashes σ6).bind fun u7 =>
      if (gn u7) ≤ 0 then
        f_X7_least_J92 w1 0 σ6
      else
        f_X7_least_J92 w1 1 σ6) gs_fuel (gmax 1 u2) 0 b1.2)
set_option maxRecDepth 100000 in
set_option maxHeartbeats 4000000 in
theorem c_X7_least {E : gs_E}   (σ : gs_Mem) : gs_C E yX7_least cX7_least 4 (some .int) 0 { frames := 17, cells := 0, slots := 0, locals := 419 } [gr E 70] σ (f_X7_least  σ) (fun b : Int × gs_Mem => b) := by
  unfold f_X7_least
  refine gs_enter (L := [(0, gr E 70)]) (by decide) rfl rfl (Nat.le_of_ble_eq_true rfl) rfl ?_
  refine gk_aload_n (pc := 0) 0 dX7_least_0 rfl ?_
  refine gk_getR (q := 71) (pc := 1) rfl clsX7 cll_70 sh_70 0 (by decide) rfl ww_775 dX7_least_1 ?_
  refine gk_iconst (pc := 4) dX7_least_4 ?_
  refine gk_iald_c (pc := 5) cll_71 sh_71 (by decide +kernel) dX7_least_5 ?_
  refine gk_if_ne (tgt := 11) (pc := 6) dX7_least_6 (by decide) rfl ?_ ?_
  · refine gk_aload_n (pc := 11) 0 dX7_least_11 rfl ?_
    refine gk_getR (q := 71) (pc := 12) rfl clsX7 cll_70 sh_70 0 (by decide) rfl ww_775 dX7_least_12 ?_
    refine gk_aload_n (pc := 15) 0 dX7_least_15 rfl ?_
    refine gk_getR (q := 72) (pc := 16) rfl clsX7 cll_70 sh_70 1 (by decide) rfl ww_776 dX7_least_16 ?_
    refine gk_callS_vw (As := [gr E 71, gr E 72]) (pc := 19) (c_X7_copies 71 72 isMa_71 isMa_72 σ) rfl mm_X7_copies ww_1002 (gs_fit_of (Nat.le_of_ble_eq_true rfl) (Nat.le_of_ble_eq_true rfl)) rfl rfl (Nat.le_of_ble_eq_true rfl) dX7_least_19 (fun b1 => ?_)
    refine gk_iconst (pc := 22) dX7_least_22 ?_
    refine gk_aload_n (pc := 23) 0 dX7_least_23 rfl ?_
    refine gk_callV_ir (As := []) (pc := 24) (c_X7_bound b1.2) rfl mm_X7_bound ww_994 clsX7 rfl cll_70 sh_70 (gs_fit_of (Nat.le_of_ble_eq_true rfl) (Nat.le_of_ble_eq_true rfl)) rfl rfl (Nat.le_of_ble_eq_true rfl) dX7_least_24 (fun u2 => ?_)
    refine gk_mmax (pc := 27) rfl mmw_RX7_113 (Nat.le_of_ble_eq_true rfl) (Nat.le_of_ble_eq_true rfl) ⟨Nat.le_refl 0, Nat.le_refl 0⟩ dX7_least_27 ?_
    refine gk_istore_n (L' := [(1, gi (gmax 1 u2)), (0, gr E 70)]) (pc := 30) dX7_least_30 (Nat.le_of_ble_eq_true rfl) rfl ?_
    refine gk_iconst (pc := 31) dX7_least_31 ?_
    refine gk_istore_n (L' := [(2, gi 0), (1, gi (gmax 1 u2)), (0, gr E 70)]) (pc := 32) dX7_least_32 (Nat.le_of_ble_eq_true rfl) rfl ?_
    refine gk_iconst (pc := 33) dX7_least_33 ?_
    refine gk_istore_n (L' := [(3, gi 0), (2, gi 0), (1, gi (gmax 1 u2)), (0, gr E 70)]) (pc := 34) dX7_least_34 (Nat.le_of_ble_eq_true rfl) rfl ?_
    refine gk_sub (L' := [(0, gr E 70), (1, gi (gmax 1 u2)), (3, gi 0)]) [3, 2, 0] rfl ?_
    refine k_X7_least_L35 _ ?_ gs_fuel (gmax 1 u2) 0 b1.2
    · intro w1 σ6
      refine gk_aload_n (pc := 80) 0 dX7_least_80 rfl ?_
      refine gk_callV_ir (As := []) (pc := 81) (c_X7_clashes σ6) rfl mm_X7_clashes ww_965 clsX7 rfl cll_70 sh_70 (gs_fit_of (Nat.le_of_ble_eq_true rfl) (Nat.le_of_ble_eq_true rfl)) rfl rfl (Nat.le_of_ble_eq_true rfl) dX7_least_81 (fun u7 => ?_)
      refine gk_if_le (tgt := 91) (pc := 84) dX7_least_84 (by decide) rfl ?_ ?_
      · refine gk_iconst (pc := 91) dX7_least_91 ?_
        exact k_X7_least_J92 w1 0 σ6
      · refine gk_iconst (pc := 87) dX7_least_87 ?_
        refine gk_goto (tgt := 92) (pc := 88) dX7_least_88 (by decide) ?_
        exact k_X7_least_J92 w1 1 σ6
  · refine gk_iconst (pc := 9) dX7_least_9 ?_
    exact gk_iret (pc := 10) rfl dX7_least_10
def f_X7_unlike_J34 (σ : gs_Mem) (k4 : Int → Int → Option (Int)) (k42 : Int → Option (Int)) (v2 : Int) (t0 : Int) (t1 : Int) : Option (Int) :=
  k4 (gor t1 t0) (v2 + 1)
set_option maxRecDepth 100000 in
set_option maxHeartbeats 4000000 in
theorem k_X7_unlike_J34 {E : gs_E} (σ : gs_Mem) (k4 : Int → Int → Option (Int)) (k42 : Int → Option (Int))  (v2 : Int) (t0 : Int) (t1 : Int)  (hk4 : ∀ (w1 : Int) (w2 : Int), gs_K E (gs_MC E yX7_unlike cX7_unlike 3 (some .int) 0 { frames := 1, cells := 0, slots := 0, locals := 21 }) (fun v : Int => (v, σ)) (k4 w1 w2) 4 [(0, gr E 70), (1, gi w1), (2, gi w2)] [] σ) (hk42 : ∀ (w1 : Int), gs_K E (gs_MC E yX7_unlike cX7_unlike 3 (some .int) 0 { frames := 1, cells := 0, slots := 0, locals := 21 }) (fun v : Int => (v, σ)) (k42 w1) 42 [(1, gi w1)] [] σ) : gs_K E (gs_MC E yX7_unlike cX7_unlike 3 (some .int) 0 { frames := 1, cells := 0, slots := 0, locals := 21 }) (fun v : Int => (v, σ)) (f_X7_unlike_J34 σ k4 k42 v2 t0 t1) 34 [(0, gr E 70), (2, gi v2)] [gi t0, gi t1] σ := by
  unfold f_X7_unlike_J34
  refine gk_ior (pc := 34) dX7_unlike_34 ?_
  refine gk_istore_n (L' := [(1, gi (gor t1 t0)), (0, gr E 70), (2, gi v2)]) (pc := 35) dX7_unlike_35 (Nat.le_of_ble_eq_true rfl) rfl ?_
  refine gk_iinc (L' := [(2, gi (v2 + 1)), (1, gi (gor t1 t0)), (0, gr E 70)]) (pc := 36) 2 dX7_unlike_36 rfl (Nat.le_of_ble_eq_true rfl) rfl ?_
  refine gk_goto (tgt := 4) (pc := 39) dX7_unlike_39 (by decide) ?_
  refine gk_sub (L' := [(0, gr E 70), (1, gi (gor t1 t0)), (2, gi (v2 + 1))]) [2, 1, 0] rfl ?_
  exact hk4 (gor t1 t0) (v2 + 1)
def f_X7_unlike_L4 (σ : gs_Mem)  (k42 : Int → Option (Int)) : Nat → Int → Int → Option (Int)
  | 0, _, _ => none
  | n + 1, v1, v2 =>
    gs_chk 0 84 (
    if (gn (σ 71 0)) ≤ (gn v2) then
      k42 v1
    else
      (f_X7_channelOf v2 σ).bind fun u1 =>
      if (gn u1) < 0 then
        f_X7_unlike_J34 σ (f_X7_unlike_L4 σ k42 n) k42 v2 0 v1
      else
        (f_X7_channelOf v2 σ).bind fun u2 =>
        f_X7_unlike_J34 σ (f_X7_unlike_L4 σ k42 n) k42 v2 (gshl 1 u2) v1)
set_option maxRecDepth 100000 in
set_option maxHeartbeats 4000000 in
theorem k_X7_unlike_L4 {E : gs_E} (σ : gs_Mem)  (k42 : Int → Option (Int))  (hk42 : ∀ (w1 : Int), gs_K E (gs_MC E yX7_unlike cX7_unlike 3 (some .int) 0 { frames := 1, cells := 0, slots := 0, locals := 21 }) (fun v : Int => (v, σ)) (k42 w1) 42 [(1, gi w1)] [] σ) : ∀ (n : Nat) (v1 : Int) (v2 : Int), gs_K E (gs_MC E yX7_unlike cX7_unlike 3 (some .int) 0 { frames := 1, cells := 0, slots := 0, locals := 21 }) (fun v : Int => (v, σ)) (f_X7_unlike_L4 σ k42 n v1 v2) 4 [(0, gr E 70), (1, gi v1), (2, gi v2)] [] σ := by
  intro n
  induction n with
  | zero => intro v1 v2; rw [f_X7_unlike_L4]; exact gk_none
  | succ n ih =>
    intro v1 v2; rw [f_X7_unlike_L4]
    refine gk_iload_n (pc := 4) 2 dX7_unlike_4 rfl ?_
    refine gk_aload_n (pc := 5) 0 dX7_unlike_5 rfl ?_
    refine gk_getR (q := 71) (pc := 6) rfl clsX7 cll_70 sh_70 0 (by decide) rfl ww_775 dX7_unlike_6 ?_
    refine gk_iconst (pc := 9) dX7_unlike_9 ?_
    refine gk_iald_c (pc := 10) cll_71 sh_71 (by decide +kernel) dX7_unlike_10 ?_
    refine gk_icmp_ge (tgt := 42) (pc := 11) dX7_unlike_11 (by decide) rfl rfl ?_ ?_
    · refine gk_sub (L' := [(1, gi v1)]) [1] rfl ?_
      exact hk42 v1
    · refine gk_iload_n (pc := 14) 1 dX7_unlike_14 rfl ?_
      refine gk_aload_n (pc := 15) 0 dX7_unlike_15 rfl ?_
      refine gk_iload_n (pc := 16) 2 dX7_unlike_16 rfl ?_
      refine gk_callV_ir (As := [gi v2]) (pc := 17) (c_X7_channelOf v2 σ) rfl mm_X7_channelOf ww_853 clsX7 rfl cll_70 sh_70 (gs_fit_of (Nat.le_of_ble_eq_true rfl) (Nat.le_of_ble_eq_true rfl)) rfl rfl (Nat.le_of_ble_eq_true rfl) dX7_unlike_17 (fun u1 => ?_)
      refine gk_if_lt (tgt := 33) (pc := 20) dX7_unlike_20 (by decide) rfl ?_ ?_
      · refine gk_iconst (pc := 33) dX7_unlike_33 ?_
        refine gk_sub (L' := [(0, gr E 70), (2, gi v2)]) [0, 2] rfl ?_
        exact k_X7_unlike_J34 σ (f_X7_unlike_L4 σ k42 n) k42 v2 0 v1 ih hk42
      · refine gk_iconst (pc := 23) dX7_unlike_23 ?_
        refine gk_aload_n (pc := 24) 0 dX7_unlike_24 rfl ?_
        refine gk_iload_n (pc := 25) 2 dX7_unlike_25 rfl ?_
        refine gk_callV_ir (As := [gi v2]) (pc := 26) (c_X7_channelOf v2 σ) rfl mm_X7_channelOf ww_853 clsX7 rfl cll_70 sh_70 (gs_fit_of (Nat.le_of_ble_eq_true rfl) (Nat.le_of_ble_eq_true rfl)) rfl rfl (Nat.le_of_ble_eq_true rfl) dX7_unlike_26 (fun u2 => ?_)
        refine gk_ishl (pc := 29) dX7_unlike_29 ?_
        refine gk_goto (tgt := 34) (pc := 30) dX7_unlike_30 (by decide) ?_
        refine gk_sub (L' := [(0, gr E 70), (2, gi v2)]) [0, 2] rfl ?_
        exact k_X7_unlike_J34 σ (f_X7_unlike_L4 σ k42 n) k42 v2 (gshl 1 u2) v1 ih hk42
def f_X7_unlike  (σ : gs_Mem) : Option (Int) :=
  f_X7_unlike_L4 σ (fun w1 =>
    (f_J6_bitCount_0f7a4 w1 σ).bind fun u3 =>
    some u3) gs_fuel 0 0
set_option maxRecDepth 100000 in
set_option maxHeartbeats 4000000 in
theorem c_X7_unlike {E : gs_E}   (σ : gs_Mem) : gs_C E yX7_unlike cX7_unlike 3 (some .int) 0 { frames := 1, cells := 0, slots := 0, locals := 21 } [gr E 70] σ (f_X7_unlike  σ) (fun v : Int => (v, σ)) := by
  unfold f_X7_unlike
  refine gs_enter (L := [(0, gr E 70)]) (by decide) rfl rfl (Nat.le_of_ble_eq_true rfl) rfl ?_
  refine gk_iconst (pc := 0) dX7_unlike_0 ?_
  refine gk_istore_n (L' := [(1, gi 0), (0, gr E 70)]) (pc := 1) dX7_unlike_1 (Nat.le_of_ble_eq_true rfl) rfl ?_
  refine gk_iconst (pc := 2) dX7_unlike_2 ?_
  refine gk_istore_n (L' := [(2, gi 0), (1, gi 0), (0, gr E 70)]) (pc := 3) dX7_unlike_3 (Nat.le_of_ble_eq_true rfl) rfl ?_
  refine gk_sub (L' := [(0, gr E 70), (1, gi 0), (2, gi 0)]) [2, 1, 0] rfl ?_
  refine k_X7_unlike_L4 σ _ ?_ gs_fuel 0 0
  · intro w1
    refine gk_iload_n (pc := 42) 0 dX7_unlike_42 rfl ?_
    refine gk_callS_ir (As := [gi w1]) (pc := 43) (c_J6_bitCount_0f7a4 w1 σ) rfl mm_J6_bitCount_0f7a4 ww_960 (gs_fit_of (Nat.le_of_ble_eq_true rfl) (Nat.le_of_ble_eq_true rfl)) rfl rfl (Nat.le_of_ble_eq_true rfl) dX7_unlike_43 (fun u3 => ?_)
    exact gk_iret (pc := 46) rfl dX7_unlike_46
def f_X7_having_J28 (σ : gs_Mem) (k4 : Int → Int → Option (Int)) (v2 : Int) (t0 : Int) (t1 : Int) : Option (Int) :=
  k4 (t1 + t0) (v2 + 1)
set_option maxRecDepth 100000 in
set_option maxHeartbeats 4000000 in
theorem k_X7_having_J28 {E : gs_E} (σ : gs_Mem) (k4 : Int → Int → Option (Int))  (v2 : Int) (t0 : Int) (t1 : Int)  (hk4 : ∀ (w1 : Int) (w2 : Int), gs_K E (gs_MC E yX7_having cX7_having 3 (some .int) 0 { frames := 1, cells := 0, slots := 0, locals := 21 }) (fun v : Int => (v, σ)) (k4 w1 w2) 4 [(0, gr E 70), (1, gi w1), (2, gi w2)] [] σ) : gs_K E (gs_MC E yX7_having cX7_having 3 (some .int) 0 { frames := 1, cells := 0, slots := 0, locals := 21 }) (fun v : Int => (v, σ)) (f_X7_having_J28 σ k4 v2 t0 t1) 28 [(0, gr E 70), (2, gi v2)] [gi t0, gi t1] σ := by
  unfold f_X7_having_J28
  refine gk_iadd (pc := 28) dX7_having_28 ?_
  refine gk_istore_n (L' := [(1, gi (t1 + t0)), (0, gr E 70), (2, gi v2)]) (pc := 29) dX7_having_29 (Nat.le_of_ble_eq_true rfl) rfl ?_
  refine gk_iinc (L' := [(2, gi (v2 + 1)), (1, gi (t1 + t0)), (0, gr E 70)]) (pc := 30) 2 dX7_having_30 rfl (Nat.le_of_ble_eq_true rfl) rfl ?_
  refine gk_goto (tgt := 4) (pc := 33) dX7_having_33 (by decide) ?_
  refine gk_sub (L' := [(0, gr E 70), (1, gi (t1 + t0)), (2, gi (v2 + 1))]) [2, 1, 0] rfl ?_
  exact hk4 (t1 + t0) (v2 + 1)
def f_X7_having_L4 (σ : gs_Mem)  : Nat → Int → Int → Option (Int)
  | 0, _, _ => none
  | n + 1, v1, v2 =>
    gs_chk 0 84 (
    if (gn (σ 71 0)) ≤ (gn v2) then
      some v1
    else
      (f_X7_channelOf v2 σ).bind fun u1 =>
      if (gn u1) < 0 then
        f_X7_having_J28 σ (f_X7_having_L4 σ n) v2 0 v1
      else
        f_X7_having_J28 σ (f_X7_having_L4 σ n) v2 1 v1)
set_option maxRecDepth 100000 in
set_option maxHeartbeats 4000000 in
theorem k_X7_having_L4 {E : gs_E} (σ : gs_Mem)    : ∀ (n : Nat) (v1 : Int) (v2 : Int), gs_K E (gs_MC E yX7_having cX7_having 3 (some .int) 0 { frames := 1, cells := 0, slots := 0, locals := 21 }) (fun v : Int => (v, σ)) (f_X7_having_L4 σ n v1 v2) 4 [(0, gr E 70), (1, gi v1), (2, gi v2)] [] σ := by
  intro n
  induction n with
  | zero => intro v1 v2; rw [f_X7_having_L4]; exact gk_none
  | succ n ih =>
    intro v1 v2; rw [f_X7_having_L4]
    refine gk_iload_n (pc := 4) 2 dX7_having_4 rfl ?_
    refine gk_aload_n (pc := 5) 0 dX7_having_5 rfl ?_
    refine gk_getR (q := 71) (pc := 6) rfl clsX7 cll_70 sh_70 0 (by decide) rfl ww_775 dX7_having_6 ?_
    refine gk_iconst (pc := 9) dX7_having_9 ?_
    refine gk_iald_c (pc := 10) cll_71 sh_71 (by decide +kernel) dX7_having_10 ?_
    refine gk_icmp_ge (tgt := 36) (pc := 11) dX7_having_11 (by decide) rfl rfl ?_ ?_
    · refine gk_iload_n (pc := 36) 1 dX7_having_36 rfl ?_
      exact gk_iret (pc := 37) rfl dX7_having_37
    · refine gk_iload_n (pc := 14) 1 dX7_having_14 rfl ?_
      refine gk_aload_n (pc := 15) 0 dX7_having_15 rfl ?_
      refine gk_iload_n (pc := 16) 2 dX7_having_16 rfl ?_
      refine gk_callV_ir (As := [gi v2]) (pc := 17) (c_X7_channelOf v2 σ) rfl mm_X7_channelOf ww_853 clsX7 rfl cll_70 sh_70 (gs_fit_of (Nat.le_of_ble_eq_true rfl) (Nat.le_of_ble_eq_true rfl)) rfl rfl (Nat.le_of_ble_eq_true rfl) dX7_having_17 (fun u1 => ?_)
      refine gk_if_lt (tgt := 27) (pc := 20) dX7_having_20 (by decide) rfl ?_ ?_
      · refine gk_iconst (pc := 27) dX7_having_27 ?_
        refine gk_sub (L' := [(0, gr E 70), (2, gi v2)]) [0, 2] rfl ?_
        exact k_X7_having_J28 σ (f_X7_having_L4 σ n) v2 0 v1 ih
      · refine gk_iconst (pc := 23) dX7_having_23 ?_
        refine gk_goto (tgt := 28) (pc := 24) dX7_having_24 (by decide) ?_
        refine gk_sub (L' := [(0, gr E 70), (2, gi v2)]) [0, 2] rfl ?_
        exact k_X7_having_J28 σ (f_X7_having_L4 σ n) v2 1 v1 ih
def f_X7_having  (σ : gs_Mem) : Option (Int) :=
  f_X7_having_L4 σ gs_fuel 0 0
set_option maxRecDepth 100000 in
set_option maxHeartbeats 4000000 in
theorem c_X7_having {E : gs_E}   (σ : gs_Mem) : gs_C E yX7_having cX7_having 3 (some .int) 0 { frames := 1, cells := 0, slots := 0, locals := 21 } [gr E 70] σ (f_X7_having  σ) (fun v : Int => (v, σ)) := by
  unfold f_X7_having
  refine gs_enter (L := [(0, gr E 70)]) (by decide) rfl rfl (Nat.le_of_ble_eq_true rfl) rfl ?_
  refine gk_iconst (pc := 0) dX7_having_0 ?_
  refine gk_istore_n (L' := [(1, gi 0), (0, gr E 70)]) (pc := 1) dX7_having_1 (Nat.le_of_ble_eq_true rfl) rfl ?_
  refine gk_iconst (pc := 2) dX7_having_2 ?_
  refine gk_istore_n (L' := [(2, gi 0), (1, gi 0), (0, gr E 70)]) (pc := 3) dX7_having_3 (Nat.le_of_ble_eq_true rfl) rfl ?_
  refine gk_sub (L' := [(0, gr E 70), (1, gi 0), (2, gi 0)]) [2, 1, 0] rfl ?_
  exact k_X7_having_L4 σ gs_fuel 0 0
def f_X7_fixedSet_J30 (σ : gs_Mem) (k4 : Int → Int → Option (Int)) (v2 : Int) (t0 : Int) (t1 : Int) : Option (Int) :=
  k4 (gor t1 t0) (v2 + 1)
set_option maxRecDepth 100000 in
set_option maxHeartbeats 4000000 in
theorem k_X7_fixedSet_J30 {E : gs_E} (σ : gs_Mem) (k4 : Int → Int → Option (Int))  (v2 : Int) (t0 : Int) (t1 : Int)  (hk4 : ∀ (w1 : Int) (w2 : Int), gs_K E (gs_MC E yX7_fixedSet cX7_fixedSet 3 (some .int) 0 { frames := 1, cells := 0, slots := 0, locals := 21 }) (fun v : Int => (v, σ)) (k4 w1 w2) 4 [(0, gr E 70), (1, gi w1), (2, gi w2)] [] σ) : gs_K E (gs_MC E yX7_fixedSet cX7_fixedSet 3 (some .int) 0 { frames := 1, cells := 0, slots := 0, locals := 21 }) (fun v : Int => (v, σ)) (f_X7_fixedSet_J30 σ k4 v2 t0 t1) 30 [(0, gr E 70), (2, gi v2)] [gi t0, gi t1] σ := by
  unfold f_X7_fixedSet_J30
  refine gk_ior (pc := 30) dX7_fixedSet_30 ?_
  refine gk_istore_n (L' := [(1, gi (gor t1 t0)), (0, gr E 70), (2, gi v2)]) (pc := 31) dX7_fixedSet_31 (Nat.le_of_ble_eq_true rfl) rfl ?_
  refine gk_iinc (L' := [(2, gi (v2 + 1)), (1, gi (gor t1 t0)), (0, gr E 70)]) (pc := 32) 2 dX7_fixedSet_32 rfl (Nat.le_of_ble_eq_true rfl) rfl ?_
  refine gk_goto (tgt := 4) (pc := 35) dX7_fixedSet_35 (by decide) ?_
  refine gk_sub (L' := [(0, gr E 70), (1, gi (gor t1 t0)), (2, gi (v2 + 1))]) [2, 1, 0] rfl ?_
  exact hk4 (gor t1 t0) (v2 + 1)
def f_X7_fixedSet_L4 (σ : gs_Mem)  : Nat → Int → Int → Option (Int)
  | 0, _, _ => none
  | n + 1, v1, v2 =>
    gs_chk 0 84 (
    if (gn (σ 71 0)) ≤ (gn v2) then
      some v1
    else
      (f_X7_isFixed v2 σ).bind fun u1 =>
      if (gn u1) = 0 then
        f_X7_fixedSet_J30 σ (f_X7_fixedSet_L4 σ n) v2 0 v1
      else
        f_X7_fixedSet_J30 σ (f_X7_fixedSet_L4 σ n) v2 (gshl 1 v2) v1)
set_option maxRecDepth 100000 in
set_option maxHeartbeats 4000000 in
theorem k_X7_fixedSet_L4 {E : gs_E} (σ : gs_Mem)    : ∀ (n : Nat) (v1 : Int) (v2 : Int), gs_K E (gs_MC E yX7_fixedSet cX7_fixedSet 3 (some .int) 0 { frames := 1, cells := 0, slots := 0, locals := 21 }) (fun v : Int => (v, σ)) (f_X7_fixedSet_L4 σ n v1 v2) 4 [(0, gr E 70), (1, gi v1), (2, gi v2)] [] σ := by
  intro n
  induction n with
  | zero => intro v1 v2; rw [f_X7_fixedSet_L4]; exact gk_none
  | succ n ih =>
    intro v1 v2; rw [f_X7_fixedSet_L4]
    refine gk_iload_n (pc := 4) 2 dX7_fixedSet_4 rfl ?_
    refine gk_aload_n (pc := 5) 0 dX7_fixedSet_5 rfl ?_
    refine gk_getR (q := 71) (pc := 6) rfl clsX7 cll_70 sh_70 0 (by decide) rfl ww_775 dX7_fixedSet_6 ?_
    refine gk_iconst (pc := 9) dX7_fixedSet_9 ?_
    refine gk_iald_c (pc := 10) cll_71 sh_71 (by decide +kernel) dX7_fixedSet_10 ?_
    refine gk_icmp_ge (tgt := 38) (pc := 11) dX7_fixedSet_11 (by decide) rfl rfl ?_ ?_
    · refine gk_iload_n (pc := 38) 1 dX7_fixedSet_38 rfl ?_
      exact gk_iret (pc := 39) rfl dX7_fixedSet_39
    · refine gk_iload_n (pc := 14) 1 dX7_fixedSet_14 rfl ?_
      refine gk_aload_n (pc := 15) 0 dX7_fixedSet_15 rfl ?_
      refine gk_iload_n (pc := 16) 2 dX7_fixedSet_16 rfl ?_
      refine gk_callV_ir (As := [gi v2]) (pc := 17) (c_X7_isFixed v2 σ) rfl mm_X7_isFixed ww_849 clsX7 rfl cll_70 sh_70 (gs_fit_of (Nat.le_of_ble_eq_true rfl) (Nat.le_of_ble_eq_true rfl)) rfl rfl (Nat.le_of_ble_eq_true rfl) dX7_fixedSet_17 (fun u1 => ?_)
      refine gk_if_eq (tgt := 29) (pc := 20) dX7_fixedSet_20 (by decide) rfl ?_ ?_
      · refine gk_iconst (pc := 29) dX7_fixedSet_29 ?_
        refine gk_sub (L' := [(0, gr E 70), (2, gi v2)]) [0, 2] rfl ?_
        exact k_X7_fixedSet_J30 σ (f_X7_fixedSet_L4 σ n) v2 0 v1 ih
      · refine gk_iconst (pc := 23) dX7_fixedSet_23 ?_
        refine gk_iload_n (pc := 24) 2 dX7_fixedSet_24 rfl ?_
        refine gk_ishl (pc := 25) dX7_fixedSet_25 ?_
        refine gk_goto (tgt := 30) (pc := 26) dX7_fixedSet_26 (by decide) ?_
        refine gk_sub (L' := [(0, gr E 70), (2, gi v2)]) [0, 2] rfl ?_
        exact k_X7_fixedSet_J30 σ (f_X7_fixedSet_L4 σ n) v2 (gshl 1 v2) v1 ih
def f_X7_fixedSet  (σ : gs_Mem) : Option (Int) :=
  f_X7_fixedSet_L4 σ gs_fuel 0 0
set_option maxRecDepth 100000 in
set_option maxHeartbeats 4000000 in
theorem c_X7_fixedSet {E : gs_E}   (σ : gs_Mem) : gs_C E yX7_fixedSet cX7_fixedSet 3 (some .int) 0 { frames := 1, cells := 0, slots := 0, locals := 21 } [gr E 70] σ (f_X7_fixedSet  σ) (fun v : Int => (v, σ)) := by
  unfold f_X7_fixedSet
  refine gs_enter (L := [(0, gr E 70)]) (by decide) rfl rfl (Nat.le_of_ble_eq_true rfl) rfl ?_
  refine gk_iconst (pc := 0) dX7_fixedSet_0 ?_
  refine gk_istore_n (L' := [(1, gi 0), (0, gr E 70)]) (pc := 1) dX7_fixedSet_1 (Nat.le_of_ble_eq_true rfl) rfl ?_
  refine gk_iconst (pc := 2) dX7_fixedSet_2 ?_
  refine gk_istore_n (L' := [(2, gi 0), (1, gi 0), (0, gr E 70)]) (pc := 3) dX7_fixedSet_3 (Nat.le_of_ble_eq_true rfl) rfl ?_
  refine gk_sub (L' := [(0, gr E 70), (1, gi 0), (2, gi 0)]) [2, 1, 0] rfl ?_
  exact k_X7_fixedSet_L4 σ gs_fuel 0 0
def f_X7_told (v1 : Int) (σ : gs_Mem) : Option (Int × gs_Mem) :=
  if (gn v1) = 0 then
    gs_chk 0 84 (
    some ((σ 71 0), σ))
  else if (gn v1) = 1 then
    (f_X7_span σ).bind fun u1 =>
    some (u1, σ)
  else if (gn v1) = 2 then
    (f_X7_clashes σ).bind fun u2 =>
    some (u2, σ)
  else if (gn v1) = 3 then
    (f_X7_bound σ).bind fun u3 =>
    some (u3, σ)
  else if (gn v1) = 4 then
    (f_X7_least σ).bind fun b4 =>
    some (b4.1, b4.2)
  else if (gn v1) = 5 then
    (f_X7_least σ).bind fun b5 =>
    (f_X7_bound b5.2).bind fun u6 =>
    if (gn b5.1) = (gn u6) then
      some (1, b5.2)
    else
      some (0, b5.2)
  else if (gn v1) = 6 then
    (f_X7_having σ).bind fun u7 =>
    some (u7, σ)
  else if (gn v1) = 7 then
    (f_X7_unlike σ).bind fun u8 =>
    some (u8, σ)
  else if (gn v1) = 8 then
    (f_X7_fixedSet σ).bind fun u9 =>
    some (u9, σ)
  else 
    some ((-1), σ)
set_option maxRecDepth 100000 in
set_option maxHeartbeats 4000000 in
theorem c_X7_told {E : gs_E} (v1 : Int)  (σ : gs_Mem) : gs_C E yX7_told cX7_told 2 (some .int) 0 { frames := 18, cells := 0, slots := 0, locals := 442 } [gr E 70, gi v1] σ (f_X7_told v1 σ) (fun b : Int × gs_Mem => b) := by
  unfold f_X7_told
  refine gs_enter (L := [(0, gr E 70), (1, gi v1)]) (by decide) rfl rfl (Nat.le_of_ble_eq_true rfl) rfl ?_
  refine gk_iload_n (pc := 0) 1 dX7_told_0 rfl ?_
  refine gk_sw (tgt := 52) (pc := 1) 0 dX7_told_1 (by decide) rfl (by decide) ?_ (fun hs0 => ?_)
  · refine gk_aload_n (pc := 52) 0 dX7_told_52 rfl ?_
    refine gk_getR (q := 71) (pc := 53) rfl clsX7 cll_70 sh_70 0 (by decide) rfl ww_775 dX7_told_53 ?_
    refine gk_iconst (pc := 56) dX7_told_56 ?_
    refine gk_iald_c (pc := 57) cll_71 sh_71 (by decide +kernel) dX7_told_57 ?_
    exact gk_iret (pc := 58) rfl dX7_told_58
  refine gk_sw (tgt := 59) (pc := 1) 1 dX7_told_1 (by decide) rfl (by decide) ?_ (fun hs1 => ?_)
  · refine gk_aload_n (pc := 59) 0 dX7_told_59 rfl ?_
    refine gk_callV_ir (As := []) (pc := 60) (c_X7_span σ) rfl mm_X7_span ww_989 clsX7 rfl cll_70 sh_70 (gs_fit_of (Nat.le_of_ble_eq_true rfl) (Nat.le_of_ble_eq_true rfl)) rfl rfl (Nat.le_of_ble_eq_true rfl) dX7_told_60 (fun u1 => ?_)
    exact gk_iret (pc := 63) rfl dX7_told_63
  refine gk_sw (tgt := 64) (pc := 1) 2 dX7_told_1 (by decide) rfl (by decide) ?_ (fun hs2 => ?_)
  · refine gk_aload_n (pc := 64) 0 dX7_told_64 rfl ?_
    refine gk_callV_ir (As := []) (pc := 65) (c_X7_clashes σ) rfl mm_X7_clashes ww_965 clsX7 rfl cll_70 sh_70 (gs_fit_of (Nat.le_of_ble_eq_true rfl) (Nat.le_of_ble_eq_true rfl)) rfl rfl (Nat.le_of_ble_eq_true rfl) dX7_told_65 (fun u2 => ?_)
    exact gk_iret (pc := 68) rfl dX7_told_68
  refine gk_sw (tgt := 69) (pc := 1) 3 dX7_told_1 (by decide) rfl (by decide) ?_ (fun hs3 => ?_)
  · refine gk_aload_n (pc := 69) 0 dX7_told_69 rfl ?_
    refine gk_callV_ir (As := []) (pc := 70) (c_X7_bound σ) rfl mm_X7_bound ww_994 clsX7 rfl cll_70 sh_70 (gs_fit_of (Nat.le_of_ble_eq_true rfl) (Nat.le_of_ble_eq_true rfl)) rfl rfl (Nat.le_of_ble_eq_true rfl) dX7_told_70 (fun u3 => ?_)
    exact gk_iret (pc := 73) rfl dX7_told_73
  refine gk_sw (tgt := 74) (pc := 1) 4 dX7_told_1 (by decide) rfl (by decide) ?_ (fun hs4 => ?_)
  · refine gk_aload_n (pc := 74) 0 dX7_told_74 rfl ?_
    refine gk_callV_iw (As := []) (pc := 75) (c_X7_least σ) rfl mm_X7_least ww_998 clsX7 rfl cll_70 sh_70 (gs_fit_of (Nat.le_of_ble_eq_true rfl) (Nat.le_of_ble_eq_true rfl)) rfl rfl (Nat.le_of_ble_eq_true rfl) dX7_told_75 (fun b4 => ?_)
    exact gk_iret (pc := 78) rfl dX7_told_78
  refine gk_sw (tgt := 79) (pc := 1) 5 dX7_told_1 (by decide) rfl (by decide) ?_ (fun hs5 => ?_)
  · refine gk_aload_n (pc := 79) 0 dX7_told_79 rfl ?_
    refine gk_callV_iw (As := []) (pc := 80) (c_X7_least σ) rfl mm_X7_least ww_998 clsX7 rfl cll_70 sh_70 (gs_fit_of (Nat.le_of_ble_eq_true rfl) (Nat.le_of_ble_eq_true rfl)) rfl rfl (Nat.le_of_ble_eq_true rfl) dX7_told_80 (fun b5 => ?_)
    refine gk_aload_n (pc := 83) 0 dX7_told_83 rfl ?_
    refine gk_callV_ir (As := []) (pc := 84) (c_X7_bound b5.2) rfl mm_X7_bound ww_994 clsX7 rfl cll_70 sh_70 (gs_fit_of (Nat.le_of_ble_eq_true rfl) (Nat.le_of_ble_eq_true rfl)) rfl rfl (Nat.le_of_ble_eq_true rfl) dX7_told_84 (fun u6 => ?_)
    refine gk_icmp_ne (tgt := 94) (pc := 87) dX7_told_87 (by decide) rfl rfl ?_ ?_
    · refine gk_iconst (pc := 94) dX7_told_94 ?_
      exact gk_iret (pc := 95) rfl dX7_told_95
    · refine gk_iconst (pc := 90) dX7_told_90 ?_
      refine gk_goto (tgt := 95) (pc := 91) dX7_told_91 (by decide) ?_
      exact gk_iret (pc := 95) rfl dX7_told_95
  refine gk_sw (tgt := 96) (pc := 1) 6 dX7_told_1 (by decide) rfl (by decide) ?_ (fun hs6 => ?_)
  · refine gk_aload_n (pc := 96) 0 dX7_told_96 rfl ?_
    refine gk_callV_ir (As := []) (pc := 97) (c_X7_having σ) rfl mm_X7_having ww_1009 clsX7 rfl cll_70 sh_70 (gs_fit_of (Nat.le_of_ble_eq_true rfl) (Nat.le_of_ble_eq_true rfl)) rfl rfl (Nat.le_of_ble_eq_true rfl) dX7_told_97 (fun u7 => ?_)
    exact gk_iret (pc := 100) rfl dX7_told_100
  refine gk_sw (tgt := 101) (pc := 1) 7 dX7_told_1 (by decide) rfl (by decide) ?_ (fun hs7 => ?_)
  · refine gk_aload_n (pc := 101) 0 dX7_told_101 rfl ?_
    refine gk_callV_ir (As := []) (pc := 102) (c_X7_unlike σ) rfl mm_X7_unlike ww_1013 clsX7 rfl cll_70 sh_70 (gs_fit_of (Nat.le_of_ble_eq_true rfl) (Nat.le_of_ble_eq_true rfl)) rfl rfl (Nat.le_of_ble_eq_true rfl) dX7_told_102 (fun u8 => ?_)
    exact gk_iret (pc := 105) rfl dX7_told_105
  refine gk_sw (tgt := 106) (pc := 1) 8 dX7_told_1 (by decide) rfl (by decide) ?_ (fun hs8 => ?_)
  · refine gk_aload_n (pc := 106) 0 dX7_told_106 rfl ?_
    refine gk_callV_ir (As := []) (pc := 107) (c_X7_fixedSet σ) rfl mm_X7_fixedSet ww_1017 clsX7 rfl cll_70 sh_70 (gs_fit_of (Nat.le_of_ble_eq_true rfl) (Nat.le_of_ble_eq_true rfl)) rfl rfl (Nat.le_of_ble_eq_true rfl) dX7_told_107 (fun u9 => ?_)
    exact gk_iret (pc := 110) rfl dX7_told_110
  refine gk_swD (tgt := 111) (pc := 1) dX7_told_1 (by omega) (by decide) ?_
  refine gk_iconst (pc := 111) dX7_told_111 ?_
  exact gk_iret (pc := 112) rfl dX7_told_112
def f_X7_sorted_J51 (σ : gs_Mem) (k19 : Int → Int → Option (Int)) (k57 : Int → Option (Int)) (v1 : Int) (v2 : Int) (v3 : Int) (v4 : Int) : Option (Int) :=
  k19 v2 (v4 + 1)
set_option maxRecDepth 100000 in
set_option maxHeartbeats 4000000 in
theorem k_X7_sorted_J51 {E : gs_E} (σ : gs_Mem) (k19 : Int → Int → Option (Int)) (k57 : Int → Option (Int))  (v1 : Int) (v2 : Int) (v3 : Int) (v4 : Int)  (hk19 : ∀ (w2 : Int) (w4 : Int), gs_K E (gs_MC E yX7_sorted cX7_sorted 5 (some .int) 0 { frames := 1, cells := 0, slots := 0, locals := 21 }) (fun v : Int => (v, σ)) (k19 w2 w4) 19 [(0, gr E 70), (1, gi v1), (2, gi w2), (3, gi v3), (4, gi w4)] [] σ) (hk57 : ∀ (w2 : Int), gs_K E (gs_MC E yX7_sorted cX7_sorted 5 (some .int) 0 { frames := 1, cells := 0, slots := 0, locals := 21 }) (fun v : Int => (v, σ)) (k57 w2) 57 [(0, gr E 70), (1, gi v1), (2, gi w2), (3, gi v3)] [] σ) : gs_K E (gs_MC E yX7_sorted cX7_sorted 5 (some .int) 0 { frames := 1, cells := 0, slots := 0, locals := 21 }) (fun v : Int => (v, σ)) (f_X7_sorted_J51 σ k19 k57 v1 v2 v3 v4) 51 [(0, gr E 70), (1, gi v1), (2, gi v2), (3, gi v3), (4, gi v4)] [] σ := by
  unfold f_X7_sorted_J51
  refine gk_iinc (L' := [(4, gi (v4 + 1)), (0, gr E 70), (1, gi v1), (2, gi v2), (3, gi v3)]) (pc := 51) 4 dX7_sorted_51 rfl (Nat.le_of_ble_eq_true rfl) rfl ?_
  refine gk_goto (tgt := 19) (pc := 54) dX7_sorted_54 (by decide) ?_
  refine gk_sub (L' := [(0, gr E 70), (1, gi v1), (2, gi v2), (3, gi v3), (4, gi (v4 + 1))]) [1, 2, 3, 4, 0] rfl ?_
  exact hk19 v2 (v4 + 1)
def f_X7_sorted_L19 (σ : gs_Mem) (v1 : Int) (v3 : Int) (k57 : Int → Option (Int)) : Nat → Int → Int → Option (Int)
  | 0, _, _ => none
  | n + 1, v2, v4 =>
    gs_chk 0 84 (
    if (gn (σ 71 0)) ≤ (gn v4) then
      k57 v2
    else
      (f_X7_channelOf v4 σ).bind fun u1 =>
      if (gn u1) = (gn v3) then
        if (gn v2) = (gn v1) then
          some v4
        else
          f_X7_sorted_J51 σ (f_X7_sorted_L19 σ v1 v3 k57 n) k57 v1 (v2 + 1) v3 v4
      else
        f_X7_sorted_J51 σ (f_X7_sorted_L19 σ v1 v3 k57 n) k57 v1 v2 v3 v4)
set_option maxRecDepth 100000 in
set_option maxHeartbeats 4000000 in
theorem k_X7_sorted_L19 {E : gs_E} (σ : gs_Mem) (v1 : Int) (v3 : Int) (k57 : Int → Option (Int))  (hk57 : ∀ (w2 : Int), gs_K E (gs_MC E yX7_sorted cX7_sorted 5 (some .int) 0 { frames := 1, cells := 0, slots := 0, locals := 21 }) (fun v : Int => (v, σ)) (k57 w2) 57 [(0, gr E 70), (1, gi v1), (2, gi w2), (3, gi v3)] [] σ) : ∀ (n : Nat) (v2 : Int) (v4 : Int), gs_K E (gs_MC E yX7_sorted cX7_sorted 5 (some .int) 0 { frames := 1, cells := 0, slots := 0, locals := 21 }) (fun v : Int => (v, σ)) (f_X7_sorted_L19 σ v1 v3 k57 n v2 v4) 19 [(0, gr E 70), (1, gi v1), (2, gi v2), (3, gi v3), (4, gi v4)] [] σ := by
  intro n
  induction n with
  | zero => intro v2 v4; rw [f_X7_sorted_L19]; exact gk_none
  | succ n ih =>
    intro v2 v4; rw [f_X7_sorted_L19]
    refine gk_iload (pc := 19) 4 dX7_sorted_19 rfl ?_
    refine gk_aload_n (pc := 21) 0 dX7_sorted_21 rfl ?_
    refine gk_getR (q := 71) (pc := 22) rfl clsX7 cll_70 sh_70 0 (by decide) rfl ww_775 dX7_sorted_22 ?_
    refine gk_iconst (pc := 25) dX7_sorted_25 ?_
    refine gk_iald_c (pc := 26) cll_71 sh_71 (by decide +kernel) dX7_sorted_26 ?_
    refine gk_icmp_ge (tgt := 57) (pc := 27) dX7_sorted_27 (by decide) rfl rfl ?_ ?_
    · refine gk_sub (L' := [(0, gr E 70), (1, gi v1), (2, gi v2), (3, gi v3)]) [0, 1, 2, 3] rfl ?_
      exact hk57 v2
    · refine gk_aload_n (pc := 30) 0 dX7_sorted_30 rfl ?_
      refine gk_iload (pc := 31) 4 dX7_sorted_31 rfl ?_
      refine gk_callV_ir (As := [gi v4]) (pc := 33) (c_X7_channelOf v4 σ) rfl mm_X7_channelOf ww_853 clsX7 rfl cll_70 sh_70 (gs_fit_of (Nat.le_of_ble_eq_true rfl) (Nat.le_of_ble_eq_true rfl)) rfl rfl (Nat.le_of_ble_eq_true rfl) dX7_sorted_33 (fun u1 => ?_)
      refine gk_iload_n (pc := 36) 3 dX7_sorted_36 rfl ?_
      refine gk_icmp_ne (tgt := 51) (pc := 37) dX7_sorted_37 (by decide) rfl rfl ?_ ?_
      · exact k_X7_sorted_J51 σ (f_X7_sorted_L19 σ v1 v3 k57 n) k57 v1 v2 v3 v4 ih hk57
      · refine gk_iload_n (pc := 40) 2 dX7_sorted_40 rfl ?_
        refine gk_iload_n (pc := 41) 1 dX7_sorted_41 rfl ?_
        refine gk_icmp_ne (tgt := 48) (pc := 42) dX7_sorted_42 (by decide) rfl rfl ?_ ?_
        · refine gk_iinc (L' := [(2, gi (v2 + 1)), (0, gr E 70), (1, gi v1), (3, gi v3), (4, gi v4)]) (pc := 48) 2 dX7_sorted_48 rfl (Nat.le_of_ble_eq_true rfl) rfl ?_
          refine gk_sub (L' := [(0, gr E 70), (1, gi v1), (2, gi (v2 + 1)), (3, gi v3), (4, gi v4)]) [1, 2, 0, 3, 4] rfl ?_
          exact k_X7_sorted_J51 σ (f_X7_sorted_L19 σ v1 v3 k57 n) k57 v1 (v2 + 1) v3 v4 ih hk57
        · refine gk_iload (pc := 45) 4 dX7_sorted_45 rfl ?_
          exact gk_iret (pc := 47) rfl dX7_sorted_47
def f_X7_sorted_L10 (σ : gs_Mem) (v1 : Int) : Nat → Int → Int → Option (Int)
  | 0, _, _ => none
  | n + 1, v2, v3 =>
    if 20 ≤ (gn v3) then
      some (-5)
    else
      f_X7_sorted_L19 σ v1 v3 (fun w2 =>
        f_X7_sorted_L10 σ v1 n w2 (v3 + 1)) gs_fuel v2 0
set_option maxRecDepth 100000 in
set_option maxHeartbeats 4000000 in
theorem k_X7_sorted_L10 {E : gs_E} (σ : gs_Mem) (v1 : Int)   : ∀ (n : Nat) (v2 : Int) (v3 : Int), gs_K E (gs_MC E yX7_sorted cX7_sorted 5 (some .int) 0 { frames := 1, cells := 0, slots := 0, locals := 21 }) (fun v : Int => (v, σ)) (f_X7_sorted_L10 σ v1 n v2 v3) 10 [(0, gr E 70), (1, gi v1), (2, gi v2), (3, gi v3)] [] σ := by
  intro n
  induction n with
  | zero => intro v2 v3; rw [f_X7_sorted_L10]; exact gk_none
  | succ n ih =>
    intro v2 v3; rw [f_X7_sorted_L10]
    refine gk_iload_n (pc := 10) 3 dX7_sorted_10 rfl ?_
    refine gk_bipush (pc := 11) dX7_sorted_11 (by decide +kernel) ?_
    refine gk_icmp_ge (tgt := 63) (pc := 13) dX7_sorted_13 (by decide) rfl (by decide +kernel) ?_ ?_
    · refine gk_bipush (pc := 63) dX7_sorted_63 (by decide +kernel) ?_
      exact gk_iret (pc := 65) rfl dX7_sorted_65
    · refine gk_iconst (pc := 16) dX7_sorted_16 ?_
      refine gk_istore (L' := [(4, gi 0), (0, gr E 70), (1, gi v1), (2, gi v2), (3, gi v3)]) (pc := 17) dX7_sorted_17 (Nat.le_of_ble_eq_true rfl) rfl ?_
      refine gk_sub (L' := [(0, gr E 70), (1, gi v1), (2, gi v2), (3, gi v3), (4, gi 0)]) [1, 2, 3, 4, 0] rfl ?_
      refine k_X7_sorted_L19 σ v1 v3 _ ?_ gs_fuel v2 0
      · intro w2
        refine gk_iinc (L' := [(3, gi (v3 + 1)), (0, gr E 70), (1, gi v1), (2, gi w2)]) (pc := 57) 3 dX7_sorted_57 rfl (Nat.le_of_ble_eq_true rfl) rfl ?_
        refine gk_goto (tgt := 10) (pc := 60) dX7_sorted_60 (by decide) ?_
        refine gk_sub (L' := [(0, gr E 70), (1, gi v1), (2, gi w2), (3, gi (v3 + 1))]) [1, 2, 3, 0] rfl ?_
        exact ih w2 (v3 + 1)
def f_X7_sorted (v1 : Int) (σ : gs_Mem) : Option (Int) :=
  if 0 ≤ (gn v1) then
    f_X7_sorted_L10 σ v1 gs_fuel 0 0
  else
    some (-1)
set_option maxRecDepth 100000 in
set_option maxHeartbeats 4000000 in
theorem c_X7_sorted {E : gs_E} (v1 : Int)  (σ : gs_Mem) : gs_C E yX7_sorted cX7_sorted 5 (some .int) 0 { frames := 1, cells := 0, slots := 0, locals := 21 } [gr E 70, gi v1] σ (f_X7_sorted v1 σ) (fun v : Int => (v, σ)) := by
  unfold f_X7_sorted
  refine gs_enter (L := [(0, gr E 70), (1, gi v1)]) (by decide) rfl rfl (Nat.le_of_ble_eq_true rfl) rfl ?_
  refine gk_iload_n (pc := 0) 1 dX7_sorted_0 rfl ?_
  refine gk_if_ge (tgt := 6) (pc := 1) dX7_sorted_1 (by decide) rfl ?_ ?_
  · refine gk_iconst (pc := 6) dX7_sorted_6 ?_
    refine gk_istore_n (L' := [(2, gi 0), (0, gr E 70), (1, gi v1)]) (pc := 7) dX7_sorted_7 (Nat.le_of_ble_eq_true rfl) rfl ?_
    refine gk_iconst (pc := 8) dX7_sorted_8 ?_
    refine gk_istore_n (L' := [(3, gi 0), (2, gi 0), (0, gr E 70), (1, gi v1)]) (pc := 9) dX7_sorted_9 (Nat.le_of_ble_eq_true rfl) rfl ?_
    refine gk_sub (L' := [(0, gr E 70), (1, gi v1), (2, gi 0), (3, gi 0)]) [2, 3, 1, 0] rfl ?_
    exact k_X7_sorted_L10 σ v1 gs_fuel 0 0
  · refine gk_iconst (pc := 4) dX7_sorted_4 ?_
    exact gk_iret (pc := 5) rfl dX7_sorted_5
def f_X7_see (v1 : Int) (v2 : Int) (σ : gs_Mem) : Option (Int × gs_Mem) :=
  if (gn v1) = (-1) then
    gs_chk 1 84 (
    some (0, (gs_st σ 71 1 0)))
  else
    (f_X7_isStation v1 σ).bind fun u1 =>
    if (gn u1) = 0 then
      some ((-1), σ)
    else
      (f_X7_in (gn v2) 0 19 σ).bind fun u2 =>
      if (gn u2) = 0 then
        some ((-2), σ)
      else
        gs_chk 1 84 (
        if (gn (σ 71 1)) = 5 then
          some ((-4), σ)
        else
          gs_chk (gn (42 + (2 * (σ 71 1)))) 84 (
          gs_chk (gn ((42 + (2 * (σ 71 1))) + 1)) 84 (
          gs_chk 1 84 (
          some (((σ 71 1) + 1), (gs_st (gs_st (gs_st σ 71 (gn (42 + (2 * (σ 71 1)))).toNat v1) 71 (gn ((42 + (2 * (σ 71 1))) + 1)).toNat v2) 71 1 ((σ 71 1) + 1)))))))
set_option maxRecDepth 100000 in
set_option maxHeartbeats 4000000 in
theorem c_X7_see {E : gs_E} (v1 : Int) (v2 : Int)  (σ : gs_Mem) : gs_C E yX7_see cX7_see 4 (some .int) 0 { frames := 2, cells := 0, slots := 0, locals := 46 } [gr E 70, gi v1, gi v2] σ (f_X7_see v1 v2 σ) (fun b : Int × gs_Mem => b) := by
  unfold f_X7_see
  refine gs_enter (L := [(0, gr E 70), (1, gi v1), (2, gi v2)]) (by decide) rfl rfl (Nat.le_of_ble_eq_true rfl) rfl ?_
  refine gk_iload_n (pc := 0) 1 dX7_see_0 rfl ?_
  refine gk_iconst (pc := 1) dX7_see_1 ?_
  refine gk_icmp_ne (tgt := 14) (pc := 2) dX7_see_2 (by decide) rfl (by decide +kernel) ?_ ?_
  · refine gk_aload_n (pc := 14) 0 dX7_see_14 rfl ?_
    refine gk_iload_n (pc := 15) 1 dX7_see_15 rfl ?_
    refine gk_callV_ir (As := [gi v1]) (pc := 16) (c_X7_isStation v1 σ) rfl mm_X7_isStation ww_843 clsX7 rfl cll_70 sh_70 (gs_fit_of (Nat.le_of_ble_eq_true rfl) (Nat.le_of_ble_eq_true rfl)) rfl rfl (Nat.le_of_ble_eq_true rfl) dX7_see_16 (fun u1 => ?_)
    refine gk_if_ne (tgt := 24) (pc := 19) dX7_see_19 (by decide) rfl ?_ ?_
    · refine gk_iload_n (pc := 24) 2 dX7_see_24 rfl ?_
      refine gk_i2l (pc := 25) dX7_see_25 ?_
      refine gk_lconst (x := 0) (pc := 26) dX7_see_26 (by decide +kernel) ?_
      refine gk_ldc2 (x := 19) (pc := 27) rfl dX7_see_27 ww_848 (by decide +kernel) ?_
      refine gk_callS_ir (As := [gl (gn v2), gl 0, gl 19]) (pc := 30) (c_X7_in (gn v2) 0 19 σ) rfl mm_X7_in ww_817 (gs_fit_of (Nat.le_of_ble_eq_true rfl) (Nat.le_of_ble_eq_true rfl)) rfl rfl (Nat.le_of_ble_eq_true rfl) dX7_see_30 (fun u2 => ?_)
      refine gk_if_ne (tgt := 39) (pc := 33) dX7_see_33 (by decide) rfl ?_ ?_
      · refine gk_aload_n (pc := 39) 0 dX7_see_39 rfl ?_
        refine gk_getR (q := 71) (pc := 40) rfl clsX7 cll_70 sh_70 0 (by decide) rfl ww_775 dX7_see_40 ?_
        refine gk_iconst (pc := 43) dX7_see_43 ?_
        refine gk_iald_c (pc := 44) cll_71 sh_71 (by decide +kernel) dX7_see_44 ?_
        refine gk_istore_n (L' := [(3, gi (σ 71 1)), (0, gr E 70), (1, gi v1), (2, gi v2)]) (pc := 45) dX7_see_45 (Nat.le_of_ble_eq_true rfl) rfl ?_
        refine gk_iload_n (pc := 46) 0 dX7_see_46 rfl ?_
        refine gk_iconst (pc := 47) dX7_see_47 ?_
        refine gk_icmp_ne (tgt := 54) (pc := 48) dX7_see_48 (by decide) rfl (by decide +kernel) ?_ ?_
        · refine gk_aload_n (pc := 54) 1 dX7_see_54 rfl ?_
          refine gk_getR (q := 71) (pc := 55) rfl clsX7 cll_70 sh_70 0 (by decide) rfl ww_775 dX7_see_55 ?_
          refine gk_bipush (pc := 58) dX7_see_58 (by decide +kernel) ?_
          refine gk_iconst (pc := 60) dX7_see_60 ?_
          refine gk_iload_n (pc := 61) 0 dX7_see_61 rfl ?_
          refine gk_imul (pc := 62) dX7_see_62 ?_
          refine gk_iadd (pc := 63) dX7_see_63 ?_
          refine gk_iload_n (pc := 64) 2 dX7_see_64 rfl ?_
          refine gk_iast_c (pc := 65) cll_71 sh_71 rfl dX7_see_65 ?_
          refine gk_aload_n (pc := 66) 1 dX7_see_66 rfl ?_
          refine gk_getR (q := 71) (pc := 67) rfl clsX7 cll_70 sh_70 0 (by decide) rfl ww_775 dX7_see_67 ?_
          refine gk_bipush (pc := 70) dX7_see_70 (by decide +kernel) ?_
          refine gk_iconst (pc := 72) dX7_see_72 ?_
          refine gk_iload_n (pc := 73) 0 dX7_see_73 rfl ?_
          refine gk_imul (pc := 74) dX7_see_74 ?_
          refine gk_iadd (pc := 75) dX7_see_75 ?_
          refine gk_iconst (pc := 76) dX7_see_76 ?_
          refine gk_iadd (pc := 77) dX7_see_77 ?_
          refine gk_iload_n (pc := 78) 3 dX7_see_78 rfl ?_
          refine gk_iast_c (pc := 79) cll_71 sh_71 rfl dX7_see_79 ?_
          refine gk_aload_n (pc := 80) 1 dX7_see_80 rfl ?_
          refine gk_getR (q := 71) (pc := 81) rfl clsX7 cll_70 sh_70 0 (by decide) rfl ww_775 dX7_see_81 ?_
          refine gk_iconst (pc := 84) dX7_see_84 ?_
          refine gk_iload_n (pc := 85) 0 dX7_see_85 rfl ?_
          refine gk_iconst (pc := 86) dX7_see_86 ?_
          refine gk_iadd (pc := 87) dX7_see_87 ?_
          refine gk_iast_c (pc := 88) cll_71 sh_71 (by decide +kernel) dX7_see_88 ?_
          refine gk_iload_n (pc := 89) 0 dX7_see_89 rfl ?_
          refine gk_iconst (pc := 90) dX7_see_90 ?_
          refine gk_iadd (pc := 91) dX7_see_91 ?_
          exact gk_iret (pc := 92) rfl dX7_see_92
        · refine gk_bipush (pc := 51) dX7_see_51 (by decide +kernel) ?_
          exact gk_iret (pc := 53) rfl dX7_see_53
      · refine gk_bipush (pc := 36) dX7_see_36 (by decide +kernel) ?_
        exact gk_iret (pc := 38) rfl dX7_see_38
    · refine gk_iconst (pc := 22) dX7_see_22 ?_
      exact gk_iret (pc := 23) rfl dX7_see_23
  · refine gk_aload_n (pc := 5) 0 dX7_see_5 rfl ?_
    refine gk_getR (q := 71) (pc := 6) rfl clsX7 cll_70 sh_70 0 (by decide) rfl ww_775 dX7_see_6 ?_
    refine gk_iconst (pc := 9) dX7_see_9 ?_
    refine gk_iconst (pc := 10) dX7_see_10 ?_
    refine gk_iast_c (pc := 11) cll_71 sh_71 (by decide +kernel) dX7_see_11 ?_
    refine gk_iconst (pc := 12) dX7_see_12 ?_
    exact gk_iret (pc := 13) rfl dX7_see_13
def f_X7_isSeen_L2 (σ : gs_Mem)  : Nat → Int → Option (Int)
  | 0, _ => none
  | n + 1, v1 =>
    gs_chk 1 84 (
    if (gn (σ 71 1)) ≤ (gn v1) then
      some 1
    else
      gs_chk (gn (42 + (2 * v1))) 84 (
      (f_X7_channelOf (σ 71 (gn (42 + (2 * v1))).toNat) σ).bind fun u1 =>
      gs_chk (gn ((42 + (2 * v1)) + 1)) 84 (
      if (gn u1) = (gn (σ 71 (gn ((42 + (2 * v1)) + 1)).toNat)) then
        f_X7_isSeen_L2 σ n (v1 + 1)
      else
        some 0)))
set_option maxRecDepth 100000 in
set_option maxHeartbeats 4000000 in
theorem k_X7_isSeen_L2 {E : gs_E} (σ : gs_Mem)    : ∀ (n : Nat) (v1 : Int), gs_K E (gs_MC E yX7_isSeen cX7_isSeen 2 (some .boolean) 0 { frames := 1, cells := 0, slots := 0, locals := 21 }) (fun v : Int => (v, σ)) (f_X7_isSeen_L2 σ n v1) 2 [(0, gr E 70), (1, gi v1)] [] σ := by
  intro n
  induction n with
  | zero => intro v1; rw [f_X7_isSeen_L2]; exact gk_none
  | succ n ih =>
    intro v1; rw [f_X7_isSeen_L2]
    refine gk_iload_n (pc := 2) 1 dX7_isSeen_2 rfl ?_
    refine gk_aload_n (pc := 3) 0 dX7_isSeen_3 rfl ?_
    refine gk_getR (q := 71) (pc := 4) rfl clsX7 cll_70 sh_70 0 (by decide) rfl ww_775 dX7_isSeen_4 ?_
    refine gk_iconst (pc := 7) dX7_isSeen_7 ?_
    refine gk_iald_c (pc := 8) cll_71 sh_71 (by decide +kernel) dX7_isSeen_8 ?_
    refine gk_icmp_ge (tgt := 51) (pc := 9) dX7_isSeen_9 (by decide) rfl rfl ?_ ?_
    · refine gk_iconst (pc := 51) dX7_isSeen_51 ?_
      exact gk_zret (pc := 52) (Or.inr (by decide +kernel)) rfl dX7_isSeen_52
    · refine gk_aload_n (pc := 12) 0 dX7_isSeen_12 rfl ?_
      refine gk_aload_n (pc := 13) 0 dX7_isSeen_13 rfl ?_
      refine gk_getR (q := 71) (pc := 14) rfl clsX7 cll_70 sh_70 0 (by decide) rfl ww_775 dX7_isSeen_14 ?_
      refine gk_bipush (pc := 17) dX7_isSeen_17 (by decide +kernel) ?_
      refine gk_iconst (pc := 19) dX7_isSeen_19 ?_
      refine gk_iload_n (pc := 20) 1 dX7_isSeen_20 rfl ?_
      refine gk_imul (pc := 21) dX7_isSeen_21 ?_
      refine gk_iadd (pc := 22) dX7_isSeen_22 ?_
      refine gk_iald_c (pc := 23) cll_71 sh_71 rfl dX7_isSeen_23 ?_
      refine gk_callV_ir (As := [gi (σ 71 (gn (42 + (2 * v1))).toNat)]) (pc := 24) (c_X7_channelOf (σ 71 (gn (42 + (2 * v1))).toNat) σ) rfl mm_X7_channelOf ww_853 clsX7 rfl cll_70 sh_70 (gs_fit_of (Nat.le_of_ble_eq_true rfl) (Nat.le_of_ble_eq_true rfl)) rfl rfl (Nat.le_of_ble_eq_true rfl) dX7_isSeen_24 (fun u1 => ?_)
      refine gk_aload_n (pc := 27) 0 dX7_isSeen_27 rfl ?_
      refine gk_getR (q := 71) (pc := 28) rfl clsX7 cll_70 sh_70 0 (by decide) rfl ww_775 dX7_isSeen_28 ?_
      refine gk_bipush (pc := 31) dX7_isSeen_31 (by decide +kernel) ?_
      refine gk_iconst (pc := 33) dX7_isSeen_33 ?_
      refine gk_iload_n (pc := 34) 1 dX7_isSeen_34 rfl ?_
      refine gk_imul (pc := 35) dX7_isSeen_35 ?_
      refine gk_iadd (pc := 36) dX7_isSeen_36 ?_
      refine gk_iconst (pc := 37) dX7_isSeen_37 ?_
      refine gk_iadd (pc := 38) dX7_isSeen_38 ?_
      refine gk_iald_c (pc := 39) cll_71 sh_71 rfl dX7_isSeen_39 ?_
      refine gk_icmp_eq (tgt := 45) (pc := 40) dX7_isSeen_40 (by decide) rfl rfl ?_ ?_
      · refine gk_iinc (L' := [(1, gi (v1 + 1)), (0, gr E 70)]) (pc := 45) 1 dX7_isSeen_45 rfl (Nat.le_of_ble_eq_true rfl) rfl ?_
        refine gk_goto (tgt := 2) (pc := 48) dX7_isSeen_48 (by decide) ?_
        refine gk_sub (L' := [(0, gr E 70), (1, gi (v1 + 1))]) [1, 0] rfl ?_
        exact ih (v1 + 1)
      · refine gk_iconst (pc := 43) dX7_isSeen_43 ?_
        exact gk_zret (pc := 44) (Or.inl (by decide +kernel)) rfl dX7_isSeen_44
def f_X7_isSeen  (σ : gs_Mem) : Option (Int) :=
  f_X7_isSeen_L2 σ gs_fuel 0
set_option maxRecDepth 100000 in
set_option maxHeartbeats 4000000 in
theorem c_X7_isSeen {E : gs_E}   (σ : gs_Mem) : gs_C E yX7_isSeen cX7_isSeen 2 (some .boolean) 0 { frames := 1, cells := 0, slots := 0, locals := 21 } [gr E 70] σ (f_X7_isSeen  σ) (fun v : Int => (v, σ)) := by
  unfold f_X7_isSeen
  refine gs_enter (L := [(0, gr E 70)]) (by decide) rfl rfl (Nat.le_of_ble_eq_true rfl) rfl ?_
  refine gk_iconst (pc := 0) dX7_isSeen_0 ?_
  refine gk_istore_n (L' := [(1, gi 0), (0, gr E 70)]) (pc := 1) dX7_isSeen_1 (Nat.le_of_ble_eq_true rfl) rfl ?_
  refine gk_sub (L' := [(0, gr E 70), (1, gi 0)]) [1, 0] rfl ?_
  exact k_X7_isSeen_L2 σ gs_fuel 0
def f_X7_fits_J84 (k45 : Int → Int → Int → gs_Mem → Option (Int × gs_Mem)) (k101 : Int → Int → gs_Mem → Option (Int × gs_Mem)) (v1 : Int) (v2 : Int) (v3 : Int) (v4 : Int) (v5 : Int) (σ : gs_Mem) : Option (Int × gs_Mem) :=
  (f_X7_copies 72 71 σ).bind fun b6 =>
  k45 v3 v4 (v5 + (-1)) b6.2
set_option maxRecDepth 100000 in
set_option maxHeartbeats 4000000 in
theorem k_X7_fits_J84 {E : gs_E} (k45 : Int → Int → Int → gs_Mem → Option (Int × gs_Mem)) (k101 : Int → Int → gs_Mem → Option (Int × gs_Mem))  (v1 : Int) (v2 : Int) (v3 : Int) (v4 : Int) (v5 : Int)  (hk45 : ∀ (w3 : Int) (w4 : Int) (w5 : Int) (σ : gs_Mem), gs_K E (gs_MC E yX7_fits cX7_fits 7 (some .int) 0 { frames := 7, cells := 0, slots := 0, locals := 164 }) (fun b : Int × gs_Mem => b) (k45 w3 w4 w5 σ) 45 [(0, gr E 70), (1, gi v1), (2, gi v2), (3, gi w3), (4, gi w4), (5, gi w5)] [] σ) (hk101 : ∀ (w3 : Int) (w4 : Int) (σ : gs_Mem), gs_K E (gs_MC E yX7_fits cX7_fits 7 (some .int) 0 { frames := 7, cells := 0, slots := 0, locals := 164 }) (fun b : Int × gs_Mem => b) (k101 w3 w4 σ) 101 [(2, gi v2), (3, gi w3), (4, gi w4)] [] σ) (σ : gs_Mem) : gs_K E (gs_MC E yX7_fits cX7_fits 7 (some .int) 0 { frames := 7, cells := 0, slots := 0, locals := 164 }) (fun b : Int × gs_Mem => b) (f_X7_fits_J84 k45 k101 v1 v2 v3 v4 v5 σ) 84 [(0, gr E 70), (1, gi v1), (2, gi v2), (3, gi v3), (4, gi v4), (5, gi v5)] [] σ := by
  unfold f_X7_fits_J84
  refine gk_aload_n (pc := 84) 0 dX7_fits_84 rfl ?_
  refine gk_getR (q := 72) (pc := 85) rfl clsX7 cll_70 sh_70 1 (by decide) rfl ww_776 dX7_fits_85 ?_
  refine gk_aload_n (pc := 88) 0 dX7_fits_88 rfl ?_
  refine gk_getR (q := 71) (pc := 89) rfl clsX7 cll_70 sh_70 0 (by decide) rfl ww_775 dX7_fits_89 ?_
  refine gk_callS_vw (As := [gr E 72, gr E 71]) (pc := 92) (c_X7_copies 72 71 isMa_72 isMa_71 σ) rfl mm_X7_copies ww_1002 (gs_fit_of (Nat.le_of_ble_eq_true rfl) (Nat.le_of_ble_eq_true rfl)) rfl rfl (Nat.le_of_ble_eq_true rfl) dX7_fits_92 (fun b6 => ?_)
  refine gk_iinc (L' := [(5, gi (v5 + (-1))), (0, gr E 70), (1, gi v1), (2, gi v2), (3, gi v3), (4, gi v4)]) (pc := 95) 5 dX7_fits_95 rfl (Nat.le_of_ble_eq_true rfl) rfl ?_
  refine gk_goto (tgt := 45) (pc := 98) dX7_fits_98 (by decide) ?_
  refine gk_sub (L' := [(0, gr E 70), (1, gi v1), (2, gi v2), (3, gi v3), (4, gi v4), (5, gi (v5 + (-1)))]) [1, 2, 3, 4, 5, 0] rfl ?_
  exact hk45 v3 v4 (v5 + (-1)) b6.2
def f_X7_fits_L45 (v1 : Int) (v2 : Int) (k101 : Int → Int → gs_Mem → Option (Int × gs_Mem)) : Nat → Int → Int → Int → gs_Mem → Option (Int × gs_Mem)
  | 0, _, _, _, _ => none
  | n + 1, v3, v4, v5, σ =>
    if (gn v5) < 1 then
      k101 v3 v4 σ
    else
      gs_chk (gn (36 + (2 * v1))) 84 (
      (f_X7_assigned (gs_st σ 71 (gn (36 + (2 * v1))).toNat v5)).bind fun b4 =>
      (f_X7_isSeen b4.2).bind fun u5 =>
      if (gn u5) = 0 then
        f_X7_fits_J84 (f_X7_fits_L45 v1 v2 k101 n) k101 v1 v2 v3 v4 v5 b4.2
      else
        f_X7_fits_J84 (f_X7_fits_L45 v1 v2 k101 n) k101 v1 v2 (v3 + 1) v5 v5 b4.2)
set_option maxRecDepth 100000 in
set_option maxHeartbeats 4000000 in
theorem k_X7_fits_L45 {E : gs_E} (v1 : Int) (v2 : Int) (k101 : Int → Int → gs_Mem → Option (Int × gs_Mem))  (hk101 : ∀ (w3 : Int) (w4 : Int) (σ : gs_Mem), gs_K E (gs_MC E yX7_fits cX7_fits 7 (some .int) 0 { frames := 7, cells := 0, slots := 0, locals := 164 }) (fun b : Int × gs_Mem => b) (k101 w3 w4 σ) 101 [(2, gi v2), (3, gi w3), (4, gi w4)] [] σ) : ∀ (n : Nat) (v3 : Int) (v4 : Int) (v5 : Int) (σ : gs_Mem), gs_K E (gs_MC E yX7_fits cX7_fits 7 (some .int) 0 { frames := 7, cells := 0, slots := 0, locals := 164 }) (fun b : Int × gs_Mem => b) (f_X7_fits_L45 v1 v2 k101 n v3 v4 v5 σ) 45 [(0, gr E 70), (1, gi v1), (2, gi v2), (3, gi v3), (4, gi v4), (5, gi v5)] [] σ := by
  intro n
  induction n with
  | zero => intro v3 v4 v5 σ; rw [f_X7_fits_L45]; exact gk_none
  | succ n ih =>
    intro v3 v4 v5 σ; rw [f_X7_fits_L45]
    refine gk_iload (pc := 45) 5 dX7_fits_45 rfl ?_
    refine gk_iconst (pc := 47) dX7_fits_47 ?_
    refine gk_icmp_lt (tgt := 101) (pc := 48) dX7_fits_48 (by decide) rfl (by decide +kernel) ?_ ?_
    · refine gk_sub (L' := [(2, gi v2), (3, gi v3), (4, gi v4)]) [2, 3, 4] rfl ?_
      exact hk101 v3 v4 σ
    · refine gk_aload_n (pc := 51) 0 dX7_fits_51 rfl ?_
      refine gk_getR (q := 71) (pc := 52) rfl clsX7 cll_70 sh_70 0 (by decide) rfl ww_775 dX7_fits_52 ?_
      refine gk_bipush (pc := 55) dX7_fits_55 (by decide +kernel) ?_
      refine gk_iconst (pc := 57) dX7_fits_57 ?_
      refine gk_iload_n (pc := 58) 1 dX7_fits_58 rfl ?_
      refine gk_imul (pc := 59) dX7_fits_59 ?_
      refine gk_iadd (pc := 60) dX7_fits_60 ?_
      refine gk_iload (pc := 61) 5 dX7_fits_61 rfl ?_
      refine gk_iast_c (pc := 63) cll_71 sh_71 rfl dX7_fits_63 ?_
      refine gk_aload_n (pc := 64) 0 dX7_fits_64 rfl ?_
      refine gk_callV_iw (As := []) (pc := 65) (c_X7_assigned (gs_st σ 71 (gn (36 + (2 * v1))).toNat v5)) rfl mm_X7_assigned ww_948 clsX7 rfl cll_70 sh_70 (gs_fit_of (Nat.le_of_ble_eq_true rfl) (Nat.le_of_ble_eq_true rfl)) rfl rfl (Nat.le_of_ble_eq_true rfl) dX7_fits_65 (fun b4 => ?_)
      refine gk_istore (L' := [(6, gi b4.1), (0, gr E 70), (1, gi v1), (2, gi v2), (3, gi v3), (4, gi v4), (5, gi v5)]) (pc := 68) dX7_fits_68 (Nat.le_of_ble_eq_true rfl) rfl ?_
      refine gk_aload_n (pc := 70) 1 dX7_fits_70 rfl ?_
      refine gk_callV_ir (As := []) (pc := 71) (c_X7_isSeen b4.2) rfl mm_X7_isSeen ww_1033 clsX7 rfl cll_70 sh_70 (gs_fit_of (Nat.le_of_ble_eq_true rfl) (Nat.le_of_ble_eq_true rfl)) rfl rfl (Nat.le_of_ble_eq_true rfl) dX7_fits_71 (fun u5 => ?_)
      refine gk_if_eq (tgt := 84) (pc := 74) dX7_fits_74 (by decide) rfl ?_ ?_
      · refine gk_sub (L' := [(0, gr E 70), (1, gi v1), (2, gi v2), (3, gi v3), (4, gi v4), (5, gi v5)]) [1, 2, 3, 4, 5, 6] rfl ?_
        exact k_X7_fits_J84 (f_X7_fits_L45 v1 v2 k101 n) k101 v1 v2 v3 v4 v5 ih hk101 b4.2
      · refine gk_iinc (L' := [(3, gi (v3 + 1)), (6, gi b4.1), (0, gr E 70), (1, gi v1), (2, gi v2), (4, gi v4), (5, gi v5)]) (pc := 77) 4 dX7_fits_77 rfl (Nat.le_of_ble_eq_true rfl) rfl ?_
        refine gk_iload (pc := 80) 6 dX7_fits_80 rfl ?_
        refine gk_istore (L' := [(4, gi v5), (3, gi (v3 + 1)), (6, gi b4.1), (0, gr E 70), (1, gi v1), (2, gi v2), (5, gi v5)]) (pc := 82) dX7_fits_82 (Nat.le_of_ble_eq_true rfl) rfl ?_
        refine gk_sub (L' := [(0, gr E 70), (1, gi v1), (2, gi v2), (3, gi (v3 + 1)), (4, gi v5), (5, gi v5)]) [3, 4, 5, 1, 0, 6] rfl ?_
        exact k_X7_fits_J84 (f_X7_fits_L45 v1 v2 k101 n) k101 v1 v2 (v3 + 1) v5 v5 ih hk101 b4.2
def f_X7_fits (v1 : Int) (v2 : Int) (σ : gs_Mem) : Option (Int × gs_Mem) :=
  (f_X7_in (gn v1) 0 2 σ).bind fun u1 =>
  if (gn u1) = 0 then
    some ((-1), σ)
  else
    (f_X7_in (gn v2) 0 1 σ).bind fun u2 =>
    if (gn u2) = 0 then
      some ((-1), σ)
    else
      (f_X7_copies 71 72 σ).bind fun b3 =>
      f_X7_fits_L45 v1 v2 (fun w3 w4 σ7 =>
        if (gn v2) = 0 then
          some (w3, σ7)
        else
          some (w4, σ7)) gs_fuel 0 (-5) 40 b3.2
set_option maxRecDepth 100000 in
set_option maxHeartbeats 4000000 in
theorem c_X7_fits {E : gs_E} (v1 : Int) (v2 : Int)  (σ : gs_Mem) : gs_C E yX7_fits cX7_fits 7 (some .int) 0 { frames := 7, cells := 0, slots := 0, locals := 164 } [gr E 70, gi v1, gi v2] σ (f_X7_fits v1 v2 σ) (fun b : Int × gs_Mem => b) := by
  unfold f_X7_fits
  refine gs_enter (L := [(0, gr E 70), (1, gi v1), (2, gi v2)]) (by decide) rfl rfl (Nat.le_of_ble_eq_true rfl) rfl ?_
  refine gk_iload_n (pc := 0) 1 dX7_fits_0 rfl ?_
  refine gk_i2l (pc := 1) dX7_fits_1 ?_
  refine gk_lconst (x := 0) (pc := 2) dX7_fits_2 (by decide +kernel) ?_
  refine gk_ldc2 (x := 2) (pc := 3) rfl dX7_fits_3 ww_836 (by decide +kernel) ?_
  refine gk_callS_ir (As := [gl (gn v1), gl 0, gl 2]) (pc := 6) (c_X7_in (gn v1) 0 2 σ) rfl mm_X7_in ww_817 (gs_fit_of (Nat.le_of_ble_eq_true rfl) (Nat.le_of_ble_eq_true rfl)) rfl rfl (Nat.le_of_ble_eq_true rfl) dX7_fits_6 (fun u1 => ?_)
  refine gk_if_eq (tgt := 22) (pc := 9) dX7_fits_9 (by decide) rfl ?_ ?_
  · refine gk_iconst (pc := 22) dX7_fits_22 ?_
    exact gk_iret (pc := 23) rfl dX7_fits_23
  · refine gk_iload_n (pc := 12) 2 dX7_fits_12 rfl ?_
    refine gk_i2l (pc := 13) dX7_fits_13 ?_
    refine gk_lconst (x := 0) (pc := 14) dX7_fits_14 (by decide +kernel) ?_
    refine gk_lconst (x := 1) (pc := 15) dX7_fits_15 (by decide +kernel) ?_
    refine gk_callS_ir (As := [gl (gn v2), gl 0, gl 1]) (pc := 16) (c_X7_in (gn v2) 0 1 σ) rfl mm_X7_in ww_817 (gs_fit_of (Nat.le_of_ble_eq_true rfl) (Nat.le_of_ble_eq_true rfl)) rfl rfl (Nat.le_of_ble_eq_true rfl) dX7_fits_16 (fun u2 => ?_)
    refine gk_if_ne (tgt := 24) (pc := 19) dX7_fits_19 (by decide) rfl ?_ ?_
    · refine gk_iconst (pc := 24) dX7_fits_24 ?_
      refine gk_istore_n (L' := [(3, gi 0), (0, gr E 70), (1, gi v1), (2, gi v2)]) (pc := 25) dX7_fits_25 (Nat.le_of_ble_eq_true rfl) rfl ?_
      refine gk_bipush (pc := 26) dX7_fits_26 (by decide +kernel) ?_
      refine gk_istore (L' := [(4, gi (-5)), (3, gi 0), (0, gr E 70), (1, gi v1), (2, gi v2)]) (pc := 28) dX7_fits_28 (Nat.le_of_ble_eq_true rfl) rfl ?_
      refine gk_aload_n (pc := 30) 2 dX7_fits_30 rfl ?_
      refine gk_getR (q := 71) (pc := 31) rfl clsX7 cll_70 sh_70 0 (by decide) rfl ww_775 dX7_fits_31 ?_
      refine gk_aload_n (pc := 34) 2 dX7_fits_34 rfl ?_
      refine gk_getR (q := 72) (pc := 35) rfl clsX7 cll_70 sh_70 1 (by decide) rfl ww_776 dX7_fits_35 ?_
      refine gk_callS_vw (As := [gr E 71, gr E 72]) (pc := 38) (c_X7_copies 71 72 isMa_71 isMa_72 σ) rfl mm_X7_copies ww_1002 (gs_fit_of (Nat.le_of_ble_eq_true rfl) (Nat.le_of_ble_eq_true rfl)) rfl rfl (Nat.le_of_ble_eq_true rfl) dX7_fits_38 (fun b3 => ?_)
      refine gk_bipush (pc := 41) dX7_fits_41 (by decide +kernel) ?_
      refine gk_istore (L' := [(5, gi 40), (4, gi (-5)), (3, gi 0), (0, gr E 70), (1, gi v1), (2, gi v2)]) (pc := 43) dX7_fits_43 (Nat.le_of_ble_eq_true rfl) rfl ?_
      refine gk_sub (L' := [(0, gr E 70), (1, gi v1), (2, gi v2), (3, gi 0), (4, gi (-5)), (5, gi 40)]) [3, 4, 5, 2, 1, 0] rfl ?_
      refine k_X7_fits_L45 v1 v2 _ ?_ gs_fuel 0 (-5) 40 b3.2
      · intro w3 w4 σ7
        refine gk_iload_n (pc := 101) 0 dX7_fits_101 rfl ?_
        refine gk_if_ne (tgt := 109) (pc := 102) dX7_fits_102 (by decide) rfl ?_ ?_
        · refine gk_iload (pc := 109) 2 dX7_fits_109 rfl ?_
          exact gk_iret (pc := 111) rfl dX7_fits_111
        · refine gk_iload_n (pc := 105) 1 dX7_fits_105 rfl ?_
          refine gk_goto (tgt := 111) (pc := 106) dX7_fits_106 (by decide) ?_
          exact gk_iret (pc := 111) rfl dX7_fits_111
    · refine gk_iconst (pc := 22) dX7_fits_22 ?_
      exact gk_iret (pc := 23) rfl dX7_fits_23
def f_X7_lowest_L6 (σ : gs_Mem) (v0 : Int) (v2 : Int) (v4 : Int) (k31 : Int → Option (Int)) : Nat → Int → Int → Option (Int)
  | 0, _, _ => none
  | n + 1, v5, v7 =>
    if (gn (gcmp v7 0)) = 0 then
      k31 v5
    else
      gs_chk0 (gm v7) (
      f_X7_lowest_L6 σ v0 v2 v4 k31 n v7 (glrem v5 v7))
set_option maxRecDepth 100000 in
set_option maxHeartbeats 4000000 in
theorem k_X7_lowest_L6 {E : gs_E} (σ : gs_Mem) (v0 : Int) (v2 : Int) (v4 : Int) (k31 : Int → Option (Int))  (hk31 : ∀ (w5 : Int), gs_K E (gs_MC E yX7_lowest cX7_lowest 11 (some .long) 1 { frames := 0, cells := 0, slots := 0, locals := 0 }) (fun v : Int => (v, σ)) (k31 w5) 31 [(0, gl v0), (2, gl v2), (4, gi v4), (5, gl w5)] [] σ) : ∀ (n : Nat) (v5 : Int) (v7 : Int), gs_K E (gs_MC E yX7_lowest cX7_lowest 11 (some .long) 1 { frames := 0, cells := 0, slots := 0, locals := 0 }) (fun v : Int => (v, σ)) (f_X7_lowest_L6 σ v0 v2 v4 k31 n v5 v7) 6 [(0, gl v0), (2, gl v2), (4, gi v4), (5, gl v5), (7, gl v7)] [] σ := by
  intro n
  induction n with
  | zero => intro v5 v7; rw [f_X7_lowest_L6]; exact gk_none
  | succ n ih =>
    intro v5 v7; rw [f_X7_lowest_L6]
    refine gk_lload (pc := 6) 4 dX7_lowest_6 rfl ?_
    refine gk_lconst (x := 0) (pc := 8) dX7_lowest_8 (by decide +kernel) ?_
    refine gk_lcmp (pc := 9) dX7_lowest_9 ?_
    refine gk_if_eq (tgt := 31) (pc := 10) dX7_lowest_10 (by decide) rfl ?_ ?_
    · refine gk_sub (L' := [(0, gl v0), (2, gl v2), (4, gi v4), (5, gl v5)]) [0, 1, 2, 3] rfl ?_
      exact hk31 v5
    · refine gk_lload (pc := 13) 3 dX7_lowest_13 rfl ?_
      refine gk_lload (pc := 15) 4 dX7_lowest_15 rfl ?_
      refine gk_lrem_g (pc := 17) dX7_lowest_17 rfl ?_
      refine gk_lstore (L' := [(9, gl (glrem v5 v7)), (0, gl v0), (2, gl v2), (4, gi v4), (5, gl v5), (7, gl v7)]) (pc := 18) dX7_lowest_18 (Nat.le_of_ble_eq_true rfl) rfl ?_
      refine gk_lload (pc := 20) 5 dX7_lowest_20 rfl ?_
      refine gk_lstore (L' := [(5, gl v7), (9, gl (glrem v5 v7)), (0, gl v0), (2, gl v2), (4, gi v4), (7, gl v7)]) (pc := 22) dX7_lowest_22 (Nat.le_of_ble_eq_true rfl) rfl ?_
      refine gk_lload (pc := 24) 1 dX7_lowest_24 rfl ?_
      refine gk_lstore (L' := [(7, gl (glrem v5 v7)), (5, gl v7), (9, gl (glrem v5 v7)), (0, gl v0), (2, gl v2), (4, gi v4)]) (pc := 26) dX7_lowest_26 (Nat.le_of_ble_eq_true rfl) rfl ?_
      refine gk_goto (tgt := 6) (pc := 28) dX7_lowest_28 (by decide) ?_
      refine gk_sub (L' := [(0, gl v0), (2, gl v2), (4, gi v4), (5, gl v7), (7, gl (glrem v5 v7))]) [3, 4, 5, 1, 0] rfl ?_
      exact ih v7 (glrem v5 v7)
def f_X7_lowest_J41 (σ : gs_Mem) (v5 : Int) (t0 : Int) : Option (Int) :=
  gs_chk0 (gm v5) (
  some (gldiv t0 v5))
set_option maxRecDepth 100000 in
set_option maxHeartbeats 4000000 in
theorem k_X7_lowest_J41 {E : gs_E} (σ : gs_Mem)  (v5 : Int) (t0 : Int)   : gs_K E (gs_MC E yX7_lowest cX7_lowest 11 (some .long) 1 { frames := 0, cells := 0, slots := 0, locals := 0 }) (fun v : Int => (v, σ)) (f_X7_lowest_J41 σ v5 t0) 41 [(5, gl v5)] [gl t0] σ := by
  unfold f_X7_lowest_J41
  refine gk_lload (pc := 41) 0 dX7_lowest_41 rfl ?_
  refine gk_ldiv_g (pc := 43) dX7_lowest_43 rfl ?_
  exact gk_lret (pc := 44) rfl dX7_lowest_44
def f_X7_lowest (v0 : Int) (v2 : Int) (v4 : Int) (σ : gs_Mem) : Option (Int) :=
  f_X7_lowest_L6 σ v0 v2 v4 (fun w5 =>
    if (gn v4) = 0 then
      f_X7_lowest_J41 σ w5 v0
    else
      f_X7_lowest_J41 σ w5 v2) gs_fuel v0 v2
set_option maxRecDepth 100000 in
set_option maxHeartbeats 4000000 in
theorem c_X7_lowest {E : gs_E} (v0 : Int) (v2 : Int) (v4 : Int)  (σ : gs_Mem) : gs_C E yX7_lowest cX7_lowest 11 (some .long) 1 { frames := 0, cells := 0, slots := 0, locals := 0 } [gl v0, gl v2, gi v4] σ (f_X7_lowest v0 v2 v4 σ) (fun v : Int => (v, σ)) := by
  unfold f_X7_lowest
  refine gs_enter (L := [(0, gl v0), (2, gl v2), (4, gi v4)]) (by decide) rfl rfl (Nat.le_of_ble_eq_true rfl) rfl ?_
  refine gk_lload_n (pc := 0) 0 dX7_lowest_0 rfl ?_
  refine gk_lstore (L' := [(5, gl v0), (0, gl v0), (2, gl v2), (4, gi v4)]) (pc := 1) dX7_lowest_1 (Nat.le_of_ble_eq_true rfl) rfl ?_
  refine gk_lload_n (pc := 3) 2 dX7_lowest_3 rfl ?_
  refine gk_lstore (L' := [(7, gl v2), (5, gl v0), (0, gl v0), (2, gl v2), (4, gi v4)]) (pc := 4) dX7_lowest_4 (Nat.le_of_ble_eq_true rfl) rfl ?_
  refine gk_sub (L' := [(0, gl v0), (2, gl v2), (4, gi v4), (5, gl v0), (7, gl v2)]) [2, 3, 4, 1, 0] rfl ?_
  refine k_X7_lowest_L6 σ v0 v2 v4 _ ?_ gs_fuel v0 v2
  · intro w5
    refine gk_iload (pc := 31) 2 dX7_lowest_31 rfl ?_
    refine gk_if_ne (tgt := 40) (pc := 33) dX7_lowest_33 (by decide) rfl ?_ ?_
    · refine gk_lload_n (pc := 40) 1 dX7_lowest_40 rfl ?_
      refine gk_sub (L' := [(5, gl w5)]) [3] rfl ?_
      exact k_X7_lowest_J41 σ w5 v2
    · refine gk_lload_n (pc := 36) 0 dX7_lowest_36 rfl ?_
      refine gk_goto (tgt := 41) (pc := 37) dX7_lowest_37 (by decide) ?_
      refine gk_sub (L' := [(5, gl w5)]) [3] rfl ?_
      exact k_X7_lowest_J41 σ w5 v0
def f_X7_odds_J85 (k38 : Int → Int → gs_Mem → Option (Int × gs_Mem)) (k104 : Int → gs_Mem → Option (Int × gs_Mem)) (v1 : Int) (v2 : Int) (v5 : Int) (t0 : Int) (t1 : Int) (σ : gs_Mem) : Option (Int × gs_Mem) :=
  (f_X7_copies 72 71 σ).bind fun b6 =>
  k38 (t1 + t0) (v5 + 1) b6.2
set_option maxRecDepth 100000 in
set_option maxHeartbeats 4000000 in
theorem k_X7_odds_J85 {E : gs_E} (k38 : Int → Int → gs_Mem → Option (Int × gs_Mem)) (k104 : Int → gs_Mem → Option (Int × gs_Mem))  (v1 : Int) (v2 : Int) (v5 : Int) (t0 : Int) (t1 : Int)  (hk38 : ∀ (w3 : Int) (w5 : Int) (σ : gs_Mem), gs_K E (gs_MC E yX7_odds cX7_odds 6 (some .long) 1 { frames := 7, cells := 0, slots := 0, locals := 164 }) (fun b : Int × gs_Mem => b) (k38 w3 w5 σ) 38 [(0, gr E 70), (1, gi v1), (2, gi v2), (3, gl w3), (5, gi w5)] [] σ) (hk104 : ∀ (w3 : Int) (σ : gs_Mem), gs_K E (gs_MC E yX7_odds cX7_odds 6 (some .long) 1 { frames := 7, cells := 0, slots := 0, locals := 164 }) (fun b : Int × gs_Mem => b) (k104 w3 σ) 104 [(2, gi v2), (3, gl w3)] [] σ) (σ : gs_Mem) : gs_K E (gs_MC E yX7_odds cX7_odds 6 (some .long) 1 { frames := 7, cells := 0, slots := 0, locals := 164 }) (fun b : Int × gs_Mem => b) (f_X7_odds_J85 k38 k104 v1 v2 v5 t0 t1 σ) 85 [(0, gr E 70), (1, gi v1), (2, gi v2), (5, gi v5)] [gl t0, gl t1] σ := by
  unfold f_X7_odds_J85
  refine gk_ladd (pc := 85) dX7_odds_85 ?_
  refine gk_lstore_n (L' := [(3, gl (t1 + t0)), (0, gr E 70), (1, gi v1), (2, gi v2), (5, gi v5)]) (pc := 86) dX7_odds_86 (Nat.le_of_ble_eq_true rfl) rfl ?_
  refine gk_aload_n (pc := 87) 1 dX7_odds_87 rfl ?_
  refine gk_getR (q := 72) (pc := 88) rfl clsX7 cll_70 sh_70 1 (by decide) rfl ww_776 dX7_odds_88 ?_
  refine gk_aload_n (pc := 91) 1 dX7_odds_91 rfl ?_
  refine gk_getR (q := 71) (pc := 92) rfl clsX7 cll_70 sh_70 0 (by decide) rfl ww_775 dX7_odds_92 ?_
  refine gk_callS_vw (As := [gr E 72, gr E 71]) (pc := 95) (c_X7_copies 72 71 isMa_72 isMa_71 σ) rfl mm_X7_copies ww_1002 (gs_fit_of (Nat.le_of_ble_eq_true rfl) (Nat.le_of_ble_eq_true rfl)) rfl rfl (Nat.le_of_ble_eq_true rfl) dX7_odds_95 (fun b6 => ?_)
  refine gk_iinc (L' := [(5, gi (v5 + 1)), (3, gl (t1 + t0)), (0, gr E 70), (1, gi v1), (2, gi v2)]) (pc := 98) 4 dX7_odds_98 rfl (Nat.le_of_ble_eq_true rfl) rfl ?_
  refine gk_goto (tgt := 38) (pc := 101) dX7_odds_101 (by decide) ?_
  refine gk_sub (L' := [(0, gr E 70), (1, gi v1), (2, gi v2), (3, gl (t1 + t0)), (5, gi (v5 + 1))]) [2, 3, 4, 1, 0] rfl ?_
  exact hk38 (t1 + t0) (v5 + 1) b6.2
def f_X7_odds_J84 (k38 : Int → Int → gs_Mem → Option (Int × gs_Mem)) (k104 : Int → gs_Mem → Option (Int × gs_Mem)) (v1 : Int) (v2 : Int) (v5 : Int) (t0 : Int) (σ : gs_Mem) : Option (Int × gs_Mem) :=
  f_X7_odds_J85 k38 k104 v1 v2 v5 0 t0 σ
set_option maxRecDepth 100000 in
set_option maxHeartbeats 4000000 in
theorem k_X7_odds_J84 {E : gs_E} (k38 : Int → Int → gs_Mem → Option (Int × gs_Mem)) (k104 : Int → gs_Mem → Option (Int × gs_Mem))  (v1 : Int) (v2 : Int) (v5 : Int) (t0 : Int)  (hk38 : ∀ (w3 : Int) (w5 : Int) (σ : gs_Mem), gs_K E (gs_MC E yX7_odds cX7_odds 6 (some .long) 1 { frames := 7, cells := 0, slots := 0, locals := 164 }) (fun b : Int × gs_Mem => b) (k38 w3 w5 σ) 38 [(0, gr E 70), (1, gi v1), (2, gi v2), (3, gl w3), (5, gi w5)] [] σ) (hk104 : ∀ (w3 : Int) (σ : gs_Mem), gs_K E (gs_MC E yX7_odds cX7_odds 6 (some .long) 1 { frames := 7, cells := 0, slots := 0, locals := 164 }) (fun b : Int × gs_Mem => b) (k104 w3 σ) 104 [(2, gi v2), (3, gl w3)] [] σ) (σ : gs_Mem) : gs_K E (gs_MC E yX7_odds cX7_odds 6 (some .long) 1 { frames := 7, cells := 0, slots := 0, locals := 164 }) (fun b : Int × gs_Mem => b) (f_X7_odds_J84 k38 k104 v1 v2 v5 t0 σ) 84 [(0, gr E 70), (1, gi v1), (2, gi v2), (5, gi v5)] [gl t0] σ := by
  unfold f_X7_odds_J84
  refine gk_lconst (x := 0) (pc := 84) dX7_odds_84 (by decide +kernel) ?_
  exact k_X7_odds_J85 k38 k104 v1 v2 v5 0 t0 hk38 hk104 σ
def f_X7_odds_L38 (v1 : Int) (v2 : Int) (k104 : Int → gs_Mem → Option (Int × gs_Mem)) : Nat → Int → Int → gs_Mem → Option (Int × gs_Mem)
  | 0, _, _, _ => none
  | n + 1, v3, v5, σ =>
    if 10 ≤ (gn v5) then
      k104 v3 σ
    else
      (f_X7_has v1 v5 σ).bind fun b4 =>
      gs_chk (gn ((4 + (4 * v1)) + 3)) 84 (
      (f_X7_assigned (gs_st b4.2 71 (gn ((4 + (4 * v1)) + 3)).toNat 1)).bind fun b5 =>
      if (gn b5.1) = 0 then
        (f_X7_clashes b5.2).bind fun u7 =>
        if (gn u7) = 0 then
          f_X7_odds_J85 (f_X7_odds_L38 v1 v2 k104 n) k104 v1 v2 v5 1 v3 b5.2
        else
          f_X7_odds_J84 (f_X7_odds_L38 v1 v2 k104 n) k104 v1 v2 v5 v3 b5.2
      else
        f_X7_odds_J84 (f_X7_odds_L38 v1 v2 k104 n) k104 v1 v2 v5 v3 b5.2)
set_option maxRecDepth 100000 in
set_option maxHeartbeats 4000000 in
theorem k_X7_odds_L38 {E : gs_E} (v1 : Int) (v2 : Int) (k104 : Int → gs_Mem → Option (Int × gs_Mem))  (hk104 : ∀ (w3 : Int) (σ : gs_Mem), gs_K E (gs_MC E yX7_odds cX7_odds 6 (some .long) 1 { frames := 7, cells := 0, slots := 0, locals := 164 }) (fun b : Int × gs_Mem => b) (k104 w3 σ) 104 [(2, gi v2), (3, gl w3)] [] σ) : ∀ (n : Nat) (v3 : Int) (v5 : Int) (σ : gs_Mem), gs_K E (gs_MC E yX7_odds cX7_odds 6 (some .long) 1 { frames := 7, cells := 0, slots := 0, locals := 164 }) (fun b : Int × gs_Mem => b) (f_X7_odds_L38 v1 v2 k104 n v3 v5 σ) 38 [(0, gr E 70), (1, gi v1), (2, gi v2), (3, gl v3), (5, gi v5)] [] σ := by
  intro n
  induction n with
  | zero => intro v3 v5 σ; rw [f_X7_odds_L38]; exact gk_none
  | succ n ih =>
    intro v3 v5 σ; rw [f_X7_odds_L38]
    refine gk_iload (pc := 38) 4 dX7_odds_38 rfl ?_
    refine gk_bipush (pc := 40) dX7_odds_40 (by decide +kernel) ?_
    refine gk_icmp_ge (tgt := 104) (pc := 42) dX7_odds_42 (by decide) rfl (by decide +kernel) ?_ ?_
    · refine gk_sub (L' := [(2, gi v2), (3, gl v3)]) [2, 3] rfl ?_
      exact hk104 v3 σ
    · refine gk_aload_n (pc := 45) 0 dX7_odds_45 rfl ?_
      refine gk_iload_n (pc := 46) 1 dX7_odds_46 rfl ?_
      refine gk_iload (pc := 47) 4 dX7_odds_47 rfl ?_
      refine gk_callV_vw (As := [gi v1, gi v5]) (pc := 49) (c_X7_has v1 v5 σ) rfl mm_X7_has ww_857 clsX7 rfl cll_70 sh_70 (gs_fit_of (Nat.le_of_ble_eq_true rfl) (Nat.le_of_ble_eq_true rfl)) rfl rfl (Nat.le_of_ble_eq_true rfl) dX7_odds_49 (fun b4 => ?_)
      refine gk_aload_n (pc := 52) 0 dX7_odds_52 rfl ?_
      refine gk_getR (q := 71) (pc := 53) rfl clsX7 cll_70 sh_70 0 (by decide) rfl ww_775 dX7_odds_53 ?_
      refine gk_iconst (pc := 56) dX7_odds_56 ?_
      refine gk_iconst (pc := 57) dX7_odds_57 ?_
      refine gk_iload_n (pc := 58) 1 dX7_odds_58 rfl ?_
      refine gk_imul (pc := 59) dX7_odds_59 ?_
      refine gk_iadd (pc := 60) dX7_odds_60 ?_
      refine gk_iconst (pc := 61) dX7_odds_61 ?_
      refine gk_iadd (pc := 62) dX7_odds_62 ?_
      refine gk_iconst (pc := 63) dX7_odds_63 ?_
      refine gk_iast_c (pc := 64) cll_71 sh_71 rfl dX7_odds_64 ?_
      refine gk_lload_n (pc := 65) 3 dX7_odds_65 rfl ?_
      refine gk_aload_n (pc := 66) 0 dX7_odds_66 rfl ?_
      refine gk_callV_iw (As := []) (pc := 67) (c_X7_assigned (gs_st b4.2 71 (gn ((4 + (4 * v1)) + 3)).toNat 1)) rfl mm_X7_assigned ww_948 clsX7 rfl cll_70 sh_70 (gs_fit_of (Nat.le_of_ble_eq_true rfl) (Nat.le_of_ble_eq_true rfl)) rfl rfl (Nat.le_of_ble_eq_true rfl) dX7_odds_67 (fun b5 => ?_)
      refine gk_if_ne (tgt := 84) (pc := 70) dX7_odds_70 (by decide) rfl ?_ ?_
      · refine gk_sub (L' := [(0, gr E 70), (1, gi v1), (2, gi v2), (5, gi v5)]) [0, 1, 2, 4] rfl ?_
        exact k_X7_odds_J84 (f_X7_odds_L38 v1 v2 k104 n) k104 v1 v2 v5 v3 ih hk104 b5.2
      · refine gk_aload_n (pc := 73) 0 dX7_odds_73 rfl ?_
        refine gk_callV_ir (As := []) (pc := 74) (c_X7_clashes b5.2) rfl mm_X7_clashes ww_965 clsX7 rfl cll_70 sh_70 (gs_fit_of (Nat.le_of_ble_eq_true rfl) (Nat.le_of_ble_eq_true rfl)) rfl rfl (Nat.le_of_ble_eq_true rfl) dX7_odds_74 (fun u7 => ?_)
        refine gk_if_ne (tgt := 84) (pc := 77) dX7_odds_77 (by decide) rfl ?_ ?_
        · refine gk_sub (L' := [(0, gr E 70), (1, gi v1), (2, gi v2), (5, gi v5)]) [0, 1, 2, 4] rfl ?_
          exact k_X7_odds_J84 (f_X7_odds_L38 v1 v2 k104 n) k104 v1 v2 v5 v3 ih hk104 b5.2
        · refine gk_lconst (x := 1) (pc := 80) dX7_odds_80 (by decide +kernel) ?_
          refine gk_goto (tgt := 85) (pc := 81) dX7_odds_81 (by decide) ?_
          refine gk_sub (L' := [(0, gr E 70), (1, gi v1), (2, gi v2), (5, gi v5)]) [0, 1, 2, 4] rfl ?_
          exact k_X7_odds_J85 (f_X7_odds_L38 v1 v2 k104 n) k104 v1 v2 v5 1 v3 ih hk104 b5.2
def f_X7_odds (v1 : Int) (v2 : Int) (σ : gs_Mem) : Option (Int × gs_Mem) :=
  (f_X7_isStation v1 σ).bind fun u1 =>
  if (gn u1) = 0 then
    some ((-9223372036854775808), σ)
  else
    (f_X7_in (gn v2) 0 1 σ).bind fun u2 =>
    if (gn u2) = 0 then
      some ((-9223372036854775808), σ)
    else
      (f_X7_copies 71 72 σ).bind fun b3 =>
      f_X7_odds_L38 v1 v2 (fun w3 σ8 =>
        (f_X7_lowest w3 10 v2 σ8).bind fun u9 =>
        some (u9, σ8)) gs_fuel 0 0 b3.2
set_option maxRecDepth 100000 in
set_option maxHeartbeats 4000000 in
theorem c_X7_odds {E : gs_E} (v1 : Int) (v2 : Int)  (σ : gs_Mem) : gs_C E yX7_odds cX7_odds 6 (some .long) 1 { frames := 7, cells := 0, slots := 0, locals := 164 } [gr E 70, gi v1, gi v2] σ (f_X7_odds v1 v2 σ) (fun b : Int × gs_Mem => b) := by
  unfold f_X7_odds
  refine gs_enter (L := [(0, gr E 70), (1, gi v1), (2, gi v2)]) (by decide) rfl rfl (Nat.le_of_ble_eq_true rfl) rfl ?_
  refine gk_aload_n (pc := 0) 0 dX7_odds_0 rfl ?_
  refine gk_iload_n (pc := 1) 1 dX7_odds_1 rfl ?_
  refine gk_callV_ir (As := [gi v1]) (pc := 2) (c_X7_isStation v1 σ) rfl mm_X7_isStation ww_843 clsX7 rfl cll_70 sh_70 (gs_fit_of (Nat.le_of_ble_eq_true rfl) (Nat.le_of_ble_eq_true rfl)) rfl rfl (Nat.le_of_ble_eq_true rfl) dX7_odds_2 (fun u1 => ?_)
  refine gk_if_eq (tgt := 18) (pc := 5) dX7_odds_5 (by decide) rfl ?_ ?_
  · refine gk_ldc2 (x := -9223372036854775808) (pc := 18) rfl dX7_odds_18 ww_1041 (by decide +kernel) ?_
    exact gk_lret (pc := 21) rfl dX7_odds_21
  · refine gk_iload_n (pc := 8) 2 dX7_odds_8 rfl ?_
    refine gk_i2l (pc := 9) dX7_odds_9 ?_
    refine gk_lconst (x := 0) (pc := 10) dX7_odds_10 (by decide +kernel) ?_
    refine gk_lconst (x := 1) (pc := 11) dX7_odds_11 (by decide +kernel) ?_
    refine gk_callS_ir (As := [gl (gn v2), gl 0, gl 1]) (pc := 12) (c_X7_in (gn v2) 0 1 σ) rfl mm_X7_in ww_817 (gs_fit_of (Nat.le_of_ble_eq_true rfl) (Nat.le_of_ble_eq_true rfl)) rfl rfl (Nat.le_of_ble_eq_true rfl) dX7_odds_12 (fun u2 => ?_)
    refine gk_if_ne (tgt := 22) (pc := 15) dX7_odds_15 (by decide) rfl ?_ ?_
    · refine gk_lconst (x := 0) (pc := 22) dX7_odds_22 (by decide +kernel) ?_
      refine gk_lstore_n (L' := [(3, gl 0), (0, gr E 70), (1, gi v1), (2, gi v2)]) (pc := 23) dX7_odds_23 (Nat.le_of_ble_eq_true rfl) rfl ?_
      refine gk_aload_n (pc := 24) 1 dX7_odds_24 rfl ?_
      refine gk_getR (q := 71) (pc := 25) rfl clsX7 cll_70 sh_70 0 (by decide) rfl ww_775 dX7_odds_25 ?_
      refine gk_aload_n (pc := 28) 1 dX7_odds_28 rfl ?_
      refine gk_getR (q := 72) (pc := 29) rfl clsX7 cll_70 sh_70 1 (by decide) rfl ww_776 dX7_odds_29 ?_
      refine gk_callS_vw (As := [gr E 71, gr E 72]) (pc := 32) (c_X7_copies 71 72 isMa_71 isMa_72 σ) rfl mm_X7_copies ww_1002 (gs_fit_of (Nat.le_of_ble_eq_true rfl) (Nat.le_of_ble_eq_true rfl)) rfl rfl (Nat.le_of_ble_eq_true rfl) dX7_odds_32 (fun b3 => ?_)
      refine gk_iconst (pc := 35) dX7_odds_35 ?_
      refine gk_istore (L' := [(5, gi 0), (3, gl 0), (0, gr E 70), (1, gi v1), (2, gi v2)]) (pc := 36) dX7_odds_36 (Nat.le_of_ble_eq_true rfl) rfl ?_
      refine gk_sub (L' := [(0, gr E 70), (1, gi v1), (2, gi v2), (3, gl 0), (5, gi 0)]) [2, 3, 4, 1, 0] rfl ?_
      refine k_X7_odds_L38 v1 v2 _ ?_ gs_fuel 0 0 b3.2
      · intro w3 σ8
        refine gk_lload_n (pc := 104) 1 dX7_odds_104 rfl ?_
        refine gk_ldc2 (x := 10) (pc := 105) rfl dX7_odds_105 ww_1042 (by decide +kernel) ?_
        refine gk_iload_n (pc := 108) 0 dX7_odds_108 rfl ?_
        refine gk_callS_lr (As := [gl w3, gl 10, gi v2]) (pc := 109) (c_X7_lowest w3 10 v2 σ8) rfl mm_X7_lowest ww_1043 (gs_fit_of (Nat.le_of_ble_eq_true rfl) (Nat.le_of_ble_eq_true rfl)) rfl rfl (Nat.le_of_ble_eq_true rfl) dX7_odds_109 (fun u9 => ?_)
        exact gk_lret (pc := 112) rfl dX7_odds_112
    · refine gk_ldc2 (x := -9223372036854775808) (pc := 18) rfl dX7_odds_18 ww_1041 (by decide +kernel) ?_
      exact gk_lret (pc := 21) rfl dX7_odds_21
def f_X7_mean_L28 (σ : gs_Mem) (v1 : Int) (v2 : Int) (k59 : Int → Option (Int)) : Nat → Int → Int → Option (Int)
  | 0, _, _ => none
  | n + 1, v3, v5 =>
    gs_chk 0 84 (
    if (gn (σ 71 0)) ≤ (gn v5) then
      k59 v3
    else
      (f_X7_channelOf v5 σ).bind fun u3 =>
      f_X7_mean_L28 σ v1 v2 k59 n (v3 + (gn (gmax 0 u3))) (v5 + 1))
set_option maxRecDepth 100000 in
set_option maxHeartbeats 4000000 in
theorem k_X7_mean_L28 {E : gs_E} (σ : gs_Mem) (v1 : Int) (v2 : Int) (k59 : Int → Option (Int))  (hk59 : ∀ (w3 : Int), gs_K E (gs_MC E yX7_mean cX7_mean 6 (some .long) 1 { frames := 2, cells := 0, slots := 0, locals := 43 }) (fun v : Int => (v, σ)) (k59 w3) 59 [(1, gi v1), (2, gi v2), (3, gl w3)] [] σ) : ∀ (n : Nat) (v3 : Int) (v5 : Int), gs_K E (gs_MC E yX7_mean cX7_mean 6 (some .long) 1 { frames := 2, cells := 0, slots := 0, locals := 43 }) (fun v : Int => (v, σ)) (f_X7_mean_L28 σ v1 v2 k59 n v3 v5) 28 [(0, gr E 70), (1, gi v1), (2, gi v2), (3, gl v3), (5, gi v5)] [] σ := by
  intro n
  induction n with
  | zero => intro v3 v5; rw [f_X7_mean_L28]; exact gk_none
  | succ n ih =>
    intro v3 v5; rw [f_X7_mean_L28]
    refine gk_iload (pc := 28) 4 dX7_mean_28 rfl ?_
    refine gk_aload_n (pc := 30) 0 dX7_mean_30 rfl ?_
    refine gk_getR (q := 71) (pc := 31) rfl clsX7 cll_70 sh_70 0 (by decide) rfl ww_775 dX7_mean_31 ?_
    refine gk_iconst (pc := 34) dX7_mean_34 ?_
    refine gk_iald_c (pc := 35) cll_71 sh_71 (by decide +kernel) dX7_mean_35 ?_
    refine gk_icmp_ge (tgt := 59) (pc := 36) dX7_mean_36 (by decide) rfl rfl ?_ ?_
    · refine gk_sub (L' := [(1, gi v1), (2, gi v2), (3, gl v3)]) [1, 2, 3] rfl ?_
      exact hk59 v3
    · refine gk_lload_n (pc := 39) 3 dX7_mean_39 rfl ?_
      refine gk_iconst (pc := 40) dX7_mean_40 ?_
      refine gk_aload_n (pc := 41) 0 dX7_mean_41 rfl ?_
      refine gk_iload (pc := 42) 4 dX7_mean_42 rfl ?_
      refine gk_callV_ir (As := [gi v5]) (pc := 44) (c_X7_channelOf v5 σ) rfl mm_X7_channelOf ww_853 clsX7 rfl cll_70 sh_70 (gs_fit_of (Nat.le_of_ble_eq_true rfl) (Nat.le_of_ble_eq_true rfl)) rfl rfl (Nat.le_of_ble_eq_true rfl) dX7_mean_44 (fun u3 => ?_)
      refine gk_mmax (pc := 47) rfl mmw_RX7_113 (Nat.le_of_ble_eq_true rfl) (Nat.le_of_ble_eq_true rfl) ⟨Nat.le_refl 0, Nat.le_refl 0⟩ dX7_mean_47 ?_
      refine gk_i2l (pc := 50) dX7_mean_50 ?_
      refine gk_ladd (pc := 51) dX7_mean_51 ?_
      refine gk_lstore_n (L' := [(3, gl (v3 + (gn (gmax 0 u3)))), (0, gr E 70), (1, gi v1), (2, gi v2), (5, gi v5)]) (pc := 52) dX7_mean_52 (Nat.le_of_ble_eq_true rfl) rfl ?_
      refine gk_iinc (L' := [(5, gi (v5 + 1)), (3, gl (v3 + (gn (gmax 0 u3)))), (0, gr E 70), (1, gi v1), (2, gi v2)]) (pc := 53) 4 dX7_mean_53 rfl (Nat.le_of_ble_eq_true rfl) rfl ?_
      refine gk_goto (tgt := 28) (pc := 56) dX7_mean_56 (by decide) ?_
      refine gk_sub (L' := [(0, gr E 70), (1, gi v1), (2, gi v2), (3, gl (v3 + (gn (gmax 0 u3)))), (5, gi (v5 + 1))]) [2, 3, 4, 1, 0] rfl ?_
      exact ih (v3 + (gn (gmax 0 u3))) (v5 + 1)
def f_X7_mean (v1 : Int) (σ : gs_Mem) : Option (Int) :=
  (f_X7_having σ).bind fun u1 =>
  (f_X7_in (gn v1) 0 1 σ).bind fun u2 =>
  if (gn u2) = 0 then
    some (-9223372036854775808)
  else
    if (gn u1) = 0 then
      some (-9223372036854775808)
    else
      f_X7_mean_L28 σ v1 u1 (fun w3 =>
        (f_X7_lowest w3 (gn u1) v1 σ).bind fun u4 =>
        some u4) gs_fuel 0 0
set_option maxRecDepth 100000 in
set_option maxHeartbeats 4000000 in
theorem c_X7_mean {E : gs_E} (v1 : Int)  (σ : gs_Mem) : gs_C E yX7_mean cX7_mean 6 (some .long) 1 { frames := 2, cells := 0, slots := 0, locals := 43 } [gr E 70, gi v1] σ (f_X7_mean v1 σ) (fun v : Int => (v, σ)) := by
  unfold f_X7_mean
  refine gs_enter (L := [(0, gr E 70), (1, gi v1)]) (by decide) rfl rfl (Nat.le_of_ble_eq_true rfl) rfl ?_
  refine gk_aload_n (pc := 0) 0 dX7_mean_0 rfl ?_
  refine gk_callV_ir (As := []) (pc := 1) (c_X7_having σ) rfl mm_X7_having ww_1009 clsX7 rfl cll_70 sh_70 (gs_fit_of (Nat.le_of_ble_eq_true rfl) (Nat.le_of_ble_eq_true rfl)) rfl rfl (Nat.le_of_ble_eq_true rfl) dX7_mean_1 (fun u1 => ?_)
  refine gk_istore_n (L' := [(2, gi u1), (0, gr E 70), (1, gi v1)]) (pc := 4) dX7_mean_4 (Nat.le_of_ble_eq_true rfl) rfl ?_
  refine gk_iload_n (pc := 5) 2 dX7_mean_5 rfl ?_
  refine gk_i2l (pc := 6) dX7_mean_6 ?_
  refine gk_lconst (x := 0) (pc := 7) dX7_mean_7 (by decide +kernel) ?_
  refine gk_lconst (x := 1) (pc := 8) dX7_mean_8 (by decide +kernel) ?_
  refine gk_callS_ir (As := [gl (gn v1), gl 0, gl 1]) (pc := 9) (c_X7_in (gn v1) 0 1 σ) rfl mm_X7_in ww_817 (gs_fit_of (Nat.le_of_ble_eq_true rfl) (Nat.le_of_ble_eq_true rfl)) rfl rfl (Nat.le_of_ble_eq_true rfl) dX7_mean_9 (fun u2 => ?_)
  refine gk_if_eq (tgt := 19) (pc := 12) dX7_mean_12 (by decide) rfl ?_ ?_
  · refine gk_ldc2 (x := -9223372036854775808) (pc := 19) rfl dX7_mean_19 ww_1041 (by decide +kernel) ?_
    exact gk_lret (pc := 22) rfl dX7_mean_22
  · refine gk_iload_n (pc := 15) 0 dX7_mean_15 rfl ?_
    refine gk_if_ne (tgt := 23) (pc := 16) dX7_mean_16 (by decide) rfl ?_ ?_
    · refine gk_lconst (x := 0) (pc := 23) dX7_mean_23 (by decide +kernel) ?_
      refine gk_lstore_n (L' := [(3, gl 0), (2, gi u1), (0, gr E 70), (1, gi v1)]) (pc := 24) dX7_mean_24 (Nat.le_of_ble_eq_true rfl) rfl ?_
      refine gk_iconst (pc := 25) dX7_mean_25 ?_
      refine gk_istore (L' := [(5, gi 0), (3, gl 0), (2, gi u1), (0, gr E 70), (1, gi v1)]) (pc := 26) dX7_mean_26 (Nat.le_of_ble_eq_true rfl) rfl ?_
      refine gk_sub (L' := [(0, gr E 70), (1, gi v1), (2, gi u1), (3, gl 0), (5, gi 0)]) [3, 4, 2, 1, 0] rfl ?_
      refine k_X7_mean_L28 σ v1 u1 _ ?_ gs_fuel 0 0
      · intro w3
        refine gk_lload_n (pc := 59) 2 dX7_mean_59 rfl ?_
        refine gk_iload_n (pc := 60) 1 dX7_mean_60 rfl ?_
        refine gk_i2l (pc := 61) dX7_mean_61 ?_
        refine gk_iload_n (pc := 62) 0 dX7_mean_62 rfl ?_
        refine gk_callS_lr (As := [gl w3, gl (gn u1), gi v1]) (pc := 63) (c_X7_lowest w3 (gn u1) v1 σ) rfl mm_X7_lowest ww_1043 (gs_fit_of (Nat.le_of_ble_eq_true rfl) (Nat.le_of_ble_eq_true rfl)) rfl rfl (Nat.le_of_ble_eq_true rfl) dX7_mean_63 (fun u4 => ?_)
        exact gk_lret (pc := 66) rfl dX7_mean_66
    · refine gk_ldc2 (x := -9223372036854775808) (pc := 19) rfl dX7_mean_19 ww_1041 (by decide +kernel) ?_
      exact gk_lret (pc := 22) rfl dX7_mean_22
def f_X7_plan_J66 (v1 : Int) (v2 : Int) (σ : gs_Mem) : Option (Int × gs_Mem) :=
  gs_chk 2 84 (
  if (gn (σ 71 2)) = 8 then
    some ((-4), σ)
  else
    gs_chk (gn (52 + (2 * (σ 71 2)))) 84 (
    gs_chk (gn ((52 + (2 * (σ 71 2))) + 1)) 84 (
    gs_chk 2 84 (
    some (((σ 71 2) + 1), (gs_st (gs_st (gs_st σ 71 (gn (52 + (2 * (σ 71 2)))).toNat v1) 71 (gn ((52 + (2 * (σ 71 2))) + 1)).toNat v2) 71 2 ((σ 71 2) + 1)))))))
set_option maxRecDepth 100000 in
set_option maxHeartbeats 4000000 in
theorem k_X7_plan_J66 {E : gs_E}  (v1 : Int) (v2 : Int)   (σ : gs_Mem) : gs_K E (gs_MC E yX7_plan cX7_plan 4 (some .int) 0 { frames := 2, cells := 0, slots := 0, locals := 46 }) (fun b : Int × gs_Mem => b) (f_X7_plan_J66 v1 v2 σ) 66 [(0, gr E 70), (1, gi v1), (2, gi v2)] [] σ := by
  unfold f_X7_plan_J66
  refine gk_aload_n (pc := 66) 0 dX7_plan_66 rfl ?_
  refine gk_getR (q := 71) (pc := 67) rfl clsX7 cll_70 sh_70 0 (by decide) rfl ww_775 dX7_plan_67 ?_
  refine gk_iconst (pc := 70) dX7_plan_70 ?_
  refine gk_iald_c (pc := 71) cll_71 sh_71 (by decide +kernel) dX7_plan_71 ?_
  refine gk_istore_n (L' := [(3, gi (σ 71 2)), (0, gr E 70), (1, gi v1), (2, gi v2)]) (pc := 72) dX7_plan_72 (Nat.le_of_ble_eq_true rfl) rfl ?_
  refine gk_iload_n (pc := 73) 0 dX7_plan_73 rfl ?_
  refine gk_bipush (pc := 74) dX7_plan_74 (by decide +kernel) ?_
  refine gk_icmp_ne (tgt := 82) (pc := 76) dX7_plan_76 (by decide) rfl (by decide +kernel) ?_ ?_
  · refine gk_aload_n (pc := 82) 1 dX7_plan_82 rfl ?_
    refine gk_getR (q := 71) (pc := 83) rfl clsX7 cll_70 sh_70 0 (by decide) rfl ww_775 dX7_plan_83 ?_
    refine gk_bipush (pc := 86) dX7_plan_86 (by decide +kernel) ?_
    refine gk_iconst (pc := 88) dX7_plan_88 ?_
    refine gk_iload_n (pc := 89) 0 dX7_plan_89 rfl ?_
    refine gk_imul (pc := 90) dX7_plan_90 ?_
    refine gk_iadd (pc := 91) dX7_plan_91 ?_
    refine gk_iload_n (pc := 92) 2 dX7_plan_92 rfl ?_
    refine gk_iast_c (pc := 93) cll_71 sh_71 rfl dX7_plan_93 ?_
    refine gk_aload_n (pc := 94) 1 dX7_plan_94 rfl ?_
    refine gk_getR (q := 71) (pc := 95) rfl clsX7 cll_70 sh_70 0 (by decide) rfl ww_775 dX7_plan_95 ?_
    refine gk_bipush (pc := 98) dX7_plan_98 (by decide +kernel) ?_
    refine gk_iconst (pc := 100) dX7_plan_100 ?_
    refine gk_iload_n (pc := 101) 0 dX7_plan_101 rfl ?_
    refine gk_imul (pc := 102) dX7_plan_102 ?_
    refine gk_iadd (pc := 103) dX7_plan_103 ?_
    refine gk_iconst (pc := 104) dX7_plan_104 ?_
    refine gk_iadd (pc := 105) dX7_plan_105 ?_
    refine gk_iload_n (pc := 106) 3 dX7_plan_106 rfl ?_
    refine gk_iast_c (pc := 107) cll_71 sh_71 rfl dX7_plan_107 ?_
    refine gk_aload_n (pc := 108) 1 dX7_plan_108 rfl ?_
    refine gk_getR (q := 71) (pc := 109) rfl clsX7 cll_70 sh_70 0 (by decide) rfl ww_775 dX7_plan_109 ?_
    refine gk_iconst (pc := 112) dX7_plan_112 ?_
    refine gk_iload_n (pc := 113) 0 dX7_plan_113 rfl ?_
    refine gk_iconst (pc := 114) dX7_plan_114 ?_
    refine gk_iadd (pc := 115) dX7_plan_115 ?_
    refine gk_iast_c (pc := 116) cll_71 sh_71 (by decide +kernel) dX7_plan_116 ?_
    refine gk_iload_n (pc := 117) 0 dX7_plan_117 rfl ?_
    refine gk_iconst (pc := 118) dX7_plan_118 ?_
    refine gk_iadd (pc := 119) dX7_plan_119 ?_
    exact gk_iret (pc := 120) rfl dX7_plan_120
  · refine gk_bipush (pc := 79) dX7_plan_79 (by decide +kernel) ?_
    exact gk_iret (pc := 81) rfl dX7_plan_81
def f_X7_plan_J46 (v1 : Int) (v2 : Int) (σ : gs_Mem) : Option (Int × gs_Mem) :=
  if (gn v1) = 2 then
    (f_X7_in (gn v2) 0 40 σ).bind fun u3 =>
    if (gn u3) = 0 then
      some ((-2), σ)
    else
      f_X7_plan_J66 v1 v2 σ
  else
    f_X7_plan_J66 v1 v2 σ
set_option maxRecDepth 100000 in
set_option maxHeartbeats 4000000 in
theorem k_X7_plan_J46 {E : gs_E}  (v1 : Int) (v2 : Int)   (σ : gs_Mem) : gs_K E (gs_MC E yX7_plan cX7_plan 4 (some .int) 0 { frames := 2, cells := 0, slots := 0, locals := 46 }) (fun b : Int × gs_Mem => b) (f_X7_plan_J46 v1 v2 σ) 46 [(0, gr E 70), (1, gi v1), (2, gi v2)] [] σ := by
  unfold f_X7_plan_J46
  refine gk_iload_n (pc := 46) 1 dX7_plan_46 rfl ?_
  refine gk_iconst (pc := 47) dX7_plan_47 ?_
  refine gk_icmp_ne (tgt := 66) (pc := 48) dX7_plan_48 (by decide) rfl (by decide +kernel) ?_ ?_
  · exact k_X7_plan_J66 v1 v2 σ
  · refine gk_iload_n (pc := 51) 2 dX7_plan_51 rfl ?_
    refine gk_i2l (pc := 52) dX7_plan_52 ?_
    refine gk_lconst (x := 0) (pc := 53) dX7_plan_53 (by decide +kernel) ?_
    refine gk_ldc2 (x := 40) (pc := 54) rfl dX7_plan_54 ww_837 (by decide +kernel) ?_
    refine gk_callS_ir (As := [gl (gn v2), gl 0, gl 40]) (pc := 57) (c_X7_in (gn v2) 0 40 σ) rfl mm_X7_in ww_817 (gs_fit_of (Nat.le_of_ble_eq_true rfl) (Nat.le_of_ble_eq_true rfl)) rfl rfl (Nat.le_of_ble_eq_true rfl) dX7_plan_57 (fun u3 => ?_)
    refine gk_if_ne (tgt := 66) (pc := 60) dX7_plan_60 (by decide) rfl ?_ ?_
    · exact k_X7_plan_J66 v1 v2 σ
    · refine gk_bipush (pc := 63) dX7_plan_63 (by decide +kernel) ?_
      exact gk_iret (pc := 65) rfl dX7_plan_65
def f_X7_plan_J36 (v1 : Int) (v2 : Int) (σ : gs_Mem) : Option (Int × gs_Mem) :=
  (f_X7_isStation v2 σ).bind fun u2 =>
  if (gn u2) = 0 then
    some ((-1), σ)
  else
    f_X7_plan_J46 v1 v2 σ
set_option maxRecDepth 100000 in
set_option maxHeartbeats 4000000 in
theorem k_X7_plan_J36 {E : gs_E}  (v1 : Int) (v2 : Int)   (σ : gs_Mem) : gs_K E (gs_MC E yX7_plan cX7_plan 4 (some .int) 0 { frames := 2, cells := 0, slots := 0, locals := 46 }) (fun b : Int × gs_Mem => b) (f_X7_plan_J36 v1 v2 σ) 36 [(0, gr E 70), (1, gi v1), (2, gi v2)] [] σ := by
  unfold f_X7_plan_J36
  refine gk_aload_n (pc := 36) 0 dX7_plan_36 rfl ?_
  refine gk_iload_n (pc := 37) 2 dX7_plan_37 rfl ?_
  refine gk_callV_ir (As := [gi v2]) (pc := 38) (c_X7_isStation v2 σ) rfl mm_X7_isStation ww_843 clsX7 rfl cll_70 sh_70 (gs_fit_of (Nat.le_of_ble_eq_true rfl) (Nat.le_of_ble_eq_true rfl)) rfl rfl (Nat.le_of_ble_eq_true rfl) dX7_plan_38 (fun u2 => ?_)
  refine gk_if_ne (tgt := 46) (pc := 41) dX7_plan_41 (by decide) rfl ?_ ?_
  · exact k_X7_plan_J46 v1 v2 σ
  · refine gk_iconst (pc := 44) dX7_plan_44 ?_
    exact gk_iret (pc := 45) rfl dX7_plan_45
def f_X7_plan (v1 : Int) (v2 : Int) (σ : gs_Mem) : Option (Int × gs_Mem) :=
  if (gn v1) = (-1) then
    gs_chk 2 84 (
    some (0, (gs_st σ 71 2 0)))
  else
    (f_X7_in (gn v1) 0 3 σ).bind fun u1 =>
    if (gn u1) = 0 then
      some ((-1), σ)
    else
      if (gn v1) = 1 then
        f_X7_plan_J36 v1 v2 σ
      else
        if (gn v1) = 3 then
          f_X7_plan_J36 v1 v2 σ
        else
          f_X7_plan_J46 v1 v2 σ
set_option maxRecDepth 100000 in
set_option maxHeartbeats 4000000 in
theorem c_X7_plan {E : gs_E} (v1 : Int) (v2 : Int)  (σ : gs_Mem) : gs_C E yX7_plan cX7_plan 4 (some .int) 0 { frames := 2, cells := 0, slots := 0, locals := 46 } [gr E 70, gi v1, gi v2] σ (f_X7_plan v1 v2 σ) (fun b : Int × gs_Mem => b) := by
  unfold f_X7_plan
  refine gs_enter (L := [(0, gr E 70), (1, gi v1), (2, gi v2)]) (by decide) rfl rfl (Nat.le_of_ble_eq_true rfl) rfl ?_
  refine gk_iload_n (pc := 0) 1 dX7_plan_0 rfl ?_
  refine gk_iconst (pc := 1) dX7_plan_1 ?_
  refine gk_icmp_ne (tgt := 14) (pc := 2) dX7_plan_2 (by decide) rfl (by decide +kernel) ?_ ?_
  · refine gk_iload_n (pc := 14) 1 dX7_plan_14 rfl ?_
    refine gk_i2l (pc := 15) dX7_plan_15 ?_
    refine gk_lconst (x := 0) (pc := 16) dX7_plan_16 (by decide +kernel) ?_
    refine gk_ldc2 (x := 3) (pc := 17) rfl dX7_plan_17 ww_1054 (by decide +kernel) ?_
    refine gk_callS_ir (As := [gl (gn v1), gl 0, gl 3]) (pc := 20) (c_X7_in (gn v1) 0 3 σ) rfl mm_X7_in ww_817 (gs_fit_of (Nat.le_of_ble_eq_true rfl) (Nat.le_of_ble_eq_true rfl)) rfl rfl (Nat.le_of_ble_eq_true rfl) dX7_plan_20 (fun u1 => ?_)
    refine gk_if_eq (tgt := 44) (pc := 23) dX7_plan_23 (by decide) rfl ?_ ?_
    · refine gk_iconst (pc := 44) dX7_plan_44 ?_
      exact gk_iret (pc := 45) rfl dX7_plan_45
    · refine gk_iload_n (pc := 26) 1 dX7_plan_26 rfl ?_
      refine gk_iconst (pc := 27) dX7_plan_27 ?_
      refine gk_icmp_eq (tgt := 36) (pc := 28) dX7_plan_28 (by decide) rfl (by decide +kernel) ?_ ?_
      · exact k_X7_plan_J36 v1 v2 σ
      · refine gk_iload_n (pc := 31) 1 dX7_plan_31 rfl ?_
        refine gk_iconst (pc := 32) dX7_plan_32 ?_
        refine gk_icmp_ne (tgt := 46) (pc := 33) dX7_plan_33 (by decide) rfl (by decide +kernel) ?_ ?_
        · exact k_X7_plan_J46 v1 v2 σ
        · exact k_X7_plan_J36 v1 v2 σ
  · refine gk_aload_n (pc := 5) 0 dX7_plan_5 rfl ?_
    refine gk_getR (q := 71) (pc := 6) rfl clsX7 cll_70 sh_70 0 (by decide) rfl ww_775 dX7_plan_6 ?_
    refine gk_iconst (pc := 9) dX7_plan_9 ?_
    refine gk_iconst (pc := 10) dX7_plan_10 ?_
    refine gk_iast_c (pc := 11) cll_71 sh_71 (by decide +kernel) dX7_plan_11 ?_
    refine gk_iconst (pc := 12) dX7_plan_12 ?_
    exact gk_iret (pc := 13) rfl dX7_plan_13
def f_X7_planGoes (v1 : Int) (v2 : Int) (σ : gs_Mem) : Option (Int × gs_Mem) :=
  if (gn v1) = 0 then
    (f_X7_assigned σ).bind fun b3 =>
    some (0, b3.2)
  else
    if (gn v1) = 1 then
      (f_X7_has v2 (-1) σ).bind fun b2 =>
      gs_chk (gn ((4 + (4 * v2)) + 3)) 84 (
      some (0, (gs_st b2.2 71 (gn ((4 + (4 * v2)) + 3)).toNat 0)))
    else
      if (gn v1) = 2 then
        gs_chk 36 84 (
        some (0, (gs_st σ 71 36 v2)))
      else
        (f_X7_channelOf v2 σ).bind fun u1 =>
        if (gn u1) < 0 then
          some (0, σ)
        else
          gs_chk (gn ((4 + (4 * v2)) + 3)) 84 (
          some (0, (gs_st σ 71 (gn ((4 + (4 * v2)) + 3)).toNat 1)))
set_option maxRecDepth 100000 in
set_option maxHeartbeats 4000000 in
theorem c_X7_planGoes {E : gs_E} (v1 : Int) (v2 : Int)  (σ : gs_Mem) : gs_C E yX7_planGoes cX7_planGoes 4 none 2 { frames := 7, cells := 0, slots := 0, locals := 164 } [gr E 70, gi v1, gi v2] σ (f_X7_planGoes v1 v2 σ) (fun b : Int × gs_Mem => b) := by
  unfold f_X7_planGoes
  refine gs_enter (L := [(0, gr E 70), (1, gi v1), (2, gi v2)]) (by decide) rfl rfl (Nat.le_of_ble_eq_true rfl) rfl ?_
  refine gk_iload_n (pc := 0) 1 dX7_planGoes_0 rfl ?_
  refine gk_if_ne (tgt := 12) (pc := 1) dX7_planGoes_1 (by decide) rfl ?_ ?_
  · refine gk_iload_n (pc := 12) 1 dX7_planGoes_12 rfl ?_
    refine gk_iconst (pc := 13) dX7_planGoes_13 ?_
    refine gk_icmp_ne (tgt := 39) (pc := 14) dX7_planGoes_14 (by decide) rfl (by decide +kernel) ?_ ?_
    · refine gk_iload_n (pc := 39) 1 dX7_planGoes_39 rfl ?_
      refine gk_iconst (pc := 40) dX7_planGoes_40 ?_
      refine gk_icmp_ne (tgt := 55) (pc := 41) dX7_planGoes_41 (by decide) rfl (by decide +kernel) ?_ ?_
      · refine gk_aload_n (pc := 55) 0 dX7_planGoes_55 rfl ?_
        refine gk_iload_n (pc := 56) 2 dX7_planGoes_56 rfl ?_
        refine gk_callV_ir (As := [gi v2]) (pc := 57) (c_X7_channelOf v2 σ) rfl mm_X7_channelOf ww_853 clsX7 rfl cll_70 sh_70 (gs_fit_of (Nat.le_of_ble_eq_true rfl) (Nat.le_of_ble_eq_true rfl)) rfl rfl (Nat.le_of_ble_eq_true rfl) dX7_planGoes_57 (fun u1 => ?_)
        refine gk_if_lt (tgt := 76) (pc := 60) dX7_planGoes_60 (by decide) rfl ?_ ?_
        · exact gk_vret (pc := 76) rfl dX7_planGoes_76
        · refine gk_aload_n (pc := 63) 0 dX7_planGoes_63 rfl ?_
          refine gk_getR (q := 71) (pc := 64) rfl clsX7 cll_70 sh_70 0 (by decide) rfl ww_775 dX7_planGoes_64 ?_
          refine gk_iconst (pc := 67) dX7_planGoes_67 ?_
          refine gk_iconst (pc := 68) dX7_planGoes_68 ?_
          refine gk_iload_n (pc := 69) 2 dX7_planGoes_69 rfl ?_
          refine gk_imul (pc := 70) dX7_planGoes_70 ?_
          refine gk_iadd (pc := 71) dX7_planGoes_71 ?_
          refine gk_iconst (pc := 72) dX7_planGoes_72 ?_
          refine gk_iadd (pc := 73) dX7_planGoes_73 ?_
          refine gk_iconst (pc := 74) dX7_planGoes_74 ?_
          refine gk_iast_c (pc := 75) cll_71 sh_71 rfl dX7_planGoes_75 ?_
          exact gk_vret (pc := 76) rfl dX7_planGoes_76
      · refine gk_aload_n (pc := 44) 0 dX7_planGoes_44 rfl ?_
        refine gk_getR (q := 71) (pc := 45) rfl clsX7 cll_70 sh_70 0 (by decide) rfl ww_775 dX7_planGoes_45 ?_
        refine gk_bipush (pc := 48) dX7_planGoes_48 (by decide +kernel) ?_
        refine gk_iload_n (pc := 50) 2 dX7_planGoes_50 rfl ?_
        refine gk_iast_c (pc := 51) cll_71 sh_71 (by decide +kernel) dX7_planGoes_51 ?_
        refine gk_goto (tgt := 76) (pc := 52) dX7_planGoes_52 (by decide) ?_
        exact gk_vret (pc := 76) rfl dX7_planGoes_76
    · refine gk_aload_n (pc := 17) 0 dX7_planGoes_17 rfl ?_
      refine gk_iload_n (pc := 18) 2 dX7_planGoes_18 rfl ?_
      refine gk_iconst (pc := 19) dX7_planGoes_19 ?_
      refine gk_callV_vw (As := [gi v2, gi (-1)]) (pc := 20) (c_X7_has v2 (-1) σ) rfl mm_X7_has ww_857 clsX7 rfl cll_70 sh_70 (gs_fit_of (Nat.le_of_ble_eq_true rfl) (Nat.le_of_ble_eq_true rfl)) rfl rfl (Nat.le_of_ble_eq_true rfl) dX7_planGoes_20 (fun b2 => ?_)
      refine gk_aload_n (pc := 23) 0 dX7_planGoes_23 rfl ?_
      refine gk_getR (q := 71) (pc := 24) rfl clsX7 cll_70 sh_70 0 (by decide) rfl ww_775 dX7_planGoes_24 ?_
      refine gk_iconst (pc := 27) dX7_planGoes_27 ?_
      refine gk_iconst (pc := 28) dX7_planGoes_28 ?_
      refine gk_iload_n (pc := 29) 2 dX7_planGoes_29 rfl ?_
      refine gk_imul (pc := 30) dX7_planGoes_30 ?_
      refine gk_iadd (pc := 31) dX7_planGoes_31 ?_
      refine gk_iconst (pc := 32) dX7_planGoes_32 ?_
      refine gk_iadd (pc := 33) dX7_planGoes_33 ?_
      refine gk_iconst (pc := 34) dX7_planGoes_34 ?_
      refine gk_iast_c (pc := 35) cll_71 sh_71 rfl dX7_planGoes_35 ?_
      refine gk_goto (tgt := 76) (pc := 36) dX7_planGoes_36 (by decide) ?_
      exact gk_vret (pc := 76) rfl dX7_planGoes_76
  · refine gk_aload_n (pc := 4) 0 dX7_planGoes_4 rfl ?_
    refine gk_callV_iw (As := []) (pc := 5) (c_X7_assigned σ) rfl mm_X7_assigned ww_948 clsX7 rfl cll_70 sh_70 (gs_fit_of (Nat.le_of_ble_eq_true rfl) (Nat.le_of_ble_eq_true rfl)) rfl rfl (Nat.le_of_ble_eq_true rfl) dX7_planGoes_5 (fun b3 => ?_)
    refine gk_istore_n (L' := [(3, gi b3.1), (0, gr E 70), (1, gi v1), (2, gi v2)]) (pc := 8) dX7_planGoes_8 (Nat.le_of_ble_eq_true rfl) rfl ?_
    refine gk_goto (tgt := 76) (pc := 9) dX7_planGoes_9 (by decide) ?_
    exact gk_vret (pc := 76) rfl dX7_planGoes_76
def f_X7_ends_L25 (v1 : Int) (k69 : gs_Mem → Option (Int × gs_Mem)) : Nat → Int → gs_Mem → Option (Int × gs_Mem)
  | 0, _, _ => none
  | n + 1, v2, σ =>
    gs_chk 2 84 (
    if (gn (σ 71 2)) ≤ (gn v2) then
      k69 σ
    else
      gs_chk (gn (52 + (2 * v2))) 84 (
      gs_chk (gn ((52 + (2 * v2)) + 1)) 84 (
      (f_X7_planGoes (σ 71 (gn (52 + (2 * v2))).toNat) (σ 71 (gn ((52 + (2 * v2)) + 1)).toNat) σ).bind fun b3 =>
      f_X7_ends_L25 v1 k69 n (v2 + 1) b3.2)))
set_option maxRecDepth 100000 in
set_option maxHeartbeats 4000000 in
theorem k_X7_ends_L25 {E : gs_E} (v1 : Int) (k69 : gs_Mem → Option (Int × gs_Mem))  (hk69 : ∀ (σ : gs_Mem), gs_K E (gs_MC E yX7_ends cX7_ends 3 (some .int) 0 { frames := 8, cells := 0, slots := 0, locals := 187 }) (fun b : Int × gs_Mem => b) (k69 σ) 69 [(0, gr E 70), (1, gi v1)] [] σ) : ∀ (n : Nat) (v2 : Int) (σ : gs_Mem), gs_K E (gs_MC E yX7_ends cX7_ends 3 (some .int) 0 { frames := 8, cells := 0, slots := 0, locals := 187 }) (fun b : Int × gs_Mem => b) (f_X7_ends_L25 v1 k69 n v2 σ) 25 [(0, gr E 70), (1, gi v1), (2, gi v2)] [] σ := by
  intro n
  induction n with
  | zero => intro v2 σ; rw [f_X7_ends_L25]; exact gk_none
  | succ n ih =>
    intro v2 σ; rw [f_X7_ends_L25]
    refine gk_iload_n (pc := 25) 2 dX7_ends_25 rfl ?_
    refine gk_aload_n (pc := 26) 0 dX7_ends_26 rfl ?_
    refine gk_getR (q := 71) (pc := 27) rfl clsX7 cll_70 sh_70 0 (by decide) rfl ww_775 dX7_ends_27 ?_
    refine gk_iconst (pc := 30) dX7_ends_30 ?_
    refine gk_iald_c (pc := 31) cll_71 sh_71 (by decide +kernel) dX7_ends_31 ?_
    refine gk_icmp_ge (tgt := 69) (pc := 32) dX7_ends_32 (by decide) rfl rfl ?_ ?_
    · refine gk_sub (L' := [(0, gr E 70), (1, gi v1)]) [0, 1] rfl ?_
      exact hk69 σ
    · refine gk_aload_n (pc := 35) 0 dX7_ends_35 rfl ?_
      refine gk_aload_n (pc := 36) 0 dX7_ends_36 rfl ?_
      refine gk_getR (q := 71) (pc := 37) rfl clsX7 cll_70 sh_70 0 (by decide) rfl ww_775 dX7_ends_37 ?_
      refine gk_bipush (pc := 40) dX7_ends_40 (by decide +kernel) ?_
      refine gk_iconst (pc := 42) dX7_ends_42 ?_
      refine gk_iload_n (pc := 43) 2 dX7_ends_43 rfl ?_
      refine gk_imul (pc := 44) dX7_ends_44 ?_
      refine gk_iadd (pc := 45) dX7_ends_45 ?_
      refine gk_iald_c (pc := 46) cll_71 sh_71 rfl dX7_ends_46 ?_
      refine gk_aload_n (pc := 47) 0 dX7_ends_47 rfl ?_
      refine gk_getR (q := 71) (pc := 48) rfl clsX7 cll_70 sh_70 0 (by decide) rfl ww_775 dX7_ends_48 ?_
      refine gk_bipush (pc := 51) dX7_ends_51 (by decide +kernel) ?_
      refine gk_iconst (pc := 53) dX7_ends_53 ?_
      refine gk_iload_n (pc := 54) 2 dX7_ends_54 rfl ?_
      refine gk_imul (pc := 55) dX7_ends_55 ?_
      refine gk_iadd (pc := 56) dX7_ends_56 ?_
      refine gk_iconst (pc := 57) dX7_ends_57 ?_
      refine gk_iadd (pc := 58) dX7_ends_58 ?_
      refine gk_iald_c (pc := 59) cll_71 sh_71 rfl dX7_ends_59 ?_
      refine gk_callV_vw (As := [gi (σ 71 (gn (52 + (2 * v2))).toNat), gi (σ 71 (gn ((52 + (2 * v2)) + 1)).toNat)]) (pc := 60) (c_X7_planGoes (σ 71 (gn (52 + (2 * v2))).toNat) (σ 71 (gn ((52 + (2 * v2)) + 1)).toNat) σ) rfl mm_X7_planGoes ww_1059 clsX7 rfl cll_70 sh_70 (gs_fit_of (Nat.le_of_ble_eq_true rfl) (Nat.le_of_ble_eq_true rfl)) rfl rfl (Nat.le_of_ble_eq_true rfl) dX7_ends_60 (fun b3 => ?_)
      refine gk_iinc (L' := [(2, gi (v2 + 1)), (0, gr E 70), (1, gi v1)]) (pc := 63) 2 dX7_ends_63 rfl (Nat.le_of_ble_eq_true rfl) rfl ?_
      refine gk_goto (tgt := 25) (pc := 66) dX7_ends_66 (by decide) ?_
      refine gk_sub (L' := [(0, gr E 70), (1, gi v1), (2, gi (v2 + 1))]) [1, 2, 0] rfl ?_
      exact ih (v2 + 1) b3.2
def f_X7_ends_J84 (t0 : Int) (σ : gs_Mem) : Option (Int × gs_Mem) :=
  (f_X7_copies 72 71 σ).bind fun b6 =>
  some (t0, b6.2)
set_option maxRecDepth 100000 in
set_option maxHeartbeats 4000000 in
theorem k_X7_ends_J84 {E : gs_E}  (t0 : Int)   (σ : gs_Mem) : gs_K E (gs_MC E yX7_ends cX7_ends 3 (some .int) 0 { frames := 8, cells := 0, slots := 0, locals := 187 }) (fun b : Int × gs_Mem => b) (f_X7_ends_J84 t0 σ) 84 [(0, gr E 70)] [gi t0] σ := by
  unfold f_X7_ends_J84
  refine gk_istore_n (L' := [(2, gi t0), (0, gr E 70)]) (pc := 84) dX7_ends_84 (Nat.le_of_ble_eq_true rfl) rfl ?_
  refine gk_aload_n (pc := 85) 1 dX7_ends_85 rfl ?_
  refine gk_getR (q := 72) (pc := 86) rfl clsX7 cll_70 sh_70 1 (by decide) rfl ww_776 dX7_ends_86 ?_
  refine gk_aload_n (pc := 89) 1 dX7_ends_89 rfl ?_
  refine gk_getR (q := 71) (pc := 90) rfl clsX7 cll_70 sh_70 0 (by decide) rfl ww_775 dX7_ends_90 ?_
  refine gk_callS_vw (As := [gr E 72, gr E 71]) (pc := 93) (c_X7_copies 72 71 isMa_72 isMa_71 σ) rfl mm_X7_copies ww_1002 (gs_fit_of (Nat.le_of_ble_eq_true rfl) (Nat.le_of_ble_eq_true rfl)) rfl rfl (Nat.le_of_ble_eq_true rfl) dX7_ends_93 (fun b6 => ?_)
  refine gk_iload_n (pc := 96) 0 dX7_ends_96 rfl ?_
  exact gk_iret (pc := 97) rfl dX7_ends_97
def f_X7_ends (v1 : Int) (σ : gs_Mem) : Option (Int × gs_Mem) :=
  (f_X7_in (gn v1) 0 1 σ).bind fun u1 =>
  if (gn u1) = 0 then
    some ((-1), σ)
  else
    (f_X7_copies 71 72 σ).bind fun b2 =>
    f_X7_ends_L25 v1 (fun σ4 =>
      if (gn v1) = 0 then
        (f_X7_span σ4).bind fun u7 =>
        f_X7_ends_J84 u7 σ4
      else
        (f_X7_clashes σ4).bind fun u5 =>
        f_X7_ends_J84 u5 σ4) gs_fuel 0 b2.2
set_option maxRecDepth 100000 in
set_option maxHeartbeats 4000000 in
theorem c_X7_ends {E : gs_E} (v1 : Int)  (σ : gs_Mem) : gs_C E yX7_ends cX7_ends 3 (some .int) 0 { frames := 8, cells := 0, slots := 0, locals := 187 } [gr E 70, gi v1] σ (f_X7_ends v1 σ) (fun b : Int × gs_Mem => b) := by
  unfold f_X7_ends
  refine gs_enter (L := [(0, gr E 70), (1, gi v1)]) (by decide) rfl rfl (Nat.le_of_ble_eq_true rfl) rfl ?_
  refine gk_iload_n (pc := 0) 1 dX7_ends_0 rfl ?_
  refine gk_i2l (pc := 1) dX7_ends_1 ?_
  refine gk_lconst (x := 0) (pc := 2) dX7_ends_2 (by decide +kernel) ?_
  refine gk_lconst (x := 1) (pc := 3) dX7_ends_3 (by decide +kernel) ?_
  refine gk_callS_ir (As := [gl (gn v1), gl 0, gl 1]) (pc := 4) (c_X7_in (gn v1) 0 1 σ) rfl mm_X7_in ww_817 (gs_fit_of (Nat.le_of_ble_eq_true rfl) (Nat.le_of_ble_eq_true rfl)) rfl rfl (Nat.le_of_ble_eq_true rfl) dX7_ends_4 (fun u1 => ?_)
  refine gk_if_ne (tgt := 12) (pc := 7) dX7_ends_7 (by decide) rfl ?_ ?_
  · refine gk_aload_n (pc := 12) 0 dX7_ends_12 rfl ?_
    refine gk_getR (q := 71) (pc := 13) rfl clsX7 cll_70 sh_70 0 (by decide) rfl ww_775 dX7_ends_13 ?_
    refine gk_aload_n (pc := 16) 0 dX7_ends_16 rfl ?_
    refine gk_getR (q := 72) (pc := 17) rfl clsX7 cll_70 sh_70 1 (by decide) rfl ww_776 dX7_ends_17 ?_
    refine gk_callS_vw (As := [gr E 71, gr E 72]) (pc := 20) (c_X7_copies 71 72 isMa_71 isMa_72 σ) rfl mm_X7_copies ww_1002 (gs_fit_of (Nat.le_of_ble_eq_true rfl) (Nat.le_of_ble_eq_true rfl)) rfl rfl (Nat.le_of_ble_eq_true rfl) dX7_ends_20 (fun b2 => ?_)
    refine gk_iconst (pc := 23) dX7_ends_23 ?_
    refine gk_istore_n (L' := [(2, gi 0), (0, gr E 70), (1, gi v1)]) (pc := 24) dX7_ends_24 (Nat.le_of_ble_eq_true rfl) rfl ?_
    refine gk_sub (L' := [(0, gr E 70), (1, gi v1), (2, gi 0)]) [1, 2, 0] rfl ?_
    refine k_X7_ends_L25 v1 _ ?_ gs_fuel 0 b2.2
    · intro σ4
      refine gk_iload_n (pc := 69) 1 dX7_ends_69 rfl ?_
      refine gk_if_ne (tgt := 80) (pc := 70) dX7_ends_70 (by decide) rfl ?_ ?_
      · refine gk_aload_n (pc := 80) 0 dX7_ends_80 rfl ?_
        refine gk_callV_ir (As := []) (pc := 81) (c_X7_clashes σ4) rfl mm_X7_clashes ww_965 clsX7 rfl cll_70 sh_70 (gs_fit_of (Nat.le_of_ble_eq_true rfl) (Nat.le_of_ble_eq_true rfl)) rfl rfl (Nat.le_of_ble_eq_true rfl) dX7_ends_81 (fun u5 => ?_)
        refine gk_sub (L' := [(0, gr E 70)]) [0] rfl ?_
        exact k_X7_ends_J84 u5 σ4
      · refine gk_aload_n (pc := 73) 0 dX7_ends_73 rfl ?_
        refine gk_callV_ir (As := []) (pc := 74) (c_X7_span σ4) rfl mm_X7_span ww_989 clsX7 rfl cll_70 sh_70 (gs_fit_of (Nat.le_of_ble_eq_true rfl) (Nat.le_of_ble_eq_true rfl)) rfl rfl (Nat.le_of_ble_eq_true rfl) dX7_ends_74 (fun u7 => ?_)
        refine gk_goto (tgt := 84) (pc := 77) dX7_ends_77 (by decide) ?_
        refine gk_sub (L' := [(0, gr E 70)]) [0] rfl ?_
        exact k_X7_ends_J84 u7 σ4
  · refine gk_iconst (pc := 10) dX7_ends_10 ?_
    exact gk_iret (pc := 11) rfl dX7_ends_11
def f_X7_book (v1 : Int) (v2 : Int) (σ : gs_Mem) : Option (Int × gs_Mem) :=
  if (gn v1) = (-1) then
    gs_chk 3 84 (
    some (0, (gs_st σ 71 3 0)))
  else
    (f_X7_isStation v1 σ).bind fun u1 =>
    if (gn u1) = 0 then
      some ((-1), σ)
    else
      (f_X7_in (gn v2) (-1) 19 σ).bind fun u2 =>
      if (gn u2) = 0 then
        some ((-2), σ)
      else
        gs_chk 3 84 (
        if (gn (σ 71 3)) = 8 then
          some ((-4), σ)
        else
          gs_chk (gn (68 + (2 * (σ 71 3)))) 84 (
          gs_chk (gn ((68 + (2 * (σ 71 3))) + 1)) 84 (
          gs_chk 3 84 (
          some (((σ 71 3) + 1), (gs_st (gs_st (gs_st σ 71 (gn (68 + (2 * (σ 71 3)))).toNat v1) 71 (gn ((68 + (2 * (σ 71 3))) + 1)).toNat v2) 71 3 ((σ 71 3) + 1)))))))
set_option maxRecDepth 100000 in
set_option maxHeartbeats 4000000 in
theorem c_X7_book {E : gs_E} (v1 : Int) (v2 : Int)  (σ : gs_Mem) : gs_C E yX7_book cX7_book 4 (some .int) 0 { frames := 2, cells := 0, slots := 0, locals := 46 } [gr E 70, gi v1, gi v2] σ (f_X7_book v1 v2 σ) (fun b : Int × gs_Mem => b) := by
  unfold f_X7_book
  refine gs_enter (L := [(0, gr E 70), (1, gi v1), (2, gi v2)]) (by decide) rfl rfl (Nat.le_of_ble_eq_true rfl) rfl ?_
  refine gk_iload_n (pc := 0) 1 dX7_book_0 rfl ?_
  refine gk_iconst (pc := 1) dX7_book_1 ?_
  refine gk_icmp_ne (tgt := 14) (pc := 2) dX7_book_2 (by decide) rfl (by decide +kernel) ?_ ?_
  · refine gk_aload_n (pc := 14) 0 dX7_book_14 rfl ?_
    refine gk_iload_n (pc := 15) 1 dX7_book_15 rfl ?_
    refine gk_callV_ir (As := [gi v1]) (pc := 16) (c_X7_isStation v1 σ) rfl mm_X7_isStation ww_843 clsX7 rfl cll_70 sh_70 (gs_fit_of (Nat.le_of_ble_eq_true rfl) (Nat.le_of_ble_eq_true rfl)) rfl rfl (Nat.le_of_ble_eq_true rfl) dX7_book_16 (fun u1 => ?_)
    refine gk_if_ne (tgt := 24) (pc := 19) dX7_book_19 (by decide) rfl ?_ ?_
    · refine gk_iload_n (pc := 24) 2 dX7_book_24 rfl ?_
      refine gk_i2l (pc := 25) dX7_book_25 ?_
      refine gk_ldc2 (x := -1) (pc := 26) rfl dX7_book_26 ww_847 (by decide +kernel) ?_
      refine gk_ldc2 (x := 19) (pc := 29) rfl dX7_book_29 ww_848 (by decide +kernel) ?_
      refine gk_callS_ir (As := [gl (gn v2), gl (-1), gl 19]) (pc := 32) (c_X7_in (gn v2) (-1) 19 σ) rfl mm_X7_in ww_817 (gs_fit_of (Nat.le_of_ble_eq_true rfl) (Nat.le_of_ble_eq_true rfl)) rfl rfl (Nat.le_of_ble_eq_true rfl) dX7_book_32 (fun u2 => ?_)
      refine gk_if_ne (tgt := 41) (pc := 35) dX7_book_35 (by decide) rfl ?_ ?_
      · refine gk_aload_n (pc := 41) 0 dX7_book_41 rfl ?_
        refine gk_getR (q := 71) (pc := 42) rfl clsX7 cll_70 sh_70 0 (by decide) rfl ww_775 dX7_book_42 ?_
        refine gk_iconst (pc := 45) dX7_book_45 ?_
        refine gk_iald_c (pc := 46) cll_71 sh_71 (by decide +kernel) dX7_book_46 ?_
        refine gk_istore_n (L' := [(3, gi (σ 71 3)), (0, gr E 70), (1, gi v1), (2, gi v2)]) (pc := 47) dX7_book_47 (Nat.le_of_ble_eq_true rfl) rfl ?_
        refine gk_iload_n (pc := 48) 0 dX7_book_48 rfl ?_
        refine gk_bipush (pc := 49) dX7_book_49 (by decide +kernel) ?_
        refine gk_icmp_ne (tgt := 57) (pc := 51) dX7_book_51 (by decide) rfl (by decide +kernel) ?_ ?_
        · refine gk_aload_n (pc := 57) 1 dX7_book_57 rfl ?_
          refine gk_getR (q := 71) (pc := 58) rfl clsX7 cll_70 sh_70 0 (by decide) rfl ww_775 dX7_book_58 ?_
          refine gk_bipush (pc := 61) dX7_book_61 (by decide +kernel) ?_
          refine gk_iconst (pc := 63) dX7_book_63 ?_
          refine gk_iload_n (pc := 64) 0 dX7_book_64 rfl ?_
          refine gk_imul (pc := 65) dX7_book_65 ?_
          refine gk_iadd (pc := 66) dX7_book_66 ?_
          refine gk_iload_n (pc := 67) 2 dX7_book_67 rfl ?_
          refine gk_iast_c (pc := 68) cll_71 sh_71 rfl dX7_book_68 ?_
          refine gk_aload_n (pc := 69) 1 dX7_book_69 rfl ?_
          refine gk_getR (q := 71) (pc := 70) rfl clsX7 cll_70 sh_70 0 (by decide) rfl ww_775 dX7_book_70 ?_
          refine gk_bipush (pc := 73) dX7_book_73 (by decide +kernel) ?_
          refine gk_iconst (pc := 75) dX7_book_75 ?_
          refine gk_iload_n (pc := 76) 0 dX7_book_76 rfl ?_
          refine gk_imul (pc := 77) dX7_book_77 ?_
          refine gk_iadd (pc := 78) dX7_book_78 ?_
          refine gk_iconst (pc := 79) dX7_book_79 ?_
          refine gk_iadd (pc := 80) dX7_book_80 ?_
          refine gk_iload_n (pc := 81) 3 dX7_book_81 rfl ?_
          refine gk_iast_c (pc := 82) cll_71 sh_71 rfl dX7_book_82 ?_
          refine gk_aload_n (pc := 83) 1 dX7_book_83 rfl ?_
          refine gk_getR (q := 71) (pc := 84) rfl clsX7 cll_70 sh_70 0 (by decide) rfl ww_775 dX7_book_84 ?_
          refine gk_iconst (pc := 87) dX7_book_87 ?_
          refine gk_iload_n (pc := 88) 0 dX7_book_88 rfl ?_
          refine gk_iconst (pc := 89) dX7_book_89 ?_
          refine gk_iadd (pc := 90) dX7_book_90 ?_
          refine gk_iast_c (pc := 91) cll_71 sh_71 (by decide +kernel) dX7_book_91 ?_
          refine gk_iload_n (pc := 92) 0 dX7_book_92 rfl ?_
          refine gk_iconst (pc := 93) dX7_book_93 ?_
          refine gk_iadd (pc := 94) dX7_book_94 ?_
          exact gk_iret (pc := 95) rfl dX7_book_95
        · refine gk_bipush (pc := 54) dX7_book_54 (by decide +kernel) ?_
          exact gk_iret (pc := 56) rfl dX7_book_56
      · refine gk_bipush (pc := 38) dX7_book_38 (by decide +kernel) ?_
        exact gk_iret (pc := 40) rfl dX7_book_40
    · refine gk_iconst (pc := 22) dX7_book_22 ?_
      exact gk_iret (pc := 23) rfl dX7_book_23
  · refine gk_aload_n (pc := 5) 0 dX7_book_5 rfl ?_
    refine gk_getR (q := 71) (pc := 6) rfl clsX7 cll_70 sh_70 0 (by decide) rfl ww_775 dX7_book_6 ?_
    refine gk_iconst (pc := 9) dX7_book_9 ?_
    refine gk_iconst (pc := 10) dX7_book_10 ?_
    refine gk_iast_c (pc := 11) cll_71 sh_71 (by decide +kernel) dX7_book_11 ?_
    refine gk_iconst (pc := 12) dX7_book_12 ?_
    exact gk_iret (pc := 13) rfl dX7_book_13
def f_X7_looked_L2 (σ : gs_Mem)  : Nat → Int → Option (Int)
  | 0, _ => none
  | n + 1, v1 =>
    gs_chk 3 84 (
    if (gn (σ 71 3)) ≤ (gn v1) then
      some (-5)
    else
      gs_chk (gn (68 + (2 * v1))) 84 (
      (f_X7_channelOf (σ 71 (gn (68 + (2 * v1))).toNat) σ).bind fun u1 =>
      gs_chk (gn ((68 + (2 * v1)) + 1)) 84 (
      if (gn u1) = (gn (σ 71 (gn ((68 + (2 * v1)) + 1)).toNat)) then
        f_X7_looked_L2 σ n (v1 + 1)
      else
        some v1)))
set_option maxRecDepth 100000 in
set_option maxHeartbeats 4000000 in
theorem k_X7_looked_L2 {E : gs_E} (σ : gs_Mem)    : ∀ (n : Nat) (v1 : Int), gs_K E (gs_MC E yX7_looked cX7_looked 2 (some .int) 0 { frames := 1, cells := 0, slots := 0, locals := 21 }) (fun v : Int => (v, σ)) (f_X7_looked_L2 σ n v1) 2 [(0, gr E 70), (1, gi v1)] [] σ := by
  intro n
  induction n with
  | zero => intro v1; rw [f_X7_looked_L2]; exact gk_none
  | succ n ih =>
    intro v1; rw [f_X7_looked_L2]
    refine gk_iload_n (pc := 2) 1 dX7_looked_2 rfl ?_
    refine gk_aload_n (pc := 3) 0 dX7_looked_3 rfl ?_
    refine gk_getR (q := 71) (pc := 4) rfl clsX7 cll_70 sh_70 0 (by decide) rfl ww_775 dX7_looked_4 ?_
    refine gk_iconst (pc := 7) dX7_looked_7 ?_
    refine gk_iald_c (pc := 8) cll_71 sh_71 (by decide +kernel) dX7_looked_8 ?_
    refine gk_icmp_ge (tgt := 51) (pc := 9) dX7_looked_9 (by decide) rfl rfl ?_ ?_
    · refine gk_bipush (pc := 51) dX7_looked_51 (by decide +kernel) ?_
      exact gk_iret (pc := 53) rfl dX7_looked_53
    · refine gk_aload_n (pc := 12) 0 dX7_looked_12 rfl ?_
      refine gk_aload_n (pc := 13) 0 dX7_looked_13 rfl ?_
      refine gk_getR (q := 71) (pc := 14) rfl clsX7 cll_70 sh_70 0 (by decide) rfl ww_775 dX7_looked_14 ?_
      refine gk_bipush (pc := 17) dX7_looked_17 (by decide +kernel) ?_
      refine gk_iconst (pc := 19) dX7_looked_19 ?_
      refine gk_iload_n (pc := 20) 1 dX7_looked_20 rfl ?_
      refine gk_imul (pc := 21) dX7_looked_21 ?_
      refine gk_iadd (pc := 22) dX7_looked_22 ?_
      refine gk_iald_c (pc := 23) cll_71 sh_71 rfl dX7_looked_23 ?_
      refine gk_callV_ir (As := [gi (σ 71 (gn (68 + (2 * v1))).toNat)]) (pc := 24) (c_X7_channelOf (σ 71 (gn (68 + (2 * v1))).toNat) σ) rfl mm_X7_channelOf ww_853 clsX7 rfl cll_70 sh_70 (gs_fit_of (Nat.le_of_ble_eq_true rfl) (Nat.le_of_ble_eq_true rfl)) rfl rfl (Nat.le_of_ble_eq_true rfl) dX7_looked_24 (fun u1 => ?_)
      refine gk_aload_n (pc := 27) 0 dX7_looked_27 rfl ?_
      refine gk_getR (q := 71) (pc := 28) rfl clsX7 cll_70 sh_70 0 (by decide) rfl ww_775 dX7_looked_28 ?_
      refine gk_bipush (pc := 31) dX7_looked_31 (by decide +kernel) ?_
      refine gk_iconst (pc := 33) dX7_looked_33 ?_
      refine gk_iload_n (pc := 34) 1 dX7_looked_34 rfl ?_
      refine gk_imul (pc := 35) dX7_looked_35 ?_
      refine gk_iadd (pc := 36) dX7_looked_36 ?_
      refine gk_iconst (pc := 37) dX7_looked_37 ?_
      refine gk_iadd (pc := 38) dX7_looked_38 ?_
      refine gk_iald_c (pc := 39) cll_71 sh_71 rfl dX7_looked_39 ?_
      refine gk_icmp_eq (tgt := 45) (pc := 40) dX7_looked_40 (by decide) rfl rfl ?_ ?_
      · refine gk_iinc (L' := [(1, gi (v1 + 1)), (0, gr E 70)]) (pc := 45) 1 dX7_looked_45 rfl (Nat.le_of_ble_eq_true rfl) rfl ?_
        refine gk_goto (tgt := 2) (pc := 48) dX7_looked_48 (by decide) ?_
        refine gk_sub (L' := [(0, gr E 70), (1, gi (v1 + 1))]) [1, 0] rfl ?_
        exact ih (v1 + 1)
      · refine gk_iload_n (pc := 43) 1 dX7_looked_43 rfl ?_
        exact gk_iret (pc := 44) rfl dX7_looked_44
def f_X7_looked  (σ : gs_Mem) : Option (Int) :=
  f_X7_looked_L2 σ gs_fuel 0
set_option maxRecDepth 100000 in
set_option maxHeartbeats 4000000 in
theorem c_X7_looked {E : gs_E}   (σ : gs_Mem) : gs_C E yX7_looked cX7_looked 2 (some .int) 0 { frames := 1, cells := 0, slots := 0, locals := 21 } [gr E 70] σ (f_X7_looked  σ) (fun v : Int => (v, σ)) := by
  unfold f_X7_looked
  refine gs_enter (L := [(0, gr E 70)]) (by decide) rfl rfl (Nat.le_of_ble_eq_true rfl) rfl ?_
  refine gk_iconst (pc := 0) dX7_looked_0 ?_
  refine gk_istore_n (L' := [(1, gi 0), (0, gr E 70)]) (pc := 1) dX7_looked_1 (Nat.le_of_ble_eq_true rfl) rfl ?_
  refine gk_sub (L' := [(0, gr E 70), (1, gi 0)]) [1, 0] rfl ?_
  exact k_X7_looked_L2 σ gs_fuel 0
def f_X7_image  (σ : gs_Mem) : Option (Int × gs_Mem) :=
  (f_X7_copies 71 73 σ).bind fun b1 =>
  gs_chk 0 84 (
  some (((gs_st b1.2 70 3 1) 71 0), (gs_st b1.2 70 3 1)))
set_option maxRecDepth 100000 in
set_option maxHeartbeats 4000000 in
theorem c_X7_image {E : gs_E}   (σ : gs_Mem) : gs_C E yX7_image cX7_image 1 (some .int) 0 { frames := 1, cells := 0, slots := 0, locals := 22 } [gr E 70] σ (f_X7_image  σ) (fun b : Int × gs_Mem => b) := by
  unfold f_X7_image
  refine gs_enter (L := [(0, gr E 70)]) (by decide) rfl rfl (Nat.le_of_ble_eq_true rfl) rfl ?_
  refine gk_aload_n (pc := 0) 0 dX7_image_0 rfl ?_
  refine gk_getR (q := 71) (pc := 1) rfl clsX7 cll_70 sh_70 0 (by decide) rfl ww_775 dX7_image_1 ?_
  refine gk_aload_n (pc := 4) 0 dX7_image_4 rfl ?_
  refine gk_getR (q := 73) (pc := 5) rfl clsX7 cll_70 sh_70 2 (by decide) rfl ww_777 dX7_image_5 ?_
  refine gk_callS_vw (As := [gr E 71, gr E 73]) (pc := 8) (c_X7_copies 71 73 isMa_71 isMa_73 σ) rfl mm_X7_copies ww_1002 (gs_fit_of (Nat.le_of_ble_eq_true rfl) (Nat.le_of_ble_eq_true rfl)) rfl rfl (Nat.le_of_ble_eq_true rfl) dX7_image_8 (fun b1 => ?_)
  refine gk_aload_n (pc := 11) 0 dX7_image_11 rfl ?_
  refine gk_iconst (pc := 12) dX7_image_12 ?_
  refine gk_putF (pc := 13) rfl clsX7 cll_70 sh_70 3 (by decide) rfl rfl (nar_z (Or.inr (by decide +kernel))) rfl ww_778 dX7_image_13 ?_
  refine gk_aload_n (pc := 16) 0 dX7_image_16 rfl ?_
  refine gk_getR (q := 71) (pc := 17) rfl clsX7 cll_70 sh_70 0 (by decide) rfl ww_775 dX7_image_17 ?_
  refine gk_iconst (pc := 20) dX7_image_20 ?_
  refine gk_iald_c (pc := 21) cll_71 sh_71 (by decide +kernel) dX7_image_21 ?_
  exact gk_iret (pc := 22) rfl dX7_image_22
def f_X7_undo  (σ : gs_Mem) : Option (Int × gs_Mem) :=
  if (gn (σ 70 3)) = 0 then
    some ((-3), σ)
  else
    (f_X7_copies 73 71 σ).bind fun b1 =>
    gs_chk 0 84 (
    some ((b1.2 71 0), b1.2))
set_option maxRecDepth 100000 in
set_option maxHeartbeats 4000000 in
theorem c_X7_undo {E : gs_E}   (σ : gs_Mem) : gs_C E yX7_undo cX7_undo 1 (some .int) 0 { frames := 1, cells := 0, slots := 0, locals := 22 } [gr E 70] σ (f_X7_undo  σ) (fun b : Int × gs_Mem => b) := by
  unfold f_X7_undo
  refine gs_enter (L := [(0, gr E 70)]) (by decide) rfl rfl (Nat.le_of_ble_eq_true rfl) rfl ?_
  refine gk_aload_n (pc := 0) 0 dX7_undo_0 rfl ?_
  refine gk_getI (pc := 1) rfl clsX7 cll_70 sh_70 3 (by decide) rfl ww_778 dX7_undo_1 ?_
  refine gk_if_ne (tgt := 10) (pc := 4) dX7_undo_4 (by decide) rfl ?_ ?_
  · refine gk_aload_n (pc := 10) 0 dX7_undo_10 rfl ?_
    refine gk_getR (q := 73) (pc := 11) rfl clsX7 cll_70 sh_70 2 (by decide) rfl ww_777 dX7_undo_11 ?_
    refine gk_aload_n (pc := 14) 0 dX7_undo_14 rfl ?_
    refine gk_getR (q := 71) (pc := 15) rfl clsX7 cll_70 sh_70 0 (by decide) rfl ww_775 dX7_undo_15 ?_
    refine gk_callS_vw (As := [gr E 73, gr E 71]) (pc := 18) (c_X7_copies 73 71 isMa_73 isMa_71 σ) rfl mm_X7_copies ww_1002 (gs_fit_of (Nat.le_of_ble_eq_true rfl) (Nat.le_of_ble_eq_true rfl)) rfl rfl (Nat.le_of_ble_eq_true rfl) dX7_undo_18 (fun b1 => ?_)
    refine gk_aload_n (pc := 21) 0 dX7_undo_21 rfl ?_
    refine gk_getR (q := 71) (pc := 22) rfl clsX7 cll_70 sh_70 0 (by decide) rfl ww_775 dX7_undo_22 ?_
    refine gk_iconst (pc := 25) dX7_undo_25 ?_
    refine gk_iald_c (pc := 26) cll_71 sh_71 (by decide +kernel) dX7_undo_26 ?_
    exact gk_iret (pc := 27) rfl dX7_undo_27
  · refine gk_bipush (pc := 7) dX7_undo_7 (by decide +kernel) ?_
    exact gk_iret (pc := 9) rfl dX7_undo_9
def f_X7_rules_J29 (σ : gs_Mem) (k4 : Int → Int → Option (Int)) (v2 : Int) (t0 : Int) (t1 : Int) : Option (Int) :=
  k4 (t1 + t0) (v2 + 1)
set_option maxRecDepth 100000 in
set_option maxHeartbeats 4000000 in
theorem k_X7_rules_J29 {E : gs_E} (σ : gs_Mem) (k4 : Int → Int → Option (Int))  (v2 : Int) (t0 : Int) (t1 : Int)  (hk4 : ∀ (w1 : Int) (w2 : Int), gs_K E (gs_MC E yX7_rules cX7_rules 3 (some .int) 0 { frames := 0, cells := 0, slots := 0, locals := 0 }) (fun v : Int => (v, σ)) (k4 w1 w2) 4 [(0, gr E 70), (1, gi w1), (2, gi w2)] [] σ) : gs_K E (gs_MC E yX7_rules cX7_rules 3 (some .int) 0 { frames := 0, cells := 0, slots := 0, locals := 0 }) (fun v : Int => (v, σ)) (f_X7_rules_J29 σ k4 v2 t0 t1) 29 [(0, gr E 70), (2, gi v2)] [gi t0, gi t1] σ := by
  unfold f_X7_rules_J29
  refine gk_iadd (pc := 29) dX7_rules_29 ?_
  refine gk_istore_n (L' := [(1, gi (t1 + t0)), (0, gr E 70), (2, gi v2)]) (pc := 30) dX7_rules_30 (Nat.le_of_ble_eq_true rfl) rfl ?_
  refine gk_iinc (L' := [(2, gi (v2 + 1)), (1, gi (t1 + t0)), (0, gr E 70)]) (pc := 31) 2 dX7_rules_31 rfl (Nat.le_of_ble_eq_true rfl) rfl ?_
  refine gk_goto (tgt := 4) (pc := 34) dX7_rules_34 (by decide) ?_
  refine gk_sub (L' := [(0, gr E 70), (1, gi (t1 + t0)), (2, gi (v2 + 1))]) [2, 1, 0] rfl ?_
  exact hk4 (t1 + t0) (v2 + 1)
def f_X7_rules_L4 (σ : gs_Mem)  : Nat → Int → Int → Option (Int)
  | 0, _, _ => none
  | n + 1, v1, v2 =>
    if 3 ≤ (gn v2) then
      some v1
    else
      gs_chk (gn (36 + (2 * v2))) 84 (
      if (gn (σ 71 (gn (36 + (2 * v2))).toNat)) ≤ 0 then
        f_X7_rules_J29 σ (f_X7_rules_L4 σ n) v2 0 v1
      else
        f_X7_rules_J29 σ (f_X7_rules_L4 σ n) v2 1 v1)
set_option maxRecDepth 100000 in
set_option maxHeartbeats 4000000 in
theorem k_X7_rules_L4 {E : gs_E} (σ : gs_Mem)    : ∀ (n : Nat) (v1 : Int) (v2 : Int), gs_K E (gs_MC E yX7_rules cX7_rules 3 (some .int) 0 { frames := 0, cells := 0, slots := 0, locals := 0 }) (fun v : Int => (v, σ)) (f_X7_rules_L4 σ n v1 v2) 4 [(0, gr E 70), (1, gi v1), (2, gi v2)] [] σ := by
  intro n
  induction n with
  | zero => intro v1 v2; rw [f_X7_rules_L4]; exact gk_none
  | succ n ih =>
    intro v1 v2; rw [f_X7_rules_L4]
    refine gk_iload_n (pc := 4) 2 dX7_rules_4 rfl ?_
    refine gk_iconst (pc := 5) dX7_rules_5 ?_
    refine gk_icmp_ge (tgt := 37) (pc := 6) dX7_rules_6 (by decide) rfl (by decide +kernel) ?_ ?_
    · refine gk_iload_n (pc := 37) 1 dX7_rules_37 rfl ?_
      exact gk_iret (pc := 38) rfl dX7_rules_38
    · refine gk_iload_n (pc := 9) 1 dX7_rules_9 rfl ?_
      refine gk_aload_n (pc := 10) 0 dX7_rules_10 rfl ?_
      refine gk_getR (q := 71) (pc := 11) rfl clsX7 cll_70 sh_70 0 (by decide) rfl ww_775 dX7_rules_11 ?_
      refine gk_bipush (pc := 14) dX7_rules_14 (by decide +kernel) ?_
      refine gk_iconst (pc := 16) dX7_rules_16 ?_
      refine gk_iload_n (pc := 17) 2 dX7_rules_17 rfl ?_
      refine gk_imul (pc := 18) dX7_rules_18 ?_
      refine gk_iadd (pc := 19) dX7_rules_19 ?_
      refine gk_iald_c (pc := 20) cll_71 sh_71 rfl dX7_rules_20 ?_
      refine gk_if_le (tgt := 28) (pc := 21) dX7_rules_21 (by decide) rfl ?_ ?_
      · refine gk_iconst (pc := 28) dX7_rules_28 ?_
        refine gk_sub (L' := [(0, gr E 70), (2, gi v2)]) [0, 2] rfl ?_
        exact k_X7_rules_J29 σ (f_X7_rules_L4 σ n) v2 0 v1 ih
      · refine gk_iconst (pc := 24) dX7_rules_24 ?_
        refine gk_goto (tgt := 29) (pc := 25) dX7_rules_25 (by decide) ?_
        refine gk_sub (L' := [(0, gr E 70), (2, gi v2)]) [0, 2] rfl ?_
        exact k_X7_rules_J29 σ (f_X7_rules_L4 σ n) v2 1 v1 ih
def f_X7_rules  (σ : gs_Mem) : Option (Int) :=
  f_X7_rules_L4 σ gs_fuel 0 0
set_option maxRecDepth 100000 in
set_option maxHeartbeats 4000000 in
theorem c_X7_rules {E : gs_E}   (σ : gs_Mem) : gs_C E yX7_rules cX7_rules 3 (some .int) 0 { frames := 0, cells := 0, slots := 0, locals := 0 } [gr E 70] σ (f_X7_rules  σ) (fun v : Int => (v, σ)) := by
  unfold f_X7_rules
  refine gs_enter (L := [(0, gr E 70)]) (by decide) rfl rfl (Nat.le_of_ble_eq_true rfl) rfl ?_
  refine gk_iconst (pc := 0) dX7_rules_0 ?_
  refine gk_istore_n (L' := [(1, gi 0), (0, gr E 70)]) (pc := 1) dX7_rules_1 (Nat.le_of_ble_eq_true rfl) rfl ?_
  refine gk_iconst (pc := 2) dX7_rules_2 ?_
  refine gk_istore_n (L' := [(2, gi 0), (1, gi 0), (0, gr E 70)]) (pc := 3) dX7_rules_3 (Nat.le_of_ble_eq_true rfl) rfl ?_
  refine gk_sub (L' := [(0, gr E 70), (1, gi 0), (2, gi 0)]) [2, 1, 0] rfl ?_
  exact k_X7_rules_L4 σ gs_fuel 0 0
def f_X7_count (v1 : Int) (σ : gs_Mem) : Option (Int) :=
  if (gn v1) = 0 then
    gs_chk 0 84 (
    some (σ 71 0))
  else if (gn v1) = 1 then
    (f_X7_rules σ).bind fun u1 =>
    some u1
  else if (gn v1) = 2 then
    gs_chk 1 84 (
    some (σ 71 1))
  else if (gn v1) = 3 then
    gs_chk 2 84 (
    some (σ 71 2))
  else if (gn v1) = 4 then
    gs_chk 3 84 (
    some (σ 71 3))
  else if (gn v1) = 5 then
    some (σ 70 5)
  else 
    some (-2)
set_option maxRecDepth 100000 in
set_option maxHeartbeats 4000000 in
theorem c_X7_count {E : gs_E} (v1 : Int)  (σ : gs_Mem) : gs_C E yX7_count cX7_count 2 (some .int) 0 { frames := 1, cells := 0, slots := 0, locals := 22 } [gr E 70, gi v1] σ (f_X7_count v1 σ) (fun v : Int => (v, σ)) := by
  unfold f_X7_count
  refine gs_enter (L := [(0, gr E 70), (1, gi v1)]) (by decide) rfl rfl (Nat.le_of_ble_eq_true rfl) rfl ?_
  refine gk_iload_n (pc := 0) 1 dX7_count_0 rfl ?_
  refine gk_sw (tgt := 40) (pc := 1) 0 dX7_count_1 (by decide) rfl (by decide) ?_ (fun hs0 => ?_)
  · refine gk_aload_n (pc := 40) 0 dX7_count_40 rfl ?_
    refine gk_getR (q := 71) (pc := 41) rfl clsX7 cll_70 sh_70 0 (by decide) rfl ww_775 dX7_count_41 ?_
    refine gk_iconst (pc := 44) dX7_count_44 ?_
    refine gk_iald_c (pc := 45) cll_71 sh_71 (by decide +kernel) dX7_count_45 ?_
    exact gk_iret (pc := 46) rfl dX7_count_46
  refine gk_sw (tgt := 47) (pc := 1) 1 dX7_count_1 (by decide) rfl (by decide) ?_ (fun hs1 => ?_)
  · refine gk_aload_n (pc := 47) 0 dX7_count_47 rfl ?_
    refine gk_callV_ir (As := []) (pc := 48) (c_X7_rules σ) rfl mm_X7_rules ww_1083 clsX7 rfl cll_70 sh_70 (gs_fit_of (Nat.le_of_ble_eq_true rfl) (Nat.le_of_ble_eq_true rfl)) rfl rfl (Nat.le_of_ble_eq_true rfl) dX7_count_48 (fun u1 => ?_)
    exact gk_iret (pc := 51) rfl dX7_count_51
  refine gk_sw (tgt := 52) (pc := 1) 2 dX7_count_1 (by decide) rfl (by decide) ?_ (fun hs2 => ?_)
  · refine gk_aload_n (pc := 52) 0 dX7_count_52 rfl ?_
    refine gk_getR (q := 71) (pc := 53) rfl clsX7 cll_70 sh_70 0 (by decide) rfl ww_775 dX7_count_53 ?_
    refine gk_iconst (pc := 56) dX7_count_56 ?_
    refine gk_iald_c (pc := 57) cll_71 sh_71 (by decide +kernel) dX7_count_57 ?_
    exact gk_iret (pc := 58) rfl dX7_count_58
  refine gk_sw (tgt := 59) (pc := 1) 3 dX7_count_1 (by decide) rfl (by decide) ?_ (fun hs3 => ?_)
  · refine gk_aload_n (pc := 59) 0 dX7_count_59 rfl ?_
    refine gk_getR (q := 71) (pc := 60) rfl clsX7 cll_70 sh_70 0 (by decide) rfl ww_775 dX7_count_60 ?_
    refine gk_iconst (pc := 63) dX7_count_63 ?_
    refine gk_iald_c (pc := 64) cll_71 sh_71 (by decide +kernel) dX7_count_64 ?_
    exact gk_iret (pc := 65) rfl dX7_count_65
  refine gk_sw (tgt := 66) (pc := 1) 4 dX7_count_1 (by decide) rfl (by decide) ?_ (fun hs4 => ?_)
  · refine gk_aload_n (pc := 66) 0 dX7_count_66 rfl ?_
    refine gk_getR (q := 71) (pc := 67) rfl clsX7 cll_70 sh_70 0 (by decide) rfl ww_775 dX7_count_67 ?_
    refine gk_iconst (pc := 70) dX7_count_70 ?_
    refine gk_iald_c (pc := 71) cll_71 sh_71 (by decide +kernel) dX7_count_71 ?_
    exact gk_iret (pc := 72) rfl dX7_count_72
  refine gk_sw (tgt := 73) (pc := 1) 5 dX7_count_1 (by decide) rfl (by decide) ?_ (fun hs5 => ?_)
  · refine gk_aload_n (pc := 73) 0 dX7_count_73 rfl ?_
    refine gk_getI (pc := 74) rfl clsX7 cll_70 sh_70 5 (by decide) rfl ww_780 dX7_count_74 ?_
    exact gk_iret (pc := 77) rfl dX7_count_77
  refine gk_swD (tgt := 78) (pc := 1) dX7_count_1 (by omega) (by decide) ?_
  refine gk_bipush (pc := 78) dX7_count_78 (by decide +kernel) ?_
  exact gk_iret (pc := 80) rfl dX7_count_80
def f_X7_judge_L28 (σ : gs_Mem) (v1 : Int) (v2 : Int) (k64 : Int → Option (Int)) : Nat → Int → Option (Int)
  | 0, _ => none
  | n + 1, v3 =>
    gs_chk 0 84 (
    if (gn (σ 71 0)) ≤ (gn v3) then
      some (-5)
    else
      gs_chk (gn v1) 6 (
      if (gn (σ 76 (gn v1).toNat)) = (-1) then
        k64 v3
      else
        if (gn v2) < 0 then
          k64 v3
        else
          gs_chk (gn v1) 6 (
          if (gn v3) < (gn ((σ 77 (gn v1).toNat) - v2)) then
            gs_chk (gn (((60 * v1) + v2) + v3)) 360 (
            (f_X7_channelOf v3 σ).bind fun u2 =>
            if (gn (gcmp (σ 78 (gn (((60 * v1) + v2) + v3)).toNat) (gn u2))) = 0 then
              f_X7_judge_L28 σ v1 v2 k64 n (v3 + 1)
            else
              some v3)
          else
            k64 v3)))
set_option maxRecDepth 100000 in
set_option maxHeartbeats 4000000 in
theorem k_X7_judge_L28 {E : gs_E} (σ : gs_Mem) (v1 : Int) (v2 : Int) (k64 : Int → Option (Int))  (hk64 : ∀ (w3 : Int), gs_K E (gs_MC E yX7_judge cX7_judge 4 (some .int) 0 { frames := 1, cells := 0, slots := 0, locals := 25 }) (fun v : Int => (v, σ)) (k64 w3) 64 [(3, gi w3)] [] σ) : ∀ (n : Nat) (v3 : Int), gs_K E (gs_MC E yX7_judge cX7_judge 4 (some .int) 0 { frames := 1, cells := 0, slots := 0, locals := 25 }) (fun v : Int => (v, σ)) (f_X7_judge_L28 σ v1 v2 k64 n v3) 28 [(0, gr E 70), (1, gi v1), (2, gi v2), (3, gi v3)] [] σ := by
  intro n
  induction n with
  | zero => intro v3; rw [f_X7_judge_L28]; exact gk_none
  | succ n ih =>
    intro v3; rw [f_X7_judge_L28]
    refine gk_iload_n (pc := 28) 3 dX7_judge_28 rfl ?_
    refine gk_aload_n (pc := 29) 0 dX7_judge_29 rfl ?_
    refine gk_getR (q := 71) (pc := 30) rfl clsX7 cll_70 sh_70 0 (by decide) rfl ww_775 dX7_judge_30 ?_
    refine gk_iconst (pc := 33) dX7_judge_33 ?_
    refine gk_iald_c (pc := 34) cll_71 sh_71 (by decide +kernel) dX7_judge_34 ?_
    refine gk_icmp_ge (tgt := 100) (pc := 35) dX7_judge_35 (by decide) rfl rfl ?_ ?_
    · refine gk_bipush (pc := 100) dX7_judge_100 (by decide +kernel) ?_
      exact gk_iret (pc := 102) rfl dX7_judge_102
    · refine gk_aload_n (pc := 38) 0 dX7_judge_38 rfl ?_
      refine gk_getR (q := 76) (pc := 39) rfl clsX7 cll_70 sh_70 8 (by decide) rfl ww_783 dX7_judge_39 ?_
      refine gk_iload_n (pc := 42) 1 dX7_judge_42 rfl ?_
      refine gk_iald_c (pc := 43) cll_76 sh_76 rfl dX7_judge_43 ?_
      refine gk_iconst (pc := 44) dX7_judge_44 ?_
      refine gk_icmp_eq (tgt := 64) (pc := 45) dX7_judge_45 (by decide) rfl (by decide +kernel) ?_ ?_
      · refine gk_sub (L' := [(3, gi v3)]) [3] rfl ?_
        exact hk64 v3
      · refine gk_iload_n (pc := 48) 2 dX7_judge_48 rfl ?_
        refine gk_if_lt (tgt := 64) (pc := 49) dX7_judge_49 (by decide) rfl ?_ ?_
        · refine gk_sub (L' := [(3, gi v3)]) [3] rfl ?_
          exact hk64 v3
        · refine gk_iload_n (pc := 52) 3 dX7_judge_52 rfl ?_
          refine gk_aload_n (pc := 53) 0 dX7_judge_53 rfl ?_
          refine gk_getR (q := 77) (pc := 54) rfl clsX7 cll_70 sh_70 9 (by decide) rfl ww_784 dX7_judge_54 ?_
          refine gk_iload_n (pc := 57) 1 dX7_judge_57 rfl ?_
          refine gk_iald_c (pc := 58) cll_77 sh_77 rfl dX7_judge_58 ?_
          refine gk_iload_n (pc := 59) 2 dX7_judge_59 rfl ?_
          refine gk_isub (pc := 60) dX7_judge_60 ?_
          refine gk_icmp_lt (tgt := 69) (pc := 61) dX7_judge_61 (by decide) rfl rfl ?_ ?_
          · refine gk_aload_n (pc := 69) 0 dX7_judge_69 rfl ?_
            refine gk_getR (q := 78) (pc := 70) rfl clsX7 cll_70 sh_70 10 (by decide) rfl ww_785 dX7_judge_70 ?_
            refine gk_bipush (pc := 73) dX7_judge_73 (by decide +kernel) ?_
            refine gk_iload_n (pc := 75) 1 dX7_judge_75 rfl ?_
            refine gk_imul (pc := 76) dX7_judge_76 ?_
            refine gk_iload_n (pc := 77) 2 dX7_judge_77 rfl ?_
            refine gk_iadd (pc := 78) dX7_judge_78 ?_
            refine gk_iload_n (pc := 79) 3 dX7_judge_79 rfl ?_
            refine gk_iadd (pc := 80) dX7_judge_80 ?_
            refine gk_lald_c (pc := 81) cll_78 sh_78 rfl dX7_judge_81 ?_
            refine gk_aload_n (pc := 82) 0 dX7_judge_82 rfl ?_
            refine gk_iload_n (pc := 83) 3 dX7_judge_83 rfl ?_
            refine gk_callV_ir (As := [gi v3]) (pc := 84) (c_X7_channelOf v3 σ) rfl mm_X7_channelOf ww_853 clsX7 rfl cll_70 sh_70 (gs_fit_of (Nat.le_of_ble_eq_true rfl) (Nat.le_of_ble_eq_true rfl)) rfl rfl (Nat.le_of_ble_eq_true rfl) dX7_judge_84 (fun u2 => ?_)
            refine gk_i2l (pc := 87) dX7_judge_87 ?_
            refine gk_lcmp (pc := 88) dX7_judge_88 ?_
            refine gk_if_eq (tgt := 94) (pc := 89) dX7_judge_89 (by decide) rfl ?_ ?_
            · refine gk_iinc (L' := [(3, gi (v3 + 1)), (0, gr E 70), (1, gi v1), (2, gi v2)]) (pc := 94) 3 dX7_judge_94 rfl (Nat.le_of_ble_eq_true rfl) rfl ?_
              refine gk_goto (tgt := 28) (pc := 97) dX7_judge_97 (by decide) ?_
              refine gk_sub (L' := [(0, gr E 70), (1, gi v1), (2, gi v2), (3, gi (v3 + 1))]) [1, 2, 3, 0] rfl ?_
              exact ih (v3 + 1)
            · refine gk_iload_n (pc := 92) 3 dX7_judge_92 rfl ?_
              exact gk_iret (pc := 93) rfl dX7_judge_93
          · refine gk_sub (L' := [(3, gi v3)]) [3] rfl ?_
            exact hk64 v3
def f_X7_judge_J64 (σ : gs_Mem) (v3 : Int) : Option (Int) :=
  some (100 + v3)
set_option maxRecDepth 100000 in
set_option maxHeartbeats 4000000 in
theorem k_X7_judge_J64 {E : gs_E} (σ : gs_Mem)  (v3 : Int)   : gs_K E (gs_MC E yX7_judge cX7_judge 4 (some .int) 0 { frames := 1, cells := 0, slots := 0, locals := 25 }) (fun v : Int => (v, σ)) (f_X7_judge_J64 σ v3) 64 [(3, gi v3)] [] σ := by
  unfold f_X7_judge_J64
  refine gk_bipush (pc := 64) dX7_judge_64 (by decide +kernel) ?_
  refine gk_iload_n (pc := 66) 0 dX7_judge_66 rfl ?_
  refine gk_iadd (pc := 67) dX7_judge_67 ?_
  exact gk_iret (pc := 68) rfl dX7_judge_68
def f_X7_judge (v1 : Int) (v2 : Int) (σ : gs_Mem) : Option (Int) :=
  (f_X7_in (gn v1) 0 5 σ).bind fun u1 =>
  if (gn u1) = 0 then
    some (-1)
  else
    gs_chk (gn v1) 6 (
    if (gn (σ 76 (gn v1).toNat)) ≤ 0 then
      f_X7_judge_L28 σ v1 v2 (fun w3 =>
        f_X7_judge_J64 σ w3) gs_fuel 0
    else
      some (-12))
set_option maxRecDepth 100000 in
set_option maxHeartbeats 4000000 in
theorem c_X7_judge {E : gs_E} (v1 : Int) (v2 : Int)  (σ : gs_Mem) : gs_C E yX7_judge cX7_judge 4 (some .int) 0 { frames := 1, cells := 0, slots := 0, locals := 25 } [gr E 70, gi v1, gi v2] σ (f_X7_judge v1 v2 σ) (fun v : Int => (v, σ)) := by
  unfold f_X7_judge
  refine gs_enter (L := [(0, gr E 70), (1, gi v1), (2, gi v2)]) (by decide) rfl rfl (Nat.le_of_ble_eq_true rfl) rfl ?_
  refine gk_iload_n (pc := 0) 1 dX7_judge_0 rfl ?_
  refine gk_i2l (pc := 1) dX7_judge_1 ?_
  refine gk_lconst (x := 0) (pc := 2) dX7_judge_2 (by decide +kernel) ?_
  refine gk_ldc2 (x := 5) (pc := 3) rfl dX7_judge_3 ww_1091 (by decide +kernel) ?_
  refine gk_callS_ir (As := [gl (gn v1), gl 0, gl 5]) (pc := 6) (c_X7_in (gn v1) 0 5 σ) rfl mm_X7_in ww_817 (gs_fit_of (Nat.le_of_ble_eq_true rfl) (Nat.le_of_ble_eq_true rfl)) rfl rfl (Nat.le_of_ble_eq_true rfl) dX7_judge_6 (fun u1 => ?_)
  refine gk_if_ne (tgt := 14) (pc := 9) dX7_judge_9 (by decide) rfl ?_ ?_
  · refine gk_aload_n (pc := 14) 0 dX7_judge_14 rfl ?_
    refine gk_getR (q := 76) (pc := 15) rfl clsX7 cll_70 sh_70 8 (by decide) rfl ww_783 dX7_judge_15 ?_
    refine gk_iload_n (pc := 18) 1 dX7_judge_18 rfl ?_
    refine gk_iald_c (pc := 19) cll_76 sh_76 rfl dX7_judge_19 ?_
    refine gk_if_le (tgt := 26) (pc := 20) dX7_judge_20 (by decide) rfl ?_ ?_
    · refine gk_iconst (pc := 26) dX7_judge_26 ?_
      refine gk_istore_n (L' := [(3, gi 0), (0, gr E 70), (1, gi v1), (2, gi v2)]) (pc := 27) dX7_judge_27 (Nat.le_of_ble_eq_true rfl) rfl ?_
      refine gk_sub (L' := [(0, gr E 70), (1, gi v1), (2, gi v2), (3, gi 0)]) [1, 2, 3, 0] rfl ?_
      refine k_X7_judge_L28 σ v1 v2 _ ?_ gs_fuel 0
      · intro w3
        exact k_X7_judge_J64 σ w3
    · refine gk_bipush (pc := 23) dX7_judge_23 (by decide +kernel) ?_
      exact gk_iret (pc := 25) rfl dX7_judge_25
  · refine gk_iconst (pc := 12) dX7_judge_12 ?_
    exact gk_iret (pc := 13) rfl dX7_judge_13
def f_X7_tape_L80 (v1 : Int) : Nat → Int → gs_Mem → Option (Int × gs_Mem)
  | 0, _, _ => none
  | n + 1, v4, σ =>
    if 60 ≤ (gn v4) then
      some (1, σ)
    else
      gs_chk (gn ((60 * v1) + v4)) 360 (
      f_X7_tape_L80 v1 n (v4 + 1) (gs_st σ 78 (gn ((60 * v1) + v4)).toNat 0))
set_option maxRecDepth 100000 in
set_option maxHeartbeats 4000000 in
theorem k_X7_tape_L80 {E : gs_E} (v1 : Int)   : ∀ (n : Nat) (v4 : Int) (σ : gs_Mem), gs_K E (gs_MC E yX7_tape cX7_tape 5 (some .int) 0 { frames := 1, cells := 0, slots := 0, locals := 25 }) (fun b : Int × gs_Mem => b) (f_X7_tape_L80 v1 n v4 σ) 80 [(0, gr E 70), (1, gi v1), (4, gi v4)] [] σ := by
  intro n
  induction n with
  | zero => intro v4 σ; rw [f_X7_tape_L80]; exact gk_none
  | succ n ih =>
    intro v4 σ; rw [f_X7_tape_L80]
    refine gk_iload (pc := 80) 2 dX7_tape_80 rfl ?_
    refine gk_bipush (pc := 82) dX7_tape_82 (by decide +kernel) ?_
    refine gk_icmp_ge (tgt := 106) (pc := 84) dX7_tape_84 (by decide) rfl (by decide +kernel) ?_ ?_
    · refine gk_iconst (pc := 106) dX7_tape_106 ?_
      exact gk_iret (pc := 107) rfl dX7_tape_107
    · refine gk_aload_n (pc := 87) 0 dX7_tape_87 rfl ?_
      refine gk_getR (q := 78) (pc := 88) rfl clsX7 cll_70 sh_70 10 (by decide) rfl ww_785 dX7_tape_88 ?_
      refine gk_bipush (pc := 91) dX7_tape_91 (by decide +kernel) ?_
      refine gk_iload_n (pc := 93) 1 dX7_tape_93 rfl ?_
      refine gk_imul (pc := 94) dX7_tape_94 ?_
      refine gk_iload (pc := 95) 2 dX7_tape_95 rfl ?_
      refine gk_iadd (pc := 97) dX7_tape_97 ?_
      refine gk_lconst (x := 0) (pc := 98) dX7_tape_98 (by decide +kernel) ?_
      refine gk_last_c (pc := 99) cll_78 sh_78 rfl dX7_tape_99 ?_
      refine gk_iinc (L' := [(4, gi (v4 + 1)), (0, gr E 70), (1, gi v1)]) (pc := 100) 2 dX7_tape_100 rfl (Nat.le_of_ble_eq_true rfl) rfl ?_
      refine gk_goto (tgt := 80) (pc := 103) dX7_tape_103 (by decide) ?_
      refine gk_sub (L' := [(0, gr E 70), (1, gi v1), (4, gi (v4 + 1))]) [1, 2, 0] rfl ?_
      exact ih (v4 + 1) (gs_st σ 78 (gn ((60 * v1) + v4)).toNat 0)
def f_X7_tape_J76 (v1 : Int) (t0 : Int) (t1 : Int) (σ : gs_Mem) : Option (Int × gs_Mem) :=
  gs_chk (gn t1) 6 (
  f_X7_tape_L80 v1 gs_fuel 0 (gs_st σ 77 (gn t1).toNat t0))
set_option maxRecDepth 100000 in
set_option maxHeartbeats 4000000 in
theorem k_X7_tape_J76 {E : gs_E}  (v1 : Int) (t0 : Int) (t1 : Int)   (σ : gs_Mem) : gs_K E (gs_MC E yX7_tape cX7_tape 5 (some .int) 0 { frames := 1, cells := 0, slots := 0, locals := 25 }) (fun b : Int × gs_Mem => b) (f_X7_tape_J76 v1 t0 t1 σ) 76 [(0, gr E 70), (1, gi v1)] [gi t0, gi t1, gr E 77] σ := by
  unfold f_X7_tape_J76
  refine gk_iast_c (pc := 76) cll_77 sh_77 rfl dX7_tape_76 ?_
  refine gk_iconst (pc := 77) dX7_tape_77 ?_
  refine gk_istore (L' := [(4, gi 0), (0, gr E 70), (1, gi v1)]) (pc := 78) dX7_tape_78 (Nat.le_of_ble_eq_true rfl) rfl ?_
  refine gk_sub (L' := [(0, gr E 70), (1, gi v1), (4, gi 0)]) [1, 2, 0] rfl ?_
  exact k_X7_tape_L80 v1 gs_fuel 0 (gs_st σ 77 (gn t1).toNat t0)
def f_X7_tape_J54 (v1 : Int) (v2 : Int) (v3 : Int) (σ : gs_Mem) : Option (Int × gs_Mem) :=
  gs_chk (gn v1) 6 (
  if (gn v2) = (-1) then
    f_X7_tape_J76 v1 0 v1 (gs_st σ 76 (gn v1).toNat v2)
  else
    f_X7_tape_J76 v1 v3 v1 (gs_st σ 76 (gn v1).toNat v2))
set_option maxRecDepth 100000 in
set_option maxHeartbeats 4000000 in
theorem k_X7_tape_J54 {E : gs_E}  (v1 : Int) (v2 : Int) (v3 : Int)   (σ : gs_Mem) : gs_K E (gs_MC E yX7_tape cX7_tape 5 (some .int) 0 { frames := 1, cells := 0, slots := 0, locals := 25 }) (fun b : Int × gs_Mem => b) (f_X7_tape_J54 v1 v2 v3 σ) 54 [(0, gr E 70), (1, gi v1), (2, gi v2), (3, gi v3)] [] σ := by
  unfold f_X7_tape_J54
  refine gk_aload_n (pc := 54) 0 dX7_tape_54 rfl ?_
  refine gk_getR (q := 76) (pc := 55) rfl clsX7 cll_70 sh_70 8 (by decide) rfl ww_783 dX7_tape_55 ?_
  refine gk_iload_n (pc := 58) 1 dX7_tape_58 rfl ?_
  refine gk_iload_n (pc := 59) 2 dX7_tape_59 rfl ?_
  refine gk_iast_c (pc := 60) cll_76 sh_76 rfl dX7_tape_60 ?_
  refine gk_aload_n (pc := 61) 0 dX7_tape_61 rfl ?_
  refine gk_getR (q := 77) (pc := 62) rfl clsX7 cll_70 sh_70 9 (by decide) rfl ww_784 dX7_tape_62 ?_
  refine gk_iload_n (pc := 65) 1 dX7_tape_65 rfl ?_
  refine gk_iload_n (pc := 66) 2 dX7_tape_66 rfl ?_
  refine gk_iconst (pc := 67) dX7_tape_67 ?_
  refine gk_icmp_ne (tgt := 75) (pc := 68) dX7_tape_68 (by decide) rfl (by decide +kernel) ?_ ?_
  · refine gk_iload_n (pc := 75) 3 dX7_tape_75 rfl ?_
    refine gk_sub (L' := [(0, gr E 70), (1, gi v1)]) [0, 1] rfl ?_
    exact k_X7_tape_J76 v1 v3 v1 (gs_st σ 76 (gn v1).toNat v2)
  · refine gk_iconst (pc := 71) dX7_tape_71 ?_
    refine gk_goto (tgt := 76) (pc := 72) dX7_tape_72 (by decide) ?_
    refine gk_sub (L' := [(0, gr E 70), (1, gi v1)]) [0, 1] rfl ?_
    exact k_X7_tape_J76 v1 0 v1 (gs_st σ 76 (gn v1).toNat v2)
def f_X7_tape_J42 (v1 : Int) (v2 : Int) (v3 : Int) (σ : gs_Mem) : Option (Int × gs_Mem) :=
  if (gn v2) = (-1) then
    f_X7_tape_J54 v1 v2 v3 σ
  else
    if 0 ≤ (gn v3) then
      f_X7_tape_J54 v1 v2 v3 σ
    else
      some ((-14), σ)
set_option maxRecDepth 100000 in
set_option maxHeartbeats 4000000 in
theorem k_X7_tape_J42 {E : gs_E}  (v1 : Int) (v2 : Int) (v3 : Int)   (σ : gs_Mem) : gs_K E (gs_MC E yX7_tape cX7_tape 5 (some .int) 0 { frames := 1, cells := 0, slots := 0, locals := 25 }) (fun b : Int × gs_Mem => b) (f_X7_tape_J42 v1 v2 v3 σ) 42 [(0, gr E 70), (1, gi v1), (2, gi v2), (3, gi v3)] [] σ := by
  unfold f_X7_tape_J42
  refine gk_iload_n (pc := 42) 2 dX7_tape_42 rfl ?_
  refine gk_iconst (pc := 43) dX7_tape_43 ?_
  refine gk_icmp_eq (tgt := 54) (pc := 44) dX7_tape_44 (by decide) rfl (by decide +kernel) ?_ ?_
  · exact k_X7_tape_J54 v1 v2 v3 σ
  · refine gk_iload_n (pc := 47) 3 dX7_tape_47 rfl ?_
    refine gk_if_ge (tgt := 54) (pc := 48) dX7_tape_48 (by decide) rfl ?_ ?_
    · exact k_X7_tape_J54 v1 v2 v3 σ
    · refine gk_bipush (pc := 51) dX7_tape_51 (by decide +kernel) ?_
      exact gk_iret (pc := 53) rfl dX7_tape_53
def f_X7_tape (v1 : Int) (v2 : Int) (v3 : Int) (σ : gs_Mem) : Option (Int × gs_Mem) :=
  (f_X7_in (gn v1) 0 5 σ).bind fun u1 =>
  if (gn u1) = 0 then
    some ((-1), σ)
  else
    (f_X7_in (gn v2) (-1) 4 σ).bind fun u2 =>
    if (gn u2) = 0 then
      some ((-2), σ)
    else
      if (gn v2) = (-1) then
        f_X7_tape_J42 v1 v2 v3 σ
      else
        if (gn v3) ≤ 60 then
          f_X7_tape_J42 v1 v2 v3 σ
        else
          some ((-2), σ)
set_option maxRecDepth 100000 in
set_option maxHeartbeats 4000000 in
theorem c_X7_tape {E : gs_E} (v1 : Int) (v2 : Int) (v3 : Int)  (σ : gs_Mem) : gs_C E yX7_tape cX7_tape 5 (some .int) 0 { frames := 1, cells := 0, slots := 0, locals := 25 } [gr E 70, gi v1, gi v2, gi v3] σ (f_X7_tape v1 v2 v3 σ) (fun b : Int × gs_Mem => b) := by
  unfold f_X7_tape
  refine gs_enter (L := [(0, gr E 70), (1, gi v1), (2, gi v2), (3, gi v3)]) (by decide) rfl rfl (Nat.le_of_ble_eq_true rfl) rfl ?_
  refine gk_iload_n (pc := 0) 1 dX7_tape_0 rfl ?_
  refine gk_i2l (pc := 1) dX7_tape_1 ?_
  refine gk_lconst (x := 0) (pc := 2) dX7_tape_2 (by decide +kernel) ?_
  refine gk_ldc2 (x := 5) (pc := 3) rfl dX7_tape_3 ww_1091 (by decide +kernel) ?_
  refine gk_callS_ir (As := [gl (gn v1), gl 0, gl 5]) (pc := 6) (c_X7_in (gn v1) 0 5 σ) rfl mm_X7_in ww_817 (gs_fit_of (Nat.le_of_ble_eq_true rfl) (Nat.le_of_ble_eq_true rfl)) rfl rfl (Nat.le_of_ble_eq_true rfl) dX7_tape_6 (fun u1 => ?_)
  refine gk_if_ne (tgt := 14) (pc := 9) dX7_tape_9 (by decide) rfl ?_ ?_
  · refine gk_iload_n (pc := 14) 2 dX7_tape_14 rfl ?_
    refine gk_i2l (pc := 15) dX7_tape_15 ?_
    refine gk_ldc2 (x := -1) (pc := 16) rfl dX7_tape_16 ww_847 (by decide +kernel) ?_
    refine gk_ldc2 (x := 4) (pc := 19) rfl dX7_tape_19 ww_838 (by decide +kernel) ?_
    refine gk_callS_ir (As := [gl (gn v2), gl (-1), gl 4]) (pc := 22) (c_X7_in (gn v2) (-1) 4 σ) rfl mm_X7_in ww_817 (gs_fit_of (Nat.le_of_ble_eq_true rfl) (Nat.le_of_ble_eq_true rfl)) rfl rfl (Nat.le_of_ble_eq_true rfl) dX7_tape_22 (fun u2 => ?_)
    refine gk_if_eq (tgt := 39) (pc := 25) dX7_tape_25 (by decide) rfl ?_ ?_
    · refine gk_bipush (pc := 39) dX7_tape_39 (by decide +kernel) ?_
      exact gk_iret (pc := 41) rfl dX7_tape_41
    · refine gk_iload_n (pc := 28) 2 dX7_tape_28 rfl ?_
      refine gk_iconst (pc := 29) dX7_tape_29 ?_
      refine gk_icmp_eq (tgt := 42) (pc := 30) dX7_tape_30 (by decide) rfl (by decide +kernel) ?_ ?_
      · exact k_X7_tape_J42 v1 v2 v3 σ
      · refine gk_iload_n (pc := 33) 3 dX7_tape_33 rfl ?_
        refine gk_bipush (pc := 34) dX7_tape_34 (by decide +kernel) ?_
        refine gk_icmp_le (tgt := 42) (pc := 36) dX7_tape_36 (by decide) rfl (by decide +kernel) ?_ ?_
        · exact k_X7_tape_J42 v1 v2 v3 σ
        · refine gk_bipush (pc := 39) dX7_tape_39 (by decide +kernel) ?_
          exact gk_iret (pc := 41) rfl dX7_tape_41
  · refine gk_iconst (pc := 12) dX7_tape_12 ?_
    exact gk_iret (pc := 13) rfl dX7_tape_13
def f_X7_lowestBits (v0 : Int) (v1 : Int) (σ : gs_Mem) : Option (Int) :=
  if (gn v0) = 0 then
    some (gn (gb v1))
  else if (gn v0) = 1 then
    some (gn (gsh v1))
  else if (gn v0) = 2 then
    some (gn v1)
  else if (gn v0) = 3 then
    some v1
  else 
    if (gn (gcmp v1 0)) = 0 then
      some 0
    else
      some 1
set_option maxRecDepth 100000 in
set_option maxHeartbeats 4000000 in
theorem c_X7_lowestBits {E : gs_E} (v0 : Int) (v1 : Int)  (σ : gs_Mem) : gs_C E yX7_lowestBits cX7_lowestBits 3 (some .long) 1 { frames := 0, cells := 0, slots := 0, locals := 0 } [gi v0, gl v1] σ (f_X7_lowestBits v0 v1 σ) (fun v : Int => (v, σ)) := by
  unfold f_X7_lowestBits
  refine gs_enter (L := [(0, gi v0), (1, gl v1)]) (by decide) rfl rfl (Nat.le_of_ble_eq_true rfl) rfl ?_
  refine gk_iload_n (pc := 0) 0 dX7_lowestBits_0 rfl ?_
  refine gk_sw (tgt := 32) (pc := 1) 0 dX7_lowestBits_1 (by decide) rfl (by decide) ?_ (fun hs0 => ?_)
  · refine gk_lload_n (pc := 32) 1 dX7_lowestBits_32 rfl ?_
    refine gk_l2i (pc := 33) dX7_lowestBits_33 ?_
    refine gk_i2b (pc := 34) dX7_lowestBits_34 ?_
    refine gk_i2l (pc := 35) dX7_lowestBits_35 ?_
    exact gk_lret (pc := 36) rfl dX7_lowestBits_36
  refine gk_sw (tgt := 37) (pc := 1) 1 dX7_lowestBits_1 (by decide) rfl (by decide) ?_ (fun hs1 => ?_)
  · refine gk_lload_n (pc := 37) 1 dX7_lowestBits_37 rfl ?_
    refine gk_l2i (pc := 38) dX7_lowestBits_38 ?_
    refine gk_i2s (pc := 39) dX7_lowestBits_39 ?_
    refine gk_i2l (pc := 40) dX7_lowestBits_40 ?_
    exact gk_lret (pc := 41) rfl dX7_lowestBits_41
  refine gk_sw (tgt := 42) (pc := 1) 2 dX7_lowestBits_1 (by decide) rfl (by decide) ?_ (fun hs2 => ?_)
  · refine gk_lload_n (pc := 42) 1 dX7_lowestBits_42 rfl ?_
    refine gk_l2i (pc := 43) dX7_lowestBits_43 ?_
    refine gk_i2l (pc := 44) dX7_lowestBits_44 ?_
    exact gk_lret (pc := 45) rfl dX7_lowestBits_45
  refine gk_sw (tgt := 46) (pc := 1) 3 dX7_lowestBits_1 (by decide) rfl (by decide) ?_ (fun hs3 => ?_)
  · refine gk_lload_n (pc := 46) 1 dX7_lowestBits_46 rfl ?_
    exact gk_lret (pc := 47) rfl dX7_lowestBits_47
  refine gk_swD (tgt := 48) (pc := 1) dX7_lowestBits_1 (by omega) (by decide) ?_
  refine gk_lload_n (pc := 48) 1 dX7_lowestBits_48 rfl ?_
  refine gk_lconst (x := 0) (pc := 49) dX7_lowestBits_49 (by decide +kernel) ?_
  refine gk_lcmp (pc := 50) dX7_lowestBits_50 ?_
  refine gk_if_ne (tgt := 58) (pc := 51) dX7_lowestBits_51 (by decide) rfl ?_ ?_
  · refine gk_lconst (x := 1) (pc := 58) dX7_lowestBits_58 (by decide +kernel) ?_
    exact gk_lret (pc := 59) rfl dX7_lowestBits_59
  · refine gk_lconst (x := 0) (pc := 54) dX7_lowestBits_54 (by decide +kernel) ?_
    refine gk_goto (tgt := 59) (pc := 55) dX7_lowestBits_55 (by decide) ?_
    exact gk_lret (pc := 59) rfl dX7_lowestBits_59
def f_X7_item (v1 : Int) (v2 : Int) (v3 : Int) (σ : gs_Mem) : Option (Int × gs_Mem) :=
  (f_X7_in (gn v1) 0 5 σ).bind fun u1 =>
  if (gn u1) = 0 then
    some ((-1), σ)
  else
    gs_chk (gn v1) 6 (
    if (gn (σ 76 (gn v1).toNat)) = (-1) then
      some ((-11), σ)
    else
      gs_chk (gn v1) 6 (
      (f_X7_in (gn v2) 0 (gn ((σ 77 (gn v1).toNat) - 1)) σ).bind fun u2 =>
      if (gn u2) = 0 then
        some ((-13), σ)
      else
        gs_chk (gn v1) 6 (
        (f_X7_lowestBits (σ 76 (gn v1).toNat) v3 σ).bind fun u3 =>
        gs_chk (gn ((60 * v1) + v2)) 360 (
        some (1, (gs_st σ 78 (gn ((60 * v1) + v2)).toNat u3))))))
set_option maxRecDepth 100000 in
set_option maxHeartbeats 4000000 in
theorem c_X7_item {E : gs_E} (v1 : Int) (v2 : Int) (v3 : Int)  (σ : gs_Mem) : gs_C E yX7_item cX7_item 5 (some .int) 0 { frames := 1, cells := 0, slots := 0, locals := 25 } [gr E 70, gi v1, gi v2, gl v3] σ (f_X7_item v1 v2 v3 σ) (fun b : Int × gs_Mem => b) := by
  unfold f_X7_item
  refine gs_enter (L := [(0, gr E 70), (1, gi v1), (2, gi v2), (3, gl v3)]) (by decide) rfl rfl (Nat.le_of_ble_eq_true rfl) rfl ?_
  refine gk_iload_n (pc := 0) 1 dX7_item_0 rfl ?_
  refine gk_i2l (pc := 1) dX7_item_1 ?_
  refine gk_lconst (x := 0) (pc := 2) dX7_item_2 (by decide +kernel) ?_
  refine gk_ldc2 (x := 5) (pc := 3) rfl dX7_item_3 ww_1091 (by decide +kernel) ?_
  refine gk_callS_ir (As := [gl (gn v1), gl 0, gl 5]) (pc := 6) (c_X7_in (gn v1) 0 5 σ) rfl mm_X7_in ww_817 (gs_fit_of (Nat.le_of_ble_eq_true rfl) (Nat.le_of_ble_eq_true rfl)) rfl rfl (Nat.le_of_ble_eq_true rfl) dX7_item_6 (fun u1 => ?_)
  refine gk_if_ne (tgt := 14) (pc := 9) dX7_item_9 (by decide) rfl ?_ ?_
  · refine gk_aload_n (pc := 14) 0 dX7_item_14 rfl ?_
    refine gk_getR (q := 76) (pc := 15) rfl clsX7 cll_70 sh_70 8 (by decide) rfl ww_783 dX7_item_15 ?_
    refine gk_iload_n (pc := 18) 1 dX7_item_18 rfl ?_
    refine gk_iald_c (pc := 19) cll_76 sh_76 rfl dX7_item_19 ?_
    refine gk_iconst (pc := 20) dX7_item_20 ?_
    refine gk_icmp_ne (tgt := 27) (pc := 21) dX7_item_21 (by decide) rfl (by decide +kernel) ?_ ?_
    · refine gk_iload_n (pc := 27) 2 dX7_item_27 rfl ?_
      refine gk_i2l (pc := 28) dX7_item_28 ?_
      refine gk_lconst (x := 0) (pc := 29) dX7_item_29 (by decide +kernel) ?_
      refine gk_aload_n (pc := 30) 0 dX7_item_30 rfl ?_
      refine gk_getR (q := 77) (pc := 31) rfl clsX7 cll_70 sh_70 9 (by decide) rfl ww_784 dX7_item_31 ?_
      refine gk_iload_n (pc := 34) 1 dX7_item_34 rfl ?_
      refine gk_iald_c (pc := 35) cll_77 sh_77 rfl dX7_item_35 ?_
      refine gk_iconst (pc := 36) dX7_item_36 ?_
      refine gk_isub (pc := 37) dX7_item_37 ?_
      refine gk_i2l (pc := 38) dX7_item_38 ?_
      refine gk_callS_ir (As := [gl (gn v2), gl 0, gl (gn ((σ 77 (gn v1).toNat) - 1))]) (pc := 39) (c_X7_in (gn v2) 0 (gn ((σ 77 (gn v1).toNat) - 1)) σ) rfl mm_X7_in ww_817 (gs_fit_of (Nat.le_of_ble_eq_true rfl) (Nat.le_of_ble_eq_true rfl)) rfl rfl (Nat.le_of_ble_eq_true rfl) dX7_item_39 (fun u2 => ?_)
      refine gk_if_ne (tgt := 48) (pc := 42) dX7_item_42 (by decide) rfl ?_ ?_
      · refine gk_aload_n (pc := 48) 0 dX7_item_48 rfl ?_
        refine gk_getR (q := 78) (pc := 49) rfl clsX7 cll_70 sh_70 10 (by decide) rfl ww_785 dX7_item_49 ?_
        refine gk_bipush (pc := 52) dX7_item_52 (by decide +kernel) ?_
        refine gk_iload_n (pc := 54) 1 dX7_item_54 rfl ?_
        refine gk_imul (pc := 55) dX7_item_55 ?_
        refine gk_iload_n (pc := 56) 2 dX7_item_56 rfl ?_
        refine gk_iadd (pc := 57) dX7_item_57 ?_
        refine gk_aload_n (pc := 58) 0 dX7_item_58 rfl ?_
        refine gk_getR (q := 76) (pc := 59) rfl clsX7 cll_70 sh_70 8 (by decide) rfl ww_783 dX7_item_59 ?_
        refine gk_iload_n (pc := 62) 1 dX7_item_62 rfl ?_
        refine gk_iald_c (pc := 63) cll_76 sh_76 rfl dX7_item_63 ?_
        refine gk_lload_n (pc := 64) 3 dX7_item_64 rfl ?_
        refine gk_callS_lr (As := [gi (σ 76 (gn v1).toNat), gl v3]) (pc := 65) (c_X7_lowestBits (σ 76 (gn v1).toNat) v3 σ) rfl mm_X7_lowestBits ww_1100 (gs_fit_of (Nat.le_of_ble_eq_true rfl) (Nat.le_of_ble_eq_true rfl)) rfl rfl (Nat.le_of_ble_eq_true rfl) dX7_item_65 (fun u3 => ?_)
        refine gk_last_c (pc := 68) cll_78 sh_78 rfl dX7_item_68 ?_
        refine gk_iconst (pc := 69) dX7_item_69 ?_
        exact gk_iret (pc := 70) rfl dX7_item_70
      · refine gk_bipush (pc := 45) dX7_item_45 (by decide +kernel) ?_
        exact gk_iret (pc := 47) rfl dX7_item_47
    · refine gk_bipush (pc := 24) dX7_item_24 (by decide +kernel) ?_
      exact gk_iret (pc := 26) rfl dX7_item_26
  · refine gk_iconst (pc := 12) dX7_item_12 ?_
    exact gk_iret (pc := 13) rfl dX7_item_13
def f_X7_peek (v1 : Int) (v2 : Int) (σ : gs_Mem) : Option (Int) :=
  (f_X7_in (gn v1) 0 5 σ).bind fun u1 =>
  if (gn u1) = 0 then
    some (-9223372036854775808)
  else
    gs_chk (gn v1) 6 (
    (f_X7_in (gn v2) 0 (gn ((σ 77 (gn v1).toNat) - 1)) σ).bind fun u2 =>
    if (gn u2) = 0 then
      some (-9223372036854775808)
    else
      gs_chk (gn ((60 * v1) + v2)) 360 (
      some (σ 78 (gn ((60 * v1) + v2)).toNat)))
set_option maxRecDepth 100000 in
set_option maxHeartbeats 4000000 in
theorem c_X7_peek {E : gs_E} (v1 : Int) (v2 : Int)  (σ : gs_Mem) : gs_C E yX7_peek cX7_peek 3 (some .long) 1 { frames := 1, cells := 0, slots := 0, locals := 25 } [gr E 70, gi v1, gi v2] σ (f_X7_peek v1 v2 σ) (fun v : Int => (v, σ)) := by
  unfold f_X7_peek
  refine gs_enter (L := [(0, gr E 70), (1, gi v1), (2, gi v2)]) (by decide) rfl rfl (Nat.le_of_ble_eq_true rfl) rfl ?_
  refine gk_iload_n (pc := 0) 1 dX7_peek_0 rfl ?_
  refine gk_i2l (pc := 1) dX7_peek_1 ?_
  refine gk_lconst (x := 0) (pc := 2) dX7_peek_2 (by decide +kernel) ?_
  refine gk_ldc2 (x := 5) (pc := 3) rfl dX7_peek_3 ww_1091 (by decide +kernel) ?_
  refine gk_callS_ir (As := [gl (gn v1), gl 0, gl 5]) (pc := 6) (c_X7_in (gn v1) 0 5 σ) rfl mm_X7_in ww_817 (gs_fit_of (Nat.le_of_ble_eq_true rfl) (Nat.le_of_ble_eq_true rfl)) rfl rfl (Nat.le_of_ble_eq_true rfl) dX7_peek_6 (fun u1 => ?_)
  refine gk_if_eq (tgt := 44) (pc := 9) dX7_peek_9 (by decide) rfl ?_ ?_
  · refine gk_ldc2 (x := -9223372036854775808) (pc := 44) rfl dX7_peek_44 ww_1041 (by decide +kernel) ?_
    exact gk_lret (pc := 47) rfl dX7_peek_47
  · refine gk_iload_n (pc := 12) 2 dX7_peek_12 rfl ?_
    refine gk_i2l (pc := 13) dX7_peek_13 ?_
    refine gk_lconst (x := 0) (pc := 14) dX7_peek_14 (by decide +kernel) ?_
    refine gk_aload_n (pc := 15) 0 dX7_peek_15 rfl ?_
    refine gk_getR (q := 77) (pc := 16) rfl clsX7 cll_70 sh_70 9 (by decide) rfl ww_784 dX7_peek_16 ?_
    refine gk_iload_n (pc := 19) 1 dX7_peek_19 rfl ?_
    refine gk_iald_c (pc := 20) cll_77 sh_77 rfl dX7_peek_20 ?_
    refine gk_iconst (pc := 21) dX7_peek_21 ?_
    refine gk_isub (pc := 22) dX7_peek_22 ?_
    refine gk_i2l (pc := 23) dX7_peek_23 ?_
    refine gk_callS_ir (As := [gl (gn v2), gl 0, gl (gn ((σ 77 (gn v1).toNat) - 1))]) (pc := 24) (c_X7_in (gn v2) 0 (gn ((σ 77 (gn v1).toNat) - 1)) σ) rfl mm_X7_in ww_817 (gs_fit_of (Nat.le_of_ble_eq_true rfl) (Nat.le_of_ble_eq_true rfl)) rfl rfl (Nat.le_of_ble_eq_true rfl) dX7_peek_24 (fun u2 => ?_)
    refine gk_if_eq (tgt := 44) (pc := 27) dX7_peek_27 (by decide) rfl ?_ ?_
    · refine gk_ldc2 (x := -9223372036854775808) (pc := 44) rfl dX7_peek_44 ww_1041 (by decide +kernel) ?_
      exact gk_lret (pc := 47) rfl dX7_peek_47
    · refine gk_aload_n (pc := 30) 0 dX7_peek_30 rfl ?_
      refine gk_getR (q := 78) (pc := 31) rfl clsX7 cll_70 sh_70 10 (by decide) rfl ww_785 dX7_peek_31 ?_
      refine gk_bipush (pc := 34) dX7_peek_34 (by decide +kernel) ?_
      refine gk_iload_n (pc := 36) 1 dX7_peek_36 rfl ?_
      refine gk_imul (pc := 37) dX7_peek_37 ?_
      refine gk_iload_n (pc := 38) 2 dX7_peek_38 rfl ?_
      refine gk_iadd (pc := 39) dX7_peek_39 ?_
      refine gk_lald_c (pc := 40) cll_78 sh_78 rfl dX7_peek_40 ?_
      refine gk_goto (tgt := 47) (pc := 41) dX7_peek_41 (by decide) ?_
      exact gk_lret (pc := 47) rfl dX7_peek_47
def f_X7_shift_J160 (k135 : Int → gs_Mem → Option (Int × gs_Mem)) (v1 : Int) (v2 : Int) (v3 : Int) (v4 : Int) (v5 : Int) (v6 : Int) (t0 : Int) (σ : gs_Mem) : Option (Int × gs_Mem) :=
  gs_chk (gn (((60 * v1) + v2) + t0)) 360 (
  gs_chk (gn (((60 * v3) + v4) + t0)) 360 (
  k135 (v6 + 1) (gs_st σ 78 (gn (((60 * v3) + v4) + t0)).toNat (σ 78 (gn (((60 * v1) + v2) + t0)).toNat))))
set_option maxRecDepth 100000 in
set_option maxHeartbeats 4000000 in
theorem k_X7_shift_J160 {E : gs_E} (k135 : Int → gs_Mem → Option (Int × gs_Mem))  (v1 : Int) (v2 : Int) (v3 : Int) (v4 : Int) (v5 : Int) (v6 : Int) (t0 : Int)  (hk135 : ∀ (w6 : Int) (σ : gs_Mem), gs_K E (gs_MC E yX7_shift cX7_shift 8 (some .int) 0 { frames := 1, cells := 0, slots := 0, locals := 25 }) (fun b : Int × gs_Mem => b) (k135 w6 σ) 135 [(0, gr E 70), (1, gi v1), (2, gi v2), (3, gi v3), (4, gi v4), (5, gi v5), (6, gi w6)] [] σ) (σ : gs_Mem) : gs_K E (gs_MC E yX7_shift cX7_shift 8 (some .int) 0 { frames := 1, cells := 0, slots := 0, locals := 25 }) (fun b : Int × gs_Mem => b) (f_X7_shift_J160 k135 v1 v2 v3 v4 v5 v6 t0 σ) 160 [(0, gr E 70), (1, gi v1), (2, gi v2), (3, gi v3), (4, gi v4), (5, gi v5), (6, gi v6)] [gi t0] σ := by
  unfold f_X7_shift_J160
  refine gk_istore (L' := [(7, gi t0), (0, gr E 70), (1, gi v1), (2, gi v2), (3, gi v3), (4, gi v4), (5, gi v5), (6, gi v6)]) (pc := 160) dX7_shift_160 (Nat.le_of_ble_eq_true rfl) rfl ?_
  refine gk_aload_n (pc := 162) 1 dX7_shift_162 rfl ?_
  refine gk_getR (q := 78) (pc := 163) rfl clsX7 cll_70 sh_70 10 (by decide) rfl ww_785 dX7_shift_163 ?_
  refine gk_bipush (pc := 166) dX7_shift_166 (by decide +kernel) ?_
  refine gk_iload_n (pc := 168) 4 dX7_shift_168 rfl ?_
  refine gk_imul (pc := 169) dX7_shift_169 ?_
  refine gk_iload (pc := 170) 5 dX7_shift_170 rfl ?_
  refine gk_iadd (pc := 172) dX7_shift_172 ?_
  refine gk_iload (pc := 173) 0 dX7_shift_173 rfl ?_
  refine gk_iadd (pc := 175) dX7_shift_175 ?_
  refine gk_aload_n (pc := 176) 1 dX7_shift_176 rfl ?_
  refine gk_getR (q := 78) (pc := 177) rfl clsX7 cll_70 sh_70 10 (by decide) rfl ww_785 dX7_shift_177 ?_
  refine gk_bipush (pc := 180) dX7_shift_180 (by decide +kernel) ?_
  refine gk_iload_n (pc := 182) 2 dX7_shift_182 rfl ?_
  refine gk_imul (pc := 183) dX7_shift_183 ?_
  refine gk_iload_n (pc := 184) 3 dX7_shift_184 rfl ?_
  refine gk_iadd (pc := 185) dX7_shift_185 ?_
  refine gk_iload (pc := 186) 0 dX7_shift_186 rfl ?_
  refine gk_iadd (pc := 188) dX7_shift_188 ?_
  refine gk_lald_c (pc := 189) cll_78 sh_78 rfl dX7_shift_189 ?_
  refine gk_last_c (pc := 190) cll_78 sh_78 rfl dX7_shift_190 ?_
  refine gk_iinc (L' := [(6, gi (v6 + 1)), (7, gi t0), (0, gr E 70), (1, gi v1), (2, gi v2), (3, gi v3), (4, gi v4), (5, gi v5)]) (pc := 191) 7 dX7_shift_191 rfl (Nat.le_of_ble_eq_true rfl) rfl ?_
  refine gk_goto (tgt := 135) (pc := 194) dX7_shift_194 (by decide) ?_
  refine gk_sub (L' := [(0, gr E 70), (1, gi v1), (2, gi v2), (3, gi v3), (4, gi v4), (5, gi v5), (6, gi (v6 + 1))]) [2, 3, 4, 5, 6, 7, 0] rfl ?_
  exact hk135 (v6 + 1) (gs_st σ 78 (gn (((60 * v3) + v4) + t0)).toNat (σ 78 (gn (((60 * v1) + v2) + t0)).toNat))
def f_X7_shift_L135 (v1 : Int) (v2 : Int) (v3 : Int) (v4 : Int) (v5 : Int) : Nat → Int → gs_Mem → Option (Int × gs_Mem)
  | 0, _, _ => none
  | n + 1, v6, σ =>
    if (gn v5) ≤ (gn v6) then
      some (v5, σ)
    else
      if (gn v4) ≤ (gn v2) then
        f_X7_shift_J160 (f_X7_shift_L135 v1 v2 v3 v4 v5 n) v1 v2 v3 v4 v5 v6 v6 σ
      else
        f_X7_shift_J160 (f_X7_shift_L135 v1 v2 v3 v4 v5 n) v1 v2 v3 v4 v5 v6 ((v5 - 1) - v6) σ
set_option maxRecDepth 100000 in
set_option maxHeartbeats 4000000 in
theorem k_X7_shift_L135 {E : gs_E} (v1 : Int) (v2 : Int) (v3 : Int) (v4 : Int) (v5 : Int)   : ∀ (n : Nat) (v6 : Int) (σ : gs_Mem), gs_K E (gs_MC E yX7_shift cX7_shift 8 (some .int) 0 { frames := 1, cells := 0, slots := 0, locals := 25 }) (fun b : Int × gs_Mem => b) (f_X7_shift_L135 v1 v2 v3 v4 v5 n v6 σ) 135 [(0, gr E 70), (1, gi v1), (2, gi v2), (3, gi v3), (4, gi v4), (5, gi v5), (6, gi v6)] [] σ := by
  intro n
  induction n with
  | zero => intro v6 σ; rw [f_X7_shift_L135]; exact gk_none
  | succ n ih =>
    intro v6 σ; rw [f_X7_shift_L135]
    refine gk_iload (pc := 135) 6 dX7_shift_135 rfl ?_
    refine gk_iload (pc := 137) 5 dX7_shift_137 rfl ?_
    refine gk_icmp_ge (tgt := 197) (pc := 139) dX7_shift_139 (by decide) rfl rfl ?_ ?_
    · refine gk_iload (pc := 197) 5 dX7_shift_197 rfl ?_
      exact gk_iret (pc := 199) rfl dX7_shift_199
    · refine gk_iload_n (pc := 142) 2 dX7_shift_142 rfl ?_
      refine gk_iload (pc := 143) 4 dX7_shift_143 rfl ?_
      refine gk_icmp_ge (tgt := 158) (pc := 145) dX7_shift_145 (by decide) rfl rfl ?_ ?_
      · refine gk_iload (pc := 158) 6 dX7_shift_158 rfl ?_
        exact k_X7_shift_J160 (f_X7_shift_L135 v1 v2 v3 v4 v5 n) v1 v2 v3 v4 v5 v6 v6 ih σ
      · refine gk_iload (pc := 148) 5 dX7_shift_148 rfl ?_
        refine gk_iconst (pc := 150) dX7_shift_150 ?_
        refine gk_isub (pc := 151) dX7_shift_151 ?_
        refine gk_iload (pc := 152) 6 dX7_shift_152 rfl ?_
        refine gk_isub (pc := 154) dX7_shift_154 ?_
        refine gk_goto (tgt := 160) (pc := 155) dX7_shift_155 (by decide) ?_
        exact k_X7_shift_J160 (f_X7_shift_L135 v1 v2 v3 v4 v5 n) v1 v2 v3 v4 v5 v6 ((v5 - 1) - v6) ih σ
def f_X7_shift (v1 : Int) (v2 : Int) (v3 : Int) (v4 : Int) (v5 : Int) (σ : gs_Mem) : Option (Int × gs_Mem) :=
  (f_X7_in (gn v1) 0 5 σ).bind fun u1 =>
  if (gn u1) = 0 then
    some ((-1), σ)
  else
    (f_X7_in (gn v3) 0 5 σ).bind fun u2 =>
    if (gn u2) = 0 then
      some ((-1), σ)
    else
      gs_chk (gn v1) 6 (
      if (gn (σ 76 (gn v1).toNat)) = (-1) then
        some ((-11), σ)
      else
        gs_chk (gn v3) 6 (
        if (gn (σ 76 (gn v3).toNat)) = (-1) then
          some ((-11), σ)
        else
          gs_chk (gn v1) 6 (
          gs_chk (gn v3) 6 (
          if (gn (σ 76 (gn v1).toNat)) = (gn (σ 76 (gn v3).toNat)) then
            if (gn v5) < 0 then
              some ((-13), σ)
            else
              if (gn v2) < 0 then
                some ((-13), σ)
              else
                if (gn v4) < 0 then
                  some ((-13), σ)
                else
                  gs_chk (gn v1) 6 (
                  if (gn (σ 77 (gn v1).toNat)) < (gn v2) then
                    some ((-13), σ)
                  else
                    gs_chk (gn v3) 6 (
                    if (gn (σ 77 (gn v3).toNat)) < (gn v4) then
                      some ((-13), σ)
                    else
                      gs_chk (gn v1) 6 (
                      if (gn ((σ 77 (gn v1).toNat) - v2)) < (gn v5) then
                        some ((-13), σ)
                      else
                        gs_chk (gn v3) 6 (
                        if (gn v5) ≤ (gn ((σ 77 (gn v3).toNat) - v4)) then
                          f_X7_shift_L135 v1 v2 v3 v4 v5 gs_fuel 0 σ
                        else
                          some ((-13), σ)))))
          else
            some ((-12), σ)))))
set_option maxRecDepth 100000 in
set_option maxHeartbeats 4000000 in
theorem c_X7_shift {E : gs_E} (v1 : Int) (v2 : Int) (v3 : Int) (v4 : Int) (v5 : Int)  (σ : gs_Mem) : gs_C E yX7_shift cX7_shift 8 (some .int) 0 { frames := 1, cells := 0, slots := 0, locals := 25 } [gr E 70, gi v1, gi v2, gi v3, gi v4, gi v5] σ (f_X7_shift v1 v2 v3 v4 v5 σ) (fun b : Int × gs_Mem => b) := by
  unfold f_X7_shift
  refine gs_enter (L := [(0, gr E 70), (1, gi v1), (2, gi v2), (3, gi v3), (4, gi v4), (5, gi v5)]) (by decide) rfl rfl (Nat.le_of_ble_eq_true rfl) rfl ?_
  refine gk_iload_n (pc := 0) 1 dX7_shift_0 rfl ?_
  refine gk_i2l (pc := 1) dX7_shift_1 ?_
  refine gk_lconst (x := 0) (pc := 2) dX7_shift_2 (by decide +kernel) ?_
  refine gk_ldc2 (x := 5) (pc := 3) rfl dX7_shift_3 ww_1091 (by decide +kernel) ?_
  refine gk_callS_ir (As := [gl (gn v1), gl 0, gl 5]) (pc := 6) (c_X7_in (gn v1) 0 5 σ) rfl mm_X7_in ww_817 (gs_fit_of (Nat.le_of_ble_eq_true rfl) (Nat.le_of_ble_eq_true rfl)) rfl rfl (Nat.le_of_ble_eq_true rfl) dX7_shift_6 (fun u1 => ?_)
  refine gk_if_eq (tgt := 24) (pc := 9) dX7_shift_9 (by decide) rfl ?_ ?_
  · refine gk_iconst (pc := 24) dX7_shift_24 ?_
    exact gk_iret (pc := 25) rfl dX7_shift_25
  · refine gk_iload_n (pc := 12) 3 dX7_shift_12 rfl ?_
    refine gk_i2l (pc := 13) dX7_shift_13 ?_
    refine gk_lconst (x := 0) (pc := 14) dX7_shift_14 (by decide +kernel) ?_
    refine gk_ldc2 (x := 5) (pc := 15) rfl dX7_shift_15 ww_1091 (by decide +kernel) ?_
    refine gk_callS_ir (As := [gl (gn v3), gl 0, gl 5]) (pc := 18) (c_X7_in (gn v3) 0 5 σ) rfl mm_X7_in ww_817 (gs_fit_of (Nat.le_of_ble_eq_true rfl) (Nat.le_of_ble_eq_true rfl)) rfl rfl (Nat.le_of_ble_eq_true rfl) dX7_shift_18 (fun u2 => ?_)
    refine gk_if_ne (tgt := 26) (pc := 21) dX7_shift_21 (by decide) rfl ?_ ?_
    · refine gk_aload_n (pc := 26) 0 dX7_shift_26 rfl ?_
      refine gk_getR (q := 76) (pc := 27) rfl clsX7 cll_70 sh_70 8 (by decide) rfl ww_783 dX7_shift_27 ?_
      refine gk_iload_n (pc := 30) 1 dX7_shift_30 rfl ?_
      refine gk_iald_c (pc := 31) cll_76 sh_76 rfl dX7_shift_31 ?_
      refine gk_iconst (pc := 32) dX7_shift_32 ?_
      refine gk_icmp_eq (tgt := 46) (pc := 33) dX7_shift_33 (by decide) rfl (by decide +kernel) ?_ ?_
      · refine gk_bipush (pc := 46) dX7_shift_46 (by decide +kernel) ?_
        exact gk_iret (pc := 48) rfl dX7_shift_48
      · refine gk_aload_n (pc := 36) 0 dX7_shift_36 rfl ?_
        refine gk_getR (q := 76) (pc := 37) rfl clsX7 cll_70 sh_70 8 (by decide) rfl ww_783 dX7_shift_37 ?_
        refine gk_iload_n (pc := 40) 3 dX7_shift_40 rfl ?_
        refine gk_iald_c (pc := 41) cll_76 sh_76 rfl dX7_shift_41 ?_
        refine gk_iconst (pc := 42) dX7_shift_42 ?_
        refine gk_icmp_ne (tgt := 49) (pc := 43) dX7_shift_43 (by decide) rfl (by decide +kernel) ?_ ?_
        · refine gk_aload_n (pc := 49) 0 dX7_shift_49 rfl ?_
          refine gk_getR (q := 76) (pc := 50) rfl clsX7 cll_70 sh_70 8 (by decide) rfl ww_783 dX7_shift_50 ?_
          refine gk_iload_n (pc := 53) 1 dX7_shift_53 rfl ?_
          refine gk_iald_c (pc := 54) cll_76 sh_76 rfl dX7_shift_54 ?_
          refine gk_aload_n (pc := 55) 0 dX7_shift_55 rfl ?_
          refine gk_getR (q := 76) (pc := 56) rfl clsX7 cll_70 sh_70 8 (by decide) rfl ww_783 dX7_shift_56 ?_
          refine gk_iload_n (pc := 59) 3 dX7_shift_59 rfl ?_
          refine gk_iald_c (pc := 60) cll_76 sh_76 rfl dX7_shift_60 ?_
          refine gk_icmp_eq (tgt := 67) (pc := 61) dX7_shift_61 (by decide) rfl rfl ?_ ?_
          · refine gk_iload (pc := 67) 5 dX7_shift_67 rfl ?_
            refine gk_if_lt (tgt := 129) (pc := 69) dX7_shift_69 (by decide) rfl ?_ ?_
            · refine gk_bipush (pc := 129) dX7_shift_129 (by decide +kernel) ?_
              exact gk_iret (pc := 131) rfl dX7_shift_131
            · refine gk_iload_n (pc := 72) 2 dX7_shift_72 rfl ?_
              refine gk_if_lt (tgt := 129) (pc := 73) dX7_shift_73 (by decide) rfl ?_ ?_
              · refine gk_bipush (pc := 129) dX7_shift_129 (by decide +kernel) ?_
                exact gk_iret (pc := 131) rfl dX7_shift_131
              · refine gk_iload (pc := 76) 4 dX7_shift_76 rfl ?_
                refine gk_if_lt (tgt := 129) (pc := 78) dX7_shift_78 (by decide) rfl ?_ ?_
                · refine gk_bipush (pc := 129) dX7_shift_129 (by decide +kernel) ?_
                  exact gk_iret (pc := 131) rfl dX7_shift_131
                · refine gk_iload_n (pc := 81) 2 dX7_shift_81 rfl ?_
                  refine gk_aload_n (pc := 82) 0 dX7_shift_82 rfl ?_
                  refine gk_getR (q := 77) (pc := 83) rfl clsX7 cll_70 sh_70 9 (by decide) rfl ww_784 dX7_shift_83 ?_
                  refine gk_iload_n (pc := 86) 1 dX7_shift_86 rfl ?_
                  refine gk_iald_c (pc := 87) cll_77 sh_77 rfl dX7_shift_87 ?_
                  refine gk_icmp_gt (tgt := 129) (pc := 88) dX7_shift_88 (by decide) rfl rfl ?_ ?_
                  · refine gk_bipush (pc := 129) dX7_shift_129 (by decide +kernel) ?_
                    exact gk_iret (pc := 131) rfl dX7_shift_131
                  · refine gk_iload (pc := 91) 4 dX7_shift_91 rfl ?_
                    refine gk_aload_n (pc := 93) 0 dX7_shift_93 rfl ?_
                    refine gk_getR (q := 77) (pc := 94) rfl clsX7 cll_70 sh_70 9 (by decide) rfl ww_784 dX7_shift_94 ?_
                    refine gk_iload_n (pc := 97) 3 dX7_shift_97 rfl ?_
                    refine gk_iald_c (pc := 98) cll_77 sh_77 rfl dX7_shift_98 ?_
                    refine gk_icmp_gt (tgt := 129) (pc := 99) dX7_shift_99 (by decide) rfl rfl ?_ ?_
                    · refine gk_bipush (pc := 129) dX7_shift_129 (by decide +kernel) ?_
                      exact gk_iret (pc := 131) rfl dX7_shift_131
                    · refine gk_iload (pc := 102) 5 dX7_shift_102 rfl ?_
                      refine gk_aload_n (pc := 104) 0 dX7_shift_104 rfl ?_
                      refine gk_getR (q := 77) (pc := 105) rfl clsX7 cll_70 sh_70 9 (by decide) rfl ww_784 dX7_shift_105 ?_
                      refine gk_iload_n (pc := 108) 1 dX7_shift_108 rfl ?_
                      refine gk_iald_c (pc := 109) cll_77 sh_77 rfl dX7_shift_109 ?_
                      refine gk_iload_n (pc := 110) 2 dX7_shift_110 rfl ?_
                      refine gk_isub (pc := 111) dX7_shift_111 ?_
                      refine gk_icmp_gt (tgt := 129) (pc := 112) dX7_shift_112 (by decide) rfl rfl ?_ ?_
                      · refine gk_bipush (pc := 129) dX7_shift_129 (by decide +kernel) ?_
                        exact gk_iret (pc := 131) rfl dX7_shift_131
                      · refine gk_iload (pc := 115) 5 dX7_shift_115 rfl ?_
                        refine gk_aload_n (pc := 117) 0 dX7_shift_117 rfl ?_
                        refine gk_getR (q := 77) (pc := 118) rfl clsX7 cll_70 sh_70 9 (by decide) rfl ww_784 dX7_shift_118 ?_
                        refine gk_iload_n (pc := 121) 3 dX7_shift_121 rfl ?_
                        refine gk_iald_c (pc := 122) cll_77 sh_77 rfl dX7_shift_122 ?_
                        refine gk_iload (pc := 123) 4 dX7_shift_123 rfl ?_
                        refine gk_isub (pc := 125) dX7_shift_125 ?_
                        refine gk_icmp_le (tgt := 132) (pc := 126) dX7_shift_126 (by decide) rfl rfl ?_ ?_
                        · refine gk_iconst (pc := 132) dX7_shift_132 ?_
                          refine gk_istore (L' := [(6, gi 0), (0, gr E 70), (1, gi v1), (2, gi v2), (3, gi v3), (4, gi v4), (5, gi v5)]) (pc := 133) dX7_shift_133 (Nat.le_of_ble_eq_true rfl) rfl ?_
                          refine gk_sub (L' := [(0, gr E 70), (1, gi v1), (2, gi v2), (3, gi v3), (4, gi v4), (5, gi v5), (6, gi 0)]) [1, 2, 3, 4, 5, 6, 0] rfl ?_
                          exact k_X7_shift_L135 v1 v2 v3 v4 v5 gs_fuel 0 σ
                        · refine gk_bipush (pc := 129) dX7_shift_129 (by decide +kernel) ?_
                          exact gk_iret (pc := 131) rfl dX7_shift_131
          · refine gk_bipush (pc := 64) dX7_shift_64 (by decide +kernel) ?_
            exact gk_iret (pc := 66) rfl dX7_shift_66
        · refine gk_bipush (pc := 46) dX7_shift_46 (by decide +kernel) ?_
          exact gk_iret (pc := 48) rfl dX7_shift_48
    · refine gk_iconst (pc := 24) dX7_shift_24 ?_
      exact gk_iret (pc := 25) rfl dX7_shift_25
