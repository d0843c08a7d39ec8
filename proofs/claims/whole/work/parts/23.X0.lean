def f_X0_copyFrom (r0 : Nat) (r1 : Nat) (σ : gs_Mem) : Option (Int × gs_Mem) :=
  gs_chkc 0 0 8 8 8 (
  gs_chkc 0 0 8 8 8 (
  gs_chkc 0 0 8 8 8 (
  gs_chkc 0 0 3 3 3 (
  gs_chkc 0 0 3 3 3 (
  gs_chkc 0 0 64 64 64 (
  gs_chkc 0 0 8 8 8 (
  some (0, (gs_st (gs_st (gs_cp (gs_cp (gs_cp (gs_cp (gs_cp (gs_cp (gs_cp σ (r1 + 1) 0 (r0 + 1) 0 8) (r1 + 2) 0 (r0 + 2) 0 8) (r1 + 3) 0 (r0 + 3) 0 8) (r1 + 4) 0 (r0 + 4) 0 3) (r1 + 5) 0 (r0 + 5) 0 3) (r1 + 6) 0 (r0 + 6) 0 64) (r1 + 7) 0 (r0 + 7) 0 8) r0 8 ((gs_cp (gs_cp (gs_cp (gs_cp (gs_cp (gs_cp (gs_cp σ (r1 + 1) 0 (r0 + 1) 0 8) (r1 + 2) 0 (r0 + 2) 0 8) (r1 + 3) 0 (r0 + 3) 0 8) (r1 + 4) 0 (r0 + 4) 0 3) (r1 + 5) 0 (r0 + 5) 0 3) (r1 + 6) 0 (r0 + 6) 0 64) (r1 + 7) 0 (r0 + 7) 0 8) r1 8)) r0 9 ((gs_st (gs_cp (gs_cp (gs_cp (gs_cp (gs_cp (gs_cp (gs_cp σ (r1 + 1) 0 (r0 + 1) 0 8) (r1 + 2) 0 (r0 + 2) 0 8) (r1 + 3) 0 (r0 + 3) 0 8) (r1 + 4) 0 (r0 + 4) 0 3) (r1 + 5) 0 (r0 + 5) 0 3) (r1 + 6) 0 (r0 + 6) 0 64) (r1 + 7) 0 (r0 + 7) 0 8) r0 8 ((gs_cp (gs_cp (gs_cp (gs_cp (gs_cp (gs_cp (gs_cp σ (r1 + 1) 0 (r0 + 1) 0 8) (r1 + 2) 0 (r0 + 2) 0 8) (r1 + 3) 0 (r0 + 3) 0 8) (r1 + 4) 0 (r0 + 4) 0 3) (r1 + 5) 0 (r0 + 5) 0 3) (r1 + 6) 0 (r0 + 6) 0 64) (r1 + 7) 0 (r0 + 7) 0 8) r1 8)) r1 9))))))))))
set_option maxRecDepth 100000 in
set_option maxHeartbeats 4000000 in
theorem c_X0_copyFrom {E : gs_E} (r0 : Nat) (r1 : Nat) (hr0 : isPl r0) (hr1 : isPl r1) (σ : gs_Mem) : gs_C E yX0_copyFrom cX0_copyFrom 2 none 2 { frames := 1, cells := 0, slots := 0, locals := 80 } [gr E r0, gr E r1] σ (f_X0_copyFrom r0 r1 σ) (fun b : Int × gs_Mem => b) := by
  unfold f_X0_copyFrom
  refine gs_enter (L := [(0, gr E r0), (1, gr E r1)]) (by decide) rfl rfl (Nat.le_of_ble_eq_true rfl) rfl ?_
  refine gk_aload_n (pc := 0) 1 dX0_copyFrom_0 rfl ?_
  refine gk_getR (q := (r1 + 1)) (pc := 1) rfl clsX0 (pl_lt0 hr1) (pl_sh hr1) 0 (by decide) rfl ww_88 dX0_copyFrom_1 ?_
  refine gk_iconst (pc := 4) dX0_copyFrom_4 ?_
  refine gk_aload_n (pc := 5) 0 dX0_copyFrom_5 rfl ?_
  refine gk_getR (q := (r0 + 1)) (pc := 6) rfl clsX0 (pl_lt0 hr0) (pl_sh hr0) 0 (by decide) rfl ww_88 dX0_copyFrom_6 ?_
  refine gk_iconst (pc := 9) dX0_copyFrom_9 ?_
  refine gk_bipush (pc := 10) dX0_copyFrom_10 (by decide +kernel) ?_
  refine gk_copy_i_c (pc := 12) rfl acw_RX0_43 (pl_lt1 hr1) (pl_s1 hr1) (pl_lt1 hr0) (pl_s1 hr0) (by decide +kernel) (by decide +kernel) (by decide +kernel) (Nat.le_of_ble_eq_true rfl) (Nat.le_of_ble_eq_true rfl) dX0_copyFrom_12 ?_
  refine gk_aload_n (pc := 15) 1 dX0_copyFrom_15 rfl ?_
  refine gk_getR (q := (r1 + 2)) (pc := 16) rfl clsX0 (pl_lt0 hr1) (pl_sh hr1) 1 (by decide) rfl ww_89 dX0_copyFrom_16 ?_
  refine gk_iconst (pc := 19) dX0_copyFrom_19 ?_
  refine gk_aload_n (pc := 20) 0 dX0_copyFrom_20 rfl ?_
  refine gk_getR (q := (r0 + 2)) (pc := 21) rfl clsX0 (pl_lt0 hr0) (pl_sh hr0) 1 (by decide) rfl ww_89 dX0_copyFrom_21 ?_
  refine gk_iconst (pc := 24) dX0_copyFrom_24 ?_
  refine gk_bipush (pc := 25) dX0_copyFrom_25 (by decide +kernel) ?_
  refine gk_copy_i_c (pc := 27) rfl acw_RX0_43 (pl_lt2 hr1) (pl_s2 hr1) (pl_lt2 hr0) (pl_s2 hr0) (by decide +kernel) (by decide +kernel) (by decide +kernel) (Nat.le_of_ble_eq_true rfl) (Nat.le_of_ble_eq_true rfl) dX0_copyFrom_27 ?_
  refine gk_aload_n (pc := 30) 1 dX0_copyFrom_30 rfl ?_
  refine gk_getR (q := (r1 + 3)) (pc := 31) rfl clsX0 (pl_lt0 hr1) (pl_sh hr1) 2 (by decide) rfl ww_90 dX0_copyFrom_31 ?_
  refine gk_iconst (pc := 34) dX0_copyFrom_34 ?_
  refine gk_aload_n (pc := 35) 0 dX0_copyFrom_35 rfl ?_
  refine gk_getR (q := (r0 + 3)) (pc := 36) rfl clsX0 (pl_lt0 hr0) (pl_sh hr0) 2 (by decide) rfl ww_90 dX0_copyFrom_36 ?_
  refine gk_iconst (pc := 39) dX0_copyFrom_39 ?_
  refine gk_bipush (pc := 40) dX0_copyFrom_40 (by decide +kernel) ?_
  refine gk_copy_i_c (pc := 42) rfl acw_RX0_43 (pl_lt3 hr1) (pl_s3 hr1) (pl_lt3 hr0) (pl_s3 hr0) (by decide +kernel) (by decide +kernel) (by decide +kernel) (Nat.le_of_ble_eq_true rfl) (Nat.le_of_ble_eq_true rfl) dX0_copyFrom_42 ?_
  refine gk_aload_n (pc := 45) 1 dX0_copyFrom_45 rfl ?_
  refine gk_getR (q := (r1 + 4)) (pc := 46) rfl clsX0 (pl_lt0 hr1) (pl_sh hr1) 3 (by decide) rfl ww_91 dX0_copyFrom_46 ?_
  refine gk_iconst (pc := 49) dX0_copyFrom_49 ?_
  refine gk_aload_n (pc := 50) 0 dX0_copyFrom_50 rfl ?_
  refine gk_getR (q := (r0 + 4)) (pc := 51) rfl clsX0 (pl_lt0 hr0) (pl_sh hr0) 3 (by decide) rfl ww_91 dX0_copyFrom_51 ?_
  refine gk_iconst (pc := 54) dX0_copyFrom_54 ?_
  refine gk_iconst (pc := 55) dX0_copyFrom_55 ?_
  refine gk_copy_i_c (pc := 56) rfl acw_RX0_43 (pl_lt4 hr1) (pl_s4 hr1) (pl_lt4 hr0) (pl_s4 hr0) (by decide +kernel) (by decide +kernel) (by decide +kernel) (Nat.le_of_ble_eq_true rfl) (Nat.le_of_ble_eq_true rfl) dX0_copyFrom_56 ?_
  refine gk_aload_n (pc := 59) 1 dX0_copyFrom_59 rfl ?_
  refine gk_getR (q := (r1 + 5)) (pc := 60) rfl clsX0 (pl_lt0 hr1) (pl_sh hr1) 4 (by decide) rfl ww_92 dX0_copyFrom_60 ?_
  refine gk_iconst (pc := 63) dX0_copyFrom_63 ?_
  refine gk_aload_n (pc := 64) 0 dX0_copyFrom_64 rfl ?_
  refine gk_getR (q := (r0 + 5)) (pc := 65) rfl clsX0 (pl_lt0 hr0) (pl_sh hr0) 4 (by decide) rfl ww_92 dX0_copyFrom_65 ?_
  refine gk_iconst (pc := 68) dX0_copyFrom_68 ?_
  refine gk_iconst (pc := 69) dX0_copyFrom_69 ?_
  refine gk_copy_i_c (pc := 70) rfl acw_RX0_43 (pl_lt5 hr1) (pl_s5 hr1) (pl_lt5 hr0) (pl_s5 hr0) (by decide +kernel) (by decide +kernel) (by decide +kernel) (Nat.le_of_ble_eq_true rfl) (Nat.le_of_ble_eq_true rfl) dX0_copyFrom_70 ?_
  refine gk_aload_n (pc := 73) 1 dX0_copyFrom_73 rfl ?_
  refine gk_getR (q := (r1 + 6)) (pc := 74) rfl clsX0 (pl_lt0 hr1) (pl_sh hr1) 5 (by decide) rfl ww_93 dX0_copyFrom_74 ?_
  refine gk_iconst (pc := 77) dX0_copyFrom_77 ?_
  refine gk_aload_n (pc := 78) 0 dX0_copyFrom_78 rfl ?_
  refine gk_getR (q := (r0 + 6)) (pc := 79) rfl clsX0 (pl_lt0 hr0) (pl_sh hr0) 5 (by decide) rfl ww_93 dX0_copyFrom_79 ?_
  refine gk_iconst (pc := 82) dX0_copyFrom_82 ?_
  refine gk_bipush (pc := 83) dX0_copyFrom_83 (by decide +kernel) ?_
  refine gk_copy_i_c (pc := 85) rfl acw_RX0_43 (pl_lt6 hr1) (pl_s6 hr1) (pl_lt6 hr0) (pl_s6 hr0) (by decide +kernel) (by decide +kernel) (by decide +kernel) (Nat.le_of_ble_eq_true rfl) (Nat.le_of_ble_eq_true rfl) dX0_copyFrom_85 ?_
  refine gk_aload_n (pc := 88) 1 dX0_copyFrom_88 rfl ?_
  refine gk_getR (q := (r1 + 7)) (pc := 89) rfl clsX0 (pl_lt0 hr1) (pl_sh hr1) 6 (by decide) rfl ww_94 dX0_copyFrom_89 ?_
  refine gk_iconst (pc := 92) dX0_copyFrom_92 ?_
  refine gk_aload_n (pc := 93) 0 dX0_copyFrom_93 rfl ?_
  refine gk_getR (q := (r0 + 7)) (pc := 94) rfl clsX0 (pl_lt0 hr0) (pl_sh hr0) 6 (by decide) rfl ww_94 dX0_copyFrom_94 ?_
  refine gk_iconst (pc := 97) dX0_copyFrom_97 ?_
  refine gk_bipush (pc := 98) dX0_copyFrom_98 (by decide +kernel) ?_
  refine gk_copy_i_c (pc := 100) rfl acw_RX0_43 (pl_lt7 hr1) (pl_s7 hr1) (pl_lt7 hr0) (pl_s7 hr0) (by decide +kernel) (by decide +kernel) (by decide +kernel) (Nat.le_of_ble_eq_true rfl) (Nat.le_of_ble_eq_true rfl) dX0_copyFrom_100 ?_
  refine gk_aload_n (pc := 103) 0 dX0_copyFrom_103 rfl ?_
  refine gk_aload_n (pc := 104) 1 dX0_copyFrom_104 rfl ?_
  refine gk_getI (pc := 105) rfl clsX0 (pl_lt0 hr1) (pl_sh hr1) 8 (by decide) rfl ww_96 dX0_copyFrom_105 ?_
  refine gk_putF (pc := 108) rfl clsX0 (pl_lt0 hr0) (pl_sh hr0) 8 (by decide) rfl rfl rfl rfl ww_96 dX0_copyFrom_108 ?_
  refine gk_aload_n (pc := 111) 0 dX0_copyFrom_111 rfl ?_
  refine gk_aload_n (pc := 112) 1 dX0_copyFrom_112 rfl ?_
  refine gk_getI (pc := 113) rfl clsX0 (pl_lt0 hr1) (pl_sh hr1) 9 (by decide) rfl ww_97 dX0_copyFrom_113 ?_
  refine gk_putF (pc := 116) rfl clsX0 (pl_lt0 hr0) (pl_sh hr0) 9 (by decide) rfl rfl rfl rfl ww_97 dX0_copyFrom_116 ?_
  exact gk_vret (pc := 119) rfl dX0_copyFrom_119
def f_X0_size (r0 : Nat) (σ : gs_Mem) : Option (Int) :=
  some (σ r0 9)
set_option maxRecDepth 100000 in
set_option maxHeartbeats 4000000 in
theorem c_X0_size {E : gs_E} (r0 : Nat) (hr0 : isPl r0) (σ : gs_Mem) : gs_C E yX0_size cX0_size 1 (some .int) 0 { frames := 0, cells := 0, slots := 0, locals := 0 } [gr E r0] σ (f_X0_size r0 σ) (fun v : Int => (v, σ)) := by
  unfold f_X0_size
  refine gs_enter (L := [(0, gr E r0)]) (by decide) rfl rfl (Nat.le_of_ble_eq_true rfl) rfl ?_
  refine gk_aload_n (pc := 0) 0 dX0_size_0 rfl ?_
  refine gk_getI (pc := 1) rfl clsX0 (pl_lt0 hr0) (pl_sh hr0) 9 (by decide) rfl ww_97 dX0_size_1 ?_
  exact gk_iret (pc := 4) rfl dX0_size_4
def f_X0_has (r0 : Nat) (v1 : Int) (σ : gs_Mem) : Option (Int) :=
  if (gn v1) < 0 then
    some 0
  else
    if (gn (σ r0 9)) ≤ (gn v1) then
      some 0
    else
      some 1
set_option maxRecDepth 100000 in
set_option maxHeartbeats 4000000 in
theorem c_X0_has {E : gs_E} (r0 : Nat) (v1 : Int) (hr0 : isPl r0) (σ : gs_Mem) : gs_C E yX0_has cX0_has 2 (some .boolean) 0 { frames := 0, cells := 0, slots := 0, locals := 0 } [gr E r0, gi v1] σ (f_X0_has r0 v1 σ) (fun v : Int => (v, σ)) := by
  unfold f_X0_has
  refine gs_enter (L := [(0, gr E r0), (1, gi v1)]) (by decide) rfl rfl (Nat.le_of_ble_eq_true rfl) rfl ?_
  refine gk_iload_n (pc := 0) 1 dX0_has_0 rfl ?_
  refine gk_if_lt (tgt := 16) (pc := 1) dX0_has_1 (by decide) rfl ?_ ?_
  · refine gk_iconst (pc := 16) dX0_has_16 ?_
    exact gk_zret (pc := 17) (Or.inl (by decide +kernel)) rfl dX0_has_17
  · refine gk_iload_n (pc := 4) 1 dX0_has_4 rfl ?_
    refine gk_aload_n (pc := 5) 0 dX0_has_5 rfl ?_
    refine gk_getI (pc := 6) rfl clsX0 (pl_lt0 hr0) (pl_sh hr0) 9 (by decide) rfl ww_97 dX0_has_6 ?_
    refine gk_icmp_ge (tgt := 16) (pc := 9) dX0_has_9 (by decide) rfl rfl ?_ ?_
    · refine gk_iconst (pc := 16) dX0_has_16 ?_
      exact gk_zret (pc := 17) (Or.inl (by decide +kernel)) rfl dX0_has_17
    · refine gk_iconst (pc := 12) dX0_has_12 ?_
      refine gk_goto (tgt := 17) (pc := 13) dX0_has_13 (by decide) ?_
      exact gk_zret (pc := 17) (Or.inr (by decide +kernel)) rfl dX0_has_17
def f_X0_x (r0 : Nat) (v1 : Int) (σ : gs_Mem) : Option (Int) :=
  (f_X0_has r0 v1 σ).bind fun u1 =>
  if (gn u1) = 0 then
    some (-1)
  else
    gs_chk (gn v1) 8 (
    some (σ (r0 + 1) (gn v1).toNat))
set_option maxRecDepth 100000 in
set_option maxHeartbeats 4000000 in
theorem c_X0_x {E : gs_E} (r0 : Nat) (v1 : Int) (hr0 : isPl r0) (σ : gs_Mem) : gs_C E yX0_x cX0_x 2 (some .int) 0 { frames := 1, cells := 0, slots := 0, locals := 21 } [gr E r0, gi v1] σ (f_X0_x r0 v1 σ) (fun v : Int => (v, σ)) := by
  unfold f_X0_x
  refine gs_enter (L := [(0, gr E r0), (1, gi v1)]) (by decide) rfl rfl (Nat.le_of_ble_eq_true rfl) rfl ?_
  refine gk_aload_n (pc := 0) 0 dX0_x_0 rfl ?_
  refine gk_iload_n (pc := 1) 1 dX0_x_1 rfl ?_
  refine gk_callV_ir (As := [gi v1]) (pc := 2) (c_X0_has r0 v1 hr0 σ) rfl mm_X0_has ww_306 clsX0 rfl (pl_lt0 hr0) (pl_sh hr0) (gs_fit_of (Nat.le_of_ble_eq_true rfl) (Nat.le_of_ble_eq_true rfl)) rfl rfl (Nat.le_of_ble_eq_true rfl) dX0_x_2 (fun u1 => ?_)
  refine gk_if_eq (tgt := 17) (pc := 5) dX0_x_5 (by decide) rfl ?_ ?_
  · refine gk_iconst (pc := 17) dX0_x_17 ?_
    exact gk_iret (pc := 18) rfl dX0_x_18
  · refine gk_aload_n (pc := 8) 0 dX0_x_8 rfl ?_
    refine gk_getR (q := (r0 + 1)) (pc := 9) rfl clsX0 (pl_lt0 hr0) (pl_sh hr0) 0 (by decide) rfl ww_88 dX0_x_9 ?_
    refine gk_iload_n (pc := 12) 1 dX0_x_12 rfl ?_
    refine gk_iald_c (pc := 13) (pl_lt1 hr0) (pl_s1 hr0) rfl dX0_x_13 ?_
    refine gk_goto (tgt := 18) (pc := 14) dX0_x_14 (by decide) ?_
    exact gk_iret (pc := 18) rfl dX0_x_18
def f_X0_y (r0 : Nat) (v1 : Int) (σ : gs_Mem) : Option (Int) :=
  (f_X0_has r0 v1 σ).bind fun u1 =>
  if (gn u1) = 0 then
    some (-1)
  else
    gs_chk (gn v1) 8 (
    some (σ (r0 + 2) (gn v1).toNat))
set_option maxRecDepth 100000 in
set_option maxHeartbeats 4000000 in
theorem c_X0_y {E : gs_E} (r0 : Nat) (v1 : Int) (hr0 : isPl r0) (σ : gs_Mem) : gs_C E yX0_y cX0_y 2 (some .int) 0 { frames := 1, cells := 0, slots := 0, locals := 21 } [gr E r0, gi v1] σ (f_X0_y r0 v1 σ) (fun v : Int => (v, σ)) := by
  unfold f_X0_y
  refine gs_enter (L := [(0, gr E r0), (1, gi v1)]) (by decide) rfl rfl (Nat.le_of_ble_eq_true rfl) rfl ?_
  refine gk_aload_n (pc := 0) 0 dX0_y_0 rfl ?_
  refine gk_iload_n (pc := 1) 1 dX0_y_1 rfl ?_
  refine gk_callV_ir (As := [gi v1]) (pc := 2) (c_X0_has r0 v1 hr0 σ) rfl mm_X0_has ww_306 clsX0 rfl (pl_lt0 hr0) (pl_sh hr0) (gs_fit_of (Nat.le_of_ble_eq_true rfl) (Nat.le_of_ble_eq_true rfl)) rfl rfl (Nat.le_of_ble_eq_true rfl) dX0_y_2 (fun u1 => ?_)
  refine gk_if_eq (tgt := 17) (pc := 5) dX0_y_5 (by decide) rfl ?_ ?_
  · refine gk_iconst (pc := 17) dX0_y_17 ?_
    exact gk_iret (pc := 18) rfl dX0_y_18
  · refine gk_aload_n (pc := 8) 0 dX0_y_8 rfl ?_
    refine gk_getR (q := (r0 + 2)) (pc := 9) rfl clsX0 (pl_lt0 hr0) (pl_sh hr0) 1 (by decide) rfl ww_89 dX0_y_9 ?_
    refine gk_iload_n (pc := 12) 1 dX0_y_12 rfl ?_
    refine gk_iald_c (pc := 13) (pl_lt2 hr0) (pl_s2 hr0) rfl dX0_y_13 ?_
    refine gk_goto (tgt := 18) (pc := 14) dX0_y_14 (by decide) ?_
    exact gk_iret (pc := 18) rfl dX0_y_18
def f_X0_isFixed (r0 : Nat) (v1 : Int) (σ : gs_Mem) : Option (Int) :=
  (f_X0_has r0 v1 σ).bind fun u1 =>
  if (gn u1) = 0 then
    some 0
  else
    if (gand (gshr (σ r0 8) v1) 1) = 1 then
      some 1
    else
      some 0
set_option maxRecDepth 100000 in
set_option maxHeartbeats 4000000 in
theorem c_X0_isFixed {E : gs_E} (r0 : Nat) (v1 : Int) (hr0 : isPl r0) (σ : gs_Mem) : gs_C E yX0_isFixed cX0_isFixed 2 (some .boolean) 0 { frames := 1, cells := 0, slots := 0, locals := 21 } [gr E r0, gi v1] σ (f_X0_isFixed r0 v1 σ) (fun v : Int => (v, σ)) := by
  unfold f_X0_isFixed
  refine gs_enter (L := [(0, gr E r0), (1, gi v1)]) (by decide) rfl rfl (Nat.le_of_ble_eq_true rfl) rfl ?_
  refine gk_aload_n (pc := 0) 0 dX0_isFixed_0 rfl ?_
  refine gk_iload_n (pc := 1) 1 dX0_isFixed_1 rfl ?_
  refine gk_callV_ir (As := [gi v1]) (pc := 2) (c_X0_has r0 v1 hr0 σ) rfl mm_X0_has ww_306 clsX0 rfl (pl_lt0 hr0) (pl_sh hr0) (gs_fit_of (Nat.le_of_ble_eq_true rfl) (Nat.le_of_ble_eq_true rfl)) rfl rfl (Nat.le_of_ble_eq_true rfl) dX0_isFixed_2 (fun u1 => ?_)
  refine gk_if_eq (tgt := 24) (pc := 5) dX0_isFixed_5 (by decide) rfl ?_ ?_
  · refine gk_iconst (pc := 24) dX0_isFixed_24 ?_
    exact gk_zret (pc := 25) (Or.inl (by decide +kernel)) rfl dX0_isFixed_25
  · refine gk_aload_n (pc := 8) 0 dX0_isFixed_8 rfl ?_
    refine gk_getI (pc := 9) rfl clsX0 (pl_lt0 hr0) (pl_sh hr0) 8 (by decide) rfl ww_96 dX0_isFixed_9 ?_
    refine gk_iload_n (pc := 12) 1 dX0_isFixed_12 rfl ?_
    refine gk_ishr (pc := 13) dX0_isFixed_13 ?_
    refine gk_iconst (pc := 14) dX0_isFixed_14 ?_
    refine gk_iand (pc := 15) dX0_isFixed_15 ?_
    refine gk_iconst (pc := 16) dX0_isFixed_16 ?_
    refine gk_icmp_ne (tgt := 24) (pc := 17) dX0_isFixed_17 (by decide) (gn_ti _) (by decide +kernel) ?_ ?_
    · refine gk_iconst (pc := 24) dX0_isFixed_24 ?_
      exact gk_zret (pc := 25) (Or.inl (by decide +kernel)) rfl dX0_isFixed_25
    · refine gk_iconst (pc := 20) dX0_isFixed_20 ?_
      refine gk_goto (tgt := 25) (pc := 21) dX0_isFixed_21 (by decide) ?_
      exact gk_zret (pc := 25) (Or.inr (by decide +kernel)) rfl dX0_isFixed_25
def f_X0_channelOf (r0 : Nat) (v1 : Int) (σ : gs_Mem) : Option (Int) :=
  (f_X0_has r0 v1 σ).bind fun u1 =>
  if (gn u1) = 0 then
    some (-1)
  else
    gs_chk (gn v1) 8 (
    some (σ (r0 + 3) (gn v1).toNat))
set_option maxRecDepth 100000 in
set_option maxHeartbeats 4000000 in
theorem c_X0_channelOf {E : gs_E} (r0 : Nat) (v1 : Int) (hr0 : isPl r0) (σ : gs_Mem) : gs_C E yX0_channelOf cX0_channelOf 2 (some .int) 0 { frames := 1, cells := 0, slots := 0, locals := 21 } [gr E r0, gi v1] σ (f_X0_channelOf r0 v1 σ) (fun v : Int => (v, σ)) := by
  unfold f_X0_channelOf
  refine gs_enter (L := [(0, gr E r0), (1, gi v1)]) (by decide) rfl rfl (Nat.le_of_ble_eq_true rfl) rfl ?_
  refine gk_aload_n (pc := 0) 0 dX0_channelOf_0 rfl ?_
  refine gk_iload_n (pc := 1) 1 dX0_channelOf_1 rfl ?_
  refine gk_callV_ir (As := [gi v1]) (pc := 2) (c_X0_has r0 v1 hr0 σ) rfl mm_X0_has ww_306 clsX0 rfl (pl_lt0 hr0) (pl_sh hr0) (gs_fit_of (Nat.le_of_ble_eq_true rfl) (Nat.le_of_ble_eq_true rfl)) rfl rfl (Nat.le_of_ble_eq_true rfl) dX0_channelOf_2 (fun u1 => ?_)
  refine gk_if_eq (tgt := 17) (pc := 5) dX0_channelOf_5 (by decide) rfl ?_ ?_
  · refine gk_iconst (pc := 17) dX0_channelOf_17 ?_
    exact gk_iret (pc := 18) rfl dX0_channelOf_18
  · refine gk_aload_n (pc := 8) 0 dX0_channelOf_8 rfl ?_
    refine gk_getR (q := (r0 + 3)) (pc := 9) rfl clsX0 (pl_lt0 hr0) (pl_sh hr0) 2 (by decide) rfl ww_90 dX0_channelOf_9 ?_
    refine gk_iload_n (pc := 12) 1 dX0_channelOf_12 rfl ?_
    refine gk_iald_c (pc := 13) (pl_lt3 hr0) (pl_s3 hr0) rfl dX0_channelOf_13 ?_
    refine gk_goto (tgt := 18) (pc := 14) dX0_channelOf_14 (by decide) ?_
    exact gk_iret (pc := 18) rfl dX0_channelOf_18
def f_X0_channelOrAbsent (r0 : Nat) (v1 : Int) (σ : gs_Mem) : Option (Int) :=
  (f_X0_channelOf r0 v1 σ).bind fun u1 =>
  if (gn u1) = (-1) then
    some (-5)
  else
    some u1
set_option maxRecDepth 100000 in
set_option maxHeartbeats 4000000 in
theorem c_X0_channelOrAbsent {E : gs_E} (r0 : Nat) (v1 : Int) (hr0 : isPl r0) (σ : gs_Mem) : gs_C E yX0_channelOrAbsent cX0_channelOrAbsent 3 (some .int) 0 { frames := 2, cells := 0, slots := 0, locals := 42 } [gr E r0, gi v1] σ (f_X0_channelOrAbsent r0 v1 σ) (fun v : Int => (v, σ)) := by
  unfold f_X0_channelOrAbsent
  refine gs_enter (L := [(0, gr E r0), (1, gi v1)]) (by decide) rfl rfl (Nat.le_of_ble_eq_true rfl) rfl ?_
  refine gk_aload_n (pc := 0) 0 dX0_channelOrAbsent_0 rfl ?_
  refine gk_iload_n (pc := 1) 1 dX0_channelOrAbsent_1 rfl ?_
  refine gk_callV_ir (As := [gi v1]) (pc := 2) (c_X0_channelOf r0 v1 hr0 σ) rfl mm_X0_channelOf ww_311 clsX0 rfl (pl_lt0 hr0) (pl_sh hr0) (gs_fit_of (Nat.le_of_ble_eq_true rfl) (Nat.le_of_ble_eq_true rfl)) rfl rfl (Nat.le_of_ble_eq_true rfl) dX0_channelOrAbsent_2 (fun u1 => ?_)
  refine gk_istore_n (L' := [(2, gi u1), (0, gr E r0), (1, gi v1)]) (pc := 5) dX0_channelOrAbsent_5 (Nat.le_of_ble_eq_true rfl) rfl ?_
  refine gk_iload_n (pc := 6) 0 dX0_channelOrAbsent_6 rfl ?_
  refine gk_iconst (pc := 7) dX0_channelOrAbsent_7 ?_
  refine gk_icmp_ne (tgt := 16) (pc := 8) dX0_channelOrAbsent_8 (by decide) rfl (by decide +kernel) ?_ ?_
  · refine gk_iload_n (pc := 16) 0 dX0_channelOrAbsent_16 rfl ?_
    exact gk_iret (pc := 17) rfl dX0_channelOrAbsent_17
  · refine gk_bipush (pc := 11) dX0_channelOrAbsent_11 (by decide +kernel) ?_
    refine gk_goto (tgt := 17) (pc := 13) dX0_channelOrAbsent_13 (by decide) ?_
    exact gk_iret (pc := 17) rfl dX0_channelOrAbsent_17
def f_X0_between (r0 : Nat) (v1 : Int) (v2 : Int) (σ : gs_Mem) : Option (Int) :=
  if (gn v1) < 0 then
    some 0
  else
    if (gn (σ r0 9)) ≤ (gn v1) then
      some 0
    else
      if (gn v2) < 0 then
        some 0
      else
        if (gn (σ r0 9)) ≤ (gn v2) then
          some 0
        else
          gs_chk (gn ((v1 * 8) + v2)) 64 (
          some (σ (r0 + 6) (gn ((v1 * 8) + v2)).toNat))
set_option maxRecDepth 100000 in
set_option maxHeartbeats 4000000 in
theorem c_X0_between {E : gs_E} (r0 : Nat) (v1 : Int) (v2 : Int) (hr0 : isPl r0) (σ : gs_Mem) : gs_C E yX0_between cX0_between 3 (some .int) 0 { frames := 0, cells := 0, slots := 0, locals := 0 } [gr E r0, gi v1, gi v2] σ (f_X0_between r0 v1 v2 σ) (fun v : Int => (v, σ)) := by
  unfold f_X0_between
  refine gs_enter (L := [(0, gr E r0), (1, gi v1), (2, gi v2)]) (by decide) rfl rfl (Nat.le_of_ble_eq_true rfl) rfl ?_
  refine gk_iload_n (pc := 0) 1 dX0_between_0 rfl ?_
  refine gk_if_lt (tgt := 38) (pc := 1) dX0_between_1 (by decide) rfl ?_ ?_
  · refine gk_iconst (pc := 38) dX0_between_38 ?_
    exact gk_iret (pc := 39) rfl dX0_between_39
  · refine gk_iload_n (pc := 4) 1 dX0_between_4 rfl ?_
    refine gk_aload_n (pc := 5) 0 dX0_between_5 rfl ?_
    refine gk_getI (pc := 6) rfl clsX0 (pl_lt0 hr0) (pl_sh hr0) 9 (by decide) rfl ww_97 dX0_between_6 ?_
    refine gk_icmp_ge (tgt := 38) (pc := 9) dX0_between_9 (by decide) rfl rfl ?_ ?_
    · refine gk_iconst (pc := 38) dX0_between_38 ?_
      exact gk_iret (pc := 39) rfl dX0_between_39
    · refine gk_iload_n (pc := 12) 2 dX0_between_12 rfl ?_
      refine gk_if_lt (tgt := 38) (pc := 13) dX0_between_13 (by decide) rfl ?_ ?_
      · refine gk_iconst (pc := 38) dX0_between_38 ?_
        exact gk_iret (pc := 39) rfl dX0_between_39
      · refine gk_iload_n (pc := 16) 2 dX0_between_16 rfl ?_
        refine gk_aload_n (pc := 17) 0 dX0_between_17 rfl ?_
        refine gk_getI (pc := 18) rfl clsX0 (pl_lt0 hr0) (pl_sh hr0) 9 (by decide) rfl ww_97 dX0_between_18 ?_
        refine gk_icmp_ge (tgt := 38) (pc := 21) dX0_between_21 (by decide) rfl rfl ?_ ?_
        · refine gk_iconst (pc := 38) dX0_between_38 ?_
          exact gk_iret (pc := 39) rfl dX0_between_39
        · refine gk_aload_n (pc := 24) 0 dX0_between_24 rfl ?_
          refine gk_getR (q := (r0 + 6)) (pc := 25) rfl clsX0 (pl_lt0 hr0) (pl_sh hr0) 5 (by decide) rfl ww_93 dX0_between_25 ?_
          refine gk_iload_n (pc := 28) 1 dX0_between_28 rfl ?_
          refine gk_bipush (pc := 29) dX0_between_29 (by decide +kernel) ?_
          refine gk_imul (pc := 31) dX0_between_31 ?_
          refine gk_iload_n (pc := 32) 2 dX0_between_32 rfl ?_
          refine gk_iadd (pc := 33) dX0_between_33 ?_
          refine gk_iald_c (pc := 34) (pl_lt6 hr0) (pl_s6 hr0) rfl dX0_between_34 ?_
          refine gk_goto (tgt := 39) (pc := 35) dX0_between_35 (by decide) ?_
          exact gk_iret (pc := 39) rfl dX0_between_39
def f_X0_whoIsAt_J32 (σ : gs_Mem) (k2 : Int → Option (Int)) (v0 : Nat) (v1 : Int) (v2 : Int) (v3 : Int) : Option (Int) :=
  k2 (v3 + 1)
set_option maxRecDepth 100000 in
set_option maxHeartbeats 4000000 in
theorem k_X0_whoIsAt_J32 {E : gs_E} (σ : gs_Mem) (k2 : Int → Option (Int))  (v0 : Nat) (v1 : Int) (v2 : Int) (v3 : Int) (hv0 : isPl v0) (hk2 : ∀ (w3 : Int), gs_K E (gs_MC E yX0_whoIsAt cX0_whoIsAt 4 (some .int) 0 { frames := 0, cells := 0, slots := 0, locals := 0 }) (fun v : Int => (v, σ)) (k2 w3) 2 [(0, gr E v0), (1, gi v1), (2, gi v2), (3, gi w3)] [] σ) : gs_K E (gs_MC E yX0_whoIsAt cX0_whoIsAt 4 (some .int) 0 { frames := 0, cells := 0, slots := 0, locals := 0 }) (fun v : Int => (v, σ)) (f_X0_whoIsAt_J32 σ k2 v0 v1 v2 v3) 32 [(0, gr E v0), (1, gi v1), (2, gi v2), (3, gi v3)] [] σ := by
  unfold f_X0_whoIsAt_J32
  refine gk_iinc (L' := [(3, gi (v3 + 1)), (0, gr E v0), (1, gi v1), (2, gi v2)]) (pc := 32) 3 dX0_whoIsAt_32 rfl (Nat.le_of_ble_eq_true rfl) rfl ?_
  refine gk_goto (tgt := 2) (pc := 35) dX0_whoIsAt_35 (by decide) ?_
  refine gk_sub (L' := [(0, gr E v0), (1, gi v1), (2, gi v2), (3, gi (v3 + 1))]) [1, 2, 3, 0] rfl ?_
  exact hk2 (v3 + 1)
def f_X0_whoIsAt_L2 (σ : gs_Mem) (v0 : Nat) (v1 : Int) (v2 : Int) : Nat → Int → Option (Int)
  | 0, _ => none
  | n + 1, v3 =>
    if (gn (σ v0 9)) ≤ (gn v3) then
      some (-1)
    else
      gs_chk (gn v3) 8 (
      if (gn (σ (v0 + 1) (gn v3).toNat)) = (gn v1) then
        gs_chk (gn v3) 8 (
        if (gn (σ (v0 + 2) (gn v3).toNat)) = (gn v2) then
          some v3
        else
          f_X0_whoIsAt_J32 σ (f_X0_whoIsAt_L2 σ v0 v1 v2 n) v0 v1 v2 v3)
      else
        f_X0_whoIsAt_J32 σ (f_X0_whoIsAt_L2 σ v0 v1 v2 n) v0 v1 v2 v3)
set_option maxRecDepth 100000 in
set_option maxHeartbeats 4000000 in
theorem k_X0_whoIsAt_L2 {E : gs_E} (σ : gs_Mem) (v0 : Nat) (v1 : Int) (v2 : Int) (hv0 : isPl v0)  : ∀ (n : Nat) (v3 : Int), gs_K E (gs_MC E yX0_whoIsAt cX0_whoIsAt 4 (some .int) 0 { frames := 0, cells := 0, slots := 0, locals := 0 }) (fun v : Int => (v, σ)) (f_X0_whoIsAt_L2 σ v0 v1 v2 n v3) 2 [(0, gr E v0), (1, gi v1), (2, gi v2), (3, gi v3)] [] σ := by
  intro n
  induction n with
  | zero => intro v3; rw [f_X0_whoIsAt_L2]; exact gk_none
  | succ n ih =>
    intro v3; rw [f_X0_whoIsAt_L2]
    refine gk_iload_n (pc := 2) 3 dX0_whoIsAt_2 rfl ?_
    refine gk_aload_n (pc := 3) 0 dX0_whoIsAt_3 rfl ?_
    refine gk_getI (pc := 4) rfl clsX0 (pl_lt0 hv0) (pl_sh hv0) 9 (by decide) rfl ww_97 dX0_whoIsAt_4 ?_
    refine gk_icmp_ge (tgt := 38) (pc := 7) dX0_whoIsAt_7 (by decide) rfl rfl ?_ ?_
    · refine gk_iconst (pc := 38) dX0_whoIsAt_38 ?_
      exact gk_iret (pc := 39) rfl dX0_whoIsAt_39
    · refine gk_aload_n (pc := 10) 0 dX0_whoIsAt_10 rfl ?_
      refine gk_getR (q := (v0 + 1)) (pc := 11) rfl clsX0 (pl_lt0 hv0) (pl_sh hv0) 0 (by decide) rfl ww_88 dX0_whoIsAt_11 ?_
      refine gk_iload_n (pc := 14) 3 dX0_whoIsAt_14 rfl ?_
      refine gk_iald_c (pc := 15) (pl_lt1 hv0) (pl_s1 hv0) rfl dX0_whoIsAt_15 ?_
      refine gk_iload_n (pc := 16) 1 dX0_whoIsAt_16 rfl ?_
      refine gk_icmp_ne (tgt := 32) (pc := 17) dX0_whoIsAt_17 (by decide) rfl rfl ?_ ?_
      · exact k_X0_whoIsAt_J32 σ (f_X0_whoIsAt_L2 σ v0 v1 v2 n) v0 v1 v2 v3 hv0 ih
      · refine gk_aload_n (pc := 20) 0 dX0_whoIsAt_20 rfl ?_
        refine gk_getR (q := (v0 + 2)) (pc := 21) rfl clsX0 (pl_lt0 hv0) (pl_sh hv0) 1 (by decide) rfl ww_89 dX0_whoIsAt_21 ?_
        refine gk_iload_n (pc := 24) 3 dX0_whoIsAt_24 rfl ?_
        refine gk_iald_c (pc := 25) (pl_lt2 hv0) (pl_s2 hv0) rfl dX0_whoIsAt_25 ?_
        refine gk_iload_n (pc := 26) 2 dX0_whoIsAt_26 rfl ?_
        refine gk_icmp_ne (tgt := 32) (pc := 27) dX0_whoIsAt_27 (by decide) rfl rfl ?_ ?_
        · exact k_X0_whoIsAt_J32 σ (f_X0_whoIsAt_L2 σ v0 v1 v2 n) v0 v1 v2 v3 hv0 ih
        · refine gk_iload_n (pc := 30) 3 dX0_whoIsAt_30 rfl ?_
          exact gk_iret (pc := 31) rfl dX0_whoIsAt_31
def f_X0_whoIsAt (r0 : Nat) (v1 : Int) (v2 : Int) (σ : gs_Mem) : Option (Int) :=
  f_X0_whoIsAt_L2 σ r0 v1 v2 gs_fuel 0
set_option maxRecDepth 100000 in
set_option maxHeartbeats 4000000 in
theorem c_X0_whoIsAt {E : gs_E} (r0 : Nat) (v1 : Int) (v2 : Int) (hr0 : isPl r0) (σ : gs_Mem) : gs_C E yX0_whoIsAt cX0_whoIsAt 4 (some .int) 0 { frames := 0, cells := 0, slots := 0, locals := 0 } [gr E r0, gi v1, gi v2] σ (f_X0_whoIsAt r0 v1 v2 σ) (fun v : Int => (v, σ)) := by
  unfold f_X0_whoIsAt
  refine gs_enter (L := [(0, gr E r0), (1, gi v1), (2, gi v2)]) (by decide) rfl rfl (Nat.le_of_ble_eq_true rfl) rfl ?_
  refine gk_iconst (pc := 0) dX0_whoIsAt_0 ?_
  refine gk_istore_n (L' := [(3, gi 0), (0, gr E r0), (1, gi v1), (2, gi v2)]) (pc := 1) dX0_whoIsAt_1 (Nat.le_of_ble_eq_true rfl) rfl ?_
  refine gk_sub (L' := [(0, gr E r0), (1, gi v1), (2, gi v2), (3, gi 0)]) [1, 2, 3, 0] rfl ?_
  exact k_X0_whoIsAt_L2 σ r0 v1 v2 hr0 gs_fuel 0
def f_X0_gapByRules_J93 (σ : gs_Mem) (k46 : Int → Int → Option (Int)) (v0 : Nat) (v5 : Int) (v6 : Int) (v7 : Int) : Option (Int) :=
  k46 v6 (v7 + 1)
set_option maxRecDepth 100000 in
set_option maxHeartbeats 4000000 in
theorem k_X0_gapByRules_J93 {E : gs_E} (σ : gs_Mem) (k46 : Int → Int → Option (Int))  (v0 : Nat) (v5 : Int) (v6 : Int) (v7 : Int) (hv0 : isPl v0) (hk46 : ∀ (w6 : Int) (w7 : Int), gs_K E (gs_MC E yX0_gapByRules cX0_gapByRules 8 (some .int) 0 { frames := 0, cells := 0, slots := 0, locals := 0 }) (fun v : Int => (v, σ)) (k46 w6 w7) 46 [(0, gr E v0), (5, gi v5), (6, gi w6), (7, gi w7)] [] σ) : gs_K E (gs_MC E yX0_gapByRules cX0_gapByRules 8 (some .int) 0 { frames := 0, cells := 0, slots := 0, locals := 0 }) (fun v : Int => (v, σ)) (f_X0_gapByRules_J93 σ k46 v0 v5 v6 v7) 93 [(0, gr E v0), (5, gi v5), (6, gi v6), (7, gi v7)] [] σ := by
  unfold f_X0_gapByRules_J93
  refine gk_iinc (L' := [(7, gi (v7 + 1)), (0, gr E v0), (5, gi v5), (6, gi v6)]) (pc := 93) 3 dX0_gapByRules_93 rfl (Nat.le_of_ble_eq_true rfl) rfl ?_
  refine gk_goto (tgt := 46) (pc := 96) dX0_gapByRules_96 (by decide) ?_
  refine gk_sub (L' := [(0, gr E v0), (5, gi v5), (6, gi v6), (7, gi (v7 + 1))]) [1, 2, 3, 0] rfl ?_
  exact hk46 v6 (v7 + 1)
def f_X0_gapByRules_L46 (σ : gs_Mem) (v0 : Nat) (v5 : Int) : Nat → Int → Int → Option (Int)
  | 0, _, _ => none
  | n + 1, v6, v7 =>
    if 3 ≤ (gn v7) then
      some v6
    else
      gs_chk (gn v7) 3 (
      gs_chk (gn v7) 3 (
      if (gn ((σ (v0 + 4) (gn v7).toNat) * (σ (v0 + 4) (gn v7).toNat))) < (gn v5) then
        f_X0_gapByRules_J93 σ (f_X0_gapByRules_L46 σ v0 v5 n) v0 v5 v6 v7
      else
        gs_chk (gn v7) 3 (
        if (gn (σ (v0 + 5) (gn v7).toNat)) ≤ (gn v6) then
          f_X0_gapByRules_J93 σ (f_X0_gapByRules_L46 σ v0 v5 n) v0 v5 v6 v7
        else
          gs_chk (gn v7) 3 (
          f_X0_gapByRules_J93 σ (f_X0_gapByRules_L46 σ v0 v5 n) v0 v5 (σ (v0 + 5) (gn v7).toNat) v7))))
set_option maxRecDepth 100000 in
set_option maxHeartbeats 4000000 in
theorem k_X0_gapByRules_L46 {E : gs_E} (σ : gs_Mem) (v0 : Nat) (v5 : Int) (hv0 : isPl v0)  : ∀ (n : Nat) (v6 : Int) (v7 : Int), gs_K E (gs_MC E yX0_gapByRules cX0_gapByRules 8 (some .int) 0 { frames := 0, cells := 0, slots := 0, locals := 0 }) (fun v : Int => (v, σ)) (f_X0_gapByRules_L46 σ v0 v5 n v6 v7) 46 [(0, gr E v0), (5, gi v5), (6, gi v6), (7, gi v7)] [] σ := by
  intro n
  induction n with
  | zero => intro v6 v7; rw [f_X0_gapByRules_L46]; exact gk_none
  | succ n ih =>
    intro v6 v7; rw [f_X0_gapByRules_L46]
    refine gk_iload (pc := 46) 3 dX0_gapByRules_46 rfl ?_
    refine gk_iconst (pc := 48) dX0_gapByRules_48 ?_
    refine gk_icmp_ge (tgt := 99) (pc := 49) dX0_gapByRules_49 (by decide) rfl (by decide +kernel) ?_ ?_
    · refine gk_iload (pc := 99) 2 dX0_gapByRules_99 rfl ?_
      exact gk_iret (pc := 101) rfl dX0_gapByRules_101
    · refine gk_iload (pc := 52) 1 dX0_gapByRules_52 rfl ?_
      refine gk_aload_n (pc := 54) 0 dX0_gapByRules_54 rfl ?_
      refine gk_getR (q := (v0 + 4)) (pc := 55) rfl clsX0 (pl_lt0 hv0) (pl_sh hv0) 3 (by decide) rfl ww_91 dX0_gapByRules_55 ?_
      refine gk_iload (pc := 58) 3 dX0_gapByRules_58 rfl ?_
      refine gk_iald_c (pc := 60) (pl_lt4 hv0) (pl_s4 hv0) rfl dX0_gapByRules_60 ?_
      refine gk_aload_n (pc := 61) 0 dX0_gapByRules_61 rfl ?_
      refine gk_getR (q := (v0 + 4)) (pc := 62) rfl clsX0 (pl_lt0 hv0) (pl_sh hv0) 3 (by decide) rfl ww_91 dX0_gapByRules_62 ?_
      refine gk_iload (pc := 65) 3 dX0_gapByRules_65 rfl ?_
      refine gk_iald_c (pc := 67) (pl_lt4 hv0) (pl_s4 hv0) rfl dX0_gapByRules_67 ?_
      refine gk_imul (pc := 68) dX0_gapByRules_68 ?_
      refine gk_icmp_gt (tgt := 93) (pc := 69) dX0_gapByRules_69 (by decide) rfl rfl ?_ ?_
      · exact k_X0_gapByRules_J93 σ (f_X0_gapByRules_L46 σ v0 v5 n) v0 v5 v6 v7 hv0 ih
      · refine gk_aload_n (pc := 72) 0 dX0_gapByRules_72 rfl ?_
        refine gk_getR (q := (v0 + 5)) (pc := 73) rfl clsX0 (pl_lt0 hv0) (pl_sh hv0) 4 (by decide) rfl ww_92 dX0_gapByRules_73 ?_
        refine gk_iload (pc := 76) 3 dX0_gapByRules_76 rfl ?_
        refine gk_iald_c (pc := 78) (pl_lt5 hv0) (pl_s5 hv0) rfl dX0_gapByRules_78 ?_
        refine gk_iload (pc := 79) 2 dX0_gapByRules_79 rfl ?_
        refine gk_icmp_le (tgt := 93) (pc := 81) dX0_gapByRules_81 (by decide) rfl rfl ?_ ?_
        · exact k_X0_gapByRules_J93 σ (f_X0_gapByRules_L46 σ v0 v5 n) v0 v5 v6 v7 hv0 ih
        · refine gk_aload_n (pc := 84) 0 dX0_gapByRules_84 rfl ?_
          refine gk_getR (q := (v0 + 5)) (pc := 85) rfl clsX0 (pl_lt0 hv0) (pl_sh hv0) 4 (by decide) rfl ww_92 dX0_gapByRules_85 ?_
          refine gk_iload (pc := 88) 3 dX0_gapByRules_88 rfl ?_
          refine gk_iald_c (pc := 90) (pl_lt5 hv0) (pl_s5 hv0) rfl dX0_gapByRules_90 ?_
          refine gk_istore (L' := [(6, gi (σ (v0 + 5) (gn v7).toNat)), (0, gr E v0), (5, gi v5), (7, gi v7)]) (pc := 91) dX0_gapByRules_91 (Nat.le_of_ble_eq_true rfl) rfl ?_
          refine gk_sub (L' := [(0, gr E v0), (5, gi v5), (6, gi (σ (v0 + 5) (gn v7).toNat)), (7, gi v7)]) [1, 2, 0, 3] rfl ?_
          exact k_X0_gapByRules_J93 σ (f_X0_gapByRules_L46 σ v0 v5 n) v0 v5 (σ (v0 + 5) (gn v7).toNat) v7 hv0 ih
def f_X0_gapByRules (r0 : Nat) (v1 : Int) (v2 : Int) (σ : gs_Mem) : Option (Int) :=
  gs_chk (gn v1) 8 (
  gs_chk (gn v2) 8 (
  gs_chk (gn v1) 8 (
  gs_chk (gn v2) 8 (
  gs_let ((((σ (r0 + 1) (gn v1).toNat) - (σ (r0 + 1) (gn v2).toNat)) * ((σ (r0 + 1) (gn v1).toNat) - (σ (r0 + 1) (gn v2).toNat))) + (((σ (r0 + 2) (gn v1).toNat) - (σ (r0 + 2) (gn v2).toNat)) * ((σ (r0 + 2) (gn v1).toNat) - (σ (r0 + 2) (gn v2).toNat)))) fun x1 =>
  f_X0_gapByRules_L46 σ r0 x1 gs_fuel 0 0))))
set_option maxRecDepth 100000 in
set_option maxHeartbeats 4000000 in
theorem c_X0_gapByRules {E : gs_E} (r0 : Nat) (v1 : Int) (v2 : Int) (hr0 : isPl r0) (σ : gs_Mem) : gs_C E yX0_gapByRules cX0_gapByRules 8 (some .int) 0 { frames := 0, cells := 0, slots := 0, locals := 0 } [gr E r0, gi v1, gi v2] σ (f_X0_gapByRules r0 v1 v2 σ) (fun v : Int => (v, σ)) := by
  unfold f_X0_gapByRules
  refine gs_enter (L := [(0, gr E r0), (1, gi v1), (2, gi v2)]) (by decide) rfl rfl (Nat.le_of_ble_eq_true rfl) rfl ?_
  refine gk_aload_n (pc := 0) 0 dX0_gapByRules_0 rfl ?_
  refine gk_getR (q := (r0 + 1)) (pc := 1) rfl clsX0 (pl_lt0 hr0) (pl_sh hr0) 0 (by decide) rfl ww_88 dX0_gapByRules_1 ?_
  refine gk_iload_n (pc := 4) 1 dX0_gapByRules_4 rfl ?_
  refine gk_iald_c (pc := 5) (pl_lt1 hr0) (pl_s1 hr0) rfl dX0_gapByRules_5 ?_
  refine gk_aload_n (pc := 6) 0 dX0_gapByRules_6 rfl ?_
  refine gk_getR (q := (r0 + 1)) (pc := 7) rfl clsX0 (pl_lt0 hr0) (pl_sh hr0) 0 (by decide) rfl ww_88 dX0_gapByRules_7 ?_
  refine gk_iload_n (pc := 10) 2 dX0_gapByRules_10 rfl ?_
  refine gk_iald_c (pc := 11) (pl_lt1 hr0) (pl_s1 hr0) rfl dX0_gapByRules_11 ?_
  refine gk_isub (pc := 12) dX0_gapByRules_12 ?_
  refine gk_istore_n (L' := [(3, gi ((σ (r0 + 1) (gn v1).toNat) - (σ (r0 + 1) (gn v2).toNat))), (0, gr E r0), (1, gi v1), (2, gi v2)]) (pc := 13) dX0_gapByRules_13 (Nat.le_of_ble_eq_true rfl) rfl ?_
  refine gk_aload_n (pc := 14) 1 dX0_gapByRules_14 rfl ?_
  refine gk_getR (q := (r0 + 2)) (pc := 15) rfl clsX0 (pl_lt0 hr0) (pl_sh hr0) 1 (by decide) rfl ww_89 dX0_gapByRules_15 ?_
  refine gk_iload_n (pc := 18) 2 dX0_gapByRules_18 rfl ?_
  refine gk_iald_c (pc := 19) (pl_lt2 hr0) (pl_s2 hr0) rfl dX0_gapByRules_19 ?_
  refine gk_aload_n (pc := 20) 1 dX0_gapByRules_20 rfl ?_
  refine gk_getR (q := (r0 + 2)) (pc := 21) rfl clsX0 (pl_lt0 hr0) (pl_sh hr0) 1 (by decide) rfl ww_89 dX0_gapByRules_21 ?_
  refine gk_iload_n (pc := 24) 3 dX0_gapByRules_24 rfl ?_
  refine gk_iald_c (pc := 25) (pl_lt2 hr0) (pl_s2 hr0) rfl dX0_gapByRules_25 ?_
  refine gk_isub (pc := 26) dX0_gapByRules_26 ?_
  refine gk_istore (L' := [(4, gi ((σ (r0 + 2) (gn v1).toNat) - (σ (r0 + 2) (gn v2).toNat))), (3, gi ((σ (r0 + 1) (gn v1).toNat) - (σ (r0 + 1) (gn v2).toNat))), (0, gr E r0), (1, gi v1), (2, gi v2)]) (pc := 27) dX0_gapByRules_27 (Nat.le_of_ble_eq_true rfl) rfl ?_
  refine gk_iload_n (pc := 29) 1 dX0_gapByRules_29 rfl ?_
  refine gk_iload_n (pc := 30) 1 dX0_gapByRules_30 rfl ?_
  refine gk_imul (pc := 31) dX0_gapByRules_31 ?_
  refine gk_iload (pc := 32) 0 dX0_gapByRules_32 rfl ?_
  refine gk_iload (pc := 34) 0 dX0_gapByRules_34 rfl ?_
  refine gk_imul (pc := 36) dX0_gapByRules_36 ?_
  refine gk_iadd (pc := 37) dX0_gapByRules_37 ?_
  refine gk_let (fun x1 => ?_)
  refine gk_istore (L' := [(5, gi x1), (4, gi ((σ (r0 + 2) (gn v1).toNat) - (σ (r0 + 2) (gn v2).toNat))), (3, gi ((σ (r0 + 1) (gn v1).toNat) - (σ (r0 + 1) (gn v2).toNat))), (0, gr E r0), (1, gi v1), (2, gi v2)]) (pc := 38) dX0_gapByRules_38 (Nat.le_of_ble_eq_true rfl) rfl ?_
  refine gk_iconst (pc := 40) dX0_gapByRules_40 ?_
  refine gk_istore (L' := [(6, gi 0), (5, gi x1), (4, gi ((σ (r0 + 2) (gn v1).toNat) - (σ (r0 + 2) (gn v2).toNat))), (3, gi ((σ (r0 + 1) (gn v1).toNat) - (σ (r0 + 1) (gn v2).toNat))), (0, gr E r0), (1, gi v1), (2, gi v2)]) (pc := 41) dX0_gapByRules_41 (Nat.le_of_ble_eq_true rfl) rfl ?_
  refine gk_iconst (pc := 43) dX0_gapByRules_43 ?_
  refine gk_istore (L' := [(7, gi 0), (6, gi 0), (5, gi x1), (4, gi ((σ (r0 + 2) (gn v1).toNat) - (σ (r0 + 2) (gn v2).toNat))), (3, gi ((σ (r0 + 1) (gn v1).toNat) - (σ (r0 + 1) (gn v2).toNat))), (0, gr E r0), (1, gi v1), (2, gi v2)]) (pc := 44) dX0_gapByRules_44 (Nat.le_of_ble_eq_true rfl) rfl ?_
  refine gk_sub (L' := [(0, gr E r0), (5, gi x1), (6, gi 0), (7, gi 0)]) [5, 2, 1, 0] rfl ?_
  exact k_X0_gapByRules_L46 σ r0 x1 hr0 gs_fuel 0 0
def f_X0_measure_J120 (k21 : Int → Int → gs_Mem → Option (Int × gs_Mem)) (k128 : Int → gs_Mem → Option (Int × gs_Mem)) (v0 : Nat) (v1 : Int) (v2 : Int) (v3 : Int) (t0 : Int) (t1 : Int) (t2 : Int) (t3 : Nat) (σ : gs_Mem) : Option (Int × gs_Mem) :=
  gs_chk (gn t2) 8 (
  k21 v1 (v3 + 1) (gs_st σ (t3 + 7) (gn t2).toNat (t1 + t0)))
set_option maxRecDepth 100000 in
set_option maxHeartbeats 4000000 in
theorem k_X0_measure_J120 {E : gs_E} (k21 : Int → Int → gs_Mem → Option (Int × gs_Mem)) (k128 : Int → gs_Mem → Option (Int × gs_Mem))  (v0 : Nat) (v1 : Int) (v2 : Int) (v3 : Int) (t0 : Int) (t1 : Int) (t2 : Int) (t3 : Nat) (hv0 : isPl v0) (ht3 : isPl t3) (hk21 : ∀ (w1 : Int) (w3 : Int) (σ : gs_Mem), gs_K E (gs_MC E yX0_measure cX0_measure 5 (some .boolean) 0 { frames := 1, cells := 0, slots := 0, locals := 27 }) (fun b : Int × gs_Mem => b) (k21 w1 w3 σ) 21 [(0, gr E v0), (1, gi w1), (2, gi v2), (3, gi w3)] [] σ) (hk128 : ∀ (w1 : Int) (σ : gs_Mem), gs_K E (gs_MC E yX0_measure cX0_measure 5 (some .boolean) 0 { frames := 1, cells := 0, slots := 0, locals := 27 }) (fun b : Int × gs_Mem => b) (k128 w1 σ) 128 [(0, gr E v0), (1, gi w1), (2, gi v2)] [] σ) (σ : gs_Mem) : gs_K E (gs_MC E yX0_measure cX0_measure 5 (some .boolean) 0 { frames := 1, cells := 0, slots := 0, locals := 27 }) (fun b : Int × gs_Mem => b) (f_X0_measure_J120 k21 k128 v0 v1 v2 v3 t0 t1 t2 t3 σ) 120 [(0, gr E v0), (1, gi v1), (2, gi v2), (3, gi v3)] [gi t0, gi t1, gi t2, gr E (t3 + 7)] σ := by
  unfold f_X0_measure_J120
  refine gk_iadd (pc := 120) dX0_measure_120 ?_
  refine gk_iast_c (pc := 121) (pl_lt7 ht3) (pl_s7 ht3) rfl dX0_measure_121 ?_
  refine gk_iinc (L' := [(3, gi (v3 + 1)), (0, gr E v0), (1, gi v1), (2, gi v2)]) (pc := 122) 3 dX0_measure_122 rfl (Nat.le_of_ble_eq_true rfl) rfl ?_
  refine gk_goto (tgt := 21) (pc := 125) dX0_measure_125 (by decide) ?_
  refine gk_sub (L' := [(0, gr E v0), (1, gi v1), (2, gi v2), (3, gi (v3 + 1))]) [1, 2, 3, 0] rfl ?_
  exact hk21 v1 (v3 + 1) (gs_st σ (t3 + 7) (gn t2).toNat (t1 + t0))
def f_X0_measure_J101 (k21 : Int → Int → gs_Mem → Option (Int × gs_Mem)) (k128 : Int → gs_Mem → Option (Int × gs_Mem)) (v0 : Nat) (v1 : Int) (v2 : Int) (v3 : Int) (v4 : Int) (t0 : Int) (t1 : Int) (t2 : Int) (t3 : Nat) (σ : gs_Mem) : Option (Int × gs_Mem) :=
  gs_chk (gn t2) 8 (
  gs_chk (gn v3) 8 (
  if (gn v4) ≤ 0 then
    f_X0_measure_J120 k21 k128 v0 v1 v2 v3 0 ((gs_st σ (t3 + 7) (gn t2).toNat (t1 + t0)) (v0 + 7) (gn v3).toNat) v3 v0 (gs_st σ (t3 + 7) (gn t2).toNat (t1 + t0))
  else
    f_X0_measure_J120 k21 k128 v0 v1 v2 v3 1 ((gs_st σ (t3 + 7) (gn t2).toNat (t1 + t0)) (v0 + 7) (gn v3).toNat) v3 v0 (gs_st σ (t3 + 7) (gn t2).toNat (t1 + t0))))
set_option maxRecDepth 100000 in
set_option maxHeartbeats 4000000 in
theorem k_X0_measure_J101 {E : gs_E} (k21 : Int → Int → gs_Mem → Option (Int × gs_Mem)) (k128 : Int → gs_Mem → Option (Int × gs_Mem))  (v0 : Nat) (v1 : Int) (v2 : Int) (v3 : Int) (v4 : Int) (t0 : Int) (t1 : Int) (t2 : Int) (t3 : Nat) (hv0 : isPl v0) (ht3 : isPl t3) (hk21 : ∀ (w1 : Int) (w3 : Int) (σ : gs_Mem), gs_K E (gs_MC E yX0_measure cX0_measure 5 (some .boolean) 0 { frames := 1, cells := 0, slots := 0, locals := 27 }) (fun b : Int × gs_Mem => b) (k21 w1 w3 σ) 21 [(0, gr E v0), (1, gi w1), (2, gi v2), (3, gi w3)] [] σ) (hk128 : ∀ (w1 : Int) (σ : gs_Mem), gs_K E (gs_MC E yX0_measure cX0_measure 5 (some .boolean) 0 { frames := 1, cells := 0, slots := 0, locals := 27 }) (fun b : Int × gs_Mem => b) (k128 w1 σ) 128 [(0, gr E v0), (1, gi w1), (2, gi v2)] [] σ) (σ : gs_Mem) : gs_K E (gs_MC E yX0_measure cX0_measure 5 (some .boolean) 0 { frames := 1, cells := 0, slots := 0, locals := 27 }) (fun b : Int × gs_Mem => b) (f_X0_measure_J101 k21 k128 v0 v1 v2 v3 v4 t0 t1 t2 t3 σ) 101 [(0, gr E v0), (1, gi v1), (2, gi v2), (3, gi v3), (4, gi v4)] [gi t0, gi t1, gi t2, gr E (t3 + 7)] σ := by
  unfold f_X0_measure_J101
  refine gk_iadd (pc := 101) dX0_measure_101 ?_
  refine gk_iast_c (pc := 102) (pl_lt7 ht3) (pl_s7 ht3) rfl dX0_measure_102 ?_
  refine gk_aload_n (pc := 103) 0 dX0_measure_103 rfl ?_
  refine gk_getR (q := (v0 + 7)) (pc := 104) rfl clsX0 (pl_lt0 hv0) (pl_sh hv0) 6 (by decide) rfl ww_94 dX0_measure_104 ?_
  refine gk_iload_n (pc := 107) 3 dX0_measure_107 rfl ?_
  refine gk_dup2 (pc := 108) dX0_measure_108 rfl rfl ?_
  refine gk_iald_c (pc := 109) (pl_lt7 hv0) (pl_s7 hv0) rfl dX0_measure_109 ?_
  refine gk_iload (pc := 110) 4 dX0_measure_110 rfl ?_
  refine gk_if_le (tgt := 119) (pc := 112) dX0_measure_112 (by decide) rfl ?_ ?_
  · refine gk_iconst (pc := 119) dX0_measure_119 ?_
    refine gk_sub (L' := [(0, gr E v0), (1, gi v1), (2, gi v2), (3, gi v3)]) [0, 1, 2, 3] rfl ?_
    exact k_X0_measure_J120 k21 k128 v0 v1 v2 v3 0 ((gs_st σ (t3 + 7) (gn t2).toNat (t1 + t0)) (v0 + 7) (gn v3).toNat) v3 v0 hv0 hv0 hk21 hk128 (gs_st σ (t3 + 7) (gn t2).toNat (t1 + t0))
  · refine gk_iconst (pc := 115) dX0_measure_115 ?_
    refine gk_goto (tgt := 120) (pc := 116) dX0_measure_116 (by decide) ?_
    refine gk_sub (L' := [(0, gr E v0), (1, gi v1), (2, gi v2), (3, gi v3)]) [0, 1, 2, 3] rfl ?_
    exact k_X0_measure_J120 k21 k128 v0 v1 v2 v3 1 ((gs_st σ (t3 + 7) (gn t2).toNat (t1 + t0)) (v0 + 7) (gn v3).toNat) v3 v0 hv0 hv0 hk21 hk128 (gs_st σ (t3 + 7) (gn t2).toNat (t1 + t0))
def f_X0_measure_J56 (k21 : Int → Int → gs_Mem → Option (Int × gs_Mem)) (k128 : Int → gs_Mem → Option (Int × gs_Mem)) (v0 : Nat) (v2 : Int) (v3 : Int) (v4 : Int) (t0 : Int) (t1 : Int) (σ : gs_Mem) : Option (Int × gs_Mem) :=
  gs_chk (gn ((v2 * 8) + v3)) 64 (
  gs_chk (gn ((v3 * 8) + v2)) 64 (
  gs_chk (gn v2) 8 (
  if (gn v4) ≤ 0 then
    f_X0_measure_J101 k21 k128 v0 (gor t1 t0) v2 v3 v4 0 ((gs_st (gs_st σ (v0 + 6) (gn ((v2 * 8) + v3)).toNat v4) (v0 + 6) (gn ((v3 * 8) + v2)).toNat v4) (v0 + 7) (gn v2).toNat) v2 v0 (gs_st (gs_st σ (v0 + 6) (gn ((v2 * 8) + v3)).toNat v4) (v0 + 6) (gn ((v3 * 8) + v2)).toNat v4)
  else
    f_X0_measure_J101 k21 k128 v0 (gor t1 t0) v2 v3 v4 1 ((gs_st (gs_st σ (v0 + 6) (gn ((v2 * 8) + v3)).toNat v4) (v0 + 6) (gn ((v3 * 8) + v2)).toNat v4) (v0 + 7) (gn v2).toNat) v2 v0 (gs_st (gs_st σ (v0 + 6) (gn ((v2 * 8) + v3)).toNat v4) (v0 + 6) (gn ((v3 * 8) + v2)).toNat v4))))
set_option maxRecDepth 100000 in
set_option maxHeartbeats 4000000 in
theorem k_X0_measure_J56 {E : gs_E} (k21 : Int → Int → gs_Mem → Option (Int × gs_Mem)) (k128 : Int → gs_Mem → Option (Int × gs_Mem))  (v0 : Nat) (v2 : Int) (v3 : Int) (v4 : Int) (t0 : Int) (t1 : Int) (hv0 : isPl v0) (hk21 : ∀ (w1 : Int) (w3 : Int) (σ : gs_Mem), gs_K E (gs_MC E yX0_measure cX0_measure 5 (some .boolean) 0 { frames := 1, cells := 0, slots := 0, locals := 27 }) (fun b : Int × gs_Mem => b) (k21 w1 w3 σ) 21 [(0, gr E v0), (1, gi w1), (2, gi v2), (3, gi w3)] [] σ) (hk128 : ∀ (w1 : Int) (σ : gs_Mem), gs_K E (gs_MC E yX0_measure cX0_measure 5 (some .boolean) 0 { frames := 1, cells := 0, slots := 0, locals := 27 }) (fun b : Int × gs_Mem => b) (k128 w1 σ) 128 [(0, gr E v0), (1, gi w1), (2, gi v2)] [] σ) (σ : gs_Mem) : gs_K E (gs_MC E yX0_measure cX0_measure 5 (some .boolean) 0 { frames := 1, cells := 0, slots := 0, locals := 27 }) (fun b : Int × gs_Mem => b) (f_X0_measure_J56 k21 k128 v0 v2 v3 v4 t0 t1 σ) 56 [(0, gr E v0), (2, gi v2), (3, gi v3), (4, gi v4)] [gi t0, gi t1] σ := by
  unfold f_X0_measure_J56
  refine gk_ior (pc := 56) dX0_measure_56 ?_
  refine gk_istore_n (L' := [(1, gi (gor t1 t0)), (0, gr E v0), (2, gi v2), (3, gi v3), (4, gi v4)]) (pc := 57) dX0_measure_57 (Nat.le_of_ble_eq_true rfl) rfl ?_
  refine gk_aload_n (pc := 58) 1 dX0_measure_58 rfl ?_
  refine gk_getR (q := (v0 + 6)) (pc := 59) rfl clsX0 (pl_lt0 hv0) (pl_sh hv0) 5 (by decide) rfl ww_93 dX0_measure_59 ?_
  refine gk_iload_n (pc := 62) 2 dX0_measure_62 rfl ?_
  refine gk_bipush (pc := 63) dX0_measure_63 (by decide +kernel) ?_
  refine gk_imul (pc := 65) dX0_measure_65 ?_
  refine gk_iload_n (pc := 66) 3 dX0_measure_66 rfl ?_
  refine gk_iadd (pc := 67) dX0_measure_67 ?_
  refine gk_iload (pc := 68) 4 dX0_measure_68 rfl ?_
  refine gk_iast_c (pc := 70) (pl_lt6 hv0) (pl_s6 hv0) rfl dX0_measure_70 ?_
  refine gk_aload_n (pc := 71) 1 dX0_measure_71 rfl ?_
  refine gk_getR (q := (v0 + 6)) (pc := 72) rfl clsX0 (pl_lt0 hv0) (pl_sh hv0) 5 (by decide) rfl ww_93 dX0_measure_72 ?_
  refine gk_iload_n (pc := 75) 3 dX0_measure_75 rfl ?_
  refine gk_bipush (pc := 76) dX0_measure_76 (by decide +kernel) ?_
  refine gk_imul (pc := 78) dX0_measure_78 ?_
  refine gk_iload_n (pc := 79) 2 dX0_measure_79 rfl ?_
  refine gk_iadd (pc := 80) dX0_measure_80 ?_
  refine gk_iload (pc := 81) 4 dX0_measure_81 rfl ?_
  refine gk_iast_c (pc := 83) (pl_lt6 hv0) (pl_s6 hv0) rfl dX0_measure_83 ?_
  refine gk_aload_n (pc := 84) 1 dX0_measure_84 rfl ?_
  refine gk_getR (q := (v0 + 7)) (pc := 85) rfl clsX0 (pl_lt0 hv0) (pl_sh hv0) 6 (by decide) rfl ww_94 dX0_measure_85 ?_
  refine gk_iload_n (pc := 88) 2 dX0_measure_88 rfl ?_
  refine gk_dup2 (pc := 89) dX0_measure_89 rfl rfl ?_
  refine gk_iald_c (pc := 90) (pl_lt7 hv0) (pl_s7 hv0) rfl dX0_measure_90 ?_
  refine gk_iload (pc := 91) 4 dX0_measure_91 rfl ?_
  refine gk_if_le (tgt := 100) (pc := 93) dX0_measure_93 (by decide) rfl ?_ ?_
  · refine gk_iconst (pc := 100) dX0_measure_100 ?_
    refine gk_sub (L' := [(0, gr E v0), (1, gi (gor t1 t0)), (2, gi v2), (3, gi v3), (4, gi v4)]) [1, 0, 2, 3, 4] rfl ?_
    exact k_X0_measure_J101 k21 k128 v0 (gor t1 t0) v2 v3 v4 0 ((gs_st (gs_st σ (v0 + 6) (gn ((v2 * 8) + v3)).toNat v4) (v0 + 6) (gn ((v3 * 8) + v2)).toNat v4) (v0 + 7) (gn v2).toNat) v2 v0 hv0 hv0 hk21 hk128 (gs_st (gs_st σ (v0 + 6) (gn ((v2 * 8) + v3)).toNat v4) (v0 + 6) (gn ((v3 * 8) + v2)).toNat v4)
  · refine gk_iconst (pc := 96) dX0_measure_96 ?_
    refine gk_goto (tgt := 101) (pc := 97) dX0_measure_97 (by decide) ?_
    refine gk_sub (L' := [(0, gr E v0), (1, gi (gor t1 t0)), (2, gi v2), (3, gi v3), (4, gi v4)]) [1, 0, 2, 3, 4] rfl ?_
    exact k_X0_measure_J101 k21 k128 v0 (gor t1 t0) v2 v3 v4 1 ((gs_st (gs_st σ (v0 + 6) (gn ((v2 * 8) + v3)).toNat v4) (v0 + 6) (gn ((v3 * 8) + v2)).toNat v4) (v0 + 7) (gn v2).toNat) v2 v0 hv0 hv0 hk21 hk128 (gs_st (gs_st σ (v0 + 6) (gn ((v2 * 8) + v3)).toNat v4) (v0 + 6) (gn ((v3 * 8) + v2)).toNat v4)
def f_X0_measure_L21 (v0 : Nat) (v2 : Int) (k128 : Int → gs_Mem → Option (Int × gs_Mem)) : Nat → Int → Int → gs_Mem → Option (Int × gs_Mem)
  | 0, _, _, _ => none
  | n + 1, v1, v3, σ =>
    if (gn v2) ≤ (gn v3) then
      k128 v1 σ
    else
      (f_X0_gapByRules v0 v2 v3 σ).bind fun u1 =>
      gs_chk (gn ((v2 * 8) + v3)) 64 (
      if (gn u1) = (gn (σ (v0 + 6) (gn ((v2 * 8) + v3)).toNat)) then
        f_X0_measure_J56 (f_X0_measure_L21 v0 v2 k128 n) k128 v0 v2 v3 u1 0 v1 σ
      else
        f_X0_measure_J56 (f_X0_measure_L21 v0 v2 k128 n) k128 v0 v2 v3 u1 1 v1 σ)
set_option maxRecDepth 100000 in
set_option maxHeartbeats 4000000 in
theorem k_X0_measure_L21 {E : gs_E} (v0 : Nat) (v2 : Int) (k128 : Int → gs_Mem → Option (Int × gs_Mem)) (hv0 : isPl v0) (hk128 : ∀ (w1 : Int) (σ : gs_Mem), gs_K E (gs_MC E yX0_measure cX0_measure 5 (some .boolean) 0 { frames := 1, cells := 0, slots := 0, locals := 27 }) (fun b : Int × gs_Mem => b) (k128 w1 σ) 128 [(0, gr E v0), (1, gi w1), (2, gi v2)] [] σ) : ∀ (n : Nat) (v1 : Int) (v3 : Int) (σ : gs_Mem), gs_K E (gs_MC E yX0_measure cX0_measure 5 (some .boolean) 0 { frames := 1, cells := 0, slots := 0, locals := 27 }) (fun b : Int × gs_Mem => b) (f_X0_measure_L21 v0 v2 k128 n v1 v3 σ) 21 [(0, gr E v0), (1, gi v1), (2, gi v2), (3, gi v3)] [] σ := by
  intro n
  induction n with
  | zero => intro v1 v3 σ; rw [f_X0_measure_L21]; exact gk_none
  | succ n ih =>
    intro v1 v3 σ; rw [f_X0_measure_L21]
    refine gk_iload_n (pc := 21) 3 dX0_measure_21 rfl ?_
    refine gk_iload_n (pc := 22) 2 dX0_measure_22 rfl ?_
    refine gk_icmp_ge (tgt := 128) (pc := 23) dX0_measure_23 (by decide) rfl rfl ?_ ?_
    · refine gk_sub (L' := [(0, gr E v0), (1, gi v1), (2, gi v2)]) [0, 1, 2] rfl ?_
      exact hk128 v1 σ
    · refine gk_aload_n (pc := 26) 0 dX0_measure_26 rfl ?_
      refine gk_iload_n (pc := 27) 2 dX0_measure_27 rfl ?_
      refine gk_iload_n (pc := 28) 3 dX0_measure_28 rfl ?_
      refine gk_callV_ir (As := [gi v2, gi v3]) (pc := 29) (c_X0_gapByRules v0 v2 v3 hv0 σ) rfl mm_X0_gapByRules ww_269 clsX0 rfl (pl_lt0 hv0) (pl_sh hv0) (gs_fit_of (Nat.le_of_ble_eq_true rfl) (Nat.le_of_ble_eq_true rfl)) rfl rfl (Nat.le_of_ble_eq_true rfl) dX0_measure_29 (fun u1 => ?_)
      refine gk_istore (L' := [(4, gi u1), (0, gr E v0), (1, gi v1), (2, gi v2), (3, gi v3)]) (pc := 32) dX0_measure_32 (Nat.le_of_ble_eq_true rfl) rfl ?_
      refine gk_iload_n (pc := 34) 2 dX0_measure_34 rfl ?_
      refine gk_iload (pc := 35) 0 dX0_measure_35 rfl ?_
      refine gk_aload_n (pc := 37) 1 dX0_measure_37 rfl ?_
      refine gk_getR (q := (v0 + 6)) (pc := 38) rfl clsX0 (pl_lt0 hv0) (pl_sh hv0) 5 (by decide) rfl ww_93 dX0_measure_38 ?_
      refine gk_iload_n (pc := 41) 3 dX0_measure_41 rfl ?_
      refine gk_bipush (pc := 42) dX0_measure_42 (by decide +kernel) ?_
      refine gk_imul (pc := 44) dX0_measure_44 ?_
      refine gk_iload_n (pc := 45) 4 dX0_measure_45 rfl ?_
      refine gk_iadd (pc := 46) dX0_measure_46 ?_
      refine gk_iald_c (pc := 47) (pl_lt6 hv0) (pl_s6 hv0) rfl dX0_measure_47 ?_
      refine gk_icmp_eq (tgt := 55) (pc := 48) dX0_measure_48 (by decide) rfl rfl ?_ ?_
      · refine gk_iconst (pc := 55) dX0_measure_55 ?_
        refine gk_sub (L' := [(0, gr E v0), (2, gi v2), (3, gi v3), (4, gi u1)]) [1, 3, 4, 0] rfl ?_
        exact k_X0_measure_J56 (f_X0_measure_L21 v0 v2 k128 n) k128 v0 v2 v3 u1 0 v1 hv0 ih hk128 σ
      · refine gk_iconst (pc := 51) dX0_measure_51 ?_
        refine gk_goto (tgt := 56) (pc := 52) dX0_measure_52 (by decide) ?_
        refine gk_sub (L' := [(0, gr E v0), (2, gi v2), (3, gi v3), (4, gi u1)]) [1, 3, 4, 0] rfl ?_
        exact k_X0_measure_J56 (f_X0_measure_L21 v0 v2 k128 n) k128 v0 v2 v3 u1 1 v1 hv0 ih hk128 σ
def f_X0_measure_L4 (v0 : Nat) : Nat → Int → Int → gs_Mem → Option (Int × gs_Mem)
  | 0, _, _, _ => none
  | n + 1, v1, v2, σ =>
    if (gn (σ v0 9)) ≤ (gn v2) then
      gs_chkz (gn v1) (some (v1, σ))
    else
      gs_chk (gn v2) 8 (
      f_X0_measure_L21 v0 v2 (fun w1 σ2 =>
        f_X0_measure_L4 v0 n w1 (v2 + 1) σ2) gs_fuel v1 0 (gs_st σ (v0 + 7) (gn v2).toNat 0))
set_option maxRecDepth 100000 in
set_option maxHeartbeats 4000000 in
theorem k_X0_measure_L4 {E : gs_E} (v0 : Nat) (hv0 : isPl v0)  : ∀ (n : Nat) (v1 : Int) (v2 : Int) (σ : gs_Mem), gs_K E (gs_MC E yX0_measure cX0_measure 5 (some .boolean) 0 { frames := 1, cells := 0, slots := 0, locals := 27 }) (fun b : Int × gs_Mem => b) (f_X0_measure_L4 v0 n v1 v2 σ) 4 [(0, gr E v0), (1, gi v1), (2, gi v2)] [] σ := by
  intro n
  induction n with
  | zero => intro v1 v2 σ; rw [f_X0_measure_L4]; exact gk_none
  | succ n ih =>
    intro v1 v2 σ; rw [f_X0_measure_L4]
    refine gk_iload_n (pc := 4) 2 dX0_measure_4 rfl ?_
    refine gk_aload_n (pc := 5) 0 dX0_measure_5 rfl ?_
    refine gk_getI (pc := 6) rfl clsX0 (pl_lt0 hv0) (pl_sh hv0) 9 (by decide) rfl ww_97 dX0_measure_6 ?_
    refine gk_icmp_ge (tgt := 134) (pc := 9) dX0_measure_9 (by decide) rfl rfl ?_ ?_
    · refine gk_iload_n (pc := 134) 1 dX0_measure_134 rfl ?_
      exact gk_zretG_c (pc := 135) rfl rfl dX0_measure_135
    · refine gk_aload_n (pc := 12) 0 dX0_measure_12 rfl ?_
      refine gk_getR (q := (v0 + 7)) (pc := 13) rfl clsX0 (pl_lt0 hv0) (pl_sh hv0) 6 (by decide) rfl ww_94 dX0_measure_13 ?_
      refine gk_iload_n (pc := 16) 2 dX0_measure_16 rfl ?_
      refine gk_iconst (pc := 17) dX0_measure_17 ?_
      refine gk_iast_c (pc := 18) (pl_lt7 hv0) (pl_s7 hv0) rfl dX0_measure_18 ?_
      refine gk_iconst (pc := 19) dX0_measure_19 ?_
      refine gk_istore_n (L' := [(3, gi 0), (0, gr E v0), (1, gi v1), (2, gi v2)]) (pc := 20) dX0_measure_20 (Nat.le_of_ble_eq_true rfl) rfl ?_
      refine gk_sub (L' := [(0, gr E v0), (1, gi v1), (2, gi v2), (3, gi 0)]) [1, 2, 3, 0] rfl ?_
      refine k_X0_measure_L21 v0 v2 _ hv0 ?_ gs_fuel v1 0 (gs_st σ (v0 + 7) (gn v2).toNat 0)
      · intro w1 σ2
        refine gk_iinc (L' := [(2, gi (v2 + 1)), (0, gr E v0), (1, gi w1)]) (pc := 128) 2 dX0_measure_128 rfl (Nat.le_of_ble_eq_true rfl) rfl ?_
        refine gk_goto (tgt := 4) (pc := 131) dX0_measure_131 (by decide) ?_
        refine gk_sub (L' := [(0, gr E v0), (1, gi w1), (2, gi (v2 + 1))]) [1, 2, 0] rfl ?_
        exact ih w1 (v2 + 1) σ2
def f_X0_measure (r0 : Nat) (σ : gs_Mem) : Option (Int × gs_Mem) :=
  f_X0_measure_L4 r0 gs_fuel 0 0 σ
set_option maxRecDepth 100000 in
set_option maxHeartbeats 4000000 in
theorem c_X0_measure {E : gs_E} (r0 : Nat) (hr0 : isPl r0) (σ : gs_Mem) : gs_C E yX0_measure cX0_measure 5 (some .boolean) 0 { frames := 1, cells := 0, slots := 0, locals := 27 } [gr E r0] σ (f_X0_measure r0 σ) (fun b : Int × gs_Mem => b) := by
  unfold f_X0_measure
  refine gs_enter (L := [(0, gr E r0)]) (by decide) rfl rfl (Nat.le_of_ble_eq_true rfl) rfl ?_
  refine gk_iconst (pc := 0) dX0_measure_0 ?_
  refine gk_istore_n (L' := [(1, gi 0), (0, gr E r0)]) (pc := 1) dX0_measure_1 (Nat.le_of_ble_eq_true rfl) rfl ?_
  refine gk_iconst (pc := 2) dX0_measure_2 ?_
  refine gk_istore_n (L' := [(2, gi 0), (1, gi 0), (0, gr E r0)]) (pc := 3) dX0_measure_3 (Nat.le_of_ble_eq_true rfl) rfl ?_
  refine gk_sub (L' := [(0, gr E r0), (1, gi 0), (2, gi 0)]) [2, 1, 0] rfl ?_
  exact k_X0_measure_L4 r0 hr0 gs_fuel 0 0 σ
def f_X0_settle (r0 : Nat) (v1 : Int) (v2 : Int) (σ : gs_Mem) : Option (Int × gs_Mem) :=
  (f_X0_whoIsAt r0 v1 v2 σ).bind fun u1 =>
  if (gn u1) < 0 then
    if (gn (σ r0 9)) < 8 then
      gs_chk (gn (σ r0 9)) 8 (
      gs_chk (gn (σ r0 9)) 8 (
      gs_chk (gn (σ r0 9)) 8 (
      (f_X0_measure r0 (gs_st (gs_st (gs_st (gs_st (gs_st σ (r0 + 1) (gn (σ r0 9)).toNat v1) (r0 + 2) (gn (σ r0 9)).toNat v2) (r0 + 3) (gn (σ r0 9)).toNat (-1)) r0 8 (gand ((gs_st (gs_st (gs_st σ (r0 + 1) (gn (σ r0 9)).toNat v1) (r0 + 2) (gn (σ r0 9)).toNat v2) (r0 + 3) (gn (σ r0 9)).toNat (-1)) r0 8) (gxor (gshl 1 (σ r0 9)) (-1)))) r0 9 (((gs_st (gs_st (gs_st (gs_st σ (r0 + 1) (gn (σ r0 9)).toNat v1) (r0 + 2) (gn (σ r0 9)).toNat v2) (r0 + 3) (gn (σ r0 9)).toNat (-1)) r0 8 (gand ((gs_st (gs_st (gs_st σ (r0 + 1) (gn (σ r0 9)).toNat v1) (r0 + 2) (gn (σ r0 9)).toNat v2) (r0 + 3) (gn (σ r0 9)).toNat (-1)) r0 8) (gxor (gshl 1 (σ r0 9)) (-1)))) r0 9) + 1))).bind fun b2 =>
      some ((σ r0 9), b2.2))))
    else
      some ((-4), σ)
  else
    some ((-3), σ)
set_option maxRecDepth 100000 in
set_option maxHeartbeats 4000000 in
theorem c_X0_settle {E : gs_E} (r0 : Nat) (v1 : Int) (v2 : Int) (hr0 : isPl r0) (σ : gs_Mem) : gs_C E yX0_settle cX0_settle 4 (some .int) 0 { frames := 2, cells := 0, slots := 0, locals := 51 } [gr E r0, gi v1, gi v2] σ (f_X0_settle r0 v1 v2 σ) (fun b : Int × gs_Mem => b) := by
  unfold f_X0_settle
  refine gs_enter (L := [(0, gr E r0), (1, gi v1), (2, gi v2)]) (by decide) rfl rfl (Nat.le_of_ble_eq_true rfl) rfl ?_
  refine gk_aload_n (pc := 0) 0 dX0_settle_0 rfl ?_
  refine gk_iload_n (pc := 1) 1 dX0_settle_1 rfl ?_
  refine gk_iload_n (pc := 2) 2 dX0_settle_2 rfl ?_
  refine gk_callV_ir (As := [gi v1, gi v2]) (pc := 3) (c_X0_whoIsAt r0 v1 v2 hr0 σ) rfl mm_X0_whoIsAt ww_261 clsX0 rfl (pl_lt0 hr0) (pl_sh hr0) (gs_fit_of (Nat.le_of_ble_eq_true rfl) (Nat.le_of_ble_eq_true rfl)) rfl rfl (Nat.le_of_ble_eq_true rfl) dX0_settle_3 (fun u1 => ?_)
  refine gk_if_lt (tgt := 12) (pc := 6) dX0_settle_6 (by decide) rfl ?_ ?_
  · refine gk_aload_n (pc := 12) 0 dX0_settle_12 rfl ?_
    refine gk_getI (pc := 13) rfl clsX0 (pl_lt0 hr0) (pl_sh hr0) 9 (by decide) rfl ww_97 dX0_settle_13 ?_
    refine gk_bipush (pc := 16) dX0_settle_16 (by decide +kernel) ?_
    refine gk_icmp_lt (tgt := 24) (pc := 18) dX0_settle_18 (by decide) rfl (by decide +kernel) ?_ ?_
    · refine gk_aload_n (pc := 24) 0 dX0_settle_24 rfl ?_
      refine gk_getI (pc := 25) rfl clsX0 (pl_lt0 hr0) (pl_sh hr0) 9 (by decide) rfl ww_97 dX0_settle_25 ?_
      refine gk_istore_n (L' := [(3, gi (σ r0 9)), (0, gr E r0), (1, gi v1), (2, gi v2)]) (pc := 28) dX0_settle_28 (Nat.le_of_ble_eq_true rfl) rfl ?_
      refine gk_aload_n (pc := 29) 1 dX0_settle_29 rfl ?_
      refine gk_getR (q := (r0 + 1)) (pc := 30) rfl clsX0 (pl_lt0 hr0) (pl_sh hr0) 0 (by decide) rfl ww_88 dX0_settle_30 ?_
      refine gk_iload_n (pc := 33) 0 dX0_settle_33 rfl ?_
      refine gk_iload_n (pc := 34) 2 dX0_settle_34 rfl ?_
      refine gk_iast_c (pc := 35) (pl_lt1 hr0) (pl_s1 hr0) rfl dX0_settle_35 ?_
      refine gk_aload_n (pc := 36) 1 dX0_settle_36 rfl ?_
      refine gk_getR (q := (r0 + 2)) (pc := 37) rfl clsX0 (pl_lt0 hr0) (pl_sh hr0) 1 (by decide) rfl ww_89 dX0_settle_37 ?_
      refine gk_iload_n (pc := 40) 0 dX0_settle_40 rfl ?_
      refine gk_iload_n (pc := 41) 3 dX0_settle_41 rfl ?_
      refine gk_iast_c (pc := 42) (pl_lt2 hr0) (pl_s2 hr0) rfl dX0_settle_42 ?_
      refine gk_aload_n (pc := 43) 1 dX0_settle_43 rfl ?_
      refine gk_getR (q := (r0 + 3)) (pc := 44) rfl clsX0 (pl_lt0 hr0) (pl_sh hr0) 2 (by decide) rfl ww_90 dX0_settle_44 ?_
      refine gk_iload_n (pc := 47) 0 dX0_settle_47 rfl ?_
      refine gk_iconst (pc := 48) dX0_settle_48 ?_
      refine gk_iast_c (pc := 49) (pl_lt3 hr0) (pl_s3 hr0) rfl dX0_settle_49 ?_
      refine gk_aload_n (pc := 50) 1 dX0_settle_50 rfl ?_
      refine gk_dup (pc := 51) dX0_settle_51 rfl ?_
      refine gk_getI (pc := 52) rfl clsX0 (pl_lt0 hr0) (pl_sh hr0) 8 (by decide) rfl ww_96 dX0_settle_52 ?_
      refine gk_iconst (pc := 55) dX0_settle_55 ?_
      refine gk_iload_n (pc := 56) 0 dX0_settle_56 rfl ?_
      refine gk_ishl (pc := 57) dX0_settle_57 ?_
      refine gk_iconst (pc := 58) dX0_settle_58 ?_
      refine gk_ixor (pc := 59) dX0_settle_59 ?_
      refine gk_iand (pc := 60) dX0_settle_60 ?_
      refine gk_putF (pc := 61) rfl clsX0 (pl_lt0 hr0) (pl_sh hr0) 8 (by decide) rfl rfl rfl rfl ww_96 dX0_settle_61 ?_
      refine gk_aload_n (pc := 64) 1 dX0_settle_64 rfl ?_
      refine gk_dup (pc := 65) dX0_settle_65 rfl ?_
      refine gk_getI (pc := 66) rfl clsX0 (pl_lt0 hr0) (pl_sh hr0) 9 (by decide) rfl ww_97 dX0_settle_66 ?_
      refine gk_iconst (pc := 69) dX0_settle_69 ?_
      refine gk_iadd (pc := 70) dX0_settle_70 ?_
      refine gk_putF (pc := 71) rfl clsX0 (pl_lt0 hr0) (pl_sh hr0) 9 (by decide) rfl rfl rfl rfl ww_97 dX0_settle_71 ?_
      refine gk_aload_n (pc := 74) 1 dX0_settle_74 rfl ?_
      refine gk_callV_iw (As := []) (pc := 75) (c_X0_measure r0 hr0 (gs_st (gs_st (gs_st (gs_st (gs_st σ (r0 + 1) (gn (σ r0 9)).toNat v1) (r0 + 2) (gn (σ r0 9)).toNat v2) (r0 + 3) (gn (σ r0 9)).toNat (-1)) r0 8 (gand ((gs_st (gs_st (gs_st σ (r0 + 1) (gn (σ r0 9)).toNat v1) (r0 + 2) (gn (σ r0 9)).toNat v2) (r0 + 3) (gn (σ r0 9)).toNat (-1)) r0 8) (gxor (gshl 1 (σ r0 9)) (-1)))) r0 9 (((gs_st (gs_st (gs_st (gs_st σ (r0 + 1) (gn (σ r0 9)).toNat v1) (r0 + 2) (gn (σ r0 9)).toNat v2) (r0 + 3) (gn (σ r0 9)).toNat (-1)) r0 8 (gand ((gs_st (gs_st (gs_st σ (r0 + 1) (gn (σ r0 9)).toNat v1) (r0 + 2) (gn (σ r0 9)).toNat v2) (r0 + 3) (gn (σ r0 9)).toNat (-1)) r0 8) (gxor (gshl 1 (σ r0 9)) (-1)))) r0 9) + 1))) rfl mm_X0_measure ww_265 clsX0 rfl (pl_lt0 hr0) (pl_sh hr0) (gs_fit_of (Nat.le_of_ble_eq_true rfl) (Nat.le_of_ble_eq_true rfl)) rfl rfl (Nat.le_of_ble_eq_true rfl) dX0_settle_75 (fun b2 => ?_)
      refine gk_pop (pc := 78) dX0_settle_78 rfl ?_
      refine gk_iload_n (pc := 79) 0 dX0_settle_79 rfl ?_
      exact gk_iret (pc := 80) rfl dX0_settle_80
    · refine gk_bipush (pc := 21) dX0_settle_21 (by decide +kernel) ?_
      exact gk_iret (pc := 23) rfl dX0_settle_23
  · refine gk_bipush (pc := 9) dX0_settle_9 (by decide +kernel) ?_
    exact gk_iret (pc := 11) rfl dX0_settle_11
def f_X0_carry (r0 : Nat) (v1 : Int) (v2 : Int) (v3 : Int) (σ : gs_Mem) : Option (Int × gs_Mem) :=
  (f_X0_has r0 v1 σ).bind fun u1 =>
  if (gn u1) = 0 then
    some ((-1), σ)
  else
    gs_chk (gn v1) 8 (
    gs_chk (gn v1) 8 (
    gs_chk (gn v1) 8 (
    gs_chk (gn v1) 8 (
    (f_X0_measure r0 (gs_st (gs_st σ (r0 + 1) (gn v1).toNat v2) (r0 + 2) (gn v1).toNat v3)).bind fun b2 =>
    some ((((v2 - (σ (r0 + 1) (gn v1).toNat)) * (v2 - (σ (r0 + 1) (gn v1).toNat))) + ((v3 - (σ (r0 + 2) (gn v1).toNat)) * (v3 - (σ (r0 + 2) (gn v1).toNat)))), b2.2)))))
set_option maxRecDepth 100000 in
set_option maxHeartbeats 4000000 in
theorem c_X0_carry {E : gs_E} (r0 : Nat) (v1 : Int) (v2 : Int) (v3 : Int) (hr0 : isPl r0) (σ : gs_Mem) : gs_C E yX0_carry cX0_carry 6 (some .int) 0 { frames := 2, cells := 0, slots := 0, locals := 51 } [gr E r0, gi v1, gi v2, gi v3] σ (f_X0_carry r0 v1 v2 v3 σ) (fun b : Int × gs_Mem => b) := by
  unfold f_X0_carry
  refine gs_enter (L := [(0, gr E r0), (1, gi v1), (2, gi v2), (3, gi v3)]) (by decide) rfl rfl (Nat.le_of_ble_eq_true rfl) rfl ?_
  refine gk_aload_n (pc := 0) 0 dX0_carry_0 rfl ?_
  refine gk_iload_n (pc := 1) 1 dX0_carry_1 rfl ?_
  refine gk_callV_ir (As := [gi v1]) (pc := 2) (c_X0_has r0 v1 hr0 σ) rfl mm_X0_has ww_306 clsX0 rfl (pl_lt0 hr0) (pl_sh hr0) (gs_fit_of (Nat.le_of_ble_eq_true rfl) (Nat.le_of_ble_eq_true rfl)) rfl rfl (Nat.le_of_ble_eq_true rfl) dX0_carry_2 (fun u1 => ?_)
  refine gk_if_ne (tgt := 10) (pc := 5) dX0_carry_5 (by decide) rfl ?_ ?_
  · refine gk_iload_n (pc := 10) 2 dX0_carry_10 rfl ?_
    refine gk_aload_n (pc := 11) 0 dX0_carry_11 rfl ?_
    refine gk_getR (q := (r0 + 1)) (pc := 12) rfl clsX0 (pl_lt0 hr0) (pl_sh hr0) 0 (by decide) rfl ww_88 dX0_carry_12 ?_
    refine gk_iload_n (pc := 15) 1 dX0_carry_15 rfl ?_
    refine gk_iald_c (pc := 16) (pl_lt1 hr0) (pl_s1 hr0) rfl dX0_carry_16 ?_
    refine gk_isub (pc := 17) dX0_carry_17 ?_
    refine gk_istore (L' := [(4, gi (v2 - (σ (r0 + 1) (gn v1).toNat))), (0, gr E r0), (1, gi v1), (2, gi v2), (3, gi v3)]) (pc := 18) dX0_carry_18 (Nat.le_of_ble_eq_true rfl) rfl ?_
    refine gk_iload_n (pc := 20) 4 dX0_carry_20 rfl ?_
    refine gk_aload_n (pc := 21) 1 dX0_carry_21 rfl ?_
    refine gk_getR (q := (r0 + 2)) (pc := 22) rfl clsX0 (pl_lt0 hr0) (pl_sh hr0) 1 (by decide) rfl ww_89 dX0_carry_22 ?_
    refine gk_iload_n (pc := 25) 2 dX0_carry_25 rfl ?_
    refine gk_iald_c (pc := 26) (pl_lt2 hr0) (pl_s2 hr0) rfl dX0_carry_26 ?_
    refine gk_isub (pc := 27) dX0_carry_27 ?_
    refine gk_istore (L' := [(5, gi (v3 - (σ (r0 + 2) (gn v1).toNat))), (4, gi (v2 - (σ (r0 + 1) (gn v1).toNat))), (0, gr E r0), (1, gi v1), (2, gi v2), (3, gi v3)]) (pc := 28) dX0_carry_28 (Nat.le_of_ble_eq_true rfl) rfl ?_
    refine gk_aload_n (pc := 30) 2 dX0_carry_30 rfl ?_
    refine gk_getR (q := (r0 + 1)) (pc := 31) rfl clsX0 (pl_lt0 hr0) (pl_sh hr0) 0 (by decide) rfl ww_88 dX0_carry_31 ?_
    refine gk_iload_n (pc := 34) 3 dX0_carry_34 rfl ?_
    refine gk_iload_n (pc := 35) 4 dX0_carry_35 rfl ?_
    refine gk_iast_c (pc := 36) (pl_lt1 hr0) (pl_s1 hr0) rfl dX0_carry_36 ?_
    refine gk_aload_n (pc := 37) 2 dX0_carry_37 rfl ?_
    refine gk_getR (q := (r0 + 2)) (pc := 38) rfl clsX0 (pl_lt0 hr0) (pl_sh hr0) 1 (by decide) rfl ww_89 dX0_carry_38 ?_
    refine gk_iload_n (pc := 41) 3 dX0_carry_41 rfl ?_
    refine gk_iload_n (pc := 42) 5 dX0_carry_42 rfl ?_
    refine gk_iast_c (pc := 43) (pl_lt2 hr0) (pl_s2 hr0) rfl dX0_carry_43 ?_
    refine gk_aload_n (pc := 44) 2 dX0_carry_44 rfl ?_
    refine gk_callV_iw (As := []) (pc := 45) (c_X0_measure r0 hr0 (gs_st (gs_st σ (r0 + 1) (gn v1).toNat v2) (r0 + 2) (gn v1).toNat v3)) rfl mm_X0_measure ww_265 clsX0 rfl (pl_lt0 hr0) (pl_sh hr0) (gs_fit_of (Nat.le_of_ble_eq_true rfl) (Nat.le_of_ble_eq_true rfl)) rfl rfl (Nat.le_of_ble_eq_true rfl) dX0_carry_45 (fun b2 => ?_)
    refine gk_pop (pc := 48) dX0_carry_48 rfl ?_
    refine gk_iload (pc := 49) 1 dX0_carry_49 rfl ?_
    refine gk_iload (pc := 51) 1 dX0_carry_51 rfl ?_
    refine gk_imul (pc := 53) dX0_carry_53 ?_
    refine gk_iload (pc := 54) 0 dX0_carry_54 rfl ?_
    refine gk_iload (pc := 56) 0 dX0_carry_56 rfl ?_
    refine gk_imul (pc := 58) dX0_carry_58 ?_
    refine gk_iadd (pc := 59) dX0_carry_59 ?_
    exact gk_iret (pc := 60) rfl dX0_carry_60
  · refine gk_iconst (pc := 8) dX0_carry_8 ?_
    exact gk_iret (pc := 9) rfl dX0_carry_9
def f_X0_change (r0 : Nat) (v1 : Int) (v2 : Int) (v3 : Int) (σ : gs_Mem) : Option (Int × gs_Mem) :=
  (f_X6_isRule v1 σ).bind fun u1 =>
  if (gn u1) = 0 then
    some ((-1), σ)
  else
    gs_chk (gn v1) 3 (
    gs_chk (gn v1) 3 (
    gs_let ((100 * (σ (r0 + 4) (gn v1).toNat)) + (σ (r0 + 5) (gn v1).toNat)) fun x2 =>
    gs_chk (gn v1) 3 (
    gs_chk (gn v1) 3 (
    (f_X0_measure r0 (gs_st (gs_st σ (r0 + 4) (gn v1).toNat v2) (r0 + 5) (gn v1).toNat v3)).bind fun b3 =>
    some (x2, b3.2)))))
set_option maxRecDepth 100000 in
set_option maxHeartbeats 4000000 in
theorem c_X0_change {E : gs_E} (r0 : Nat) (v1 : Int) (v2 : Int) (v3 : Int) (hr0 : isPl r0) (σ : gs_Mem) : gs_C E yX0_change cX0_change 5 (some .int) 0 { frames := 2, cells := 0, slots := 0, locals := 51 } [gr E r0, gi v1, gi v2, gi v3] σ (f_X0_change r0 v1 v2 v3 σ) (fun b : Int × gs_Mem => b) := by
  unfold f_X0_change
  refine gs_enter (L := [(0, gr E r0), (1, gi v1), (2, gi v2), (3, gi v3)]) (by decide) rfl rfl (Nat.le_of_ble_eq_true rfl) rfl ?_
  refine gk_iload_n (pc := 0) 1 dX0_change_0 rfl ?_
  refine gk_callSN_ir (As := [gi v1]) (pc := 1) (c_X6_isRule v1 σ) rfl mm_X6_isRule ww_290 (gs_fit_of (Nat.le_of_ble_eq_true rfl) (Nat.le_of_ble_eq_true rfl)) rfl rfl (Nat.le_of_ble_eq_true rfl) dX0_change_1 (fun u1 => ?_)
  refine gk_if_ne (tgt := 9) (pc := 4) dX0_change_4 (by decide) rfl ?_ ?_
  · refine gk_bipush (pc := 9) dX0_change_9 (by decide +kernel) ?_
    refine gk_aload_n (pc := 11) 0 dX0_change_11 rfl ?_
    refine gk_getR (q := (r0 + 4)) (pc := 12) rfl clsX0 (pl_lt0 hr0) (pl_sh hr0) 3 (by decide) rfl ww_91 dX0_change_12 ?_
    refine gk_iload_n (pc := 15) 1 dX0_change_15 rfl ?_
    refine gk_iald_c (pc := 16) (pl_lt4 hr0) (pl_s4 hr0) rfl dX0_change_16 ?_
    refine gk_imul (pc := 17) dX0_change_17 ?_
    refine gk_aload_n (pc := 18) 0 dX0_change_18 rfl ?_
    refine gk_getR (q := (r0 + 5)) (pc := 19) rfl clsX0 (pl_lt0 hr0) (pl_sh hr0) 4 (by decide) rfl ww_92 dX0_change_19 ?_
    refine gk_iload_n (pc := 22) 1 dX0_change_22 rfl ?_
    refine gk_iald_c (pc := 23) (pl_lt5 hr0) (pl_s5 hr0) rfl dX0_change_23 ?_
    refine gk_iadd (pc := 24) dX0_change_24 ?_
    refine gk_let (fun x2 => ?_)
    refine gk_istore (L' := [(4, gi x2), (0, gr E r0), (1, gi v1), (2, gi v2), (3, gi v3)]) (pc := 25) dX0_change_25 (Nat.le_of_ble_eq_true rfl) rfl ?_
    refine gk_aload_n (pc := 27) 1 dX0_change_27 rfl ?_
    refine gk_getR (q := (r0 + 4)) (pc := 28) rfl clsX0 (pl_lt0 hr0) (pl_sh hr0) 3 (by decide) rfl ww_91 dX0_change_28 ?_
    refine gk_iload_n (pc := 31) 2 dX0_change_31 rfl ?_
    refine gk_iload_n (pc := 32) 3 dX0_change_32 rfl ?_
    refine gk_iast_c (pc := 33) (pl_lt4 hr0) (pl_s4 hr0) rfl dX0_change_33 ?_
    refine gk_aload_n (pc := 34) 1 dX0_change_34 rfl ?_
    refine gk_getR (q := (r0 + 5)) (pc := 35) rfl clsX0 (pl_lt0 hr0) (pl_sh hr0) 4 (by decide) rfl ww_92 dX0_change_35 ?_
    refine gk_iload_n (pc := 38) 2 dX0_change_38 rfl ?_
    refine gk_iload_n (pc := 39) 4 dX0_change_39 rfl ?_
    refine gk_iast_c (pc := 40) (pl_lt5 hr0) (pl_s5 hr0) rfl dX0_change_40 ?_
    refine gk_aload_n (pc := 41) 1 dX0_change_41 rfl ?_
    refine gk_callV_iw (As := []) (pc := 42) (c_X0_measure r0 hr0 (gs_st (gs_st σ (r0 + 4) (gn v1).toNat v2) (r0 + 5) (gn v1).toNat v3)) rfl mm_X0_measure ww_265 clsX0 rfl (pl_lt0 hr0) (pl_sh hr0) (gs_fit_of (Nat.le_of_ble_eq_true rfl) (Nat.le_of_ble_eq_true rfl)) rfl rfl (Nat.le_of_ble_eq_true rfl) dX0_change_42 (fun b3 => ?_)
    refine gk_pop (pc := 45) dX0_change_45 rfl ?_
    refine gk_iload (pc := 46) 0 dX0_change_46 rfl ?_
    exact gk_iret (pc := 48) rfl dX0_change_48
  · refine gk_iconst (pc := 7) dX0_change_7 ?_
    exact gk_iret (pc := 8) rfl dX0_change_8
def f_X0_changeNear (r0 : Nat) (v1 : Int) (v2 : Int) (σ : gs_Mem) : Option (Int × gs_Mem) :=
  (f_X6_isRule v1 σ).bind fun u1 =>
  if (gn u1) = 0 then
    some (0, σ)
  else
    gs_chk (gn v1) 3 (
    (f_X0_measure r0 (gs_st σ (r0 + 4) (gn v1).toNat v2)).bind fun b2 =>
    gs_chkz (gn b2.1) (some (b2.1, b2.2)))
set_option maxRecDepth 100000 in
set_option maxHeartbeats 4000000 in
theorem c_X0_changeNear {E : gs_E} (r0 : Nat) (v1 : Int) (v2 : Int) (hr0 : isPl r0) (σ : gs_Mem) : gs_C E yX0_changeNear cX0_changeNear 3 (some .boolean) 0 { frames := 2, cells := 0, slots := 0, locals := 51 } [gr E r0, gi v1, gi v2] σ (f_X0_changeNear r0 v1 v2 σ) (fun b : Int × gs_Mem => b) := by
  unfold f_X0_changeNear
  refine gs_enter (L := [(0, gr E r0), (1, gi v1), (2, gi v2)]) (by decide) rfl rfl (Nat.le_of_ble_eq_true rfl) rfl ?_
  refine gk_iload_n (pc := 0) 1 dX0_changeNear_0 rfl ?_
  refine gk_callSN_ir (As := [gi v1]) (pc := 1) (c_X6_isRule v1 σ) rfl mm_X6_isRule ww_290 (gs_fit_of (Nat.le_of_ble_eq_true rfl) (Nat.le_of_ble_eq_true rfl)) rfl rfl (Nat.le_of_ble_eq_true rfl) dX0_changeNear_1 (fun u1 => ?_)
  refine gk_if_ne (tgt := 9) (pc := 4) dX0_changeNear_4 (by decide) rfl ?_ ?_
  · refine gk_aload_n (pc := 9) 0 dX0_changeNear_9 rfl ?_
    refine gk_getR (q := (r0 + 4)) (pc := 10) rfl clsX0 (pl_lt0 hr0) (pl_sh hr0) 3 (by decide) rfl ww_91 dX0_changeNear_10 ?_
    refine gk_iload_n (pc := 13) 1 dX0_changeNear_13 rfl ?_
    refine gk_iload_n (pc := 14) 2 dX0_changeNear_14 rfl ?_
    refine gk_iast_c (pc := 15) (pl_lt4 hr0) (pl_s4 hr0) rfl dX0_changeNear_15 ?_
    refine gk_aload_n (pc := 16) 0 dX0_changeNear_16 rfl ?_
    refine gk_callV_iw (As := []) (pc := 17) (c_X0_measure r0 hr0 (gs_st σ (r0 + 4) (gn v1).toNat v2)) rfl mm_X0_measure ww_265 clsX0 rfl (pl_lt0 hr0) (pl_sh hr0) (gs_fit_of (Nat.le_of_ble_eq_true rfl) (Nat.le_of_ble_eq_true rfl)) rfl rfl (Nat.le_of_ble_eq_true rfl) dX0_changeNear_17 (fun b2 => ?_)
    exact gk_zretG_c (pc := 20) rfl rfl dX0_changeNear_20
  · refine gk_iconst (pc := 7) dX0_changeNear_7 ?_
    exact gk_zret (pc := 8) (Or.inl (by decide +kernel)) rfl dX0_changeNear_8
def f_X0_tune_J37 (t0 : Int) (t1 : Int) (t2 : Nat) (σ : gs_Mem) : Option (Int × gs_Mem) :=
  some (0, (gs_st σ t2 8 (gand t1 t0)))
set_option maxRecDepth 100000 in
set_option maxHeartbeats 4000000 in
theorem k_X0_tune_J37 {E : gs_E}  (t0 : Int) (t1 : Int) (t2 : Nat) (ht2 : isPl t2)  (σ : gs_Mem) : gs_K E (gs_MC E yX0_tune cX0_tune 3 none 2 { frames := 1, cells := 0, slots := 0, locals := 21 }) (fun b : Int × gs_Mem => b) (f_X0_tune_J37 t0 t1 t2 σ) 37 [] [gi t0, gi t1, gr E t2] σ := by
  unfold f_X0_tune_J37
  refine gk_iand (pc := 37) dX0_tune_37 ?_
  refine gk_putF (pc := 38) rfl clsX0 (pl_lt0 ht2) (pl_sh ht2) 8 (by decide) rfl rfl rfl rfl ww_96 dX0_tune_38 ?_
  exact gk_vret (pc := 41) rfl dX0_tune_41
def f_X0_tune (r0 : Nat) (v1 : Int) (v2 : Int) (σ : gs_Mem) : Option (Int × gs_Mem) :=
  (f_X0_has r0 v1 σ).bind fun u1 =>
  if (gn u1) = 0 then
    some (0, σ)
  else
    gs_chk (gn v1) 8 (
    if (gn v2) = (-1) then
      f_X0_tune_J37 (gxor (gshl 1 v1) (-1)) ((gs_st σ (r0 + 3) (gn v1).toNat v2) r0 8) r0 (gs_st σ (r0 + 3) (gn v1).toNat v2)
    else
      f_X0_tune_J37 ((gs_st σ (r0 + 3) (gn v1).toNat v2) r0 8) ((gs_st σ (r0 + 3) (gn v1).toNat v2) r0 8) r0 (gs_st σ (r0 + 3) (gn v1).toNat v2))
set_option maxRecDepth 100000 in
set_option maxHeartbeats 4000000 in
theorem c_X0_tune {E : gs_E} (r0 : Nat) (v1 : Int) (v2 : Int) (hr0 : isPl r0) (σ : gs_Mem) : gs_C E yX0_tune cX0_tune 3 none 2 { frames := 1, cells := 0, slots := 0, locals := 21 } [gr E r0, gi v1, gi v2] σ (f_X0_tune r0 v1 v2 σ) (fun b : Int × gs_Mem => b) := by
  unfold f_X0_tune
  refine gs_enter (L := [(0, gr E r0), (1, gi v1), (2, gi v2)]) (by decide) rfl rfl (Nat.le_of_ble_eq_true rfl) rfl ?_
  refine gk_aload_n (pc := 0) 0 dX0_tune_0 rfl ?_
  refine gk_iload_n (pc := 1) 1 dX0_tune_1 rfl ?_
  refine gk_callV_ir (As := [gi v1]) (pc := 2) (c_X0_has r0 v1 hr0 σ) rfl mm_X0_has ww_306 clsX0 rfl (pl_lt0 hr0) (pl_sh hr0) (gs_fit_of (Nat.le_of_ble_eq_true rfl) (Nat.le_of_ble_eq_true rfl)) rfl rfl (Nat.le_of_ble_eq_true rfl) dX0_tune_2 (fun u1 => ?_)
  refine gk_if_eq (tgt := 41) (pc := 5) dX0_tune_5 (by decide) rfl ?_ ?_
  · exact gk_vret (pc := 41) rfl dX0_tune_41
  · refine gk_aload_n (pc := 8) 0 dX0_tune_8 rfl ?_
    refine gk_getR (q := (r0 + 3)) (pc := 9) rfl clsX0 (pl_lt0 hr0) (pl_sh hr0) 2 (by decide) rfl ww_90 dX0_tune_9 ?_
    refine gk_iload_n (pc := 12) 1 dX0_tune_12 rfl ?_
    refine gk_iload_n (pc := 13) 2 dX0_tune_13 rfl ?_
    refine gk_iast_c (pc := 14) (pl_lt3 hr0) (pl_s3 hr0) rfl dX0_tune_14 ?_
    refine gk_aload_n (pc := 15) 0 dX0_tune_15 rfl ?_
    refine gk_dup (pc := 16) dX0_tune_16 rfl ?_
    refine gk_getI (pc := 17) rfl clsX0 (pl_lt0 hr0) (pl_sh hr0) 8 (by decide) rfl ww_96 dX0_tune_17 ?_
    refine gk_iload_n (pc := 20) 2 dX0_tune_20 rfl ?_
    refine gk_iconst (pc := 21) dX0_tune_21 ?_
    refine gk_icmp_ne (tgt := 33) (pc := 22) dX0_tune_22 (by decide) rfl (by decide +kernel) ?_ ?_
    · refine gk_aload_n (pc := 33) 0 dX0_tune_33 rfl ?_
      refine gk_getI (pc := 34) rfl clsX0 (pl_lt0 hr0) (pl_sh hr0) 8 (by decide) rfl ww_96 dX0_tune_34 ?_
      refine gk_sub (L' := []) [] rfl ?_
      exact k_X0_tune_J37 ((gs_st σ (r0 + 3) (gn v1).toNat v2) r0 8) ((gs_st σ (r0 + 3) (gn v1).toNat v2) r0 8) r0 hr0 (gs_st σ (r0 + 3) (gn v1).toNat v2)
    · refine gk_iconst (pc := 25) dX0_tune_25 ?_
      refine gk_iload_n (pc := 26) 1 dX0_tune_26 rfl ?_
      refine gk_ishl (pc := 27) dX0_tune_27 ?_
      refine gk_iconst (pc := 28) dX0_tune_28 ?_
      refine gk_ixor (pc := 29) dX0_tune_29 ?_
      refine gk_goto (tgt := 37) (pc := 30) dX0_tune_30 (by decide) ?_
      refine gk_sub (L' := []) [] rfl ?_
      exact k_X0_tune_J37 (gxor (gshl 1 v1) (-1)) ((gs_st σ (r0 + 3) (gn v1).toNat v2) r0 8) r0 hr0 (gs_st σ (r0 + 3) (gn v1).toNat v2)
def f_X0_pin_J54 (t0 : Int) (t1 : Nat) (σ : gs_Mem) : Option (Int × gs_Mem) :=
  some (0, (gs_st σ t1 8 t0))
set_option maxRecDepth 100000 in
set_option maxHeartbeats 4000000 in
theorem k_X0_pin_J54 {E : gs_E}  (t0 : Int) (t1 : Nat) (ht1 : isPl t1)  (σ : gs_Mem) : gs_K E (gs_MC E yX0_pin cX0_pin 4 none 2 { frames := 1, cells := 0, slots := 0, locals := 21 }) (fun b : Int × gs_Mem => b) (f_X0_pin_J54 t0 t1 σ) 54 [] [gi t0, gr E t1] σ := by
  unfold f_X0_pin_J54
  refine gk_putF (pc := 54) rfl clsX0 (pl_lt0 ht1) (pl_sh ht1) 8 (by decide) rfl rfl rfl rfl ww_96 dX0_pin_54 ?_
  exact gk_vret (pc := 57) rfl dX0_pin_57
def f_X0_pin_J27 (v0 : Nat) (v1 : Int) (t0 : Int) (σ : gs_Mem) : Option (Int × gs_Mem) :=
  if (gn t0) = 0 then
    f_X0_pin_J54 (gand (σ v0 8) (gxor (gshl 1 v1) (-1))) v0 σ
  else
    f_X0_pin_J54 (gor (σ v0 8) (gshl 1 v1)) v0 σ
set_option maxRecDepth 100000 in
set_option maxHeartbeats 4000000 in
theorem k_X0_pin_J27 {E : gs_E}  (v0 : Nat) (v1 : Int) (t0 : Int) (hv0 : isPl v0)  (σ : gs_Mem) : gs_K E (gs_MC E yX0_pin cX0_pin 4 none 2 { frames := 1, cells := 0, slots := 0, locals := 21 }) (fun b : Int × gs_Mem => b) (f_X0_pin_J27 v0 v1 t0 σ) 27 [(0, gr E v0), (1, gi v1)] [gi t0] σ := by
  unfold f_X0_pin_J27
  refine gk_istore_n (L' := [(3, gi t0), (0, gr E v0), (1, gi v1)]) (pc := 27) dX0_pin_27 (Nat.le_of_ble_eq_true rfl) rfl ?_
  refine gk_aload_n (pc := 28) 1 dX0_pin_28 rfl ?_
  refine gk_iload_n (pc := 29) 0 dX0_pin_29 rfl ?_
  refine gk_if_eq (tgt := 44) (pc := 30) dX0_pin_30 (by decide) rfl ?_ ?_
  · refine gk_aload_n (pc := 44) 1 dX0_pin_44 rfl ?_
    refine gk_getI (pc := 45) rfl clsX0 (pl_lt0 hv0) (pl_sh hv0) 8 (by decide) rfl ww_96 dX0_pin_45 ?_
    refine gk_iconst (pc := 48) dX0_pin_48 ?_
    refine gk_iload_n (pc := 49) 2 dX0_pin_49 rfl ?_
    refine gk_ishl (pc := 50) dX0_pin_50 ?_
    refine gk_iconst (pc := 51) dX0_pin_51 ?_
    refine gk_ixor (pc := 52) dX0_pin_52 ?_
    refine gk_iand (pc := 53) dX0_pin_53 ?_
    refine gk_sub (L' := []) [] rfl ?_
    exact k_X0_pin_J54 (gand (σ v0 8) (gxor (gshl 1 v1) (-1))) v0 hv0 σ
  · refine gk_aload_n (pc := 33) 1 dX0_pin_33 rfl ?_
    refine gk_getI (pc := 34) rfl clsX0 (pl_lt0 hv0) (pl_sh hv0) 8 (by decide) rfl ww_96 dX0_pin_34 ?_
    refine gk_iconst (pc := 37) dX0_pin_37 ?_
    refine gk_iload_n (pc := 38) 2 dX0_pin_38 rfl ?_
    refine gk_ishl (pc := 39) dX0_pin_39 ?_
    refine gk_ior (pc := 40) dX0_pin_40 ?_
    refine gk_goto (tgt := 54) (pc := 41) dX0_pin_41 (by decide) ?_
    refine gk_sub (L' := []) [] rfl ?_
    exact k_X0_pin_J54 (gor (σ v0 8) (gshl 1 v1)) v0 hv0 σ
def f_X0_pin_J26 (v0 : Nat) (v1 : Int) (σ : gs_Mem) : Option (Int × gs_Mem) :=
  f_X0_pin_J27 v0 v1 0 σ
set_option maxRecDepth 100000 in
set_option maxHeartbeats 4000000 in
theorem k_X0_pin_J26 {E : gs_E}  (v0 : Nat) (v1 : Int) (hv0 : isPl v0)  (σ : gs_Mem) : gs_K E (gs_MC E yX0_pin cX0_pin 4 none 2 { frames := 1, cells := 0, slots := 0, locals := 21 }) (fun b : Int × gs_Mem => b) (f_X0_pin_J26 v0 v1 σ) 26 [(0, gr E v0), (1, gi v1)] [] σ := by
  unfold f_X0_pin_J26
  refine gk_iconst (pc := 26) dX0_pin_26 ?_
  exact k_X0_pin_J27 v0 v1 0 hv0 σ
def f_X0_pin (r0 : Nat) (v1 : Int) (v2 : Int) (σ : gs_Mem) : Option (Int × gs_Mem) :=
  (f_X0_has r0 v1 σ).bind fun u1 =>
  if (gn u1) = 0 then
    some (0, σ)
  else
    if (gn v2) = 0 then
      f_X0_pin_J26 r0 v1 σ
    else
      gs_chk (gn v1) 8 (
      if (gn (σ (r0 + 3) (gn v1).toNat)) = (-1) then
        f_X0_pin_J26 r0 v1 σ
      else
        f_X0_pin_J27 r0 v1 1 σ)
set_option maxRecDepth 100000 in
set_option maxHeartbeats 4000000 in
theorem c_X0_pin {E : gs_E} (r0 : Nat) (v1 : Int) (v2 : Int) (hr0 : isPl r0) (σ : gs_Mem) : gs_C E yX0_pin cX0_pin 4 none 2 { frames := 1, cells := 0, slots := 0, locals := 21 } [gr E r0, gi v1, gi v2] σ (f_X0_pin r0 v1 v2 σ) (fun b : Int × gs_Mem => b) := by
  unfold f_X0_pin
  refine gs_enter (L := [(0, gr E r0), (1, gi v1), (2, gi v2)]) (by decide) rfl rfl (Nat.le_of_ble_eq_true rfl) rfl ?_
  refine gk_aload_n (pc := 0) 0 dX0_pin_0 rfl ?_
  refine gk_iload_n (pc := 1) 1 dX0_pin_1 rfl ?_
  refine gk_callV_ir (As := [gi v1]) (pc := 2) (c_X0_has r0 v1 hr0 σ) rfl mm_X0_has ww_306 clsX0 rfl (pl_lt0 hr0) (pl_sh hr0) (gs_fit_of (Nat.le_of_ble_eq_true rfl) (Nat.le_of_ble_eq_true rfl)) rfl rfl (Nat.le_of_ble_eq_true rfl) dX0_pin_2 (fun u1 => ?_)
  refine gk_if_eq (tgt := 57) (pc := 5) dX0_pin_5 (by decide) rfl ?_ ?_
  · exact gk_vret (pc := 57) rfl dX0_pin_57
  · refine gk_iload_n (pc := 8) 2 dX0_pin_8 rfl ?_
    refine gk_if_eq (tgt := 26) (pc := 9) dX0_pin_9 (by decide) rfl ?_ ?_
    · refine gk_sub (L' := [(0, gr E r0), (1, gi v1)]) [0, 1] rfl ?_
      exact k_X0_pin_J26 r0 v1 hr0 σ
    · refine gk_aload_n (pc := 12) 0 dX0_pin_12 rfl ?_
      refine gk_getR (q := (r0 + 3)) (pc := 13) rfl clsX0 (pl_lt0 hr0) (pl_sh hr0) 2 (by decide) rfl ww_90 dX0_pin_13 ?_
      refine gk_iload_n (pc := 16) 1 dX0_pin_16 rfl ?_
      refine gk_iald_c (pc := 17) (pl_lt3 hr0) (pl_s3 hr0) rfl dX0_pin_17 ?_
      refine gk_iconst (pc := 18) dX0_pin_18 ?_
      refine gk_icmp_eq (tgt := 26) (pc := 19) dX0_pin_19 (by decide) rfl (by decide +kernel) ?_ ?_
      · refine gk_sub (L' := [(0, gr E r0), (1, gi v1)]) [0, 1] rfl ?_
        exact k_X0_pin_J26 r0 v1 hr0 σ
      · refine gk_iconst (pc := 22) dX0_pin_22 ?_
        refine gk_goto (tgt := 27) (pc := 23) dX0_pin_23 (by decide) ?_
        refine gk_sub (L' := [(0, gr E r0), (1, gi v1)]) [0, 1] rfl ?_
        exact k_X0_pin_J27 r0 v1 1 hr0 σ
def f_X0_rulesInForce_J24 (σ : gs_Mem) (k4 : Int → Int → Option (Int)) (v0 : Nat) (v2 : Int) (t0 : Int) (t1 : Int) : Option (Int) :=
  k4 (t1 + t0) (v2 + 1)
set_option maxRecDepth 100000 in
set_option maxHeartbeats 4000000 in
theorem k_X0_rulesInForce_J24 {E : gs_E} (σ : gs_Mem) (k4 : Int → Int → Option (Int))  (v0 : Nat) (v2 : Int) (t0 : Int) (t1 : Int) (hv0 : isPl v0) (hk4 : ∀ (w1 : Int) (w2 : Int), gs_K E (gs_MC E yX0_rulesInForce cX0_rulesInForce 3 (some .int) 0 { frames := 0, cells := 0, slots := 0, locals := 0 }) (fun v : Int => (v, σ)) (k4 w1 w2) 4 [(0, gr E v0), (1, gi w1), (2, gi w2)] [] σ) : gs_K E (gs_MC E yX0_rulesInForce cX0_rulesInForce 3 (some .int) 0 { frames := 0, cells := 0, slots := 0, locals := 0 }) (fun v : Int => (v, σ)) (f_X0_rulesInForce_J24 σ k4 v0 v2 t0 t1) 24 [(0, gr E v0), (2, gi v2)] [gi t0, gi t1] σ := by
  unfold f_X0_rulesInForce_J24
  refine gk_iadd (pc := 24) dX0_rulesInForce_24 ?_
  refine gk_istore_n (L' := [(1, gi (t1 + t0)), (0, gr E v0), (2, gi v2)]) (pc := 25) dX0_rulesInForce_25 (Nat.le_of_ble_eq_true rfl) rfl ?_
  refine gk_iinc (L' := [(2, gi (v2 + 1)), (1, gi (t1 + t0)), (0, gr E v0)]) (pc := 26) 2 dX0_rulesInForce_26 rfl (Nat.le_of_ble_eq_true rfl) rfl ?_
  refine gk_goto (tgt := 4) (pc := 29) dX0_rulesInForce_29 (by decide) ?_
  refine gk_sub (L' := [(0, gr E v0), (1, gi (t1 + t0)), (2, gi (v2 + 1))]) [2, 1, 0] rfl ?_
  exact hk4 (t1 + t0) (v2 + 1)
def f_X0_rulesInForce_L4 (σ : gs_Mem) (v0 : Nat) : Nat → Int → Int → Option (Int)
  | 0, _, _ => none
  | n + 1, v1, v2 =>
    if 3 ≤ (gn v2) then
      some v1
    else
      gs_chk (gn v2) 3 (
      if (gn (σ (v0 + 4) (gn v2).toNat)) ≤ 0 then
        f_X0_rulesInForce_J24 σ (f_X0_rulesInForce_L4 σ v0 n) v0 v2 0 v1
      else
        f_X0_rulesInForce_J24 σ (f_X0_rulesInForce_L4 σ v0 n) v0 v2 1 v1)
set_option maxRecDepth 100000 in
set_option maxHeartbeats 4000000 in
theorem k_X0_rulesInForce_L4 {E : gs_E} (σ : gs_Mem) (v0 : Nat) (hv0 : isPl v0)  : ∀ (n : Nat) (v1 : Int) (v2 : Int), gs_K E (gs_MC E yX0_rulesInForce cX0_rulesInForce 3 (some .int) 0 { frames := 0, cells := 0, slots := 0, locals := 0 }) (fun v : Int => (v, σ)) (f_X0_rulesInForce_L4 σ v0 n v1 v2) 4 [(0, gr E v0), (1, gi v1), (2, gi v2)] [] σ := by
  intro n
  induction n with
  | zero => intro v1 v2; rw [f_X0_rulesInForce_L4]; exact gk_none
  | succ n ih =>
    intro v1 v2; rw [f_X0_rulesInForce_L4]
    refine gk_iload_n (pc := 4) 2 dX0_rulesInForce_4 rfl ?_
    refine gk_iconst (pc := 5) dX0_rulesInForce_5 ?_
    refine gk_icmp_ge (tgt := 32) (pc := 6) dX0_rulesInForce_6 (by decide) rfl (by decide +kernel) ?_ ?_
    · refine gk_iload_n (pc := 32) 1 dX0_rulesInForce_32 rfl ?_
      exact gk_iret (pc := 33) rfl dX0_rulesInForce_33
    · refine gk_iload_n (pc := 9) 1 dX0_rulesInForce_9 rfl ?_
      refine gk_aload_n (pc := 10) 0 dX0_rulesInForce_10 rfl ?_
      refine gk_getR (q := (v0 + 4)) (pc := 11) rfl clsX0 (pl_lt0 hv0) (pl_sh hv0) 3 (by decide) rfl ww_91 dX0_rulesInForce_11 ?_
      refine gk_iload_n (pc := 14) 2 dX0_rulesInForce_14 rfl ?_
      refine gk_iald_c (pc := 15) (pl_lt4 hv0) (pl_s4 hv0) rfl dX0_rulesInForce_15 ?_
      refine gk_if_le (tgt := 23) (pc := 16) dX0_rulesInForce_16 (by decide) rfl ?_ ?_
      · refine gk_iconst (pc := 23) dX0_rulesInForce_23 ?_
        refine gk_sub (L' := [(0, gr E v0), (2, gi v2)]) [0, 2] rfl ?_
        exact k_X0_rulesInForce_J24 σ (f_X0_rulesInForce_L4 σ v0 n) v0 v2 0 v1 hv0 ih
      · refine gk_iconst (pc := 19) dX0_rulesInForce_19 ?_
        refine gk_goto (tgt := 24) (pc := 20) dX0_rulesInForce_20 (by decide) ?_
        refine gk_sub (L' := [(0, gr E v0), (2, gi v2)]) [0, 2] rfl ?_
        exact k_X0_rulesInForce_J24 σ (f_X0_rulesInForce_L4 σ v0 n) v0 v2 1 v1 hv0 ih
def f_X0_rulesInForce (r0 : Nat) (σ : gs_Mem) : Option (Int) :=
  f_X0_rulesInForce_L4 σ r0 gs_fuel 0 0
set_option maxRecDepth 100000 in
set_option maxHeartbeats 4000000 in
theorem c_X0_rulesInForce {E : gs_E} (r0 : Nat) (hr0 : isPl r0) (σ : gs_Mem) : gs_C E yX0_rulesInForce cX0_rulesInForce 3 (some .int) 0 { frames := 0, cells := 0, slots := 0, locals := 0 } [gr E r0] σ (f_X0_rulesInForce r0 σ) (fun v : Int => (v, σ)) := by
  unfold f_X0_rulesInForce
  refine gs_enter (L := [(0, gr E r0)]) (by decide) rfl rfl (Nat.le_of_ble_eq_true rfl) rfl ?_
  refine gk_iconst (pc := 0) dX0_rulesInForce_0 ?_
  refine gk_istore_n (L' := [(1, gi 0), (0, gr E r0)]) (pc := 1) dX0_rulesInForce_1 (Nat.le_of_ble_eq_true rfl) rfl ?_
  refine gk_iconst (pc := 2) dX0_rulesInForce_2 ?_
  refine gk_istore_n (L' := [(2, gi 0), (1, gi 0), (0, gr E r0)]) (pc := 3) dX0_rulesInForce_3 (Nat.le_of_ble_eq_true rfl) rfl ?_
  refine gk_sub (L' := [(0, gr E r0), (1, gi 0), (2, gi 0)]) [2, 1, 0] rfl ?_
  exact k_X0_rulesInForce_L4 σ r0 hr0 gs_fuel 0 0
def f_X0_allowedFor_L5 (σ : gs_Mem) (v0 : Nat) (v1 : Int) : Nat → Int → Int → Option (Int)
  | 0, _, _ => none
  | n + 1, v2, v3 =>
    if (gn (σ v0 9)) ≤ (gn v3) then
      some v2
    else
      gs_chk (gn v3) 8 (
      (f_X0_between v0 v1 v3 σ).bind fun u1 =>
      (f_X6_band (σ (v0 + 3) (gn v3).toNat) u1 σ).bind fun u2 =>
      f_X0_allowedFor_L5 σ v0 v1 n (gand v2 (gxor u2 (-1))) (v3 + 1))
set_option maxRecDepth 100000 in
set_option maxHeartbeats 4000000 in
theorem k_X0_allowedFor_L5 {E : gs_E} (σ : gs_Mem) (v0 : Nat) (v1 : Int) (hv0 : isPl v0)  : ∀ (n : Nat) (v2 : Int) (v3 : Int), gs_K E (gs_MC E yX0_allowedFor cX0_allowedFor 4 (some .int) 0 { frames := 1, cells := 0, slots := 0, locals := 22 }) (fun v : Int => (v, σ)) (f_X0_allowedFor_L5 σ v0 v1 n v2 v3) 5 [(0, gr E v0), (1, gi v1), (2, gi v2), (3, gi v3)] [] σ := by
  intro n
  induction n with
  | zero => intro v2 v3; rw [f_X0_allowedFor_L5]; exact gk_none
  | succ n ih =>
    intro v2 v3; rw [f_X0_allowedFor_L5]
    refine gk_iload_n (pc := 5) 3 dX0_allowedFor_5 rfl ?_
    refine gk_aload_n (pc := 6) 0 dX0_allowedFor_6 rfl ?_
    refine gk_getI (pc := 7) rfl clsX0 (pl_lt0 hv0) (pl_sh hv0) 9 (by decide) rfl ww_97 dX0_allowedFor_7 ?_
    refine gk_icmp_ge (tgt := 39) (pc := 10) dX0_allowedFor_10 (by decide) rfl rfl ?_ ?_
    · refine gk_iload_n (pc := 39) 2 dX0_allowedFor_39 rfl ?_
      exact gk_iret (pc := 40) rfl dX0_allowedFor_40
    · refine gk_iload_n (pc := 13) 2 dX0_allowedFor_13 rfl ?_
      refine gk_aload_n (pc := 14) 0 dX0_allowedFor_14 rfl ?_
      refine gk_getR (q := (v0 + 3)) (pc := 15) rfl clsX0 (pl_lt0 hv0) (pl_sh hv0) 2 (by decide) rfl ww_90 dX0_allowedFor_15 ?_
      refine gk_iload_n (pc := 18) 3 dX0_allowedFor_18 rfl ?_
      refine gk_iald_c (pc := 19) (pl_lt3 hv0) (pl_s3 hv0) rfl dX0_allowedFor_19 ?_
      refine gk_aload_n (pc := 20) 0 dX0_allowedFor_20 rfl ?_
      refine gk_iload_n (pc := 21) 1 dX0_allowedFor_21 rfl ?_
      refine gk_iload_n (pc := 22) 3 dX0_allowedFor_22 rfl ?_
      refine gk_callV_ir (As := [gi v1, gi v3]) (pc := 23) (c_X0_between v0 v1 v3 hv0 σ) rfl mm_X0_between ww_414 clsX0 rfl (pl_lt0 hv0) (pl_sh hv0) (gs_fit_of (Nat.le_of_ble_eq_true rfl) (Nat.le_of_ble_eq_true rfl)) rfl rfl (Nat.le_of_ble_eq_true rfl) dX0_allowedFor_23 (fun u1 => ?_)
      refine gk_callSN_ir (As := [gi (σ (v0 + 3) (gn v3).toNat), gi u1]) (pc := 26) (c_X6_band (σ (v0 + 3) (gn v3).toNat) u1 σ) rfl mm_X6_band ww_418 (gs_fit_of (Nat.le_of_ble_eq_true rfl) (Nat.le_of_ble_eq_true rfl)) rfl rfl (Nat.le_of_ble_eq_true rfl) dX0_allowedFor_26 (fun u2 => ?_)
      refine gk_iconst (pc := 29) dX0_allowedFor_29 ?_
      refine gk_ixor (pc := 30) dX0_allowedFor_30 ?_
      refine gk_iand (pc := 31) dX0_allowedFor_31 ?_
      refine gk_istore_n (L' := [(2, gi (gand v2 (gxor u2 (-1)))), (0, gr E v0), (1, gi v1), (3, gi v3)]) (pc := 32) dX0_allowedFor_32 (Nat.le_of_ble_eq_true rfl) rfl ?_
      refine gk_iinc (L' := [(3, gi (v3 + 1)), (2, gi (gand v2 (gxor u2 (-1)))), (0, gr E v0), (1, gi v1)]) (pc := 33) 3 dX0_allowedFor_33 rfl (Nat.le_of_ble_eq_true rfl) rfl ?_
      refine gk_goto (tgt := 5) (pc := 36) dX0_allowedFor_36 (by decide) ?_
      refine gk_sub (L' := [(0, gr E v0), (1, gi v1), (2, gi (gand v2 (gxor u2 (-1)))), (3, gi (v3 + 1))]) [2, 3, 1, 0] rfl ?_
      exact ih (gand v2 (gxor u2 (-1))) (v3 + 1)
def f_X0_allowedFor (r0 : Nat) (v1 : Int) (σ : gs_Mem) : Option (Int) :=
  f_X0_allowedFor_L5 σ r0 v1 gs_fuel 1048575 0
set_option maxRecDepth 100000 in
set_option maxHeartbeats 4000000 in
theorem c_X0_allowedFor {E : gs_E} (r0 : Nat) (v1 : Int) (hr0 : isPl r0) (σ : gs_Mem) : gs_C E yX0_allowedFor cX0_allowedFor 4 (some .int) 0 { frames := 1, cells := 0, slots := 0, locals := 22 } [gr E r0, gi v1] σ (f_X0_allowedFor r0 v1 σ) (fun v : Int => (v, σ)) := by
  unfold f_X0_allowedFor
  refine gs_enter (L := [(0, gr E r0), (1, gi v1)]) (by decide) rfl rfl (Nat.le_of_ble_eq_true rfl) rfl ?_
  refine gk_ldc (x := 1048575) (pc := 0) rfl dX0_allowedFor_0 ww_413 (by decide +kernel) ?_
  refine gk_istore_n (L' := [(2, gi 1048575), (0, gr E r0), (1, gi v1)]) (pc := 2) dX0_allowedFor_2 (Nat.le_of_ble_eq_true rfl) rfl ?_
  refine gk_iconst (pc := 3) dX0_allowedFor_3 ?_
  refine gk_istore_n (L' := [(3, gi 0), (2, gi 1048575), (0, gr E r0), (1, gi v1)]) (pc := 4) dX0_allowedFor_4 (Nat.le_of_ble_eq_true rfl) rfl ?_
  refine gk_sub (L' := [(0, gr E r0), (1, gi v1), (2, gi 1048575), (3, gi 0)]) [2, 3, 1, 0] rfl ?_
  exact k_X0_allowedFor_L5 σ r0 v1 hr0 gs_fuel 1048575 0
def f_X0_neighboursOf (r0 : Nat) (v1 : Int) (σ : gs_Mem) : Option (Int) :=
  (f_X0_has r0 v1 σ).bind fun u1 =>
  if (gn u1) = 0 then
    some (-1)
  else
    gs_chk (gn v1) 8 (
    some (σ (r0 + 7) (gn v1).toNat))
set_option maxRecDepth 100000 in
set_option maxHeartbeats 4000000 in
theorem c_X0_neighboursOf {E : gs_E} (r0 : Nat) (v1 : Int) (hr0 : isPl r0) (σ : gs_Mem) : gs_C E yX0_neighboursOf cX0_neighboursOf 2 (some .int) 0 { frames := 1, cells := 0, slots := 0, locals := 21 } [gr E r0, gi v1] σ (f_X0_neighboursOf r0 v1 σ) (fun v : Int => (v, σ)) := by
  unfold f_X0_neighboursOf
  refine gs_enter (L := [(0, gr E r0), (1, gi v1)]) (by decide) rfl rfl (Nat.le_of_ble_eq_true rfl) rfl ?_
  refine gk_aload_n (pc := 0) 0 dX0_neighboursOf_0 rfl ?_
  refine gk_iload_n (pc := 1) 1 dX0_neighboursOf_1 rfl ?_
  refine gk_callV_ir (As := [gi v1]) (pc := 2) (c_X0_has r0 v1 hr0 σ) rfl mm_X0_has ww_306 clsX0 rfl (pl_lt0 hr0) (pl_sh hr0) (gs_fit_of (Nat.le_of_ble_eq_true rfl) (Nat.le_of_ble_eq_true rfl)) rfl rfl (Nat.le_of_ble_eq_true rfl) dX0_neighboursOf_2 (fun u1 => ?_)
  refine gk_if_eq (tgt := 17) (pc := 5) dX0_neighboursOf_5 (by decide) rfl ?_ ?_
  · refine gk_iconst (pc := 17) dX0_neighboursOf_17 ?_
    exact gk_iret (pc := 18) rfl dX0_neighboursOf_18
  · refine gk_aload_n (pc := 8) 0 dX0_neighboursOf_8 rfl ?_
    refine gk_getR (q := (r0 + 7)) (pc := 9) rfl clsX0 (pl_lt0 hr0) (pl_sh hr0) 6 (by decide) rfl ww_94 dX0_neighboursOf_9 ?_
    refine gk_iload_n (pc := 12) 1 dX0_neighboursOf_12 rfl ?_
    refine gk_iald_c (pc := 13) (pl_lt7 hr0) (pl_s7 hr0) rfl dX0_neighboursOf_13 ?_
    refine gk_goto (tgt := 18) (pc := 14) dX0_neighboursOf_14 (by decide) ?_
    exact gk_iret (pc := 18) rfl dX0_neighboursOf_18
def f_X0_clashesOf_L18 (σ : gs_Mem) (v0 : Nat) (v1 : Int) (v2 : Int) : Nat → Int → Int → Option (Int)
  | 0, _, _ => none
  | n + 1, v3, v4 =>
    if (gn (σ v0 9)) ≤ (gn v4) then
      some v3
    else
      gs_chk (gn v4) 8 (
      (f_X0_between v0 v1 v4 σ).bind fun u2 =>
      (f_X6_band (σ (v0 + 3) (gn v4).toNat) u2 σ).bind fun u3 =>
      f_X0_clashesOf_L18 σ v0 v1 v2 n (v3 + (gand (gshr u3 v2) 1)) (v4 + 1))
set_option maxRecDepth 100000 in
set_option maxHeartbeats 4000000 in
theorem k_X0_clashesOf_L18 {E : gs_E} (σ : gs_Mem) (v0 : Nat) (v1 : Int) (v2 : Int) (hv0 : isPl v0)  : ∀ (n : Nat) (v3 : Int) (v4 : Int), gs_K E (gs_MC E yX0_clashesOf cX0_clashesOf 5 (some .int) 0 { frames := 2, cells := 0, slots := 0, locals := 42 }) (fun v : Int => (v, σ)) (f_X0_clashesOf_L18 σ v0 v1 v2 n v3 v4) 18 [(0, gr E v0), (1, gi v1), (2, gi v2), (3, gi v3), (4, gi v4)] [] σ := by
  intro n
  induction n with
  | zero => intro v3 v4; rw [f_X0_clashesOf_L18]; exact gk_none
  | succ n ih =>
    intro v3 v4; rw [f_X0_clashesOf_L18]
    refine gk_iload (pc := 18) 4 dX0_clashesOf_18 rfl ?_
    refine gk_aload_n (pc := 20) 0 dX0_clashesOf_20 rfl ?_
    refine gk_getI (pc := 21) rfl clsX0 (pl_lt0 hv0) (pl_sh hv0) 9 (by decide) rfl ww_97 dX0_clashesOf_21 ?_
    refine gk_icmp_ge (tgt := 57) (pc := 24) dX0_clashesOf_24 (by decide) rfl rfl ?_ ?_
    · refine gk_iload_n (pc := 57) 3 dX0_clashesOf_57 rfl ?_
      exact gk_iret (pc := 58) rfl dX0_clashesOf_58
    · refine gk_iload_n (pc := 27) 3 dX0_clashesOf_27 rfl ?_
      refine gk_aload_n (pc := 28) 0 dX0_clashesOf_28 rfl ?_
      refine gk_getR (q := (v0 + 3)) (pc := 29) rfl clsX0 (pl_lt0 hv0) (pl_sh hv0) 2 (by decide) rfl ww_90 dX0_clashesOf_29 ?_
      refine gk_iload (pc := 32) 4 dX0_clashesOf_32 rfl ?_
      refine gk_iald_c (pc := 34) (pl_lt3 hv0) (pl_s3 hv0) rfl dX0_clashesOf_34 ?_
      refine gk_aload_n (pc := 35) 0 dX0_clashesOf_35 rfl ?_
      refine gk_iload_n (pc := 36) 1 dX0_clashesOf_36 rfl ?_
      refine gk_iload (pc := 37) 4 dX0_clashesOf_37 rfl ?_
      refine gk_callV_ir (As := [gi v1, gi v4]) (pc := 39) (c_X0_between v0 v1 v4 hv0 σ) rfl mm_X0_between ww_414 clsX0 rfl (pl_lt0 hv0) (pl_sh hv0) (gs_fit_of (Nat.le_of_ble_eq_true rfl) (Nat.le_of_ble_eq_true rfl)) rfl rfl (Nat.le_of_ble_eq_true rfl) dX0_clashesOf_39 (fun u2 => ?_)
      refine gk_callSN_ir (As := [gi (σ (v0 + 3) (gn v4).toNat), gi u2]) (pc := 42) (c_X6_band (σ (v0 + 3) (gn v4).toNat) u2 σ) rfl mm_X6_band ww_418 (gs_fit_of (Nat.le_of_ble_eq_true rfl) (Nat.le_of_ble_eq_true rfl)) rfl rfl (Nat.le_of_ble_eq_true rfl) dX0_clashesOf_42 (fun u3 => ?_)
      refine gk_iload_n (pc := 45) 2 dX0_clashesOf_45 rfl ?_
      refine gk_ishr (pc := 46) dX0_clashesOf_46 ?_
      refine gk_iconst (pc := 47) dX0_clashesOf_47 ?_
      refine gk_iand (pc := 48) dX0_clashesOf_48 ?_
      refine gk_iadd (pc := 49) dX0_clashesOf_49 ?_
      refine gk_istore_n (L' := [(3, gi (v3 + (gand (gshr u3 v2) 1))), (0, gr E v0), (1, gi v1), (2, gi v2), (4, gi v4)]) (pc := 50) dX0_clashesOf_50 (Nat.le_of_ble_eq_true rfl) rfl ?_
      refine gk_iinc (L' := [(4, gi (v4 + 1)), (3, gi (v3 + (gand (gshr u3 v2) 1))), (0, gr E v0), (1, gi v1), (2, gi v2)]) (pc := 51) 4 dX0_clashesOf_51 rfl (Nat.le_of_ble_eq_true rfl) rfl ?_
      refine gk_goto (tgt := 18) (pc := 54) dX0_clashesOf_54 (by decide) ?_
      refine gk_sub (L' := [(0, gr E v0), (1, gi v1), (2, gi v2), (3, gi (v3 + (gand (gshr u3 v2) 1))), (4, gi (v4 + 1))]) [2, 3, 4, 1, 0] rfl ?_
      exact ih (v3 + (gand (gshr u3 v2) 1)) (v4 + 1)
def f_X0_clashesOf (r0 : Nat) (v1 : Int) (σ : gs_Mem) : Option (Int) :=
  (f_X0_channelOf r0 v1 σ).bind fun u1 =>
  if (gn u1) = (-1) then
    some 0
  else
    f_X0_clashesOf_L18 σ r0 v1 u1 gs_fuel 0 0
set_option maxRecDepth 100000 in
set_option maxHeartbeats 4000000 in
theorem c_X0_clashesOf {E : gs_E} (r0 : Nat) (v1 : Int) (hr0 : isPl r0) (σ : gs_Mem) : gs_C E yX0_clashesOf cX0_clashesOf 5 (some .int) 0 { frames := 2, cells := 0, slots := 0, locals := 42 } [gr E r0, gi v1] σ (f_X0_clashesOf r0 v1 σ) (fun v : Int => (v, σ)) := by
  unfold f_X0_clashesOf
  refine gs_enter (L := [(0, gr E r0), (1, gi v1)]) (by decide) rfl rfl (Nat.le_of_ble_eq_true rfl) rfl ?_
  refine gk_aload_n (pc := 0) 0 dX0_clashesOf_0 rfl ?_
  refine gk_iload_n (pc := 1) 1 dX0_clashesOf_1 rfl ?_
  refine gk_callV_ir (As := [gi v1]) (pc := 2) (c_X0_channelOf r0 v1 hr0 σ) rfl mm_X0_channelOf ww_311 clsX0 rfl (pl_lt0 hr0) (pl_sh hr0) (gs_fit_of (Nat.le_of_ble_eq_true rfl) (Nat.le_of_ble_eq_true rfl)) rfl rfl (Nat.le_of_ble_eq_true rfl) dX0_clashesOf_2 (fun u1 => ?_)
  refine gk_istore_n (L' := [(2, gi u1), (0, gr E r0), (1, gi v1)]) (pc := 5) dX0_clashesOf_5 (Nat.le_of_ble_eq_true rfl) rfl ?_
  refine gk_iload_n (pc := 6) 0 dX0_clashesOf_6 rfl ?_
  refine gk_iconst (pc := 7) dX0_clashesOf_7 ?_
  refine gk_icmp_ne (tgt := 13) (pc := 8) dX0_clashesOf_8 (by decide) rfl (by decide +kernel) ?_ ?_
  · refine gk_iconst (pc := 13) dX0_clashesOf_13 ?_
    refine gk_istore_n (L' := [(3, gi 0), (2, gi u1), (0, gr E r0), (1, gi v1)]) (pc := 14) dX0_clashesOf_14 (Nat.le_of_ble_eq_true rfl) rfl ?_
    refine gk_iconst (pc := 15) dX0_clashesOf_15 ?_
    refine gk_istore (L' := [(4, gi 0), (3, gi 0), (2, gi u1), (0, gr E r0), (1, gi v1)]) (pc := 16) dX0_clashesOf_16 (Nat.le_of_ble_eq_true rfl) rfl ?_
    refine gk_sub (L' := [(0, gr E r0), (1, gi v1), (2, gi u1), (3, gi 0), (4, gi 0)]) [3, 4, 2, 1, 0] rfl ?_
    exact k_X0_clashesOf_L18 σ r0 v1 u1 hr0 gs_fuel 0 0
  · refine gk_iconst (pc := 11) dX0_clashesOf_11 ?_
    exact gk_iret (pc := 12) rfl dX0_clashesOf_12
def f_X0_clashes_L4 (σ : gs_Mem) (v0 : Nat) (k26 : Int → Option (Int)) : Nat → Int → Int → Option (Int)
  | 0, _, _ => none
  | n + 1, v1, v2 =>
    if (gn (σ v0 9)) ≤ (gn v2) then
      k26 v1
    else
      (f_X0_clashesOf v0 v2 σ).bind fun u1 =>
      f_X0_clashes_L4 σ v0 k26 n (v1 + u1) (v2 + 1)
set_option maxRecDepth 100000 in
set_option maxHeartbeats 4000000 in
theorem k_X0_clashes_L4 {E : gs_E} (σ : gs_Mem) (v0 : Nat) (k26 : Int → Option (Int)) (hv0 : isPl v0) (hk26 : ∀ (w1 : Int), gs_K E (gs_MC E yX0_clashes cX0_clashes 3 (some .int) 0 { frames := 3, cells := 0, slots := 0, locals := 66 }) (fun v : Int => (v, σ)) (k26 w1) 26 [(1, gi w1)] [] σ) : ∀ (n : Nat) (v1 : Int) (v2 : Int), gs_K E (gs_MC E yX0_clashes cX0_clashes 3 (some .int) 0 { frames := 3, cells := 0, slots := 0, locals := 66 }) (fun v : Int => (v, σ)) (f_X0_clashes_L4 σ v0 k26 n v1 v2) 4 [(0, gr E v0), (1, gi v1), (2, gi v2)] [] σ := by
  intro n
  induction n with
  | zero => intro v1 v2; rw [f_X0_clashes_L4]; exact gk_none
  | succ n ih =>
    intro v1 v2; rw [f_X0_clashes_L4]
    refine gk_iload_n (pc := 4) 2 dX0_clashes_4 rfl ?_
    refine gk_aload_n (pc := 5) 0 dX0_clashes_5 rfl ?_
    refine gk_getI (pc := 6) rfl clsX0 (pl_lt0 hv0) (pl_sh hv0) 9 (by decide) rfl ww_97 dX0_clashes_6 ?_
    refine gk_icmp_ge (tgt := 26) (pc := 9) dX0_clashes_9 (by decide) rfl rfl ?_ ?_
    · refine gk_sub (L' := [(1, gi v1)]) [1] rfl ?_
      exact hk26 v1
    · refine gk_iload_n (pc := 12) 1 dX0_clashes_12 rfl ?_
      refine gk_aload_n (pc := 13) 0 dX0_clashes_13 rfl ?_
      refine gk_iload_n (pc := 14) 2 dX0_clashes_14 rfl ?_
      refine gk_callV_ir (As := [gi v2]) (pc := 15) (c_X0_clashesOf v0 v2 hv0 σ) rfl mm_X0_clashesOf ww_488 clsX0 rfl (pl_lt0 hv0) (pl_sh hv0) (gs_fit_of (Nat.le_of_ble_eq_true rfl) (Nat.le_of_ble_eq_true rfl)) rfl rfl (Nat.le_of_ble_eq_true rfl) dX0_clashes_15 (fun u1 => ?_)
      refine gk_iadd (pc := 18) dX0_clashes_18 ?_
      refine gk_istore_n (L' := [(1, gi (v1 + u1)), (0, gr E v0), (2, gi v2)]) (pc := 19) dX0_clashes_19 (Nat.le_of_ble_eq_true rfl) rfl ?_
      refine gk_iinc (L' := [(2, gi (v2 + 1)), (1, gi (v1 + u1)), (0, gr E v0)]) (pc := 20) 2 dX0_clashes_20 rfl (Nat.le_of_ble_eq_true rfl) rfl ?_
      refine gk_goto (tgt := 4) (pc := 23) dX0_clashes_23 (by decide) ?_
      refine gk_sub (L' := [(0, gr E v0), (1, gi (v1 + u1)), (2, gi (v2 + 1))]) [2, 1, 0] rfl ?_
      exact ih (v1 + u1) (v2 + 1)
def f_X0_clashes (r0 : Nat) (σ : gs_Mem) : Option (Int) :=
  f_X0_clashes_L4 σ r0 (fun w1 =>
    gs_chk0 2 (
    some (gdiv w1 2))) gs_fuel 0 0
set_option maxRecDepth 100000 in
set_option maxHeartbeats 4000000 in
theorem c_X0_clashes {E : gs_E} (r0 : Nat) (hr0 : isPl r0) (σ : gs_Mem) : gs_C E yX0_clashes cX0_clashes 3 (some .int) 0 { frames := 3, cells := 0, slots := 0, locals := 66 } [gr E r0] σ (f_X0_clashes r0 σ) (fun v : Int => (v, σ)) := by
  unfold f_X0_clashes
  refine gs_enter (L := [(0, gr E r0)]) (by decide) rfl rfl (Nat.le_of_ble_eq_true rfl) rfl ?_
  refine gk_iconst (pc := 0) dX0_clashes_0 ?_
  refine gk_istore_n (L' := [(1, gi 0), (0, gr E r0)]) (pc := 1) dX0_clashes_1 (Nat.le_of_ble_eq_true rfl) rfl ?_
  refine gk_iconst (pc := 2) dX0_clashes_2 ?_
  refine gk_istore_n (L' := [(2, gi 0), (1, gi 0), (0, gr E r0)]) (pc := 3) dX0_clashes_3 (Nat.le_of_ble_eq_true rfl) rfl ?_
  refine gk_sub (L' := [(0, gr E r0), (1, gi 0), (2, gi 0)]) [2, 1, 0] rfl ?_
  refine k_X0_clashes_L4 σ r0 _ hr0 ?_ gs_fuel 0 0
  · intro w1
    refine gk_iload_n (pc := 26) 0 dX0_clashes_26 rfl ?_
    refine gk_iconst (pc := 27) dX0_clashes_27 ?_
    refine gk_idiv_g (pc := 28) dX0_clashes_28 (by decide +kernel) ?_
    exact gk_iret (pc := 29) rfl dX0_clashes_29
def f_X0_usedChannels_L4 (σ : gs_Mem) (v0 : Nat) : Nat → Int → Int → Option (Int)
  | 0, _, _ => none
  | n + 1, v1, v2 =>
    if (gn (σ v0 9)) ≤ (gn v2) then
      some v1
    else
      gs_chk (gn v2) 8 (
      (f_X6_band (σ (v0 + 3) (gn v2).toNat) 1 σ).bind fun u1 =>
      f_X0_usedChannels_L4 σ v0 n (gor v1 u1) (v2 + 1))
set_option maxRecDepth 100000 in
set_option maxHeartbeats 4000000 in
theorem k_X0_usedChannels_L4 {E : gs_E} (σ : gs_Mem) (v0 : Nat) (hv0 : isPl v0)  : ∀ (n : Nat) (v1 : Int) (v2 : Int), gs_K E (gs_MC E yX0_usedChannels cX0_usedChannels 3 (some .int) 0 { frames := 1, cells := 0, slots := 0, locals := 21 }) (fun v : Int => (v, σ)) (f_X0_usedChannels_L4 σ v0 n v1 v2) 4 [(0, gr E v0), (1, gi v1), (2, gi v2)] [] σ := by
  intro n
  induction n with
  | zero => intro v1 v2; rw [f_X0_usedChannels_L4]; exact gk_none
  | succ n ih =>
    intro v1 v2; rw [f_X0_usedChannels_L4]
    refine gk_iload_n (pc := 4) 2 dX0_usedChannels_4 rfl ?_
    refine gk_aload_n (pc := 5) 0 dX0_usedChannels_5 rfl ?_
    refine gk_getI (pc := 6) rfl clsX0 (pl_lt0 hv0) (pl_sh hv0) 9 (by decide) rfl ww_97 dX0_usedChannels_6 ?_
    refine gk_icmp_ge (tgt := 31) (pc := 9) dX0_usedChannels_9 (by decide) rfl rfl ?_ ?_
    · refine gk_iload_n (pc := 31) 1 dX0_usedChannels_31 rfl ?_
      exact gk_iret (pc := 32) rfl dX0_usedChannels_32
    · refine gk_iload_n (pc := 12) 1 dX0_usedChannels_12 rfl ?_
      refine gk_aload_n (pc := 13) 0 dX0_usedChannels_13 rfl ?_
      refine gk_getR (q := (v0 + 3)) (pc := 14) rfl clsX0 (pl_lt0 hv0) (pl_sh hv0) 2 (by decide) rfl ww_90 dX0_usedChannels_14 ?_
      refine gk_iload_n (pc := 17) 2 dX0_usedChannels_17 rfl ?_
      refine gk_iald_c (pc := 18) (pl_lt3 hv0) (pl_s3 hv0) rfl dX0_usedChannels_18 ?_
      refine gk_iconst (pc := 19) dX0_usedChannels_19 ?_
      refine gk_callSN_ir (As := [gi (σ (v0 + 3) (gn v2).toNat), gi 1]) (pc := 20) (c_X6_band (σ (v0 + 3) (gn v2).toNat) 1 σ) rfl mm_X6_band ww_418 (gs_fit_of (Nat.le_of_ble_eq_true rfl) (Nat.le_of_ble_eq_true rfl)) rfl rfl (Nat.le_of_ble_eq_true rfl) dX0_usedChannels_20 (fun u1 => ?_)
      refine gk_ior (pc := 23) dX0_usedChannels_23 ?_
      refine gk_istore_n (L' := [(1, gi (gor v1 u1)), (0, gr E v0), (2, gi v2)]) (pc := 24) dX0_usedChannels_24 (Nat.le_of_ble_eq_true rfl) rfl ?_
      refine gk_iinc (L' := [(2, gi (v2 + 1)), (1, gi (gor v1 u1)), (0, gr E v0)]) (pc := 25) 2 dX0_usedChannels_25 rfl (Nat.le_of_ble_eq_true rfl) rfl ?_
      refine gk_goto (tgt := 4) (pc := 28) dX0_usedChannels_28 (by decide) ?_
      refine gk_sub (L' := [(0, gr E v0), (1, gi (gor v1 u1)), (2, gi (v2 + 1))]) [2, 1, 0] rfl ?_
      exact ih (gor v1 u1) (v2 + 1)
def f_X0_usedChannels (r0 : Nat) (σ : gs_Mem) : Option (Int) :=
  f_X0_usedChannels_L4 σ r0 gs_fuel 0 0
set_option maxRecDepth 100000 in
set_option maxHeartbeats 4000000 in
theorem c_X0_usedChannels {E : gs_E} (r0 : Nat) (hr0 : isPl r0) (σ : gs_Mem) : gs_C E yX0_usedChannels cX0_usedChannels 3 (some .int) 0 { frames := 1, cells := 0, slots := 0, locals := 21 } [gr E r0] σ (f_X0_usedChannels r0 σ) (fun v : Int => (v, σ)) := by
  unfold f_X0_usedChannels
  refine gs_enter (L := [(0, gr E r0)]) (by decide) rfl rfl (Nat.le_of_ble_eq_true rfl) rfl ?_
  refine gk_iconst (pc := 0) dX0_usedChannels_0 ?_
  refine gk_istore_n (L' := [(1, gi 0), (0, gr E r0)]) (pc := 1) dX0_usedChannels_1 (Nat.le_of_ble_eq_true rfl) rfl ?_
  refine gk_iconst (pc := 2) dX0_usedChannels_2 ?_
  refine gk_istore_n (L' := [(2, gi 0), (1, gi 0), (0, gr E r0)]) (pc := 3) dX0_usedChannels_3 (Nat.le_of_ble_eq_true rfl) rfl ?_
  refine gk_sub (L' := [(0, gr E r0), (1, gi 0), (2, gi 0)]) [2, 1, 0] rfl ?_
  exact k_X0_usedChannels_L4 σ r0 hr0 gs_fuel 0 0
def f_X0_span_J35 (σ : gs_Mem) (k15 : Int → Int → Option (Int)) (k42 : Int → Option (Int)) (v1 : Int) (v3 : Int) (t0 : Int) : Option (Int) :=
  k15 t0 (v3 + 1)
set_option maxRecDepth 100000 in
set_option maxHeartbeats 4000000 in
theorem k_X0_span_J35 {E : gs_E} (σ : gs_Mem) (k15 : Int → Int → Option (Int)) (k42 : Int → Option (Int))  (v1 : Int) (v3 : Int) (t0 : Int)  (hk15 : ∀ (w2 : Int) (w3 : Int), gs_K E (gs_MC E yX0_span cX0_span 4 (some .int) 0 { frames := 2, cells := 0, slots := 0, locals := 43 }) (fun v : Int => (v, σ)) (k15 w2 w3) 15 [(1, gi v1), (2, gi w2), (3, gi w3)] [] σ) (hk42 : ∀ (w2 : Int), gs_K E (gs_MC E yX0_span cX0_span 4 (some .int) 0 { frames := 2, cells := 0, slots := 0, locals := 43 }) (fun v : Int => (v, σ)) (k42 w2) 42 [(1, gi v1), (2, gi w2)] [] σ) : gs_K E (gs_MC E yX0_span cX0_span 4 (some .int) 0 { frames := 2, cells := 0, slots := 0, locals := 43 }) (fun v : Int => (v, σ)) (f_X0_span_J35 σ k15 k42 v1 v3 t0) 35 [(1, gi v1), (3, gi v3)] [gi t0] σ := by
  unfold f_X0_span_J35
  refine gk_istore_n (L' := [(2, gi t0), (1, gi v1), (3, gi v3)]) (pc := 35) dX0_span_35 (Nat.le_of_ble_eq_true rfl) rfl ?_
  refine gk_iinc (L' := [(3, gi (v3 + 1)), (2, gi t0), (1, gi v1)]) (pc := 36) 2 dX0_span_36 rfl (Nat.le_of_ble_eq_true rfl) rfl ?_
  refine gk_goto (tgt := 15) (pc := 39) dX0_span_39 (by decide) ?_
  refine gk_sub (L' := [(1, gi v1), (2, gi t0), (3, gi (v3 + 1))]) [2, 1, 0] rfl ?_
  exact hk15 t0 (v3 + 1)
def f_X0_span_L15 (σ : gs_Mem) (v1 : Int) (k42 : Int → Option (Int)) : Nat → Int → Int → Option (Int)
  | 0, _, _ => none
  | n + 1, v2, v3 =>
    if 20 ≤ (gn v3) then
      k42 v2
    else
      if (gand (gshr v1 v3) 1) = 1 then
        f_X0_span_J35 σ (f_X0_span_L15 σ v1 k42 n) k42 v1 v3 v3
      else
        f_X0_span_J35 σ (f_X0_span_L15 σ v1 k42 n) k42 v1 v3 v2
set_option maxRecDepth 100000 in
set_option maxHeartbeats 4000000 in
theorem k_X0_span_L15 {E : gs_E} (σ : gs_Mem) (v1 : Int) (k42 : Int → Option (Int))  (hk42 : ∀ (w2 : Int), gs_K E (gs_MC E yX0_span cX0_span 4 (some .int) 0 { frames := 2, cells := 0, slots := 0, locals := 43 }) (fun v : Int => (v, σ)) (k42 w2) 42 [(1, gi v1), (2, gi w2)] [] σ) : ∀ (n : Nat) (v2 : Int) (v3 : Int), gs_K E (gs_MC E yX0_span cX0_span 4 (some .int) 0 { frames := 2, cells := 0, slots := 0, locals := 43 }) (fun v : Int => (v, σ)) (f_X0_span_L15 σ v1 k42 n v2 v3) 15 [(1, gi v1), (2, gi v2), (3, gi v3)] [] σ := by
  intro n
  induction n with
  | zero => intro v2 v3; rw [f_X0_span_L15]; exact gk_none
  | succ n ih =>
    intro v2 v3; rw [f_X0_span_L15]
    refine gk_iload_n (pc := 15) 2 dX0_span_15 rfl ?_
    refine gk_bipush (pc := 16) dX0_span_16 (by decide +kernel) ?_
    refine gk_icmp_ge (tgt := 42) (pc := 18) dX0_span_18 (by decide) rfl (by decide +kernel) ?_ ?_
    · refine gk_sub (L' := [(1, gi v1), (2, gi v2)]) [0, 1] rfl ?_
      exact hk42 v2
    · refine gk_iload_n (pc := 21) 0 dX0_span_21 rfl ?_
      refine gk_iload_n (pc := 22) 2 dX0_span_22 rfl ?_
      refine gk_ishr (pc := 23) dX0_span_23 ?_
      refine gk_iconst (pc := 24) dX0_span_24 ?_
      refine gk_iand (pc := 25) dX0_span_25 ?_
      refine gk_iconst (pc := 26) dX0_span_26 ?_
      refine gk_icmp_ne (tgt := 34) (pc := 27) dX0_span_27 (by decide) (gn_ti _) (by decide +kernel) ?_ ?_
      · refine gk_iload_n (pc := 34) 1 dX0_span_34 rfl ?_
        refine gk_sub (L' := [(1, gi v1), (3, gi v3)]) [0, 2] rfl ?_
        exact k_X0_span_J35 σ (f_X0_span_L15 σ v1 k42 n) k42 v1 v3 v2 ih hk42
      · refine gk_iload_n (pc := 30) 2 dX0_span_30 rfl ?_
        refine gk_goto (tgt := 35) (pc := 31) dX0_span_31 (by decide) ?_
        refine gk_sub (L' := [(1, gi v1), (3, gi v3)]) [0, 2] rfl ?_
        exact k_X0_span_J35 σ (f_X0_span_L15 σ v1 k42 n) k42 v1 v3 v3 ih hk42
def f_X0_span (r0 : Nat) (σ : gs_Mem) : Option (Int) :=
  (f_X0_usedChannels r0 σ).bind fun u1 =>
  if (gn u1) = 0 then
    some 0
  else
    f_X0_span_L15 σ u1 (fun w2 =>
      (f_X6_leastOf u1 σ).bind fun u2 =>
      some ((w2 - u2) + 1)) gs_fuel 0 0
set_option maxRecDepth 100000 in
set_option maxHeartbeats 4000000 in
theorem c_X0_span {E : gs_E} (r0 : Nat) (hr0 : isPl r0) (σ : gs_Mem) : gs_C E yX0_span cX0_span 4 (some .int) 0 { frames := 2, cells := 0, slots := 0, locals := 43 } [gr E r0] σ (f_X0_span r0 σ) (fun v : Int => (v, σ)) := by
  unfold f_X0_span
  refine gs_enter (L := [(0, gr E r0)]) (by decide) rfl rfl (Nat.le_of_ble_eq_true rfl) rfl ?_
  refine gk_aload_n (pc := 0) 0 dX0_span_0 rfl ?_
  refine gk_callV_ir (As := []) (pc := 1) (c_X0_usedChannels r0 hr0 σ) rfl mm_X0_usedChannels ww_505 clsX0 rfl (pl_lt0 hr0) (pl_sh hr0) (gs_fit_of (Nat.le_of_ble_eq_true rfl) (Nat.le_of_ble_eq_true rfl)) rfl rfl (Nat.le_of_ble_eq_true rfl) dX0_span_1 (fun u1 => ?_)
  refine gk_istore_n (L' := [(1, gi u1), (0, gr E r0)]) (pc := 4) dX0_span_4 (Nat.le_of_ble_eq_true rfl) rfl ?_
  refine gk_iload_n (pc := 5) 0 dX0_span_5 rfl ?_
  refine gk_if_ne (tgt := 11) (pc := 6) dX0_span_6 (by decide) rfl ?_ ?_
  · refine gk_iconst (pc := 11) dX0_span_11 ?_
    refine gk_istore_n (L' := [(2, gi 0), (1, gi u1), (0, gr E r0)]) (pc := 12) dX0_span_12 (Nat.le_of_ble_eq_true rfl) rfl ?_
    refine gk_iconst (pc := 13) dX0_span_13 ?_
    refine gk_istore_n (L' := [(3, gi 0), (2, gi 0), (1, gi u1), (0, gr E r0)]) (pc := 14) dX0_span_14 (Nat.le_of_ble_eq_true rfl) rfl ?_
    refine gk_sub (L' := [(1, gi u1), (2, gi 0), (3, gi 0)]) [2, 1, 0] rfl ?_
    refine k_X0_span_L15 σ u1 _ ?_ gs_fuel 0 0
    · intro w2
      refine gk_iload_n (pc := 42) 1 dX0_span_42 rfl ?_
      refine gk_iload_n (pc := 43) 0 dX0_span_43 rfl ?_
      refine gk_callSN_ir (As := [gi u1]) (pc := 44) (c_X6_leastOf u1 σ) rfl mm_X6_leastOf ww_462 (gs_fit_of (Nat.le_of_ble_eq_true rfl) (Nat.le_of_ble_eq_true rfl)) rfl rfl (Nat.le_of_ble_eq_true rfl) dX0_span_44 (fun u2 => ?_)
      refine gk_isub (pc := 47) dX0_span_47 ?_
      refine gk_iconst (pc := 48) dX0_span_48 ?_
      refine gk_iadd (pc := 49) dX0_span_49 ?_
      exact gk_iret (pc := 50) rfl dX0_span_50
  · refine gk_iconst (pc := 9) dX0_span_9 ?_
    exact gk_iret (pc := 10) rfl dX0_span_10
def f_X0_tuned_J28 (σ : gs_Mem) (k4 : Int → Int → Option (Int)) (v0 : Nat) (v2 : Int) (t0 : Int) (t1 : Int) : Option (Int) :=
  k4 (t1 + t0) (v2 + 1)
set_option maxRecDepth 100000 in
set_option maxHeartbeats 4000000 in
theorem k_X0_tuned_J28 {E : gs_E} (σ : gs_Mem) (k4 : Int → Int → Option (Int))  (v0 : Nat) (v2 : Int) (t0 : Int) (t1 : Int) (hv0 : isPl v0) (hk4 : ∀ (w1 : Int) (w2 : Int), gs_K E (gs_MC E yX0_tuned cX0_tuned 3 (some .int) 0 { frames := 0, cells := 0, slots := 0, locals := 0 }) (fun v : Int => (v, σ)) (k4 w1 w2) 4 [(0, gr E v0), (1, gi w1), (2, gi w2)] [] σ) : gs_K E (gs_MC E yX0_tuned cX0_tuned 3 (some .int) 0 { frames := 0, cells := 0, slots := 0, locals := 0 }) (fun v : Int => (v, σ)) (f_X0_tuned_J28 σ k4 v0 v2 t0 t1) 28 [(0, gr E v0), (2, gi v2)] [gi t0, gi t1] σ := by
  unfold f_X0_tuned_J28
  refine gk_iadd (pc := 28) dX0_tuned_28 ?_
  refine gk_istore_n (L' := [(1, gi (t1 + t0)), (0, gr E v0), (2, gi v2)]) (pc := 29) dX0_tuned_29 (Nat.le_of_ble_eq_true rfl) rfl ?_
  refine gk_iinc (L' := [(2, gi (v2 + 1)), (1, gi (t1 + t0)), (0, gr E v0)]) (pc := 30) 2 dX0_tuned_30 rfl (Nat.le_of_ble_eq_true rfl) rfl ?_
  refine gk_goto (tgt := 4) (pc := 33) dX0_tuned_33 (by decide) ?_
  refine gk_sub (L' := [(0, gr E v0), (1, gi (t1 + t0)), (2, gi (v2 + 1))]) [2, 1, 0] rfl ?_
  exact hk4 (t1 + t0) (v2 + 1)
def f_X0_tuned_L4 (σ : gs_Mem) (v0 : Nat) : Nat → Int → Int → Option (Int)
  | 0, _, _ => none
  | n + 1, v1, v2 =>
    if (gn (σ v0 9)) ≤ (gn v2) then
      some v1
    else
      gs_chk (gn v2) 8 (
      if (gn (σ (v0 + 3) (gn v2).toNat)) = (-1) then
        f_X0_tuned_J28 σ (f_X0_tuned_L4 σ v0 n) v0 v2 0 v1
      else
        f_X0_tuned_J28 σ (f_X0_tuned_L4 σ v0 n) v0 v2 1 v1)
set_option maxRecDepth 100000 in
set_option maxHeartbeats 4000000 in
theorem k_X0_tuned_L4 {E : gs_E} (σ : gs_Mem) (v0 : Nat) (hv0 : isPl v0)  : ∀ (n : Nat) (v1 : Int) (v2 : Int), gs_K E (gs_MC E yX0_tuned cX0_tuned 3 (some .int) 0 { frames := 0, cells := 0, slots := 0, locals := 0 }) (fun v : Int => (v, σ)) (f_X0_tuned_L4 σ v0 n v1 v2) 4 [(0, gr E v0), (1, gi v1), (2, gi v2)] [] σ := by
  intro n
  induction n with
  | zero => intro v1 v2; rw [f_X0_tuned_L4]; exact gk_none
  | succ n ih =>
    intro v1 v2; rw [f_X0_tuned_L4]
    refine gk_iload_n (pc := 4) 2 dX0_tuned_4 rfl ?_
    refine gk_aload_n (pc := 5) 0 dX0_tuned_5 rfl ?_
    refine gk_getI (pc := 6) rfl clsX0 (pl_lt0 hv0) (pl_sh hv0) 9 (by decide) rfl ww_97 dX0_tuned_6 ?_
    refine gk_icmp_ge (tgt := 36) (pc := 9) dX0_tuned_9 (by decide) rfl rfl ?_ ?_
    · refine gk_iload_n (pc := 36) 1 dX0_tuned_36 rfl ?_
      exact gk_iret (pc := 37) rfl dX0_tuned_37
    · refine gk_iload_n (pc := 12) 1 dX0_tuned_12 rfl ?_
      refine gk_aload_n (pc := 13) 0 dX0_tuned_13 rfl ?_
      refine gk_getR (q := (v0 + 3)) (pc := 14) rfl clsX0 (pl_lt0 hv0) (pl_sh hv0) 2 (by decide) rfl ww_90 dX0_tuned_14 ?_
      refine gk_iload_n (pc := 17) 2 dX0_tuned_17 rfl ?_
      refine gk_iald_c (pc := 18) (pl_lt3 hv0) (pl_s3 hv0) rfl dX0_tuned_18 ?_
      refine gk_iconst (pc := 19) dX0_tuned_19 ?_
      refine gk_icmp_ne (tgt := 27) (pc := 20) dX0_tuned_20 (by decide) rfl (by decide +kernel) ?_ ?_
      · refine gk_iconst (pc := 27) dX0_tuned_27 ?_
        refine gk_sub (L' := [(0, gr E v0), (2, gi v2)]) [0, 2] rfl ?_
        exact k_X0_tuned_J28 σ (f_X0_tuned_L4 σ v0 n) v0 v2 1 v1 hv0 ih
      · refine gk_iconst (pc := 23) dX0_tuned_23 ?_
        refine gk_goto (tgt := 28) (pc := 24) dX0_tuned_24 (by decide) ?_
        refine gk_sub (L' := [(0, gr E v0), (2, gi v2)]) [0, 2] rfl ?_
        exact k_X0_tuned_J28 σ (f_X0_tuned_L4 σ v0 n) v0 v2 0 v1 hv0 ih
def f_X0_tuned (r0 : Nat) (σ : gs_Mem) : Option (Int) :=
  f_X0_tuned_L4 σ r0 gs_fuel 0 0
set_option maxRecDepth 100000 in
set_option maxHeartbeats 4000000 in
theorem c_X0_tuned {E : gs_E} (r0 : Nat) (hr0 : isPl r0) (σ : gs_Mem) : gs_C E yX0_tuned cX0_tuned 3 (some .int) 0 { frames := 0, cells := 0, slots := 0, locals := 0 } [gr E r0] σ (f_X0_tuned r0 σ) (fun v : Int => (v, σ)) := by
  unfold f_X0_tuned
  refine gs_enter (L := [(0, gr E r0)]) (by decide) rfl rfl (Nat.le_of_ble_eq_true rfl) rfl ?_
  refine gk_iconst (pc := 0) dX0_tuned_0 ?_
  refine gk_istore_n (L' := [(1, gi 0), (0, gr E r0)]) (pc := 1) dX0_tuned_1 (Nat.le_of_ble_eq_true rfl) rfl ?_
  refine gk_iconst (pc := 2) dX0_tuned_2 ?_
  refine gk_istore_n (L' := [(2, gi 0), (1, gi 0), (0, gr E r0)]) (pc := 3) dX0_tuned_3 (Nat.le_of_ble_eq_true rfl) rfl ?_
  refine gk_sub (L' := [(0, gr E r0), (1, gi 0), (2, gi 0)]) [2, 1, 0] rfl ?_
  exact k_X0_tuned_L4 σ r0 hr0 gs_fuel 0 0
def f_X0_channelSum_J33 (σ : gs_Mem) (k4 : Int → Int → Option (Int)) (v0 : Nat) (v2 : Int) (t0 : Int) (t1 : Int) : Option (Int) :=
  k4 (t1 + t0) (v2 + 1)
set_option maxRecDepth 100000 in
set_option maxHeartbeats 4000000 in
theorem k_X0_channelSum_J33 {E : gs_E} (σ : gs_Mem) (k4 : Int → Int → Option (Int))  (v0 : Nat) (v2 : Int) (t0 : Int) (t1 : Int) (hv0 : isPl v0) (hk4 : ∀ (w1 : Int) (w2 : Int), gs_K E (gs_MC E yX0_channelSum cX0_channelSum 3 (some .int) 0 { frames := 0, cells := 0, slots := 0, locals := 0 }) (fun v : Int => (v, σ)) (k4 w1 w2) 4 [(0, gr E v0), (1, gi w1), (2, gi w2)] [] σ) : gs_K E (gs_MC E yX0_channelSum cX0_channelSum 3 (some .int) 0 { frames := 0, cells := 0, slots := 0, locals := 0 }) (fun v : Int => (v, σ)) (f_X0_channelSum_J33 σ k4 v0 v2 t0 t1) 33 [(0, gr E v0), (2, gi v2)] [gi t0, gi t1] σ := by
  unfold f_X0_channelSum_J33
  refine gk_iadd (pc := 33) dX0_channelSum_33 ?_
  refine gk_istore_n (L' := [(1, gi (t1 + t0)), (0, gr E v0), (2, gi v2)]) (pc := 34) dX0_channelSum_34 (Nat.le_of_ble_eq_true rfl) rfl ?_
  refine gk_iinc (L' := [(2, gi (v2 + 1)), (1, gi (t1 + t0)), (0, gr E v0)]) (pc := 35) 2 dX0_channelSum_35 rfl (Nat.le_of_ble_eq_true rfl) rfl ?_
  refine gk_goto (tgt := 4) (pc := 38) dX0_channelSum_38 (by decide) ?_
  refine gk_sub (L' := [(0, gr E v0), (1, gi (t1 + t0)), (2, gi (v2 + 1))]) [2, 1, 0] rfl ?_
  exact hk4 (t1 + t0) (v2 + 1)
def f_X0_channelSum_L4 (σ : gs_Mem) (v0 : Nat) : Nat → Int → Int → Option (Int)
  | 0, _, _ => none
  | n + 1, v1, v2 =>
    if (gn (σ v0 9)) ≤ (gn v2) then
      some v1
    else
      gs_chk (gn v2) 8 (
      if (gn (σ (v0 + 3) (gn v2).toNat)) = (-1) then
        f_X0_channelSum_J33 σ (f_X0_channelSum_L4 σ v0 n) v0 v2 0 v1
      else
        gs_chk (gn v2) 8 (
        f_X0_channelSum_J33 σ (f_X0_channelSum_L4 σ v0 n) v0 v2 (σ (v0 + 3) (gn v2).toNat) v1))
set_option maxRecDepth 100000 in
set_option maxHeartbeats 4000000 in
theorem k_X0_channelSum_L4 {E : gs_E} (σ : gs_Mem) (v0 : Nat) (hv0 : isPl v0)  : ∀ (n : Nat) (v1 : Int) (v2 : Int), gs_K E (gs_MC E yX0_channelSum cX0_channelSum 3 (some .int) 0 { frames := 0, cells := 0, slots := 0, locals := 0 }) (fun v : Int => (v, σ)) (f_X0_channelSum_L4 σ v0 n v1 v2) 4 [(0, gr E v0), (1, gi v1), (2, gi v2)] [] σ := by
  intro n
  induction n with
  | zero => intro v1 v2; rw [f_X0_channelSum_L4]; exact gk_none
  | succ n ih =>
    intro v1 v2; rw [f_X0_channelSum_L4]
    refine gk_iload_n (pc := 4) 2 dX0_channelSum_4 rfl ?_
    refine gk_aload_n (pc := 5) 0 dX0_channelSum_5 rfl ?_
    refine gk_getI (pc := 6) rfl clsX0 (pl_lt0 hv0) (pl_sh hv0) 9 (by decide) rfl ww_97 dX0_channelSum_6 ?_
    refine gk_icmp_ge (tgt := 41) (pc := 9) dX0_channelSum_9 (by decide) rfl rfl ?_ ?_
    · refine gk_iload_n (pc := 41) 1 dX0_channelSum_41 rfl ?_
      exact gk_iret (pc := 42) rfl dX0_channelSum_42
    · refine gk_iload_n (pc := 12) 1 dX0_channelSum_12 rfl ?_
      refine gk_aload_n (pc := 13) 0 dX0_channelSum_13 rfl ?_
      refine gk_getR (q := (v0 + 3)) (pc := 14) rfl clsX0 (pl_lt0 hv0) (pl_sh hv0) 2 (by decide) rfl ww_90 dX0_channelSum_14 ?_
      refine gk_iload_n (pc := 17) 2 dX0_channelSum_17 rfl ?_
      refine gk_iald_c (pc := 18) (pl_lt3 hv0) (pl_s3 hv0) rfl dX0_channelSum_18 ?_
      refine gk_iconst (pc := 19) dX0_channelSum_19 ?_
      refine gk_icmp_ne (tgt := 27) (pc := 20) dX0_channelSum_20 (by decide) rfl (by decide +kernel) ?_ ?_
      · refine gk_aload_n (pc := 27) 0 dX0_channelSum_27 rfl ?_
        refine gk_getR (q := (v0 + 3)) (pc := 28) rfl clsX0 (pl_lt0 hv0) (pl_sh hv0) 2 (by decide) rfl ww_90 dX0_channelSum_28 ?_
        refine gk_iload_n (pc := 31) 2 dX0_channelSum_31 rfl ?_
        refine gk_iald_c (pc := 32) (pl_lt3 hv0) (pl_s3 hv0) rfl dX0_channelSum_32 ?_
        refine gk_sub (L' := [(0, gr E v0), (2, gi v2)]) [0, 2] rfl ?_
        exact k_X0_channelSum_J33 σ (f_X0_channelSum_L4 σ v0 n) v0 v2 (σ (v0 + 3) (gn v2).toNat) v1 hv0 ih
      · refine gk_iconst (pc := 23) dX0_channelSum_23 ?_
        refine gk_goto (tgt := 33) (pc := 24) dX0_channelSum_24 (by decide) ?_
        refine gk_sub (L' := [(0, gr E v0), (2, gi v2)]) [0, 2] rfl ?_
        exact k_X0_channelSum_J33 σ (f_X0_channelSum_L4 σ v0 n) v0 v2 0 v1 hv0 ih
def f_X0_channelSum (r0 : Nat) (σ : gs_Mem) : Option (Int) :=
  f_X0_channelSum_L4 σ r0 gs_fuel 0 0
set_option maxRecDepth 100000 in
set_option maxHeartbeats 4000000 in
theorem c_X0_channelSum {E : gs_E} (r0 : Nat) (hr0 : isPl r0) (σ : gs_Mem) : gs_C E yX0_channelSum cX0_channelSum 3 (some .int) 0 { frames := 0, cells := 0, slots := 0, locals := 0 } [gr E r0] σ (f_X0_channelSum r0 σ) (fun v : Int => (v, σ)) := by
  unfold f_X0_channelSum
  refine gs_enter (L := [(0, gr E r0)]) (by decide) rfl rfl (Nat.le_of_ble_eq_true rfl) rfl ?_
  refine gk_iconst (pc := 0) dX0_channelSum_0 ?_
  refine gk_istore_n (L' := [(1, gi 0), (0, gr E r0)]) (pc := 1) dX0_channelSum_1 (Nat.le_of_ble_eq_true rfl) rfl ?_
  refine gk_iconst (pc := 2) dX0_channelSum_2 ?_
  refine gk_istore_n (L' := [(2, gi 0), (1, gi 0), (0, gr E r0)]) (pc := 3) dX0_channelSum_3 (Nat.le_of_ble_eq_true rfl) rfl ?_
  refine gk_sub (L' := [(0, gr E r0), (1, gi 0), (2, gi 0)]) [2, 1, 0] rfl ?_
  exact k_X0_channelSum_L4 σ r0 hr0 gs_fuel 0 0
def f_X0_fixedBits (r0 : Nat) (σ : gs_Mem) : Option (Int) :=
  some (σ r0 8)
set_option maxRecDepth 100000 in
set_option maxHeartbeats 4000000 in
theorem c_X0_fixedBits {E : gs_E} (r0 : Nat) (hr0 : isPl r0) (σ : gs_Mem) : gs_C E yX0_fixedBits cX0_fixedBits 1 (some .int) 0 { frames := 0, cells := 0, slots := 0, locals := 0 } [gr E r0] σ (f_X0_fixedBits r0 σ) (fun v : Int => (v, σ)) := by
  unfold f_X0_fixedBits
  refine gs_enter (L := [(0, gr E r0)]) (by decide) rfl rfl (Nat.le_of_ble_eq_true rfl) rfl ?_
  refine gk_aload_n (pc := 0) 0 dX0_fixedBits_0 rfl ?_
  refine gk_getI (pc := 1) rfl clsX0 (pl_lt0 hr0) (pl_sh hr0) 8 (by decide) rfl ww_96 dX0_fixedBits_1 ?_
  exact gk_iret (pc := 4) rfl dX0_fixedBits_4
def f_X0_rankedAt_J44 (σ : gs_Mem) (k13 : Int → Int → Option (Int)) (k50 : Int → Option (Int)) (v0 : Nat) (v1 : Int) (v2 : Int) (v3 : Int) (v4 : Int) : Option (Int) :=
  k13 v2 (v4 + 1)
set_option maxRecDepth 100000 in
set_option maxHeartbeats 4000000 in
theorem k_X0_rankedAt_J44 {E : gs_E} (σ : gs_Mem) (k13 : Int → Int → Option (Int)) (k50 : Int → Option (Int))  (v0 : Nat) (v1 : Int) (v2 : Int) (v3 : Int) (v4 : Int) (hv0 : isPl v0) (hk13 : ∀ (w2 : Int) (w4 : Int), gs_K E (gs_MC E yX0_rankedAt cX0_rankedAt 5 (some .int) 0 { frames := 0, cells := 0, slots := 0, locals := 0 }) (fun v : Int => (v, σ)) (k13 w2 w4) 13 [(0, gr E v0), (1, gi v1), (2, gi w2), (3, gi v3), (4, gi w4)] [] σ) (hk50 : ∀ (w2 : Int), gs_K E (gs_MC E yX0_rankedAt cX0_rankedAt 5 (some .int) 0 { frames := 0, cells := 0, slots := 0, locals := 0 }) (fun v : Int => (v, σ)) (k50 w2) 50 [(0, gr E v0), (1, gi v1), (2, gi w2), (3, gi v3)] [] σ) : gs_K E (gs_MC E yX0_rankedAt cX0_rankedAt 5 (some .int) 0 { frames := 0, cells := 0, slots := 0, locals := 0 }) (fun v : Int => (v, σ)) (f_X0_rankedAt_J44 σ k13 k50 v0 v1 v2 v3 v4) 44 [(0, gr E v0), (1, gi v1), (2, gi v2), (3, gi v3), (4, gi v4)] [] σ := by
  unfold f_X0_rankedAt_J44
  refine gk_iinc (L' := [(4, gi (v4 + 1)), (0, gr E v0), (1, gi v1), (2, gi v2), (3, gi v3)]) (pc := 44) 4 dX0_rankedAt_44 rfl (Nat.le_of_ble_eq_true rfl) rfl ?_
  refine gk_goto (tgt := 13) (pc := 47) dX0_rankedAt_47 (by decide) ?_
  refine gk_sub (L' := [(0, gr E v0), (1, gi v1), (2, gi v2), (3, gi v3), (4, gi (v4 + 1))]) [1, 2, 3, 4, 0] rfl ?_
  exact hk13 v2 (v4 + 1)
def f_X0_rankedAt_L13 (σ : gs_Mem) (v0 : Nat) (v1 : Int) (v3 : Int) (k50 : Int → Option (Int)) : Nat → Int → Int → Option (Int)
  | 0, _, _ => none
  | n + 1, v2, v4 =>
    if (gn (σ v0 9)) ≤ (gn v4) then
      k50 v2
    else
      gs_chk (gn v4) 8 (
      if (gn (σ (v0 + 3) (gn v4).toNat)) = (gn v3) then
        if (gn v2) = (gn v1) then
          some v4
        else
          f_X0_rankedAt_J44 σ (f_X0_rankedAt_L13 σ v0 v1 v3 k50 n) k50 v0 v1 (v2 + 1) v3 v4
      else
        f_X0_rankedAt_J44 σ (f_X0_rankedAt_L13 σ v0 v1 v3 k50 n) k50 v0 v1 v2 v3 v4)
set_option maxRecDepth 100000 in
set_option maxHeartbeats 4000000 in
theorem k_X0_rankedAt_L13 {E : gs_E} (σ : gs_Mem) (v0 : Nat) (v1 : Int) (v3 : Int) (k50 : Int → Option (Int)) (hv0 : isPl v0) (hk50 : ∀ (w2 : Int), gs_K E (gs_MC E yX0_rankedAt cX0_rankedAt 5 (some .int) 0 { frames := 0, cells := 0, slots := 0, locals := 0 }) (fun v : Int => (v, σ)) (k50 w2) 50 [(0, gr E v0), (1, gi v1), (2, gi w2), (3, gi v3)] [] σ) : ∀ (n : Nat) (v2 : Int) (v4 : Int), gs_K E (gs_MC E yX0_rankedAt cX0_rankedAt 5 (some .int) 0 { frames := 0, cells := 0, slots := 0, locals := 0 }) (fun v : Int => (v, σ)) (f_X0_rankedAt_L13 σ v0 v1 v3 k50 n v2 v4) 13 [(0, gr E v0), (1, gi v1), (2, gi v2), (3, gi v3), (4, gi v4)] [] σ := by
  intro n
  induction n with
  | zero => intro v2 v4; rw [f_X0_rankedAt_L13]; exact gk_none
  | succ n ih =>
    intro v2 v4; rw [f_X0_rankedAt_L13]
    refine gk_iload (pc := 13) 4 dX0_rankedAt_13 rfl ?_
    refine gk_aload_n (pc := 15) 0 dX0_rankedAt_15 rfl ?_
    refine gk_getI (pc := 16) rfl clsX0 (pl_lt0 hv0) (pl_sh hv0) 9 (by decide) rfl ww_97 dX0_rankedAt_16 ?_
    refine gk_icmp_ge (tgt := 50) (pc := 19) dX0_rankedAt_19 (by decide) rfl rfl ?_ ?_
    · refine gk_sub (L' := [(0, gr E v0), (1, gi v1), (2, gi v2), (3, gi v3)]) [0, 1, 2, 3] rfl ?_
      exact hk50 v2
    · refine gk_aload_n (pc := 22) 0 dX0_rankedAt_22 rfl ?_
      refine gk_getR (q := (v0 + 3)) (pc := 23) rfl clsX0 (pl_lt0 hv0) (pl_sh hv0) 2 (by decide) rfl ww_90 dX0_rankedAt_23 ?_
      refine gk_iload (pc := 26) 4 dX0_rankedAt_26 rfl ?_
      refine gk_iald_c (pc := 28) (pl_lt3 hv0) (pl_s3 hv0) rfl dX0_rankedAt_28 ?_
      refine gk_iload_n (pc := 29) 3 dX0_rankedAt_29 rfl ?_
      refine gk_icmp_ne (tgt := 44) (pc := 30) dX0_rankedAt_30 (by decide) rfl rfl ?_ ?_
      · exact k_X0_rankedAt_J44 σ (f_X0_rankedAt_L13 σ v0 v1 v3 k50 n) k50 v0 v1 v2 v3 v4 hv0 ih hk50
      · refine gk_iload_n (pc := 33) 2 dX0_rankedAt_33 rfl ?_
        refine gk_iload_n (pc := 34) 1 dX0_rankedAt_34 rfl ?_
        refine gk_icmp_ne (tgt := 41) (pc := 35) dX0_rankedAt_35 (by decide) rfl rfl ?_ ?_
        · refine gk_iinc (L' := [(2, gi (v2 + 1)), (0, gr E v0), (1, gi v1), (3, gi v3), (4, gi v4)]) (pc := 41) 2 dX0_rankedAt_41 rfl (Nat.le_of_ble_eq_true rfl) rfl ?_
          refine gk_sub (L' := [(0, gr E v0), (1, gi v1), (2, gi (v2 + 1)), (3, gi v3), (4, gi v4)]) [1, 2, 0, 3, 4] rfl ?_
          exact k_X0_rankedAt_J44 σ (f_X0_rankedAt_L13 σ v0 v1 v3 k50 n) k50 v0 v1 (v2 + 1) v3 v4 hv0 ih hk50
        · refine gk_iload (pc := 38) 4 dX0_rankedAt_38 rfl ?_
          exact gk_iret (pc := 40) rfl dX0_rankedAt_40
def f_X0_rankedAt_L4 (σ : gs_Mem) (v0 : Nat) (v1 : Int) : Nat → Int → Int → Option (Int)
  | 0, _, _ => none
  | n + 1, v2, v3 =>
    if 20 ≤ (gn v3) then
      some (-5)
    else
      f_X0_rankedAt_L13 σ v0 v1 v3 (fun w2 =>
        f_X0_rankedAt_L4 σ v0 v1 n w2 (v3 + 1)) gs_fuel v2 0
set_option maxRecDepth 100000 in
set_option maxHeartbeats 4000000 in
theorem k_X0_rankedAt_L4 {E : gs_E} (σ : gs_Mem) (v0 : Nat) (v1 : Int) (hv0 : isPl v0)  : ∀ (n : Nat) (v2 : Int) (v3 : Int), gs_K E (gs_MC E yX0_rankedAt cX0_rankedAt 5 (some .int) 0 { frames := 0, cells := 0, slots := 0, locals := 0 }) (fun v : Int => (v, σ)) (f_X0_rankedAt_L4 σ v0 v1 n v2 v3) 4 [(0, gr E v0), (1, gi v1), (2, gi v2), (3, gi v3)] [] σ := by
  intro n
  induction n with
  | zero => intro v2 v3; rw [f_X0_rankedAt_L4]; exact gk_none
  | succ n ih =>
    intro v2 v3; rw [f_X0_rankedAt_L4]
    refine gk_iload_n (pc := 4) 3 dX0_rankedAt_4 rfl ?_
    refine gk_bipush (pc := 5) dX0_rankedAt_5 (by decide +kernel) ?_
    refine gk_icmp_ge (tgt := 56) (pc := 7) dX0_rankedAt_7 (by decide) rfl (by decide +kernel) ?_ ?_
    · refine gk_bipush (pc := 56) dX0_rankedAt_56 (by decide +kernel) ?_
      exact gk_iret (pc := 58) rfl dX0_rankedAt_58
    · refine gk_iconst (pc := 10) dX0_rankedAt_10 ?_
      refine gk_istore (L' := [(4, gi 0), (0, gr E v0), (1, gi v1), (2, gi v2), (3, gi v3)]) (pc := 11) dX0_rankedAt_11 (Nat.le_of_ble_eq_true rfl) rfl ?_
      refine gk_sub (L' := [(0, gr E v0), (1, gi v1), (2, gi v2), (3, gi v3), (4, gi 0)]) [1, 2, 3, 4, 0] rfl ?_
      refine k_X0_rankedAt_L13 σ v0 v1 v3 _ hv0 ?_ gs_fuel v2 0
      · intro w2
        refine gk_iinc (L' := [(3, gi (v3 + 1)), (0, gr E v0), (1, gi v1), (2, gi w2)]) (pc := 50) 3 dX0_rankedAt_50 rfl (Nat.le_of_ble_eq_true rfl) rfl ?_
        refine gk_goto (tgt := 4) (pc := 53) dX0_rankedAt_53 (by decide) ?_
        refine gk_sub (L' := [(0, gr E v0), (1, gi v1), (2, gi w2), (3, gi (v3 + 1))]) [1, 2, 3, 0] rfl ?_
        exact ih w2 (v3 + 1)
def f_X0_rankedAt (r0 : Nat) (v1 : Int) (σ : gs_Mem) : Option (Int) :=
  f_X0_rankedAt_L4 σ r0 v1 gs_fuel 0 0
set_option maxRecDepth 100000 in
set_option maxHeartbeats 4000000 in
theorem c_X0_rankedAt {E : gs_E} (r0 : Nat) (v1 : Int) (hr0 : isPl r0) (σ : gs_Mem) : gs_C E yX0_rankedAt cX0_rankedAt 5 (some .int) 0 { frames := 0, cells := 0, slots := 0, locals := 0 } [gr E r0, gi v1] σ (f_X0_rankedAt r0 v1 σ) (fun v : Int => (v, σ)) := by
  unfold f_X0_rankedAt
  refine gs_enter (L := [(0, gr E r0), (1, gi v1)]) (by decide) rfl rfl (Nat.le_of_ble_eq_true rfl) rfl ?_
  refine gk_iconst (pc := 0) dX0_rankedAt_0 ?_
  refine gk_istore_n (L' := [(2, gi 0), (0, gr E r0), (1, gi v1)]) (pc := 1) dX0_rankedAt_1 (Nat.le_of_ble_eq_true rfl) rfl ?_
  refine gk_iconst (pc := 2) dX0_rankedAt_2 ?_
  refine gk_istore_n (L' := [(3, gi 0), (2, gi 0), (0, gr E r0), (1, gi v1)]) (pc := 3) dX0_rankedAt_3 (Nat.le_of_ble_eq_true rfl) rfl ?_
  refine gk_sub (L' := [(0, gr E r0), (1, gi v1), (2, gi 0), (3, gi 0)]) [2, 3, 1, 0] rfl ?_
  exact k_X0_rankedAt_L4 σ r0 v1 hr0 gs_fuel 0 0
def f_X0_tightest_J84 (σ : gs_Mem) (k10 : Int → Int → Int → Int → Option (Int)) (v0 : Nat) (v1 : Int) (v2 : Int) (v3 : Int) (v4 : Int) (v5 : Int) : Option (Int) :=
  k10 v2 v3 v4 (v5 + 1)
set_option maxRecDepth 100000 in
set_option maxHeartbeats 4000000 in
theorem k_X0_tightest_J84 {E : gs_E} (σ : gs_Mem) (k10 : Int → Int → Int → Int → Option (Int))  (v0 : Nat) (v1 : Int) (v2 : Int) (v3 : Int) (v4 : Int) (v5 : Int) (hv0 : isPl v0) (hk10 : ∀ (w2 : Int) (w3 : Int) (w4 : Int) (w5 : Int), gs_K E (gs_MC E yX0_tightest cX0_tightest 7 (some .int) 0 { frames := 1, cells := 0, slots := 0, locals := 20 }) (fun v : Int => (v, σ)) (k10 w2 w3 w4 w5) 10 [(0, gr E v0), (1, gi v1), (2, gi w2), (3, gi w3), (4, gi w4), (5, gi w5)] [] σ) : gs_K E (gs_MC E yX0_tightest cX0_tightest 7 (some .int) 0 { frames := 1, cells := 0, slots := 0, locals := 20 }) (fun v : Int => (v, σ)) (f_X0_tightest_J84 σ k10 v0 v1 v2 v3 v4 v5) 84 [(0, gr E v0), (1, gi v1), (2, gi v2), (3, gi v3), (4, gi v4), (5, gi v5)] [] σ := by
  unfold f_X0_tightest_J84
  refine gk_iinc (L' := [(5, gi (v5 + 1)), (0, gr E v0), (1, gi v1), (2, gi v2), (3, gi v3), (4, gi v4)]) (pc := 84) 5 dX0_tightest_84 rfl (Nat.le_of_ble_eq_true rfl) rfl ?_
  refine gk_goto (tgt := 10) (pc := 87) dX0_tightest_87 (by decide) ?_
  refine gk_sub (L' := [(0, gr E v0), (1, gi v1), (2, gi v2), (3, gi v3), (4, gi v4), (5, gi (v5 + 1))]) [1, 2, 3, 4, 5, 0] rfl ?_
  exact hk10 v2 v3 v4 (v5 + 1)
def f_X0_tightest_J69 (σ : gs_Mem) (k10 : Int → Int → Int → Int → Option (Int)) (v0 : Nat) (v1 : Int) (v5 : Int) (v6 : Int) : Option (Int) :=
  gs_chk (gn v5) 8 (
  f_X0_tightest_J84 σ k10 v0 v1 v5 v6 (σ (v0 + 7) (gn v5).toNat) v5)
set_option maxRecDepth 100000 in
set_option maxHeartbeats 4000000 in
theorem k_X0_tightest_J69 {E : gs_E} (σ : gs_Mem) (k10 : Int → Int → Int → Int → Option (Int))  (v0 : Nat) (v1 : Int) (v5 : Int) (v6 : Int) (hv0 : isPl v0) (hk10 : ∀ (w2 : Int) (w3 : Int) (w4 : Int) (w5 : Int), gs_K E (gs_MC E yX0_tightest cX0_tightest 7 (some .int) 0 { frames := 1, cells := 0, slots := 0, locals := 20 }) (fun v : Int => (v, σ)) (k10 w2 w3 w4 w5) 10 [(0, gr E v0), (1, gi v1), (2, gi w2), (3, gi w3), (4, gi w4), (5, gi w5)] [] σ) : gs_K E (gs_MC E yX0_tightest cX0_tightest 7 (some .int) 0 { frames := 1, cells := 0, slots := 0, locals := 20 }) (fun v : Int => (v, σ)) (f_X0_tightest_J69 σ k10 v0 v1 v5 v6) 69 [(0, gr E v0), (1, gi v1), (5, gi v5), (6, gi v6)] [] σ := by
  unfold f_X0_tightest_J69
  refine gk_iload (pc := 69) 2 dX0_tightest_69 rfl ?_
  refine gk_istore_n (L' := [(2, gi v5), (0, gr E v0), (1, gi v1), (5, gi v5), (6, gi v6)]) (pc := 71) dX0_tightest_71 (Nat.le_of_ble_eq_true rfl) rfl ?_
  refine gk_iload (pc := 72) 4 dX0_tightest_72 rfl ?_
  refine gk_istore_n (L' := [(3, gi v6), (2, gi v5), (0, gr E v0), (1, gi v1), (5, gi v5), (6, gi v6)]) (pc := 74) dX0_tightest_74 (Nat.le_of_ble_eq_true rfl) rfl ?_
  refine gk_aload_n (pc := 75) 2 dX0_tightest_75 rfl ?_
  refine gk_getR (q := (v0 + 7)) (pc := 76) rfl clsX0 (pl_lt0 hv0) (pl_sh hv0) 6 (by decide) rfl ww_94 dX0_tightest_76 ?_
  refine gk_iload (pc := 79) 4 dX0_tightest_79 rfl ?_
  refine gk_iald_c (pc := 81) (pl_lt7 hv0) (pl_s7 hv0) rfl dX0_tightest_81 ?_
  refine gk_istore (L' := [(4, gi (σ (v0 + 7) (gn v5).toNat)), (3, gi v6), (2, gi v5), (0, gr E v0), (1, gi v1), (5, gi v5), (6, gi v6)]) (pc := 82) dX0_tightest_82 (Nat.le_of_ble_eq_true rfl) rfl ?_
  refine gk_sub (L' := [(0, gr E v0), (1, gi v1), (2, gi v5), (3, gi v6), (4, gi (σ (v0 + 7) (gn v5).toNat)), (5, gi v5)]) [3, 4, 2, 1, 0, 5] rfl ?_
  exact k_X0_tightest_J84 σ k10 v0 v1 v5 v6 (σ (v0 + 7) (gn v5).toNat) v5 hv0 hk10
def f_X0_tightest_L10 (σ : gs_Mem) (v0 : Nat) (v1 : Int) : Nat → Int → Int → Int → Int → Option (Int)
  | 0, _, _, _, _ => none
  | n + 1, v2, v3, v4, v5 =>
    if (gn (σ v0 9)) ≤ (gn v5) then
      some v2
    else
      if (gand (gshr v1 v5) 1) = 1 then
        gs_chk (gn v5) 8 (
        (f_J6_bitCount_0f7a4 (σ (v0 + 8) (gn v5).toNat) σ).bind fun u1 =>
        if (gn v2) < 0 then
          f_X0_tightest_J69 σ (f_X0_tightest_L10 σ v0 v1 n) v0 v1 v5 u1
        else
          if (gn u1) < (gn v3) then
            f_X0_tightest_J69 σ (f_X0_tightest_L10 σ v0 v1 n) v0 v1 v5 u1
          else
            if (gn u1) = (gn v3) then
              gs_chk (gn v5) 8 (
              if (gn (σ (v0 + 7) (gn v5).toNat)) ≤ (gn v4) then
                f_X0_tightest_J84 σ (f_X0_tightest_L10 σ v0 v1 n) v0 v1 v2 v3 v4 v5
              else
                f_X0_tightest_J69 σ (f_X0_tightest_L10 σ v0 v1 n) v0 v1 v5 u1)
            else
              f_X0_tightest_J84 σ (f_X0_tightest_L10 σ v0 v1 n) v0 v1 v2 v3 v4 v5)
      else
        f_X0_tightest_J84 σ (f_X0_tightest_L10 σ v0 v1 n) v0 v1 v2 v3 v4 v5
set_option maxRecDepth 100000 in
set_option maxHeartbeats 4000000 in
theorem k_X0_tightest_L10 {E : gs_E} (σ : gs_Mem) (v0 : Nat) (v1 : Int) (hv0 : isPl v0)  : ∀ (n : Nat) (v2 : Int) (v3 : Int) (v4 : Int) (v5 : Int), gs_K E (gs_MC E yX0_tightest cX0_tightest 7 (some .int) 0 { frames := 1, cells := 0, slots := 0, locals := 20 }) (fun v : Int => (v, σ)) (f_X0_tightest_L10 σ v0 v1 n v2 v3 v4 v5) 10 [(0, gr E v0), (1, gi v1), (2, gi v2), (3, gi v3), (4, gi v4), (5, gi v5)] [] σ := by
  intro n
  induction n with
  | zero => intro v2 v3 v4 v5; rw [f_X0_tightest_L10]; exact gk_none
  | succ n ih =>
    intro v2 v3 v4 v5; rw [f_X0_tightest_L10]
    refine gk_iload (pc := 10) 5 dX0_tightest_10 rfl ?_
    refine gk_aload_n (pc := 12) 0 dX0_tightest_12 rfl ?_
    refine gk_getI (pc := 13) rfl clsX0 (pl_lt0 hv0) (pl_sh hv0) 9 (by decide) rfl ww_97 dX0_tightest_13 ?_
    refine gk_icmp_ge (tgt := 90) (pc := 16) dX0_tightest_16 (by decide) rfl rfl ?_ ?_
    · refine gk_iload_n (pc := 90) 2 dX0_tightest_90 rfl ?_
      exact gk_iret (pc := 91) rfl dX0_tightest_91
    · refine gk_iload_n (pc := 19) 1 dX0_tightest_19 rfl ?_
      refine gk_iload (pc := 20) 5 dX0_tightest_20 rfl ?_
      refine gk_ishr (pc := 22) dX0_tightest_22 ?_
      refine gk_iconst (pc := 23) dX0_tightest_23 ?_
      refine gk_iand (pc := 24) dX0_tightest_24 ?_
      refine gk_iconst (pc := 25) dX0_tightest_25 ?_
      refine gk_icmp_ne (tgt := 84) (pc := 26) dX0_tightest_26 (by decide) (gn_ti _) (by decide +kernel) ?_ ?_
      · exact k_X0_tightest_J84 σ (f_X0_tightest_L10 σ v0 v1 n) v0 v1 v2 v3 v4 v5 hv0 ih
      · refine gk_aload_n (pc := 29) 0 dX0_tightest_29 rfl ?_
        refine gk_getR (q := (v0 + 8)) (pc := 30) rfl clsX0 (pl_lt0 hv0) (pl_sh hv0) 7 (by decide) rfl ww_95 dX0_tightest_30 ?_
        refine gk_iload (pc := 33) 5 dX0_tightest_33 rfl ?_
        refine gk_iald_c (pc := 35) (pl_lt8 hv0) (pl_s8 hv0) rfl dX0_tightest_35 ?_
        refine gk_callS_ir (As := [gi (σ (v0 + 8) (gn v5).toNat)]) (pc := 36) (c_J6_bitCount_0f7a4 (σ (v0 + 8) (gn v5).toNat) σ) rfl mm_J6_bitCount_0f7a4 ww_461 (gs_fit_of (Nat.le_of_ble_eq_true rfl) (Nat.le_of_ble_eq_true rfl)) rfl rfl (Nat.le_of_ble_eq_true rfl) dX0_tightest_36 (fun u1 => ?_)
        refine gk_istore (L' := [(6, gi u1), (0, gr E v0), (1, gi v1), (2, gi v2), (3, gi v3), (4, gi v4), (5, gi v5)]) (pc := 39) dX0_tightest_39 (Nat.le_of_ble_eq_true rfl) rfl ?_
        refine gk_iload_n (pc := 41) 3 dX0_tightest_41 rfl ?_
        refine gk_if_lt (tgt := 69) (pc := 42) dX0_tightest_42 (by decide) rfl ?_ ?_
        · refine gk_sub (L' := [(0, gr E v0), (1, gi v1), (5, gi v5), (6, gi u1)]) [1, 2, 6, 0] rfl ?_
          exact k_X0_tightest_J69 σ (f_X0_tightest_L10 σ v0 v1 n) v0 v1 v5 u1 hv0 ih
        · refine gk_iload (pc := 45) 0 dX0_tightest_45 rfl ?_
          refine gk_iload_n (pc := 47) 4 dX0_tightest_47 rfl ?_
          refine gk_icmp_lt (tgt := 69) (pc := 48) dX0_tightest_48 (by decide) rfl rfl ?_ ?_
          · refine gk_sub (L' := [(0, gr E v0), (1, gi v1), (5, gi v5), (6, gi u1)]) [1, 2, 6, 0] rfl ?_
            exact k_X0_tightest_J69 σ (f_X0_tightest_L10 σ v0 v1 n) v0 v1 v5 u1 hv0 ih
          · refine gk_iload (pc := 51) 0 dX0_tightest_51 rfl ?_
            refine gk_iload_n (pc := 53) 4 dX0_tightest_53 rfl ?_
            refine gk_icmp_ne (tgt := 84) (pc := 54) dX0_tightest_54 (by decide) rfl rfl ?_ ?_
            · refine gk_sub (L' := [(0, gr E v0), (1, gi v1), (2, gi v2), (3, gi v3), (4, gi v4), (5, gi v5)]) [1, 2, 3, 4, 5, 6] rfl ?_
              exact k_X0_tightest_J84 σ (f_X0_tightest_L10 σ v0 v1 n) v0 v1 v2 v3 v4 v5 hv0 ih
            · refine gk_aload_n (pc := 57) 1 dX0_tightest_57 rfl ?_
              refine gk_getR (q := (v0 + 7)) (pc := 58) rfl clsX0 (pl_lt0 hv0) (pl_sh hv0) 6 (by decide) rfl ww_94 dX0_tightest_58 ?_
              refine gk_iload (pc := 61) 6 dX0_tightest_61 rfl ?_
              refine gk_iald_c (pc := 63) (pl_lt7 hv0) (pl_s7 hv0) rfl dX0_tightest_63 ?_
              refine gk_iload (pc := 64) 5 dX0_tightest_64 rfl ?_
              refine gk_icmp_le (tgt := 84) (pc := 66) dX0_tightest_66 (by decide) rfl rfl ?_ ?_
              · refine gk_sub (L' := [(0, gr E v0), (1, gi v1), (2, gi v2), (3, gi v3), (4, gi v4), (5, gi v5)]) [1, 2, 3, 4, 5, 6] rfl ?_
                exact k_X0_tightest_J84 σ (f_X0_tightest_L10 σ v0 v1 n) v0 v1 v2 v3 v4 v5 hv0 ih
              · refine gk_sub (L' := [(0, gr E v0), (1, gi v1), (5, gi v5), (6, gi u1)]) [1, 2, 6, 0] rfl ?_
                exact k_X0_tightest_J69 σ (f_X0_tightest_L10 σ v0 v1 n) v0 v1 v5 u1 hv0 ih
def f_X0_tightest (r0 : Nat) (v1 : Int) (σ : gs_Mem) : Option (Int) :=
  f_X0_tightest_L10 σ r0 v1 gs_fuel (-1) 0 0 0
set_option maxRecDepth 100000 in
set_option maxHeartbeats 4000000 in
theorem c_X0_tightest {E : gs_E} (r0 : Nat) (v1 : Int) (hr0 : isPl r0) (σ : gs_Mem) : gs_C E yX0_tightest cX0_tightest 7 (some .int) 0 { frames := 1, cells := 0, slots := 0, locals := 20 } [gr E r0, gi v1] σ (f_X0_tightest r0 v1 σ) (fun v : Int => (v, σ)) := by
  unfold f_X0_tightest
  refine gs_enter (L := [(0, gr E r0), (1, gi v1)]) (by decide) rfl rfl (Nat.le_of_ble_eq_true rfl) rfl ?_
  refine gk_iconst (pc := 0) dX0_tightest_0 ?_
  refine gk_istore_n (L' := [(2, gi (-1)), (0, gr E r0), (1, gi v1)]) (pc := 1) dX0_tightest_1 (Nat.le_of_ble_eq_true rfl) rfl ?_
  refine gk_iconst (pc := 2) dX0_tightest_2 ?_
  refine gk_istore_n (L' := [(3, gi 0), (2, gi (-1)), (0, gr E r0), (1, gi v1)]) (pc := 3) dX0_tightest_3 (Nat.le_of_ble_eq_true rfl) rfl ?_
  refine gk_iconst (pc := 4) dX0_tightest_4 ?_
  refine gk_istore (L' := [(4, gi 0), (3, gi 0), (2, gi (-1)), (0, gr E r0), (1, gi v1)]) (pc := 5) dX0_tightest_5 (Nat.le_of_ble_eq_true rfl) rfl ?_
  refine gk_iconst (pc := 7) dX0_tightest_7 ?_
  refine gk_istore (L' := [(5, gi 0), (4, gi 0), (3, gi 0), (2, gi (-1)), (0, gr E r0), (1, gi v1)]) (pc := 8) dX0_tightest_8 (Nat.le_of_ble_eq_true rfl) rfl ?_
  refine gk_sub (L' := [(0, gr E r0), (1, gi v1), (2, gi (-1)), (3, gi 0), (4, gi 0), (5, gi 0)]) [4, 5, 3, 2, 1, 0] rfl ?_
  exact k_X0_tightest_L10 σ r0 v1 hr0 gs_fuel (-1) 0 0 0
def f_X0_give_L8 (v0 : Nat) (v1 : Int) (v2 : Int) : Nat → Int → gs_Mem → Option (Int × gs_Mem)
  | 0, _, _ => none
  | n + 1, v3, σ =>
    if (gn (σ v0 9)) ≤ (gn v3) then
      some (0, σ)
    else
      gs_chk (gn v3) 8 (
      (f_X0_between v0 v1 v3 σ).bind fun u2 =>
      (f_X6_band v2 u2 σ).bind fun u3 =>
      gs_chk (gn v3) 8 (
      f_X0_give_L8 v0 v1 v2 n (v3 + 1) (gs_st σ (v0 + 8) (gn v3).toNat (gand (σ (v0 + 8) (gn v3).toNat) (gxor u3 (-1))))))
set_option maxRecDepth 100000 in
set_option maxHeartbeats 4000000 in
theorem k_X0_give_L8 {E : gs_E} (v0 : Nat) (v1 : Int) (v2 : Int) (hv0 : isPl v0)  : ∀ (n : Nat) (v3 : Int) (σ : gs_Mem), gs_K E (gs_MC E yX0_give cX0_give 4 none 2 { frames := 2, cells := 0, slots := 0, locals := 43 }) (fun b : Int × gs_Mem => b) (f_X0_give_L8 v0 v1 v2 n v3 σ) 8 [(0, gr E v0), (1, gi v1), (2, gi v2), (3, gi v3)] [] σ := by
  intro n
  induction n with
  | zero => intro v3 σ; rw [f_X0_give_L8]; exact gk_none
  | succ n ih =>
    intro v3 σ; rw [f_X0_give_L8]
    refine gk_iload_n (pc := 8) 3 dX0_give_8 rfl ?_
    refine gk_aload_n (pc := 9) 0 dX0_give_9 rfl ?_
    refine gk_getI (pc := 10) rfl clsX0 (pl_lt0 hv0) (pl_sh hv0) 9 (by decide) rfl ww_97 dX0_give_10 ?_
    refine gk_icmp_ge (tgt := 43) (pc := 13) dX0_give_13 (by decide) rfl rfl ?_ ?_
    · exact gk_vret (pc := 43) rfl dX0_give_43
    · refine gk_aload_n (pc := 16) 0 dX0_give_16 rfl ?_
      refine gk_getR (q := (v0 + 8)) (pc := 17) rfl clsX0 (pl_lt0 hv0) (pl_sh hv0) 7 (by decide) rfl ww_95 dX0_give_17 ?_
      refine gk_iload_n (pc := 20) 3 dX0_give_20 rfl ?_
      refine gk_dup2 (pc := 21) dX0_give_21 rfl rfl ?_
      refine gk_iald_c (pc := 22) (pl_lt8 hv0) (pl_s8 hv0) rfl dX0_give_22 ?_
      refine gk_iload_n (pc := 23) 2 dX0_give_23 rfl ?_
      refine gk_aload_n (pc := 24) 0 dX0_give_24 rfl ?_
      refine gk_iload_n (pc := 25) 1 dX0_give_25 rfl ?_
      refine gk_iload_n (pc := 26) 3 dX0_give_26 rfl ?_
      refine gk_callV_ir (As := [gi v1, gi v3]) (pc := 27) (c_X0_between v0 v1 v3 hv0 σ) rfl mm_X0_between ww_414 clsX0 rfl (pl_lt0 hv0) (pl_sh hv0) (gs_fit_of (Nat.le_of_ble_eq_true rfl) (Nat.le_of_ble_eq_true rfl)) rfl rfl (Nat.le_of_ble_eq_true rfl) dX0_give_27 (fun u2 => ?_)
      refine gk_callSN_ir (As := [gi v2, gi u2]) (pc := 30) (c_X6_band v2 u2 σ) rfl mm_X6_band ww_418 (gs_fit_of (Nat.le_of_ble_eq_true rfl) (Nat.le_of_ble_eq_true rfl)) rfl rfl (Nat.le_of_ble_eq_true rfl) dX0_give_30 (fun u3 => ?_)
      refine gk_iconst (pc := 33) dX0_give_33 ?_
      refine gk_ixor (pc := 34) dX0_give_34 ?_
      refine gk_iand (pc := 35) dX0_give_35 ?_
      refine gk_iast_c (pc := 36) (pl_lt8 hv0) (pl_s8 hv0) rfl dX0_give_36 ?_
      refine gk_iinc (L' := [(3, gi (v3 + 1)), (0, gr E v0), (1, gi v1), (2, gi v2)]) (pc := 37) 3 dX0_give_37 rfl (Nat.le_of_ble_eq_true rfl) rfl ?_
      refine gk_goto (tgt := 8) (pc := 40) dX0_give_40 (by decide) ?_
      refine gk_sub (L' := [(0, gr E v0), (1, gi v1), (2, gi v2), (3, gi (v3 + 1))]) [1, 2, 3, 0] rfl ?_
      exact ih (v3 + 1) (gs_st σ (v0 + 8) (gn v3).toNat (gand (σ (v0 + 8) (gn v3).toNat) (gxor u3 (-1))))
def f_X0_give (r0 : Nat) (v1 : Int) (v2 : Int) (σ : gs_Mem) : Option (Int × gs_Mem) :=
  (f_X0_tune r0 v1 v2 σ).bind fun b1 =>
  f_X0_give_L8 r0 v1 v2 gs_fuel 0 b1.2
set_option maxRecDepth 100000 in
set_option maxHeartbeats 4000000 in
theorem c_X0_give {E : gs_E} (r0 : Nat) (v1 : Int) (v2 : Int) (hr0 : isPl r0) (σ : gs_Mem) : gs_C E yX0_give cX0_give 4 none 2 { frames := 2, cells := 0, slots := 0, locals := 43 } [gr E r0, gi v1, gi v2] σ (f_X0_give r0 v1 v2 σ) (fun b : Int × gs_Mem => b) := by
  unfold f_X0_give
  refine gs_enter (L := [(0, gr E r0), (1, gi v1), (2, gi v2)]) (by decide) rfl rfl (Nat.le_of_ble_eq_true rfl) rfl ?_
  refine gk_aload_n (pc := 0) 0 dX0_give_0 rfl ?_
  refine gk_iload_n (pc := 1) 1 dX0_give_1 rfl ?_
  refine gk_iload_n (pc := 2) 2 dX0_give_2 rfl ?_
  refine gk_callV_vw (As := [gi v1, gi v2]) (pc := 3) (c_X0_tune r0 v1 v2 hr0 σ) rfl mm_X0_tune ww_467 clsX0 rfl (pl_lt0 hr0) (pl_sh hr0) (gs_fit_of (Nat.le_of_ble_eq_true rfl) (Nat.le_of_ble_eq_true rfl)) rfl rfl (Nat.le_of_ble_eq_true rfl) dX0_give_3 (fun b1 => ?_)
  refine gk_iconst (pc := 6) dX0_give_6 ?_
  refine gk_istore_n (L' := [(3, gi 0), (0, gr E r0), (1, gi v1), (2, gi v2)]) (pc := 7) dX0_give_7 (Nat.le_of_ble_eq_true rfl) rfl ?_
  refine gk_sub (L' := [(0, gr E r0), (1, gi v1), (2, gi v2), (3, gi 0)]) [1, 2, 3, 0] rfl ?_
  exact k_X0_give_L8 r0 v1 v2 hr0 gs_fuel 0 b1.2
def f_X0_tuneAll_J33 (k4 : Int → Int → gs_Mem → Option (Int × gs_Mem)) (k39 : Int → gs_Mem → Option (Int × gs_Mem)) (v0 : Nat) (v1 : Int) (v2 : Int) (σ : gs_Mem) : Option (Int × gs_Mem) :=
  k4 v1 (v2 + 1) σ
set_option maxRecDepth 100000 in
set_option maxHeartbeats 4000000 in
theorem k_X0_tuneAll_J33 {E : gs_E} (k4 : Int → Int → gs_Mem → Option (Int × gs_Mem)) (k39 : Int → gs_Mem → Option (Int × gs_Mem))  (v0 : Nat) (v1 : Int) (v2 : Int) (hv0 : isPl v0) (hk4 : ∀ (w1 : Int) (w2 : Int) (σ : gs_Mem), gs_K E (gs_MC E yX0_tuneAll cX0_tuneAll 5 (some .int) 0 { frames := 3, cells := 0, slots := 0, locals := 66 }) (fun b : Int × gs_Mem => b) (k4 w1 w2 σ) 4 [(0, gr E v0), (1, gi w1), (2, gi w2)] [] σ) (hk39 : ∀ (w1 : Int) (σ : gs_Mem), gs_K E (gs_MC E yX0_tuneAll cX0_tuneAll 5 (some .int) 0 { frames := 3, cells := 0, slots := 0, locals := 66 }) (fun b : Int × gs_Mem => b) (k39 w1 σ) 39 [(0, gr E v0), (1, gi w1)] [] σ) (σ : gs_Mem) : gs_K E (gs_MC E yX0_tuneAll cX0_tuneAll 5 (some .int) 0 { frames := 3, cells := 0, slots := 0, locals := 66 }) (fun b : Int × gs_Mem => b) (f_X0_tuneAll_J33 k4 k39 v0 v1 v2 σ) 33 [(0, gr E v0), (1, gi v1), (2, gi v2)] [] σ := by
  unfold f_X0_tuneAll_J33
  refine gk_iinc (L' := [(2, gi (v2 + 1)), (0, gr E v0), (1, gi v1)]) (pc := 33) 2 dX0_tuneAll_33 rfl (Nat.le_of_ble_eq_true rfl) rfl ?_
  refine gk_goto (tgt := 4) (pc := 36) dX0_tuneAll_36 (by decide) ?_
  refine gk_sub (L' := [(0, gr E v0), (1, gi v1), (2, gi (v2 + 1))]) [1, 2, 0] rfl ?_
  exact hk4 v1 (v2 + 1) σ
def f_X0_tuneAll_L4 (v0 : Nat) (k39 : Int → gs_Mem → Option (Int × gs_Mem)) : Nat → Int → Int → gs_Mem → Option (Int × gs_Mem)
  | 0, _, _, _ => none
  | n + 1, v1, v2, σ =>
    if (gn (σ v0 9)) ≤ (gn v2) then
      k39 v1 σ
    else
      (f_X0_isFixed v0 v2 σ).bind fun u1 =>
      if (gn u1) = 0 then
        gs_chk (gn v2) 8 (
        f_X0_tuneAll_J33 (f_X0_tuneAll_L4 v0 k39 n) k39 v0 (gor v1 (gshl 1 v2)) v2 (gs_st σ (v0 + 3) (gn v2).toNat (-1)))
      else
        f_X0_tuneAll_J33 (f_X0_tuneAll_L4 v0 k39 n) k39 v0 v1 v2 σ
set_option maxRecDepth 100000 in
set_option maxHeartbeats 4000000 in
theorem k_X0_tuneAll_L4 {E : gs_E} (v0 : Nat) (k39 : Int → gs_Mem → Option (Int × gs_Mem)) (hv0 : isPl v0) (hk39 : ∀ (w1 : Int) (σ : gs_Mem), gs_K E (gs_MC E yX0_tuneAll cX0_tuneAll 5 (some .int) 0 { frames := 3, cells := 0, slots := 0, locals := 66 }) (fun b : Int × gs_Mem => b) (k39 w1 σ) 39 [(0, gr E v0), (1, gi w1)] [] σ) : ∀ (n : Nat) (v1 : Int) (v2 : Int) (σ : gs_Mem), gs_K E (gs_MC E yX0_tuneAll cX0_tuneAll 5 (some .int) 0 { frames := 3, cells := 0, slots := 0, locals := 66 }) (fun b : Int × gs_Mem => b) (f_X0_tuneAll_L4 v0 k39 n v1 v2 σ) 4 [(0, gr E v0), (1, gi v1), (2, gi v2)] [] σ := by
  intro n
  induction n with
  | zero => intro v1 v2 σ; rw [f_X0_tuneAll_L4]; exact gk_none
  | succ n ih =>
    intro v1 v2 σ; rw [f_X0_tuneAll_L4]
    refine gk_iload_n (pc := 4) 2 dX0_tuneAll_4 rfl ?_
    refine gk_aload_n (pc := 5) 0 dX0_tuneAll_5 rfl ?_
    refine gk_getI (pc := 6) rfl clsX0 (pl_lt0 hv0) (pl_sh hv0) 9 (by decide) rfl ww_97 dX0_tuneAll_6 ?_
    refine gk_icmp_ge (tgt := 39) (pc := 9) dX0_tuneAll_9 (by decide) rfl rfl ?_ ?_
    · refine gk_sub (L' := [(0, gr E v0), (1, gi v1)]) [0, 1] rfl ?_
      exact hk39 v1 σ
    · refine gk_aload_n (pc := 12) 0 dX0_tuneAll_12 rfl ?_
      refine gk_iload_n (pc := 13) 2 dX0_tuneAll_13 rfl ?_
      refine gk_callV_ir (As := [gi v2]) (pc := 14) (c_X0_isFixed v0 v2 hv0 σ) rfl mm_X0_isFixed ww_455 clsX0 rfl (pl_lt0 hv0) (pl_sh hv0) (gs_fit_of (Nat.le_of_ble_eq_true rfl) (Nat.le_of_ble_eq_true rfl)) rfl rfl (Nat.le_of_ble_eq_true rfl) dX0_tuneAll_14 (fun u1 => ?_)
      refine gk_if_ne (tgt := 33) (pc := 17) dX0_tuneAll_17 (by decide) rfl ?_ ?_
      · exact k_X0_tuneAll_J33 (f_X0_tuneAll_L4 v0 k39 n) k39 v0 v1 v2 hv0 ih hk39 σ
      · refine gk_aload_n (pc := 20) 0 dX0_tuneAll_20 rfl ?_
        refine gk_getR (q := (v0 + 3)) (pc := 21) rfl clsX0 (pl_lt0 hv0) (pl_sh hv0) 2 (by decide) rfl ww_90 dX0_tuneAll_21 ?_
        refine gk_iload_n (pc := 24) 2 dX0_tuneAll_24 rfl ?_
        refine gk_iconst (pc := 25) dX0_tuneAll_25 ?_
        refine gk_iast_c (pc := 26) (pl_lt3 hv0) (pl_s3 hv0) rfl dX0_tuneAll_26 ?_
        refine gk_iload_n (pc := 27) 1 dX0_tuneAll_27 rfl ?_
        refine gk_iconst (pc := 28) dX0_tuneAll_28 ?_
        refine gk_iload_n (pc := 29) 2 dX0_tuneAll_29 rfl ?_
        refine gk_ishl (pc := 30) dX0_tuneAll_30 ?_
        refine gk_ior (pc := 31) dX0_tuneAll_31 ?_
        refine gk_istore_n (L' := [(1, gi (gor v1 (gshl 1 v2))), (0, gr E v0), (2, gi v2)]) (pc := 32) dX0_tuneAll_32 (Nat.le_of_ble_eq_true rfl) rfl ?_
        refine gk_sub (L' := [(0, gr E v0), (1, gi (gor v1 (gshl 1 v2))), (2, gi v2)]) [1, 0, 2] rfl ?_
        exact k_X0_tuneAll_J33 (f_X0_tuneAll_L4 v0 k39 n) k39 v0 (gor v1 (gshl 1 v2)) v2 hv0 ih hk39 (gs_st σ (v0 + 3) (gn v2).toNat (-1))
def f_X0_tuneAll_L41 (v0 : Nat) (v1 : Int) (k66 : gs_Mem → Option (Int × gs_Mem)) : Nat → Int → gs_Mem → Option (Int × gs_Mem)
  | 0, _, _ => none
  | n + 1, v2, σ =>
    if (gn (σ v0 9)) ≤ (gn v2) then
      k66 σ
    else
      (f_X0_allowedFor v0 v2 σ).bind fun u3 =>
      gs_chk (gn v2) 8 (
      f_X0_tuneAll_L41 v0 v1 k66 n (v2 + 1) (gs_st σ (v0 + 8) (gn v2).toNat u3))
set_option maxRecDepth 100000 in
set_option maxHeartbeats 4000000 in
theorem k_X0_tuneAll_L41 {E : gs_E} (v0 : Nat) (v1 : Int) (k66 : gs_Mem → Option (Int × gs_Mem)) (hv0 : isPl v0) (hk66 : ∀ (σ : gs_Mem), gs_K E (gs_MC E yX0_tuneAll cX0_tuneAll 5 (some .int) 0 { frames := 3, cells := 0, slots := 0, locals := 66 }) (fun b : Int × gs_Mem => b) (k66 σ) 66 [(0, gr E v0), (1, gi v1)] [] σ) : ∀ (n : Nat) (v2 : Int) (σ : gs_Mem), gs_K E (gs_MC E yX0_tuneAll cX0_tuneAll 5 (some .int) 0 { frames := 3, cells := 0, slots := 0, locals := 66 }) (fun b : Int × gs_Mem => b) (f_X0_tuneAll_L41 v0 v1 k66 n v2 σ) 41 [(0, gr E v0), (1, gi v1), (2, gi v2)] [] σ := by
  intro n
  induction n with
  | zero => intro v2 σ; rw [f_X0_tuneAll_L41]; exact gk_none
  | succ n ih =>
    intro v2 σ; rw [f_X0_tuneAll_L41]
    refine gk_iload_n (pc := 41) 2 dX0_tuneAll_41 rfl ?_
    refine gk_aload_n (pc := 42) 0 dX0_tuneAll_42 rfl ?_
    refine gk_getI (pc := 43) rfl clsX0 (pl_lt0 hv0) (pl_sh hv0) 9 (by decide) rfl ww_97 dX0_tuneAll_43 ?_
    refine gk_icmp_ge (tgt := 66) (pc := 46) dX0_tuneAll_46 (by decide) rfl rfl ?_ ?_
    · refine gk_sub (L' := [(0, gr E v0), (1, gi v1)]) [0, 1] rfl ?_
      exact hk66 σ
    · refine gk_aload_n (pc := 49) 0 dX0_tuneAll_49 rfl ?_
      refine gk_getR (q := (v0 + 8)) (pc := 50) rfl clsX0 (pl_lt0 hv0) (pl_sh hv0) 7 (by decide) rfl ww_95 dX0_tuneAll_50 ?_
      refine gk_iload_n (pc := 53) 2 dX0_tuneAll_53 rfl ?_
      refine gk_aload_n (pc := 54) 0 dX0_tuneAll_54 rfl ?_
      refine gk_iload_n (pc := 55) 2 dX0_tuneAll_55 rfl ?_
      refine gk_callV_ir (As := [gi v2]) (pc := 56) (c_X0_allowedFor v0 v2 hv0 σ) rfl mm_X0_allowedFor ww_456 clsX0 rfl (pl_lt0 hv0) (pl_sh hv0) (gs_fit_of (Nat.le_of_ble_eq_true rfl) (Nat.le_of_ble_eq_true rfl)) rfl rfl (Nat.le_of_ble_eq_true rfl) dX0_tuneAll_56 (fun u3 => ?_)
      refine gk_iast_c (pc := 59) (pl_lt8 hv0) (pl_s8 hv0) rfl dX0_tuneAll_59 ?_
      refine gk_iinc (L' := [(2, gi (v2 + 1)), (0, gr E v0), (1, gi v1)]) (pc := 60) 2 dX0_tuneAll_60 rfl (Nat.le_of_ble_eq_true rfl) rfl ?_
      refine gk_goto (tgt := 41) (pc := 63) dX0_tuneAll_63 (by decide) ?_
      refine gk_sub (L' := [(0, gr E v0), (1, gi v1), (2, gi (v2 + 1))]) [1, 2, 0] rfl ?_
      exact ih (v2 + 1) (gs_st σ (v0 + 8) (gn v2).toNat u3)
def f_X0_tuneAll_J137 (k70 : Int → Int → Int → gs_Mem → Option (Int × gs_Mem)) (v0 : Nat) (v1 : Int) (v2 : Int) (v3 : Int) (σ : gs_Mem) : Option (Int × gs_Mem) :=
  k70 v1 v2 (v3 + 1) σ
set_option maxRecDepth 100000 in
set_option maxHeartbeats 4000000 in
theorem k_X0_tuneAll_J137 {E : gs_E} (k70 : Int → Int → Int → gs_Mem → Option (Int × gs_Mem))  (v0 : Nat) (v1 : Int) (v2 : Int) (v3 : Int) (hv0 : isPl v0) (hk70 : ∀ (w1 : Int) (w2 : Int) (w3 : Int) (σ : gs_Mem), gs_K E (gs_MC E yX0_tuneAll cX0_tuneAll 5 (some .int) 0 { frames := 3, cells := 0, slots := 0, locals := 66 }) (fun b : Int × gs_Mem => b) (k70 w1 w2 w3 σ) 70 [(0, gr E v0), (1, gi w1), (2, gi w2), (3, gi w3)] [] σ) (σ : gs_Mem) : gs_K E (gs_MC E yX0_tuneAll cX0_tuneAll 5 (some .int) 0 { frames := 3, cells := 0, slots := 0, locals := 66 }) (fun b : Int × gs_Mem => b) (f_X0_tuneAll_J137 k70 v0 v1 v2 v3 σ) 137 [(0, gr E v0), (1, gi v1), (2, gi v2), (3, gi v3)] [] σ := by
  unfold f_X0_tuneAll_J137
  refine gk_iinc (L' := [(3, gi (v3 + 1)), (0, gr E v0), (1, gi v1), (2, gi v2)]) (pc := 137) 3 dX0_tuneAll_137 rfl (Nat.le_of_ble_eq_true rfl) rfl ?_
  refine gk_goto (tgt := 70) (pc := 140) dX0_tuneAll_140 (by decide) ?_
  refine gk_sub (L' := [(0, gr E v0), (1, gi v1), (2, gi v2), (3, gi (v3 + 1))]) [1, 2, 3, 0] rfl ?_
  exact hk70 v1 v2 (v3 + 1) σ
def f_X0_tuneAll_L70 (v0 : Nat) : Nat → Int → Int → Int → gs_Mem → Option (Int × gs_Mem)
  | 0, _, _, _, _ => none
  | n + 1, v1, v2, v3, σ =>
    if (gn (σ v0 9)) ≤ (gn v3) then
      some (v2, σ)
    else
      if (gn v1) = 0 then
        some (v2, σ)
      else
        (f_X0_tightest v0 v1 σ).bind fun u5 =>
        if 0 ≤ (gn u5) then
          gs_chk (gn u5) 8 (
          if (gn (σ (v0 + 8) (gn u5).toNat)) = 0 then
            f_X0_tuneAll_J137 (f_X0_tuneAll_L70 v0 n) v0 (gand v1 (gxor (gshl 1 u5) (-1))) (v2 + 1) v3 σ
          else
            gs_chk (gn u5) 8 (
            (f_X6_leastOf (σ (v0 + 8) (gn u5).toNat) σ).bind fun u6 =>
            (f_X0_give v0 u5 u6 σ).bind fun b7 =>
            f_X0_tuneAll_J137 (f_X0_tuneAll_L70 v0 n) v0 (gand v1 (gxor (gshl 1 u5) (-1))) v2 v3 b7.2))
        else
          some (v2, σ)
set_option maxRecDepth 100000 in
set_option maxHeartbeats 4000000 in
theorem k_X0_tuneAll_L70 {E : gs_E} (v0 : Nat) (hv0 : isPl v0)  : ∀ (n : Nat) (v1 : Int) (v2 : Int) (v3 : Int) (σ : gs_Mem), gs_K E (gs_MC E yX0_tuneAll cX0_tuneAll 5 (some .int) 0 { frames := 3, cells := 0, slots := 0, locals := 66 }) (fun b : Int × gs_Mem => b) (f_X0_tuneAll_L70 v0 n v1 v2 v3 σ) 70 [(0, gr E v0), (1, gi v1), (2, gi v2), (3, gi v3)] [] σ := by
  intro n
  induction n with
  | zero => intro v1 v2 v3 σ; rw [f_X0_tuneAll_L70]; exact gk_none
  | succ n ih =>
    intro v1 v2 v3 σ; rw [f_X0_tuneAll_L70]
    refine gk_iload_n (pc := 70) 3 dX0_tuneAll_70 rfl ?_
    refine gk_aload_n (pc := 71) 0 dX0_tuneAll_71 rfl ?_
    refine gk_getI (pc := 72) rfl clsX0 (pl_lt0 hv0) (pl_sh hv0) 9 (by decide) rfl ww_97 dX0_tuneAll_72 ?_
    refine gk_icmp_ge (tgt := 143) (pc := 75) dX0_tuneAll_75 (by decide) rfl rfl ?_ ?_
    · refine gk_iload_n (pc := 143) 2 dX0_tuneAll_143 rfl ?_
      exact gk_iret (pc := 144) rfl dX0_tuneAll_144
    · refine gk_iload_n (pc := 78) 1 dX0_tuneAll_78 rfl ?_
      refine gk_if_eq (tgt := 143) (pc := 79) dX0_tuneAll_79 (by decide) rfl ?_ ?_
      · refine gk_iload_n (pc := 143) 2 dX0_tuneAll_143 rfl ?_
        exact gk_iret (pc := 144) rfl dX0_tuneAll_144
      · refine gk_aload_n (pc := 82) 0 dX0_tuneAll_82 rfl ?_
        refine gk_iload_n (pc := 83) 1 dX0_tuneAll_83 rfl ?_
        refine gk_callV_ir (As := [gi v1]) (pc := 84) (c_X0_tightest v0 v1 hv0 σ) rfl mm_X0_tightest ww_457 clsX0 rfl (pl_lt0 hv0) (pl_sh hv0) (gs_fit_of (Nat.le_of_ble_eq_true rfl) (Nat.le_of_ble_eq_true rfl)) rfl rfl (Nat.le_of_ble_eq_true rfl) dX0_tuneAll_84 (fun u5 => ?_)
        refine gk_istore (L' := [(4, gi u5), (0, gr E v0), (1, gi v1), (2, gi v2), (3, gi v3)]) (pc := 87) dX0_tuneAll_87 (Nat.le_of_ble_eq_true rfl) rfl ?_
        refine gk_iload (pc := 89) 0 dX0_tuneAll_89 rfl ?_
        refine gk_if_ge (tgt := 96) (pc := 91) dX0_tuneAll_91 (by decide) rfl ?_ ?_
        · refine gk_iload_n (pc := 96) 2 dX0_tuneAll_96 rfl ?_
          refine gk_iconst (pc := 97) dX0_tuneAll_97 ?_
          refine gk_iload (pc := 98) 0 dX0_tuneAll_98 rfl ?_
          refine gk_ishl (pc := 100) dX0_tuneAll_100 ?_
          refine gk_iconst (pc := 101) dX0_tuneAll_101 ?_
          refine gk_ixor (pc := 102) dX0_tuneAll_102 ?_
          refine gk_iand (pc := 103) dX0_tuneAll_103 ?_
          refine gk_istore_n (L' := [(1, gi (gand v1 (gxor (gshl 1 u5) (-1)))), (4, gi u5), (0, gr E v0), (2, gi v2), (3, gi v3)]) (pc := 104) dX0_tuneAll_104 (Nat.le_of_ble_eq_true rfl) rfl ?_
          refine gk_aload_n (pc := 105) 2 dX0_tuneAll_105 rfl ?_
          refine gk_getR (q := (v0 + 8)) (pc := 106) rfl clsX0 (pl_lt0 hv0) (pl_sh hv0) 7 (by decide) rfl ww_95 dX0_tuneAll_106 ?_
          refine gk_iload (pc := 109) 1 dX0_tuneAll_109 rfl ?_
          refine gk_iald_c (pc := 111) (pl_lt8 hv0) (pl_s8 hv0) rfl dX0_tuneAll_111 ?_
          refine gk_if_ne (tgt := 121) (pc := 112) dX0_tuneAll_112 (by decide) rfl ?_ ?_
          · refine gk_aload_n (pc := 121) 2 dX0_tuneAll_121 rfl ?_
            refine gk_iload (pc := 122) 1 dX0_tuneAll_122 rfl ?_
            refine gk_aload_n (pc := 124) 2 dX0_tuneAll_124 rfl ?_
            refine gk_getR (q := (v0 + 8)) (pc := 125) rfl clsX0 (pl_lt0 hv0) (pl_sh hv0) 7 (by decide) rfl ww_95 dX0_tuneAll_125 ?_
            refine gk_iload (pc := 128) 1 dX0_tuneAll_128 rfl ?_
            refine gk_iald_c (pc := 130) (pl_lt8 hv0) (pl_s8 hv0) rfl dX0_tuneAll_130 ?_
            refine gk_callSN_ir (As := [gi (σ (v0 + 8) (gn u5).toNat)]) (pc := 131) (c_X6_leastOf (σ (v0 + 8) (gn u5).toNat) σ) rfl mm_X6_leastOf ww_462 (gs_fit_of (Nat.le_of_ble_eq_true rfl) (Nat.le_of_ble_eq_true rfl)) rfl rfl (Nat.le_of_ble_eq_true rfl) dX0_tuneAll_131 (fun u6 => ?_)
            refine gk_callV_vw (As := [gi u5, gi u6]) (pc := 134) (c_X0_give v0 u5 u6 hv0 σ) rfl mm_X0_give ww_463 clsX0 rfl (pl_lt0 hv0) (pl_sh hv0) (gs_fit_of (Nat.le_of_ble_eq_true rfl) (Nat.le_of_ble_eq_true rfl)) rfl rfl (Nat.le_of_ble_eq_true rfl) dX0_tuneAll_134 (fun b7 => ?_)
            refine gk_sub (L' := [(0, gr E v0), (1, gi (gand v1 (gxor (gshl 1 u5) (-1)))), (2, gi v2), (3, gi v3)]) [2, 0, 3, 4] rfl ?_
            exact k_X0_tuneAll_J137 (f_X0_tuneAll_L70 v0 n) v0 (gand v1 (gxor (gshl 1 u5) (-1))) v2 v3 hv0 ih b7.2
          · refine gk_iinc (L' := [(2, gi (v2 + 1)), (1, gi (gand v1 (gxor (gshl 1 u5) (-1)))), (4, gi u5), (0, gr E v0), (3, gi v3)]) (pc := 115) 3 dX0_tuneAll_115 rfl (Nat.le_of_ble_eq_true rfl) rfl ?_
            refine gk_goto (tgt := 137) (pc := 118) dX0_tuneAll_118 (by decide) ?_
            refine gk_sub (L' := [(0, gr E v0), (1, gi (gand v1 (gxor (gshl 1 u5) (-1)))), (2, gi (v2 + 1)), (3, gi v3)]) [3, 1, 0, 4] rfl ?_
            exact k_X0_tuneAll_J137 (f_X0_tuneAll_L70 v0 n) v0 (gand v1 (gxor (gshl 1 u5) (-1))) (v2 + 1) v3 hv0 ih σ
        · refine gk_iload_n (pc := 94) 3 dX0_tuneAll_94 rfl ?_
          exact gk_iret (pc := 95) rfl dX0_tuneAll_95
def f_X0_tuneAll (r0 : Nat) (σ : gs_Mem) : Option (Int × gs_Mem) :=
  f_X0_tuneAll_L4 r0 (fun w1 σ2 =>
    f_X0_tuneAll_L41 r0 w1 (fun σ4 =>
      f_X0_tuneAll_L70 r0 gs_fuel w1 0 0 σ4) gs_fuel 0 σ2) gs_fuel 0 0 σ
set_option maxRecDepth 100000 in
set_option maxHeartbeats 4000000 in
theorem c_X0_tuneAll {E : gs_E} (r0 : Nat) (hr0 : isPl r0) (σ : gs_Mem) : gs_C E yX0_tuneAll cX0_tuneAll 5 (some .int) 0 { frames := 3, cells := 0, slots := 0, locals := 66 } [gr E r0] σ (f_X0_tuneAll r0 σ) (fun b : Int × gs_Mem => b) := by
  unfold f_X0_tuneAll
  refine gs_enter (L := [(0, gr E r0)]) (by decide) rfl rfl (Nat.le_of_ble_eq_true rfl) rfl ?_
  refine gk_iconst (pc := 0) dX0_tuneAll_0 ?_
  refine gk_istore_n (L' := [(1, gi 0), (0, gr E r0)]) (pc := 1) dX0_tuneAll_1 (Nat.le_of_ble_eq_true rfl) rfl ?_
  refine gk_iconst (pc := 2) dX0_tuneAll_2 ?_
  refine gk_istore_n (L' := [(2, gi 0), (1, gi 0), (0, gr E r0)]) (pc := 3) dX0_tuneAll_3 (Nat.le_of_ble_eq_true rfl) rfl ?_
  refine gk_sub (L' := [(0, gr E r0), (1, gi 0), (2, gi 0)]) [2, 1, 0] rfl ?_
  refine k_X0_tuneAll_L4 r0 _ hr0 ?_ gs_fuel 0 0 σ
  · intro w1 σ2
    refine gk_iconst (pc := 39) dX0_tuneAll_39 ?_
    refine gk_istore_n (L' := [(2, gi 0), (0, gr E r0), (1, gi w1)]) (pc := 40) dX0_tuneAll_40 (Nat.le_of_ble_eq_true rfl) rfl ?_
    refine gk_sub (L' := [(0, gr E r0), (1, gi w1), (2, gi 0)]) [1, 2, 0] rfl ?_
    refine k_X0_tuneAll_L41 r0 w1 _ hr0 ?_ gs_fuel 0 σ2
    · intro σ4
      refine gk_iconst (pc := 66) dX0_tuneAll_66 ?_
      refine gk_istore_n (L' := [(2, gi 0), (0, gr E r0), (1, gi w1)]) (pc := 67) dX0_tuneAll_67 (Nat.le_of_ble_eq_true rfl) rfl ?_
      refine gk_iconst (pc := 68) dX0_tuneAll_68 ?_
      refine gk_istore_n (L' := [(3, gi 0), (2, gi 0), (0, gr E r0), (1, gi w1)]) (pc := 69) dX0_tuneAll_69 (Nat.le_of_ble_eq_true rfl) rfl ?_
      refine gk_sub (L' := [(0, gr E r0), (1, gi w1), (2, gi 0), (3, gi 0)]) [2, 3, 1, 0] rfl ?_
      exact k_X0_tuneAll_L70 r0 hr0 gs_fuel w1 0 0 σ4
def f_X0_neighboursOn_J42 (σ : gs_Mem) (k5 : Int → Int → Option (Int)) (v0 : Nat) (v1 : Int) (v2 : Int) (v3 : Int) (v4 : Int) : Option (Int) :=
  k5 v3 (v4 + 1)
set_option maxRecDepth 100000 in
set_option maxHeartbeats 4000000 in
theorem k_X0_neighboursOn_J42 {E : gs_E} (σ : gs_Mem) (k5 : Int → Int → Option (Int))  (v0 : Nat) (v1 : Int) (v2 : Int) (v3 : Int) (v4 : Int) (hv0 : isPl v0) (hk5 : ∀ (w3 : Int) (w4 : Int), gs_K E (gs_MC E yX0_neighboursOn cX0_neighboursOn 5 (some .int) 0 { frames := 1, cells := 0, slots := 0, locals := 22 }) (fun v : Int => (v, σ)) (k5 w3 w4) 5 [(0, gr E v0), (1, gi v1), (2, gi v2), (3, gi w3), (4, gi w4)] [] σ) : gs_K E (gs_MC E yX0_neighboursOn cX0_neighboursOn 5 (some .int) 0 { frames := 1, cells := 0, slots := 0, locals := 22 }) (fun v : Int => (v, σ)) (f_X0_neighboursOn_J42 σ k5 v0 v1 v2 v3 v4) 42 [(0, gr E v0), (1, gi v1), (2, gi v2), (3, gi v3), (4, gi v4)] [] σ := by
  unfold f_X0_neighboursOn_J42
  refine gk_iinc (L' := [(4, gi (v4 + 1)), (0, gr E v0), (1, gi v1), (2, gi v2), (3, gi v3)]) (pc := 42) 4 dX0_neighboursOn_42 rfl (Nat.le_of_ble_eq_true rfl) rfl ?_
  refine gk_goto (tgt := 5) (pc := 45) dX0_neighboursOn_45 (by decide) ?_
  refine gk_sub (L' := [(0, gr E v0), (1, gi v1), (2, gi v2), (3, gi v3), (4, gi (v4 + 1))]) [1, 2, 3, 4, 0] rfl ?_
  exact hk5 v3 (v4 + 1)
def f_X0_neighboursOn_L5 (σ : gs_Mem) (v0 : Nat) (v1 : Int) (v2 : Int) : Nat → Int → Int → Option (Int)
  | 0, _, _ => none
  | n + 1, v3, v4 =>
    if (gn (σ v0 9)) ≤ (gn v4) then
      some v3
    else
      gs_chk (gn v4) 8 (
      if (gn (σ (v0 + 3) (gn v4).toNat)) = (gn v2) then
        (f_X0_between v0 v1 v4 σ).bind fun u1 =>
        if (gn u1) ≤ 0 then
          f_X0_neighboursOn_J42 σ (f_X0_neighboursOn_L5 σ v0 v1 v2 n) v0 v1 v2 v3 v4
        else
          f_X0_neighboursOn_J42 σ (f_X0_neighboursOn_L5 σ v0 v1 v2 n) v0 v1 v2 (gor v3 (gshl 1 v4)) v4
      else
        f_X0_neighboursOn_J42 σ (f_X0_neighboursOn_L5 σ v0 v1 v2 n) v0 v1 v2 v3 v4)
set_option maxRecDepth 100000 in
set_option maxHeartbeats 4000000 in
theorem k_X0_neighboursOn_L5 {E : gs_E} (σ : gs_Mem) (v0 : Nat) (v1 : Int) (v2 : Int) (hv0 : isPl v0)  : ∀ (n : Nat) (v3 : Int) (v4 : Int), gs_K E (gs_MC E yX0_neighboursOn cX0_neighboursOn 5 (some .int) 0 { frames := 1, cells := 0, slots := 0, locals := 22 }) (fun v : Int => (v, σ)) (f_X0_neighboursOn_L5 σ v0 v1 v2 n v3 v4) 5 [(0, gr E v0), (1, gi v1), (2, gi v2), (3, gi v3), (4, gi v4)] [] σ := by
  intro n
  induction n with
  | zero => intro v3 v4; rw [f_X0_neighboursOn_L5]; exact gk_none
  | succ n ih =>
    intro v3 v4; rw [f_X0_neighboursOn_L5]
    refine gk_iload (pc := 5) 4 dX0_neighboursOn_5 rfl ?_
    refine gk_aload_n (pc := 7) 0 dX0_neighboursOn_7 rfl ?_
    refine gk_getI (pc := 8) rfl clsX0 (pl_lt0 hv0) (pl_sh hv0) 9 (by decide) rfl ww_97 dX0_neighboursOn_8 ?_
    refine gk_icmp_ge (tgt := 48) (pc := 11) dX0_neighboursOn_11 (by decide) rfl rfl ?_ ?_
    · refine gk_iload_n (pc := 48) 3 dX0_neighboursOn_48 rfl ?_
      exact gk_iret (pc := 49) rfl dX0_neighboursOn_49
    · refine gk_aload_n (pc := 14) 0 dX0_neighboursOn_14 rfl ?_
      refine gk_getR (q := (v0 + 3)) (pc := 15) rfl clsX0 (pl_lt0 hv0) (pl_sh hv0) 2 (by decide) rfl ww_90 dX0_neighboursOn_15 ?_
      refine gk_iload (pc := 18) 4 dX0_neighboursOn_18 rfl ?_
      refine gk_iald_c (pc := 20) (pl_lt3 hv0) (pl_s3 hv0) rfl dX0_neighboursOn_20 ?_
      refine gk_iload_n (pc := 21) 2 dX0_neighboursOn_21 rfl ?_
      refine gk_icmp_ne (tgt := 42) (pc := 22) dX0_neighboursOn_22 (by decide) rfl rfl ?_ ?_
      · exact k_X0_neighboursOn_J42 σ (f_X0_neighboursOn_L5 σ v0 v1 v2 n) v0 v1 v2 v3 v4 hv0 ih
      · refine gk_aload_n (pc := 25) 0 dX0_neighboursOn_25 rfl ?_
        refine gk_iload_n (pc := 26) 1 dX0_neighboursOn_26 rfl ?_
        refine gk_iload (pc := 27) 4 dX0_neighboursOn_27 rfl ?_
        refine gk_callV_ir (As := [gi v1, gi v4]) (pc := 29) (c_X0_between v0 v1 v4 hv0 σ) rfl mm_X0_between ww_414 clsX0 rfl (pl_lt0 hv0) (pl_sh hv0) (gs_fit_of (Nat.le_of_ble_eq_true rfl) (Nat.le_of_ble_eq_true rfl)) rfl rfl (Nat.le_of_ble_eq_true rfl) dX0_neighboursOn_29 (fun u1 => ?_)
        refine gk_if_le (tgt := 42) (pc := 32) dX0_neighboursOn_32 (by decide) rfl ?_ ?_
        · exact k_X0_neighboursOn_J42 σ (f_X0_neighboursOn_L5 σ v0 v1 v2 n) v0 v1 v2 v3 v4 hv0 ih
        · refine gk_iload_n (pc := 35) 3 dX0_neighboursOn_35 rfl ?_
          refine gk_iconst (pc := 36) dX0_neighboursOn_36 ?_
          refine gk_iload (pc := 37) 4 dX0_neighboursOn_37 rfl ?_
          refine gk_ishl (pc := 39) dX0_neighboursOn_39 ?_
          refine gk_ior (pc := 40) dX0_neighboursOn_40 ?_
          refine gk_istore_n (L' := [(3, gi (gor v3 (gshl 1 v4))), (0, gr E v0), (1, gi v1), (2, gi v2), (4, gi v4)]) (pc := 41) dX0_neighboursOn_41 (Nat.le_of_ble_eq_true rfl) rfl ?_
          refine gk_sub (L' := [(0, gr E v0), (1, gi v1), (2, gi v2), (3, gi (gor v3 (gshl 1 v4))), (4, gi v4)]) [1, 2, 3, 0, 4] rfl ?_
          exact k_X0_neighboursOn_J42 σ (f_X0_neighboursOn_L5 σ v0 v1 v2 n) v0 v1 v2 (gor v3 (gshl 1 v4)) v4 hv0 ih
def f_X0_neighboursOn (r0 : Nat) (v1 : Int) (v2 : Int) (σ : gs_Mem) : Option (Int) :=
  f_X0_neighboursOn_L5 σ r0 v1 v2 gs_fuel 0 0
set_option maxRecDepth 100000 in
set_option maxHeartbeats 4000000 in
theorem c_X0_neighboursOn {E : gs_E} (r0 : Nat) (v1 : Int) (v2 : Int) (hr0 : isPl r0) (σ : gs_Mem) : gs_C E yX0_neighboursOn cX0_neighboursOn 5 (some .int) 0 { frames := 1, cells := 0, slots := 0, locals := 22 } [gr E r0, gi v1, gi v2] σ (f_X0_neighboursOn r0 v1 v2 σ) (fun v : Int => (v, σ)) := by
  unfold f_X0_neighboursOn
  refine gs_enter (L := [(0, gr E r0), (1, gi v1), (2, gi v2)]) (by decide) rfl rfl (Nat.le_of_ble_eq_true rfl) rfl ?_
  refine gk_iconst (pc := 0) dX0_neighboursOn_0 ?_
  refine gk_istore_n (L' := [(3, gi 0), (0, gr E r0), (1, gi v1), (2, gi v2)]) (pc := 1) dX0_neighboursOn_1 (Nat.le_of_ble_eq_true rfl) rfl ?_
  refine gk_iconst (pc := 2) dX0_neighboursOn_2 ?_
  refine gk_istore (L' := [(4, gi 0), (3, gi 0), (0, gr E r0), (1, gi v1), (2, gi v2)]) (pc := 3) dX0_neighboursOn_3 (Nat.le_of_ble_eq_true rfl) rfl ?_
  refine gk_sub (L' := [(0, gr E r0), (1, gi v1), (2, gi v2), (3, gi 0), (4, gi 0)]) [2, 3, 4, 1, 0] rfl ?_
  exact k_X0_neighboursOn_L5 σ r0 v1 v2 hr0 gs_fuel 0 0
def f_X0_chainOf_J56 (σ : gs_Mem) (k19 : Int → Int → Option (Int)) (k62 : Int → Option (Int)) (v0 : Nat) (v2 : Int) (v3 : Int) (v4 : Int) (v5 : Int) : Option (Int) :=
  k19 v3 (v5 + 1)
set_option maxRecDepth 100000 in
set_option maxHeartbeats 4000000 in
theorem k_X0_chainOf_J56 {E : gs_E} (σ : gs_Mem) (k19 : Int → Int → Option (Int)) (k62 : Int → Option (Int))  (v0 : Nat) (v2 : Int) (v3 : Int) (v4 : Int) (v5 : Int) (hv0 : isPl v0) (hk19 : ∀ (w3 : Int) (w5 : Int), gs_K E (gs_MC E yX0_chainOf cX0_chainOf 6 (some .int) 0 { frames := 2, cells := 0, slots := 0, locals := 46 }) (fun v : Int => (v, σ)) (k19 w3 w5) 19 [(0, gr E v0), (2, gi v2), (3, gi w3), (4, gi v4), (5, gi w5)] [] σ) (hk62 : ∀ (w3 : Int), gs_K E (gs_MC E yX0_chainOf cX0_chainOf 6 (some .int) 0 { frames := 2, cells := 0, slots := 0, locals := 46 }) (fun v : Int => (v, σ)) (k62 w3) 62 [(0, gr E v0), (2, gi v2), (3, gi w3), (4, gi v4)] [] σ) : gs_K E (gs_MC E yX0_chainOf cX0_chainOf 6 (some .int) 0 { frames := 2, cells := 0, slots := 0, locals := 46 }) (fun v : Int => (v, σ)) (f_X0_chainOf_J56 σ k19 k62 v0 v2 v3 v4 v5) 56 [(0, gr E v0), (2, gi v2), (3, gi v3), (4, gi v4), (5, gi v5)] [] σ := by
  unfold f_X0_chainOf_J56
  refine gk_iinc (L' := [(5, gi (v5 + 1)), (0, gr E v0), (2, gi v2), (3, gi v3), (4, gi v4)]) (pc := 56) 4 dX0_chainOf_56 rfl (Nat.le_of_ble_eq_true rfl) rfl ?_
  refine gk_goto (tgt := 19) (pc := 59) dX0_chainOf_59 (by decide) ?_
  refine gk_sub (L' := [(0, gr E v0), (2, gi v2), (3, gi v3), (4, gi v4), (5, gi (v5 + 1))]) [1, 2, 3, 4, 0] rfl ?_
  exact hk19 v3 (v5 + 1)
def f_X0_chainOf_L19 (σ : gs_Mem) (v0 : Nat) (v2 : Int) (v4 : Int) (k62 : Int → Option (Int)) : Nat → Int → Int → Option (Int)
  | 0, _, _ => none
  | n + 1, v3, v5 =>
    if (gn (σ v0 9)) ≤ (gn v5) then
      k62 v3
    else
      if (gand (gshr v3 v5) 1) = 1 then
        gs_chk (gn v5) 8 (
        (f_X0_neighboursOn v0 v5 (v2 - (σ (v0 + 3) (gn v5).toNat)) σ).bind fun u1 =>
        f_X0_chainOf_J56 σ (f_X0_chainOf_L19 σ v0 v2 v4 k62 n) k62 v0 v2 (gor v3 u1) v4 v5)
      else
        f_X0_chainOf_J56 σ (f_X0_chainOf_L19 σ v0 v2 v4 k62 n) k62 v0 v2 v3 v4 v5
set_option maxRecDepth 100000 in
set_option maxHeartbeats 4000000 in
theorem k_X0_chainOf_L19 {E : gs_E} (σ : gs_Mem) (v0 : Nat) (v2 : Int) (v4 : Int) (k62 : Int → Option (Int)) (hv0 : isPl v0) (hk62 : ∀ (w3 : Int), gs_K E (gs_MC E yX0_chainOf cX0_chainOf 6 (some .int) 0 { frames := 2, cells := 0, slots := 0, locals := 46 }) (fun v : Int => (v, σ)) (k62 w3) 62 [(0, gr E v0), (2, gi v2), (3, gi w3), (4, gi v4)] [] σ) : ∀ (n : Nat) (v3 : Int) (v5 : Int), gs_K E (gs_MC E yX0_chainOf cX0_chainOf 6 (some .int) 0 { frames := 2, cells := 0, slots := 0, locals := 46 }) (fun v : Int => (v, σ)) (f_X0_chainOf_L19 σ v0 v2 v4 k62 n v3 v5) 19 [(0, gr E v0), (2, gi v2), (3, gi v3), (4, gi v4), (5, gi v5)] [] σ := by
  intro n
  induction n with
  | zero => intro v3 v5; rw [f_X0_chainOf_L19]; exact gk_none
  | succ n ih =>
    intro v3 v5; rw [f_X0_chainOf_L19]
    refine gk_iload (pc := 19) 4 dX0_chainOf_19 rfl ?_
    refine gk_aload_n (pc := 21) 0 dX0_chainOf_21 rfl ?_
    refine gk_getI (pc := 22) rfl clsX0 (pl_lt0 hv0) (pl_sh hv0) 9 (by decide) rfl ww_97 dX0_chainOf_22 ?_
    refine gk_icmp_ge (tgt := 62) (pc := 25) dX0_chainOf_25 (by decide) rfl rfl ?_ ?_
    · refine gk_sub (L' := [(0, gr E v0), (2, gi v2), (3, gi v3), (4, gi v4)]) [0, 1, 2, 3] rfl ?_
      exact hk62 v3
    · refine gk_iload_n (pc := 28) 2 dX0_chainOf_28 rfl ?_
      refine gk_iload (pc := 29) 4 dX0_chainOf_29 rfl ?_
      refine gk_ishr (pc := 31) dX0_chainOf_31 ?_
      refine gk_iconst (pc := 32) dX0_chainOf_32 ?_
      refine gk_iand (pc := 33) dX0_chainOf_33 ?_
      refine gk_iconst (pc := 34) dX0_chainOf_34 ?_
      refine gk_icmp_ne (tgt := 56) (pc := 35) dX0_chainOf_35 (by decide) (gn_ti _) (by decide +kernel) ?_ ?_
      · exact k_X0_chainOf_J56 σ (f_X0_chainOf_L19 σ v0 v2 v4 k62 n) k62 v0 v2 v3 v4 v5 hv0 ih hk62
      · refine gk_iload_n (pc := 38) 2 dX0_chainOf_38 rfl ?_
        refine gk_aload_n (pc := 39) 0 dX0_chainOf_39 rfl ?_
        refine gk_iload (pc := 40) 4 dX0_chainOf_40 rfl ?_
        refine gk_iload_n (pc := 42) 1 dX0_chainOf_42 rfl ?_
        refine gk_aload_n (pc := 43) 0 dX0_chainOf_43 rfl ?_
        refine gk_getR (q := (v0 + 3)) (pc := 44) rfl clsX0 (pl_lt0 hv0) (pl_sh hv0) 2 (by decide) rfl ww_90 dX0_chainOf_44 ?_
        refine gk_iload (pc := 47) 4 dX0_chainOf_47 rfl ?_
        refine gk_iald_c (pc := 49) (pl_lt3 hv0) (pl_s3 hv0) rfl dX0_chainOf_49 ?_
        refine gk_isub (pc := 50) dX0_chainOf_50 ?_
        refine gk_callV_ir (As := [gi v5, gi (v2 - (σ (v0 + 3) (gn v5).toNat))]) (pc := 51) (c_X0_neighboursOn v0 v5 (v2 - (σ (v0 + 3) (gn v5).toNat)) hv0 σ) rfl mm_X0_neighboursOn ww_480 clsX0 rfl (pl_lt0 hv0) (pl_sh hv0) (gs_fit_of (Nat.le_of_ble_eq_true rfl) (Nat.le_of_ble_eq_true rfl)) rfl rfl (Nat.le_of_ble_eq_true rfl) dX0_chainOf_51 (fun u1 => ?_)
        refine gk_ior (pc := 54) dX0_chainOf_54 ?_
        refine gk_istore_n (L' := [(3, gi (gor v3 u1)), (0, gr E v0), (2, gi v2), (4, gi v4), (5, gi v5)]) (pc := 55) dX0_chainOf_55 (Nat.le_of_ble_eq_true rfl) rfl ?_
        refine gk_sub (L' := [(0, gr E v0), (2, gi v2), (3, gi (gor v3 u1)), (4, gi v4), (5, gi v5)]) [1, 2, 0, 3, 4] rfl ?_
        exact k_X0_chainOf_J56 σ (f_X0_chainOf_L19 σ v0 v2 v4 k62 n) k62 v0 v2 (gor v3 u1) v4 v5 hv0 ih hk62
def f_X0_chainOf_L7 (σ : gs_Mem) (v0 : Nat) (v2 : Int) : Nat → Int → Int → Option (Int)
  | 0, _, _ => none
  | n + 1, v3, v4 =>
    if (gn (σ v0 9)) ≤ (gn v4) then
      some v3
    else
      f_X0_chainOf_L19 σ v0 v2 v4 (fun w3 =>
        f_X0_chainOf_L7 σ v0 v2 n w3 (v4 + 1)) gs_fuel v3 0
set_option maxRecDepth 100000 in
set_option maxHeartbeats 4000000 in
theorem k_X0_chainOf_L7 {E : gs_E} (σ : gs_Mem) (v0 : Nat) (v2 : Int) (hv0 : isPl v0)  : ∀ (n : Nat) (v3 : Int) (v4 : Int), gs_K E (gs_MC E yX0_chainOf cX0_chainOf 6 (some .int) 0 { frames := 2, cells := 0, slots := 0, locals := 46 }) (fun v : Int => (v, σ)) (f_X0_chainOf_L7 σ v0 v2 n v3 v4) 7 [(0, gr E v0), (2, gi v2), (3, gi v3), (4, gi v4)] [] σ := by
  intro n
  induction n with
  | zero => intro v3 v4; rw [f_X0_chainOf_L7]; exact gk_none
  | succ n ih =>
    intro v3 v4; rw [f_X0_chainOf_L7]
    refine gk_iload (pc := 7) 3 dX0_chainOf_7 rfl ?_
    refine gk_aload_n (pc := 9) 0 dX0_chainOf_9 rfl ?_
    refine gk_getI (pc := 10) rfl clsX0 (pl_lt0 hv0) (pl_sh hv0) 9 (by decide) rfl ww_97 dX0_chainOf_10 ?_
    refine gk_icmp_ge (tgt := 68) (pc := 13) dX0_chainOf_13 (by decide) rfl rfl ?_ ?_
    · refine gk_iload_n (pc := 68) 2 dX0_chainOf_68 rfl ?_
      exact gk_iret (pc := 69) rfl dX0_chainOf_69
    · refine gk_iconst (pc := 16) dX0_chainOf_16 ?_
      refine gk_istore (L' := [(5, gi 0), (0, gr E v0), (2, gi v2), (3, gi v3), (4, gi v4)]) (pc := 17) dX0_chainOf_17 (Nat.le_of_ble_eq_true rfl) rfl ?_
      refine gk_sub (L' := [(0, gr E v0), (2, gi v2), (3, gi v3), (4, gi v4), (5, gi 0)]) [1, 2, 3, 4, 0] rfl ?_
      refine k_X0_chainOf_L19 σ v0 v2 v4 _ hv0 ?_ gs_fuel v3 0
      · intro w3
        refine gk_iinc (L' := [(4, gi (v4 + 1)), (0, gr E v0), (2, gi v2), (3, gi w3)]) (pc := 62) 3 dX0_chainOf_62 rfl (Nat.le_of_ble_eq_true rfl) rfl ?_
        refine gk_goto (tgt := 7) (pc := 65) dX0_chainOf_65 (by decide) ?_
        refine gk_sub (L' := [(0, gr E v0), (2, gi v2), (3, gi w3), (4, gi (v4 + 1))]) [1, 2, 3, 0] rfl ?_
        exact ih w3 (v4 + 1)
def f_X0_chainOf (r0 : Nat) (v1 : Int) (v2 : Int) (σ : gs_Mem) : Option (Int) :=
  f_X0_chainOf_L7 σ r0 v2 gs_fuel (gshl 1 v1) 0
set_option maxRecDepth 100000 in
set_option maxHeartbeats 4000000 in
theorem c_X0_chainOf {E : gs_E} (r0 : Nat) (v1 : Int) (v2 : Int) (hr0 : isPl r0) (σ : gs_Mem) : gs_C E yX0_chainOf cX0_chainOf 6 (some .int) 0 { frames := 2, cells := 0, slots := 0, locals := 46 } [gr E r0, gi v1, gi v2] σ (f_X0_chainOf r0 v1 v2 σ) (fun v : Int => (v, σ)) := by
  unfold f_X0_chainOf
  refine gs_enter (L := [(0, gr E r0), (1, gi v1), (2, gi v2)]) (by decide) rfl rfl (Nat.le_of_ble_eq_true rfl) rfl ?_
  refine gk_iconst (pc := 0) dX0_chainOf_0 ?_
  refine gk_iload_n (pc := 1) 1 dX0_chainOf_1 rfl ?_
  refine gk_ishl (pc := 2) dX0_chainOf_2 ?_
  refine gk_istore_n (L' := [(3, gi (gshl 1 v1)), (0, gr E r0), (1, gi v1), (2, gi v2)]) (pc := 3) dX0_chainOf_3 (Nat.le_of_ble_eq_true rfl) rfl ?_
  refine gk_iconst (pc := 4) dX0_chainOf_4 ?_
  refine gk_istore (L' := [(4, gi 0), (3, gi (gshl 1 v1)), (0, gr E r0), (1, gi v1), (2, gi v2)]) (pc := 5) dX0_chainOf_5 (Nat.le_of_ble_eq_true rfl) rfl ?_
  refine gk_sub (L' := [(0, gr E r0), (2, gi v2), (3, gi (gshl 1 v1)), (4, gi 0)]) [2, 4, 1, 0] rfl ?_
  exact k_X0_chainOf_L7 σ r0 v2 hr0 gs_fuel (gshl 1 v1) 0
def f_X0_swap_J33 (k2 : Int → gs_Mem → Option (Int × gs_Mem)) (v0 : Nat) (v1 : Int) (v2 : Int) (v3 : Int) (σ : gs_Mem) : Option (Int × gs_Mem) :=
  k2 (v3 + 1) σ
set_option maxRecDepth 100000 in
set_option maxHeartbeats 4000000 in
theorem k_X0_swap_J33 {E : gs_E} (k2 : Int → gs_Mem → Option (Int × gs_Mem))  (v0 : Nat) (v1 : Int) (v2 : Int) (v3 : Int) (hv0 : isPl v0) (hk2 : ∀ (w3 : Int) (σ : gs_Mem), gs_K E (gs_MC E yX0_swap cX0_swap 4 none 2 { frames := 0, cells := 0, slots := 0, locals := 0 }) (fun b : Int × gs_Mem => b) (k2 w3 σ) 2 [(0, gr E v0), (1, gi v1), (2, gi v2), (3, gi w3)] [] σ) (σ : gs_Mem) : gs_K E (gs_MC E yX0_swap cX0_swap 4 none 2 { frames := 0, cells := 0, slots := 0, locals := 0 }) (fun b : Int × gs_Mem => b) (f_X0_swap_J33 k2 v0 v1 v2 v3 σ) 33 [(0, gr E v0), (1, gi v1), (2, gi v2), (3, gi v3)] [] σ := by
  unfold f_X0_swap_J33
  refine gk_iinc (L' := [(3, gi (v3 + 1)), (0, gr E v0), (1, gi v1), (2, gi v2)]) (pc := 33) 3 dX0_swap_33 rfl (Nat.le_of_ble_eq_true rfl) rfl ?_
  refine gk_goto (tgt := 2) (pc := 36) dX0_swap_36 (by decide) ?_
  refine gk_sub (L' := [(0, gr E v0), (1, gi v1), (2, gi v2), (3, gi (v3 + 1))]) [1, 2, 3, 0] rfl ?_
  exact hk2 (v3 + 1) σ
def f_X0_swap_L2 (v0 : Nat) (v1 : Int) (v2 : Int) : Nat → Int → gs_Mem → Option (Int × gs_Mem)
  | 0, _, _ => none
  | n + 1, v3, σ =>
    if (gn (σ v0 9)) ≤ (gn v3) then
      some (0, σ)
    else
      if (gand (gshr v1 v3) 1) = 1 then
        gs_chk (gn v3) 8 (
        gs_chk (gn v3) 8 (
        f_X0_swap_J33 (f_X0_swap_L2 v0 v1 v2 n) v0 v1 v2 v3 (gs_st σ (v0 + 3) (gn v3).toNat (v2 - (σ (v0 + 3) (gn v3).toNat)))))
      else
        f_X0_swap_J33 (f_X0_swap_L2 v0 v1 v2 n) v0 v1 v2 v3 σ
set_option maxRecDepth 100000 in
set_option maxHeartbeats 4000000 in
theorem k_X0_swap_L2 {E : gs_E} (v0 : Nat) (v1 : Int) (v2 : Int) (hv0 : isPl v0)  : ∀ (n : Nat) (v3 : Int) (σ : gs_Mem), gs_K E (gs_MC E yX0_swap cX0_swap 4 none 2 { frames := 0, cells := 0, slots := 0, locals := 0 }) (fun b : Int × gs_Mem => b) (f_X0_swap_L2 v0 v1 v2 n v3 σ) 2 [(0, gr E v0), (1, gi v1), (2, gi v2), (3, gi v3)] [] σ := by
  intro n
  induction n with
  | zero => intro v3 σ; rw [f_X0_swap_L2]; exact gk_none
  | succ n ih =>
    intro v3 σ; rw [f_X0_swap_L2]
    refine gk_iload_n (pc := 2) 3 dX0_swap_2 rfl ?_
    refine gk_aload_n (pc := 3) 0 dX0_swap_3 rfl ?_
    refine gk_getI (pc := 4) rfl clsX0 (pl_lt0 hv0) (pl_sh hv0) 9 (by decide) rfl ww_97 dX0_swap_4 ?_
    refine gk_icmp_ge (tgt := 39) (pc := 7) dX0_swap_7 (by decide) rfl rfl ?_ ?_
    · exact gk_vret (pc := 39) rfl dX0_swap_39
    · refine gk_iload_n (pc := 10) 1 dX0_swap_10 rfl ?_
      refine gk_iload_n (pc := 11) 3 dX0_swap_11 rfl ?_
      refine gk_ishr (pc := 12) dX0_swap_12 ?_
      refine gk_iconst (pc := 13) dX0_swap_13 ?_
      refine gk_iand (pc := 14) dX0_swap_14 ?_
      refine gk_iconst (pc := 15) dX0_swap_15 ?_
      refine gk_icmp_ne (tgt := 33) (pc := 16) dX0_swap_16 (by decide) (gn_ti _) (by decide +kernel) ?_ ?_
      · exact k_X0_swap_J33 (f_X0_swap_L2 v0 v1 v2 n) v0 v1 v2 v3 hv0 ih σ
      · refine gk_aload_n (pc := 19) 0 dX0_swap_19 rfl ?_
        refine gk_getR (q := (v0 + 3)) (pc := 20) rfl clsX0 (pl_lt0 hv0) (pl_sh hv0) 2 (by decide) rfl ww_90 dX0_swap_20 ?_
        refine gk_iload_n (pc := 23) 3 dX0_swap_23 rfl ?_
        refine gk_iload_n (pc := 24) 2 dX0_swap_24 rfl ?_
        refine gk_aload_n (pc := 25) 0 dX0_swap_25 rfl ?_
        refine gk_getR (q := (v0 + 3)) (pc := 26) rfl clsX0 (pl_lt0 hv0) (pl_sh hv0) 2 (by decide) rfl ww_90 dX0_swap_26 ?_
        refine gk_iload_n (pc := 29) 3 dX0_swap_29 rfl ?_
        refine gk_iald_c (pc := 30) (pl_lt3 hv0) (pl_s3 hv0) rfl dX0_swap_30 ?_
        refine gk_isub (pc := 31) dX0_swap_31 ?_
        refine gk_iast_c (pc := 32) (pl_lt3 hv0) (pl_s3 hv0) rfl dX0_swap_32 ?_
        exact k_X0_swap_J33 (f_X0_swap_L2 v0 v1 v2 n) v0 v1 v2 v3 hv0 ih (gs_st σ (v0 + 3) (gn v3).toNat (v2 - (σ (v0 + 3) (gn v3).toNat)))
def f_X0_swap (r0 : Nat) (v1 : Int) (v2 : Int) (σ : gs_Mem) : Option (Int × gs_Mem) :=
  f_X0_swap_L2 r0 v1 v2 gs_fuel 0 σ
set_option maxRecDepth 100000 in
set_option maxHeartbeats 4000000 in
theorem c_X0_swap {E : gs_E} (r0 : Nat) (v1 : Int) (v2 : Int) (hr0 : isPl r0) (σ : gs_Mem) : gs_C E yX0_swap cX0_swap 4 none 2 { frames := 0, cells := 0, slots := 0, locals := 0 } [gr E r0, gi v1, gi v2] σ (f_X0_swap r0 v1 v2 σ) (fun b : Int × gs_Mem => b) := by
  unfold f_X0_swap
  refine gs_enter (L := [(0, gr E r0), (1, gi v1), (2, gi v2)]) (by decide) rfl rfl (Nat.le_of_ble_eq_true rfl) rfl ?_
  refine gk_iconst (pc := 0) dX0_swap_0 ?_
  refine gk_istore_n (L' := [(3, gi 0), (0, gr E r0), (1, gi v1), (2, gi v2)]) (pc := 1) dX0_swap_1 (Nat.le_of_ble_eq_true rfl) rfl ?_
  refine gk_sub (L' := [(0, gr E r0), (1, gi v1), (2, gi v2), (3, gi 0)]) [1, 2, 3, 0] rfl ?_
  exact k_X0_swap_L2 r0 v1 v2 hr0 gs_fuel 0 σ
def f_X0_swapChain (r0 : Nat) (v1 : Int) (v2 : Int) (σ : gs_Mem) : Option (Int × gs_Mem) :=
  (f_X0_channelOf r0 v1 σ).bind fun u1 =>
  (f_X0_chainOf r0 v1 (u1 + v2) σ).bind fun u2 =>
  if (gand u2 (σ r0 8)) = 0 then
    (f_X0_clashes r0 σ).bind fun u3 =>
    (f_X0_swap r0 u2 (u1 + v2) σ).bind fun b4 =>
    (f_X0_clashes r0 b4.2).bind fun u5 =>
    if (gn u5) ≤ (gn u3) then
      (f_J6_bitCount_0f7a4 u2 b4.2).bind fun u6 =>
      some (u6, b4.2)
    else
      (f_X0_swap r0 u2 (u1 + v2) b4.2).bind fun b7 =>
      some ((-6), b7.2)
  else
    some ((-5), σ)
set_option maxRecDepth 100000 in
set_option maxHeartbeats 4000000 in
theorem c_X0_swapChain {E : gs_E} (r0 : Nat) (v1 : Int) (v2 : Int) (hr0 : isPl r0) (σ : gs_Mem) : gs_C E yX0_swapChain cX0_swapChain 6 (some .int) 0 { frames := 4, cells := 0, slots := 0, locals := 88 } [gr E r0, gi v1, gi v2] σ (f_X0_swapChain r0 v1 v2 σ) (fun b : Int × gs_Mem => b) := by
  unfold f_X0_swapChain
  refine gs_enter (L := [(0, gr E r0), (1, gi v1), (2, gi v2)]) (by decide) rfl rfl (Nat.le_of_ble_eq_true rfl) rfl ?_
  refine gk_aload_n (pc := 0) 0 dX0_swapChain_0 rfl ?_
  refine gk_iload_n (pc := 1) 1 dX0_swapChain_1 rfl ?_
  refine gk_callV_ir (As := [gi v1]) (pc := 2) (c_X0_channelOf r0 v1 hr0 σ) rfl mm_X0_channelOf ww_311 clsX0 rfl (pl_lt0 hr0) (pl_sh hr0) (gs_fit_of (Nat.le_of_ble_eq_true rfl) (Nat.le_of_ble_eq_true rfl)) rfl rfl (Nat.le_of_ble_eq_true rfl) dX0_swapChain_2 (fun u1 => ?_)
  refine gk_iload_n (pc := 5) 2 dX0_swapChain_5 rfl ?_
  refine gk_iadd (pc := 6) dX0_swapChain_6 ?_
  refine gk_istore_n (L' := [(3, gi (u1 + v2)), (0, gr E r0), (1, gi v1), (2, gi v2)]) (pc := 7) dX0_swapChain_7 (Nat.le_of_ble_eq_true rfl) rfl ?_
  refine gk_aload_n (pc := 8) 1 dX0_swapChain_8 rfl ?_
  refine gk_iload_n (pc := 9) 2 dX0_swapChain_9 rfl ?_
  refine gk_iload_n (pc := 10) 0 dX0_swapChain_10 rfl ?_
  refine gk_callV_ir (As := [gi v1, gi (u1 + v2)]) (pc := 11) (c_X0_chainOf r0 v1 (u1 + v2) hr0 σ) rfl mm_X0_chainOf ww_476 clsX0 rfl (pl_lt0 hr0) (pl_sh hr0) (gs_fit_of (Nat.le_of_ble_eq_true rfl) (Nat.le_of_ble_eq_true rfl)) rfl rfl (Nat.le_of_ble_eq_true rfl) dX0_swapChain_11 (fun u2 => ?_)
  refine gk_istore (L' := [(4, gi u2), (3, gi (u1 + v2)), (0, gr E r0), (1, gi v1), (2, gi v2)]) (pc := 14) dX0_swapChain_14 (Nat.le_of_ble_eq_true rfl) rfl ?_
  refine gk_iload (pc := 16) 0 dX0_swapChain_16 rfl ?_
  refine gk_aload_n (pc := 18) 2 dX0_swapChain_18 rfl ?_
  refine gk_getI (pc := 19) rfl clsX0 (pl_lt0 hr0) (pl_sh hr0) 8 (by decide) rfl ww_96 dX0_swapChain_19 ?_
  refine gk_iand (pc := 22) dX0_swapChain_22 ?_
  refine gk_if_eq (tgt := 29) (pc := 23) dX0_swapChain_23 (by decide) (gn_ti _) ?_ ?_
  · refine gk_aload_n (pc := 29) 2 dX0_swapChain_29 rfl ?_
    refine gk_callV_ir (As := []) (pc := 30) (c_X0_clashes r0 hr0 σ) rfl mm_X0_clashes ww_484 clsX0 rfl (pl_lt0 hr0) (pl_sh hr0) (gs_fit_of (Nat.le_of_ble_eq_true rfl) (Nat.le_of_ble_eq_true rfl)) rfl rfl (Nat.le_of_ble_eq_true rfl) dX0_swapChain_30 (fun u3 => ?_)
    refine gk_istore (L' := [(5, gi u3), (4, gi u2), (3, gi (u1 + v2)), (0, gr E r0), (1, gi v1), (2, gi v2)]) (pc := 33) dX0_swapChain_33 (Nat.le_of_ble_eq_true rfl) rfl ?_
    refine gk_aload_n (pc := 35) 3 dX0_swapChain_35 rfl ?_
    refine gk_iload (pc := 36) 1 dX0_swapChain_36 rfl ?_
    refine gk_iload_n (pc := 38) 2 dX0_swapChain_38 rfl ?_
    refine gk_callV_vw (As := [gi u2, gi (u1 + v2)]) (pc := 39) (c_X0_swap r0 u2 (u1 + v2) hr0 σ) rfl mm_X0_swap ww_489 clsX0 rfl (pl_lt0 hr0) (pl_sh hr0) (gs_fit_of (Nat.le_of_ble_eq_true rfl) (Nat.le_of_ble_eq_true rfl)) rfl rfl (Nat.le_of_ble_eq_true rfl) dX0_swapChain_39 (fun b4 => ?_)
    refine gk_aload_n (pc := 42) 3 dX0_swapChain_42 rfl ?_
    refine gk_callV_ir (As := []) (pc := 43) (c_X0_clashes r0 hr0 b4.2) rfl mm_X0_clashes ww_484 clsX0 rfl (pl_lt0 hr0) (pl_sh hr0) (gs_fit_of (Nat.le_of_ble_eq_true rfl) (Nat.le_of_ble_eq_true rfl)) rfl rfl (Nat.le_of_ble_eq_true rfl) dX0_swapChain_43 (fun u5 => ?_)
    refine gk_iload (pc := 46) 0 dX0_swapChain_46 rfl ?_
    refine gk_icmp_le (tgt := 61) (pc := 48) dX0_swapChain_48 (by decide) rfl rfl ?_ ?_
    · refine gk_iload (pc := 61) 1 dX0_swapChain_61 rfl ?_
      refine gk_callS_ir (As := [gi u2]) (pc := 63) (c_J6_bitCount_0f7a4 u2 b4.2) rfl mm_J6_bitCount_0f7a4 ww_461 (gs_fit_of (Nat.le_of_ble_eq_true rfl) (Nat.le_of_ble_eq_true rfl)) rfl rfl (Nat.le_of_ble_eq_true rfl) dX0_swapChain_63 (fun u6 => ?_)
      exact gk_iret (pc := 66) rfl dX0_swapChain_66
    · refine gk_aload_n (pc := 51) 3 dX0_swapChain_51 rfl ?_
      refine gk_iload (pc := 52) 1 dX0_swapChain_52 rfl ?_
      refine gk_iload_n (pc := 54) 2 dX0_swapChain_54 rfl ?_
      refine gk_callV_vw (As := [gi u2, gi (u1 + v2)]) (pc := 55) (c_X0_swap r0 u2 (u1 + v2) hr0 b4.2) rfl mm_X0_swap ww_489 clsX0 rfl (pl_lt0 hr0) (pl_sh hr0) (gs_fit_of (Nat.le_of_ble_eq_true rfl) (Nat.le_of_ble_eq_true rfl)) rfl rfl (Nat.le_of_ble_eq_true rfl) dX0_swapChain_55 (fun b7 => ?_)
      refine gk_bipush (pc := 58) dX0_swapChain_58 (by decide +kernel) ?_
      exact gk_iret (pc := 60) rfl dX0_swapChain_60
  · refine gk_bipush (pc := 26) dX0_swapChain_26 (by decide +kernel) ?_
    exact gk_iret (pc := 28) rfl dX0_swapChain_28
