def f_X1_size (r0 : Nat) (σ : gs_Mem) : Option (Int) :=
  some (σ r0 3)
set_option maxRecDepth 100000 in
set_option maxHeartbeats 4000000 in
theorem c_X1_size {E : gs_E} (r0 : Nat) (hr0 : isRw r0) (σ : gs_Mem) : gs_C E yX1_size cX1_size 1 (some .int) 0 { frames := 0, cells := 0, slots := 0, locals := 0 } [gr E r0] σ (f_X1_size r0 σ) (fun v : Int => (v, σ)) := by
  unfold f_X1_size
  refine gs_enter (L := [(0, gr E r0)]) (by decide) rfl rfl (Nat.le_of_ble_eq_true rfl) rfl ?_
  refine gk_aload_n (pc := 0) 0 dX1_size_0 rfl ?_
  refine gk_getI (pc := 1) rfl clsX1 (rw_lt0 hr0) (rw_sh hr0) 3 (by decide) rfl ww_132 dX1_size_1 ?_
  exact gk_iret (pc := 4) rfl dX1_size_4
def f_X1_clear (r0 : Nat) (σ : gs_Mem) : Option (Int × gs_Mem) :=
  some (((gs_st σ r0 3 0) r0 3), (gs_st σ r0 3 0))
set_option maxRecDepth 100000 in
set_option maxHeartbeats 4000000 in
theorem c_X1_clear {E : gs_E} (r0 : Nat) (hr0 : isRw r0) (σ : gs_Mem) : gs_C E yX1_clear cX1_clear 1 (some .int) 0 { frames := 0, cells := 0, slots := 0, locals := 0 } [gr E r0] σ (f_X1_clear r0 σ) (fun b : Int × gs_Mem => b) := by
  unfold f_X1_clear
  refine gs_enter (L := [(0, gr E r0)]) (by decide) rfl rfl (Nat.le_of_ble_eq_true rfl) rfl ?_
  refine gk_aload_n (pc := 0) 0 dX1_clear_0 rfl ?_
  refine gk_iconst (pc := 1) dX1_clear_1 ?_
  refine gk_putF (pc := 2) rfl clsX1 (rw_lt0 hr0) (rw_sh hr0) 3 (by decide) rfl rfl rfl rfl ww_132 dX1_clear_2 ?_
  refine gk_aload_n (pc := 5) 0 dX1_clear_5 rfl ?_
  refine gk_getI (pc := 6) rfl clsX1 (rw_lt0 hr0) (rw_sh hr0) 3 (by decide) rfl ww_132 dX1_clear_6 ?_
  exact gk_iret (pc := 9) rfl dX1_clear_9
def f_X1_append (r0 : Nat) (v1 : Int) (v2 : Int) (σ : gs_Mem) : Option (Int × gs_Mem) :=
  if (gn (σ r0 3)) < (gn (σ r0 0)) then
    gs_chk (gn (σ r0 3)) 8 (
    gs_chk (gn ((gs_st σ (r0 + 1) (gn (σ r0 3)).toNat v1) r0 3)) 8 (
    some (((gs_st (gs_st (gs_st σ (r0 + 1) (gn (σ r0 3)).toNat v1) (r0 + 2) (gn ((gs_st σ (r0 + 1) (gn (σ r0 3)).toNat v1) r0 3)).toNat v2) r0 3 (((gs_st (gs_st σ (r0 + 1) (gn (σ r0 3)).toNat v1) (r0 + 2) (gn ((gs_st σ (r0 + 1) (gn (σ r0 3)).toNat v1) r0 3)).toNat v2) r0 3) + 1)) r0 3), (gs_st (gs_st (gs_st σ (r0 + 1) (gn (σ r0 3)).toNat v1) (r0 + 2) (gn ((gs_st σ (r0 + 1) (gn (σ r0 3)).toNat v1) r0 3)).toNat v2) r0 3 (((gs_st (gs_st σ (r0 + 1) (gn (σ r0 3)).toNat v1) (r0 + 2) (gn ((gs_st σ (r0 + 1) (gn (σ r0 3)).toNat v1) r0 3)).toNat v2) r0 3) + 1)))))
  else
    some ((-4), σ)
set_option maxRecDepth 100000 in
set_option maxHeartbeats 4000000 in
theorem c_X1_append {E : gs_E} (r0 : Nat) (v1 : Int) (v2 : Int) (hr0 : isRw r0) (σ : gs_Mem) : gs_C E yX1_append cX1_append 3 (some .int) 0 { frames := 0, cells := 0, slots := 0, locals := 0 } [gr E r0, gi v1, gi v2] σ (f_X1_append r0 v1 v2 σ) (fun b : Int × gs_Mem => b) := by
  unfold f_X1_append
  refine gs_enter (L := [(0, gr E r0), (1, gi v1), (2, gi v2)]) (by decide) rfl rfl (Nat.le_of_ble_eq_true rfl) rfl ?_
  refine gk_aload_n (pc := 0) 0 dX1_append_0 rfl ?_
  refine gk_getI (pc := 1) rfl clsX1 (rw_lt0 hr0) (rw_sh hr0) 3 (by decide) rfl ww_132 dX1_append_1 ?_
  refine gk_aload_n (pc := 4) 0 dX1_append_4 rfl ?_
  refine gk_getI (pc := 5) rfl clsX1 (rw_lt0 hr0) (rw_sh hr0) 0 (by decide) rfl ww_129 dX1_append_5 ?_
  refine gk_icmp_lt (tgt := 14) (pc := 8) dX1_append_8 (by decide) rfl rfl ?_ ?_
  · refine gk_aload_n (pc := 14) 0 dX1_append_14 rfl ?_
    refine gk_getR (q := (r0 + 1)) (pc := 15) rfl clsX1 (rw_lt0 hr0) (rw_sh hr0) 1 (by decide) rfl ww_130 dX1_append_15 ?_
    refine gk_aload_n (pc := 18) 0 dX1_append_18 rfl ?_
    refine gk_getI (pc := 19) rfl clsX1 (rw_lt0 hr0) (rw_sh hr0) 3 (by decide) rfl ww_132 dX1_append_19 ?_
    refine gk_iload_n (pc := 22) 1 dX1_append_22 rfl ?_
    refine gk_iast_c (pc := 23) (rw_lt1 hr0) (rw_s1 hr0) rfl dX1_append_23 ?_
    refine gk_aload_n (pc := 24) 0 dX1_append_24 rfl ?_
    refine gk_getR (q := (r0 + 2)) (pc := 25) rfl clsX1 (rw_lt0 hr0) (rw_sh hr0) 2 (by decide) rfl ww_131 dX1_append_25 ?_
    refine gk_aload_n (pc := 28) 0 dX1_append_28 rfl ?_
    refine gk_getI (pc := 29) rfl clsX1 (rw_lt0 hr0) (rw_sh hr0) 3 (by decide) rfl ww_132 dX1_append_29 ?_
    refine gk_iload_n (pc := 32) 2 dX1_append_32 rfl ?_
    refine gk_iast_c (pc := 33) (rw_lt2 hr0) (rw_s2 hr0) rfl dX1_append_33 ?_
    refine gk_aload_n (pc := 34) 0 dX1_append_34 rfl ?_
    refine gk_dup (pc := 35) dX1_append_35 rfl ?_
    refine gk_getI (pc := 36) rfl clsX1 (rw_lt0 hr0) (rw_sh hr0) 3 (by decide) rfl ww_132 dX1_append_36 ?_
    refine gk_iconst (pc := 39) dX1_append_39 ?_
    refine gk_iadd (pc := 40) dX1_append_40 ?_
    refine gk_putF (pc := 41) rfl clsX1 (rw_lt0 hr0) (rw_sh hr0) 3 (by decide) rfl rfl rfl rfl ww_132 dX1_append_41 ?_
    refine gk_aload_n (pc := 44) 0 dX1_append_44 rfl ?_
    refine gk_getI (pc := 45) rfl clsX1 (rw_lt0 hr0) (rw_sh hr0) 3 (by decide) rfl ww_132 dX1_append_45 ?_
    exact gk_iret (pc := 48) rfl dX1_append_48
  · refine gk_bipush (pc := 11) dX1_append_11 (by decide +kernel) ?_
    exact gk_iret (pc := 13) rfl dX1_append_13
def f_X1_first (r0 : Nat) (v1 : Int) (σ : gs_Mem) : Option (Int) :=
  if (gn v1) < 0 then
    some (-1)
  else
    if (gn (σ r0 3)) ≤ (gn v1) then
      some (-1)
    else
      gs_chk (gn v1) 8 (
      some (σ (r0 + 1) (gn v1).toNat))
set_option maxRecDepth 100000 in
set_option maxHeartbeats 4000000 in
theorem c_X1_first {E : gs_E} (r0 : Nat) (v1 : Int) (hr0 : isRw r0) (σ : gs_Mem) : gs_C E yX1_first cX1_first 2 (some .int) 0 { frames := 0, cells := 0, slots := 0, locals := 0 } [gr E r0, gi v1] σ (f_X1_first r0 v1 σ) (fun v : Int => (v, σ)) := by
  unfold f_X1_first
  refine gs_enter (L := [(0, gr E r0), (1, gi v1)]) (by decide) rfl rfl (Nat.le_of_ble_eq_true rfl) rfl ?_
  refine gk_iload_n (pc := 0) 1 dX1_first_0 rfl ?_
  refine gk_if_lt (tgt := 21) (pc := 1) dX1_first_1 (by decide) rfl ?_ ?_
  · refine gk_iconst (pc := 21) dX1_first_21 ?_
    exact gk_iret (pc := 22) rfl dX1_first_22
  · refine gk_iload_n (pc := 4) 1 dX1_first_4 rfl ?_
    refine gk_aload_n (pc := 5) 0 dX1_first_5 rfl ?_
    refine gk_getI (pc := 6) rfl clsX1 (rw_lt0 hr0) (rw_sh hr0) 3 (by decide) rfl ww_132 dX1_first_6 ?_
    refine gk_icmp_ge (tgt := 21) (pc := 9) dX1_first_9 (by decide) rfl rfl ?_ ?_
    · refine gk_iconst (pc := 21) dX1_first_21 ?_
      exact gk_iret (pc := 22) rfl dX1_first_22
    · refine gk_aload_n (pc := 12) 0 dX1_first_12 rfl ?_
      refine gk_getR (q := (r0 + 1)) (pc := 13) rfl clsX1 (rw_lt0 hr0) (rw_sh hr0) 1 (by decide) rfl ww_130 dX1_first_13 ?_
      refine gk_iload_n (pc := 16) 1 dX1_first_16 rfl ?_
      refine gk_iald_c (pc := 17) (rw_lt1 hr0) (rw_s1 hr0) rfl dX1_first_17 ?_
      refine gk_goto (tgt := 22) (pc := 18) dX1_first_18 (by decide) ?_
      exact gk_iret (pc := 22) rfl dX1_first_22
def f_X1_second (r0 : Nat) (v1 : Int) (σ : gs_Mem) : Option (Int) :=
  if (gn v1) < 0 then
    some (-1)
  else
    if (gn (σ r0 3)) ≤ (gn v1) then
      some (-1)
    else
      gs_chk (gn v1) 8 (
      some (σ (r0 + 2) (gn v1).toNat))
set_option maxRecDepth 100000 in
set_option maxHeartbeats 4000000 in
theorem c_X1_second {E : gs_E} (r0 : Nat) (v1 : Int) (hr0 : isRw r0) (σ : gs_Mem) : gs_C E yX1_second cX1_second 2 (some .int) 0 { frames := 0, cells := 0, slots := 0, locals := 0 } [gr E r0, gi v1] σ (f_X1_second r0 v1 σ) (fun v : Int => (v, σ)) := by
  unfold f_X1_second
  refine gs_enter (L := [(0, gr E r0), (1, gi v1)]) (by decide) rfl rfl (Nat.le_of_ble_eq_true rfl) rfl ?_
  refine gk_iload_n (pc := 0) 1 dX1_second_0 rfl ?_
  refine gk_if_lt (tgt := 21) (pc := 1) dX1_second_1 (by decide) rfl ?_ ?_
  · refine gk_iconst (pc := 21) dX1_second_21 ?_
    exact gk_iret (pc := 22) rfl dX1_second_22
  · refine gk_iload_n (pc := 4) 1 dX1_second_4 rfl ?_
    refine gk_aload_n (pc := 5) 0 dX1_second_5 rfl ?_
    refine gk_getI (pc := 6) rfl clsX1 (rw_lt0 hr0) (rw_sh hr0) 3 (by decide) rfl ww_132 dX1_second_6 ?_
    refine gk_icmp_ge (tgt := 21) (pc := 9) dX1_second_9 (by decide) rfl rfl ?_ ?_
    · refine gk_iconst (pc := 21) dX1_second_21 ?_
      exact gk_iret (pc := 22) rfl dX1_second_22
    · refine gk_aload_n (pc := 12) 0 dX1_second_12 rfl ?_
      refine gk_getR (q := (r0 + 2)) (pc := 13) rfl clsX1 (rw_lt0 hr0) (rw_sh hr0) 2 (by decide) rfl ww_131 dX1_second_13 ?_
      refine gk_iload_n (pc := 16) 1 dX1_second_16 rfl ?_
      refine gk_iald_c (pc := 17) (rw_lt2 hr0) (rw_s2 hr0) rfl dX1_second_17 ?_
      refine gk_goto (tgt := 22) (pc := 18) dX1_second_18 (by decide) ?_
      exact gk_iret (pc := 22) rfl dX1_second_22
def f_X1_copyFrom (r0 : Nat) (r1 : Nat) (σ : gs_Mem) : Option (Int × gs_Mem) :=
  gs_chkc 0 0 8 8 8 (
  gs_chkc 0 0 8 8 8 (
  some (0, (gs_st (gs_cp (gs_cp σ (r1 + 1) 0 (r0 + 1) 0 8) (r1 + 2) 0 (r0 + 2) 0 8) r0 3 ((gs_cp (gs_cp σ (r1 + 1) 0 (r0 + 1) 0 8) (r1 + 2) 0 (r0 + 2) 0 8) r1 3)))))
set_option maxRecDepth 100000 in
set_option maxHeartbeats 4000000 in
theorem c_X1_copyFrom {E : gs_E} (r0 : Nat) (r1 : Nat) (hr0 : isRw r0) (hr1 : isRw r1) (σ : gs_Mem) : gs_C E yX1_copyFrom cX1_copyFrom 2 none 2 { frames := 1, cells := 0, slots := 0, locals := 80 } [gr E r0, gr E r1] σ (f_X1_copyFrom r0 r1 σ) (fun b : Int × gs_Mem => b) := by
  unfold f_X1_copyFrom
  refine gs_enter (L := [(0, gr E r0), (1, gr E r1)]) (by decide) rfl rfl (Nat.le_of_ble_eq_true rfl) rfl ?_
  refine gk_aload_n (pc := 0) 1 dX1_copyFrom_0 rfl ?_
  refine gk_getR (q := (r1 + 1)) (pc := 1) rfl clsX1 (rw_lt0 hr1) (rw_sh hr1) 1 (by decide) rfl ww_130 dX1_copyFrom_1 ?_
  refine gk_iconst (pc := 4) dX1_copyFrom_4 ?_
  refine gk_aload_n (pc := 5) 0 dX1_copyFrom_5 rfl ?_
  refine gk_getR (q := (r0 + 1)) (pc := 6) rfl clsX1 (rw_lt0 hr0) (rw_sh hr0) 1 (by decide) rfl ww_130 dX1_copyFrom_6 ?_
  refine gk_iconst (pc := 9) dX1_copyFrom_9 ?_
  refine gk_bipush (pc := 10) dX1_copyFrom_10 (by decide +kernel) ?_
  refine gk_copy_i_c (pc := 12) rfl acw_RX1_31 (rw_lt1 hr1) (rw_s1 hr1) (rw_lt1 hr0) (rw_s1 hr0) (by decide +kernel) (by decide +kernel) (by decide +kernel) (Nat.le_of_ble_eq_true rfl) (Nat.le_of_ble_eq_true rfl) dX1_copyFrom_12 ?_
  refine gk_aload_n (pc := 15) 1 dX1_copyFrom_15 rfl ?_
  refine gk_getR (q := (r1 + 2)) (pc := 16) rfl clsX1 (rw_lt0 hr1) (rw_sh hr1) 2 (by decide) rfl ww_131 dX1_copyFrom_16 ?_
  refine gk_iconst (pc := 19) dX1_copyFrom_19 ?_
  refine gk_aload_n (pc := 20) 0 dX1_copyFrom_20 rfl ?_
  refine gk_getR (q := (r0 + 2)) (pc := 21) rfl clsX1 (rw_lt0 hr0) (rw_sh hr0) 2 (by decide) rfl ww_131 dX1_copyFrom_21 ?_
  refine gk_iconst (pc := 24) dX1_copyFrom_24 ?_
  refine gk_bipush (pc := 25) dX1_copyFrom_25 (by decide +kernel) ?_
  refine gk_copy_i_c (pc := 27) rfl acw_RX1_31 (rw_lt2 hr1) (rw_s2 hr1) (rw_lt2 hr0) (rw_s2 hr0) (by decide +kernel) (by decide +kernel) (by decide +kernel) (Nat.le_of_ble_eq_true rfl) (Nat.le_of_ble_eq_true rfl) dX1_copyFrom_27 ?_
  refine gk_aload_n (pc := 30) 0 dX1_copyFrom_30 rfl ?_
  refine gk_aload_n (pc := 31) 1 dX1_copyFrom_31 rfl ?_
  refine gk_getI (pc := 32) rfl clsX1 (rw_lt0 hr1) (rw_sh hr1) 3 (by decide) rfl ww_132 dX1_copyFrom_32 ?_
  refine gk_putF (pc := 35) rfl clsX1 (rw_lt0 hr0) (rw_sh hr0) 3 (by decide) rfl rfl rfl rfl ww_132 dX1_copyFrom_35 ?_
  exact gk_vret (pc := 38) rfl dX1_copyFrom_38
def f_X2_copyFrom (r0 : Nat) (r1 : Nat) (σ : gs_Mem) : Option (Int × gs_Mem) :=
  (f_X0_copyFrom (r0 + 1) (r1 + 1) σ).bind fun b1 =>
  (f_X1_copyFrom (r0 + 10) (r1 + 10) b1.2).bind fun b2 =>
  (f_X1_copyFrom (r0 + 13) (r1 + 13) b2.2).bind fun b3 =>
  (f_X1_copyFrom (r0 + 16) (r1 + 16) b3.2).bind fun b4 =>
  some (0, b4.2)
set_option maxRecDepth 100000 in
set_option maxHeartbeats 4000000 in
theorem c_X2_copyFrom {E : gs_E} (r0 : Nat) (r1 : Nat) (hr0 : isSt r0) (hr1 : isSt r1) (σ : gs_Mem) : gs_C E yX2_copyFrom cX2_copyFrom 2 none 2 { frames := 2, cells := 0, slots := 0, locals := 101 } [gr E r0, gr E r1] σ (f_X2_copyFrom r0 r1 σ) (fun b : Int × gs_Mem => b) := by
  unfold f_X2_copyFrom
  refine gs_enter (L := [(0, gr E r0), (1, gr E r1)]) (by decide) rfl rfl (Nat.le_of_ble_eq_true rfl) rfl ?_
  refine gk_aload_n (pc := 0) 0 dX2_copyFrom_0 rfl ?_
  refine gk_getR (q := (r0 + 1)) (pc := 1) rfl clsX2 (st_lt0 hr0) (st_sh hr0) 0 (by decide) rfl ww_142 dX2_copyFrom_1 ?_
  refine gk_aload_n (pc := 4) 1 dX2_copyFrom_4 rfl ?_
  refine gk_getR (q := (r1 + 1)) (pc := 5) rfl clsX2 (st_lt0 hr1) (st_sh hr1) 0 (by decide) rfl ww_142 dX2_copyFrom_5 ?_
  refine gk_callV_vw (As := [gr E (r1 + 1)]) (pc := 8) (c_X0_copyFrom (r0 + 1) (r1 + 1) (st_pl1 hr0) (st_pl1 hr1) σ) rfl mm_X0_copyFrom ww_707 clsX0 rfl (pl_lt0 (st_pl1 hr0)) (pl_sh (st_pl1 hr0)) (gs_fit_of (Nat.le_of_ble_eq_true rfl) (Nat.le_of_ble_eq_true rfl)) rfl rfl (Nat.le_of_ble_eq_true rfl) dX2_copyFrom_8 (fun b1 => ?_)
  refine gk_aload_n (pc := 11) 0 dX2_copyFrom_11 rfl ?_
  refine gk_getR (q := (r0 + 10)) (pc := 12) rfl clsX2 (st_lt0 hr0) (st_sh hr0) 1 (by decide) rfl ww_144 dX2_copyFrom_12 ?_
  refine gk_aload_n (pc := 15) 1 dX2_copyFrom_15 rfl ?_
  refine gk_getR (q := (r1 + 10)) (pc := 16) rfl clsX2 (st_lt0 hr1) (st_sh hr1) 1 (by decide) rfl ww_144 dX2_copyFrom_16 ?_
  refine gk_callV_vw (As := [gr E (r1 + 10)]) (pc := 19) (c_X1_copyFrom (r0 + 10) (r1 + 10) (st_rw10 hr0) (st_rw10 hr1) b1.2) rfl mm_X1_copyFrom ww_708 clsX1 rfl (rw_lt0 (st_rw10 hr0)) (rw_sh (st_rw10 hr0)) (gs_fit_of (Nat.le_of_ble_eq_true rfl) (Nat.le_of_ble_eq_true rfl)) rfl rfl (Nat.le_of_ble_eq_true rfl) dX2_copyFrom_19 (fun b2 => ?_)
  refine gk_aload_n (pc := 22) 0 dX2_copyFrom_22 rfl ?_
  refine gk_getR (q := (r0 + 13)) (pc := 23) rfl clsX2 (st_lt0 hr0) (st_sh hr0) 2 (by decide) rfl ww_146 dX2_copyFrom_23 ?_
  refine gk_aload_n (pc := 26) 1 dX2_copyFrom_26 rfl ?_
  refine gk_getR (q := (r1 + 13)) (pc := 27) rfl clsX2 (st_lt0 hr1) (st_sh hr1) 2 (by decide) rfl ww_146 dX2_copyFrom_27 ?_
  refine gk_callV_vw (As := [gr E (r1 + 13)]) (pc := 30) (c_X1_copyFrom (r0 + 13) (r1 + 13) (st_rw13 hr0) (st_rw13 hr1) b2.2) rfl mm_X1_copyFrom ww_708 clsX1 rfl (rw_lt0 (st_rw13 hr0)) (rw_sh (st_rw13 hr0)) (gs_fit_of (Nat.le_of_ble_eq_true rfl) (Nat.le_of_ble_eq_true rfl)) rfl rfl (Nat.le_of_ble_eq_true rfl) dX2_copyFrom_30 (fun b3 => ?_)
  refine gk_aload_n (pc := 33) 0 dX2_copyFrom_33 rfl ?_
  refine gk_getR (q := (r0 + 16)) (pc := 34) rfl clsX2 (st_lt0 hr0) (st_sh hr0) 3 (by decide) rfl ww_148 dX2_copyFrom_34 ?_
  refine gk_aload_n (pc := 37) 1 dX2_copyFrom_37 rfl ?_
  refine gk_getR (q := (r1 + 16)) (pc := 38) rfl clsX2 (st_lt0 hr1) (st_sh hr1) 3 (by decide) rfl ww_148 dX2_copyFrom_38 ?_
  refine gk_callV_vw (As := [gr E (r1 + 16)]) (pc := 41) (c_X1_copyFrom (r0 + 16) (r1 + 16) (st_rw16 hr0) (st_rw16 hr1) b3.2) rfl mm_X1_copyFrom ww_708 clsX1 rfl (rw_lt0 (st_rw16 hr0)) (rw_sh (st_rw16 hr0)) (gs_fit_of (Nat.le_of_ble_eq_true rfl) (Nat.le_of_ble_eq_true rfl)) rfl rfl (Nat.le_of_ble_eq_true rfl) dX2_copyFrom_41 (fun b4 => ?_)
  exact gk_vret (pc := 44) rfl dX2_copyFrom_44
def f_X3_isBlank (r0 : Nat) (σ : gs_Mem) : Option (Int) :=
  if (gn (σ r0 1)) = (-1) then
    some 1
  else
    some 0
set_option maxRecDepth 100000 in
set_option maxHeartbeats 4000000 in
theorem c_X3_isBlank {E : gs_E} (r0 : Nat) (hr0 : isTp r0) (σ : gs_Mem) : gs_C E yX3_isBlank cX3_isBlank 1 (some .boolean) 0 { frames := 0, cells := 0, slots := 0, locals := 0 } [gr E r0] σ (f_X3_isBlank r0 σ) (fun v : Int => (v, σ)) := by
  unfold f_X3_isBlank
  refine gs_enter (L := [(0, gr E r0)]) (by decide) rfl rfl (Nat.le_of_ble_eq_true rfl) rfl ?_
  refine gk_aload_n (pc := 0) 0 dX3_isBlank_0 rfl ?_
  refine gk_getI (pc := 1) rfl clsX3 (tp_lt0 hr0) (tp_sh hr0) 1 (by decide) rfl ww_218 dX3_isBlank_1 ?_
  refine gk_iconst (pc := 4) dX3_isBlank_4 ?_
  refine gk_icmp_ne (tgt := 12) (pc := 5) dX3_isBlank_5 (by decide) rfl (by decide +kernel) ?_ ?_
  · refine gk_iconst (pc := 12) dX3_isBlank_12 ?_
    exact gk_zret (pc := 13) (Or.inl (by decide +kernel)) rfl dX3_isBlank_13
  · refine gk_iconst (pc := 8) dX3_isBlank_8 ?_
    refine gk_goto (tgt := 13) (pc := 9) dX3_isBlank_9 (by decide) ?_
    exact gk_zret (pc := 13) (Or.inr (by decide +kernel)) rfl dX3_isBlank_13
def f_X3_sort (r0 : Nat) (σ : gs_Mem) : Option (Int) :=
  some (σ r0 1)
set_option maxRecDepth 100000 in
set_option maxHeartbeats 4000000 in
theorem c_X3_sort {E : gs_E} (r0 : Nat) (hr0 : isTp r0) (σ : gs_Mem) : gs_C E yX3_sort cX3_sort 1 (some .int) 0 { frames := 0, cells := 0, slots := 0, locals := 0 } [gr E r0] σ (f_X3_sort r0 σ) (fun v : Int => (v, σ)) := by
  unfold f_X3_sort
  refine gs_enter (L := [(0, gr E r0)]) (by decide) rfl rfl (Nat.le_of_ble_eq_true rfl) rfl ?_
  refine gk_aload_n (pc := 0) 0 dX3_sort_0 rfl ?_
  refine gk_getI (pc := 1) rfl clsX3 (tp_lt0 hr0) (tp_sh hr0) 1 (by decide) rfl ww_218 dX3_sort_1 ?_
  exact gk_iret (pc := 4) rfl dX3_sort_4
def f_X3_become_L21 (v0 : Nat) : Nat → Int → gs_Mem → Option (Int × gs_Mem)
  | 0, _, _ => none
  | n + 1, v3, σ =>
    if 60 ≤ (gn v3) then
      some (0, σ)
    else
      gs_chk (gn v3) 60 (
      f_X3_become_L21 v0 n (v3 + 1) (gs_st σ (v0 + 1) (gn v3).toNat 0))
set_option maxRecDepth 100000 in
set_option maxHeartbeats 4000000 in
theorem k_X3_become_L21 {E : gs_E} (v0 : Nat) (hv0 : isTp v0)  : ∀ (n : Nat) (v3 : Int) (σ : gs_Mem), gs_K E (gs_MC E yX3_become cX3_become 4 none 2 { frames := 1, cells := 0, slots := 0, locals := 21 }) (fun b : Int × gs_Mem => b) (f_X3_become_L21 v0 n v3 σ) 21 [(0, gr E v0), (3, gi v3)] [] σ := by
  intro n
  induction n with
  | zero => intro v3 σ; rw [f_X3_become_L21]; exact gk_none
  | succ n ih =>
    intro v3 σ; rw [f_X3_become_L21]
    refine gk_iload_n (pc := 21) 1 dX3_become_21 rfl ?_
    refine gk_bipush (pc := 22) dX3_become_22 (by decide +kernel) ?_
    refine gk_icmp_ge (tgt := 40) (pc := 24) dX3_become_24 (by decide) rfl (by decide +kernel) ?_ ?_
    · exact gk_vret (pc := 40) rfl dX3_become_40
    · refine gk_aload_n (pc := 27) 0 dX3_become_27 rfl ?_
      refine gk_getR (q := (v0 + 1)) (pc := 28) rfl clsX3 (tp_lt0 hv0) (tp_sh hv0) 0 (by decide) rfl ww_217 dX3_become_28 ?_
      refine gk_iload_n (pc := 31) 1 dX3_become_31 rfl ?_
      refine gk_lconst (x := 0) (pc := 32) dX3_become_32 (by decide +kernel) ?_
      refine gk_last_c (pc := 33) (tp_lt1 hv0) (tp_s1 hv0) rfl dX3_become_33 ?_
      refine gk_iinc (L' := [(3, gi (v3 + 1)), (0, gr E v0)]) (pc := 34) 1 dX3_become_34 rfl (Nat.le_of_ble_eq_true rfl) rfl ?_
      refine gk_goto (tgt := 21) (pc := 37) dX3_become_37 (by decide) ?_
      refine gk_sub (L' := [(0, gr E v0), (3, gi (v3 + 1))]) [1, 0] rfl ?_
      exact ih (v3 + 1) (gs_st σ (v0 + 1) (gn v3).toNat 0)
def f_X3_become (r0 : Nat) (v1 : Int) (v2 : Int) (σ : gs_Mem) : Option (Int × gs_Mem) :=
  f_X3_become_L21 r0 gs_fuel 0 (gs_st (gs_st σ r0 1 v1) r0 2 (gmax 0 (gmin v2 60)))
set_option maxRecDepth 100000 in
set_option maxHeartbeats 4000000 in
theorem c_X3_become {E : gs_E} (r0 : Nat) (v1 : Int) (v2 : Int) (hr0 : isTp r0) (σ : gs_Mem) : gs_C E yX3_become cX3_become 4 none 2 { frames := 1, cells := 0, slots := 0, locals := 21 } [gr E r0, gi v1, gi v2] σ (f_X3_become r0 v1 v2 σ) (fun b : Int × gs_Mem => b) := by
  unfold f_X3_become
  refine gs_enter (L := [(0, gr E r0), (1, gi v1), (2, gi v2)]) (by decide) rfl rfl (Nat.le_of_ble_eq_true rfl) rfl ?_
  refine gk_aload_n (pc := 0) 0 dX3_become_0 rfl ?_
  refine gk_iload_n (pc := 1) 1 dX3_become_1 rfl ?_
  refine gk_putF (pc := 2) rfl clsX3 (tp_lt0 hr0) (tp_sh hr0) 1 (by decide) rfl rfl rfl rfl ww_218 dX3_become_2 ?_
  refine gk_aload_n (pc := 5) 0 dX3_become_5 rfl ?_
  refine gk_iconst (pc := 6) dX3_become_6 ?_
  refine gk_iload_n (pc := 7) 2 dX3_become_7 rfl ?_
  refine gk_bipush (pc := 8) dX3_become_8 (by decide +kernel) ?_
  refine gk_mmin (pc := 10) rfl mmw_RX3_22 (Nat.le_of_ble_eq_true rfl) (Nat.le_of_ble_eq_true rfl) ⟨Nat.le_refl 0, Nat.le_refl 0⟩ dX3_become_10 ?_
  refine gk_mmax (pc := 13) rfl mmw_RX3_28 (Nat.le_of_ble_eq_true rfl) (Nat.le_of_ble_eq_true rfl) ⟨Nat.le_refl 0, Nat.le_refl 0⟩ dX3_become_13 ?_
  refine gk_putF (pc := 16) rfl clsX3 (tp_lt0 hr0) (tp_sh hr0) 2 (by decide) rfl rfl rfl rfl ww_219 dX3_become_16 ?_
  refine gk_iconst (pc := 19) dX3_become_19 ?_
  refine gk_istore_n (L' := [(3, gi 0), (0, gr E r0), (1, gi v1), (2, gi v2)]) (pc := 20) dX3_become_20 (Nat.le_of_ble_eq_true rfl) rfl ?_
  refine gk_sub (L' := [(0, gr E r0), (3, gi 0)]) [1, 0] rfl ?_
  exact k_X3_become_L21 r0 hr0 gs_fuel 0 (gs_st (gs_st σ r0 1 v1) r0 2 (gmax 0 (gmin v2 60)))
def f_X3_holds (r0 : Nat) (v1 : Int) (σ : gs_Mem) : Option (Int) :=
  if (gn v1) < 0 then
    some 0
  else
    if (gn (σ r0 2)) ≤ (gn v1) then
      some 0
    else
      some 1
set_option maxRecDepth 100000 in
set_option maxHeartbeats 4000000 in
theorem c_X3_holds {E : gs_E} (r0 : Nat) (v1 : Int) (hr0 : isTp r0) (σ : gs_Mem) : gs_C E yX3_holds cX3_holds 2 (some .boolean) 0 { frames := 0, cells := 0, slots := 0, locals := 0 } [gr E r0, gi v1] σ (f_X3_holds r0 v1 σ) (fun v : Int => (v, σ)) := by
  unfold f_X3_holds
  refine gs_enter (L := [(0, gr E r0), (1, gi v1)]) (by decide) rfl rfl (Nat.le_of_ble_eq_true rfl) rfl ?_
  refine gk_iload_n (pc := 0) 1 dX3_holds_0 rfl ?_
  refine gk_if_lt (tgt := 16) (pc := 1) dX3_holds_1 (by decide) rfl ?_ ?_
  · refine gk_iconst (pc := 16) dX3_holds_16 ?_
    exact gk_zret (pc := 17) (Or.inl (by decide +kernel)) rfl dX3_holds_17
  · refine gk_iload_n (pc := 4) 1 dX3_holds_4 rfl ?_
    refine gk_aload_n (pc := 5) 0 dX3_holds_5 rfl ?_
    refine gk_getI (pc := 6) rfl clsX3 (tp_lt0 hr0) (tp_sh hr0) 2 (by decide) rfl ww_219 dX3_holds_6 ?_
    refine gk_icmp_ge (tgt := 16) (pc := 9) dX3_holds_9 (by decide) rfl rfl ?_ ?_
    · refine gk_iconst (pc := 16) dX3_holds_16 ?_
      exact gk_zret (pc := 17) (Or.inl (by decide +kernel)) rfl dX3_holds_17
    · refine gk_iconst (pc := 12) dX3_holds_12 ?_
      refine gk_goto (tgt := 17) (pc := 13) dX3_holds_13 (by decide) ?_
      exact gk_zret (pc := 17) (Or.inr (by decide +kernel)) rfl dX3_holds_17
def f_X3_holdsRun (r0 : Nat) (v1 : Int) (v2 : Int) (σ : gs_Mem) : Option (Int) :=
  if (gn v1) < 0 then
    some 0
  else
    if (gn v2) < 0 then
      some 0
    else
      if (gn ((σ r0 2) - v1)) < (gn v2) then
        some 0
      else
        some 1
set_option maxRecDepth 100000 in
set_option maxHeartbeats 4000000 in
theorem c_X3_holdsRun {E : gs_E} (r0 : Nat) (v1 : Int) (v2 : Int) (hr0 : isTp r0) (σ : gs_Mem) : gs_C E yX3_holdsRun cX3_holdsRun 3 (some .boolean) 0 { frames := 0, cells := 0, slots := 0, locals := 0 } [gr E r0, gi v1, gi v2] σ (f_X3_holdsRun r0 v1 v2 σ) (fun v : Int => (v, σ)) := by
  unfold f_X3_holdsRun
  refine gs_enter (L := [(0, gr E r0), (1, gi v1), (2, gi v2)]) (by decide) rfl rfl (Nat.le_of_ble_eq_true rfl) rfl ?_
  refine gk_iload_n (pc := 0) 1 dX3_holdsRun_0 rfl ?_
  refine gk_if_lt (tgt := 22) (pc := 1) dX3_holdsRun_1 (by decide) rfl ?_ ?_
  · refine gk_iconst (pc := 22) dX3_holdsRun_22 ?_
    exact gk_zret (pc := 23) (Or.inl (by decide +kernel)) rfl dX3_holdsRun_23
  · refine gk_iload_n (pc := 4) 2 dX3_holdsRun_4 rfl ?_
    refine gk_if_lt (tgt := 22) (pc := 5) dX3_holdsRun_5 (by decide) rfl ?_ ?_
    · refine gk_iconst (pc := 22) dX3_holdsRun_22 ?_
      exact gk_zret (pc := 23) (Or.inl (by decide +kernel)) rfl dX3_holdsRun_23
    · refine gk_iload_n (pc := 8) 2 dX3_holdsRun_8 rfl ?_
      refine gk_aload_n (pc := 9) 0 dX3_holdsRun_9 rfl ?_
      refine gk_getI (pc := 10) rfl clsX3 (tp_lt0 hr0) (tp_sh hr0) 2 (by decide) rfl ww_219 dX3_holdsRun_10 ?_
      refine gk_iload_n (pc := 13) 1 dX3_holdsRun_13 rfl ?_
      refine gk_isub (pc := 14) dX3_holdsRun_14 ?_
      refine gk_icmp_gt (tgt := 22) (pc := 15) dX3_holdsRun_15 (by decide) rfl rfl ?_ ?_
      · refine gk_iconst (pc := 22) dX3_holdsRun_22 ?_
        exact gk_zret (pc := 23) (Or.inl (by decide +kernel)) rfl dX3_holdsRun_23
      · refine gk_iconst (pc := 18) dX3_holdsRun_18 ?_
        refine gk_goto (tgt := 23) (pc := 19) dX3_holdsRun_19 (by decide) ?_
        exact gk_zret (pc := 23) (Or.inr (by decide +kernel)) rfl dX3_holdsRun_23
def f_X3_get (r0 : Nat) (v1 : Int) (σ : gs_Mem) : Option (Int) :=
  (f_X3_holds r0 v1 σ).bind fun u1 =>
  if (gn u1) = 0 then
    some (-9223372036854775808)
  else
    gs_chk (gn v1) 60 (
    some (σ (r0 + 1) (gn v1).toNat))
set_option maxRecDepth 100000 in
set_option maxHeartbeats 4000000 in
theorem c_X3_get {E : gs_E} (r0 : Nat) (v1 : Int) (hr0 : isTp r0) (σ : gs_Mem) : gs_C E yX3_get cX3_get 2 (some .long) 1 { frames := 1, cells := 0, slots := 0, locals := 21 } [gr E r0, gi v1] σ (f_X3_get r0 v1 σ) (fun v : Int => (v, σ)) := by
  unfold f_X3_get
  refine gs_enter (L := [(0, gr E r0), (1, gi v1)]) (by decide) rfl rfl (Nat.le_of_ble_eq_true rfl) rfl ?_
  refine gk_aload_n (pc := 0) 0 dX3_get_0 rfl ?_
  refine gk_iload_n (pc := 1) 1 dX3_get_1 rfl ?_
  refine gk_callV_ir (As := [gi v1]) (pc := 2) (c_X3_holds r0 v1 hr0 σ) rfl mm_X3_holds ww_697 clsX3 rfl (tp_lt0 hr0) (tp_sh hr0) (gs_fit_of (Nat.le_of_ble_eq_true rfl) (Nat.le_of_ble_eq_true rfl)) rfl rfl (Nat.le_of_ble_eq_true rfl) dX3_get_2 (fun u1 => ?_)
  refine gk_if_eq (tgt := 17) (pc := 5) dX3_get_5 (by decide) rfl ?_ ?_
  · refine gk_ldc2 (x := -9223372036854775808) (pc := 17) rfl dX3_get_17 ww_698 (by decide +kernel) ?_
    exact gk_lret (pc := 20) rfl dX3_get_20
  · refine gk_aload_n (pc := 8) 0 dX3_get_8 rfl ?_
    refine gk_getR (q := (r0 + 1)) (pc := 9) rfl clsX3 (tp_lt0 hr0) (tp_sh hr0) 0 (by decide) rfl ww_217 dX3_get_9 ?_
    refine gk_iload_n (pc := 12) 1 dX3_get_12 rfl ?_
    refine gk_lald_c (pc := 13) (tp_lt1 hr0) (tp_s1 hr0) rfl dX3_get_13 ?_
    refine gk_goto (tgt := 20) (pc := 14) dX3_get_14 (by decide) ?_
    exact gk_lret (pc := 20) rfl dX3_get_20
def f_X3_cut (r0 : Nat) (v1 : Int) (σ : gs_Mem) : Option (Int) :=
  if (gn (σ r0 1)) = 0 then
    some (gn (gb v1))
  else if (gn (σ r0 1)) = 1 then
    some (gn (gsh v1))
  else if (gn (σ r0 1)) = 2 then
    some (gn v1)
  else if (gn (σ r0 1)) = 3 then
    some v1
  else 
    if (gn (gcmp v1 0)) = 0 then
      some 0
    else
      some 1
set_option maxRecDepth 100000 in
set_option maxHeartbeats 4000000 in
theorem c_X3_cut {E : gs_E} (r0 : Nat) (v1 : Int) (hr0 : isTp r0) (σ : gs_Mem) : gs_C E yX3_cut cX3_cut 3 (some .long) 1 { frames := 0, cells := 0, slots := 0, locals := 0 } [gr E r0, gl v1] σ (f_X3_cut r0 v1 σ) (fun v : Int => (v, σ)) := by
  unfold f_X3_cut
  refine gs_enter (L := [(0, gr E r0), (1, gl v1)]) (by decide) rfl rfl (Nat.le_of_ble_eq_true rfl) rfl ?_
  refine gk_aload_n (pc := 0) 0 dX3_cut_0 rfl ?_
  refine gk_getI (pc := 1) rfl clsX3 (tp_lt0 hr0) (tp_sh hr0) 1 (by decide) rfl ww_218 dX3_cut_1 ?_
  refine gk_sw (tgt := 36) (pc := 4) 0 dX3_cut_4 (by decide) rfl (by decide) ?_ (fun hs0 => ?_)
  · refine gk_lload_n (pc := 36) 1 dX3_cut_36 rfl ?_
    refine gk_l2i (pc := 37) dX3_cut_37 ?_
    refine gk_i2b (pc := 38) dX3_cut_38 ?_
    refine gk_i2l (pc := 39) dX3_cut_39 ?_
    exact gk_lret (pc := 40) rfl dX3_cut_40
  refine gk_sw (tgt := 41) (pc := 4) 1 dX3_cut_4 (by decide) rfl (by decide) ?_ (fun hs1 => ?_)
  · refine gk_lload_n (pc := 41) 1 dX3_cut_41 rfl ?_
    refine gk_l2i (pc := 42) dX3_cut_42 ?_
    refine gk_i2s (pc := 43) dX3_cut_43 ?_
    refine gk_i2l (pc := 44) dX3_cut_44 ?_
    exact gk_lret (pc := 45) rfl dX3_cut_45
  refine gk_sw (tgt := 46) (pc := 4) 2 dX3_cut_4 (by decide) rfl (by decide) ?_ (fun hs2 => ?_)
  · refine gk_lload_n (pc := 46) 1 dX3_cut_46 rfl ?_
    refine gk_l2i (pc := 47) dX3_cut_47 ?_
    refine gk_i2l (pc := 48) dX3_cut_48 ?_
    exact gk_lret (pc := 49) rfl dX3_cut_49
  refine gk_sw (tgt := 50) (pc := 4) 3 dX3_cut_4 (by decide) rfl (by decide) ?_ (fun hs3 => ?_)
  · refine gk_lload_n (pc := 50) 1 dX3_cut_50 rfl ?_
    exact gk_lret (pc := 51) rfl dX3_cut_51
  refine gk_swD (tgt := 52) (pc := 4) dX3_cut_4 (by omega) (by decide) ?_
  refine gk_lload_n (pc := 52) 1 dX3_cut_52 rfl ?_
  refine gk_lconst (x := 0) (pc := 53) dX3_cut_53 (by decide +kernel) ?_
  refine gk_lcmp (pc := 54) dX3_cut_54 ?_
  refine gk_if_ne (tgt := 62) (pc := 55) dX3_cut_55 (by decide) rfl ?_ ?_
  · refine gk_lconst (x := 1) (pc := 62) dX3_cut_62 (by decide +kernel) ?_
    exact gk_lret (pc := 63) rfl dX3_cut_63
  · refine gk_lconst (x := 0) (pc := 58) dX3_cut_58 (by decide +kernel) ?_
    refine gk_goto (tgt := 63) (pc := 59) dX3_cut_59 (by decide) ?_
    exact gk_lret (pc := 63) rfl dX3_cut_63
def f_X3_put (r0 : Nat) (v1 : Int) (v2 : Int) (σ : gs_Mem) : Option (Int × gs_Mem) :=
  (f_X3_holds r0 v1 σ).bind fun u1 =>
  if (gn u1) = 0 then
    some (0, σ)
  else
    (f_X3_cut r0 v2 σ).bind fun u2 =>
    gs_chk (gn v1) 60 (
    some (0, (gs_st σ (r0 + 1) (gn v1).toNat u2)))
set_option maxRecDepth 100000 in
set_option maxHeartbeats 4000000 in
theorem c_X3_put {E : gs_E} (r0 : Nat) (v1 : Int) (v2 : Int) (hr0 : isTp r0) (σ : gs_Mem) : gs_C E yX3_put cX3_put 4 none 2 { frames := 1, cells := 0, slots := 0, locals := 22 } [gr E r0, gi v1, gl v2] σ (f_X3_put r0 v1 v2 σ) (fun b : Int × gs_Mem => b) := by
  unfold f_X3_put
  refine gs_enter (L := [(0, gr E r0), (1, gi v1), (2, gl v2)]) (by decide) rfl rfl (Nat.le_of_ble_eq_true rfl) rfl ?_
  refine gk_aload_n (pc := 0) 0 dX3_put_0 rfl ?_
  refine gk_iload_n (pc := 1) 1 dX3_put_1 rfl ?_
  refine gk_callV_ir (As := [gi v1]) (pc := 2) (c_X3_holds r0 v1 hr0 σ) rfl mm_X3_holds ww_697 clsX3 rfl (tp_lt0 hr0) (tp_sh hr0) (gs_fit_of (Nat.le_of_ble_eq_true rfl) (Nat.le_of_ble_eq_true rfl)) rfl rfl (Nat.le_of_ble_eq_true rfl) dX3_put_2 (fun u1 => ?_)
  refine gk_if_eq (tgt := 19) (pc := 5) dX3_put_5 (by decide) rfl ?_ ?_
  · exact gk_vret (pc := 19) rfl dX3_put_19
  · refine gk_aload_n (pc := 8) 0 dX3_put_8 rfl ?_
    refine gk_getR (q := (r0 + 1)) (pc := 9) rfl clsX3 (tp_lt0 hr0) (tp_sh hr0) 0 (by decide) rfl ww_217 dX3_put_9 ?_
    refine gk_iload_n (pc := 12) 1 dX3_put_12 rfl ?_
    refine gk_aload_n (pc := 13) 0 dX3_put_13 rfl ?_
    refine gk_lload_n (pc := 14) 2 dX3_put_14 rfl ?_
    refine gk_callV_lr (As := [gl v2]) (pc := 15) (c_X3_cut r0 v2 hr0 σ) rfl mm_X3_cut ww_747 clsX3 rfl (tp_lt0 hr0) (tp_sh hr0) (gs_fit_of (Nat.le_of_ble_eq_true rfl) (Nat.le_of_ble_eq_true rfl)) rfl rfl (Nat.le_of_ble_eq_true rfl) dX3_put_15 (fun u2 => ?_)
    refine gk_last_c (pc := 18) (tp_lt1 hr0) (tp_s1 hr0) rfl dX3_put_18 ?_
    exact gk_vret (pc := 19) rfl dX3_put_19
def f_X3_take (r0 : Nat) (v1 : Int) (r2 : Nat) (v3 : Int) (v4 : Int) (σ : gs_Mem) : Option (Int × gs_Mem) :=
  (f_X3_holdsRun r0 v1 v4 σ).bind fun u1 =>
  if (gn u1) = 0 then
    some (0, σ)
  else
    (f_X3_holdsRun r2 v3 v4 σ).bind fun u2 =>
    if (gn u2) = 0 then
      some (0, σ)
    else
      gs_chkc (gn v3) (gn v1) (gn v4) 60 60 (
      some (0, (gs_cp σ (r2 + 1) (gn v3).toNat (r0 + 1) (gn v1).toNat (gn v4).toNat)))
set_option maxRecDepth 100000 in
set_option maxHeartbeats 4000000 in
theorem c_X3_take {E : gs_E} (r0 : Nat) (v1 : Int) (r2 : Nat) (v3 : Int) (v4 : Int) (hr0 : isTp r0) (hr2 : isTp r2) (σ : gs_Mem) : gs_C E yX3_take cX3_take 5 none 2 { frames := 1, cells := 0, slots := 0, locals := 80 } [gr E r0, gi v1, gr E r2, gi v3, gi v4] σ (f_X3_take r0 v1 r2 v3 v4 σ) (fun b : Int × gs_Mem => b) := by
  unfold f_X3_take
  refine gs_enter (L := [(0, gr E r0), (1, gi v1), (2, gr E r2), (3, gi v3), (4, gi v4)]) (by decide) rfl rfl (Nat.le_of_ble_eq_true rfl) rfl ?_
  refine gk_aload_n (pc := 0) 0 dX3_take_0 rfl ?_
  refine gk_iload_n (pc := 1) 1 dX3_take_1 rfl ?_
  refine gk_iload (pc := 2) 4 dX3_take_2 rfl ?_
  refine gk_callV_ir (As := [gi v1, gi v4]) (pc := 4) (c_X3_holdsRun r0 v1 v4 hr0 σ) rfl mm_X3_holdsRun ww_767 clsX3 rfl (tp_lt0 hr0) (tp_sh hr0) (gs_fit_of (Nat.le_of_ble_eq_true rfl) (Nat.le_of_ble_eq_true rfl)) rfl rfl (Nat.le_of_ble_eq_true rfl) dX3_take_4 (fun u1 => ?_)
  refine gk_if_eq (tgt := 35) (pc := 7) dX3_take_7 (by decide) rfl ?_ ?_
  · exact gk_vret (pc := 35) rfl dX3_take_35
  · refine gk_aload_n (pc := 10) 2 dX3_take_10 rfl ?_
    refine gk_iload_n (pc := 11) 3 dX3_take_11 rfl ?_
    refine gk_iload (pc := 12) 4 dX3_take_12 rfl ?_
    refine gk_callV_ir (As := [gi v3, gi v4]) (pc := 14) (c_X3_holdsRun r2 v3 v4 hr2 σ) rfl mm_X3_holdsRun ww_767 clsX3 rfl (tp_lt0 hr2) (tp_sh hr2) (gs_fit_of (Nat.le_of_ble_eq_true rfl) (Nat.le_of_ble_eq_true rfl)) rfl rfl (Nat.le_of_ble_eq_true rfl) dX3_take_14 (fun u2 => ?_)
    refine gk_if_eq (tgt := 35) (pc := 17) dX3_take_17 (by decide) rfl ?_ ?_
    · exact gk_vret (pc := 35) rfl dX3_take_35
    · refine gk_aload_n (pc := 20) 2 dX3_take_20 rfl ?_
      refine gk_getR (q := (r2 + 1)) (pc := 21) rfl clsX3 (tp_lt0 hr2) (tp_sh hr2) 0 (by decide) rfl ww_217 dX3_take_21 ?_
      refine gk_iload_n (pc := 24) 3 dX3_take_24 rfl ?_
      refine gk_aload_n (pc := 25) 0 dX3_take_25 rfl ?_
      refine gk_getR (q := (r0 + 1)) (pc := 26) rfl clsX3 (tp_lt0 hr0) (tp_sh hr0) 0 (by decide) rfl ww_217 dX3_take_26 ?_
      refine gk_iload_n (pc := 29) 1 dX3_take_29 rfl ?_
      refine gk_iload (pc := 30) 4 dX3_take_30 rfl ?_
      refine gk_copy_l_c (pc := 32) rfl acw_RX3_45 (tp_lt1 hr2) (tp_s1 hr2) (tp_lt1 hr0) (tp_s1 hr0) rfl rfl rfl (Nat.le_of_ble_eq_true rfl) (Nat.le_of_ble_eq_true rfl) dX3_take_32 ?_
      exact gk_vret (pc := 35) rfl dX3_take_35
def f_X4_length  (σ : gs_Mem) : Option (Int) :=
  some (σ 51 1)
set_option maxRecDepth 100000 in
set_option maxHeartbeats 4000000 in
theorem c_X4_length {E : gs_E}   (σ : gs_Mem) : gs_C E yX4_length cX4_length 1 (some .int) 0 { frames := 0, cells := 0, slots := 0, locals := 0 } [gr E 51] σ (f_X4_length  σ) (fun v : Int => (v, σ)) := by
  unfold f_X4_length
  refine gs_enter (L := [(0, gr E 51)]) (by decide) rfl rfl (Nat.le_of_ble_eq_true rfl) rfl ?_
  refine gk_aload_n (pc := 0) 0 dX4_length_0 rfl ?_
  refine gk_getI (pc := 1) rfl clsX4 cll_51 sh_51 1 (by decide) rfl ww_181 dX4_length_1 ?_
  exact gk_iret (pc := 4) rfl dX4_length_4
def f_X4_append (v1 : Int) (σ : gs_Mem) : Option (Int × gs_Mem) :=
  if (gn (σ 51 1)) < 100 then
    gs_chk (gn (σ 51 1)) 100 (
    some (((gs_st (gs_st σ 52 (gn (σ 51 1)).toNat (gb (gb v1))) 51 1 (((gs_st σ 52 (gn (σ 51 1)).toNat (gb (gb v1))) 51 1) + 1)) 51 1), (gs_st (gs_st σ 52 (gn (σ 51 1)).toNat (gb (gb v1))) 51 1 (((gs_st σ 52 (gn (σ 51 1)).toNat (gb (gb v1))) 51 1) + 1))))
  else
    some ((-4), σ)
set_option maxRecDepth 100000 in
set_option maxHeartbeats 4000000 in
theorem c_X4_append {E : gs_E} (v1 : Int)  (σ : gs_Mem) : gs_C E yX4_append cX4_append 2 (some .int) 0 { frames := 0, cells := 0, slots := 0, locals := 0 } [gr E 51, gi v1] σ (f_X4_append v1 σ) (fun b : Int × gs_Mem => b) := by
  unfold f_X4_append
  refine gs_enter (L := [(0, gr E 51), (1, gi v1)]) (by decide) rfl rfl (Nat.le_of_ble_eq_true rfl) rfl ?_
  refine gk_aload_n (pc := 0) 0 dX4_append_0 rfl ?_
  refine gk_getI (pc := 1) rfl clsX4 cll_51 sh_51 1 (by decide) rfl ww_181 dX4_append_1 ?_
  refine gk_bipush (pc := 4) dX4_append_4 (by decide +kernel) ?_
  refine gk_icmp_lt (tgt := 12) (pc := 6) dX4_append_6 (by decide) rfl (by decide +kernel) ?_ ?_
  · refine gk_aload_n (pc := 12) 0 dX4_append_12 rfl ?_
    refine gk_getR (q := 52) (pc := 13) rfl clsX4 cll_51 sh_51 0 (by decide) rfl ww_180 dX4_append_13 ?_
    refine gk_aload_n (pc := 16) 0 dX4_append_16 rfl ?_
    refine gk_getI (pc := 17) rfl clsX4 cll_51 sh_51 1 (by decide) rfl ww_181 dX4_append_17 ?_
    refine gk_iload_n (pc := 20) 1 dX4_append_20 rfl ?_
    refine gk_i2b (pc := 21) dX4_append_21 ?_
    refine gk_bast_c (pc := 22) cll_52 sh_52 rfl dX4_append_22 ?_
    refine gk_aload_n (pc := 23) 0 dX4_append_23 rfl ?_
    refine gk_dup (pc := 24) dX4_append_24 rfl ?_
    refine gk_getI (pc := 25) rfl clsX4 cll_51 sh_51 1 (by decide) rfl ww_181 dX4_append_25 ?_
    refine gk_iconst (pc := 28) dX4_append_28 ?_
    refine gk_iadd (pc := 29) dX4_append_29 ?_
    refine gk_putF (pc := 30) rfl clsX4 cll_51 sh_51 1 (by decide) rfl rfl rfl rfl ww_181 dX4_append_30 ?_
    refine gk_aload_n (pc := 33) 0 dX4_append_33 rfl ?_
    refine gk_getI (pc := 34) rfl clsX4 cll_51 sh_51 1 (by decide) rfl ww_181 dX4_append_34 ?_
    exact gk_iret (pc := 37) rfl dX4_append_37
  · refine gk_bipush (pc := 9) dX4_append_9 (by decide +kernel) ?_
    exact gk_iret (pc := 11) rfl dX4_append_11
def f_X4_clear  (σ : gs_Mem) : Option (Int × gs_Mem) :=
  some (0, (gs_st σ 51 1 0))
set_option maxRecDepth 100000 in
set_option maxHeartbeats 4000000 in
theorem c_X4_clear {E : gs_E}   (σ : gs_Mem) : gs_C E yX4_clear cX4_clear 1 none 2 { frames := 0, cells := 0, slots := 0, locals := 0 } [gr E 51] σ (f_X4_clear  σ) (fun b : Int × gs_Mem => b) := by
  unfold f_X4_clear
  refine gs_enter (L := [(0, gr E 51)]) (by decide) rfl rfl (Nat.le_of_ble_eq_true rfl) rfl ?_
  refine gk_aload_n (pc := 0) 0 dX4_clear_0 rfl ?_
  refine gk_iconst (pc := 1) dX4_clear_1 ?_
  refine gk_putF (pc := 2) rfl clsX4 cll_51 sh_51 1 (by decide) rfl rfl rfl rfl ww_181 dX4_clear_2 ?_
  exact gk_vret (pc := 5) rfl dX4_clear_5
def f_X4_clauses  (σ : gs_Mem) : Option (Int) :=
  some (σ 51 4)
set_option maxRecDepth 100000 in
set_option maxHeartbeats 4000000 in
theorem c_X4_clauses {E : gs_E}   (σ : gs_Mem) : gs_C E yX4_clauses cX4_clauses 1 (some .int) 0 { frames := 0, cells := 0, slots := 0, locals := 0 } [gr E 51] σ (f_X4_clauses  σ) (fun v : Int => (v, σ)) := by
  unfold f_X4_clauses
  refine gs_enter (L := [(0, gr E 51)]) (by decide) rfl rfl (Nat.le_of_ble_eq_true rfl) rfl ?_
  refine gk_aload_n (pc := 0) 0 dX4_clauses_0 rfl ?_
  refine gk_getI (pc := 1) rfl clsX4 cll_51 sh_51 4 (by decide) rfl ww_184 dX4_clauses_1 ?_
  exact gk_iret (pc := 4) rfl dX4_clauses_4
def f_X4_x (v1 : Int) (σ : gs_Mem) : Option (Int) :=
  if (gn v1) < 0 then
    some (-1)
  else
    if (gn (σ 51 4)) ≤ (gn v1) then
      some (-1)
    else
      gs_chk (gn v1) 8 (
      some (σ 53 (gn v1).toNat))
set_option maxRecDepth 100000 in
set_option maxHeartbeats 4000000 in
theorem c_X4_x {E : gs_E} (v1 : Int)  (σ : gs_Mem) : gs_C E yX4_x cX4_x 2 (some .int) 0 { frames := 0, cells := 0, slots := 0, locals := 0 } [gr E 51, gi v1] σ (f_X4_x v1 σ) (fun v : Int => (v, σ)) := by
  unfold f_X4_x
  refine gs_enter (L := [(0, gr E 51), (1, gi v1)]) (by decide) rfl rfl (Nat.le_of_ble_eq_true rfl) rfl ?_
  refine gk_iload_n (pc := 0) 1 dX4_x_0 rfl ?_
  refine gk_if_lt (tgt := 21) (pc := 1) dX4_x_1 (by decide) rfl ?_ ?_
  · refine gk_iconst (pc := 21) dX4_x_21 ?_
    exact gk_iret (pc := 22) rfl dX4_x_22
  · refine gk_iload_n (pc := 4) 1 dX4_x_4 rfl ?_
    refine gk_aload_n (pc := 5) 0 dX4_x_5 rfl ?_
    refine gk_getI (pc := 6) rfl clsX4 cll_51 sh_51 4 (by decide) rfl ww_184 dX4_x_6 ?_
    refine gk_icmp_ge (tgt := 21) (pc := 9) dX4_x_9 (by decide) rfl rfl ?_ ?_
    · refine gk_iconst (pc := 21) dX4_x_21 ?_
      exact gk_iret (pc := 22) rfl dX4_x_22
    · refine gk_aload_n (pc := 12) 0 dX4_x_12 rfl ?_
      refine gk_getR (q := 53) (pc := 13) rfl clsX4 cll_51 sh_51 5 (by decide) rfl ww_185 dX4_x_13 ?_
      refine gk_iload_n (pc := 16) 1 dX4_x_16 rfl ?_
      refine gk_iald_c (pc := 17) cll_53 sh_53 rfl dX4_x_17 ?_
      refine gk_goto (tgt := 22) (pc := 18) dX4_x_18 (by decide) ?_
      exact gk_iret (pc := 22) rfl dX4_x_22
def f_X4_y (v1 : Int) (σ : gs_Mem) : Option (Int) :=
  if (gn v1) < 0 then
    some (-1)
  else
    if (gn (σ 51 4)) ≤ (gn v1) then
      some (-1)
    else
      gs_chk (gn v1) 8 (
      some (σ 54 (gn v1).toNat))
set_option maxRecDepth 100000 in
set_option maxHeartbeats 4000000 in
theorem c_X4_y {E : gs_E} (v1 : Int)  (σ : gs_Mem) : gs_C E yX4_y cX4_y 2 (some .int) 0 { frames := 0, cells := 0, slots := 0, locals := 0 } [gr E 51, gi v1] σ (f_X4_y v1 σ) (fun v : Int => (v, σ)) := by
  unfold f_X4_y
  refine gs_enter (L := [(0, gr E 51), (1, gi v1)]) (by decide) rfl rfl (Nat.le_of_ble_eq_true rfl) rfl ?_
  refine gk_iload_n (pc := 0) 1 dX4_y_0 rfl ?_
  refine gk_if_lt (tgt := 21) (pc := 1) dX4_y_1 (by decide) rfl ?_ ?_
  · refine gk_iconst (pc := 21) dX4_y_21 ?_
    exact gk_iret (pc := 22) rfl dX4_y_22
  · refine gk_iload_n (pc := 4) 1 dX4_y_4 rfl ?_
    refine gk_aload_n (pc := 5) 0 dX4_y_5 rfl ?_
    refine gk_getI (pc := 6) rfl clsX4 cll_51 sh_51 4 (by decide) rfl ww_184 dX4_y_6 ?_
    refine gk_icmp_ge (tgt := 21) (pc := 9) dX4_y_9 (by decide) rfl rfl ?_ ?_
    · refine gk_iconst (pc := 21) dX4_y_21 ?_
      exact gk_iret (pc := 22) rfl dX4_y_22
    · refine gk_aload_n (pc := 12) 0 dX4_y_12 rfl ?_
      refine gk_getR (q := 54) (pc := 13) rfl clsX4 cll_51 sh_51 6 (by decide) rfl ww_186 dX4_y_13 ?_
      refine gk_iload_n (pc := 16) 1 dX4_y_16 rfl ?_
      refine gk_iald_c (pc := 17) cll_54 sh_54 rfl dX4_y_17 ?_
      refine gk_goto (tgt := 22) (pc := 18) dX4_y_18 (by decide) ?_
      exact gk_iret (pc := 22) rfl dX4_y_22
def f_X4_channelAt (v1 : Int) (σ : gs_Mem) : Option (Int) :=
  if (gn v1) < 0 then
    some (-1)
  else
    if (gn (σ 51 4)) ≤ (gn v1) then
      some (-1)
    else
      gs_chk (gn v1) 8 (
      some (σ 55 (gn v1).toNat))
set_option maxRecDepth 100000 in
set_option maxHeartbeats 4000000 in
theorem c_X4_channelAt {E : gs_E} (v1 : Int)  (σ : gs_Mem) : gs_C E yX4_channelAt cX4_channelAt 2 (some .int) 0 { frames := 0, cells := 0, slots := 0, locals := 0 } [gr E 51, gi v1] σ (f_X4_channelAt v1 σ) (fun v : Int => (v, σ)) := by
  unfold f_X4_channelAt
  refine gs_enter (L := [(0, gr E 51), (1, gi v1)]) (by decide) rfl rfl (Nat.le_of_ble_eq_true rfl) rfl ?_
  refine gk_iload_n (pc := 0) 1 dX4_channelAt_0 rfl ?_
  refine gk_if_lt (tgt := 21) (pc := 1) dX4_channelAt_1 (by decide) rfl ?_ ?_
  · refine gk_iconst (pc := 21) dX4_channelAt_21 ?_
    exact gk_iret (pc := 22) rfl dX4_channelAt_22
  · refine gk_iload_n (pc := 4) 1 dX4_channelAt_4 rfl ?_
    refine gk_aload_n (pc := 5) 0 dX4_channelAt_5 rfl ?_
    refine gk_getI (pc := 6) rfl clsX4 cll_51 sh_51 4 (by decide) rfl ww_184 dX4_channelAt_6 ?_
    refine gk_icmp_ge (tgt := 21) (pc := 9) dX4_channelAt_9 (by decide) rfl rfl ?_ ?_
    · refine gk_iconst (pc := 21) dX4_channelAt_21 ?_
      exact gk_iret (pc := 22) rfl dX4_channelAt_22
    · refine gk_aload_n (pc := 12) 0 dX4_channelAt_12 rfl ?_
      refine gk_getR (q := 55) (pc := 13) rfl clsX4 cll_51 sh_51 7 (by decide) rfl ww_187 dX4_channelAt_13 ?_
      refine gk_iload_n (pc := 16) 1 dX4_channelAt_16 rfl ?_
      refine gk_iald_c (pc := 17) cll_55 sh_55 rfl dX4_channelAt_17 ?_
      refine gk_goto (tgt := 22) (pc := 18) dX4_channelAt_18 (by decide) ?_
      exact gk_iret (pc := 22) rfl dX4_channelAt_22
def f_X4_isFixedAt (v1 : Int) (σ : gs_Mem) : Option (Int) :=
  if (gn v1) < 0 then
    some 0
  else
    if (gn (σ 51 4)) ≤ (gn v1) then
      some 0
    else
      gs_chk (gn v1) 8 (
      if (gn (σ 56 (gn v1).toNat)) = 0 then
        some 0
      else
        some 1)
set_option maxRecDepth 100000 in
set_option maxHeartbeats 4000000 in
theorem c_X4_isFixedAt {E : gs_E} (v1 : Int)  (σ : gs_Mem) : gs_C E yX4_isFixedAt cX4_isFixedAt 2 (some .boolean) 0 { frames := 0, cells := 0, slots := 0, locals := 0 } [gr E 51, gi v1] σ (f_X4_isFixedAt v1 σ) (fun v : Int => (v, σ)) := by
  unfold f_X4_isFixedAt
  refine gs_enter (L := [(0, gr E 51), (1, gi v1)]) (by decide) rfl rfl (Nat.le_of_ble_eq_true rfl) rfl ?_
  refine gk_iload_n (pc := 0) 1 dX4_isFixedAt_0 rfl ?_
  refine gk_if_lt (tgt := 25) (pc := 1) dX4_isFixedAt_1 (by decide) rfl ?_ ?_
  · refine gk_iconst (pc := 25) dX4_isFixedAt_25 ?_
    exact gk_zret (pc := 26) (Or.inl (by decide +kernel)) rfl dX4_isFixedAt_26
  · refine gk_iload_n (pc := 4) 1 dX4_isFixedAt_4 rfl ?_
    refine gk_aload_n (pc := 5) 0 dX4_isFixedAt_5 rfl ?_
    refine gk_getI (pc := 6) rfl clsX4 cll_51 sh_51 4 (by decide) rfl ww_184 dX4_isFixedAt_6 ?_
    refine gk_icmp_ge (tgt := 25) (pc := 9) dX4_isFixedAt_9 (by decide) rfl rfl ?_ ?_
    · refine gk_iconst (pc := 25) dX4_isFixedAt_25 ?_
      exact gk_zret (pc := 26) (Or.inl (by decide +kernel)) rfl dX4_isFixedAt_26
    · refine gk_aload_n (pc := 12) 0 dX4_isFixedAt_12 rfl ?_
      refine gk_getR (q := 56) (pc := 13) rfl clsX4 cll_51 sh_51 8 (by decide) rfl ww_188 dX4_isFixedAt_13 ?_
      refine gk_iload_n (pc := 16) 1 dX4_isFixedAt_16 rfl ?_
      refine gk_zald_c (pc := 17) cll_56 sh_56 rfl dX4_isFixedAt_17 ?_
      refine gk_if_eq (tgt := 25) (pc := 18) dX4_isFixedAt_18 (by decide) rfl ?_ ?_
      · refine gk_iconst (pc := 25) dX4_isFixedAt_25 ?_
        exact gk_zret (pc := 26) (Or.inl (by decide +kernel)) rfl dX4_isFixedAt_26
      · refine gk_iconst (pc := 21) dX4_isFixedAt_21 ?_
        refine gk_goto (tgt := 26) (pc := 22) dX4_isFixedAt_22 (by decide) ?_
        exact gk_zret (pc := 26) (Or.inr (by decide +kernel)) rfl dX4_isFixedAt_26
def f_X4_isNext (v1 : Int) (σ : gs_Mem) : Option (Int) :=
  if (gn (σ 51 1)) ≤ (gn (σ 51 2)) then
    some 0
  else
    gs_chk (gn (σ 51 2)) 100 (
    if (gn (σ 52 (gn (σ 51 2)).toNat)) = (gn v1) then
      some 1
    else
      some 0)
set_option maxRecDepth 100000 in
set_option maxHeartbeats 4000000 in
theorem c_X4_isNext {E : gs_E} (v1 : Int)  (σ : gs_Mem) : gs_C E yX4_isNext cX4_isNext 2 (some .boolean) 0 { frames := 0, cells := 0, slots := 0, locals := 0 } [gr E 51, gi v1] σ (f_X4_isNext v1 σ) (fun v : Int => (v, σ)) := by
  unfold f_X4_isNext
  refine gs_enter (L := [(0, gr E 51), (1, gi v1)]) (by decide) rfl rfl (Nat.le_of_ble_eq_true rfl) rfl ?_
  refine gk_aload_n (pc := 0) 0 dX4_isNext_0 rfl ?_
  refine gk_getI (pc := 1) rfl clsX4 cll_51 sh_51 2 (by decide) rfl ww_182 dX4_isNext_1 ?_
  refine gk_aload_n (pc := 4) 0 dX4_isNext_4 rfl ?_
  refine gk_getI (pc := 5) rfl clsX4 cll_51 sh_51 1 (by decide) rfl ww_181 dX4_isNext_5 ?_
  refine gk_icmp_ge (tgt := 28) (pc := 8) dX4_isNext_8 (by decide) rfl rfl ?_ ?_
  · refine gk_iconst (pc := 28) dX4_isNext_28 ?_
    exact gk_zret (pc := 29) (Or.inl (by decide +kernel)) rfl dX4_isNext_29
  · refine gk_aload_n (pc := 11) 0 dX4_isNext_11 rfl ?_
    refine gk_getR (q := 52) (pc := 12) rfl clsX4 cll_51 sh_51 0 (by decide) rfl ww_180 dX4_isNext_12 ?_
    refine gk_aload_n (pc := 15) 0 dX4_isNext_15 rfl ?_
    refine gk_getI (pc := 16) rfl clsX4 cll_51 sh_51 2 (by decide) rfl ww_182 dX4_isNext_16 ?_
    refine gk_bald_c (pc := 19) cll_52 sh_52 rfl dX4_isNext_19 ?_
    refine gk_iload_n (pc := 20) 1 dX4_isNext_20 rfl ?_
    refine gk_icmp_ne (tgt := 28) (pc := 21) dX4_isNext_21 (by decide) rfl rfl ?_ ?_
    · refine gk_iconst (pc := 28) dX4_isNext_28 ?_
      exact gk_zret (pc := 29) (Or.inl (by decide +kernel)) rfl dX4_isNext_29
    · refine gk_iconst (pc := 24) dX4_isNext_24 ?_
      refine gk_goto (tgt := 29) (pc := 25) dX4_isNext_25 (by decide) ?_
      exact gk_zret (pc := 29) (Or.inr (by decide +kernel)) rfl dX4_isNext_29
def f_X4_expect (v1 : Int) (σ : gs_Mem) : Option (Int × gs_Mem) :=
  if (gn (σ 51 3)) < 0 then
    (f_X4_isNext v1 σ).bind fun u1 =>
    if (gn u1) = 0 then
      some (0, (gs_st σ 51 3 (σ 51 2)))
    else
      some (0, (gs_st σ 51 2 ((σ 51 2) + 1)))
  else
    some (0, σ)
set_option maxRecDepth 100000 in
set_option maxHeartbeats 4000000 in
theorem c_X4_expect {E : gs_E} (v1 : Int)  (σ : gs_Mem) : gs_C E yX4_expect cX4_expect 2 none 2 { frames := 1, cells := 0, slots := 0, locals := 21 } [gr E 51, gi v1] σ (f_X4_expect v1 σ) (fun b : Int × gs_Mem => b) := by
  unfold f_X4_expect
  refine gs_enter (L := [(0, gr E 51), (1, gi v1)]) (by decide) rfl rfl (Nat.le_of_ble_eq_true rfl) rfl ?_
  refine gk_aload_n (pc := 0) 0 dX4_expect_0 rfl ?_
  refine gk_getI (pc := 1) rfl clsX4 cll_51 sh_51 3 (by decide) rfl ww_183 dX4_expect_1 ?_
  refine gk_if_lt (tgt := 8) (pc := 4) dX4_expect_4 (by decide) rfl ?_ ?_
  · refine gk_aload_n (pc := 8) 0 dX4_expect_8 rfl ?_
    refine gk_iload_n (pc := 9) 1 dX4_expect_9 rfl ?_
    refine gk_callV_ir (As := [gi v1]) (pc := 10) (c_X4_isNext v1 σ) rfl mm_X4_isNext ww_357 clsX4 rfl cll_51 sh_51 (gs_fit_of (Nat.le_of_ble_eq_true rfl) (Nat.le_of_ble_eq_true rfl)) rfl rfl (Nat.le_of_ble_eq_true rfl) dX4_expect_10 (fun u1 => ?_)
    refine gk_if_eq (tgt := 29) (pc := 13) dX4_expect_13 (by decide) rfl ?_ ?_
    · refine gk_aload_n (pc := 29) 0 dX4_expect_29 rfl ?_
      refine gk_aload_n (pc := 30) 0 dX4_expect_30 rfl ?_
      refine gk_getI (pc := 31) rfl clsX4 cll_51 sh_51 2 (by decide) rfl ww_182 dX4_expect_31 ?_
      refine gk_putF (pc := 34) rfl clsX4 cll_51 sh_51 3 (by decide) rfl rfl rfl rfl ww_183 dX4_expect_34 ?_
      exact gk_vret (pc := 37) rfl dX4_expect_37
    · refine gk_aload_n (pc := 16) 0 dX4_expect_16 rfl ?_
      refine gk_dup (pc := 17) dX4_expect_17 rfl ?_
      refine gk_getI (pc := 18) rfl clsX4 cll_51 sh_51 2 (by decide) rfl ww_182 dX4_expect_18 ?_
      refine gk_iconst (pc := 21) dX4_expect_21 ?_
      refine gk_iadd (pc := 22) dX4_expect_22 ?_
      refine gk_putF (pc := 23) rfl clsX4 cll_51 sh_51 2 (by decide) rfl rfl rfl rfl ww_182 dX4_expect_23 ?_
      refine gk_goto (tgt := 37) (pc := 26) dX4_expect_26 (by decide) ?_
      exact gk_vret (pc := 37) rfl dX4_expect_37
  · exact gk_vret (pc := 7) rfl dX4_expect_7
def f_X4_digit  (σ : gs_Mem) : Option (Int) :=
  if (gn (σ 51 1)) ≤ (gn (σ 51 2)) then
    some (-1)
  else
    gs_chk (gn (σ 51 2)) 100 (
    if (gn (σ 52 (gn (σ 51 2)).toNat)) < 48 then
      some (-1)
    else
      gs_chk (gn (σ 51 2)) 100 (
      if (gn (σ 52 (gn (σ 51 2)).toNat)) ≤ 57 then
        gs_chk (gn (σ 51 2)) 100 (
        some ((σ 52 (gn (σ 51 2)).toNat) - 48))
      else
        some (-1)))
set_option maxRecDepth 100000 in
set_option maxHeartbeats 4000000 in
theorem c_X4_digit {E : gs_E}   (σ : gs_Mem) : gs_C E yX4_digit cX4_digit 1 (some .int) 0 { frames := 0, cells := 0, slots := 0, locals := 0 } [gr E 51] σ (f_X4_digit  σ) (fun v : Int => (v, σ)) := by
  unfold f_X4_digit
  refine gs_enter (L := [(0, gr E 51)]) (by decide) rfl rfl (Nat.le_of_ble_eq_true rfl) rfl ?_
  refine gk_aload_n (pc := 0) 0 dX4_digit_0 rfl ?_
  refine gk_getI (pc := 1) rfl clsX4 cll_51 sh_51 2 (by decide) rfl ww_182 dX4_digit_1 ?_
  refine gk_aload_n (pc := 4) 0 dX4_digit_4 rfl ?_
  refine gk_getI (pc := 5) rfl clsX4 cll_51 sh_51 1 (by decide) rfl ww_181 dX4_digit_5 ?_
  refine gk_icmp_ge (tgt := 39) (pc := 8) dX4_digit_8 (by decide) rfl rfl ?_ ?_
  · refine gk_iconst (pc := 39) dX4_digit_39 ?_
    exact gk_iret (pc := 40) rfl dX4_digit_40
  · refine gk_aload_n (pc := 11) 0 dX4_digit_11 rfl ?_
    refine gk_getR (q := 52) (pc := 12) rfl clsX4 cll_51 sh_51 0 (by decide) rfl ww_180 dX4_digit_12 ?_
    refine gk_aload_n (pc := 15) 0 dX4_digit_15 rfl ?_
    refine gk_getI (pc := 16) rfl clsX4 cll_51 sh_51 2 (by decide) rfl ww_182 dX4_digit_16 ?_
    refine gk_bald_c (pc := 19) cll_52 sh_52 rfl dX4_digit_19 ?_
    refine gk_bipush (pc := 20) dX4_digit_20 (by decide +kernel) ?_
    refine gk_icmp_lt (tgt := 39) (pc := 22) dX4_digit_22 (by decide) rfl (by decide +kernel) ?_ ?_
    · refine gk_iconst (pc := 39) dX4_digit_39 ?_
      exact gk_iret (pc := 40) rfl dX4_digit_40
    · refine gk_aload_n (pc := 25) 0 dX4_digit_25 rfl ?_
      refine gk_getR (q := 52) (pc := 26) rfl clsX4 cll_51 sh_51 0 (by decide) rfl ww_180 dX4_digit_26 ?_
      refine gk_aload_n (pc := 29) 0 dX4_digit_29 rfl ?_
      refine gk_getI (pc := 30) rfl clsX4 cll_51 sh_51 2 (by decide) rfl ww_182 dX4_digit_30 ?_
      refine gk_bald_c (pc := 33) cll_52 sh_52 rfl dX4_digit_33 ?_
      refine gk_bipush (pc := 34) dX4_digit_34 (by decide +kernel) ?_
      refine gk_icmp_le (tgt := 41) (pc := 36) dX4_digit_36 (by decide) rfl (by decide +kernel) ?_ ?_
      · refine gk_aload_n (pc := 41) 0 dX4_digit_41 rfl ?_
        refine gk_getR (q := 52) (pc := 42) rfl clsX4 cll_51 sh_51 0 (by decide) rfl ww_180 dX4_digit_42 ?_
        refine gk_aload_n (pc := 45) 0 dX4_digit_45 rfl ?_
        refine gk_getI (pc := 46) rfl clsX4 cll_51 sh_51 2 (by decide) rfl ww_182 dX4_digit_46 ?_
        refine gk_bald_c (pc := 49) cll_52 sh_52 rfl dX4_digit_49 ?_
        refine gk_bipush (pc := 50) dX4_digit_50 (by decide +kernel) ?_
        refine gk_isub (pc := 52) dX4_digit_52 ?_
        exact gk_iret (pc := 53) rfl dX4_digit_53
      · refine gk_iconst (pc := 39) dX4_digit_39 ?_
        exact gk_iret (pc := 40) rfl dX4_digit_40
def f_X4_readNumber (v1 : Int) (σ : gs_Mem) : Option (Int × gs_Mem) :=
  if (gn (σ 51 3)) < 0 then
    (f_X4_digit σ).bind fun u1 =>
    if 0 ≤ (gn u1) then
      (f_X4_digit (gs_st σ 51 2 ((σ 51 2) + 1))).bind fun u2 =>
      if 0 ≤ (gn u2) then
        if (gn ((u1 * 10) + u2)) ≤ (gn v1) then
          some (((u1 * 10) + u2), (gs_st (gs_st σ 51 2 ((σ 51 2) + 1)) 51 2 (((gs_st σ 51 2 ((σ 51 2) + 1)) 51 2) + 1)))
        else
          some (0, (gs_st (gs_st σ 51 2 ((σ 51 2) + 1)) 51 3 ((gs_st σ 51 2 ((σ 51 2) + 1)) 51 2)))
      else
        some (u1, (gs_st σ 51 2 ((σ 51 2) + 1)))
    else
      some (0, (gs_st σ 51 3 (σ 51 2)))
  else
    some (0, σ)
set_option maxRecDepth 100000 in
set_option maxHeartbeats 4000000 in
theorem c_X4_readNumber {E : gs_E} (v1 : Int)  (σ : gs_Mem) : gs_C E yX4_readNumber cX4_readNumber 5 (some .int) 0 { frames := 1, cells := 0, slots := 0, locals := 20 } [gr E 51, gi v1] σ (f_X4_readNumber v1 σ) (fun b : Int × gs_Mem => b) := by
  unfold f_X4_readNumber
  refine gs_enter (L := [(0, gr E 51), (1, gi v1)]) (by decide) rfl rfl (Nat.le_of_ble_eq_true rfl) rfl ?_
  refine gk_aload_n (pc := 0) 0 dX4_readNumber_0 rfl ?_
  refine gk_getI (pc := 1) rfl clsX4 cll_51 sh_51 3 (by decide) rfl ww_183 dX4_readNumber_1 ?_
  refine gk_if_lt (tgt := 9) (pc := 4) dX4_readNumber_4 (by decide) rfl ?_ ?_
  · refine gk_aload_n (pc := 9) 0 dX4_readNumber_9 rfl ?_
    refine gk_callV_ir (As := []) (pc := 10) (c_X4_digit σ) rfl mm_X4_digit ww_369 clsX4 rfl cll_51 sh_51 (gs_fit_of (Nat.le_of_ble_eq_true rfl) (Nat.le_of_ble_eq_true rfl)) rfl rfl (Nat.le_of_ble_eq_true rfl) dX4_readNumber_10 (fun u1 => ?_)
    refine gk_istore_n (L' := [(2, gi u1), (0, gr E 51), (1, gi v1)]) (pc := 13) dX4_readNumber_13 (Nat.le_of_ble_eq_true rfl) rfl ?_
    refine gk_iload_n (pc := 14) 0 dX4_readNumber_14 rfl ?_
    refine gk_if_ge (tgt := 28) (pc := 15) dX4_readNumber_15 (by decide) rfl ?_ ?_
    · refine gk_aload_n (pc := 28) 1 dX4_readNumber_28 rfl ?_
      refine gk_dup (pc := 29) dX4_readNumber_29 rfl ?_
      refine gk_getI (pc := 30) rfl clsX4 cll_51 sh_51 2 (by decide) rfl ww_182 dX4_readNumber_30 ?_
      refine gk_iconst (pc := 33) dX4_readNumber_33 ?_
      refine gk_iadd (pc := 34) dX4_readNumber_34 ?_
      refine gk_putF (pc := 35) rfl clsX4 cll_51 sh_51 2 (by decide) rfl rfl rfl rfl ww_182 dX4_readNumber_35 ?_
      refine gk_aload_n (pc := 38) 1 dX4_readNumber_38 rfl ?_
      refine gk_callV_ir (As := []) (pc := 39) (c_X4_digit (gs_st σ 51 2 ((σ 51 2) + 1))) rfl mm_X4_digit ww_369 clsX4 rfl cll_51 sh_51 (gs_fit_of (Nat.le_of_ble_eq_true rfl) (Nat.le_of_ble_eq_true rfl)) rfl rfl (Nat.le_of_ble_eq_true rfl) dX4_readNumber_39 (fun u2 => ?_)
      refine gk_istore_n (L' := [(3, gi u2), (2, gi u1), (0, gr E 51), (1, gi v1)]) (pc := 42) dX4_readNumber_42 (Nat.le_of_ble_eq_true rfl) rfl ?_
      refine gk_iload_n (pc := 43) 0 dX4_readNumber_43 rfl ?_
      refine gk_if_ge (tgt := 49) (pc := 44) dX4_readNumber_44 (by decide) rfl ?_ ?_
      · refine gk_iload_n (pc := 49) 1 dX4_readNumber_49 rfl ?_
        refine gk_bipush (pc := 50) dX4_readNumber_50 (by decide +kernel) ?_
        refine gk_imul (pc := 52) dX4_readNumber_52 ?_
        refine gk_iload_n (pc := 53) 0 dX4_readNumber_53 rfl ?_
        refine gk_iadd (pc := 54) dX4_readNumber_54 ?_
        refine gk_istore (L' := [(4, gi ((u1 * 10) + u2)), (3, gi u2), (2, gi u1), (0, gr E 51), (1, gi v1)]) (pc := 55) dX4_readNumber_55 (Nat.le_of_ble_eq_true rfl) rfl ?_
        refine gk_iload (pc := 57) 0 dX4_readNumber_57 rfl ?_
        refine gk_iload_n (pc := 59) 4 dX4_readNumber_59 rfl ?_
        refine gk_icmp_le (tgt := 73) (pc := 60) dX4_readNumber_60 (by decide) rfl rfl ?_ ?_
        · refine gk_aload_n (pc := 73) 3 dX4_readNumber_73 rfl ?_
          refine gk_dup (pc := 74) dX4_readNumber_74 rfl ?_
          refine gk_getI (pc := 75) rfl clsX4 cll_51 sh_51 2 (by decide) rfl ww_182 dX4_readNumber_75 ?_
          refine gk_iconst (pc := 78) dX4_readNumber_78 ?_
          refine gk_iadd (pc := 79) dX4_readNumber_79 ?_
          refine gk_putF (pc := 80) rfl clsX4 cll_51 sh_51 2 (by decide) rfl rfl rfl rfl ww_182 dX4_readNumber_80 ?_
          refine gk_iload (pc := 83) 0 dX4_readNumber_83 rfl ?_
          exact gk_iret (pc := 85) rfl dX4_readNumber_85
        · refine gk_aload_n (pc := 63) 3 dX4_readNumber_63 rfl ?_
          refine gk_aload_n (pc := 64) 3 dX4_readNumber_64 rfl ?_
          refine gk_getI (pc := 65) rfl clsX4 cll_51 sh_51 2 (by decide) rfl ww_182 dX4_readNumber_65 ?_
          refine gk_putF (pc := 68) rfl clsX4 cll_51 sh_51 3 (by decide) rfl rfl rfl rfl ww_183 dX4_readNumber_68 ?_
          refine gk_iconst (pc := 71) dX4_readNumber_71 ?_
          exact gk_iret (pc := 72) rfl dX4_readNumber_72
      · refine gk_iload_n (pc := 47) 1 dX4_readNumber_47 rfl ?_
        exact gk_iret (pc := 48) rfl dX4_readNumber_48
    · refine gk_aload_n (pc := 18) 1 dX4_readNumber_18 rfl ?_
      refine gk_aload_n (pc := 19) 1 dX4_readNumber_19 rfl ?_
      refine gk_getI (pc := 20) rfl clsX4 cll_51 sh_51 2 (by decide) rfl ww_182 dX4_readNumber_20 ?_
      refine gk_putF (pc := 23) rfl clsX4 cll_51 sh_51 3 (by decide) rfl rfl rfl rfl ww_183 dX4_readNumber_23 ?_
      refine gk_iconst (pc := 26) dX4_readNumber_26 ?_
      exact gk_iret (pc := 27) rfl dX4_readNumber_27
  · refine gk_iconst (pc := 7) dX4_readNumber_7 ?_
    exact gk_iret (pc := 8) rfl dX4_readNumber_8
def f_X4_readClause (v1 : Int) (σ : gs_Mem) : Option (Int × gs_Mem) :=
  (f_X4_readNumber 31 σ).bind fun b1 =>
  gs_chk (gn v1) 8 (
  (f_X4_expect 44 (gs_st b1.2 53 (gn v1).toNat b1.1)).bind fun b2 =>
  (f_X4_readNumber 31 b2.2).bind fun b3 =>
  gs_chk (gn v1) 8 (
  gs_chk (gn v1) 8 (
  gs_chk (gn v1) 8 (
  if 0 ≤ (gn ((gs_st (gs_st (gs_st b3.2 54 (gn v1).toNat b3.1) 55 (gn v1).toNat (-1)) 56 (gn v1).toNat 0) 51 3)) then
    some (0, (gs_st (gs_st (gs_st b3.2 54 (gn v1).toNat b3.1) 55 (gn v1).toNat (-1)) 56 (gn v1).toNat 0))
  else
    (f_X4_isNext 61 (gs_st (gs_st (gs_st b3.2 54 (gn v1).toNat b3.1) 55 (gn v1).toNat (-1)) 56 (gn v1).toNat 0)).bind fun u4 =>
    if (gn u4) = 0 then
      some (0, (gs_st (gs_st (gs_st b3.2 54 (gn v1).toNat b3.1) 55 (gn v1).toNat (-1)) 56 (gn v1).toNat 0))
    else
      (f_X4_expect 61 (gs_st (gs_st (gs_st b3.2 54 (gn v1).toNat b3.1) 55 (gn v1).toNat (-1)) 56 (gn v1).toNat 0)).bind fun b5 =>
      (f_X4_readNumber 19 b5.2).bind fun b6 =>
      gs_chk (gn v1) 8 (
      if 0 ≤ (gn ((gs_st b6.2 55 (gn v1).toNat b6.1) 51 3)) then
        some (0, (gs_st b6.2 55 (gn v1).toNat b6.1))
      else
        (f_X4_isNext 33 (gs_st b6.2 55 (gn v1).toNat b6.1)).bind fun u7 =>
        if (gn u7) = 0 then
          some (0, (gs_st b6.2 55 (gn v1).toNat b6.1))
        else
          (f_X4_expect 33 (gs_st b6.2 55 (gn v1).toNat b6.1)).bind fun b8 =>
          gs_chk (gn v1) 8 (
          some (0, (gs_st b8.2 56 (gn v1).toNat 1))))))))
set_option maxRecDepth 100000 in
set_option maxHeartbeats 4000000 in
theorem c_X4_readClause {E : gs_E} (v1 : Int)  (σ : gs_Mem) : gs_C E yX4_readClause cX4_readClause 2 none 2 { frames := 2, cells := 0, slots := 0, locals := 44 } [gr E 51, gi v1] σ (f_X4_readClause v1 σ) (fun b : Int × gs_Mem => b) := by
  unfold f_X4_readClause
  refine gs_enter (L := [(0, gr E 51), (1, gi v1)]) (by decide) rfl rfl (Nat.le_of_ble_eq_true rfl) rfl ?_
  refine gk_aload_n (pc := 0) 0 dX4_readClause_0 rfl ?_
  refine gk_getR (q := 53) (pc := 1) rfl clsX4 cll_51 sh_51 5 (by decide) rfl ww_185 dX4_readClause_1 ?_
  refine gk_iload_n (pc := 4) 1 dX4_readClause_4 rfl ?_
  refine gk_aload_n (pc := 5) 0 dX4_readClause_5 rfl ?_
  refine gk_bipush (pc := 6) dX4_readClause_6 (by decide +kernel) ?_
  refine gk_callV_iw (As := [gi 31]) (pc := 8) (c_X4_readNumber 31 σ) rfl mm_X4_readNumber ww_365 clsX4 rfl cll_51 sh_51 (gs_fit_of (Nat.le_of_ble_eq_true rfl) (Nat.le_of_ble_eq_true rfl)) rfl rfl (Nat.le_of_ble_eq_true rfl) dX4_readClause_8 (fun b1 => ?_)
  refine gk_iast_c (pc := 11) cll_53 sh_53 rfl dX4_readClause_11 ?_
  refine gk_aload_n (pc := 12) 0 dX4_readClause_12 rfl ?_
  refine gk_bipush (pc := 13) dX4_readClause_13 (by decide +kernel) ?_
  refine gk_callV_vw (As := [gi 44]) (pc := 15) (c_X4_expect 44 (gs_st b1.2 53 (gn v1).toNat b1.1)) rfl mm_X4_expect ww_353 clsX4 rfl cll_51 sh_51 (gs_fit_of (Nat.le_of_ble_eq_true rfl) (Nat.le_of_ble_eq_true rfl)) rfl rfl (Nat.le_of_ble_eq_true rfl) dX4_readClause_15 (fun b2 => ?_)
  refine gk_aload_n (pc := 18) 0 dX4_readClause_18 rfl ?_
  refine gk_getR (q := 54) (pc := 19) rfl clsX4 cll_51 sh_51 6 (by decide) rfl ww_186 dX4_readClause_19 ?_
  refine gk_iload_n (pc := 22) 1 dX4_readClause_22 rfl ?_
  refine gk_aload_n (pc := 23) 0 dX4_readClause_23 rfl ?_
  refine gk_bipush (pc := 24) dX4_readClause_24 (by decide +kernel) ?_
  refine gk_callV_iw (As := [gi 31]) (pc := 26) (c_X4_readNumber 31 b2.2) rfl mm_X4_readNumber ww_365 clsX4 rfl cll_51 sh_51 (gs_fit_of (Nat.le_of_ble_eq_true rfl) (Nat.le_of_ble_eq_true rfl)) rfl rfl (Nat.le_of_ble_eq_true rfl) dX4_readClause_26 (fun b3 => ?_)
  refine gk_iast_c (pc := 29) cll_54 sh_54 rfl dX4_readClause_29 ?_
  refine gk_aload_n (pc := 30) 0 dX4_readClause_30 rfl ?_
  refine gk_getR (q := 55) (pc := 31) rfl clsX4 cll_51 sh_51 7 (by decide) rfl ww_187 dX4_readClause_31 ?_
  refine gk_iload_n (pc := 34) 1 dX4_readClause_34 rfl ?_
  refine gk_iconst (pc := 35) dX4_readClause_35 ?_
  refine gk_iast_c (pc := 36) cll_55 sh_55 rfl dX4_readClause_36 ?_
  refine gk_aload_n (pc := 37) 0 dX4_readClause_37 rfl ?_
  refine gk_getR (q := 56) (pc := 38) rfl clsX4 cll_51 sh_51 8 (by decide) rfl ww_188 dX4_readClause_38 ?_
  refine gk_iload_n (pc := 41) 1 dX4_readClause_41 rfl ?_
  refine gk_iconst (pc := 42) dX4_readClause_42 ?_
  refine gk_zast_c (pc := 43) cll_56 sh_56 rfl (by decide +kernel) dX4_readClause_43 ?_
  refine gk_aload_n (pc := 44) 0 dX4_readClause_44 rfl ?_
  refine gk_getI (pc := 45) rfl clsX4 cll_51 sh_51 3 (by decide) rfl ww_183 dX4_readClause_45 ?_
  refine gk_if_ge (tgt := 107) (pc := 48) dX4_readClause_48 (by decide) rfl ?_ ?_
  · exact gk_vret (pc := 107) rfl dX4_readClause_107
  · refine gk_aload_n (pc := 51) 0 dX4_readClause_51 rfl ?_
    refine gk_bipush (pc := 52) dX4_readClause_52 (by decide +kernel) ?_
    refine gk_callV_ir (As := [gi 61]) (pc := 54) (c_X4_isNext 61 (gs_st (gs_st (gs_st b3.2 54 (gn v1).toNat b3.1) 55 (gn v1).toNat (-1)) 56 (gn v1).toNat 0)) rfl mm_X4_isNext ww_357 clsX4 rfl cll_51 sh_51 (gs_fit_of (Nat.le_of_ble_eq_true rfl) (Nat.le_of_ble_eq_true rfl)) rfl rfl (Nat.le_of_ble_eq_true rfl) dX4_readClause_54 (fun u4 => ?_)
    refine gk_if_eq (tgt := 107) (pc := 57) dX4_readClause_57 (by decide) rfl ?_ ?_
    · exact gk_vret (pc := 107) rfl dX4_readClause_107
    · refine gk_aload_n (pc := 60) 0 dX4_readClause_60 rfl ?_
      refine gk_bipush (pc := 61) dX4_readClause_61 (by decide +kernel) ?_
      refine gk_callV_vw (As := [gi 61]) (pc := 63) (c_X4_expect 61 (gs_st (gs_st (gs_st b3.2 54 (gn v1).toNat b3.1) 55 (gn v1).toNat (-1)) 56 (gn v1).toNat 0)) rfl mm_X4_expect ww_353 clsX4 rfl cll_51 sh_51 (gs_fit_of (Nat.le_of_ble_eq_true rfl) (Nat.le_of_ble_eq_true rfl)) rfl rfl (Nat.le_of_ble_eq_true rfl) dX4_readClause_63 (fun b5 => ?_)
      refine gk_aload_n (pc := 66) 0 dX4_readClause_66 rfl ?_
      refine gk_getR (q := 55) (pc := 67) rfl clsX4 cll_51 sh_51 7 (by decide) rfl ww_187 dX4_readClause_67 ?_
      refine gk_iload_n (pc := 70) 1 dX4_readClause_70 rfl ?_
      refine gk_aload_n (pc := 71) 0 dX4_readClause_71 rfl ?_
      refine gk_bipush (pc := 72) dX4_readClause_72 (by decide +kernel) ?_
      refine gk_callV_iw (As := [gi 19]) (pc := 74) (c_X4_readNumber 19 b5.2) rfl mm_X4_readNumber ww_365 clsX4 rfl cll_51 sh_51 (gs_fit_of (Nat.le_of_ble_eq_true rfl) (Nat.le_of_ble_eq_true rfl)) rfl rfl (Nat.le_of_ble_eq_true rfl) dX4_readClause_74 (fun b6 => ?_)
      refine gk_iast_c (pc := 77) cll_55 sh_55 rfl dX4_readClause_77 ?_
      refine gk_aload_n (pc := 78) 0 dX4_readClause_78 rfl ?_
      refine gk_getI (pc := 79) rfl clsX4 cll_51 sh_51 3 (by decide) rfl ww_183 dX4_readClause_79 ?_
      refine gk_if_ge (tgt := 107) (pc := 82) dX4_readClause_82 (by decide) rfl ?_ ?_
      · exact gk_vret (pc := 107) rfl dX4_readClause_107
      · refine gk_aload_n (pc := 85) 0 dX4_readClause_85 rfl ?_
        refine gk_bipush (pc := 86) dX4_readClause_86 (by decide +kernel) ?_
        refine gk_callV_ir (As := [gi 33]) (pc := 88) (c_X4_isNext 33 (gs_st b6.2 55 (gn v1).toNat b6.1)) rfl mm_X4_isNext ww_357 clsX4 rfl cll_51 sh_51 (gs_fit_of (Nat.le_of_ble_eq_true rfl) (Nat.le_of_ble_eq_true rfl)) rfl rfl (Nat.le_of_ble_eq_true rfl) dX4_readClause_88 (fun u7 => ?_)
        refine gk_if_eq (tgt := 107) (pc := 91) dX4_readClause_91 (by decide) rfl ?_ ?_
        · exact gk_vret (pc := 107) rfl dX4_readClause_107
        · refine gk_aload_n (pc := 94) 0 dX4_readClause_94 rfl ?_
          refine gk_bipush (pc := 95) dX4_readClause_95 (by decide +kernel) ?_
          refine gk_callV_vw (As := [gi 33]) (pc := 97) (c_X4_expect 33 (gs_st b6.2 55 (gn v1).toNat b6.1)) rfl mm_X4_expect ww_353 clsX4 rfl cll_51 sh_51 (gs_fit_of (Nat.le_of_ble_eq_true rfl) (Nat.le_of_ble_eq_true rfl)) rfl rfl (Nat.le_of_ble_eq_true rfl) dX4_readClause_97 (fun b8 => ?_)
          refine gk_aload_n (pc := 100) 0 dX4_readClause_100 rfl ?_
          refine gk_getR (q := 56) (pc := 101) rfl clsX4 cll_51 sh_51 8 (by decide) rfl ww_188 dX4_readClause_101 ?_
          refine gk_iload_n (pc := 104) 1 dX4_readClause_104 rfl ?_
          refine gk_iconst (pc := 105) dX4_readClause_105 ?_
          refine gk_zast_c (pc := 106) cll_56 sh_56 rfl (by decide +kernel) dX4_readClause_106 ?_
          exact gk_vret (pc := 107) rfl dX4_readClause_107
def f_X4_parse_J33 (k17 : Int → gs_Mem → Option (Int × gs_Mem)) (k45 : gs_Mem → Option (Int × gs_Mem)) (k79 : gs_Mem → Option (Int × gs_Mem)) (v1 : Int) (σ : gs_Mem) : Option (Int × gs_Mem) :=
  (f_X4_readClause v1 σ).bind fun b1 =>
  if (gn (b1.2 51 3)) < 0 then
    if (gn ((gs_st b1.2 51 4 ((b1.2 51 4) + 1)) 51 2)) < (gn ((gs_st b1.2 51 4 ((b1.2 51 4) + 1)) 51 1)) then
      k17 (v1 + 1) (gs_st b1.2 51 4 ((b1.2 51 4) + 1))
    else
      some ((-1), (gs_st b1.2 51 4 ((b1.2 51 4) + 1)))
  else
    k45 b1.2
set_option maxRecDepth 100000 in
set_option maxHeartbeats 4000000 in
theorem k_X4_parse_J33 {E : gs_E} (k17 : Int → gs_Mem → Option (Int × gs_Mem)) (k45 : gs_Mem → Option (Int × gs_Mem)) (k79 : gs_Mem → Option (Int × gs_Mem))  (v1 : Int)  (hk17 : ∀ (w1 : Int) (σ : gs_Mem), gs_K E (gs_MC E yX4_parse cX4_parse 2 (some .int) 0 { frames := 3, cells := 0, slots := 0, locals := 65 }) (fun b : Int × gs_Mem => b) (k17 w1 σ) 17 [(0, gr E 51), (1, gi w1)] [] σ) (hk45 : ∀ (σ : gs_Mem), gs_K E (gs_MC E yX4_parse cX4_parse 2 (some .int) 0 { frames := 3, cells := 0, slots := 0, locals := 65 }) (fun b : Int × gs_Mem => b) (k45 σ) 45 [(0, gr E 51)] [] σ) (hk79 : ∀ (σ : gs_Mem), gs_K E (gs_MC E yX4_parse cX4_parse 2 (some .int) 0 { frames := 3, cells := 0, slots := 0, locals := 65 }) (fun b : Int × gs_Mem => b) (k79 σ) 79 [(0, gr E 51)] [] σ) (σ : gs_Mem) : gs_K E (gs_MC E yX4_parse cX4_parse 2 (some .int) 0 { frames := 3, cells := 0, slots := 0, locals := 65 }) (fun b : Int × gs_Mem => b) (f_X4_parse_J33 k17 k45 k79 v1 σ) 33 [(0, gr E 51), (1, gi v1)] [] σ := by
  unfold f_X4_parse_J33
  refine gk_aload_n (pc := 33) 0 dX4_parse_33 rfl ?_
  refine gk_iload_n (pc := 34) 1 dX4_parse_34 rfl ?_
  refine gk_callV_vw (As := [gi v1]) (pc := 35) (c_X4_readClause v1 σ) rfl mm_X4_readClause ww_361 clsX4 rfl cll_51 sh_51 (gs_fit_of (Nat.le_of_ble_eq_true rfl) (Nat.le_of_ble_eq_true rfl)) rfl rfl (Nat.le_of_ble_eq_true rfl) dX4_parse_35 (fun b1 => ?_)
  refine gk_aload_n (pc := 38) 0 dX4_parse_38 rfl ?_
  refine gk_getI (pc := 39) rfl clsX4 cll_51 sh_51 3 (by decide) rfl ww_183 dX4_parse_39 ?_
  refine gk_if_lt (tgt := 50) (pc := 42) dX4_parse_42 (by decide) rfl ?_ ?_
  · refine gk_aload_n (pc := 50) 0 dX4_parse_50 rfl ?_
    refine gk_dup (pc := 51) dX4_parse_51 rfl ?_
    refine gk_getI (pc := 52) rfl clsX4 cll_51 sh_51 4 (by decide) rfl ww_184 dX4_parse_52 ?_
    refine gk_iconst (pc := 55) dX4_parse_55 ?_
    refine gk_iadd (pc := 56) dX4_parse_56 ?_
    refine gk_putF (pc := 57) rfl clsX4 cll_51 sh_51 4 (by decide) rfl rfl rfl rfl ww_184 dX4_parse_57 ?_
    refine gk_aload_n (pc := 60) 0 dX4_parse_60 rfl ?_
    refine gk_getI (pc := 61) rfl clsX4 cll_51 sh_51 2 (by decide) rfl ww_182 dX4_parse_61 ?_
    refine gk_aload_n (pc := 64) 0 dX4_parse_64 rfl ?_
    refine gk_getI (pc := 65) rfl clsX4 cll_51 sh_51 1 (by decide) rfl ww_181 dX4_parse_65 ?_
    refine gk_icmp_lt (tgt := 73) (pc := 68) dX4_parse_68 (by decide) rfl rfl ?_ ?_
    · refine gk_iinc (L' := [(1, gi (v1 + 1)), (0, gr E 51)]) (pc := 73) 1 dX4_parse_73 rfl (Nat.le_of_ble_eq_true rfl) rfl ?_
      refine gk_goto (tgt := 17) (pc := 76) dX4_parse_76 (by decide) ?_
      refine gk_sub (L' := [(0, gr E 51), (1, gi (v1 + 1))]) [1, 0] rfl ?_
      exact hk17 (v1 + 1) (gs_st b1.2 51 4 ((b1.2 51 4) + 1))
    · refine gk_iconst (pc := 71) dX4_parse_71 ?_
      exact gk_iret (pc := 72) rfl dX4_parse_72
  · refine gk_sub (L' := [(0, gr E 51)]) [0] rfl ?_
    exact hk45 b1.2
def f_X4_parse_L17  (k45 : gs_Mem → Option (Int × gs_Mem)) (k79 : gs_Mem → Option (Int × gs_Mem)) : Nat → Int → gs_Mem → Option (Int × gs_Mem)
  | 0, _, _ => none
  | n + 1, v1, σ =>
    if 8 ≤ (gn v1) then
      k79 σ
    else
      if (gn v1) ≤ 0 then
        f_X4_parse_J33 (f_X4_parse_L17 k45 k79 n) k45 k79 v1 σ
      else
        (f_X4_expect 59 σ).bind fun b2 =>
        f_X4_parse_J33 (f_X4_parse_L17 k45 k79 n) k45 k79 v1 b2.2
set_option maxRecDepth 100000 in
set_option maxHeartbeats 4000000 in
theorem k_X4_parse_L17 {E : gs_E}  (k45 : gs_Mem → Option (Int × gs_Mem)) (k79 : gs_Mem → Option (Int × gs_Mem))  (hk45 : ∀ (σ : gs_Mem), gs_K E (gs_MC E yX4_parse cX4_parse 2 (some .int) 0 { frames := 3, cells := 0, slots := 0, locals := 65 }) (fun b : Int × gs_Mem => b) (k45 σ) 45 [(0, gr E 51)] [] σ) (hk79 : ∀ (σ : gs_Mem), gs_K E (gs_MC E yX4_parse cX4_parse 2 (some .int) 0 { frames := 3, cells := 0, slots := 0, locals := 65 }) (fun b : Int × gs_Mem => b) (k79 σ) 79 [(0, gr E 51)] [] σ) : ∀ (n : Nat) (v1 : Int) (σ : gs_Mem), gs_K E (gs_MC E yX4_parse cX4_parse 2 (some .int) 0 { frames := 3, cells := 0, slots := 0, locals := 65 }) (fun b : Int × gs_Mem => b) (f_X4_parse_L17 k45 k79 n v1 σ) 17 [(0, gr E 51), (1, gi v1)] [] σ := by
  intro n
  induction n with
  | zero => intro v1 σ; rw [f_X4_parse_L17]; exact gk_none
  | succ n ih =>
    intro v1 σ; rw [f_X4_parse_L17]
    refine gk_iload_n (pc := 17) 1 dX4_parse_17 rfl ?_
    refine gk_bipush (pc := 18) dX4_parse_18 (by decide +kernel) ?_
    refine gk_icmp_ge (tgt := 79) (pc := 20) dX4_parse_20 (by decide) rfl (by decide +kernel) ?_ ?_
    · refine gk_sub (L' := [(0, gr E 51)]) [0] rfl ?_
      exact hk79 σ
    · refine gk_iload_n (pc := 23) 1 dX4_parse_23 rfl ?_
      refine gk_if_le (tgt := 33) (pc := 24) dX4_parse_24 (by decide) rfl ?_ ?_
      · exact k_X4_parse_J33 (f_X4_parse_L17 k45 k79 n) k45 k79 v1 ih hk45 hk79 σ
      · refine gk_aload_n (pc := 27) 0 dX4_parse_27 rfl ?_
        refine gk_bipush (pc := 28) dX4_parse_28 (by decide +kernel) ?_
        refine gk_callV_vw (As := [gi 59]) (pc := 30) (c_X4_expect 59 σ) rfl mm_X4_expect ww_353 clsX4 rfl cll_51 sh_51 (gs_fit_of (Nat.le_of_ble_eq_true rfl) (Nat.le_of_ble_eq_true rfl)) rfl rfl (Nat.le_of_ble_eq_true rfl) dX4_parse_30 (fun b2 => ?_)
        exact k_X4_parse_J33 (f_X4_parse_L17 k45 k79 n) k45 k79 v1 ih hk45 hk79 b2.2
def f_X4_parse  (σ : gs_Mem) : Option (Int × gs_Mem) :=
  f_X4_parse_L17 (fun σ3 =>
    some ((σ3 51 3), σ3)) (fun σ4 =>
    some ((σ4 51 2), σ4)) gs_fuel 0 (gs_st (gs_st (gs_st σ 51 2 0) 51 3 (-1)) 51 4 0)
set_option maxRecDepth 100000 in
set_option maxHeartbeats 4000000 in
theorem c_X4_parse {E : gs_E}   (σ : gs_Mem) : gs_C E yX4_parse cX4_parse 2 (some .int) 0 { frames := 3, cells := 0, slots := 0, locals := 65 } [gr E 51] σ (f_X4_parse  σ) (fun b : Int × gs_Mem => b) := by
  unfold f_X4_parse
  refine gs_enter (L := [(0, gr E 51)]) (by decide) rfl rfl (Nat.le_of_ble_eq_true rfl) rfl ?_
  refine gk_aload_n (pc := 0) 0 dX4_parse_0 rfl ?_
  refine gk_iconst (pc := 1) dX4_parse_1 ?_
  refine gk_putF (pc := 2) rfl clsX4 cll_51 sh_51 2 (by decide) rfl rfl rfl rfl ww_182 dX4_parse_2 ?_
  refine gk_aload_n (pc := 5) 0 dX4_parse_5 rfl ?_
  refine gk_iconst (pc := 6) dX4_parse_6 ?_
  refine gk_putF (pc := 7) rfl clsX4 cll_51 sh_51 3 (by decide) rfl rfl rfl rfl ww_183 dX4_parse_7 ?_
  refine gk_aload_n (pc := 10) 0 dX4_parse_10 rfl ?_
  refine gk_iconst (pc := 11) dX4_parse_11 ?_
  refine gk_putF (pc := 12) rfl clsX4 cll_51 sh_51 4 (by decide) rfl rfl rfl rfl ww_184 dX4_parse_12 ?_
  refine gk_iconst (pc := 15) dX4_parse_15 ?_
  refine gk_istore_n (L' := [(1, gi 0), (0, gr E 51)]) (pc := 16) dX4_parse_16 (Nat.le_of_ble_eq_true rfl) rfl ?_
  refine gk_sub (L' := [(0, gr E 51), (1, gi 0)]) [1, 0] rfl ?_
  refine k_X4_parse_L17 _ _ ?_ ?_ gs_fuel 0 (gs_st (gs_st (gs_st σ 51 2 0) 51 3 (-1)) 51 4 0)
  · intro σ3
    refine gk_aload_n (pc := 45) 0 dX4_parse_45 rfl ?_
    refine gk_getI (pc := 46) rfl clsX4 cll_51 sh_51 3 (by decide) rfl ww_183 dX4_parse_46 ?_
    exact gk_iret (pc := 49) rfl dX4_parse_49
  · intro σ4
    refine gk_aload_n (pc := 79) 0 dX4_parse_79 rfl ?_
    refine gk_getI (pc := 80) rfl clsX4 cll_51 sh_51 2 (by decide) rfl ww_182 dX4_parse_80 ?_
    exact gk_iret (pc := 83) rfl dX4_parse_83
