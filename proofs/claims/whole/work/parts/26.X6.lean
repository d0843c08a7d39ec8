def f_X6_station (v1 : Int) (v2 : Int) (σ : gs_Mem) : Option (Int × gs_Mem) :=
  (f_X6_isOnPlane v1 v2 σ).bind fun u1 =>
  if (gn u1) = 0 then
    some ((-2), σ)
  else
    (f_X0_settle 2 v1 v2 σ).bind fun b2 =>
    some (b2.1, b2.2)
set_option maxRecDepth 100000 in
set_option maxHeartbeats 4000000 in
theorem c_X6_station {E : gs_E} (v1 : Int) (v2 : Int)  (σ : gs_Mem) : gs_C E yX6_station cX6_station 3 (some .int) 0 { frames := 3, cells := 0, slots := 0, locals := 74 } [gr E 0, gi v1, gi v2] σ (f_X6_station v1 v2 σ) (fun b : Int × gs_Mem => b) := by
  unfold f_X6_station
  refine gs_enter (L := [(0, gr E 0), (1, gi v1), (2, gi v2)]) (by decide) rfl rfl (Nat.le_of_ble_eq_true rfl) rfl ?_
  refine gk_iload_n (pc := 0) 1 dX6_station_0 rfl ?_
  refine gk_iload_n (pc := 1) 2 dX6_station_1 rfl ?_
  refine gk_callS_ir (As := [gi v1, gi v2]) (pc := 2) (c_X6_isOnPlane v1 v2 σ) rfl mm_X6_isOnPlane ww_254 (gs_fit_of (Nat.le_of_ble_eq_true rfl) (Nat.le_of_ble_eq_true rfl)) rfl rfl (Nat.le_of_ble_eq_true rfl) dX6_station_2 (fun u1 => ?_)
  refine gk_if_eq (tgt := 23) (pc := 5) dX6_station_5 (by decide) rfl ?_ ?_
  · refine gk_bipush (pc := 23) dX6_station_23 (by decide +kernel) ?_
    exact gk_iret (pc := 25) rfl dX6_station_25
  · refine gk_aload_n (pc := 8) 0 dX6_station_8 rfl ?_
    refine gk_getR (q := 1) (pc := 9) rfl clsX6 cll_0 sh_0 0 (by decide) rfl ww_228 dX6_station_9 ?_
    refine gk_getRN (q := 2) (pc := 12) rfl clsX2 (st_lt0 isSt_1) (st_sh isSt_1) 0 (by decide) rfl ww_143 dX6_station_12 ?_
    refine gk_iload_n (pc := 15) 1 dX6_station_15 rfl ?_
    refine gk_iload_n (pc := 16) 2 dX6_station_16 rfl ?_
    refine gk_callV_iw (As := [gi v1, gi v2]) (pc := 17) (c_X0_settle 2 v1 v2 isPl_2 σ) rfl mm_X0_settle ww_257 clsX0 rfl (pl_lt0 isPl_2) (pl_sh isPl_2) (gs_fit_of (Nat.le_of_ble_eq_true rfl) (Nat.le_of_ble_eq_true rfl)) rfl rfl (Nat.le_of_ble_eq_true rfl) dX6_station_17 (fun b2 => ?_)
    refine gk_goto (tgt := 25) (pc := 20) dX6_station_20 (by decide) ?_
    exact gk_iret (pc := 25) rfl dX6_station_25
def f_X6_rule (v1 : Int) (v2 : Int) (v3 : Int) (σ : gs_Mem) : Option (Int × gs_Mem) :=
  (f_X6_isRule v1 σ).bind fun u1 =>
  if (gn u1) = 0 then
    some ((-1), σ)
  else
    (f_X6_isNear v2 σ).bind fun u2 =>
    if (gn u2) = 0 then
      some ((-2), σ)
    else
      (f_X6_isGap v3 σ).bind fun u3 =>
      if (gn u3) = 0 then
        some ((-2), σ)
      else
        (f_X0_change 2 v1 v2 v3 σ).bind fun b4 =>
        some (b4.1, b4.2)
set_option maxRecDepth 100000 in
set_option maxHeartbeats 4000000 in
theorem c_X6_rule {E : gs_E} (v1 : Int) (v2 : Int) (v3 : Int)  (σ : gs_Mem) : gs_C E yX6_rule cX6_rule 4 (some .int) 0 { frames := 3, cells := 0, slots := 0, locals := 75 } [gr E 0, gi v1, gi v2, gi v3] σ (f_X6_rule v1 v2 v3 σ) (fun b : Int × gs_Mem => b) := by
  unfold f_X6_rule
  refine gs_enter (L := [(0, gr E 0), (1, gi v1), (2, gi v2), (3, gi v3)]) (by decide) rfl rfl (Nat.le_of_ble_eq_true rfl) rfl ?_
  refine gk_iload_n (pc := 0) 1 dX6_rule_0 rfl ?_
  refine gk_callS_ir (As := [gi v1]) (pc := 1) (c_X6_isRule v1 σ) rfl mm_X6_isRule ww_277 (gs_fit_of (Nat.le_of_ble_eq_true rfl) (Nat.le_of_ble_eq_true rfl)) rfl rfl (Nat.le_of_ble_eq_true rfl) dX6_rule_1 (fun u1 => ?_)
  refine gk_if_ne (tgt := 9) (pc := 4) dX6_rule_4 (by decide) rfl ?_ ?_
  · refine gk_iload_n (pc := 9) 2 dX6_rule_9 rfl ?_
    refine gk_callS_ir (As := [gi v2]) (pc := 10) (c_X6_isNear v2 σ) rfl mm_X6_isNear ww_280 (gs_fit_of (Nat.le_of_ble_eq_true rfl) (Nat.le_of_ble_eq_true rfl)) rfl rfl (Nat.le_of_ble_eq_true rfl) dX6_rule_10 (fun u2 => ?_)
    refine gk_if_eq (tgt := 23) (pc := 13) dX6_rule_13 (by decide) rfl ?_ ?_
    · refine gk_bipush (pc := 23) dX6_rule_23 (by decide +kernel) ?_
      exact gk_iret (pc := 25) rfl dX6_rule_25
    · refine gk_iload_n (pc := 16) 3 dX6_rule_16 rfl ?_
      refine gk_callS_ir (As := [gi v3]) (pc := 17) (c_X6_isGap v3 σ) rfl mm_X6_isGap ww_283 (gs_fit_of (Nat.le_of_ble_eq_true rfl) (Nat.le_of_ble_eq_true rfl)) rfl rfl (Nat.le_of_ble_eq_true rfl) dX6_rule_17 (fun u3 => ?_)
      refine gk_if_ne (tgt := 26) (pc := 20) dX6_rule_20 (by decide) rfl ?_ ?_
      · refine gk_aload_n (pc := 26) 0 dX6_rule_26 rfl ?_
        refine gk_getR (q := 1) (pc := 27) rfl clsX6 cll_0 sh_0 0 (by decide) rfl ww_228 dX6_rule_27 ?_
        refine gk_getRN (q := 2) (pc := 30) rfl clsX2 (st_lt0 isSt_1) (st_sh isSt_1) 0 (by decide) rfl ww_143 dX6_rule_30 ?_
        refine gk_iload_n (pc := 33) 1 dX6_rule_33 rfl ?_
        refine gk_iload_n (pc := 34) 2 dX6_rule_34 rfl ?_
        refine gk_iload_n (pc := 35) 3 dX6_rule_35 rfl ?_
        refine gk_callV_iw (As := [gi v1, gi v2, gi v3]) (pc := 36) (c_X0_change 2 v1 v2 v3 isPl_2 σ) rfl mm_X0_change ww_286 clsX0 rfl (pl_lt0 isPl_2) (pl_sh isPl_2) (gs_fit_of (Nat.le_of_ble_eq_true rfl) (Nat.le_of_ble_eq_true rfl)) rfl rfl (Nat.le_of_ble_eq_true rfl) dX6_rule_36 (fun b4 => ?_)
        exact gk_iret (pc := 39) rfl dX6_rule_39
      · refine gk_bipush (pc := 23) dX6_rule_23 (by decide +kernel) ?_
        exact gk_iret (pc := 25) rfl dX6_rule_25
  · refine gk_iconst (pc := 7) dX6_rule_7 ?_
    exact gk_iret (pc := 8) rfl dX6_rule_8
def f_X6_channel_J49 (v1 : Int) (v2 : Int) (σ : gs_Mem) : Option (Int × gs_Mem) :=
  (f_X0_channelOrAbsent 2 v1 σ).bind fun u2 =>
  (f_X0_tune 2 v1 v2 σ).bind fun b3 =>
  some (u2, b3.2)
set_option maxRecDepth 100000 in
set_option maxHeartbeats 4000000 in
theorem k_X6_channel_J49 {E : gs_E}  (v1 : Int) (v2 : Int)   (σ : gs_Mem) : gs_K E (gs_MC E yX6_channel cX6_channel 5 (some .int) 0 { frames := 3, cells := 0, slots := 0, locals := 64 }) (fun b : Int × gs_Mem => b) (f_X6_channel_J49 v1 v2 σ) 49 [(1, gi v1), (2, gi v2), (3, gr E 2)] [] σ := by
  unfold f_X6_channel_J49
  refine gk_aload_n (pc := 49) 2 dX6_channel_49 rfl ?_
  refine gk_iload_n (pc := 50) 0 dX6_channel_50 rfl ?_
  refine gk_callV_ir (As := [gi v1]) (pc := 51) (c_X0_channelOrAbsent 2 v1 isPl_2 σ) rfl mm_X0_channelOrAbsent ww_307 clsX0 rfl (pl_lt0 isPl_2) (pl_sh isPl_2) (gs_fit_of (Nat.le_of_ble_eq_true rfl) (Nat.le_of_ble_eq_true rfl)) rfl rfl (Nat.le_of_ble_eq_true rfl) dX6_channel_51 (fun u2 => ?_)
  refine gk_istore (L' := [(4, gi u2), (1, gi v1), (2, gi v2), (3, gr E 2)]) (pc := 54) dX6_channel_54 (Nat.le_of_ble_eq_true rfl) rfl ?_
  refine gk_aload_n (pc := 56) 3 dX6_channel_56 rfl ?_
  refine gk_iload_n (pc := 57) 1 dX6_channel_57 rfl ?_
  refine gk_iload_n (pc := 58) 2 dX6_channel_58 rfl ?_
  refine gk_callV_vw (As := [gi v1, gi v2]) (pc := 59) (c_X0_tune 2 v1 v2 isPl_2 σ) rfl mm_X0_tune ww_315 clsX0 rfl (pl_lt0 isPl_2) (pl_sh isPl_2) (gs_fit_of (Nat.le_of_ble_eq_true rfl) (Nat.le_of_ble_eq_true rfl)) rfl rfl (Nat.le_of_ble_eq_true rfl) dX6_channel_59 (fun b3 => ?_)
  refine gk_iload (pc := 62) 0 dX6_channel_62 rfl ?_
  exact gk_iret (pc := 64) rfl dX6_channel_64
def f_X6_channel_J33 (v1 : Int) (v2 : Int) (σ : gs_Mem) : Option (Int × gs_Mem) :=
  if (gn v2) = (-1) then
    f_X6_channel_J49 v1 v2 σ
  else
    (f_X0_isFixed 2 v1 σ).bind fun u4 =>
    if (gn u4) = 0 then
      f_X6_channel_J49 v1 v2 σ
    else
      some ((-3), σ)
set_option maxRecDepth 100000 in
set_option maxHeartbeats 4000000 in
theorem k_X6_channel_J33 {E : gs_E}  (v1 : Int) (v2 : Int)   (σ : gs_Mem) : gs_K E (gs_MC E yX6_channel cX6_channel 5 (some .int) 0 { frames := 3, cells := 0, slots := 0, locals := 64 }) (fun b : Int × gs_Mem => b) (f_X6_channel_J33 v1 v2 σ) 33 [(1, gi v1), (2, gi v2), (3, gr E 2)] [] σ := by
  unfold f_X6_channel_J33
  refine gk_iload_n (pc := 33) 1 dX6_channel_33 rfl ?_
  refine gk_iconst (pc := 34) dX6_channel_34 ?_
  refine gk_icmp_eq (tgt := 49) (pc := 35) dX6_channel_35 (by decide) rfl (by decide +kernel) ?_ ?_
  · exact k_X6_channel_J49 v1 v2 σ
  · refine gk_aload_n (pc := 38) 2 dX6_channel_38 rfl ?_
    refine gk_iload_n (pc := 39) 0 dX6_channel_39 rfl ?_
    refine gk_callV_ir (As := [gi v1]) (pc := 40) (c_X0_isFixed 2 v1 isPl_2 σ) rfl mm_X0_isFixed ww_302 clsX0 rfl (pl_lt0 isPl_2) (pl_sh isPl_2) (gs_fit_of (Nat.le_of_ble_eq_true rfl) (Nat.le_of_ble_eq_true rfl)) rfl rfl (Nat.le_of_ble_eq_true rfl) dX6_channel_40 (fun u4 => ?_)
    refine gk_if_eq (tgt := 49) (pc := 43) dX6_channel_43 (by decide) rfl ?_ ?_
    · exact k_X6_channel_J49 v1 v2 σ
    · refine gk_bipush (pc := 46) dX6_channel_46 (by decide +kernel) ?_
      exact gk_iret (pc := 48) rfl dX6_channel_48
def f_X6_channel (v1 : Int) (v2 : Int) (σ : gs_Mem) : Option (Int × gs_Mem) :=
  (f_X0_has 2 v1 σ).bind fun u1 =>
  if (gn u1) = 0 then
    some ((-1), σ)
  else
    if (gn v2) = (-1) then
      f_X6_channel_J33 v1 v2 σ
    else
      (f_X6_isChannel v2 σ).bind fun u5 =>
      if (gn u5) = 0 then
        some ((-2), σ)
      else
        f_X6_channel_J33 v1 v2 σ
set_option maxRecDepth 100000 in
set_option maxHeartbeats 4000000 in
theorem c_X6_channel {E : gs_E} (v1 : Int) (v2 : Int)  (σ : gs_Mem) : gs_C E yX6_channel cX6_channel 5 (some .int) 0 { frames := 3, cells := 0, slots := 0, locals := 64 } [gr E 0, gi v1, gi v2] σ (f_X6_channel v1 v2 σ) (fun b : Int × gs_Mem => b) := by
  unfold f_X6_channel
  refine gs_enter (L := [(0, gr E 0), (1, gi v1), (2, gi v2)]) (by decide) rfl rfl (Nat.le_of_ble_eq_true rfl) rfl ?_
  refine gk_aload_n (pc := 0) 0 dX6_channel_0 rfl ?_
  refine gk_getR (q := 1) (pc := 1) rfl clsX6 cll_0 sh_0 0 (by decide) rfl ww_228 dX6_channel_1 ?_
  refine gk_getRN (q := 2) (pc := 4) rfl clsX2 (st_lt0 isSt_1) (st_sh isSt_1) 0 (by decide) rfl ww_143 dX6_channel_4 ?_
  refine gk_astore_n (L' := [(3, gr E 2), (0, gr E 0), (1, gi v1), (2, gi v2)]) (pc := 7) dX6_channel_7 (Nat.le_of_ble_eq_true rfl) rfl ?_
  refine gk_aload_n (pc := 8) 0 dX6_channel_8 rfl ?_
  refine gk_iload_n (pc := 9) 2 dX6_channel_9 rfl ?_
  refine gk_callV_ir (As := [gi v1]) (pc := 10) (c_X0_has 2 v1 isPl_2 σ) rfl mm_X0_has ww_295 clsX0 rfl (pl_lt0 isPl_2) (pl_sh isPl_2) (gs_fit_of (Nat.le_of_ble_eq_true rfl) (Nat.le_of_ble_eq_true rfl)) rfl rfl (Nat.le_of_ble_eq_true rfl) dX6_channel_10 (fun u1 => ?_)
  refine gk_if_ne (tgt := 18) (pc := 13) dX6_channel_13 (by decide) rfl ?_ ?_
  · refine gk_iload_n (pc := 18) 3 dX6_channel_18 rfl ?_
    refine gk_iconst (pc := 19) dX6_channel_19 ?_
    refine gk_icmp_eq (tgt := 33) (pc := 20) dX6_channel_20 (by decide) rfl (by decide +kernel) ?_ ?_
    · refine gk_sub (L' := [(1, gi v1), (2, gi v2), (3, gr E 2)]) [2, 3, 0] rfl ?_
      exact k_X6_channel_J33 v1 v2 σ
    · refine gk_iload_n (pc := 23) 3 dX6_channel_23 rfl ?_
      refine gk_callS_ir (As := [gi v2]) (pc := 24) (c_X6_isChannel v2 σ) rfl mm_X6_isChannel ww_299 (gs_fit_of (Nat.le_of_ble_eq_true rfl) (Nat.le_of_ble_eq_true rfl)) rfl rfl (Nat.le_of_ble_eq_true rfl) dX6_channel_24 (fun u5 => ?_)
      refine gk_if_ne (tgt := 33) (pc := 27) dX6_channel_27 (by decide) rfl ?_ ?_
      · refine gk_sub (L' := [(1, gi v1), (2, gi v2), (3, gr E 2)]) [2, 3, 0] rfl ?_
        exact k_X6_channel_J33 v1 v2 σ
      · refine gk_bipush (pc := 30) dX6_channel_30 (by decide +kernel) ?_
        exact gk_iret (pc := 32) rfl dX6_channel_32
  · refine gk_iconst (pc := 16) dX6_channel_16 ?_
    exact gk_iret (pc := 17) rfl dX6_channel_17
def f_X6_fix_J43 (v1 : Int) (v2 : Int) (t0 : Int) (σ : gs_Mem) : Option (Int × gs_Mem) :=
  (f_X0_pin 2 v1 v2 σ).bind fun b4 =>
  some (t0, b4.2)
set_option maxRecDepth 100000 in
set_option maxHeartbeats 4000000 in
theorem k_X6_fix_J43 {E : gs_E}  (v1 : Int) (v2 : Int) (t0 : Int)   (σ : gs_Mem) : gs_K E (gs_MC E yX6_fix cX6_fix 5 (some .int) 0 { frames := 2, cells := 0, slots := 0, locals := 44 }) (fun b : Int × gs_Mem => b) (f_X6_fix_J43 v1 v2 t0 σ) 43 [(1, gi v1), (2, gi v2), (3, gr E 2)] [gi t0] σ := by
  unfold f_X6_fix_J43
  refine gk_istore (L' := [(4, gi t0), (1, gi v1), (2, gi v2), (3, gr E 2)]) (pc := 43) dX6_fix_43 (Nat.le_of_ble_eq_true rfl) rfl ?_
  refine gk_aload_n (pc := 45) 3 dX6_fix_45 rfl ?_
  refine gk_iload_n (pc := 46) 1 dX6_fix_46 rfl ?_
  refine gk_iload_n (pc := 47) 2 dX6_fix_47 rfl ?_
  refine gk_callV_vw (As := [gi v1, gi v2]) (pc := 48) (c_X0_pin 2 v1 v2 isPl_2 σ) rfl mm_X0_pin ww_324 clsX0 rfl (pl_lt0 isPl_2) (pl_sh isPl_2) (gs_fit_of (Nat.le_of_ble_eq_true rfl) (Nat.le_of_ble_eq_true rfl)) rfl rfl (Nat.le_of_ble_eq_true rfl) dX6_fix_48 (fun b4 => ?_)
  refine gk_iload (pc := 51) 0 dX6_fix_51 rfl ?_
  exact gk_iret (pc := 53) rfl dX6_fix_53
def f_X6_fix (v1 : Int) (v2 : Int) (σ : gs_Mem) : Option (Int × gs_Mem) :=
  (f_X0_has 2 v1 σ).bind fun u1 =>
  if (gn u1) = 0 then
    some ((-1), σ)
  else
    (f_X0_channelOf 2 v1 σ).bind fun u2 =>
    if (gn u2) = (-1) then
      some ((-3), σ)
    else
      (f_X0_isFixed 2 v1 σ).bind fun u3 =>
      if (gn u3) = 0 then
        f_X6_fix_J43 v1 v2 0 σ
      else
        f_X6_fix_J43 v1 v2 1 σ
set_option maxRecDepth 100000 in
set_option maxHeartbeats 4000000 in
theorem c_X6_fix {E : gs_E} (v1 : Int) (v2 : Int)  (σ : gs_Mem) : gs_C E yX6_fix cX6_fix 5 (some .int) 0 { frames := 2, cells := 0, slots := 0, locals := 44 } [gr E 0, gi v1, gi v2] σ (f_X6_fix v1 v2 σ) (fun b : Int × gs_Mem => b) := by
  unfold f_X6_fix
  refine gs_enter (L := [(0, gr E 0), (1, gi v1), (2, gi v2)]) (by decide) rfl rfl (Nat.le_of_ble_eq_true rfl) rfl ?_
  refine gk_aload_n (pc := 0) 0 dX6_fix_0 rfl ?_
  refine gk_getR (q := 1) (pc := 1) rfl clsX6 cll_0 sh_0 0 (by decide) rfl ww_228 dX6_fix_1 ?_
  refine gk_getRN (q := 2) (pc := 4) rfl clsX2 (st_lt0 isSt_1) (st_sh isSt_1) 0 (by decide) rfl ww_143 dX6_fix_4 ?_
  refine gk_astore_n (L' := [(3, gr E 2), (0, gr E 0), (1, gi v1), (2, gi v2)]) (pc := 7) dX6_fix_7 (Nat.le_of_ble_eq_true rfl) rfl ?_
  refine gk_aload_n (pc := 8) 0 dX6_fix_8 rfl ?_
  refine gk_iload_n (pc := 9) 2 dX6_fix_9 rfl ?_
  refine gk_callV_ir (As := [gi v1]) (pc := 10) (c_X0_has 2 v1 isPl_2 σ) rfl mm_X0_has ww_295 clsX0 rfl (pl_lt0 isPl_2) (pl_sh isPl_2) (gs_fit_of (Nat.le_of_ble_eq_true rfl) (Nat.le_of_ble_eq_true rfl)) rfl rfl (Nat.le_of_ble_eq_true rfl) dX6_fix_10 (fun u1 => ?_)
  refine gk_if_ne (tgt := 18) (pc := 13) dX6_fix_13 (by decide) rfl ?_ ?_
  · refine gk_aload_n (pc := 18) 0 dX6_fix_18 rfl ?_
    refine gk_iload_n (pc := 19) 2 dX6_fix_19 rfl ?_
    refine gk_callV_ir (As := [gi v1]) (pc := 20) (c_X0_channelOf 2 v1 isPl_2 σ) rfl mm_X0_channelOf ww_323 clsX0 rfl (pl_lt0 isPl_2) (pl_sh isPl_2) (gs_fit_of (Nat.le_of_ble_eq_true rfl) (Nat.le_of_ble_eq_true rfl)) rfl rfl (Nat.le_of_ble_eq_true rfl) dX6_fix_20 (fun u2 => ?_)
    refine gk_iconst (pc := 23) dX6_fix_23 ?_
    refine gk_icmp_ne (tgt := 30) (pc := 24) dX6_fix_24 (by decide) rfl (by decide +kernel) ?_ ?_
    · refine gk_aload_n (pc := 30) 0 dX6_fix_30 rfl ?_
      refine gk_iload_n (pc := 31) 2 dX6_fix_31 rfl ?_
      refine gk_callV_ir (As := [gi v1]) (pc := 32) (c_X0_isFixed 2 v1 isPl_2 σ) rfl mm_X0_isFixed ww_302 clsX0 rfl (pl_lt0 isPl_2) (pl_sh isPl_2) (gs_fit_of (Nat.le_of_ble_eq_true rfl) (Nat.le_of_ble_eq_true rfl)) rfl rfl (Nat.le_of_ble_eq_true rfl) dX6_fix_32 (fun u3 => ?_)
      refine gk_if_eq (tgt := 42) (pc := 35) dX6_fix_35 (by decide) rfl ?_ ?_
      · refine gk_iconst (pc := 42) dX6_fix_42 ?_
        refine gk_sub (L' := [(1, gi v1), (2, gi v2), (3, gr E 2)]) [2, 3, 0] rfl ?_
        exact k_X6_fix_J43 v1 v2 0 σ
      · refine gk_iconst (pc := 38) dX6_fix_38 ?_
        refine gk_goto (tgt := 43) (pc := 39) dX6_fix_39 (by decide) ?_
        refine gk_sub (L' := [(1, gi v1), (2, gi v2), (3, gr E 2)]) [2, 3, 0] rfl ?_
        exact k_X6_fix_J43 v1 v2 1 σ
    · refine gk_bipush (pc := 27) dX6_fix_27 (by decide +kernel) ?_
      exact gk_iret (pc := 29) rfl dX6_fix_29
  · refine gk_iconst (pc := 16) dX6_fix_16 ?_
    exact gk_iret (pc := 17) rfl dX6_fix_17
def f_X6_move_J54 (v1 : Int) (v2 : Int) (v3 : Int) (σ : gs_Mem) : Option (Int × gs_Mem) :=
  (f_X0_carry 2 v1 v2 v3 σ).bind fun b4 =>
  some (b4.1, b4.2)
set_option maxRecDepth 100000 in
set_option maxHeartbeats 4000000 in
theorem k_X6_move_J54 {E : gs_E}  (v1 : Int) (v2 : Int) (v3 : Int)   (σ : gs_Mem) : gs_K E (gs_MC E yX6_move cX6_move 6 (some .int) 0 { frames := 3, cells := 0, slots := 0, locals := 76 }) (fun b : Int × gs_Mem => b) (f_X6_move_J54 v1 v2 v3 σ) 54 [(1, gi v1), (2, gi v2), (3, gi v3), (4, gr E 2)] [] σ := by
  unfold f_X6_move_J54
  refine gk_aload (pc := 54) 3 dX6_move_54 rfl ?_
  refine gk_iload_n (pc := 56) 0 dX6_move_56 rfl ?_
  refine gk_iload_n (pc := 57) 1 dX6_move_57 rfl ?_
  refine gk_iload_n (pc := 58) 2 dX6_move_58 rfl ?_
  refine gk_callV_iw (As := [gi v1, gi v2, gi v3]) (pc := 59) (c_X0_carry 2 v1 v2 v3 isPl_2 σ) rfl mm_X0_carry ww_333 clsX0 rfl (pl_lt0 isPl_2) (pl_sh isPl_2) (gs_fit_of (Nat.le_of_ble_eq_true rfl) (Nat.le_of_ble_eq_true rfl)) rfl rfl (Nat.le_of_ble_eq_true rfl) dX6_move_59 (fun b4 => ?_)
  exact gk_iret (pc := 62) rfl dX6_move_62
def f_X6_move (v1 : Int) (v2 : Int) (v3 : Int) (σ : gs_Mem) : Option (Int × gs_Mem) :=
  (f_X0_has 2 v1 σ).bind fun u1 =>
  if (gn u1) = 0 then
    some ((-1), σ)
  else
    (f_X6_isOnPlane v2 v3 σ).bind fun u2 =>
    if (gn u2) = 0 then
      some ((-2), σ)
    else
      (f_X0_whoIsAt 2 v2 v3 σ).bind fun u3 =>
      if (gn u3) < 0 then
        f_X6_move_J54 v1 v2 v3 σ
      else
        if (gn u3) = (gn v1) then
          f_X6_move_J54 v1 v2 v3 σ
        else
          some ((-3), σ)
set_option maxRecDepth 100000 in
set_option maxHeartbeats 4000000 in
theorem c_X6_move {E : gs_E} (v1 : Int) (v2 : Int) (v3 : Int)  (σ : gs_Mem) : gs_C E yX6_move cX6_move 6 (some .int) 0 { frames := 3, cells := 0, slots := 0, locals := 76 } [gr E 0, gi v1, gi v2, gi v3] σ (f_X6_move v1 v2 v3 σ) (fun b : Int × gs_Mem => b) := by
  unfold f_X6_move
  refine gs_enter (L := [(0, gr E 0), (1, gi v1), (2, gi v2), (3, gi v3)]) (by decide) rfl rfl (Nat.le_of_ble_eq_true rfl) rfl ?_
  refine gk_aload_n (pc := 0) 0 dX6_move_0 rfl ?_
  refine gk_getR (q := 1) (pc := 1) rfl clsX6 cll_0 sh_0 0 (by decide) rfl ww_228 dX6_move_1 ?_
  refine gk_getRN (q := 2) (pc := 4) rfl clsX2 (st_lt0 isSt_1) (st_sh isSt_1) 0 (by decide) rfl ww_143 dX6_move_4 ?_
  refine gk_astore (L' := [(4, gr E 2), (0, gr E 0), (1, gi v1), (2, gi v2), (3, gi v3)]) (pc := 7) dX6_move_7 (Nat.le_of_ble_eq_true rfl) rfl ?_
  refine gk_aload (pc := 9) 0 dX6_move_9 rfl ?_
  refine gk_iload_n (pc := 11) 2 dX6_move_11 rfl ?_
  refine gk_callV_ir (As := [gi v1]) (pc := 12) (c_X0_has 2 v1 isPl_2 σ) rfl mm_X0_has ww_295 clsX0 rfl (pl_lt0 isPl_2) (pl_sh isPl_2) (gs_fit_of (Nat.le_of_ble_eq_true rfl) (Nat.le_of_ble_eq_true rfl)) rfl rfl (Nat.le_of_ble_eq_true rfl) dX6_move_12 (fun u1 => ?_)
  refine gk_if_ne (tgt := 20) (pc := 15) dX6_move_15 (by decide) rfl ?_ ?_
  · refine gk_iload_n (pc := 20) 3 dX6_move_20 rfl ?_
    refine gk_iload_n (pc := 21) 4 dX6_move_21 rfl ?_
    refine gk_callS_ir (As := [gi v2, gi v3]) (pc := 22) (c_X6_isOnPlane v2 v3 σ) rfl mm_X6_isOnPlane ww_254 (gs_fit_of (Nat.le_of_ble_eq_true rfl) (Nat.le_of_ble_eq_true rfl)) rfl rfl (Nat.le_of_ble_eq_true rfl) dX6_move_22 (fun u2 => ?_)
    refine gk_if_ne (tgt := 31) (pc := 25) dX6_move_25 (by decide) rfl ?_ ?_
    · refine gk_aload (pc := 31) 0 dX6_move_31 rfl ?_
      refine gk_iload_n (pc := 33) 3 dX6_move_33 rfl ?_
      refine gk_iload_n (pc := 34) 4 dX6_move_34 rfl ?_
      refine gk_callV_ir (As := [gi v2, gi v3]) (pc := 35) (c_X0_whoIsAt 2 v2 v3 isPl_2 σ) rfl mm_X0_whoIsAt ww_332 clsX0 rfl (pl_lt0 isPl_2) (pl_sh isPl_2) (gs_fit_of (Nat.le_of_ble_eq_true rfl) (Nat.le_of_ble_eq_true rfl)) rfl rfl (Nat.le_of_ble_eq_true rfl) dX6_move_35 (fun u3 => ?_)
      refine gk_istore (L' := [(5, gi u3), (4, gr E 2), (0, gr E 0), (1, gi v1), (2, gi v2), (3, gi v3)]) (pc := 38) dX6_move_38 (Nat.le_of_ble_eq_true rfl) rfl ?_
      refine gk_iload (pc := 40) 0 dX6_move_40 rfl ?_
      refine gk_if_lt (tgt := 54) (pc := 42) dX6_move_42 (by decide) rfl ?_ ?_
      · refine gk_sub (L' := [(1, gi v1), (2, gi v2), (3, gi v3), (4, gr E 2)]) [3, 4, 5, 1] rfl ?_
        exact k_X6_move_J54 v1 v2 v3 σ
      · refine gk_iload (pc := 45) 0 dX6_move_45 rfl ?_
        refine gk_iload_n (pc := 47) 3 dX6_move_47 rfl ?_
        refine gk_icmp_eq (tgt := 54) (pc := 48) dX6_move_48 (by decide) rfl rfl ?_ ?_
        · refine gk_sub (L' := [(1, gi v1), (2, gi v2), (3, gi v3), (4, gr E 2)]) [3, 4, 5, 1] rfl ?_
          exact k_X6_move_J54 v1 v2 v3 σ
        · refine gk_bipush (pc := 51) dX6_move_51 (by decide +kernel) ?_
          exact gk_iret (pc := 53) rfl dX6_move_53
    · refine gk_bipush (pc := 28) dX6_move_28 (by decide +kernel) ?_
      exact gk_iret (pc := 30) rfl dX6_move_30
  · refine gk_iconst (pc := 18) dX6_move_18 ?_
    exact gk_iret (pc := 19) rfl dX6_move_19
def f_X6_feed_J10  (σ : gs_Mem) : Option (Int × gs_Mem) :=
  some ((-2), σ)
set_option maxRecDepth 100000 in
set_option maxHeartbeats 4000000 in
theorem k_X6_feed_J10 {E : gs_E}     (σ : gs_Mem) : gs_K E (gs_MC E yX6_feed cX6_feed 2 (some .int) 0 { frames := 1, cells := 0, slots := 0, locals := 21 }) (fun b : Int × gs_Mem => b) (f_X6_feed_J10 σ) 10 [] [] σ := by
  unfold f_X6_feed_J10
  refine gk_bipush (pc := 10) dX6_feed_10 (by decide +kernel) ?_
  refine gk_goto (tgt := 23) (pc := 12) dX6_feed_12 (by decide) ?_
  exact gk_iret (pc := 23) rfl dX6_feed_23
def f_X6_feed (v1 : Int) (σ : gs_Mem) : Option (Int × gs_Mem) :=
  if (gn v1) < 0 then
    f_X6_feed_J10 σ
  else
    if (gn v1) ≤ 127 then
      (f_X4_append v1 σ).bind fun b1 =>
      some (b1.1, b1.2)
    else
      f_X6_feed_J10 σ
set_option maxRecDepth 100000 in
set_option maxHeartbeats 4000000 in
theorem c_X6_feed {E : gs_E} (v1 : Int)  (σ : gs_Mem) : gs_C E yX6_feed cX6_feed 2 (some .int) 0 { frames := 1, cells := 0, slots := 0, locals := 21 } [gr E 0, gi v1] σ (f_X6_feed v1 σ) (fun b : Int × gs_Mem => b) := by
  unfold f_X6_feed
  refine gs_enter (L := [(0, gr E 0), (1, gi v1)]) (by decide) rfl rfl (Nat.le_of_ble_eq_true rfl) rfl ?_
  refine gk_iload_n (pc := 0) 1 dX6_feed_0 rfl ?_
  refine gk_if_lt (tgt := 10) (pc := 1) dX6_feed_1 (by decide) rfl ?_ ?_
  · refine gk_sub (L' := []) [] rfl ?_
    exact k_X6_feed_J10 σ
  · refine gk_iload_n (pc := 4) 1 dX6_feed_4 rfl ?_
    refine gk_bipush (pc := 5) dX6_feed_5 (by decide +kernel) ?_
    refine gk_icmp_le (tgt := 15) (pc := 7) dX6_feed_7 (by decide) rfl (by decide +kernel) ?_ ?_
    · refine gk_aload_n (pc := 15) 0 dX6_feed_15 rfl ?_
      refine gk_getR (q := 51) (pc := 16) rfl clsX6 cll_0 sh_0 5 (by decide) rfl ww_233 dX6_feed_16 ?_
      refine gk_iload_n (pc := 19) 1 dX6_feed_19 rfl ?_
      refine gk_callV_iw (As := [gi v1]) (pc := 20) (c_X4_append v1 σ) rfl mm_X4_append ww_341 clsX4 rfl cll_51 sh_51 (gs_fit_of (Nat.le_of_ble_eq_true rfl) (Nat.le_of_ble_eq_true rfl)) rfl rfl (Nat.le_of_ble_eq_true rfl) dX6_feed_20 (fun b1 => ?_)
      exact gk_iret (pc := 23) rfl dX6_feed_23
    · refine gk_sub (L' := []) [] rfl ?_
      exact k_X6_feed_J10 σ
def f_X6_read_J115 (k28 : Int → Int → gs_Mem → Option (Int × gs_Mem)) (v2 : Int) (v3 : Int) (σ : gs_Mem) : Option (Int × gs_Mem) :=
  k28 v2 (v3 + 1) σ
set_option maxRecDepth 100000 in
set_option maxHeartbeats 4000000 in
theorem k_X6_read_J115 {E : gs_E} (k28 : Int → Int → gs_Mem → Option (Int × gs_Mem))  (v2 : Int) (v3 : Int)  (hk28 : ∀ (w2 : Int) (w3 : Int) (σ : gs_Mem), gs_K E (gs_MC E yX6_read cX6_read 5 (some .int) 0 { frames := 4, cells := 0, slots := 0, locals := 86 }) (fun b : Int × gs_Mem => b) (k28 w2 w3 σ) 28 [(0, gr E 0), (2, gi w2), (3, gi w3)] [] σ) (σ : gs_Mem) : gs_K E (gs_MC E yX6_read cX6_read 5 (some .int) 0 { frames := 4, cells := 0, slots := 0, locals := 86 }) (fun b : Int × gs_Mem => b) (f_X6_read_J115 k28 v2 v3 σ) 115 [(0, gr E 0), (2, gi v2), (3, gi v3)] [] σ := by
  unfold f_X6_read_J115
  refine gk_iinc (L' := [(3, gi (v3 + 1)), (0, gr E 0), (2, gi v2)]) (pc := 115) 2 dX6_read_115 rfl (Nat.le_of_ble_eq_true rfl) rfl ?_
  refine gk_goto (tgt := 28) (pc := 118) dX6_read_118 (by decide) ?_
  refine gk_sub (L' := [(0, gr E 0), (2, gi v2), (3, gi (v3 + 1))]) [1, 2, 0] rfl ?_
  exact hk28 v2 (v3 + 1) σ
def f_X6_read_L28  : Nat → Int → Int → gs_Mem → Option (Int × gs_Mem)
  | 0, _, _, _ => none
  | n + 1, v2, v3, σ =>
    (f_X4_clauses σ).bind fun u3 =>
    if (gn u3) ≤ (gn v3) then
      some (v2, σ)
    else
      (f_X4_x v3 σ).bind fun u4 =>
      (f_X4_y v3 σ).bind fun u5 =>
      (f_X0_settle 2 u4 u5 σ).bind fun b6 =>
      if (gn b6.1) < 0 then
        f_X6_read_J115 (f_X6_read_L28 n) v2 v3 b6.2
      else
        (f_X4_channelAt v3 b6.2).bind fun u7 =>
        (f_X0_tune 2 b6.1 u7 b6.2).bind fun b8 =>
        (f_X4_isFixedAt v3 b8.2).bind fun u9 =>
        (f_X0_pin 2 b6.1 u9 b8.2).bind fun b10 =>
        f_X6_read_J115 (f_X6_read_L28 n) (v2 + 1) v3 b10.2
set_option maxRecDepth 100000 in
set_option maxHeartbeats 4000000 in
theorem k_X6_read_L28 {E : gs_E}    : ∀ (n : Nat) (v2 : Int) (v3 : Int) (σ : gs_Mem), gs_K E (gs_MC E yX6_read cX6_read 5 (some .int) 0 { frames := 4, cells := 0, slots := 0, locals := 86 }) (fun b : Int × gs_Mem => b) (f_X6_read_L28 n v2 v3 σ) 28 [(0, gr E 0), (2, gi v2), (3, gi v3)] [] σ := by
  intro n
  induction n with
  | zero => intro v2 v3 σ; rw [f_X6_read_L28]; exact gk_none
  | succ n ih =>
    intro v2 v3 σ; rw [f_X6_read_L28]
    refine gk_iload_n (pc := 28) 2 dX6_read_28 rfl ?_
    refine gk_aload_n (pc := 29) 0 dX6_read_29 rfl ?_
    refine gk_getR (q := 51) (pc := 30) rfl clsX6 cll_0 sh_0 5 (by decide) rfl ww_233 dX6_read_30 ?_
    refine gk_callV_ir (As := []) (pc := 33) (c_X4_clauses σ) rfl mm_X4_clauses ww_377 clsX4 rfl cll_51 sh_51 (gs_fit_of (Nat.le_of_ble_eq_true rfl) (Nat.le_of_ble_eq_true rfl)) rfl rfl (Nat.le_of_ble_eq_true rfl) dX6_read_33 (fun u3 => ?_)
    refine gk_icmp_ge (tgt := 121) (pc := 36) dX6_read_36 (by decide) rfl rfl ?_ ?_
    · refine gk_iload_n (pc := 121) 1 dX6_read_121 rfl ?_
      exact gk_iret (pc := 122) rfl dX6_read_122
    · refine gk_aload_n (pc := 39) 0 dX6_read_39 rfl ?_
      refine gk_getR (q := 1) (pc := 40) rfl clsX6 cll_0 sh_0 0 (by decide) rfl ww_228 dX6_read_40 ?_
      refine gk_getRN (q := 2) (pc := 43) rfl clsX2 (st_lt0 isSt_1) (st_sh isSt_1) 0 (by decide) rfl ww_143 dX6_read_43 ?_
      refine gk_aload_n (pc := 46) 0 dX6_read_46 rfl ?_
      refine gk_getR (q := 51) (pc := 47) rfl clsX6 cll_0 sh_0 5 (by decide) rfl ww_233 dX6_read_47 ?_
      refine gk_iload_n (pc := 50) 2 dX6_read_50 rfl ?_
      refine gk_callV_ir (As := [gi v3]) (pc := 51) (c_X4_x v3 σ) rfl mm_X4_x ww_381 clsX4 rfl cll_51 sh_51 (gs_fit_of (Nat.le_of_ble_eq_true rfl) (Nat.le_of_ble_eq_true rfl)) rfl rfl (Nat.le_of_ble_eq_true rfl) dX6_read_51 (fun u4 => ?_)
      refine gk_aload_n (pc := 54) 0 dX6_read_54 rfl ?_
      refine gk_getR (q := 51) (pc := 55) rfl clsX6 cll_0 sh_0 5 (by decide) rfl ww_233 dX6_read_55 ?_
      refine gk_iload_n (pc := 58) 2 dX6_read_58 rfl ?_
      refine gk_callV_ir (As := [gi v3]) (pc := 59) (c_X4_y v3 σ) rfl mm_X4_y ww_385 clsX4 rfl cll_51 sh_51 (gs_fit_of (Nat.le_of_ble_eq_true rfl) (Nat.le_of_ble_eq_true rfl)) rfl rfl (Nat.le_of_ble_eq_true rfl) dX6_read_59 (fun u5 => ?_)
      refine gk_callV_iw (As := [gi u4, gi u5]) (pc := 62) (c_X0_settle 2 u4 u5 isPl_2 σ) rfl mm_X0_settle ww_257 clsX0 rfl (pl_lt0 isPl_2) (pl_sh isPl_2) (gs_fit_of (Nat.le_of_ble_eq_true rfl) (Nat.le_of_ble_eq_true rfl)) rfl rfl (Nat.le_of_ble_eq_true rfl) dX6_read_62 (fun b6 => ?_)
      refine gk_istore (L' := [(4, gi b6.1), (0, gr E 0), (2, gi v2), (3, gi v3)]) (pc := 65) dX6_read_65 (Nat.le_of_ble_eq_true rfl) rfl ?_
      refine gk_iload (pc := 67) 0 dX6_read_67 rfl ?_
      refine gk_if_lt (tgt := 115) (pc := 69) dX6_read_69 (by decide) rfl ?_ ?_
      · refine gk_sub (L' := [(0, gr E 0), (2, gi v2), (3, gi v3)]) [1, 2, 3] rfl ?_
        exact k_X6_read_J115 (f_X6_read_L28 n) v2 v3 ih b6.2
      · refine gk_aload_n (pc := 72) 1 dX6_read_72 rfl ?_
        refine gk_getR (q := 1) (pc := 73) rfl clsX6 cll_0 sh_0 0 (by decide) rfl ww_228 dX6_read_73 ?_
        refine gk_getRN (q := 2) (pc := 76) rfl clsX2 (st_lt0 isSt_1) (st_sh isSt_1) 0 (by decide) rfl ww_143 dX6_read_76 ?_
        refine gk_iload (pc := 79) 0 dX6_read_79 rfl ?_
        refine gk_aload_n (pc := 81) 1 dX6_read_81 rfl ?_
        refine gk_getR (q := 51) (pc := 82) rfl clsX6 cll_0 sh_0 5 (by decide) rfl ww_233 dX6_read_82 ?_
        refine gk_iload_n (pc := 85) 3 dX6_read_85 rfl ?_
        refine gk_callV_ir (As := [gi v3]) (pc := 86) (c_X4_channelAt v3 b6.2) rfl mm_X4_channelAt ww_389 clsX4 rfl cll_51 sh_51 (gs_fit_of (Nat.le_of_ble_eq_true rfl) (Nat.le_of_ble_eq_true rfl)) rfl rfl (Nat.le_of_ble_eq_true rfl) dX6_read_86 (fun u7 => ?_)
        refine gk_callV_vw (As := [gi b6.1, gi u7]) (pc := 89) (c_X0_tune 2 b6.1 u7 isPl_2 b6.2) rfl mm_X0_tune ww_315 clsX0 rfl (pl_lt0 isPl_2) (pl_sh isPl_2) (gs_fit_of (Nat.le_of_ble_eq_true rfl) (Nat.le_of_ble_eq_true rfl)) rfl rfl (Nat.le_of_ble_eq_true rfl) dX6_read_89 (fun b8 => ?_)
        refine gk_aload_n (pc := 92) 1 dX6_read_92 rfl ?_
        refine gk_getR (q := 1) (pc := 93) rfl clsX6 cll_0 sh_0 0 (by decide) rfl ww_228 dX6_read_93 ?_
        refine gk_getRN (q := 2) (pc := 96) rfl clsX2 (st_lt0 isSt_1) (st_sh isSt_1) 0 (by decide) rfl ww_143 dX6_read_96 ?_
        refine gk_iload (pc := 99) 0 dX6_read_99 rfl ?_
        refine gk_aload_n (pc := 101) 1 dX6_read_101 rfl ?_
        refine gk_getR (q := 51) (pc := 102) rfl clsX6 cll_0 sh_0 5 (by decide) rfl ww_233 dX6_read_102 ?_
        refine gk_iload_n (pc := 105) 3 dX6_read_105 rfl ?_
        refine gk_callV_ir (As := [gi v3]) (pc := 106) (c_X4_isFixedAt v3 b8.2) rfl mm_X4_isFixedAt ww_393 clsX4 rfl cll_51 sh_51 (gs_fit_of (Nat.le_of_ble_eq_true rfl) (Nat.le_of_ble_eq_true rfl)) rfl rfl (Nat.le_of_ble_eq_true rfl) dX6_read_106 (fun u9 => ?_)
        refine gk_callV_vw (As := [gi b6.1, gi u9]) (pc := 109) (c_X0_pin 2 b6.1 u9 isPl_2 b8.2) rfl mm_X0_pin ww_324 clsX0 rfl (pl_lt0 isPl_2) (pl_sh isPl_2) (gs_fit_of (Nat.le_of_ble_eq_true rfl) (Nat.le_of_ble_eq_true rfl)) rfl rfl (Nat.le_of_ble_eq_true rfl) dX6_read_109 (fun b10 => ?_)
        refine gk_iinc (L' := [(2, gi (v2 + 1)), (4, gi b6.1), (0, gr E 0), (3, gi v3)]) (pc := 112) 2 dX6_read_112 rfl (Nat.le_of_ble_eq_true rfl) rfl ?_
        refine gk_sub (L' := [(0, gr E 0), (2, gi (v2 + 1)), (3, gi v3)]) [2, 0, 3] rfl ?_
        exact k_X6_read_J115 (f_X6_read_L28 n) (v2 + 1) v3 ih b10.2
def f_X6_read  (σ : gs_Mem) : Option (Int × gs_Mem) :=
  (f_X4_parse σ).bind fun b1 =>
  (f_X4_clear b1.2).bind fun b2 =>
  if (gn b1.1) < 0 then
    f_X6_read_L28 gs_fuel 0 0 b2.2
  else
    some (((-10) - b1.1), b2.2)
set_option maxRecDepth 100000 in
set_option maxHeartbeats 4000000 in
theorem c_X6_read {E : gs_E}   (σ : gs_Mem) : gs_C E yX6_read cX6_read 5 (some .int) 0 { frames := 4, cells := 0, slots := 0, locals := 86 } [gr E 0] σ (f_X6_read  σ) (fun b : Int × gs_Mem => b) := by
  unfold f_X6_read
  refine gs_enter (L := [(0, gr E 0)]) (by decide) rfl rfl (Nat.le_of_ble_eq_true rfl) rfl ?_
  refine gk_aload_n (pc := 0) 0 dX6_read_0 rfl ?_
  refine gk_getR (q := 51) (pc := 1) rfl clsX6 cll_0 sh_0 5 (by decide) rfl ww_233 dX6_read_1 ?_
  refine gk_callV_iw (As := []) (pc := 4) (c_X4_parse σ) rfl mm_X4_parse ww_349 clsX4 rfl cll_51 sh_51 (gs_fit_of (Nat.le_of_ble_eq_true rfl) (Nat.le_of_ble_eq_true rfl)) rfl rfl (Nat.le_of_ble_eq_true rfl) dX6_read_4 (fun b1 => ?_)
  refine gk_istore_n (L' := [(1, gi b1.1), (0, gr E 0)]) (pc := 7) dX6_read_7 (Nat.le_of_ble_eq_true rfl) rfl ?_
  refine gk_aload_n (pc := 8) 1 dX6_read_8 rfl ?_
  refine gk_getR (q := 51) (pc := 9) rfl clsX6 cll_0 sh_0 5 (by decide) rfl ww_233 dX6_read_9 ?_
  refine gk_callV_vw (As := []) (pc := 12) (c_X4_clear b1.2) rfl mm_X4_clear ww_373 clsX4 rfl cll_51 sh_51 (gs_fit_of (Nat.le_of_ble_eq_true rfl) (Nat.le_of_ble_eq_true rfl)) rfl rfl (Nat.le_of_ble_eq_true rfl) dX6_read_12 (fun b2 => ?_)
  refine gk_iload_n (pc := 15) 0 dX6_read_15 rfl ?_
  refine gk_if_lt (tgt := 24) (pc := 16) dX6_read_16 (by decide) rfl ?_ ?_
  · refine gk_iconst (pc := 24) dX6_read_24 ?_
    refine gk_istore_n (L' := [(2, gi 0), (1, gi b1.1), (0, gr E 0)]) (pc := 25) dX6_read_25 (Nat.le_of_ble_eq_true rfl) rfl ?_
    refine gk_iconst (pc := 26) dX6_read_26 ?_
    refine gk_istore_n (L' := [(3, gi 0), (2, gi 0), (1, gi b1.1), (0, gr E 0)]) (pc := 27) dX6_read_27 (Nat.le_of_ble_eq_true rfl) rfl ?_
    refine gk_sub (L' := [(0, gr E 0), (2, gi 0), (3, gi 0)]) [3, 1, 0] rfl ?_
    exact k_X6_read_L28 gs_fuel 0 0 b2.2
  · refine gk_bipush (pc := 19) dX6_read_19 (by decide +kernel) ?_
    refine gk_iload_n (pc := 21) 0 dX6_read_21 rfl ?_
    refine gk_isub (pc := 22) dX6_read_22 ?_
    exact gk_iret (pc := 23) rfl dX6_read_23
def f_X6_of (v1 : Int) (v2 : Int) (σ : gs_Mem) : Option (Int) :=
  (f_X0_has 2 v1 σ).bind fun u1 =>
  if (gn u1) = 0 then
    some (-1)
  else
    if (gn v2) = 0 then
      (f_X0_x 2 v1 σ).bind fun u2 =>
      some u2
    else if (gn v2) = 1 then
      (f_X0_y 2 v1 σ).bind fun u3 =>
      some u3
    else if (gn v2) = 2 then
      (f_X0_channelOrAbsent 2 v1 σ).bind fun u4 =>
      some u4
    else if (gn v2) = 3 then
      (f_X0_isFixed 2 v1 σ).bind fun u5 =>
      if (gn u5) = 0 then
        some 0
      else
        some 1
    else if (gn v2) = 4 then
      (f_X0_allowedFor 2 v1 σ).bind fun u6 =>
      (f_J6_bitCount_0f7a4 u6 σ).bind fun u7 =>
      some u7
    else if (gn v2) = 5 then
      (f_X0_allowedFor 2 v1 σ).bind fun u8 =>
      (f_X6_leastOf u8 σ).bind fun u9 =>
      some u9
    else if (gn v2) = 6 then
      (f_X0_neighboursOf 2 v1 σ).bind fun u10 =>
      some u10
    else if (gn v2) = 7 then
      (f_X0_clashesOf 2 v1 σ).bind fun u11 =>
      some u11
    else 
      some (-1)
set_option maxRecDepth 100000 in
set_option maxHeartbeats 4000000 in
theorem c_X6_of {E : gs_E} (v1 : Int) (v2 : Int)  (σ : gs_Mem) : gs_C E yX6_of cX6_of 4 (some .int) 0 { frames := 3, cells := 0, slots := 0, locals := 66 } [gr E 0, gi v1, gi v2] σ (f_X6_of v1 v2 σ) (fun v : Int => (v, σ)) := by
  unfold f_X6_of
  refine gs_enter (L := [(0, gr E 0), (1, gi v1), (2, gi v2)]) (by decide) rfl rfl (Nat.le_of_ble_eq_true rfl) rfl ?_
  refine gk_aload_n (pc := 0) 0 dX6_of_0 rfl ?_
  refine gk_getR (q := 1) (pc := 1) rfl clsX6 cll_0 sh_0 0 (by decide) rfl ww_228 dX6_of_1 ?_
  refine gk_getRN (q := 2) (pc := 4) rfl clsX2 (st_lt0 isSt_1) (st_sh isSt_1) 0 (by decide) rfl ww_143 dX6_of_4 ?_
  refine gk_astore_n (L' := [(3, gr E 2), (0, gr E 0), (1, gi v1), (2, gi v2)]) (pc := 7) dX6_of_7 (Nat.le_of_ble_eq_true rfl) rfl ?_
  refine gk_aload_n (pc := 8) 0 dX6_of_8 rfl ?_
  refine gk_iload_n (pc := 9) 2 dX6_of_9 rfl ?_
  refine gk_callV_ir (As := [gi v1]) (pc := 10) (c_X0_has 2 v1 isPl_2 σ) rfl mm_X0_has ww_295 clsX0 rfl (pl_lt0 isPl_2) (pl_sh isPl_2) (gs_fit_of (Nat.le_of_ble_eq_true rfl) (Nat.le_of_ble_eq_true rfl)) rfl rfl (Nat.le_of_ble_eq_true rfl) dX6_of_10 (fun u1 => ?_)
  refine gk_if_ne (tgt := 18) (pc := 13) dX6_of_13 (by decide) rfl ?_ ?_
  · refine gk_iload_n (pc := 18) 3 dX6_of_18 rfl ?_
    refine gk_sw (tgt := 64) (pc := 19) 0 dX6_of_19 (by decide) rfl (by decide) ?_ (fun hs0 => ?_)
    · refine gk_aload_n (pc := 64) 0 dX6_of_64 rfl ?_
      refine gk_iload_n (pc := 65) 2 dX6_of_65 rfl ?_
      refine gk_callV_ir (As := [gi v1]) (pc := 66) (c_X0_x 2 v1 isPl_2 σ) rfl mm_X0_x ww_401 clsX0 rfl (pl_lt0 isPl_2) (pl_sh isPl_2) (gs_fit_of (Nat.le_of_ble_eq_true rfl) (Nat.le_of_ble_eq_true rfl)) rfl rfl (Nat.le_of_ble_eq_true rfl) dX6_of_66 (fun u2 => ?_)
      exact gk_iret (pc := 69) rfl dX6_of_69
    refine gk_sw (tgt := 70) (pc := 19) 1 dX6_of_19 (by decide) rfl (by decide) ?_ (fun hs1 => ?_)
    · refine gk_aload_n (pc := 70) 0 dX6_of_70 rfl ?_
      refine gk_iload_n (pc := 71) 2 dX6_of_71 rfl ?_
      refine gk_callV_ir (As := [gi v1]) (pc := 72) (c_X0_y 2 v1 isPl_2 σ) rfl mm_X0_y ww_405 clsX0 rfl (pl_lt0 isPl_2) (pl_sh isPl_2) (gs_fit_of (Nat.le_of_ble_eq_true rfl) (Nat.le_of_ble_eq_true rfl)) rfl rfl (Nat.le_of_ble_eq_true rfl) dX6_of_72 (fun u3 => ?_)
      exact gk_iret (pc := 75) rfl dX6_of_75
    refine gk_sw (tgt := 76) (pc := 19) 2 dX6_of_19 (by decide) rfl (by decide) ?_ (fun hs2 => ?_)
    · refine gk_aload_n (pc := 76) 0 dX6_of_76 rfl ?_
      refine gk_iload_n (pc := 77) 2 dX6_of_77 rfl ?_
      refine gk_callV_ir (As := [gi v1]) (pc := 78) (c_X0_channelOrAbsent 2 v1 isPl_2 σ) rfl mm_X0_channelOrAbsent ww_307 clsX0 rfl (pl_lt0 isPl_2) (pl_sh isPl_2) (gs_fit_of (Nat.le_of_ble_eq_true rfl) (Nat.le_of_ble_eq_true rfl)) rfl rfl (Nat.le_of_ble_eq_true rfl) dX6_of_78 (fun u4 => ?_)
      exact gk_iret (pc := 81) rfl dX6_of_81
    refine gk_sw (tgt := 82) (pc := 19) 3 dX6_of_19 (by decide) rfl (by decide) ?_ (fun hs3 => ?_)
    · refine gk_aload_n (pc := 82) 0 dX6_of_82 rfl ?_
      refine gk_iload_n (pc := 83) 2 dX6_of_83 rfl ?_
      refine gk_callV_ir (As := [gi v1]) (pc := 84) (c_X0_isFixed 2 v1 isPl_2 σ) rfl mm_X0_isFixed ww_302 clsX0 rfl (pl_lt0 isPl_2) (pl_sh isPl_2) (gs_fit_of (Nat.le_of_ble_eq_true rfl) (Nat.le_of_ble_eq_true rfl)) rfl rfl (Nat.le_of_ble_eq_true rfl) dX6_of_84 (fun u5 => ?_)
      refine gk_if_eq (tgt := 94) (pc := 87) dX6_of_87 (by decide) rfl ?_ ?_
      · refine gk_iconst (pc := 94) dX6_of_94 ?_
        exact gk_iret (pc := 95) rfl dX6_of_95
      · refine gk_iconst (pc := 90) dX6_of_90 ?_
        refine gk_goto (tgt := 95) (pc := 91) dX6_of_91 (by decide) ?_
        exact gk_iret (pc := 95) rfl dX6_of_95
    refine gk_sw (tgt := 96) (pc := 19) 4 dX6_of_19 (by decide) rfl (by decide) ?_ (fun hs4 => ?_)
    · refine gk_aload_n (pc := 96) 0 dX6_of_96 rfl ?_
      refine gk_iload_n (pc := 97) 2 dX6_of_97 rfl ?_
      refine gk_callV_ir (As := [gi v1]) (pc := 98) (c_X0_allowedFor 2 v1 isPl_2 σ) rfl mm_X0_allowedFor ww_409 clsX0 rfl (pl_lt0 isPl_2) (pl_sh isPl_2) (gs_fit_of (Nat.le_of_ble_eq_true rfl) (Nat.le_of_ble_eq_true rfl)) rfl rfl (Nat.le_of_ble_eq_true rfl) dX6_of_98 (fun u6 => ?_)
      refine gk_callS_ir (As := [gi u6]) (pc := 101) (c_J6_bitCount_0f7a4 u6 σ) rfl mm_J6_bitCount_0f7a4 ww_421 (gs_fit_of (Nat.le_of_ble_eq_true rfl) (Nat.le_of_ble_eq_true rfl)) rfl rfl (Nat.le_of_ble_eq_true rfl) dX6_of_101 (fun u7 => ?_)
      exact gk_iret (pc := 104) rfl dX6_of_104
    refine gk_sw (tgt := 105) (pc := 19) 5 dX6_of_19 (by decide) rfl (by decide) ?_ (fun hs5 => ?_)
    · refine gk_aload_n (pc := 105) 0 dX6_of_105 rfl ?_
      refine gk_iload_n (pc := 106) 2 dX6_of_106 rfl ?_
      refine gk_callV_ir (As := [gi v1]) (pc := 107) (c_X0_allowedFor 2 v1 isPl_2 σ) rfl mm_X0_allowedFor ww_409 clsX0 rfl (pl_lt0 isPl_2) (pl_sh isPl_2) (gs_fit_of (Nat.le_of_ble_eq_true rfl) (Nat.le_of_ble_eq_true rfl)) rfl rfl (Nat.le_of_ble_eq_true rfl) dX6_of_107 (fun u8 => ?_)
      refine gk_callS_ir (As := [gi u8]) (pc := 110) (c_X6_leastOf u8 σ) rfl mm_X6_leastOf ww_427 (gs_fit_of (Nat.le_of_ble_eq_true rfl) (Nat.le_of_ble_eq_true rfl)) rfl rfl (Nat.le_of_ble_eq_true rfl) dX6_of_110 (fun u9 => ?_)
      exact gk_iret (pc := 113) rfl dX6_of_113
    refine gk_sw (tgt := 114) (pc := 19) 6 dX6_of_19 (by decide) rfl (by decide) ?_ (fun hs6 => ?_)
    · refine gk_aload_n (pc := 114) 0 dX6_of_114 rfl ?_
      refine gk_iload_n (pc := 115) 2 dX6_of_115 rfl ?_
      refine gk_callV_ir (As := [gi v1]) (pc := 116) (c_X0_neighboursOf 2 v1 isPl_2 σ) rfl mm_X0_neighboursOf ww_430 clsX0 rfl (pl_lt0 isPl_2) (pl_sh isPl_2) (gs_fit_of (Nat.le_of_ble_eq_true rfl) (Nat.le_of_ble_eq_true rfl)) rfl rfl (Nat.le_of_ble_eq_true rfl) dX6_of_116 (fun u10 => ?_)
      exact gk_iret (pc := 119) rfl dX6_of_119
    refine gk_sw (tgt := 120) (pc := 19) 7 dX6_of_19 (by decide) rfl (by decide) ?_ (fun hs7 => ?_)
    · refine gk_aload_n (pc := 120) 0 dX6_of_120 rfl ?_
      refine gk_iload_n (pc := 121) 2 dX6_of_121 rfl ?_
      refine gk_callV_ir (As := [gi v1]) (pc := 122) (c_X0_clashesOf 2 v1 isPl_2 σ) rfl mm_X0_clashesOf ww_434 clsX0 rfl (pl_lt0 isPl_2) (pl_sh isPl_2) (gs_fit_of (Nat.le_of_ble_eq_true rfl) (Nat.le_of_ble_eq_true rfl)) rfl rfl (Nat.le_of_ble_eq_true rfl) dX6_of_122 (fun u11 => ?_)
      exact gk_iret (pc := 125) rfl dX6_of_125
    refine gk_swD (tgt := 126) (pc := 19) dX6_of_19 (by omega) (by decide) ?_
    refine gk_iconst (pc := 126) dX6_of_126 ?_
    exact gk_iret (pc := 127) rfl dX6_of_127
  · refine gk_iconst (pc := 16) dX6_of_16 ?_
    exact gk_iret (pc := 17) rfl dX6_of_17
def f_X6_apart (v1 : Int) (v2 : Int) (σ : gs_Mem) : Option (Int) :=
  if (gn v1) = (gn v2) then
    some (-1)
  else
    (f_X0_has 2 v1 σ).bind fun u1 =>
    if (gn u1) = 0 then
      some (-1)
    else
      (f_X0_has 2 v2 σ).bind fun u2 =>
      if (gn u2) = 0 then
        some (-1)
      else
        (f_X0_between 2 v1 v2 σ).bind fun u3 =>
        some u3
set_option maxRecDepth 100000 in
set_option maxHeartbeats 4000000 in
theorem c_X6_apart {E : gs_E} (v1 : Int) (v2 : Int)  (σ : gs_Mem) : gs_C E yX6_apart cX6_apart 4 (some .int) 0 { frames := 1, cells := 0, slots := 0, locals := 22 } [gr E 0, gi v1, gi v2] σ (f_X6_apart v1 v2 σ) (fun v : Int => (v, σ)) := by
  unfold f_X6_apart
  refine gs_enter (L := [(0, gr E 0), (1, gi v1), (2, gi v2)]) (by decide) rfl rfl (Nat.le_of_ble_eq_true rfl) rfl ?_
  refine gk_aload_n (pc := 0) 0 dX6_apart_0 rfl ?_
  refine gk_getR (q := 1) (pc := 1) rfl clsX6 cll_0 sh_0 0 (by decide) rfl ww_228 dX6_apart_1 ?_
  refine gk_getRN (q := 2) (pc := 4) rfl clsX2 (st_lt0 isSt_1) (st_sh isSt_1) 0 (by decide) rfl ww_143 dX6_apart_4 ?_
  refine gk_astore_n (L' := [(3, gr E 2), (0, gr E 0), (1, gi v1), (2, gi v2)]) (pc := 7) dX6_apart_7 (Nat.le_of_ble_eq_true rfl) rfl ?_
  refine gk_iload_n (pc := 8) 2 dX6_apart_8 rfl ?_
  refine gk_iload_n (pc := 9) 3 dX6_apart_9 rfl ?_
  refine gk_icmp_eq (tgt := 38) (pc := 10) dX6_apart_10 (by decide) rfl rfl ?_ ?_
  · refine gk_iconst (pc := 38) dX6_apart_38 ?_
    exact gk_iret (pc := 39) rfl dX6_apart_39
  · refine gk_aload_n (pc := 13) 0 dX6_apart_13 rfl ?_
    refine gk_iload_n (pc := 14) 2 dX6_apart_14 rfl ?_
    refine gk_callV_ir (As := [gi v1]) (pc := 15) (c_X0_has 2 v1 isPl_2 σ) rfl mm_X0_has ww_295 clsX0 rfl (pl_lt0 isPl_2) (pl_sh isPl_2) (gs_fit_of (Nat.le_of_ble_eq_true rfl) (Nat.le_of_ble_eq_true rfl)) rfl rfl (Nat.le_of_ble_eq_true rfl) dX6_apart_15 (fun u1 => ?_)
    refine gk_if_eq (tgt := 38) (pc := 18) dX6_apart_18 (by decide) rfl ?_ ?_
    · refine gk_iconst (pc := 38) dX6_apart_38 ?_
      exact gk_iret (pc := 39) rfl dX6_apart_39
    · refine gk_aload_n (pc := 21) 0 dX6_apart_21 rfl ?_
      refine gk_iload_n (pc := 22) 3 dX6_apart_22 rfl ?_
      refine gk_callV_ir (As := [gi v2]) (pc := 23) (c_X0_has 2 v2 isPl_2 σ) rfl mm_X0_has ww_295 clsX0 rfl (pl_lt0 isPl_2) (pl_sh isPl_2) (gs_fit_of (Nat.le_of_ble_eq_true rfl) (Nat.le_of_ble_eq_true rfl)) rfl rfl (Nat.le_of_ble_eq_true rfl) dX6_apart_23 (fun u2 => ?_)
      refine gk_if_eq (tgt := 38) (pc := 26) dX6_apart_26 (by decide) rfl ?_ ?_
      · refine gk_iconst (pc := 38) dX6_apart_38 ?_
        exact gk_iret (pc := 39) rfl dX6_apart_39
      · refine gk_aload_n (pc := 29) 0 dX6_apart_29 rfl ?_
        refine gk_iload_n (pc := 30) 2 dX6_apart_30 rfl ?_
        refine gk_iload_n (pc := 31) 3 dX6_apart_31 rfl ?_
        refine gk_callV_ir (As := [gi v1, gi v2]) (pc := 32) (c_X0_between 2 v1 v2 isPl_2 σ) rfl mm_X0_between ww_442 clsX0 rfl (pl_lt0 isPl_2) (pl_sh isPl_2) (gs_fit_of (Nat.le_of_ble_eq_true rfl) (Nat.le_of_ble_eq_true rfl)) rfl rfl (Nat.le_of_ble_eq_true rfl) dX6_apart_32 (fun u3 => ?_)
        refine gk_goto (tgt := 39) (pc := 35) dX6_apart_35 (by decide) ?_
        exact gk_iret (pc := 39) rfl dX6_apart_39
def f_X6_at (v1 : Int) (v2 : Int) (σ : gs_Mem) : Option (Int) :=
  (f_X6_isOnPlane v1 v2 σ).bind fun u1 =>
  if (gn u1) = 0 then
    some (-2)
  else
    (f_X0_whoIsAt 2 v1 v2 σ).bind fun u2 =>
    if 0 ≤ (gn u2) then
      some u2
    else
      some (-5)
set_option maxRecDepth 100000 in
set_option maxHeartbeats 4000000 in
theorem c_X6_at {E : gs_E} (v1 : Int) (v2 : Int)  (σ : gs_Mem) : gs_C E yX6_at cX6_at 4 (some .int) 0 { frames := 1, cells := 0, slots := 0, locals := 23 } [gr E 0, gi v1, gi v2] σ (f_X6_at v1 v2 σ) (fun v : Int => (v, σ)) := by
  unfold f_X6_at
  refine gs_enter (L := [(0, gr E 0), (1, gi v1), (2, gi v2)]) (by decide) rfl rfl (Nat.le_of_ble_eq_true rfl) rfl ?_
  refine gk_iload_n (pc := 0) 1 dX6_at_0 rfl ?_
  refine gk_iload_n (pc := 1) 2 dX6_at_1 rfl ?_
  refine gk_callS_ir (As := [gi v1, gi v2]) (pc := 2) (c_X6_isOnPlane v1 v2 σ) rfl mm_X6_isOnPlane ww_254 (gs_fit_of (Nat.le_of_ble_eq_true rfl) (Nat.le_of_ble_eq_true rfl)) rfl rfl (Nat.le_of_ble_eq_true rfl) dX6_at_2 (fun u1 => ?_)
  refine gk_if_ne (tgt := 11) (pc := 5) dX6_at_5 (by decide) rfl ?_ ?_
  · refine gk_aload_n (pc := 11) 0 dX6_at_11 rfl ?_
    refine gk_getR (q := 1) (pc := 12) rfl clsX6 cll_0 sh_0 0 (by decide) rfl ww_228 dX6_at_12 ?_
    refine gk_getRN (q := 2) (pc := 15) rfl clsX2 (st_lt0 isSt_1) (st_sh isSt_1) 0 (by decide) rfl ww_143 dX6_at_15 ?_
    refine gk_iload_n (pc := 18) 1 dX6_at_18 rfl ?_
    refine gk_iload_n (pc := 19) 2 dX6_at_19 rfl ?_
    refine gk_callV_ir (As := [gi v1, gi v2]) (pc := 20) (c_X0_whoIsAt 2 v1 v2 isPl_2 σ) rfl mm_X0_whoIsAt ww_332 clsX0 rfl (pl_lt0 isPl_2) (pl_sh isPl_2) (gs_fit_of (Nat.le_of_ble_eq_true rfl) (Nat.le_of_ble_eq_true rfl)) rfl rfl (Nat.le_of_ble_eq_true rfl) dX6_at_20 (fun u2 => ?_)
    refine gk_istore_n (L' := [(3, gi u2), (0, gr E 0), (1, gi v1), (2, gi v2)]) (pc := 23) dX6_at_23 (Nat.le_of_ble_eq_true rfl) rfl ?_
    refine gk_iload_n (pc := 24) 0 dX6_at_24 rfl ?_
    refine gk_if_ge (tgt := 33) (pc := 25) dX6_at_25 (by decide) rfl ?_ ?_
    · refine gk_iload_n (pc := 33) 0 dX6_at_33 rfl ?_
      exact gk_iret (pc := 34) rfl dX6_at_34
    · refine gk_bipush (pc := 28) dX6_at_28 (by decide +kernel) ?_
      refine gk_goto (tgt := 34) (pc := 30) dX6_at_30 (by decide) ?_
      exact gk_iret (pc := 34) rfl dX6_at_34
  · refine gk_bipush (pc := 8) dX6_at_8 (by decide +kernel) ?_
    exact gk_iret (pc := 10) rfl dX6_at_10
def f_X6_assign  (σ : gs_Mem) : Option (Int × gs_Mem) :=
  (f_X0_tuneAll 2 σ).bind fun b1 =>
  some (b1.1, b1.2)
set_option maxRecDepth 100000 in
set_option maxHeartbeats 4000000 in
theorem c_X6_assign {E : gs_E}   (σ : gs_Mem) : gs_C E yX6_assign cX6_assign 1 (some .int) 0 { frames := 4, cells := 0, slots := 0, locals := 90 } [gr E 0] σ (f_X6_assign  σ) (fun b : Int × gs_Mem => b) := by
  unfold f_X6_assign
  refine gs_enter (L := [(0, gr E 0)]) (by decide) rfl rfl (Nat.le_of_ble_eq_true rfl) rfl ?_
  refine gk_aload_n (pc := 0) 0 dX6_assign_0 rfl ?_
  refine gk_getR (q := 1) (pc := 1) rfl clsX6 cll_0 sh_0 0 (by decide) rfl ww_228 dX6_assign_1 ?_
  refine gk_getRN (q := 2) (pc := 4) rfl clsX2 (st_lt0 isSt_1) (st_sh isSt_1) 0 (by decide) rfl ww_143 dX6_assign_4 ?_
  refine gk_callV_iw (As := []) (pc := 7) (c_X0_tuneAll 2 isPl_2 σ) rfl mm_X0_tuneAll ww_451 clsX0 rfl (pl_lt0 isPl_2) (pl_sh isPl_2) (gs_fit_of (Nat.le_of_ble_eq_true rfl) (Nat.le_of_ble_eq_true rfl)) rfl rfl (Nat.le_of_ble_eq_true rfl) dX6_assign_7 (fun b1 => ?_)
  exact gk_iret (pc := 10) rfl dX6_assign_10
def f_X6_exchange (v1 : Int) (v2 : Int) (σ : gs_Mem) : Option (Int × gs_Mem) :=
  (f_X0_has 2 v1 σ).bind fun u1 =>
  if (gn u1) = 0 then
    some ((-1), σ)
  else
    (f_X6_isChannel v2 σ).bind fun u2 =>
    if (gn u2) = 0 then
      some ((-2), σ)
    else
      (f_X0_channelOf 2 v1 σ).bind fun u3 =>
      if (gn u3) = (-1) then
        some ((-3), σ)
      else
        (f_X0_channelOf 2 v1 σ).bind fun u4 =>
        if (gn u4) = (gn v2) then
          some ((-3), σ)
        else
          (f_X0_swapChain 2 v1 v2 σ).bind fun b5 =>
          some (b5.1, b5.2)
set_option maxRecDepth 100000 in
set_option maxHeartbeats 4000000 in
theorem c_X6_exchange {E : gs_E} (v1 : Int) (v2 : Int)  (σ : gs_Mem) : gs_C E yX6_exchange cX6_exchange 4 (some .int) 0 { frames := 5, cells := 0, slots := 0, locals := 113 } [gr E 0, gi v1, gi v2] σ (f_X6_exchange v1 v2 σ) (fun b : Int × gs_Mem => b) := by
  unfold f_X6_exchange
  refine gs_enter (L := [(0, gr E 0), (1, gi v1), (2, gi v2)]) (by decide) rfl rfl (Nat.le_of_ble_eq_true rfl) rfl ?_
  refine gk_aload_n (pc := 0) 0 dX6_exchange_0 rfl ?_
  refine gk_getR (q := 1) (pc := 1) rfl clsX6 cll_0 sh_0 0 (by decide) rfl ww_228 dX6_exchange_1 ?_
  refine gk_getRN (q := 2) (pc := 4) rfl clsX2 (st_lt0 isSt_1) (st_sh isSt_1) 0 (by decide) rfl ww_143 dX6_exchange_4 ?_
  refine gk_astore_n (L' := [(3, gr E 2), (0, gr E 0), (1, gi v1), (2, gi v2)]) (pc := 7) dX6_exchange_7 (Nat.le_of_ble_eq_true rfl) rfl ?_
  refine gk_aload_n (pc := 8) 0 dX6_exchange_8 rfl ?_
  refine gk_iload_n (pc := 9) 2 dX6_exchange_9 rfl ?_
  refine gk_callV_ir (As := [gi v1]) (pc := 10) (c_X0_has 2 v1 isPl_2 σ) rfl mm_X0_has ww_295 clsX0 rfl (pl_lt0 isPl_2) (pl_sh isPl_2) (gs_fit_of (Nat.le_of_ble_eq_true rfl) (Nat.le_of_ble_eq_true rfl)) rfl rfl (Nat.le_of_ble_eq_true rfl) dX6_exchange_10 (fun u1 => ?_)
  refine gk_if_ne (tgt := 18) (pc := 13) dX6_exchange_13 (by decide) rfl ?_ ?_
  · refine gk_iload_n (pc := 18) 3 dX6_exchange_18 rfl ?_
    refine gk_callS_ir (As := [gi v2]) (pc := 19) (c_X6_isChannel v2 σ) rfl mm_X6_isChannel ww_299 (gs_fit_of (Nat.le_of_ble_eq_true rfl) (Nat.le_of_ble_eq_true rfl)) rfl rfl (Nat.le_of_ble_eq_true rfl) dX6_exchange_19 (fun u2 => ?_)
    refine gk_if_ne (tgt := 28) (pc := 22) dX6_exchange_22 (by decide) rfl ?_ ?_
    · refine gk_aload_n (pc := 28) 0 dX6_exchange_28 rfl ?_
      refine gk_iload_n (pc := 29) 2 dX6_exchange_29 rfl ?_
      refine gk_callV_ir (As := [gi v1]) (pc := 30) (c_X0_channelOf 2 v1 isPl_2 σ) rfl mm_X0_channelOf ww_323 clsX0 rfl (pl_lt0 isPl_2) (pl_sh isPl_2) (gs_fit_of (Nat.le_of_ble_eq_true rfl) (Nat.le_of_ble_eq_true rfl)) rfl rfl (Nat.le_of_ble_eq_true rfl) dX6_exchange_30 (fun u3 => ?_)
      refine gk_iconst (pc := 33) dX6_exchange_33 ?_
      refine gk_icmp_eq (tgt := 46) (pc := 34) dX6_exchange_34 (by decide) rfl (by decide +kernel) ?_ ?_
      · refine gk_bipush (pc := 46) dX6_exchange_46 (by decide +kernel) ?_
        exact gk_iret (pc := 48) rfl dX6_exchange_48
      · refine gk_aload_n (pc := 37) 0 dX6_exchange_37 rfl ?_
        refine gk_iload_n (pc := 38) 2 dX6_exchange_38 rfl ?_
        refine gk_callV_ir (As := [gi v1]) (pc := 39) (c_X0_channelOf 2 v1 isPl_2 σ) rfl mm_X0_channelOf ww_323 clsX0 rfl (pl_lt0 isPl_2) (pl_sh isPl_2) (gs_fit_of (Nat.le_of_ble_eq_true rfl) (Nat.le_of_ble_eq_true rfl)) rfl rfl (Nat.le_of_ble_eq_true rfl) dX6_exchange_39 (fun u4 => ?_)
        refine gk_iload_n (pc := 42) 3 dX6_exchange_42 rfl ?_
        refine gk_icmp_ne (tgt := 49) (pc := 43) dX6_exchange_43 (by decide) rfl rfl ?_ ?_
        · refine gk_aload_n (pc := 49) 0 dX6_exchange_49 rfl ?_
          refine gk_iload_n (pc := 50) 2 dX6_exchange_50 rfl ?_
          refine gk_iload_n (pc := 51) 3 dX6_exchange_51 rfl ?_
          refine gk_callV_iw (As := [gi v1, gi v2]) (pc := 52) (c_X0_swapChain 2 v1 v2 isPl_2 σ) rfl mm_X0_swapChain ww_472 clsX0 rfl (pl_lt0 isPl_2) (pl_sh isPl_2) (gs_fit_of (Nat.le_of_ble_eq_true rfl) (Nat.le_of_ble_eq_true rfl)) rfl rfl (Nat.le_of_ble_eq_true rfl) dX6_exchange_52 (fun b5 => ?_)
          exact gk_iret (pc := 55) rfl dX6_exchange_55
        · refine gk_bipush (pc := 46) dX6_exchange_46 (by decide +kernel) ?_
          exact gk_iret (pc := 48) rfl dX6_exchange_48
    · refine gk_bipush (pc := 25) dX6_exchange_25 (by decide +kernel) ?_
      exact gk_iret (pc := 27) rfl dX6_exchange_27
  · refine gk_iconst (pc := 16) dX6_exchange_16 ?_
    exact gk_iret (pc := 17) rfl dX6_exchange_17
def f_X6_told (v1 : Int) (σ : gs_Mem) : Option (Int × gs_Mem) :=
  if (gn v1) = 0 then
    (f_X0_size 2 σ).bind fun u1 =>
    some (u1, σ)
  else if (gn v1) = 1 then
    (f_X0_span 2 σ).bind fun u2 =>
    some (u2, σ)
  else if (gn v1) = 2 then
    (f_X0_clashes 2 σ).bind fun u3 =>
    some (u3, σ)
  else if (gn v1) = 3 then
    (f_X5_bound 2 σ).bind fun b4 =>
    some (b4.1, b4.2)
  else if (gn v1) = 4 then
    (f_X5_leastWidth 2 σ).bind fun b5 =>
    some (b5.1, b5.2)
  else if (gn v1) = 5 then
    (f_X5_leastWidth 2 σ).bind fun b6 =>
    (f_X5_bound 2 b6.2).bind fun b7 =>
    if (gn b6.1) = (gn b7.1) then
      some (1, b7.2)
    else
      some (0, b7.2)
  else if (gn v1) = 6 then
    (f_X0_tuned 2 σ).bind fun u8 =>
    some (u8, σ)
  else if (gn v1) = 7 then
    (f_X0_usedChannels 2 σ).bind fun u9 =>
    (f_J6_bitCount_0f7a4 u9 σ).bind fun u10 =>
    some (u10, σ)
  else if (gn v1) = 8 then
    (f_X0_fixedBits 2 σ).bind fun u11 =>
    some (u11, σ)
  else 
    some ((-1), σ)
set_option maxRecDepth 100000 in
set_option maxHeartbeats 4000000 in
theorem c_X6_told {E : gs_E} (v1 : Int)  (σ : gs_Mem) : gs_C E yX6_told cX6_told 3 (some .int) 0 { frames := 18, cells := 0, slots := 0, locals := 474 } [gr E 0, gi v1] σ (f_X6_told v1 σ) (fun b : Int × gs_Mem => b) := by
  unfold f_X6_told
  refine gs_enter (L := [(0, gr E 0), (1, gi v1)]) (by decide) rfl rfl (Nat.le_of_ble_eq_true rfl) rfl ?_
  refine gk_aload_n (pc := 0) 0 dX6_told_0 rfl ?_
  refine gk_getR (q := 1) (pc := 1) rfl clsX6 cll_0 sh_0 0 (by decide) rfl ww_228 dX6_told_1 ?_
  refine gk_getRN (q := 2) (pc := 4) rfl clsX2 (st_lt0 isSt_1) (st_sh isSt_1) 0 (by decide) rfl ww_143 dX6_told_4 ?_
  refine gk_astore_n (L' := [(2, gr E 2), (0, gr E 0), (1, gi v1)]) (pc := 7) dX6_told_7 (Nat.le_of_ble_eq_true rfl) rfl ?_
  refine gk_iload_n (pc := 8) 2 dX6_told_8 rfl ?_
  refine gk_sw (tgt := 60) (pc := 9) 0 dX6_told_9 (by decide) rfl (by decide) ?_ (fun hs0 => ?_)
  · refine gk_aload_n (pc := 60) 0 dX6_told_60 rfl ?_
    refine gk_callV_ir (As := []) (pc := 61) (c_X0_size 2 isPl_2 σ) rfl mm_X0_size ww_497 clsX0 rfl (pl_lt0 isPl_2) (pl_sh isPl_2) (gs_fit_of (Nat.le_of_ble_eq_true rfl) (Nat.le_of_ble_eq_true rfl)) rfl rfl (Nat.le_of_ble_eq_true rfl) dX6_told_61 (fun u1 => ?_)
    exact gk_iret (pc := 64) rfl dX6_told_64
  refine gk_sw (tgt := 65) (pc := 9) 1 dX6_told_9 (by decide) rfl (by decide) ?_ (fun hs1 => ?_)
  · refine gk_aload_n (pc := 65) 0 dX6_told_65 rfl ?_
    refine gk_callV_ir (As := []) (pc := 66) (c_X0_span 2 isPl_2 σ) rfl mm_X0_span ww_501 clsX0 rfl (pl_lt0 isPl_2) (pl_sh isPl_2) (gs_fit_of (Nat.le_of_ble_eq_true rfl) (Nat.le_of_ble_eq_true rfl)) rfl rfl (Nat.le_of_ble_eq_true rfl) dX6_told_66 (fun u2 => ?_)
    exact gk_iret (pc := 69) rfl dX6_told_69
  refine gk_sw (tgt := 70) (pc := 9) 2 dX6_told_9 (by decide) rfl (by decide) ?_ (fun hs2 => ?_)
  · refine gk_aload_n (pc := 70) 0 dX6_told_70 rfl ?_
    refine gk_callV_ir (As := []) (pc := 71) (c_X0_clashes 2 isPl_2 σ) rfl mm_X0_clashes ww_509 clsX0 rfl (pl_lt0 isPl_2) (pl_sh isPl_2) (gs_fit_of (Nat.le_of_ble_eq_true rfl) (Nat.le_of_ble_eq_true rfl)) rfl rfl (Nat.le_of_ble_eq_true rfl) dX6_told_71 (fun u3 => ?_)
    exact gk_iret (pc := 74) rfl dX6_told_74
  refine gk_sw (tgt := 75) (pc := 9) 3 dX6_told_9 (by decide) rfl (by decide) ?_ (fun hs3 => ?_)
  · refine gk_aload_n (pc := 75) 1 dX6_told_75 rfl ?_
    refine gk_getR (q := 48) (pc := 76) rfl clsX6 cll_0 sh_0 4 (by decide) rfl ww_232 dX6_told_76 ?_
    refine gk_aload_n (pc := 79) 0 dX6_told_79 rfl ?_
    refine gk_callV_iw (As := [gr E 2]) (pc := 80) (c_X5_bound 2 isPl_2 σ) rfl mm_X5_bound ww_510 clsX5 rfl cll_48 sh_48 (gs_fit_of (Nat.le_of_ble_eq_true rfl) (Nat.le_of_ble_eq_true rfl)) rfl rfl (Nat.le_of_ble_eq_true rfl) dX6_told_80 (fun b4 => ?_)
    exact gk_iret (pc := 83) rfl dX6_told_83
  refine gk_sw (tgt := 84) (pc := 9) 4 dX6_told_9 (by decide) rfl (by decide) ?_ (fun hs4 => ?_)
  · refine gk_aload_n (pc := 84) 1 dX6_told_84 rfl ?_
    refine gk_getR (q := 48) (pc := 85) rfl clsX6 cll_0 sh_0 4 (by decide) rfl ww_232 dX6_told_85 ?_
    refine gk_aload_n (pc := 88) 0 dX6_told_88 rfl ?_
    refine gk_callV_iw (As := [gr E 2]) (pc := 89) (c_X5_leastWidth 2 isPl_2 σ) rfl mm_X5_leastWidth ww_532 clsX5 rfl cll_48 sh_48 (gs_fit_of (Nat.le_of_ble_eq_true rfl) (Nat.le_of_ble_eq_true rfl)) rfl rfl (Nat.le_of_ble_eq_true rfl) dX6_told_89 (fun b5 => ?_)
    exact gk_iret (pc := 92) rfl dX6_told_92
  refine gk_sw (tgt := 93) (pc := 9) 5 dX6_told_9 (by decide) rfl (by decide) ?_ (fun hs5 => ?_)
  · refine gk_aload_n (pc := 93) 1 dX6_told_93 rfl ?_
    refine gk_getR (q := 48) (pc := 94) rfl clsX6 cll_0 sh_0 4 (by decide) rfl ww_232 dX6_told_94 ?_
    refine gk_aload_n (pc := 97) 0 dX6_told_97 rfl ?_
    refine gk_callV_iw (As := [gr E 2]) (pc := 98) (c_X5_leastWidth 2 isPl_2 σ) rfl mm_X5_leastWidth ww_532 clsX5 rfl cll_48 sh_48 (gs_fit_of (Nat.le_of_ble_eq_true rfl) (Nat.le_of_ble_eq_true rfl)) rfl rfl (Nat.le_of_ble_eq_true rfl) dX6_told_98 (fun b6 => ?_)
    refine gk_aload_n (pc := 101) 1 dX6_told_101 rfl ?_
    refine gk_getR (q := 48) (pc := 102) rfl clsX6 cll_0 sh_0 4 (by decide) rfl ww_232 dX6_told_102 ?_
    refine gk_aload_n (pc := 105) 0 dX6_told_105 rfl ?_
    refine gk_callV_iw (As := [gr E 2]) (pc := 106) (c_X5_bound 2 isPl_2 b6.2) rfl mm_X5_bound ww_510 clsX5 rfl cll_48 sh_48 (gs_fit_of (Nat.le_of_ble_eq_true rfl) (Nat.le_of_ble_eq_true rfl)) rfl rfl (Nat.le_of_ble_eq_true rfl) dX6_told_106 (fun b7 => ?_)
    refine gk_icmp_ne (tgt := 116) (pc := 109) dX6_told_109 (by decide) rfl rfl ?_ ?_
    · refine gk_iconst (pc := 116) dX6_told_116 ?_
      exact gk_iret (pc := 117) rfl dX6_told_117
    · refine gk_iconst (pc := 112) dX6_told_112 ?_
      refine gk_goto (tgt := 117) (pc := 113) dX6_told_113 (by decide) ?_
      exact gk_iret (pc := 117) rfl dX6_told_117
  refine gk_sw (tgt := 118) (pc := 9) 6 dX6_told_9 (by decide) rfl (by decide) ?_ (fun hs6 => ?_)
  · refine gk_aload_n (pc := 118) 0 dX6_told_118 rfl ?_
    refine gk_callV_ir (As := []) (pc := 119) (c_X0_tuned 2 isPl_2 σ) rfl mm_X0_tuned ww_574 clsX0 rfl (pl_lt0 isPl_2) (pl_sh isPl_2) (gs_fit_of (Nat.le_of_ble_eq_true rfl) (Nat.le_of_ble_eq_true rfl)) rfl rfl (Nat.le_of_ble_eq_true rfl) dX6_told_119 (fun u8 => ?_)
    exact gk_iret (pc := 122) rfl dX6_told_122
  refine gk_sw (tgt := 123) (pc := 9) 7 dX6_told_9 (by decide) rfl (by decide) ?_ (fun hs7 => ?_)
  · refine gk_aload_n (pc := 123) 0 dX6_told_123 rfl ?_
    refine gk_callV_ir (As := []) (pc := 124) (c_X0_usedChannels 2 isPl_2 σ) rfl mm_X0_usedChannels ww_578 clsX0 rfl (pl_lt0 isPl_2) (pl_sh isPl_2) (gs_fit_of (Nat.le_of_ble_eq_true rfl) (Nat.le_of_ble_eq_true rfl)) rfl rfl (Nat.le_of_ble_eq_true rfl) dX6_told_124 (fun u9 => ?_)
    refine gk_callS_ir (As := [gi u9]) (pc := 127) (c_J6_bitCount_0f7a4 u9 σ) rfl mm_J6_bitCount_0f7a4 ww_421 (gs_fit_of (Nat.le_of_ble_eq_true rfl) (Nat.le_of_ble_eq_true rfl)) rfl rfl (Nat.le_of_ble_eq_true rfl) dX6_told_127 (fun u10 => ?_)
    exact gk_iret (pc := 130) rfl dX6_told_130
  refine gk_sw (tgt := 131) (pc := 9) 8 dX6_told_9 (by decide) rfl (by decide) ?_ (fun hs8 => ?_)
  · refine gk_aload_n (pc := 131) 0 dX6_told_131 rfl ?_
    refine gk_callV_ir (As := []) (pc := 132) (c_X0_fixedBits 2 isPl_2 σ) rfl mm_X0_fixedBits ww_579 clsX0 rfl (pl_lt0 isPl_2) (pl_sh isPl_2) (gs_fit_of (Nat.le_of_ble_eq_true rfl) (Nat.le_of_ble_eq_true rfl)) rfl rfl (Nat.le_of_ble_eq_true rfl) dX6_told_132 (fun u11 => ?_)
    exact gk_iret (pc := 135) rfl dX6_told_135
  refine gk_swD (tgt := 136) (pc := 9) dX6_told_9 (by omega) (by decide) ?_
  refine gk_iconst (pc := 136) dX6_told_136 ?_
  exact gk_iret (pc := 137) rfl dX6_told_137
def f_X6_clique (v1 : Int) (σ : gs_Mem) : Option (Int × gs_Mem) :=
  (f_X6_isGap v1 σ).bind fun u1 =>
  if (gn u1) = 0 then
    some ((-2), σ)
  else
    (f_X5_largestClique 2 v1 σ).bind fun b2 =>
    some (b2.1, b2.2)
set_option maxRecDepth 100000 in
set_option maxHeartbeats 4000000 in
theorem c_X6_clique {E : gs_E} (v1 : Int)  (σ : gs_Mem) : gs_C E yX6_clique cX6_clique 2 (some .int) 0 { frames := 3, cells := 0, slots := 0, locals := 72 } [gr E 0, gi v1] σ (f_X6_clique v1 σ) (fun b : Int × gs_Mem => b) := by
  unfold f_X6_clique
  refine gs_enter (L := [(0, gr E 0), (1, gi v1)]) (by decide) rfl rfl (Nat.le_of_ble_eq_true rfl) rfl ?_
  refine gk_iload_n (pc := 0) 1 dX6_clique_0 rfl ?_
  refine gk_callS_ir (As := [gi v1]) (pc := 1) (c_X6_isGap v1 σ) rfl mm_X6_isGap ww_283 (gs_fit_of (Nat.le_of_ble_eq_true rfl) (Nat.le_of_ble_eq_true rfl)) rfl rfl (Nat.le_of_ble_eq_true rfl) dX6_clique_1 (fun u1 => ?_)
  refine gk_if_eq (tgt := 25) (pc := 4) dX6_clique_4 (by decide) rfl ?_ ?_
  · refine gk_bipush (pc := 25) dX6_clique_25 (by decide +kernel) ?_
    exact gk_iret (pc := 27) rfl dX6_clique_27
  · refine gk_aload_n (pc := 7) 0 dX6_clique_7 rfl ?_
    refine gk_getR (q := 48) (pc := 8) rfl clsX6 cll_0 sh_0 4 (by decide) rfl ww_232 dX6_clique_8 ?_
    refine gk_aload_n (pc := 11) 0 dX6_clique_11 rfl ?_
    refine gk_getR (q := 1) (pc := 12) rfl clsX6 cll_0 sh_0 0 (by decide) rfl ww_228 dX6_clique_12 ?_
    refine gk_getRN (q := 2) (pc := 15) rfl clsX2 (st_lt0 isSt_1) (st_sh isSt_1) 0 (by decide) rfl ww_143 dX6_clique_15 ?_
    refine gk_iload_n (pc := 18) 1 dX6_clique_18 rfl ?_
    refine gk_callV_iw (As := [gr E 2, gi v1]) (pc := 19) (c_X5_largestClique 2 v1 isPl_2 σ) rfl mm_X5_largestClique ww_584 clsX5 rfl cll_48 sh_48 (gs_fit_of (Nat.le_of_ble_eq_true rfl) (Nat.le_of_ble_eq_true rfl)) rfl rfl (Nat.le_of_ble_eq_true rfl) dX6_clique_19 (fun b2 => ?_)
    refine gk_goto (tgt := 27) (pc := 22) dX6_clique_22 (by decide) ?_
    exact gk_iret (pc := 27) rfl dX6_clique_27
def f_X6_sorted (v1 : Int) (σ : gs_Mem) : Option (Int) :=
  if 0 ≤ (gn v1) then
    (f_X0_rankedAt 2 v1 σ).bind fun u1 =>
    some u1
  else
    some (-1)
set_option maxRecDepth 100000 in
set_option maxHeartbeats 4000000 in
theorem c_X6_sorted {E : gs_E} (v1 : Int)  (σ : gs_Mem) : gs_C E yX6_sorted cX6_sorted 2 (some .int) 0 { frames := 1, cells := 0, slots := 0, locals := 24 } [gr E 0, gi v1] σ (f_X6_sorted v1 σ) (fun v : Int => (v, σ)) := by
  unfold f_X6_sorted
  refine gs_enter (L := [(0, gr E 0), (1, gi v1)]) (by decide) rfl rfl (Nat.le_of_ble_eq_true rfl) rfl ?_
  refine gk_iload_n (pc := 0) 1 dX6_sorted_0 rfl ?_
  refine gk_if_ge (tgt := 8) (pc := 1) dX6_sorted_1 (by decide) rfl ?_ ?_
  · refine gk_aload_n (pc := 8) 0 dX6_sorted_8 rfl ?_
    refine gk_getR (q := 1) (pc := 9) rfl clsX6 cll_0 sh_0 0 (by decide) rfl ww_228 dX6_sorted_9 ?_
    refine gk_getRN (q := 2) (pc := 12) rfl clsX2 (st_lt0 isSt_1) (st_sh isSt_1) 0 (by decide) rfl ww_143 dX6_sorted_12 ?_
    refine gk_iload_n (pc := 15) 1 dX6_sorted_15 rfl ?_
    refine gk_callV_ir (As := [gi v1]) (pc := 16) (c_X0_rankedAt 2 v1 isPl_2 σ) rfl mm_X0_rankedAt ww_589 clsX0 rfl (pl_lt0 isPl_2) (pl_sh isPl_2) (gs_fit_of (Nat.le_of_ble_eq_true rfl) (Nat.le_of_ble_eq_true rfl)) rfl rfl (Nat.le_of_ble_eq_true rfl) dX6_sorted_16 (fun u1 => ?_)
    exact gk_iret (pc := 19) rfl dX6_sorted_19
  · refine gk_iconst (pc := 4) dX6_sorted_4 ?_
    refine gk_goto (tgt := 19) (pc := 5) dX6_sorted_5 (by decide) ?_
    exact gk_iret (pc := 19) rfl dX6_sorted_19
def f_X6_see (v1 : Int) (v2 : Int) (σ : gs_Mem) : Option (Int × gs_Mem) :=
  if (gn v1) = (-1) then
    (f_X1_clear 11 σ).bind fun b4 =>
    some (b4.1, b4.2)
  else
    (f_X0_has 2 v1 σ).bind fun u1 =>
    if (gn u1) = 0 then
      some ((-1), σ)
    else
      (f_X6_isChannel v2 σ).bind fun u2 =>
      if (gn u2) = 0 then
        some ((-2), σ)
      else
        (f_X1_append 11 v1 v2 σ).bind fun b3 =>
        some (b3.1, b3.2)
set_option maxRecDepth 100000 in
set_option maxHeartbeats 4000000 in
theorem c_X6_see {E : gs_E} (v1 : Int) (v2 : Int)  (σ : gs_Mem) : gs_C E yX6_see cX6_see 3 (some .int) 0 { frames := 1, cells := 0, slots := 0, locals := 22 } [gr E 0, gi v1, gi v2] σ (f_X6_see v1 v2 σ) (fun b : Int × gs_Mem => b) := by
  unfold f_X6_see
  refine gs_enter (L := [(0, gr E 0), (1, gi v1), (2, gi v2)]) (by decide) rfl rfl (Nat.le_of_ble_eq_true rfl) rfl ?_
  refine gk_iload_n (pc := 0) 1 dX6_see_0 rfl ?_
  refine gk_iconst (pc := 1) dX6_see_1 ?_
  refine gk_icmp_ne (tgt := 16) (pc := 2) dX6_see_2 (by decide) rfl (by decide +kernel) ?_ ?_
  · refine gk_aload_n (pc := 16) 0 dX6_see_16 rfl ?_
    refine gk_getR (q := 1) (pc := 17) rfl clsX6 cll_0 sh_0 0 (by decide) rfl ww_228 dX6_see_17 ?_
    refine gk_getRN (q := 2) (pc := 20) rfl clsX2 (st_lt0 isSt_1) (st_sh isSt_1) 0 (by decide) rfl ww_143 dX6_see_20 ?_
    refine gk_iload_n (pc := 23) 1 dX6_see_23 rfl ?_
    refine gk_callV_ir (As := [gi v1]) (pc := 24) (c_X0_has 2 v1 isPl_2 σ) rfl mm_X0_has ww_295 clsX0 rfl (pl_lt0 isPl_2) (pl_sh isPl_2) (gs_fit_of (Nat.le_of_ble_eq_true rfl) (Nat.le_of_ble_eq_true rfl)) rfl rfl (Nat.le_of_ble_eq_true rfl) dX6_see_24 (fun u1 => ?_)
    refine gk_if_ne (tgt := 32) (pc := 27) dX6_see_27 (by decide) rfl ?_ ?_
    · refine gk_iload_n (pc := 32) 2 dX6_see_32 rfl ?_
      refine gk_callS_ir (As := [gi v2]) (pc := 33) (c_X6_isChannel v2 σ) rfl mm_X6_isChannel ww_299 (gs_fit_of (Nat.le_of_ble_eq_true rfl) (Nat.le_of_ble_eq_true rfl)) rfl rfl (Nat.le_of_ble_eq_true rfl) dX6_see_33 (fun u2 => ?_)
      refine gk_if_eq (tgt := 54) (pc := 36) dX6_see_36 (by decide) rfl ?_ ?_
      · refine gk_bipush (pc := 54) dX6_see_54 (by decide +kernel) ?_
        exact gk_iret (pc := 56) rfl dX6_see_56
      · refine gk_aload_n (pc := 39) 0 dX6_see_39 rfl ?_
        refine gk_getR (q := 1) (pc := 40) rfl clsX6 cll_0 sh_0 0 (by decide) rfl ww_228 dX6_see_40 ?_
        refine gk_getRN (q := 11) (pc := 43) rfl clsX2 (st_lt0 isSt_1) (st_sh isSt_1) 1 (by decide) rfl ww_145 dX6_see_43 ?_
        refine gk_iload_n (pc := 46) 1 dX6_see_46 rfl ?_
        refine gk_iload_n (pc := 47) 2 dX6_see_47 rfl ?_
        refine gk_callV_iw (As := [gi v1, gi v2]) (pc := 48) (c_X1_append 11 v1 v2 isRw_11 σ) rfl mm_X1_append ww_601 clsX1 rfl (rw_lt0 isRw_11) (rw_sh isRw_11) (gs_fit_of (Nat.le_of_ble_eq_true rfl) (Nat.le_of_ble_eq_true rfl)) rfl rfl (Nat.le_of_ble_eq_true rfl) dX6_see_48 (fun b3 => ?_)
        refine gk_goto (tgt := 56) (pc := 51) dX6_see_51 (by decide) ?_
        exact gk_iret (pc := 56) rfl dX6_see_56
    · refine gk_iconst (pc := 30) dX6_see_30 ?_
      exact gk_iret (pc := 31) rfl dX6_see_31
  · refine gk_aload_n (pc := 5) 0 dX6_see_5 rfl ?_
    refine gk_getR (q := 1) (pc := 6) rfl clsX6 cll_0 sh_0 0 (by decide) rfl ww_228 dX6_see_6 ?_
    refine gk_getRN (q := 11) (pc := 9) rfl clsX2 (st_lt0 isSt_1) (st_sh isSt_1) 1 (by decide) rfl ww_145 dX6_see_9 ?_
    refine gk_callV_iw (As := []) (pc := 12) (c_X1_clear 11 isRw_11 σ) rfl mm_X1_clear ww_597 clsX1 rfl (rw_lt0 isRw_11) (rw_sh isRw_11) (gs_fit_of (Nat.le_of_ble_eq_true rfl) (Nat.le_of_ble_eq_true rfl)) rfl rfl (Nat.le_of_ble_eq_true rfl) dX6_see_12 (fun b4 => ?_)
    exact gk_iret (pc := 15) rfl dX6_see_15
def f_X6_firstOtherwise_L2 (σ : gs_Mem) (v0 : Nat) (v1 : Nat) : Nat → Int → Option (Int)
  | 0, _ => none
  | n + 1, v2 =>
    (f_X1_size v0 σ).bind fun u1 =>
    if (gn u1) ≤ (gn v2) then
      some (-5)
    else
      (f_X1_first v0 v2 σ).bind fun u2 =>
      (f_X0_channelOf v1 u2 σ).bind fun u3 =>
      (f_X1_second v0 v2 σ).bind fun u4 =>
      if (gn u3) = (gn u4) then
        f_X6_firstOtherwise_L2 σ v0 v1 n (v2 + 1)
      else
        some v2
set_option maxRecDepth 100000 in
set_option maxHeartbeats 4000000 in
theorem k_X6_firstOtherwise_L2 {E : gs_E} (σ : gs_Mem) (v0 : Nat) (v1 : Nat) (hv0 : isRw v0) (hv1 : isPl v1)  : ∀ (n : Nat) (v2 : Int), gs_K E (gs_MC E yX6_firstOtherwise cX6_firstOtherwise 3 (some .int) 0 { frames := 2, cells := 0, slots := 0, locals := 42 }) (fun v : Int => (v, σ)) (f_X6_firstOtherwise_L2 σ v0 v1 n v2) 2 [(0, gr E v0), (1, gr E v1), (2, gi v2)] [] σ := by
  intro n
  induction n with
  | zero => intro v2; rw [f_X6_firstOtherwise_L2]; exact gk_none
  | succ n ih =>
    intro v2; rw [f_X6_firstOtherwise_L2]
    refine gk_iload_n (pc := 2) 2 dX6_firstOtherwise_2 rfl ?_
    refine gk_aload_n (pc := 3) 0 dX6_firstOtherwise_3 rfl ?_
    refine gk_callV_ir (As := []) (pc := 4) (c_X1_size v0 hv0 σ) rfl mm_X1_size ww_623 clsX1 rfl (rw_lt0 hv0) (rw_sh hv0) (gs_fit_of (Nat.le_of_ble_eq_true rfl) (Nat.le_of_ble_eq_true rfl)) rfl rfl (Nat.le_of_ble_eq_true rfl) dX6_firstOtherwise_4 (fun u1 => ?_)
    refine gk_icmp_ge (tgt := 35) (pc := 7) dX6_firstOtherwise_7 (by decide) rfl rfl ?_ ?_
    · refine gk_bipush (pc := 35) dX6_firstOtherwise_35 (by decide +kernel) ?_
      exact gk_iret (pc := 37) rfl dX6_firstOtherwise_37
    · refine gk_aload_n (pc := 10) 1 dX6_firstOtherwise_10 rfl ?_
      refine gk_aload_n (pc := 11) 0 dX6_firstOtherwise_11 rfl ?_
      refine gk_iload_n (pc := 12) 2 dX6_firstOtherwise_12 rfl ?_
      refine gk_callV_ir (As := [gi v2]) (pc := 13) (c_X1_first v0 v2 hv0 σ) rfl mm_X1_first ww_627 clsX1 rfl (rw_lt0 hv0) (rw_sh hv0) (gs_fit_of (Nat.le_of_ble_eq_true rfl) (Nat.le_of_ble_eq_true rfl)) rfl rfl (Nat.le_of_ble_eq_true rfl) dX6_firstOtherwise_13 (fun u2 => ?_)
      refine gk_callV_ir (As := [gi u2]) (pc := 16) (c_X0_channelOf v1 u2 hv1 σ) rfl mm_X0_channelOf ww_323 clsX0 rfl (pl_lt0 hv1) (pl_sh hv1) (gs_fit_of (Nat.le_of_ble_eq_true rfl) (Nat.le_of_ble_eq_true rfl)) rfl rfl (Nat.le_of_ble_eq_true rfl) dX6_firstOtherwise_16 (fun u3 => ?_)
      refine gk_aload_n (pc := 19) 0 dX6_firstOtherwise_19 rfl ?_
      refine gk_iload_n (pc := 20) 2 dX6_firstOtherwise_20 rfl ?_
      refine gk_callV_ir (As := [gi v2]) (pc := 21) (c_X1_second v0 v2 hv0 σ) rfl mm_X1_second ww_631 clsX1 rfl (rw_lt0 hv0) (rw_sh hv0) (gs_fit_of (Nat.le_of_ble_eq_true rfl) (Nat.le_of_ble_eq_true rfl)) rfl rfl (Nat.le_of_ble_eq_true rfl) dX6_firstOtherwise_21 (fun u4 => ?_)
      refine gk_icmp_eq (tgt := 29) (pc := 24) dX6_firstOtherwise_24 (by decide) rfl rfl ?_ ?_
      · refine gk_iinc (L' := [(2, gi (v2 + 1)), (0, gr E v0), (1, gr E v1)]) (pc := 29) 2 dX6_firstOtherwise_29 rfl (Nat.le_of_ble_eq_true rfl) rfl ?_
        refine gk_goto (tgt := 2) (pc := 32) dX6_firstOtherwise_32 (by decide) ?_
        refine gk_sub (L' := [(0, gr E v0), (1, gr E v1), (2, gi (v2 + 1))]) [1, 2, 0] rfl ?_
        exact ih (v2 + 1)
      · refine gk_iload_n (pc := 27) 2 dX6_firstOtherwise_27 rfl ?_
        exact gk_iret (pc := 28) rfl dX6_firstOtherwise_28
def f_X6_firstOtherwise (r0 : Nat) (r1 : Nat) (σ : gs_Mem) : Option (Int) :=
  f_X6_firstOtherwise_L2 σ r0 r1 gs_fuel 0
set_option maxRecDepth 100000 in
set_option maxHeartbeats 4000000 in
theorem c_X6_firstOtherwise {E : gs_E} (r0 : Nat) (r1 : Nat) (hr0 : isRw r0) (hr1 : isPl r1) (σ : gs_Mem) : gs_C E yX6_firstOtherwise cX6_firstOtherwise 3 (some .int) 0 { frames := 2, cells := 0, slots := 0, locals := 42 } [gr E r0, gr E r1] σ (f_X6_firstOtherwise r0 r1 σ) (fun v : Int => (v, σ)) := by
  unfold f_X6_firstOtherwise
  refine gs_enter (L := [(0, gr E r0), (1, gr E r1)]) (by decide) rfl rfl (Nat.le_of_ble_eq_true rfl) rfl ?_
  refine gk_iconst (pc := 0) dX6_firstOtherwise_0 ?_
  refine gk_istore_n (L' := [(2, gi 0), (0, gr E r0), (1, gr E r1)]) (pc := 1) dX6_firstOtherwise_1 (Nat.le_of_ble_eq_true rfl) rfl ?_
  refine gk_sub (L' := [(0, gr E r0), (1, gr E r1), (2, gi 0)]) [1, 2, 0] rfl ?_
  exact k_X6_firstOtherwise_L2 σ r0 r1 hr0 hr1 gs_fuel 0
def f_X6_fits_J136 (k44 : Int → Int → Int → Int → gs_Mem → Option (Int × gs_Mem)) (k144 : Int → Int → gs_Mem → Option (Int × gs_Mem)) (v1 : Int) (v2 : Int) (v3 : Int) (v5 : Int) (v6 : Int) (t0 : Int) (σ : gs_Mem) : Option (Int × gs_Mem) :=
  k44 v3 t0 v5 (v6 + 1) σ
set_option maxRecDepth 100000 in
set_option maxHeartbeats 4000000 in
theorem k_X6_fits_J136 {E : gs_E} (k44 : Int → Int → Int → Int → gs_Mem → Option (Int × gs_Mem)) (k144 : Int → Int → gs_Mem → Option (Int × gs_Mem))  (v1 : Int) (v2 : Int) (v3 : Int) (v5 : Int) (v6 : Int) (t0 : Int)  (hk44 : ∀ (w3 : Int) (w4 : Int) (w5 : Int) (w6 : Int) (σ : gs_Mem), gs_K E (gs_MC E yX6_fits cX6_fits 7 (some .int) 0 { frames := 4, cells := 0, slots := 0, locals := 101 }) (fun b : Int × gs_Mem => b) (k44 w3 w4 w5 w6 σ) 44 [(0, gr E 0), (1, gi v1), (2, gi v2), (3, gi w3), (4, gi w4), (5, gi w5), (6, gi w6)] [] σ) (hk144 : ∀ (w3 : Int) (w4 : Int) (σ : gs_Mem), gs_K E (gs_MC E yX6_fits cX6_fits 7 (some .int) 0 { frames := 4, cells := 0, slots := 0, locals := 101 }) (fun b : Int × gs_Mem => b) (k144 w3 w4 σ) 144 [(2, gi v2), (3, gi w3), (4, gi w4)] [] σ) (σ : gs_Mem) : gs_K E (gs_MC E yX6_fits cX6_fits 7 (some .int) 0 { frames := 4, cells := 0, slots := 0, locals := 101 }) (fun b : Int × gs_Mem => b) (f_X6_fits_J136 k44 k144 v1 v2 v3 v5 v6 t0 σ) 136 [(0, gr E 0), (1, gi v1), (2, gi v2), (3, gi v3), (5, gi v5), (6, gi v6)] [gi t0] σ := by
  unfold f_X6_fits_J136
  refine gk_istore (L' := [(4, gi t0), (0, gr E 0), (1, gi v1), (2, gi v2), (3, gi v3), (5, gi v5), (6, gi v6)]) (pc := 136) dX6_fits_136 (Nat.le_of_ble_eq_true rfl) rfl ?_
  refine gk_iinc (L' := [(6, gi (v6 + 1)), (4, gi t0), (0, gr E 0), (1, gi v1), (2, gi v2), (3, gi v3), (5, gi v5)]) (pc := 138) 6 dX6_fits_138 rfl (Nat.le_of_ble_eq_true rfl) rfl ?_
  refine gk_goto (tgt := 44) (pc := 141) dX6_fits_141 (by decide) ?_
  refine gk_sub (L' := [(0, gr E 0), (1, gi v1), (2, gi v2), (3, gi v3), (4, gi t0), (5, gi v5), (6, gi (v6 + 1))]) [2, 3, 4, 5, 1, 6, 0] rfl ?_
  exact hk44 v3 t0 v5 (v6 + 1) σ
def f_X6_fits_J134 (k44 : Int → Int → Int → Int → gs_Mem → Option (Int × gs_Mem)) (k144 : Int → Int → gs_Mem → Option (Int × gs_Mem)) (v1 : Int) (v2 : Int) (v3 : Int) (v4 : Int) (v5 : Int) (v6 : Int) (σ : gs_Mem) : Option (Int × gs_Mem) :=
  f_X6_fits_J136 k44 k144 v1 v2 v3 v5 v6 v4 σ
set_option maxRecDepth 100000 in
set_option maxHeartbeats 4000000 in
theorem k_X6_fits_J134 {E : gs_E} (k44 : Int → Int → Int → Int → gs_Mem → Option (Int × gs_Mem)) (k144 : Int → Int → gs_Mem → Option (Int × gs_Mem))  (v1 : Int) (v2 : Int) (v3 : Int) (v4 : Int) (v5 : Int) (v6 : Int)  (hk44 : ∀ (w3 : Int) (w4 : Int) (w5 : Int) (w6 : Int) (σ : gs_Mem), gs_K E (gs_MC E yX6_fits cX6_fits 7 (some .int) 0 { frames := 4, cells := 0, slots := 0, locals := 101 }) (fun b : Int × gs_Mem => b) (k44 w3 w4 w5 w6 σ) 44 [(0, gr E 0), (1, gi v1), (2, gi v2), (3, gi w3), (4, gi w4), (5, gi w5), (6, gi w6)] [] σ) (hk144 : ∀ (w3 : Int) (w4 : Int) (σ : gs_Mem), gs_K E (gs_MC E yX6_fits cX6_fits 7 (some .int) 0 { frames := 4, cells := 0, slots := 0, locals := 101 }) (fun b : Int × gs_Mem => b) (k144 w3 w4 σ) 144 [(2, gi v2), (3, gi w3), (4, gi w4)] [] σ) (σ : gs_Mem) : gs_K E (gs_MC E yX6_fits cX6_fits 7 (some .int) 0 { frames := 4, cells := 0, slots := 0, locals := 101 }) (fun b : Int × gs_Mem => b) (f_X6_fits_J134 k44 k144 v1 v2 v3 v4 v5 v6 σ) 134 [(0, gr E 0), (1, gi v1), (2, gi v2), (3, gi v3), (4, gi v4), (5, gi v5), (6, gi v6)] [] σ := by
  unfold f_X6_fits_J134
  refine gk_iload (pc := 134) 4 dX6_fits_134 rfl ?_
  refine gk_sub (L' := [(0, gr E 0), (1, gi v1), (2, gi v2), (3, gi v3), (5, gi v5), (6, gi v6)]) [0, 1, 2, 3, 5, 6] rfl ?_
  exact k_X6_fits_J136 k44 k144 v1 v2 v3 v5 v6 v4 hk44 hk144 σ
def f_X6_fits_J115 (k44 : Int → Int → Int → Int → gs_Mem → Option (Int × gs_Mem)) (k144 : Int → Int → gs_Mem → Option (Int × gs_Mem)) (v1 : Int) (v2 : Int) (v4 : Int) (v5 : Int) (v6 : Int) (t0 : Int) (t1 : Int) (σ : gs_Mem) : Option (Int × gs_Mem) :=
  if (gn v5) = 0 then
    f_X6_fits_J134 k44 k144 v1 v2 (t1 + t0) v4 v5 v6 σ
  else
    if (gn v4) = (-5) then
      f_X6_fits_J136 k44 k144 v1 v2 (t1 + t0) v5 v6 v6 σ
    else
      f_X6_fits_J134 k44 k144 v1 v2 (t1 + t0) v4 v5 v6 σ
set_option maxRecDepth 100000 in
set_option maxHeartbeats 4000000 in
theorem k_X6_fits_J115 {E : gs_E} (k44 : Int → Int → Int → Int → gs_Mem → Option (Int × gs_Mem)) (k144 : Int → Int → gs_Mem → Option (Int × gs_Mem))  (v1 : Int) (v2 : Int) (v4 : Int) (v5 : Int) (v6 : Int) (t0 : Int) (t1 : Int)  (hk44 : ∀ (w3 : Int) (w4 : Int) (w5 : Int) (w6 : Int) (σ : gs_Mem), gs_K E (gs_MC E yX6_fits cX6_fits 7 (some .int) 0 { frames := 4, cells := 0, slots := 0, locals := 101 }) (fun b : Int × gs_Mem => b) (k44 w3 w4 w5 w6 σ) 44 [(0, gr E 0), (1, gi v1), (2, gi v2), (3, gi w3), (4, gi w4), (5, gi w5), (6, gi w6)] [] σ) (hk144 : ∀ (w3 : Int) (w4 : Int) (σ : gs_Mem), gs_K E (gs_MC E yX6_fits cX6_fits 7 (some .int) 0 { frames := 4, cells := 0, slots := 0, locals := 101 }) (fun b : Int × gs_Mem => b) (k144 w3 w4 σ) 144 [(2, gi v2), (3, gi w3), (4, gi w4)] [] σ) (σ : gs_Mem) : gs_K E (gs_MC E yX6_fits cX6_fits 7 (some .int) 0 { frames := 4, cells := 0, slots := 0, locals := 101 }) (fun b : Int × gs_Mem => b) (f_X6_fits_J115 k44 k144 v1 v2 v4 v5 v6 t0 t1 σ) 115 [(0, gr E 0), (1, gi v1), (2, gi v2), (4, gi v4), (5, gi v5), (6, gi v6)] [gi t0, gi t1] σ := by
  unfold f_X6_fits_J115
  refine gk_iadd (pc := 115) dX6_fits_115 ?_
  refine gk_istore_n (L' := [(3, gi (t1 + t0)), (0, gr E 0), (1, gi v1), (2, gi v2), (4, gi v4), (5, gi v5), (6, gi v6)]) (pc := 116) dX6_fits_116 (Nat.le_of_ble_eq_true rfl) rfl ?_
  refine gk_iload (pc := 117) 5 dX6_fits_117 rfl ?_
  refine gk_if_eq (tgt := 134) (pc := 119) dX6_fits_119 (by decide) rfl ?_ ?_
  · refine gk_sub (L' := [(0, gr E 0), (1, gi v1), (2, gi v2), (3, gi (t1 + t0)), (4, gi v4), (5, gi v5), (6, gi v6)]) [1, 2, 3, 0, 4, 5, 6] rfl ?_
    exact k_X6_fits_J134 k44 k144 v1 v2 (t1 + t0) v4 v5 v6 hk44 hk144 σ
  · refine gk_iload (pc := 122) 4 dX6_fits_122 rfl ?_
    refine gk_bipush (pc := 124) dX6_fits_124 (by decide +kernel) ?_
    refine gk_icmp_ne (tgt := 134) (pc := 126) dX6_fits_126 (by decide) rfl (by decide +kernel) ?_ ?_
    · refine gk_sub (L' := [(0, gr E 0), (1, gi v1), (2, gi v2), (3, gi (t1 + t0)), (4, gi v4), (5, gi v5), (6, gi v6)]) [1, 2, 3, 0, 4, 5, 6] rfl ?_
      exact k_X6_fits_J134 k44 k144 v1 v2 (t1 + t0) v4 v5 v6 hk44 hk144 σ
    · refine gk_iload (pc := 129) 6 dX6_fits_129 rfl ?_
      refine gk_goto (tgt := 136) (pc := 131) dX6_fits_131 (by decide) ?_
      refine gk_sub (L' := [(0, gr E 0), (1, gi v1), (2, gi v2), (3, gi (t1 + t0)), (5, gi v5), (6, gi v6)]) [1, 2, 3, 0, 5, 6] rfl ?_
      exact k_X6_fits_J136 k44 k144 v1 v2 (t1 + t0) v5 v6 v6 hk44 hk144 σ
def f_X6_fits_J104 (k44 : Int → Int → Int → Int → gs_Mem → Option (Int × gs_Mem)) (k144 : Int → Int → gs_Mem → Option (Int × gs_Mem)) (v1 : Int) (v2 : Int) (v3 : Int) (v4 : Int) (v5 : Int) (v6 : Int) (σ : gs_Mem) : Option (Int × gs_Mem) :=
  if (gn v5) = 0 then
    f_X6_fits_J115 k44 k144 v1 v2 v4 v5 v6 0 v3 σ
  else
    f_X6_fits_J115 k44 k144 v1 v2 v4 v5 v6 1 v3 σ
set_option maxRecDepth 100000 in
set_option maxHeartbeats 4000000 in
theorem k_X6_fits_J104 {E : gs_E} (k44 : Int → Int → Int → Int → gs_Mem → Option (Int × gs_Mem)) (k144 : Int → Int → gs_Mem → Option (Int × gs_Mem))  (v1 : Int) (v2 : Int) (v3 : Int) (v4 : Int) (v5 : Int) (v6 : Int)  (hk44 : ∀ (w3 : Int) (w4 : Int) (w5 : Int) (w6 : Int) (σ : gs_Mem), gs_K E (gs_MC E yX6_fits cX6_fits 7 (some .int) 0 { frames := 4, cells := 0, slots := 0, locals := 101 }) (fun b : Int × gs_Mem => b) (k44 w3 w4 w5 w6 σ) 44 [(0, gr E 0), (1, gi v1), (2, gi v2), (3, gi w3), (4, gi w4), (5, gi w5), (6, gi w6)] [] σ) (hk144 : ∀ (w3 : Int) (w4 : Int) (σ : gs_Mem), gs_K E (gs_MC E yX6_fits cX6_fits 7 (some .int) 0 { frames := 4, cells := 0, slots := 0, locals := 101 }) (fun b : Int × gs_Mem => b) (k144 w3 w4 σ) 144 [(2, gi v2), (3, gi w3), (4, gi w4)] [] σ) (σ : gs_Mem) : gs_K E (gs_MC E yX6_fits cX6_fits 7 (some .int) 0 { frames := 4, cells := 0, slots := 0, locals := 101 }) (fun b : Int × gs_Mem => b) (f_X6_fits_J104 k44 k144 v1 v2 v3 v4 v5 v6 σ) 104 [(0, gr E 0), (1, gi v1), (2, gi v2), (3, gi v3), (4, gi v4), (5, gi v5), (6, gi v6)] [] σ := by
  unfold f_X6_fits_J104
  refine gk_iload_n (pc := 104) 3 dX6_fits_104 rfl ?_
  refine gk_iload (pc := 105) 5 dX6_fits_105 rfl ?_
  refine gk_if_eq (tgt := 114) (pc := 107) dX6_fits_107 (by decide) rfl ?_ ?_
  · refine gk_iconst (pc := 114) dX6_fits_114 ?_
    refine gk_sub (L' := [(0, gr E 0), (1, gi v1), (2, gi v2), (4, gi v4), (5, gi v5), (6, gi v6)]) [0, 1, 2, 4, 5, 6] rfl ?_
    exact k_X6_fits_J115 k44 k144 v1 v2 v4 v5 v6 0 v3 hk44 hk144 σ
  · refine gk_iconst (pc := 110) dX6_fits_110 ?_
    refine gk_goto (tgt := 115) (pc := 111) dX6_fits_111 (by decide) ?_
    refine gk_sub (L' := [(0, gr E 0), (1, gi v1), (2, gi v2), (4, gi v4), (5, gi v5), (6, gi v6)]) [0, 1, 2, 4, 5, 6] rfl ?_
    exact k_X6_fits_J115 k44 k144 v1 v2 v4 v5 v6 1 v3 hk44 hk144 σ
def f_X6_fits_J102 (k44 : Int → Int → Int → Int → gs_Mem → Option (Int × gs_Mem)) (k144 : Int → Int → gs_Mem → Option (Int × gs_Mem)) (v1 : Int) (v2 : Int) (v3 : Int) (v4 : Int) (v6 : Int) (t0 : Int) (σ : gs_Mem) : Option (Int × gs_Mem) :=
  f_X6_fits_J104 k44 k144 v1 v2 v3 v4 t0 v6 σ
set_option maxRecDepth 100000 in
set_option maxHeartbeats 4000000 in
theorem k_X6_fits_J102 {E : gs_E} (k44 : Int → Int → Int → Int → gs_Mem → Option (Int × gs_Mem)) (k144 : Int → Int → gs_Mem → Option (Int × gs_Mem))  (v1 : Int) (v2 : Int) (v3 : Int) (v4 : Int) (v6 : Int) (t0 : Int)  (hk44 : ∀ (w3 : Int) (w4 : Int) (w5 : Int) (w6 : Int) (σ : gs_Mem), gs_K E (gs_MC E yX6_fits cX6_fits 7 (some .int) 0 { frames := 4, cells := 0, slots := 0, locals := 101 }) (fun b : Int × gs_Mem => b) (k44 w3 w4 w5 w6 σ) 44 [(0, gr E 0), (1, gi v1), (2, gi v2), (3, gi w3), (4, gi w4), (5, gi w5), (6, gi w6)] [] σ) (hk144 : ∀ (w3 : Int) (w4 : Int) (σ : gs_Mem), gs_K E (gs_MC E yX6_fits cX6_fits 7 (some .int) 0 { frames := 4, cells := 0, slots := 0, locals := 101 }) (fun b : Int × gs_Mem => b) (k144 w3 w4 σ) 144 [(2, gi v2), (3, gi w3), (4, gi w4)] [] σ) (σ : gs_Mem) : gs_K E (gs_MC E yX6_fits cX6_fits 7 (some .int) 0 { frames := 4, cells := 0, slots := 0, locals := 101 }) (fun b : Int × gs_Mem => b) (f_X6_fits_J102 k44 k144 v1 v2 v3 v4 v6 t0 σ) 102 [(0, gr E 0), (1, gi v1), (2, gi v2), (3, gi v3), (4, gi v4), (6, gi v6)] [gi t0] σ := by
  unfold f_X6_fits_J102
  refine gk_istore (L' := [(5, gi t0), (0, gr E 0), (1, gi v1), (2, gi v2), (3, gi v3), (4, gi v4), (6, gi v6)]) (pc := 102) dX6_fits_102 (Nat.le_of_ble_eq_true rfl) rfl ?_
  refine gk_sub (L' := [(0, gr E 0), (1, gi v1), (2, gi v2), (3, gi v3), (4, gi v4), (5, gi t0), (6, gi v6)]) [1, 2, 3, 4, 5, 0, 6] rfl ?_
  exact k_X6_fits_J104 k44 k144 v1 v2 v3 v4 t0 v6 hk44 hk144 σ
def f_X6_fits_J70 (k44 : Int → Int → Int → Int → gs_Mem → Option (Int × gs_Mem)) (k144 : Int → Int → gs_Mem → Option (Int × gs_Mem)) (v1 : Int) (v2 : Int) (v3 : Int) (v4 : Int) (v6 : Int) (σ : gs_Mem) : Option (Int × gs_Mem) :=
  (f_X0_tuneAll 39 σ).bind fun b4 =>
  (f_X6_firstOtherwise 11 39 b4.2).bind fun u5 =>
  if (gn u5) = (-5) then
    f_X6_fits_J102 k44 k144 v1 v2 v3 v4 v6 1 b4.2
  else
    f_X6_fits_J102 k44 k144 v1 v2 v3 v4 v6 0 b4.2
set_option maxRecDepth 100000 in
set_option maxHeartbeats 4000000 in
theorem k_X6_fits_J70 {E : gs_E} (k44 : Int → Int → Int → Int → gs_Mem → Option (Int × gs_Mem)) (k144 : Int → Int → gs_Mem → Option (Int × gs_Mem))  (v1 : Int) (v2 : Int) (v3 : Int) (v4 : Int) (v6 : Int)  (hk44 : ∀ (w3 : Int) (w4 : Int) (w5 : Int) (w6 : Int) (σ : gs_Mem), gs_K E (gs_MC E yX6_fits cX6_fits 7 (some .int) 0 { frames := 4, cells := 0, slots := 0, locals := 101 }) (fun b : Int × gs_Mem => b) (k44 w3 w4 w5 w6 σ) 44 [(0, gr E 0), (1, gi v1), (2, gi v2), (3, gi w3), (4, gi w4), (5, gi w5), (6, gi w6)] [] σ) (hk144 : ∀ (w3 : Int) (w4 : Int) (σ : gs_Mem), gs_K E (gs_MC E yX6_fits cX6_fits 7 (some .int) 0 { frames := 4, cells := 0, slots := 0, locals := 101 }) (fun b : Int × gs_Mem => b) (k144 w3 w4 σ) 144 [(2, gi v2), (3, gi w3), (4, gi w4)] [] σ) (σ : gs_Mem) : gs_K E (gs_MC E yX6_fits cX6_fits 7 (some .int) 0 { frames := 4, cells := 0, slots := 0, locals := 101 }) (fun b : Int × gs_Mem => b) (f_X6_fits_J70 k44 k144 v1 v2 v3 v4 v6 σ) 70 [(0, gr E 0), (1, gi v1), (2, gi v2), (3, gi v3), (4, gi v4), (6, gi v6)] [] σ := by
  unfold f_X6_fits_J70
  refine gk_aload_n (pc := 70) 0 dX6_fits_70 rfl ?_
  refine gk_getR (q := 39) (pc := 71) rfl clsX6 cll_0 sh_0 3 (by decide) rfl ww_231 dX6_fits_71 ?_
  refine gk_callV_iw (As := []) (pc := 74) (c_X0_tuneAll 39 isPl_39 σ) rfl mm_X0_tuneAll ww_451 clsX0 rfl (pl_lt0 isPl_39) (pl_sh isPl_39) (gs_fit_of (Nat.le_of_ble_eq_true rfl) (Nat.le_of_ble_eq_true rfl)) rfl rfl (Nat.le_of_ble_eq_true rfl) dX6_fits_74 (fun b4 => ?_)
  refine gk_pop (pc := 77) dX6_fits_77 rfl ?_
  refine gk_aload_n (pc := 78) 0 dX6_fits_78 rfl ?_
  refine gk_getR (q := 1) (pc := 79) rfl clsX6 cll_0 sh_0 0 (by decide) rfl ww_228 dX6_fits_79 ?_
  refine gk_getRN (q := 11) (pc := 82) rfl clsX2 (st_lt0 isSt_1) (st_sh isSt_1) 1 (by decide) rfl ww_145 dX6_fits_82 ?_
  refine gk_aload_n (pc := 85) 0 dX6_fits_85 rfl ?_
  refine gk_getR (q := 39) (pc := 86) rfl clsX6 cll_0 sh_0 3 (by decide) rfl ww_231 dX6_fits_86 ?_
  refine gk_callS_ir (As := [gr E 11, gr E 39]) (pc := 89) (c_X6_firstOtherwise 11 39 isRw_11 isPl_39 b4.2) rfl mm_X6_firstOtherwise ww_620 (gs_fit_of (Nat.le_of_ble_eq_true rfl) (Nat.le_of_ble_eq_true rfl)) rfl rfl (Nat.le_of_ble_eq_true rfl) dX6_fits_89 (fun u5 => ?_)
  refine gk_bipush (pc := 92) dX6_fits_92 (by decide +kernel) ?_
  refine gk_icmp_ne (tgt := 101) (pc := 94) dX6_fits_94 (by decide) rfl (by decide +kernel) ?_ ?_
  · refine gk_iconst (pc := 101) dX6_fits_101 ?_
    exact k_X6_fits_J102 k44 k144 v1 v2 v3 v4 v6 0 hk44 hk144 b4.2
  · refine gk_iconst (pc := 97) dX6_fits_97 ?_
    refine gk_goto (tgt := 102) (pc := 98) dX6_fits_98 (by decide) ?_
    exact k_X6_fits_J102 k44 k144 v1 v2 v3 v4 v6 1 hk44 hk144 b4.2
def f_X6_fits_L44 (v1 : Int) (v2 : Int) (k144 : Int → Int → gs_Mem → Option (Int × gs_Mem)) : Nat → Int → Int → Int → Int → gs_Mem → Option (Int × gs_Mem)
  | 0, _, _, _, _, _ => none
  | n + 1, v3, v4, v5, v6, σ =>
    if 40 < (gn v6) then
      k144 v3 v4 σ
    else
      (f_X0_changeNear 39 v1 v6 σ).bind fun b3 =>
      if (gn b3.1) = 0 then
        if (gn v6) = 1 then
          f_X6_fits_J70 (f_X6_fits_L44 v1 v2 k144 n) k144 v1 v2 v3 v4 v6 b3.2
        else
          f_X6_fits_J104 (f_X6_fits_L44 v1 v2 k144 n) k144 v1 v2 v3 v4 v5 v6 b3.2
      else
        f_X6_fits_J70 (f_X6_fits_L44 v1 v2 k144 n) k144 v1 v2 v3 v4 v6 b3.2
set_option maxRecDepth 100000 in
set_option maxHeartbeats 4000000 in
theorem k_X6_fits_L44 {E : gs_E} (v1 : Int) (v2 : Int) (k144 : Int → Int → gs_Mem → Option (Int × gs_Mem))  (hk144 : ∀ (w3 : Int) (w4 : Int) (σ : gs_Mem), gs_K E (gs_MC E yX6_fits cX6_fits 7 (some .int) 0 { frames := 4, cells := 0, slots := 0, locals := 101 }) (fun b : Int × gs_Mem => b) (k144 w3 w4 σ) 144 [(2, gi v2), (3, gi w3), (4, gi w4)] [] σ) : ∀ (n : Nat) (v3 : Int) (v4 : Int) (v5 : Int) (v6 : Int) (σ : gs_Mem), gs_K E (gs_MC E yX6_fits cX6_fits 7 (some .int) 0 { frames := 4, cells := 0, slots := 0, locals := 101 }) (fun b : Int × gs_Mem => b) (f_X6_fits_L44 v1 v2 k144 n v3 v4 v5 v6 σ) 44 [(0, gr E 0), (1, gi v1), (2, gi v2), (3, gi v3), (4, gi v4), (5, gi v5), (6, gi v6)] [] σ := by
  intro n
  induction n with
  | zero => intro v3 v4 v5 v6 σ; rw [f_X6_fits_L44]; exact gk_none
  | succ n ih =>
    intro v3 v4 v5 v6 σ; rw [f_X6_fits_L44]
    refine gk_iload (pc := 44) 6 dX6_fits_44 rfl ?_
    refine gk_bipush (pc := 46) dX6_fits_46 (by decide +kernel) ?_
    refine gk_icmp_gt (tgt := 144) (pc := 48) dX6_fits_48 (by decide) rfl (by decide +kernel) ?_ ?_
    · refine gk_sub (L' := [(2, gi v2), (3, gi v3), (4, gi v4)]) [2, 3, 4] rfl ?_
      exact hk144 v3 v4 σ
    · refine gk_aload_n (pc := 51) 0 dX6_fits_51 rfl ?_
      refine gk_getR (q := 39) (pc := 52) rfl clsX6 cll_0 sh_0 3 (by decide) rfl ww_231 dX6_fits_52 ?_
      refine gk_iload_n (pc := 55) 1 dX6_fits_55 rfl ?_
      refine gk_iload (pc := 56) 6 dX6_fits_56 rfl ?_
      refine gk_callV_iw (As := [gi v1, gi v6]) (pc := 58) (c_X0_changeNear 39 v1 v6 isPl_39 σ) rfl mm_X0_changeNear ww_616 clsX0 rfl (pl_lt0 isPl_39) (pl_sh isPl_39) (gs_fit_of (Nat.le_of_ble_eq_true rfl) (Nat.le_of_ble_eq_true rfl)) rfl rfl (Nat.le_of_ble_eq_true rfl) dX6_fits_58 (fun b3 => ?_)
      refine gk_if_ne (tgt := 70) (pc := 61) dX6_fits_61 (by decide) rfl ?_ ?_
      · refine gk_sub (L' := [(0, gr E 0), (1, gi v1), (2, gi v2), (3, gi v3), (4, gi v4), (6, gi v6)]) [0, 1, 2, 3, 4, 6] rfl ?_
        exact k_X6_fits_J70 (f_X6_fits_L44 v1 v2 k144 n) k144 v1 v2 v3 v4 v6 ih hk144 b3.2
      · refine gk_iload (pc := 64) 6 dX6_fits_64 rfl ?_
        refine gk_iconst (pc := 66) dX6_fits_66 ?_
        refine gk_icmp_ne (tgt := 104) (pc := 67) dX6_fits_67 (by decide) rfl (by decide +kernel) ?_ ?_
        · exact k_X6_fits_J104 (f_X6_fits_L44 v1 v2 k144 n) k144 v1 v2 v3 v4 v5 v6 ih hk144 b3.2
        · refine gk_sub (L' := [(0, gr E 0), (1, gi v1), (2, gi v2), (3, gi v3), (4, gi v4), (6, gi v6)]) [0, 1, 2, 3, 4, 6] rfl ?_
          exact k_X6_fits_J70 (f_X6_fits_L44 v1 v2 k144 n) k144 v1 v2 v3 v4 v6 ih hk144 b3.2
def f_X6_fits (v1 : Int) (v2 : Int) (σ : gs_Mem) : Option (Int × gs_Mem) :=
  (f_X6_isRule v1 σ).bind fun u1 =>
  if (gn u1) = 0 then
    some ((-1), σ)
  else
    if (gn v2) < 0 then
      some ((-1), σ)
    else
      if (gn v2) ≤ 1 then
        (f_X0_copyFrom 39 2 σ).bind fun b2 =>
        f_X6_fits_L44 v1 v2 (fun w3 w4 σ6 =>
          if (gn v2) = 0 then
            some (w3, σ6)
          else
            some (w4, σ6)) gs_fuel 0 (-5) 0 1 b2.2
      else
        some ((-1), σ)
set_option maxRecDepth 100000 in
set_option maxHeartbeats 4000000 in
theorem c_X6_fits {E : gs_E} (v1 : Int) (v2 : Int)  (σ : gs_Mem) : gs_C E yX6_fits cX6_fits 7 (some .int) 0 { frames := 4, cells := 0, slots := 0, locals := 101 } [gr E 0, gi v1, gi v2] σ (f_X6_fits v1 v2 σ) (fun b : Int × gs_Mem => b) := by
  unfold f_X6_fits
  refine gs_enter (L := [(0, gr E 0), (1, gi v1), (2, gi v2)]) (by decide) rfl rfl (Nat.le_of_ble_eq_true rfl) rfl ?_
  refine gk_iload_n (pc := 0) 1 dX6_fits_0 rfl ?_
  refine gk_callS_ir (As := [gi v1]) (pc := 1) (c_X6_isRule v1 σ) rfl mm_X6_isRule ww_277 (gs_fit_of (Nat.le_of_ble_eq_true rfl) (Nat.le_of_ble_eq_true rfl)) rfl rfl (Nat.le_of_ble_eq_true rfl) dX6_fits_1 (fun u1 => ?_)
  refine gk_if_eq (tgt := 16) (pc := 4) dX6_fits_4 (by decide) rfl ?_ ?_
  · refine gk_iconst (pc := 16) dX6_fits_16 ?_
    exact gk_iret (pc := 17) rfl dX6_fits_17
  · refine gk_iload_n (pc := 7) 2 dX6_fits_7 rfl ?_
    refine gk_if_lt (tgt := 16) (pc := 8) dX6_fits_8 (by decide) rfl ?_ ?_
    · refine gk_iconst (pc := 16) dX6_fits_16 ?_
      exact gk_iret (pc := 17) rfl dX6_fits_17
    · refine gk_iload_n (pc := 11) 2 dX6_fits_11 rfl ?_
      refine gk_iconst (pc := 12) dX6_fits_12 ?_
      refine gk_icmp_le (tgt := 18) (pc := 13) dX6_fits_13 (by decide) rfl (by decide +kernel) ?_ ?_
      · refine gk_aload_n (pc := 18) 0 dX6_fits_18 rfl ?_
        refine gk_getR (q := 39) (pc := 19) rfl clsX6 cll_0 sh_0 3 (by decide) rfl ww_231 dX6_fits_19 ?_
        refine gk_aload_n (pc := 22) 0 dX6_fits_22 rfl ?_
        refine gk_getR (q := 1) (pc := 23) rfl clsX6 cll_0 sh_0 0 (by decide) rfl ww_228 dX6_fits_23 ?_
        refine gk_getRN (q := 2) (pc := 26) rfl clsX2 (st_lt0 isSt_1) (st_sh isSt_1) 0 (by decide) rfl ww_143 dX6_fits_26 ?_
        refine gk_callV_vw (As := [gr E 2]) (pc := 29) (c_X0_copyFrom 39 2 isPl_39 isPl_2 σ) rfl mm_X0_copyFrom ww_609 clsX0 rfl (pl_lt0 isPl_39) (pl_sh isPl_39) (gs_fit_of (Nat.le_of_ble_eq_true rfl) (Nat.le_of_ble_eq_true rfl)) rfl rfl (Nat.le_of_ble_eq_true rfl) dX6_fits_29 (fun b2 => ?_)
        refine gk_iconst (pc := 32) dX6_fits_32 ?_
        refine gk_istore_n (L' := [(3, gi 0), (0, gr E 0), (1, gi v1), (2, gi v2)]) (pc := 33) dX6_fits_33 (Nat.le_of_ble_eq_true rfl) rfl ?_
        refine gk_bipush (pc := 34) dX6_fits_34 (by decide +kernel) ?_
        refine gk_istore (L' := [(4, gi (-5)), (3, gi 0), (0, gr E 0), (1, gi v1), (2, gi v2)]) (pc := 36) dX6_fits_36 (Nat.le_of_ble_eq_true rfl) rfl ?_
        refine gk_iconst (pc := 38) dX6_fits_38 ?_
        refine gk_istore (L' := [(5, gi 0), (4, gi (-5)), (3, gi 0), (0, gr E 0), (1, gi v1), (2, gi v2)]) (pc := 39) dX6_fits_39 (Nat.le_of_ble_eq_true rfl) rfl ?_
        refine gk_iconst (pc := 41) dX6_fits_41 ?_
        refine gk_istore (L' := [(6, gi 1), (5, gi 0), (4, gi (-5)), (3, gi 0), (0, gr E 0), (1, gi v1), (2, gi v2)]) (pc := 42) dX6_fits_42 (Nat.le_of_ble_eq_true rfl) rfl ?_
        refine gk_sub (L' := [(0, gr E 0), (1, gi v1), (2, gi v2), (3, gi 0), (4, gi (-5)), (5, gi 0), (6, gi 1)]) [4, 5, 6, 3, 2, 1, 0] rfl ?_
        refine k_X6_fits_L44 v1 v2 _ ?_ gs_fuel 0 (-5) 0 1 b2.2
        · intro w3 w4 σ6
          refine gk_iload_n (pc := 144) 0 dX6_fits_144 rfl ?_
          refine gk_if_ne (tgt := 152) (pc := 145) dX6_fits_145 (by decide) rfl ?_ ?_
          · refine gk_iload (pc := 152) 2 dX6_fits_152 rfl ?_
            exact gk_iret (pc := 154) rfl dX6_fits_154
          · refine gk_iload_n (pc := 148) 1 dX6_fits_148 rfl ?_
            refine gk_goto (tgt := 154) (pc := 149) dX6_fits_149 (by decide) ?_
            exact gk_iret (pc := 154) rfl dX6_fits_154
      · refine gk_iconst (pc := 16) dX6_fits_16 ?_
        exact gk_iret (pc := 17) rfl dX6_fits_17
def f_X6_odds_J93 (k44 : Int → Int → gs_Mem → Option (Int × gs_Mem)) (k99 : Int → gs_Mem → Option (Int × gs_Mem)) (v1 : Int) (v2 : Int) (v3 : Int) (v4 : Int) (σ : gs_Mem) : Option (Int × gs_Mem) :=
  k44 v3 (v4 + 1) σ
set_option maxRecDepth 100000 in
set_option maxHeartbeats 4000000 in
theorem k_X6_odds_J93 {E : gs_E} (k44 : Int → Int → gs_Mem → Option (Int × gs_Mem)) (k99 : Int → gs_Mem → Option (Int × gs_Mem))  (v1 : Int) (v2 : Int) (v3 : Int) (v4 : Int)  (hk44 : ∀ (w3 : Int) (w4 : Int) (σ : gs_Mem), gs_K E (gs_MC E yX6_odds cX6_odds 5 (some .long) 1 { frames := 4, cells := 0, slots := 0, locals := 101 }) (fun b : Int × gs_Mem => b) (k44 w3 w4 σ) 44 [(0, gr E 0), (1, gi v1), (2, gi v2), (3, gi w3), (4, gi w4)] [] σ) (hk99 : ∀ (w3 : Int) (σ : gs_Mem), gs_K E (gs_MC E yX6_odds cX6_odds 5 (some .long) 1 { frames := 4, cells := 0, slots := 0, locals := 101 }) (fun b : Int × gs_Mem => b) (k99 w3 σ) 99 [(2, gi v2), (3, gi w3)] [] σ) (σ : gs_Mem) : gs_K E (gs_MC E yX6_odds cX6_odds 5 (some .long) 1 { frames := 4, cells := 0, slots := 0, locals := 101 }) (fun b : Int × gs_Mem => b) (f_X6_odds_J93 k44 k99 v1 v2 v3 v4 σ) 93 [(0, gr E 0), (1, gi v1), (2, gi v2), (3, gi v3), (4, gi v4)] [] σ := by
  unfold f_X6_odds_J93
  refine gk_iinc (L' := [(4, gi (v4 + 1)), (0, gr E 0), (1, gi v1), (2, gi v2), (3, gi v3)]) (pc := 93) 4 dX6_odds_93 rfl (Nat.le_of_ble_eq_true rfl) rfl ?_
  refine gk_goto (tgt := 44) (pc := 96) dX6_odds_96 (by decide) ?_
  refine gk_sub (L' := [(0, gr E 0), (1, gi v1), (2, gi v2), (3, gi v3), (4, gi (v4 + 1))]) [1, 2, 3, 4, 0] rfl ?_
  exact hk44 v3 (v4 + 1) σ
def f_X6_odds_L44 (v1 : Int) (v2 : Int) (k99 : Int → gs_Mem → Option (Int × gs_Mem)) : Nat → Int → Int → gs_Mem → Option (Int × gs_Mem)
  | 0, _, _, _ => none
  | n + 1, v3, v4, σ =>
    if 10 ≤ (gn v4) then
      k99 v3 σ
    else
      (f_X0_tune 39 v1 v4 σ).bind fun b4 =>
      (f_X0_pin 39 v1 1 b4.2).bind fun b5 =>
      (f_X0_tuneAll 39 b5.2).bind fun b6 =>
      if (gn b6.1) = 0 then
        (f_X0_clashes 39 b6.2).bind fun u7 =>
        if (gn u7) = 0 then
          f_X6_odds_J93 (f_X6_odds_L44 v1 v2 k99 n) k99 v1 v2 (v3 + 1) v4 b6.2
        else
          f_X6_odds_J93 (f_X6_odds_L44 v1 v2 k99 n) k99 v1 v2 v3 v4 b6.2
      else
        f_X6_odds_J93 (f_X6_odds_L44 v1 v2 k99 n) k99 v1 v2 v3 v4 b6.2
set_option maxRecDepth 100000 in
set_option maxHeartbeats 4000000 in
theorem k_X6_odds_L44 {E : gs_E} (v1 : Int) (v2 : Int) (k99 : Int → gs_Mem → Option (Int × gs_Mem))  (hk99 : ∀ (w3 : Int) (σ : gs_Mem), gs_K E (gs_MC E yX6_odds cX6_odds 5 (some .long) 1 { frames := 4, cells := 0, slots := 0, locals := 101 }) (fun b : Int × gs_Mem => b) (k99 w3 σ) 99 [(2, gi v2), (3, gi w3)] [] σ) : ∀ (n : Nat) (v3 : Int) (v4 : Int) (σ : gs_Mem), gs_K E (gs_MC E yX6_odds cX6_odds 5 (some .long) 1 { frames := 4, cells := 0, slots := 0, locals := 101 }) (fun b : Int × gs_Mem => b) (f_X6_odds_L44 v1 v2 k99 n v3 v4 σ) 44 [(0, gr E 0), (1, gi v1), (2, gi v2), (3, gi v3), (4, gi v4)] [] σ := by
  intro n
  induction n with
  | zero => intro v3 v4 σ; rw [f_X6_odds_L44]; exact gk_none
  | succ n ih =>
    intro v3 v4 σ; rw [f_X6_odds_L44]
    refine gk_iload (pc := 44) 4 dX6_odds_44 rfl ?_
    refine gk_bipush (pc := 46) dX6_odds_46 (by decide +kernel) ?_
    refine gk_icmp_ge (tgt := 99) (pc := 48) dX6_odds_48 (by decide) rfl (by decide +kernel) ?_ ?_
    · refine gk_sub (L' := [(2, gi v2), (3, gi v3)]) [2, 3] rfl ?_
      exact hk99 v3 σ
    · refine gk_aload_n (pc := 51) 0 dX6_odds_51 rfl ?_
      refine gk_getR (q := 39) (pc := 52) rfl clsX6 cll_0 sh_0 3 (by decide) rfl ww_231 dX6_odds_52 ?_
      refine gk_iload_n (pc := 55) 1 dX6_odds_55 rfl ?_
      refine gk_iload (pc := 56) 4 dX6_odds_56 rfl ?_
      refine gk_callV_vw (As := [gi v1, gi v4]) (pc := 58) (c_X0_tune 39 v1 v4 isPl_39 σ) rfl mm_X0_tune ww_315 clsX0 rfl (pl_lt0 isPl_39) (pl_sh isPl_39) (gs_fit_of (Nat.le_of_ble_eq_true rfl) (Nat.le_of_ble_eq_true rfl)) rfl rfl (Nat.le_of_ble_eq_true rfl) dX6_odds_58 (fun b4 => ?_)
      refine gk_aload_n (pc := 61) 0 dX6_odds_61 rfl ?_
      refine gk_getR (q := 39) (pc := 62) rfl clsX6 cll_0 sh_0 3 (by decide) rfl ww_231 dX6_odds_62 ?_
      refine gk_iload_n (pc := 65) 1 dX6_odds_65 rfl ?_
      refine gk_iconst (pc := 66) dX6_odds_66 ?_
      refine gk_callV_vw (As := [gi v1, gi 1]) (pc := 67) (c_X0_pin 39 v1 1 isPl_39 b4.2) rfl mm_X0_pin ww_324 clsX0 rfl (pl_lt0 isPl_39) (pl_sh isPl_39) (gs_fit_of (Nat.le_of_ble_eq_true rfl) (Nat.le_of_ble_eq_true rfl)) rfl rfl (Nat.le_of_ble_eq_true rfl) dX6_odds_67 (fun b5 => ?_)
      refine gk_aload_n (pc := 70) 0 dX6_odds_70 rfl ?_
      refine gk_getR (q := 39) (pc := 71) rfl clsX6 cll_0 sh_0 3 (by decide) rfl ww_231 dX6_odds_71 ?_
      refine gk_callV_iw (As := []) (pc := 74) (c_X0_tuneAll 39 isPl_39 b5.2) rfl mm_X0_tuneAll ww_451 clsX0 rfl (pl_lt0 isPl_39) (pl_sh isPl_39) (gs_fit_of (Nat.le_of_ble_eq_true rfl) (Nat.le_of_ble_eq_true rfl)) rfl rfl (Nat.le_of_ble_eq_true rfl) dX6_odds_74 (fun b6 => ?_)
      refine gk_if_ne (tgt := 93) (pc := 77) dX6_odds_77 (by decide) rfl ?_ ?_
      · exact k_X6_odds_J93 (f_X6_odds_L44 v1 v2 k99 n) k99 v1 v2 v3 v4 ih hk99 b6.2
      · refine gk_aload_n (pc := 80) 0 dX6_odds_80 rfl ?_
        refine gk_getR (q := 39) (pc := 81) rfl clsX6 cll_0 sh_0 3 (by decide) rfl ww_231 dX6_odds_81 ?_
        refine gk_callV_ir (As := []) (pc := 84) (c_X0_clashes 39 isPl_39 b6.2) rfl mm_X0_clashes ww_509 clsX0 rfl (pl_lt0 isPl_39) (pl_sh isPl_39) (gs_fit_of (Nat.le_of_ble_eq_true rfl) (Nat.le_of_ble_eq_true rfl)) rfl rfl (Nat.le_of_ble_eq_true rfl) dX6_odds_84 (fun u7 => ?_)
        refine gk_if_ne (tgt := 93) (pc := 87) dX6_odds_87 (by decide) rfl ?_ ?_
        · exact k_X6_odds_J93 (f_X6_odds_L44 v1 v2 k99 n) k99 v1 v2 v3 v4 ih hk99 b6.2
        · refine gk_iinc (L' := [(3, gi (v3 + 1)), (0, gr E 0), (1, gi v1), (2, gi v2), (4, gi v4)]) (pc := 90) 3 dX6_odds_90 rfl (Nat.le_of_ble_eq_true rfl) rfl ?_
          refine gk_sub (L' := [(0, gr E 0), (1, gi v1), (2, gi v2), (3, gi (v3 + 1)), (4, gi v4)]) [1, 2, 3, 0, 4] rfl ?_
          exact k_X6_odds_J93 (f_X6_odds_L44 v1 v2 k99 n) k99 v1 v2 (v3 + 1) v4 ih hk99 b6.2
def f_X6_odds (v1 : Int) (v2 : Int) (σ : gs_Mem) : Option (Int × gs_Mem) :=
  (f_X0_has 2 v1 σ).bind fun u1 =>
  if (gn u1) = 0 then
    some ((-9223372036854775808), σ)
  else
    (f_X6_isPart v2 σ).bind fun u2 =>
    if (gn u2) = 0 then
      some ((-9223372036854775808), σ)
    else
      (f_X0_copyFrom 39 2 σ).bind fun b3 =>
      f_X6_odds_L44 v1 v2 (fun w3 σ8 =>
        (f_X6_partOf w3 10 v2 σ8).bind fun u9 =>
        some (u9, σ8)) gs_fuel 0 0 b3.2
set_option maxRecDepth 100000 in
set_option maxHeartbeats 4000000 in
theorem c_X6_odds {E : gs_E} (v1 : Int) (v2 : Int)  (σ : gs_Mem) : gs_C E yX6_odds cX6_odds 5 (some .long) 1 { frames := 4, cells := 0, slots := 0, locals := 101 } [gr E 0, gi v1, gi v2] σ (f_X6_odds v1 v2 σ) (fun b : Int × gs_Mem => b) := by
  unfold f_X6_odds
  refine gs_enter (L := [(0, gr E 0), (1, gi v1), (2, gi v2)]) (by decide) rfl rfl (Nat.le_of_ble_eq_true rfl) rfl ?_
  refine gk_aload_n (pc := 0) 0 dX6_odds_0 rfl ?_
  refine gk_getR (q := 1) (pc := 1) rfl clsX6 cll_0 sh_0 0 (by decide) rfl ww_228 dX6_odds_1 ?_
  refine gk_getRN (q := 2) (pc := 4) rfl clsX2 (st_lt0 isSt_1) (st_sh isSt_1) 0 (by decide) rfl ww_143 dX6_odds_4 ?_
  refine gk_iload_n (pc := 7) 1 dX6_odds_7 rfl ?_
  refine gk_callV_ir (As := [gi v1]) (pc := 8) (c_X0_has 2 v1 isPl_2 σ) rfl mm_X0_has ww_295 clsX0 rfl (pl_lt0 isPl_2) (pl_sh isPl_2) (gs_fit_of (Nat.le_of_ble_eq_true rfl) (Nat.le_of_ble_eq_true rfl)) rfl rfl (Nat.le_of_ble_eq_true rfl) dX6_odds_8 (fun u1 => ?_)
  refine gk_if_eq (tgt := 21) (pc := 11) dX6_odds_11 (by decide) rfl ?_ ?_
  · refine gk_ldc2 (x := -9223372036854775808) (pc := 21) rfl dX6_odds_21 ww_642 (by decide +kernel) ?_
    exact gk_lret (pc := 24) rfl dX6_odds_24
  · refine gk_iload_n (pc := 14) 2 dX6_odds_14 rfl ?_
    refine gk_callS_ir (As := [gi v2]) (pc := 15) (c_X6_isPart v2 σ) rfl mm_X6_isPart ww_639 (gs_fit_of (Nat.le_of_ble_eq_true rfl) (Nat.le_of_ble_eq_true rfl)) rfl rfl (Nat.le_of_ble_eq_true rfl) dX6_odds_15 (fun u2 => ?_)
    refine gk_if_ne (tgt := 25) (pc := 18) dX6_odds_18 (by decide) rfl ?_ ?_
    · refine gk_aload_n (pc := 25) 0 dX6_odds_25 rfl ?_
      refine gk_getR (q := 39) (pc := 26) rfl clsX6 cll_0 sh_0 3 (by decide) rfl ww_231 dX6_odds_26 ?_
      refine gk_aload_n (pc := 29) 0 dX6_odds_29 rfl ?_
      refine gk_getR (q := 1) (pc := 30) rfl clsX6 cll_0 sh_0 0 (by decide) rfl ww_228 dX6_odds_30 ?_
      refine gk_getRN (q := 2) (pc := 33) rfl clsX2 (st_lt0 isSt_1) (st_sh isSt_1) 0 (by decide) rfl ww_143 dX6_odds_33 ?_
      refine gk_callV_vw (As := [gr E 2]) (pc := 36) (c_X0_copyFrom 39 2 isPl_39 isPl_2 σ) rfl mm_X0_copyFrom ww_609 clsX0 rfl (pl_lt0 isPl_39) (pl_sh isPl_39) (gs_fit_of (Nat.le_of_ble_eq_true rfl) (Nat.le_of_ble_eq_true rfl)) rfl rfl (Nat.le_of_ble_eq_true rfl) dX6_odds_36 (fun b3 => ?_)
      refine gk_iconst (pc := 39) dX6_odds_39 ?_
      refine gk_istore_n (L' := [(3, gi 0), (0, gr E 0), (1, gi v1), (2, gi v2)]) (pc := 40) dX6_odds_40 (Nat.le_of_ble_eq_true rfl) rfl ?_
      refine gk_iconst (pc := 41) dX6_odds_41 ?_
      refine gk_istore (L' := [(4, gi 0), (3, gi 0), (0, gr E 0), (1, gi v1), (2, gi v2)]) (pc := 42) dX6_odds_42 (Nat.le_of_ble_eq_true rfl) rfl ?_
      refine gk_sub (L' := [(0, gr E 0), (1, gi v1), (2, gi v2), (3, gi 0), (4, gi 0)]) [2, 3, 4, 1, 0] rfl ?_
      refine k_X6_odds_L44 v1 v2 _ ?_ gs_fuel 0 0 b3.2
      · intro w3 σ8
        refine gk_iload_n (pc := 99) 1 dX6_odds_99 rfl ?_
        refine gk_bipush (pc := 100) dX6_odds_100 (by decide +kernel) ?_
        refine gk_iload_n (pc := 102) 0 dX6_odds_102 rfl ?_
        refine gk_callS_lr (As := [gi w3, gi 10, gi v2]) (pc := 103) (c_X6_partOf w3 10 v2 σ8) rfl mm_X6_partOf ww_643 (gs_fit_of (Nat.le_of_ble_eq_true rfl) (Nat.le_of_ble_eq_true rfl)) rfl rfl (Nat.le_of_ble_eq_true rfl) dX6_odds_103 (fun u9 => ?_)
        exact gk_lret (pc := 106) rfl dX6_odds_106
    · refine gk_ldc2 (x := -9223372036854775808) (pc := 21) rfl dX6_odds_21 ww_642 (by decide +kernel) ?_
      exact gk_lret (pc := 24) rfl dX6_odds_24
def f_X6_mean (v1 : Int) (σ : gs_Mem) : Option (Int) :=
  (f_X0_tuned 2 σ).bind fun u1 =>
  (f_X6_isPart v1 σ).bind fun u2 =>
  if (gn u2) = 0 then
    some (-9223372036854775808)
  else
    if (gn u1) ≤ 0 then
      some (-9223372036854775808)
    else
      (f_X0_channelSum 2 σ).bind fun u3 =>
      (f_X6_partOf u3 u1 v1 σ).bind fun u4 =>
      some u4
set_option maxRecDepth 100000 in
set_option maxHeartbeats 4000000 in
theorem c_X6_mean {E : gs_E} (v1 : Int)  (σ : gs_Mem) : gs_C E yX6_mean cX6_mean 3 (some .long) 1 { frames := 1, cells := 0, slots := 0, locals := 26 } [gr E 0, gi v1] σ (f_X6_mean v1 σ) (fun v : Int => (v, σ)) := by
  unfold f_X6_mean
  refine gs_enter (L := [(0, gr E 0), (1, gi v1)]) (by decide) rfl rfl (Nat.le_of_ble_eq_true rfl) rfl ?_
  refine gk_aload_n (pc := 0) 0 dX6_mean_0 rfl ?_
  refine gk_getR (q := 1) (pc := 1) rfl clsX6 cll_0 sh_0 0 (by decide) rfl ww_228 dX6_mean_1 ?_
  refine gk_getRN (q := 2) (pc := 4) rfl clsX2 (st_lt0 isSt_1) (st_sh isSt_1) 0 (by decide) rfl ww_143 dX6_mean_4 ?_
  refine gk_callV_ir (As := []) (pc := 7) (c_X0_tuned 2 isPl_2 σ) rfl mm_X0_tuned ww_574 clsX0 rfl (pl_lt0 isPl_2) (pl_sh isPl_2) (gs_fit_of (Nat.le_of_ble_eq_true rfl) (Nat.le_of_ble_eq_true rfl)) rfl rfl (Nat.le_of_ble_eq_true rfl) dX6_mean_7 (fun u1 => ?_)
  refine gk_istore_n (L' := [(2, gi u1), (0, gr E 0), (1, gi v1)]) (pc := 10) dX6_mean_10 (Nat.le_of_ble_eq_true rfl) rfl ?_
  refine gk_iload_n (pc := 11) 2 dX6_mean_11 rfl ?_
  refine gk_callS_ir (As := [gi v1]) (pc := 12) (c_X6_isPart v1 σ) rfl mm_X6_isPart ww_639 (gs_fit_of (Nat.le_of_ble_eq_true rfl) (Nat.le_of_ble_eq_true rfl)) rfl rfl (Nat.le_of_ble_eq_true rfl) dX6_mean_12 (fun u2 => ?_)
  refine gk_if_eq (tgt := 40) (pc := 15) dX6_mean_15 (by decide) rfl ?_ ?_
  · refine gk_ldc2 (x := -9223372036854775808) (pc := 40) rfl dX6_mean_40 ww_642 (by decide +kernel) ?_
    exact gk_lret (pc := 43) rfl dX6_mean_43
  · refine gk_iload_n (pc := 18) 0 dX6_mean_18 rfl ?_
    refine gk_if_le (tgt := 40) (pc := 19) dX6_mean_19 (by decide) rfl ?_ ?_
    · refine gk_ldc2 (x := -9223372036854775808) (pc := 40) rfl dX6_mean_40 ww_642 (by decide +kernel) ?_
      exact gk_lret (pc := 43) rfl dX6_mean_43
    · refine gk_aload_n (pc := 22) 1 dX6_mean_22 rfl ?_
      refine gk_getR (q := 1) (pc := 23) rfl clsX6 cll_0 sh_0 0 (by decide) rfl ww_228 dX6_mean_23 ?_
      refine gk_getRN (q := 2) (pc := 26) rfl clsX2 (st_lt0 isSt_1) (st_sh isSt_1) 0 (by decide) rfl ww_143 dX6_mean_26 ?_
      refine gk_callV_ir (As := []) (pc := 29) (c_X0_channelSum 2 isPl_2 σ) rfl mm_X0_channelSum ww_650 clsX0 rfl (pl_lt0 isPl_2) (pl_sh isPl_2) (gs_fit_of (Nat.le_of_ble_eq_true rfl) (Nat.le_of_ble_eq_true rfl)) rfl rfl (Nat.le_of_ble_eq_true rfl) dX6_mean_29 (fun u3 => ?_)
      refine gk_iload_n (pc := 32) 0 dX6_mean_32 rfl ?_
      refine gk_iload_n (pc := 33) 2 dX6_mean_33 rfl ?_
      refine gk_callS_lr (As := [gi u3, gi u1, gi v1]) (pc := 34) (c_X6_partOf u3 u1 v1 σ) rfl mm_X6_partOf ww_643 (gs_fit_of (Nat.le_of_ble_eq_true rfl) (Nat.le_of_ble_eq_true rfl)) rfl rfl (Nat.le_of_ble_eq_true rfl) dX6_mean_34 (fun u4 => ?_)
      refine gk_goto (tgt := 43) (pc := 37) dX6_mean_37 (by decide) ?_
      exact gk_lret (pc := 43) rfl dX6_mean_43
def f_X6_plan_J68 (v1 : Int) (v2 : Int) (σ : gs_Mem) : Option (Int × gs_Mem) :=
  (f_X1_append 14 v1 v2 σ).bind fun b2 =>
  some (b2.1, b2.2)
set_option maxRecDepth 100000 in
set_option maxHeartbeats 4000000 in
theorem k_X6_plan_J68 {E : gs_E}  (v1 : Int) (v2 : Int)   (σ : gs_Mem) : gs_K E (gs_MC E yX6_plan cX6_plan 3 (some .int) 0 { frames := 1, cells := 0, slots := 0, locals := 22 }) (fun b : Int × gs_Mem => b) (f_X6_plan_J68 v1 v2 σ) 68 [(0, gr E 0), (1, gi v1), (2, gi v2)] [] σ := by
  unfold f_X6_plan_J68
  refine gk_aload_n (pc := 68) 0 dX6_plan_68 rfl ?_
  refine gk_getR (q := 1) (pc := 69) rfl clsX6 cll_0 sh_0 0 (by decide) rfl ww_228 dX6_plan_69 ?_
  refine gk_getRN (q := 14) (pc := 72) rfl clsX2 (st_lt0 isSt_1) (st_sh isSt_1) 2 (by decide) rfl ww_147 dX6_plan_72 ?_
  refine gk_iload_n (pc := 75) 1 dX6_plan_75 rfl ?_
  refine gk_iload_n (pc := 76) 2 dX6_plan_76 rfl ?_
  refine gk_callV_iw (As := [gi v1, gi v2]) (pc := 77) (c_X1_append 14 v1 v2 isRw_14 σ) rfl mm_X1_append ww_601 clsX1 rfl (rw_lt0 isRw_14) (rw_sh isRw_14) (gs_fit_of (Nat.le_of_ble_eq_true rfl) (Nat.le_of_ble_eq_true rfl)) rfl rfl (Nat.le_of_ble_eq_true rfl) dX6_plan_77 (fun b2 => ?_)
  exact gk_iret (pc := 80) rfl dX6_plan_80
def f_X6_plan_J53 (v1 : Int) (v2 : Int) (σ : gs_Mem) : Option (Int × gs_Mem) :=
  if (gn v1) = 2 then
    (f_X6_isNear v2 σ).bind fun u3 =>
    if (gn u3) = 0 then
      some ((-2), σ)
    else
      f_X6_plan_J68 v1 v2 σ
  else
    f_X6_plan_J68 v1 v2 σ
set_option maxRecDepth 100000 in
set_option maxHeartbeats 4000000 in
theorem k_X6_plan_J53 {E : gs_E}  (v1 : Int) (v2 : Int)   (σ : gs_Mem) : gs_K E (gs_MC E yX6_plan cX6_plan 3 (some .int) 0 { frames := 1, cells := 0, slots := 0, locals := 22 }) (fun b : Int × gs_Mem => b) (f_X6_plan_J53 v1 v2 σ) 53 [(0, gr E 0), (1, gi v1), (2, gi v2)] [] σ := by
  unfold f_X6_plan_J53
  refine gk_iload_n (pc := 53) 1 dX6_plan_53 rfl ?_
  refine gk_iconst (pc := 54) dX6_plan_54 ?_
  refine gk_icmp_ne (tgt := 68) (pc := 55) dX6_plan_55 (by decide) rfl (by decide +kernel) ?_ ?_
  · exact k_X6_plan_J68 v1 v2 σ
  · refine gk_iload_n (pc := 58) 2 dX6_plan_58 rfl ?_
    refine gk_callS_ir (As := [gi v2]) (pc := 59) (c_X6_isNear v2 σ) rfl mm_X6_isNear ww_280 (gs_fit_of (Nat.le_of_ble_eq_true rfl) (Nat.le_of_ble_eq_true rfl)) rfl rfl (Nat.le_of_ble_eq_true rfl) dX6_plan_59 (fun u3 => ?_)
    refine gk_if_ne (tgt := 68) (pc := 62) dX6_plan_62 (by decide) rfl ?_ ?_
    · exact k_X6_plan_J68 v1 v2 σ
    · refine gk_bipush (pc := 65) dX6_plan_65 (by decide +kernel) ?_
      exact gk_iret (pc := 67) rfl dX6_plan_67
def f_X6_plan_J37 (v1 : Int) (v2 : Int) (σ : gs_Mem) : Option (Int × gs_Mem) :=
  (f_X0_has 2 v2 σ).bind fun u1 =>
  if (gn u1) = 0 then
    some ((-1), σ)
  else
    f_X6_plan_J53 v1 v2 σ
set_option maxRecDepth 100000 in
set_option maxHeartbeats 4000000 in
theorem k_X6_plan_J37 {E : gs_E}  (v1 : Int) (v2 : Int)   (σ : gs_Mem) : gs_K E (gs_MC E yX6_plan cX6_plan 3 (some .int) 0 { frames := 1, cells := 0, slots := 0, locals := 22 }) (fun b : Int × gs_Mem => b) (f_X6_plan_J37 v1 v2 σ) 37 [(0, gr E 0), (1, gi v1), (2, gi v2)] [] σ := by
  unfold f_X6_plan_J37
  refine gk_aload_n (pc := 37) 0 dX6_plan_37 rfl ?_
  refine gk_getR (q := 1) (pc := 38) rfl clsX6 cll_0 sh_0 0 (by decide) rfl ww_228 dX6_plan_38 ?_
  refine gk_getRN (q := 2) (pc := 41) rfl clsX2 (st_lt0 isSt_1) (st_sh isSt_1) 0 (by decide) rfl ww_143 dX6_plan_41 ?_
  refine gk_iload_n (pc := 44) 2 dX6_plan_44 rfl ?_
  refine gk_callV_ir (As := [gi v2]) (pc := 45) (c_X0_has 2 v2 isPl_2 σ) rfl mm_X0_has ww_295 clsX0 rfl (pl_lt0 isPl_2) (pl_sh isPl_2) (gs_fit_of (Nat.le_of_ble_eq_true rfl) (Nat.le_of_ble_eq_true rfl)) rfl rfl (Nat.le_of_ble_eq_true rfl) dX6_plan_45 (fun u1 => ?_)
  refine gk_if_ne (tgt := 53) (pc := 48) dX6_plan_48 (by decide) rfl ?_ ?_
  · exact k_X6_plan_J53 v1 v2 σ
  · refine gk_iconst (pc := 51) dX6_plan_51 ?_
    exact gk_iret (pc := 52) rfl dX6_plan_52
def f_X6_plan (v1 : Int) (v2 : Int) (σ : gs_Mem) : Option (Int × gs_Mem) :=
  if (gn v1) = (-1) then
    (f_X1_clear 14 σ).bind fun b4 =>
    some (b4.1, b4.2)
  else
    if (gn v1) < 0 then
      some ((-1), σ)
    else
      if (gn v1) ≤ 3 then
        if (gn v1) = 1 then
          f_X6_plan_J37 v1 v2 σ
        else
          if (gn v1) = 3 then
            f_X6_plan_J37 v1 v2 σ
          else
            f_X6_plan_J53 v1 v2 σ
      else
        some ((-1), σ)
set_option maxRecDepth 100000 in
set_option maxHeartbeats 4000000 in
theorem c_X6_plan {E : gs_E} (v1 : Int) (v2 : Int)  (σ : gs_Mem) : gs_C E yX6_plan cX6_plan 3 (some .int) 0 { frames := 1, cells := 0, slots := 0, locals := 22 } [gr E 0, gi v1, gi v2] σ (f_X6_plan v1 v2 σ) (fun b : Int × gs_Mem => b) := by
  unfold f_X6_plan
  refine gs_enter (L := [(0, gr E 0), (1, gi v1), (2, gi v2)]) (by decide) rfl rfl (Nat.le_of_ble_eq_true rfl) rfl ?_
  refine gk_iload_n (pc := 0) 1 dX6_plan_0 rfl ?_
  refine gk_iconst (pc := 1) dX6_plan_1 ?_
  refine gk_icmp_ne (tgt := 16) (pc := 2) dX6_plan_2 (by decide) rfl (by decide +kernel) ?_ ?_
  · refine gk_iload_n (pc := 16) 1 dX6_plan_16 rfl ?_
    refine gk_if_lt (tgt := 25) (pc := 17) dX6_plan_17 (by decide) rfl ?_ ?_
    · refine gk_iconst (pc := 25) dX6_plan_25 ?_
      exact gk_iret (pc := 26) rfl dX6_plan_26
    · refine gk_iload_n (pc := 20) 1 dX6_plan_20 rfl ?_
      refine gk_iconst (pc := 21) dX6_plan_21 ?_
      refine gk_icmp_le (tgt := 27) (pc := 22) dX6_plan_22 (by decide) rfl (by decide +kernel) ?_ ?_
      · refine gk_iload_n (pc := 27) 1 dX6_plan_27 rfl ?_
        refine gk_iconst (pc := 28) dX6_plan_28 ?_
        refine gk_icmp_eq (tgt := 37) (pc := 29) dX6_plan_29 (by decide) rfl (by decide +kernel) ?_ ?_
        · exact k_X6_plan_J37 v1 v2 σ
        · refine gk_iload_n (pc := 32) 1 dX6_plan_32 rfl ?_
          refine gk_iconst (pc := 33) dX6_plan_33 ?_
          refine gk_icmp_ne (tgt := 53) (pc := 34) dX6_plan_34 (by decide) rfl (by decide +kernel) ?_ ?_
          · exact k_X6_plan_J53 v1 v2 σ
          · exact k_X6_plan_J37 v1 v2 σ
      · refine gk_iconst (pc := 25) dX6_plan_25 ?_
        exact gk_iret (pc := 26) rfl dX6_plan_26
  · refine gk_aload_n (pc := 5) 0 dX6_plan_5 rfl ?_
    refine gk_getR (q := 1) (pc := 6) rfl clsX6 cll_0 sh_0 0 (by decide) rfl ww_228 dX6_plan_6 ?_
    refine gk_getRN (q := 14) (pc := 9) rfl clsX2 (st_lt0 isSt_1) (st_sh isSt_1) 2 (by decide) rfl ww_147 dX6_plan_9 ?_
    refine gk_callV_iw (As := []) (pc := 12) (c_X1_clear 14 isRw_14 σ) rfl mm_X1_clear ww_597 clsX1 rfl (rw_lt0 isRw_14) (rw_sh isRw_14) (gs_fit_of (Nat.le_of_ble_eq_true rfl) (Nat.le_of_ble_eq_true rfl)) rfl rfl (Nat.le_of_ble_eq_true rfl) dX6_plan_12 (fun b4 => ?_)
    exact gk_iret (pc := 15) rfl dX6_plan_15
def f_X6_goAhead (v1 : Int) (v2 : Int) (σ : gs_Mem) : Option (Int × gs_Mem) :=
  if (gn v1) = 0 then
    (f_X0_tuneAll 39 σ).bind fun b1 =>
    some (0, b1.2)
  else if (gn v1) = 1 then
    (f_X0_tune 39 v2 (-1) σ).bind fun b2 =>
    some (0, b2.2)
  else if (gn v1) = 2 then
    (f_X0_changeNear 39 0 v2 σ).bind fun b3 =>
    some (0, b3.2)
  else 
    (f_X0_pin 39 v2 1 σ).bind fun b4 =>
    some (0, b4.2)
set_option maxRecDepth 100000 in
set_option maxHeartbeats 4000000 in
theorem c_X6_goAhead {E : gs_E} (v1 : Int) (v2 : Int)  (σ : gs_Mem) : gs_C E yX6_goAhead cX6_goAhead 3 none 2 { frames := 4, cells := 0, slots := 0, locals := 90 } [gr E 0, gi v1, gi v2] σ (f_X6_goAhead v1 v2 σ) (fun b : Int × gs_Mem => b) := by
  unfold f_X6_goAhead
  refine gs_enter (L := [(0, gr E 0), (1, gi v1), (2, gi v2)]) (by decide) rfl rfl (Nat.le_of_ble_eq_true rfl) rfl ?_
  refine gk_iload_n (pc := 0) 1 dX6_goAhead_0 rfl ?_
  refine gk_sw (tgt := 28) (pc := 1) 0 dX6_goAhead_1 (by decide) rfl (by decide) ?_ (fun hs0 => ?_)
  · refine gk_aload_n (pc := 28) 0 dX6_goAhead_28 rfl ?_
    refine gk_getR (q := 39) (pc := 29) rfl clsX6 cll_0 sh_0 3 (by decide) rfl ww_231 dX6_goAhead_29 ?_
    refine gk_callV_iw (As := []) (pc := 32) (c_X0_tuneAll 39 isPl_39 σ) rfl mm_X0_tuneAll ww_451 clsX0 rfl (pl_lt0 isPl_39) (pl_sh isPl_39) (gs_fit_of (Nat.le_of_ble_eq_true rfl) (Nat.le_of_ble_eq_true rfl)) rfl rfl (Nat.le_of_ble_eq_true rfl) dX6_goAhead_32 (fun b1 => ?_)
    refine gk_pop (pc := 35) dX6_goAhead_35 rfl ?_
    refine gk_goto (tgt := 73) (pc := 36) dX6_goAhead_36 (by decide) ?_
    exact gk_vret (pc := 73) rfl dX6_goAhead_73
  refine gk_sw (tgt := 39) (pc := 1) 1 dX6_goAhead_1 (by decide) rfl (by decide) ?_ (fun hs1 => ?_)
  · refine gk_aload_n (pc := 39) 0 dX6_goAhead_39 rfl ?_
    refine gk_getR (q := 39) (pc := 40) rfl clsX6 cll_0 sh_0 3 (by decide) rfl ww_231 dX6_goAhead_40 ?_
    refine gk_iload_n (pc := 43) 2 dX6_goAhead_43 rfl ?_
    refine gk_iconst (pc := 44) dX6_goAhead_44 ?_
    refine gk_callV_vw (As := [gi v2, gi (-1)]) (pc := 45) (c_X0_tune 39 v2 (-1) isPl_39 σ) rfl mm_X0_tune ww_315 clsX0 rfl (pl_lt0 isPl_39) (pl_sh isPl_39) (gs_fit_of (Nat.le_of_ble_eq_true rfl) (Nat.le_of_ble_eq_true rfl)) rfl rfl (Nat.le_of_ble_eq_true rfl) dX6_goAhead_45 (fun b2 => ?_)
    refine gk_goto (tgt := 73) (pc := 48) dX6_goAhead_48 (by decide) ?_
    exact gk_vret (pc := 73) rfl dX6_goAhead_73
  refine gk_sw (tgt := 51) (pc := 1) 2 dX6_goAhead_1 (by decide) rfl (by decide) ?_ (fun hs2 => ?_)
  · refine gk_aload_n (pc := 51) 0 dX6_goAhead_51 rfl ?_
    refine gk_getR (q := 39) (pc := 52) rfl clsX6 cll_0 sh_0 3 (by decide) rfl ww_231 dX6_goAhead_52 ?_
    refine gk_iconst (pc := 55) dX6_goAhead_55 ?_
    refine gk_iload_n (pc := 56) 2 dX6_goAhead_56 rfl ?_
    refine gk_callV_iw (As := [gi 0, gi v2]) (pc := 57) (c_X0_changeNear 39 0 v2 isPl_39 σ) rfl mm_X0_changeNear ww_616 clsX0 rfl (pl_lt0 isPl_39) (pl_sh isPl_39) (gs_fit_of (Nat.le_of_ble_eq_true rfl) (Nat.le_of_ble_eq_true rfl)) rfl rfl (Nat.le_of_ble_eq_true rfl) dX6_goAhead_57 (fun b3 => ?_)
    refine gk_pop (pc := 60) dX6_goAhead_60 rfl ?_
    refine gk_goto (tgt := 73) (pc := 61) dX6_goAhead_61 (by decide) ?_
    exact gk_vret (pc := 73) rfl dX6_goAhead_73
  refine gk_swD (tgt := 64) (pc := 1) dX6_goAhead_1 (by omega) (by decide) ?_
  refine gk_aload_n (pc := 64) 0 dX6_goAhead_64 rfl ?_
  refine gk_getR (q := 39) (pc := 65) rfl clsX6 cll_0 sh_0 3 (by decide) rfl ww_231 dX6_goAhead_65 ?_
  refine gk_iload_n (pc := 68) 2 dX6_goAhead_68 rfl ?_
  refine gk_iconst (pc := 69) dX6_goAhead_69 ?_
  refine gk_callV_vw (As := [gi v2, gi 1]) (pc := 70) (c_X0_pin 39 v2 1 isPl_39 σ) rfl mm_X0_pin ww_324 clsX0 rfl (pl_lt0 isPl_39) (pl_sh isPl_39) (gs_fit_of (Nat.le_of_ble_eq_true rfl) (Nat.le_of_ble_eq_true rfl)) rfl rfl (Nat.le_of_ble_eq_true rfl) dX6_goAhead_70 (fun b4 => ?_)
  exact gk_vret (pc := 73) rfl dX6_goAhead_73
def f_X6_ends_L27 (v1 : Int) (k73 : gs_Mem → Option (Int × gs_Mem)) : Nat → Int → gs_Mem → Option (Int × gs_Mem)
  | 0, _, _ => none
  | n + 1, v2, σ =>
    (f_X1_size 14 σ).bind fun u2 =>
    if (gn u2) ≤ (gn v2) then
      k73 σ
    else
      (f_X1_first 14 v2 σ).bind fun u3 =>
      (f_X1_second 14 v2 σ).bind fun u4 =>
      (f_X6_goAhead u3 u4 σ).bind fun b5 =>
      f_X6_ends_L27 v1 k73 n (v2 + 1) b5.2
set_option maxRecDepth 100000 in
set_option maxHeartbeats 4000000 in
theorem k_X6_ends_L27 {E : gs_E} (v1 : Int) (k73 : gs_Mem → Option (Int × gs_Mem))  (hk73 : ∀ (σ : gs_Mem), gs_K E (gs_MC E yX6_ends cX6_ends 3 (some .int) 0 { frames := 5, cells := 0, slots := 0, locals := 112 }) (fun b : Int × gs_Mem => b) (k73 σ) 73 [(0, gr E 0), (1, gi v1)] [] σ) : ∀ (n : Nat) (v2 : Int) (σ : gs_Mem), gs_K E (gs_MC E yX6_ends cX6_ends 3 (some .int) 0 { frames := 5, cells := 0, slots := 0, locals := 112 }) (fun b : Int × gs_Mem => b) (f_X6_ends_L27 v1 k73 n v2 σ) 27 [(0, gr E 0), (1, gi v1), (2, gi v2)] [] σ := by
  intro n
  induction n with
  | zero => intro v2 σ; rw [f_X6_ends_L27]; exact gk_none
  | succ n ih =>
    intro v2 σ; rw [f_X6_ends_L27]
    refine gk_iload_n (pc := 27) 2 dX6_ends_27 rfl ?_
    refine gk_aload_n (pc := 28) 0 dX6_ends_28 rfl ?_
    refine gk_getR (q := 1) (pc := 29) rfl clsX6 cll_0 sh_0 0 (by decide) rfl ww_228 dX6_ends_29 ?_
    refine gk_getRN (q := 14) (pc := 32) rfl clsX2 (st_lt0 isSt_1) (st_sh isSt_1) 2 (by decide) rfl ww_147 dX6_ends_32 ?_
    refine gk_callV_ir (As := []) (pc := 35) (c_X1_size 14 isRw_14 σ) rfl mm_X1_size ww_623 clsX1 rfl (rw_lt0 isRw_14) (rw_sh isRw_14) (gs_fit_of (Nat.le_of_ble_eq_true rfl) (Nat.le_of_ble_eq_true rfl)) rfl rfl (Nat.le_of_ble_eq_true rfl) dX6_ends_35 (fun u2 => ?_)
    refine gk_icmp_ge (tgt := 73) (pc := 38) dX6_ends_38 (by decide) rfl rfl ?_ ?_
    · refine gk_sub (L' := [(0, gr E 0), (1, gi v1)]) [0, 1] rfl ?_
      exact hk73 σ
    · refine gk_aload_n (pc := 41) 0 dX6_ends_41 rfl ?_
      refine gk_aload_n (pc := 42) 0 dX6_ends_42 rfl ?_
      refine gk_getR (q := 1) (pc := 43) rfl clsX6 cll_0 sh_0 0 (by decide) rfl ww_228 dX6_ends_43 ?_
      refine gk_getRN (q := 14) (pc := 46) rfl clsX2 (st_lt0 isSt_1) (st_sh isSt_1) 2 (by decide) rfl ww_147 dX6_ends_46 ?_
      refine gk_iload_n (pc := 49) 2 dX6_ends_49 rfl ?_
      refine gk_callV_ir (As := [gi v2]) (pc := 50) (c_X1_first 14 v2 isRw_14 σ) rfl mm_X1_first ww_627 clsX1 rfl (rw_lt0 isRw_14) (rw_sh isRw_14) (gs_fit_of (Nat.le_of_ble_eq_true rfl) (Nat.le_of_ble_eq_true rfl)) rfl rfl (Nat.le_of_ble_eq_true rfl) dX6_ends_50 (fun u3 => ?_)
      refine gk_aload_n (pc := 53) 0 dX6_ends_53 rfl ?_
      refine gk_getR (q := 1) (pc := 54) rfl clsX6 cll_0 sh_0 0 (by decide) rfl ww_228 dX6_ends_54 ?_
      refine gk_getRN (q := 14) (pc := 57) rfl clsX2 (st_lt0 isSt_1) (st_sh isSt_1) 2 (by decide) rfl ww_147 dX6_ends_57 ?_
      refine gk_iload_n (pc := 60) 2 dX6_ends_60 rfl ?_
      refine gk_callV_ir (As := [gi v2]) (pc := 61) (c_X1_second 14 v2 isRw_14 σ) rfl mm_X1_second ww_631 clsX1 rfl (rw_lt0 isRw_14) (rw_sh isRw_14) (gs_fit_of (Nat.le_of_ble_eq_true rfl) (Nat.le_of_ble_eq_true rfl)) rfl rfl (Nat.le_of_ble_eq_true rfl) dX6_ends_61 (fun u4 => ?_)
      refine gk_callV_vw (As := [gi u3, gi u4]) (pc := 64) (c_X6_goAhead u3 u4 σ) rfl mm_X6_goAhead ww_662 clsX6 rfl cll_0 sh_0 (gs_fit_of (Nat.le_of_ble_eq_true rfl) (Nat.le_of_ble_eq_true rfl)) rfl rfl (Nat.le_of_ble_eq_true rfl) dX6_ends_64 (fun b5 => ?_)
      refine gk_iinc (L' := [(2, gi (v2 + 1)), (0, gr E 0), (1, gi v1)]) (pc := 67) 2 dX6_ends_67 rfl (Nat.le_of_ble_eq_true rfl) rfl ?_
      refine gk_goto (tgt := 27) (pc := 70) dX6_ends_70 (by decide) ?_
      refine gk_sub (L' := [(0, gr E 0), (1, gi v1), (2, gi (v2 + 1))]) [1, 2, 0] rfl ?_
      exact ih (v2 + 1) b5.2
def f_X6_ends (v1 : Int) (σ : gs_Mem) : Option (Int × gs_Mem) :=
  if (gn v1) < 0 then
    some ((-1), σ)
  else
    if (gn v1) ≤ 1 then
      (f_X0_copyFrom 39 2 σ).bind fun b1 =>
      f_X6_ends_L27 v1 (fun σ6 =>
        if (gn v1) = 0 then
          (f_X0_span 39 σ6).bind fun u8 =>
          some (u8, σ6)
        else
          (f_X0_clashes 39 σ6).bind fun u7 =>
          some (u7, σ6)) gs_fuel 0 b1.2
    else
      some ((-1), σ)
set_option maxRecDepth 100000 in
set_option maxHeartbeats 4000000 in
theorem c_X6_ends {E : gs_E} (v1 : Int)  (σ : gs_Mem) : gs_C E yX6_ends cX6_ends 3 (some .int) 0 { frames := 5, cells := 0, slots := 0, locals := 112 } [gr E 0, gi v1] σ (f_X6_ends v1 σ) (fun b : Int × gs_Mem => b) := by
  unfold f_X6_ends
  refine gs_enter (L := [(0, gr E 0), (1, gi v1)]) (by decide) rfl rfl (Nat.le_of_ble_eq_true rfl) rfl ?_
  refine gk_iload_n (pc := 0) 1 dX6_ends_0 rfl ?_
  refine gk_if_lt (tgt := 9) (pc := 1) dX6_ends_1 (by decide) rfl ?_ ?_
  · refine gk_iconst (pc := 9) dX6_ends_9 ?_
    exact gk_iret (pc := 10) rfl dX6_ends_10
  · refine gk_iload_n (pc := 4) 1 dX6_ends_4 rfl ?_
    refine gk_iconst (pc := 5) dX6_ends_5 ?_
    refine gk_icmp_le (tgt := 11) (pc := 6) dX6_ends_6 (by decide) rfl (by decide +kernel) ?_ ?_
    · refine gk_aload_n (pc := 11) 0 dX6_ends_11 rfl ?_
      refine gk_getR (q := 39) (pc := 12) rfl clsX6 cll_0 sh_0 3 (by decide) rfl ww_231 dX6_ends_12 ?_
      refine gk_aload_n (pc := 15) 0 dX6_ends_15 rfl ?_
      refine gk_getR (q := 1) (pc := 16) rfl clsX6 cll_0 sh_0 0 (by decide) rfl ww_228 dX6_ends_16 ?_
      refine gk_getRN (q := 2) (pc := 19) rfl clsX2 (st_lt0 isSt_1) (st_sh isSt_1) 0 (by decide) rfl ww_143 dX6_ends_19 ?_
      refine gk_callV_vw (As := [gr E 2]) (pc := 22) (c_X0_copyFrom 39 2 isPl_39 isPl_2 σ) rfl mm_X0_copyFrom ww_609 clsX0 rfl (pl_lt0 isPl_39) (pl_sh isPl_39) (gs_fit_of (Nat.le_of_ble_eq_true rfl) (Nat.le_of_ble_eq_true rfl)) rfl rfl (Nat.le_of_ble_eq_true rfl) dX6_ends_22 (fun b1 => ?_)
      refine gk_iconst (pc := 25) dX6_ends_25 ?_
      refine gk_istore_n (L' := [(2, gi 0), (0, gr E 0), (1, gi v1)]) (pc := 26) dX6_ends_26 (Nat.le_of_ble_eq_true rfl) rfl ?_
      refine gk_sub (L' := [(0, gr E 0), (1, gi v1), (2, gi 0)]) [1, 2, 0] rfl ?_
      refine k_X6_ends_L27 v1 _ ?_ gs_fuel 0 b1.2
      · intro σ6
        refine gk_iload_n (pc := 73) 1 dX6_ends_73 rfl ?_
        refine gk_if_ne (tgt := 87) (pc := 74) dX6_ends_74 (by decide) rfl ?_ ?_
        · refine gk_aload_n (pc := 87) 0 dX6_ends_87 rfl ?_
          refine gk_getR (q := 39) (pc := 88) rfl clsX6 cll_0 sh_0 3 (by decide) rfl ww_231 dX6_ends_88 ?_
          refine gk_callV_ir (As := []) (pc := 91) (c_X0_clashes 39 isPl_39 σ6) rfl mm_X0_clashes ww_509 clsX0 rfl (pl_lt0 isPl_39) (pl_sh isPl_39) (gs_fit_of (Nat.le_of_ble_eq_true rfl) (Nat.le_of_ble_eq_true rfl)) rfl rfl (Nat.le_of_ble_eq_true rfl) dX6_ends_91 (fun u7 => ?_)
          exact gk_iret (pc := 94) rfl dX6_ends_94
        · refine gk_aload_n (pc := 77) 0 dX6_ends_77 rfl ?_
          refine gk_getR (q := 39) (pc := 78) rfl clsX6 cll_0 sh_0 3 (by decide) rfl ww_231 dX6_ends_78 ?_
          refine gk_callV_ir (As := []) (pc := 81) (c_X0_span 39 isPl_39 σ6) rfl mm_X0_span ww_501 clsX0 rfl (pl_lt0 isPl_39) (pl_sh isPl_39) (gs_fit_of (Nat.le_of_ble_eq_true rfl) (Nat.le_of_ble_eq_true rfl)) rfl rfl (Nat.le_of_ble_eq_true rfl) dX6_ends_81 (fun u8 => ?_)
          refine gk_goto (tgt := 94) (pc := 84) dX6_ends_84 (by decide) ?_
          exact gk_iret (pc := 94) rfl dX6_ends_94
    · refine gk_iconst (pc := 9) dX6_ends_9 ?_
      exact gk_iret (pc := 10) rfl dX6_ends_10
def f_X6_book_J47 (v1 : Int) (v2 : Int) (σ : gs_Mem) : Option (Int × gs_Mem) :=
  (f_X1_append 17 v1 v2 σ).bind fun b2 =>
  some (b2.1, b2.2)
set_option maxRecDepth 100000 in
set_option maxHeartbeats 4000000 in
theorem k_X6_book_J47 {E : gs_E}  (v1 : Int) (v2 : Int)   (σ : gs_Mem) : gs_K E (gs_MC E yX6_book cX6_book 3 (some .int) 0 { frames := 1, cells := 0, slots := 0, locals := 22 }) (fun b : Int × gs_Mem => b) (f_X6_book_J47 v1 v2 σ) 47 [(0, gr E 0), (1, gi v1), (2, gi v2)] [] σ := by
  unfold f_X6_book_J47
  refine gk_aload_n (pc := 47) 0 dX6_book_47 rfl ?_
  refine gk_getR (q := 1) (pc := 48) rfl clsX6 cll_0 sh_0 0 (by decide) rfl ww_228 dX6_book_48 ?_
  refine gk_getRN (q := 17) (pc := 51) rfl clsX2 (st_lt0 isSt_1) (st_sh isSt_1) 3 (by decide) rfl ww_149 dX6_book_51 ?_
  refine gk_iload_n (pc := 54) 1 dX6_book_54 rfl ?_
  refine gk_iload_n (pc := 55) 2 dX6_book_55 rfl ?_
  refine gk_callV_iw (As := [gi v1, gi v2]) (pc := 56) (c_X1_append 17 v1 v2 isRw_17 σ) rfl mm_X1_append ww_601 clsX1 rfl (rw_lt0 isRw_17) (rw_sh isRw_17) (gs_fit_of (Nat.le_of_ble_eq_true rfl) (Nat.le_of_ble_eq_true rfl)) rfl rfl (Nat.le_of_ble_eq_true rfl) dX6_book_56 (fun b2 => ?_)
  exact gk_iret (pc := 59) rfl dX6_book_59
def f_X6_book (v1 : Int) (v2 : Int) (σ : gs_Mem) : Option (Int × gs_Mem) :=
  if (gn v1) = (-1) then
    (f_X1_clear 17 σ).bind fun b4 =>
    some (b4.1, b4.2)
  else
    (f_X0_has 2 v1 σ).bind fun u1 =>
    if (gn u1) = 0 then
      some ((-1), σ)
    else
      if (gn v2) = (-1) then
        f_X6_book_J47 v1 v2 σ
      else
        (f_X6_isChannel v2 σ).bind fun u3 =>
        if (gn u3) = 0 then
          some ((-2), σ)
        else
          f_X6_book_J47 v1 v2 σ
set_option maxRecDepth 100000 in
set_option maxHeartbeats 4000000 in
theorem c_X6_book {E : gs_E} (v1 : Int) (v2 : Int)  (σ : gs_Mem) : gs_C E yX6_book cX6_book 3 (some .int) 0 { frames := 1, cells := 0, slots := 0, locals := 22 } [gr E 0, gi v1, gi v2] σ (f_X6_book v1 v2 σ) (fun b : Int × gs_Mem => b) := by
  unfold f_X6_book
  refine gs_enter (L := [(0, gr E 0), (1, gi v1), (2, gi v2)]) (by decide) rfl rfl (Nat.le_of_ble_eq_true rfl) rfl ?_
  refine gk_iload_n (pc := 0) 1 dX6_book_0 rfl ?_
  refine gk_iconst (pc := 1) dX6_book_1 ?_
  refine gk_icmp_ne (tgt := 16) (pc := 2) dX6_book_2 (by decide) rfl (by decide +kernel) ?_ ?_
  · refine gk_aload_n (pc := 16) 0 dX6_book_16 rfl ?_
    refine gk_getR (q := 1) (pc := 17) rfl clsX6 cll_0 sh_0 0 (by decide) rfl ww_228 dX6_book_17 ?_
    refine gk_getRN (q := 2) (pc := 20) rfl clsX2 (st_lt0 isSt_1) (st_sh isSt_1) 0 (by decide) rfl ww_143 dX6_book_20 ?_
    refine gk_iload_n (pc := 23) 1 dX6_book_23 rfl ?_
    refine gk_callV_ir (As := [gi v1]) (pc := 24) (c_X0_has 2 v1 isPl_2 σ) rfl mm_X0_has ww_295 clsX0 rfl (pl_lt0 isPl_2) (pl_sh isPl_2) (gs_fit_of (Nat.le_of_ble_eq_true rfl) (Nat.le_of_ble_eq_true rfl)) rfl rfl (Nat.le_of_ble_eq_true rfl) dX6_book_24 (fun u1 => ?_)
    refine gk_if_ne (tgt := 32) (pc := 27) dX6_book_27 (by decide) rfl ?_ ?_
    · refine gk_iload_n (pc := 32) 2 dX6_book_32 rfl ?_
      refine gk_iconst (pc := 33) dX6_book_33 ?_
      refine gk_icmp_eq (tgt := 47) (pc := 34) dX6_book_34 (by decide) rfl (by decide +kernel) ?_ ?_
      · exact k_X6_book_J47 v1 v2 σ
      · refine gk_iload_n (pc := 37) 2 dX6_book_37 rfl ?_
        refine gk_callS_ir (As := [gi v2]) (pc := 38) (c_X6_isChannel v2 σ) rfl mm_X6_isChannel ww_299 (gs_fit_of (Nat.le_of_ble_eq_true rfl) (Nat.le_of_ble_eq_true rfl)) rfl rfl (Nat.le_of_ble_eq_true rfl) dX6_book_38 (fun u3 => ?_)
        refine gk_if_ne (tgt := 47) (pc := 41) dX6_book_41 (by decide) rfl ?_ ?_
        · exact k_X6_book_J47 v1 v2 σ
        · refine gk_bipush (pc := 44) dX6_book_44 (by decide +kernel) ?_
          exact gk_iret (pc := 46) rfl dX6_book_46
    · refine gk_iconst (pc := 30) dX6_book_30 ?_
      exact gk_iret (pc := 31) rfl dX6_book_31
  · refine gk_aload_n (pc := 5) 0 dX6_book_5 rfl ?_
    refine gk_getR (q := 1) (pc := 6) rfl clsX6 cll_0 sh_0 0 (by decide) rfl ww_228 dX6_book_6 ?_
    refine gk_getRN (q := 17) (pc := 9) rfl clsX2 (st_lt0 isSt_1) (st_sh isSt_1) 3 (by decide) rfl ww_149 dX6_book_9 ?_
    refine gk_callV_iw (As := []) (pc := 12) (c_X1_clear 17 isRw_17 σ) rfl mm_X1_clear ww_597 clsX1 rfl (rw_lt0 isRw_17) (rw_sh isRw_17) (gs_fit_of (Nat.le_of_ble_eq_true rfl) (Nat.le_of_ble_eq_true rfl)) rfl rfl (Nat.le_of_ble_eq_true rfl) dX6_book_12 (fun b4 => ?_)
    exact gk_iret (pc := 15) rfl dX6_book_15
def f_X6_looked  (σ : gs_Mem) : Option (Int) :=
  (f_X6_firstOtherwise 17 2 σ).bind fun u1 =>
  some u1
set_option maxRecDepth 100000 in
set_option maxHeartbeats 4000000 in
theorem c_X6_looked {E : gs_E}   (σ : gs_Mem) : gs_C E yX6_looked cX6_looked 1 (some .int) 0 { frames := 3, cells := 0, slots := 0, locals := 64 } [gr E 0] σ (f_X6_looked  σ) (fun v : Int => (v, σ)) := by
  unfold f_X6_looked
  refine gs_enter (L := [(0, gr E 0)]) (by decide) rfl rfl (Nat.le_of_ble_eq_true rfl) rfl ?_
  refine gk_aload_n (pc := 0) 0 dX6_looked_0 rfl ?_
  refine gk_getR (q := 1) (pc := 1) rfl clsX6 cll_0 sh_0 0 (by decide) rfl ww_228 dX6_looked_1 ?_
  refine gk_getRN (q := 17) (pc := 4) rfl clsX2 (st_lt0 isSt_1) (st_sh isSt_1) 3 (by decide) rfl ww_149 dX6_looked_4 ?_
  refine gk_aload_n (pc := 7) 0 dX6_looked_7 rfl ?_
  refine gk_getR (q := 1) (pc := 8) rfl clsX6 cll_0 sh_0 0 (by decide) rfl ww_228 dX6_looked_8 ?_
  refine gk_getRN (q := 2) (pc := 11) rfl clsX2 (st_lt0 isSt_1) (st_sh isSt_1) 0 (by decide) rfl ww_143 dX6_looked_11 ?_
  refine gk_callS_ir (As := [gr E 17, gr E 2]) (pc := 14) (c_X6_firstOtherwise 17 2 isRw_17 isPl_2 σ) rfl mm_X6_firstOtherwise ww_620 (gs_fit_of (Nat.le_of_ble_eq_true rfl) (Nat.le_of_ble_eq_true rfl)) rfl rfl (Nat.le_of_ble_eq_true rfl) dX6_looked_14 (fun u1 => ?_)
  exact gk_iret (pc := 17) rfl dX6_looked_17
def f_X6_judge_L36 (σ : gs_Mem) (v2 : Int) (v3 : Nat) (k62 : Int → Option (Int)) : Nat → Int → Option (Int)
  | 0, _ => none
  | n + 1, v4 =>
    (f_X0_size 2 σ).bind fun u4 =>
    if (gn u4) ≤ (gn v4) then
      some (-5)
    else
      (f_X3_holds v3 (v2 + v4) σ).bind fun u5 =>
      if (gn u5) = 0 then
        k62 v4
      else
        (f_X3_get v3 (v2 + v4) σ).bind fun u6 =>
        (f_X0_channelOf 2 v4 σ).bind fun u7 =>
        if (gn (gcmp u6 (gn u7))) = 0 then
          f_X6_judge_L36 σ v2 v3 k62 n (v4 + 1)
        else
          some v4
set_option maxRecDepth 100000 in
set_option maxHeartbeats 4000000 in
theorem k_X6_judge_L36 {E : gs_E} (σ : gs_Mem) (v2 : Int) (v3 : Nat) (k62 : Int → Option (Int)) (hv3 : isTp v3) (hk62 : ∀ (w4 : Int), gs_K E (gs_MC E yX6_judge cX6_judge 5 (some .int) 0 { frames := 2, cells := 0, slots := 0, locals := 42 }) (fun v : Int => (v, σ)) (k62 w4) 62 [(4, gi w4)] [] σ) : ∀ (n : Nat) (v4 : Int), gs_K E (gs_MC E yX6_judge cX6_judge 5 (some .int) 0 { frames := 2, cells := 0, slots := 0, locals := 42 }) (fun v : Int => (v, σ)) (f_X6_judge_L36 σ v2 v3 k62 n v4) 36 [(0, gr E 0), (2, gi v2), (3, gr E v3), (4, gi v4)] [] σ := by
  intro n
  induction n with
  | zero => intro v4; rw [f_X6_judge_L36]; exact gk_none
  | succ n ih =>
    intro v4; rw [f_X6_judge_L36]
    refine gk_iload (pc := 36) 3 dX6_judge_36 rfl ?_
    refine gk_aload_n (pc := 38) 0 dX6_judge_38 rfl ?_
    refine gk_getR (q := 1) (pc := 39) rfl clsX6 cll_0 sh_0 0 (by decide) rfl ww_228 dX6_judge_39 ?_
    refine gk_getRN (q := 2) (pc := 42) rfl clsX2 (st_lt0 isSt_1) (st_sh isSt_1) 0 (by decide) rfl ww_143 dX6_judge_42 ?_
    refine gk_callV_ir (As := []) (pc := 45) (c_X0_size 2 isPl_2 σ) rfl mm_X0_size ww_497 clsX0 rfl (pl_lt0 isPl_2) (pl_sh isPl_2) (gs_fit_of (Nat.le_of_ble_eq_true rfl) (Nat.le_of_ble_eq_true rfl)) rfl rfl (Nat.le_of_ble_eq_true rfl) dX6_judge_45 (fun u4 => ?_)
    refine gk_icmp_ge (tgt := 102) (pc := 48) dX6_judge_48 (by decide) rfl rfl ?_ ?_
    · refine gk_bipush (pc := 102) dX6_judge_102 (by decide +kernel) ?_
      exact gk_iret (pc := 104) rfl dX6_judge_104
    · refine gk_aload_n (pc := 51) 2 dX6_judge_51 rfl ?_
      refine gk_iload_n (pc := 52) 1 dX6_judge_52 rfl ?_
      refine gk_iload (pc := 53) 3 dX6_judge_53 rfl ?_
      refine gk_iadd (pc := 55) dX6_judge_55 ?_
      refine gk_callV_ir (As := [gi (v2 + v4)]) (pc := 56) (c_X3_holds v3 (v2 + v4) hv3 σ) rfl mm_X3_holds ww_689 clsX3 rfl (tp_lt0 hv3) (tp_sh hv3) (gs_fit_of (Nat.le_of_ble_eq_true rfl) (Nat.le_of_ble_eq_true rfl)) rfl rfl (Nat.le_of_ble_eq_true rfl) dX6_judge_56 (fun u5 => ?_)
      refine gk_if_ne (tgt := 68) (pc := 59) dX6_judge_59 (by decide) rfl ?_ ?_
      · refine gk_aload_n (pc := 68) 2 dX6_judge_68 rfl ?_
        refine gk_iload_n (pc := 69) 1 dX6_judge_69 rfl ?_
        refine gk_iload (pc := 70) 3 dX6_judge_70 rfl ?_
        refine gk_iadd (pc := 72) dX6_judge_72 ?_
        refine gk_callV_lr (As := [gi (v2 + v4)]) (pc := 73) (c_X3_get v3 (v2 + v4) hv3 σ) rfl mm_X3_get ww_693 clsX3 rfl (tp_lt0 hv3) (tp_sh hv3) (gs_fit_of (Nat.le_of_ble_eq_true rfl) (Nat.le_of_ble_eq_true rfl)) rfl rfl (Nat.le_of_ble_eq_true rfl) dX6_judge_73 (fun u6 => ?_)
        refine gk_aload_n (pc := 76) 0 dX6_judge_76 rfl ?_
        refine gk_getR (q := 1) (pc := 77) rfl clsX6 cll_0 sh_0 0 (by decide) rfl ww_228 dX6_judge_77 ?_
        refine gk_getRN (q := 2) (pc := 80) rfl clsX2 (st_lt0 isSt_1) (st_sh isSt_1) 0 (by decide) rfl ww_143 dX6_judge_80 ?_
        refine gk_iload (pc := 83) 3 dX6_judge_83 rfl ?_
        refine gk_callV_ir (As := [gi v4]) (pc := 85) (c_X0_channelOf 2 v4 isPl_2 σ) rfl mm_X0_channelOf ww_323 clsX0 rfl (pl_lt0 isPl_2) (pl_sh isPl_2) (gs_fit_of (Nat.le_of_ble_eq_true rfl) (Nat.le_of_ble_eq_true rfl)) rfl rfl (Nat.le_of_ble_eq_true rfl) dX6_judge_85 (fun u7 => ?_)
        refine gk_i2l (pc := 88) dX6_judge_88 ?_
        refine gk_lcmp (pc := 89) dX6_judge_89 ?_
        refine gk_if_eq (tgt := 96) (pc := 90) dX6_judge_90 (by decide) rfl ?_ ?_
        · refine gk_iinc (L' := [(4, gi (v4 + 1)), (0, gr E 0), (2, gi v2), (3, gr E v3)]) (pc := 96) 3 dX6_judge_96 rfl (Nat.le_of_ble_eq_true rfl) rfl ?_
          refine gk_goto (tgt := 36) (pc := 99) dX6_judge_99 (by decide) ?_
          refine gk_sub (L' := [(0, gr E 0), (2, gi v2), (3, gr E v3), (4, gi (v4 + 1))]) [1, 2, 3, 0] rfl ?_
          exact ih (v4 + 1)
        · refine gk_iload (pc := 93) 3 dX6_judge_93 rfl ?_
          exact gk_iret (pc := 95) rfl dX6_judge_95
      · refine gk_sub (L' := [(4, gi v4)]) [3] rfl ?_
        exact hk62 v4
def f_X6_judge_J33 (σ : gs_Mem) (v2 : Int) (v3 : Nat) : Option (Int) :=
  f_X6_judge_L36 σ v2 v3 (fun w4 =>
    some (100 + w4)) gs_fuel 0
set_option maxRecDepth 100000 in
set_option maxHeartbeats 4000000 in
theorem k_X6_judge_J33 {E : gs_E} (σ : gs_Mem)  (v2 : Int) (v3 : Nat) (hv3 : isTp v3)  : gs_K E (gs_MC E yX6_judge cX6_judge 5 (some .int) 0 { frames := 2, cells := 0, slots := 0, locals := 42 }) (fun v : Int => (v, σ)) (f_X6_judge_J33 σ v2 v3) 33 [(0, gr E 0), (2, gi v2), (3, gr E v3)] [] σ := by
  unfold f_X6_judge_J33
  refine gk_iconst (pc := 33) dX6_judge_33 ?_
  refine gk_istore (L' := [(4, gi 0), (0, gr E 0), (2, gi v2), (3, gr E v3)]) (pc := 34) dX6_judge_34 (Nat.le_of_ble_eq_true rfl) rfl ?_
  refine gk_sub (L' := [(0, gr E 0), (2, gi v2), (3, gr E v3), (4, gi 0)]) [1, 2, 3, 0] rfl ?_
  refine k_X6_judge_L36 σ v2 v3 _ hv3 ?_ gs_fuel 0
  · intro w4
    refine gk_bipush (pc := 62) dX6_judge_62 (by decide +kernel) ?_
    refine gk_iload (pc := 64) 0 dX6_judge_64 rfl ?_
    refine gk_iadd (pc := 66) dX6_judge_66 ?_
    exact gk_iret (pc := 67) rfl dX6_judge_67
def f_X6_judge (v1 : Int) (v2 : Int) (σ : gs_Mem) : Option (Int) :=
  (f_X6_isTape v1 σ).bind fun u1 =>
  if (gn u1) = 0 then
    some (-1)
  else
    gs_chk (gn v1) 6 (
    (f_X3_isBlank (58 + 2 * (gn v1).toNat) σ).bind fun u3 =>
    if (gn u3) = 0 then
      (f_X3_sort (58 + 2 * (gn v1).toNat) σ).bind fun u8 =>
      if (gn u8) = 0 then
        f_X6_judge_J33 σ v2 (58 + 2 * (gn v1).toNat)
      else
        some (-12)
    else
      f_X6_judge_J33 σ v2 (58 + 2 * (gn v1).toNat))
set_option maxRecDepth 100000 in
set_option maxHeartbeats 4000000 in
theorem c_X6_judge {E : gs_E} (v1 : Int) (v2 : Int)  (σ : gs_Mem) : gs_C E yX6_judge cX6_judge 5 (some .int) 0 { frames := 2, cells := 0, slots := 0, locals := 42 } [gr E 0, gi v1, gi v2] σ (f_X6_judge v1 v2 σ) (fun v : Int => (v, σ)) := by
  unfold f_X6_judge
  refine gs_enter (L := [(0, gr E 0), (1, gi v1), (2, gi v2)]) (by decide) rfl rfl (Nat.le_of_ble_eq_true rfl) rfl ?_
  refine gk_iload_n (pc := 0) 1 dX6_judge_0 rfl ?_
  refine gk_callS_ir (As := [gi v1]) (pc := 1) (c_X6_isTape v1 σ) rfl mm_X6_isTape ww_678 (gs_fit_of (Nat.le_of_ble_eq_true rfl) (Nat.le_of_ble_eq_true rfl)) rfl rfl (Nat.le_of_ble_eq_true rfl) dX6_judge_1 (fun u1 => ?_)
  refine gk_if_ne (tgt := 9) (pc := 4) dX6_judge_4 (by decide) rfl ?_ ?_
  · refine gk_aload_n (pc := 9) 0 dX6_judge_9 rfl ?_
    refine gk_getR (q := 57) (pc := 10) rfl clsX6 cll_0 sh_0 6 (by decide) rfl ww_234 dX6_judge_10 ?_
    refine gk_iload_n (pc := 13) 1 dX6_judge_13 rfl ?_
    refine gk_aald_c (pc := 14) cll_57 sh_57 rfl dX6_judge_14 (fun hq2 => ?_)
    refine gk_astore_n (L' := [(3, gr E (58 + 2 * (gn v1).toNat)), (0, gr E 0), (1, gi v1), (2, gi v2)]) (pc := 15) dX6_judge_15 (Nat.le_of_ble_eq_true rfl) rfl ?_
    refine gk_aload_n (pc := 16) 0 dX6_judge_16 rfl ?_
    refine gk_callV_ir (As := []) (pc := 17) (c_X3_isBlank (58 + 2 * (gn v1).toNat) (tp_of hq2) σ) rfl mm_X3_isBlank ww_681 clsX3 rfl (tp_lt0 (tp_of hq2)) (tp_sh (tp_of hq2)) (gs_fit_of (Nat.le_of_ble_eq_true rfl) (Nat.le_of_ble_eq_true rfl)) rfl rfl (Nat.le_of_ble_eq_true rfl) dX6_judge_17 (fun u3 => ?_)
    refine gk_if_ne (tgt := 33) (pc := 20) dX6_judge_20 (by decide) rfl ?_ ?_
    · refine gk_sub (L' := [(0, gr E 0), (2, gi v2), (3, gr E (58 + 2 * (gn v1).toNat))]) [1, 3, 0] rfl ?_
      exact k_X6_judge_J33 σ v2 (58 + 2 * (gn v1).toNat) (tp_of hq2)
    · refine gk_aload_n (pc := 23) 0 dX6_judge_23 rfl ?_
      refine gk_callV_ir (As := []) (pc := 24) (c_X3_sort (58 + 2 * (gn v1).toNat) (tp_of hq2) σ) rfl mm_X3_sort ww_685 clsX3 rfl (tp_lt0 (tp_of hq2)) (tp_sh (tp_of hq2)) (gs_fit_of (Nat.le_of_ble_eq_true rfl) (Nat.le_of_ble_eq_true rfl)) rfl rfl (Nat.le_of_ble_eq_true rfl) dX6_judge_24 (fun u8 => ?_)
      refine gk_if_eq (tgt := 33) (pc := 27) dX6_judge_27 (by decide) rfl ?_ ?_
      · refine gk_sub (L' := [(0, gr E 0), (2, gi v2), (3, gr E (58 + 2 * (gn v1).toNat))]) [1, 3, 0] rfl ?_
        exact k_X6_judge_J33 σ v2 (58 + 2 * (gn v1).toNat) (tp_of hq2)
      · refine gk_bipush (pc := 30) dX6_judge_30 (by decide +kernel) ?_
        exact gk_iret (pc := 32) rfl dX6_judge_32
  · refine gk_iconst (pc := 7) dX6_judge_7 ?_
    exact gk_iret (pc := 8) rfl dX6_judge_8
def f_X6_image  (σ : gs_Mem) : Option (Int × gs_Mem) :=
  (f_X2_copyFrom 20 1 σ).bind fun b1 =>
  (f_X0_size 21 (gs_st b1.2 0 2 1)).bind fun u2 =>
  some (u2, (gs_st b1.2 0 2 1))
set_option maxRecDepth 100000 in
set_option maxHeartbeats 4000000 in
theorem c_X6_image {E : gs_E}   (σ : gs_Mem) : gs_C E yX6_image cX6_image 1 (some .int) 0 { frames := 3, cells := 0, slots := 0, locals := 122 } [gr E 0] σ (f_X6_image  σ) (fun b : Int × gs_Mem => b) := by
  unfold f_X6_image
  refine gs_enter (L := [(0, gr E 0)]) (by decide) rfl rfl (Nat.le_of_ble_eq_true rfl) rfl ?_
  refine gk_aload_n (pc := 0) 0 dX6_image_0 rfl ?_
  refine gk_getR (q := 20) (pc := 1) rfl clsX6 cll_0 sh_0 1 (by decide) rfl ww_229 dX6_image_1 ?_
  refine gk_aload_n (pc := 4) 0 dX6_image_4 rfl ?_
  refine gk_getR (q := 1) (pc := 5) rfl clsX6 cll_0 sh_0 0 (by decide) rfl ww_228 dX6_image_5 ?_
  refine gk_callV_vw (As := [gr E 1]) (pc := 8) (c_X2_copyFrom 20 1 isSt_20 isSt_1 σ) rfl mm_X2_copyFrom ww_703 clsX2 rfl (st_lt0 isSt_20) (st_sh isSt_20) (gs_fit_of (Nat.le_of_ble_eq_true rfl) (Nat.le_of_ble_eq_true rfl)) rfl rfl (Nat.le_of_ble_eq_true rfl) dX6_image_8 (fun b1 => ?_)
  refine gk_aload_n (pc := 11) 0 dX6_image_11 rfl ?_
  refine gk_iconst (pc := 12) dX6_image_12 ?_
  refine gk_putF (pc := 13) rfl clsX6 cll_0 sh_0 2 (by decide) rfl rfl (nar_z (Or.inr (by decide +kernel))) rfl ww_230 dX6_image_13 ?_
  refine gk_aload_n (pc := 16) 0 dX6_image_16 rfl ?_
  refine gk_getR (q := 20) (pc := 17) rfl clsX6 cll_0 sh_0 1 (by decide) rfl ww_229 dX6_image_17 ?_
  refine gk_getRN (q := 21) (pc := 20) rfl clsX2 (st_lt0 isSt_20) (st_sh isSt_20) 0 (by decide) rfl ww_143 dX6_image_20 ?_
  refine gk_callV_ir (As := []) (pc := 23) (c_X0_size 21 isPl_21 (gs_st b1.2 0 2 1)) rfl mm_X0_size ww_497 clsX0 rfl (pl_lt0 isPl_21) (pl_sh isPl_21) (gs_fit_of (Nat.le_of_ble_eq_true rfl) (Nat.le_of_ble_eq_true rfl)) rfl rfl (Nat.le_of_ble_eq_true rfl) dX6_image_23 (fun u2 => ?_)
  exact gk_iret (pc := 26) rfl dX6_image_26
def f_X6_undo  (σ : gs_Mem) : Option (Int × gs_Mem) :=
  if (gn (σ 0 2)) = 0 then
    some ((-3), σ)
  else
    (f_X2_copyFrom 1 20 σ).bind fun b1 =>
    (f_X0_size 2 b1.2).bind fun u2 =>
    some (u2, b1.2)
set_option maxRecDepth 100000 in
set_option maxHeartbeats 4000000 in
theorem c_X6_undo {E : gs_E}   (σ : gs_Mem) : gs_C E yX6_undo cX6_undo 1 (some .int) 0 { frames := 3, cells := 0, slots := 0, locals := 122 } [gr E 0] σ (f_X6_undo  σ) (fun b : Int × gs_Mem => b) := by
  unfold f_X6_undo
  refine gs_enter (L := [(0, gr E 0)]) (by decide) rfl rfl (Nat.le_of_ble_eq_true rfl) rfl ?_
  refine gk_aload_n (pc := 0) 0 dX6_undo_0 rfl ?_
  refine gk_getI (pc := 1) rfl clsX6 cll_0 sh_0 2 (by decide) rfl ww_230 dX6_undo_1 ?_
  refine gk_if_ne (tgt := 10) (pc := 4) dX6_undo_4 (by decide) rfl ?_ ?_
  · refine gk_aload_n (pc := 10) 0 dX6_undo_10 rfl ?_
    refine gk_getR (q := 1) (pc := 11) rfl clsX6 cll_0 sh_0 0 (by decide) rfl ww_228 dX6_undo_11 ?_
    refine gk_aload_n (pc := 14) 0 dX6_undo_14 rfl ?_
    refine gk_getR (q := 20) (pc := 15) rfl clsX6 cll_0 sh_0 1 (by decide) rfl ww_229 dX6_undo_15 ?_
    refine gk_callV_vw (As := [gr E 20]) (pc := 18) (c_X2_copyFrom 1 20 isSt_1 isSt_20 σ) rfl mm_X2_copyFrom ww_703 clsX2 rfl (st_lt0 isSt_1) (st_sh isSt_1) (gs_fit_of (Nat.le_of_ble_eq_true rfl) (Nat.le_of_ble_eq_true rfl)) rfl rfl (Nat.le_of_ble_eq_true rfl) dX6_undo_18 (fun b1 => ?_)
    refine gk_aload_n (pc := 21) 0 dX6_undo_21 rfl ?_
    refine gk_getR (q := 1) (pc := 22) rfl clsX6 cll_0 sh_0 0 (by decide) rfl ww_228 dX6_undo_22 ?_
    refine gk_getRN (q := 2) (pc := 25) rfl clsX2 (st_lt0 isSt_1) (st_sh isSt_1) 0 (by decide) rfl ww_143 dX6_undo_25 ?_
    refine gk_callV_ir (As := []) (pc := 28) (c_X0_size 2 isPl_2 b1.2) rfl mm_X0_size ww_497 clsX0 rfl (pl_lt0 isPl_2) (pl_sh isPl_2) (gs_fit_of (Nat.le_of_ble_eq_true rfl) (Nat.le_of_ble_eq_true rfl)) rfl rfl (Nat.le_of_ble_eq_true rfl) dX6_undo_28 (fun u2 => ?_)
    exact gk_iret (pc := 31) rfl dX6_undo_31
  · refine gk_bipush (pc := 7) dX6_undo_7 (by decide +kernel) ?_
    exact gk_iret (pc := 9) rfl dX6_undo_9
def f_X6_count (v1 : Int) (σ : gs_Mem) : Option (Int) :=
  if (gn v1) = 0 then
    (f_X0_size 2 σ).bind fun u1 =>
    some u1
  else if (gn v1) = 1 then
    (f_X0_rulesInForce 2 σ).bind fun u2 =>
    some u2
  else if (gn v1) = 2 then
    (f_X1_size 11 σ).bind fun u3 =>
    some u3
  else if (gn v1) = 3 then
    (f_X1_size 14 σ).bind fun u4 =>
    some u4
  else if (gn v1) = 4 then
    (f_X1_size 17 σ).bind fun u5 =>
    some u5
  else if (gn v1) = 5 then
    (f_X4_length σ).bind fun u6 =>
    some u6
  else 
    some (-2)
set_option maxRecDepth 100000 in
set_option maxHeartbeats 4000000 in
theorem c_X6_count {E : gs_E} (v1 : Int)  (σ : gs_Mem) : gs_C E yX6_count cX6_count 2 (some .int) 0 { frames := 1, cells := 0, slots := 0, locals := 22 } [gr E 0, gi v1] σ (f_X6_count v1 σ) (fun v : Int => (v, σ)) := by
  unfold f_X6_count
  refine gs_enter (L := [(0, gr E 0), (1, gi v1)]) (by decide) rfl rfl (Nat.le_of_ble_eq_true rfl) rfl ?_
  refine gk_iload_n (pc := 0) 1 dX6_count_0 rfl ?_
  refine gk_sw (tgt := 40) (pc := 1) 0 dX6_count_1 (by decide) rfl (by decide) ?_ (fun hs0 => ?_)
  · refine gk_aload_n (pc := 40) 0 dX6_count_40 rfl ?_
    refine gk_getR (q := 1) (pc := 41) rfl clsX6 cll_0 sh_0 0 (by decide) rfl ww_228 dX6_count_41 ?_
    refine gk_getRN (q := 2) (pc := 44) rfl clsX2 (st_lt0 isSt_1) (st_sh isSt_1) 0 (by decide) rfl ww_143 dX6_count_44 ?_
    refine gk_callV_ir (As := []) (pc := 47) (c_X0_size 2 isPl_2 σ) rfl mm_X0_size ww_497 clsX0 rfl (pl_lt0 isPl_2) (pl_sh isPl_2) (gs_fit_of (Nat.le_of_ble_eq_true rfl) (Nat.le_of_ble_eq_true rfl)) rfl rfl (Nat.le_of_ble_eq_true rfl) dX6_count_47 (fun u1 => ?_)
    exact gk_iret (pc := 50) rfl dX6_count_50
  refine gk_sw (tgt := 51) (pc := 1) 1 dX6_count_1 (by decide) rfl (by decide) ?_ (fun hs1 => ?_)
  · refine gk_aload_n (pc := 51) 0 dX6_count_51 rfl ?_
    refine gk_getR (q := 1) (pc := 52) rfl clsX6 cll_0 sh_0 0 (by decide) rfl ww_228 dX6_count_52 ?_
    refine gk_getRN (q := 2) (pc := 55) rfl clsX2 (st_lt0 isSt_1) (st_sh isSt_1) 0 (by decide) rfl ww_143 dX6_count_55 ?_
    refine gk_callV_ir (As := []) (pc := 58) (c_X0_rulesInForce 2 isPl_2 σ) rfl mm_X0_rulesInForce ww_721 clsX0 rfl (pl_lt0 isPl_2) (pl_sh isPl_2) (gs_fit_of (Nat.le_of_ble_eq_true rfl) (Nat.le_of_ble_eq_true rfl)) rfl rfl (Nat.le_of_ble_eq_true rfl) dX6_count_58 (fun u2 => ?_)
    exact gk_iret (pc := 61) rfl dX6_count_61
  refine gk_sw (tgt := 62) (pc := 1) 2 dX6_count_1 (by decide) rfl (by decide) ?_ (fun hs2 => ?_)
  · refine gk_aload_n (pc := 62) 0 dX6_count_62 rfl ?_
    refine gk_getR (q := 1) (pc := 63) rfl clsX6 cll_0 sh_0 0 (by decide) rfl ww_228 dX6_count_63 ?_
    refine gk_getRN (q := 11) (pc := 66) rfl clsX2 (st_lt0 isSt_1) (st_sh isSt_1) 1 (by decide) rfl ww_145 dX6_count_66 ?_
    refine gk_callV_ir (As := []) (pc := 69) (c_X1_size 11 isRw_11 σ) rfl mm_X1_size ww_623 clsX1 rfl (rw_lt0 isRw_11) (rw_sh isRw_11) (gs_fit_of (Nat.le_of_ble_eq_true rfl) (Nat.le_of_ble_eq_true rfl)) rfl rfl (Nat.le_of_ble_eq_true rfl) dX6_count_69 (fun u3 => ?_)
    exact gk_iret (pc := 72) rfl dX6_count_72
  refine gk_sw (tgt := 73) (pc := 1) 3 dX6_count_1 (by decide) rfl (by decide) ?_ (fun hs3 => ?_)
  · refine gk_aload_n (pc := 73) 0 dX6_count_73 rfl ?_
    refine gk_getR (q := 1) (pc := 74) rfl clsX6 cll_0 sh_0 0 (by decide) rfl ww_228 dX6_count_74 ?_
    refine gk_getRN (q := 14) (pc := 77) rfl clsX2 (st_lt0 isSt_1) (st_sh isSt_1) 2 (by decide) rfl ww_147 dX6_count_77 ?_
    refine gk_callV_ir (As := []) (pc := 80) (c_X1_size 14 isRw_14 σ) rfl mm_X1_size ww_623 clsX1 rfl (rw_lt0 isRw_14) (rw_sh isRw_14) (gs_fit_of (Nat.le_of_ble_eq_true rfl) (Nat.le_of_ble_eq_true rfl)) rfl rfl (Nat.le_of_ble_eq_true rfl) dX6_count_80 (fun u4 => ?_)
    exact gk_iret (pc := 83) rfl dX6_count_83
  refine gk_sw (tgt := 84) (pc := 1) 4 dX6_count_1 (by decide) rfl (by decide) ?_ (fun hs4 => ?_)
  · refine gk_aload_n (pc := 84) 0 dX6_count_84 rfl ?_
    refine gk_getR (q := 1) (pc := 85) rfl clsX6 cll_0 sh_0 0 (by decide) rfl ww_228 dX6_count_85 ?_
    refine gk_getRN (q := 17) (pc := 88) rfl clsX2 (st_lt0 isSt_1) (st_sh isSt_1) 3 (by decide) rfl ww_149 dX6_count_88 ?_
    refine gk_callV_ir (As := []) (pc := 91) (c_X1_size 17 isRw_17 σ) rfl mm_X1_size ww_623 clsX1 rfl (rw_lt0 isRw_17) (rw_sh isRw_17) (gs_fit_of (Nat.le_of_ble_eq_true rfl) (Nat.le_of_ble_eq_true rfl)) rfl rfl (Nat.le_of_ble_eq_true rfl) dX6_count_91 (fun u5 => ?_)
    exact gk_iret (pc := 94) rfl dX6_count_94
  refine gk_sw (tgt := 95) (pc := 1) 5 dX6_count_1 (by decide) rfl (by decide) ?_ (fun hs5 => ?_)
  · refine gk_aload_n (pc := 95) 0 dX6_count_95 rfl ?_
    refine gk_getR (q := 51) (pc := 96) rfl clsX6 cll_0 sh_0 5 (by decide) rfl ww_233 dX6_count_96 ?_
    refine gk_callV_ir (As := []) (pc := 99) (c_X4_length σ) rfl mm_X4_length ww_725 clsX4 rfl cll_51 sh_51 (gs_fit_of (Nat.le_of_ble_eq_true rfl) (Nat.le_of_ble_eq_true rfl)) rfl rfl (Nat.le_of_ble_eq_true rfl) dX6_count_99 (fun u6 => ?_)
    exact gk_iret (pc := 102) rfl dX6_count_102
  refine gk_swD (tgt := 103) (pc := 1) dX6_count_1 (by omega) (by decide) ?_
  refine gk_bipush (pc := 103) dX6_count_103 (by decide +kernel) ?_
  exact gk_iret (pc := 105) rfl dX6_count_105
def f_X6_tape (v1 : Int) (v2 : Int) (v3 : Int) (σ : gs_Mem) : Option (Int × gs_Mem) :=
  (f_X6_isTape v1 σ).bind fun u1 =>
  if (gn u1) = 0 then
    some ((-1), σ)
  else
    if (gn v2) = (-1) then
      gs_chk (gn v1) 6 (
      (f_X3_become (58 + 2 * (gn v1).toNat) (-1) 0 σ).bind fun b5 =>
      some (1, b5.2))
    else
      if (gn v2) < 0 then
        some ((-2), σ)
      else
        if 4 < (gn v2) then
          some ((-2), σ)
        else
          if (gn v3) ≤ 60 then
            if 0 ≤ (gn v3) then
              gs_chk (gn v1) 6 (
              (f_X3_become (58 + 2 * (gn v1).toNat) v2 v3 σ).bind fun b3 =>
              some (1, b3.2))
            else
              some ((-14), σ)
          else
            some ((-2), σ)
set_option maxRecDepth 100000 in
set_option maxHeartbeats 4000000 in
theorem c_X6_tape {E : gs_E} (v1 : Int) (v2 : Int) (v3 : Int)  (σ : gs_Mem) : gs_C E yX6_tape cX6_tape 4 (some .int) 0 { frames := 2, cells := 0, slots := 0, locals := 44 } [gr E 0, gi v1, gi v2, gi v3] σ (f_X6_tape v1 v2 v3 σ) (fun b : Int × gs_Mem => b) := by
  unfold f_X6_tape
  refine gs_enter (L := [(0, gr E 0), (1, gi v1), (2, gi v2), (3, gi v3)]) (by decide) rfl rfl (Nat.le_of_ble_eq_true rfl) rfl ?_
  refine gk_iload_n (pc := 0) 1 dX6_tape_0 rfl ?_
  refine gk_callS_ir (As := [gi v1]) (pc := 1) (c_X6_isTape v1 σ) rfl mm_X6_isTape ww_678 (gs_fit_of (Nat.le_of_ble_eq_true rfl) (Nat.le_of_ble_eq_true rfl)) rfl rfl (Nat.le_of_ble_eq_true rfl) dX6_tape_1 (fun u1 => ?_)
  refine gk_if_ne (tgt := 9) (pc := 4) dX6_tape_4 (by decide) rfl ?_ ?_
  · refine gk_iload_n (pc := 9) 2 dX6_tape_9 rfl ?_
    refine gk_iconst (pc := 10) dX6_tape_10 ?_
    refine gk_icmp_ne (tgt := 27) (pc := 11) dX6_tape_11 (by decide) rfl (by decide +kernel) ?_ ?_
    · refine gk_iload_n (pc := 27) 2 dX6_tape_27 rfl ?_
      refine gk_if_lt (tgt := 42) (pc := 28) dX6_tape_28 (by decide) rfl ?_ ?_
      · refine gk_bipush (pc := 42) dX6_tape_42 (by decide +kernel) ?_
        exact gk_iret (pc := 44) rfl dX6_tape_44
      · refine gk_iload_n (pc := 31) 2 dX6_tape_31 rfl ?_
        refine gk_iconst (pc := 32) dX6_tape_32 ?_
        refine gk_icmp_gt (tgt := 42) (pc := 33) dX6_tape_33 (by decide) rfl (by decide +kernel) ?_ ?_
        · refine gk_bipush (pc := 42) dX6_tape_42 (by decide +kernel) ?_
          exact gk_iret (pc := 44) rfl dX6_tape_44
        · refine gk_iload_n (pc := 36) 3 dX6_tape_36 rfl ?_
          refine gk_bipush (pc := 37) dX6_tape_37 (by decide +kernel) ?_
          refine gk_icmp_le (tgt := 45) (pc := 39) dX6_tape_39 (by decide) rfl (by decide +kernel) ?_ ?_
          · refine gk_iload_n (pc := 45) 3 dX6_tape_45 rfl ?_
            refine gk_if_ge (tgt := 52) (pc := 46) dX6_tape_46 (by decide) rfl ?_ ?_
            · refine gk_aload_n (pc := 52) 0 dX6_tape_52 rfl ?_
              refine gk_getR (q := 57) (pc := 53) rfl clsX6 cll_0 sh_0 6 (by decide) rfl ww_234 dX6_tape_53 ?_
              refine gk_iload_n (pc := 56) 1 dX6_tape_56 rfl ?_
              refine gk_aald_c (pc := 57) cll_57 sh_57 rfl dX6_tape_57 (fun hq2 => ?_)
              refine gk_iload_n (pc := 58) 2 dX6_tape_58 rfl ?_
              refine gk_iload_n (pc := 59) 3 dX6_tape_59 rfl ?_
              refine gk_callV_vw (As := [gi v2, gi v3]) (pc := 60) (c_X3_become (58 + 2 * (gn v1).toNat) v2 v3 (tp_of hq2) σ) rfl mm_X3_become ww_733 clsX3 rfl (tp_lt0 (tp_of hq2)) (tp_sh (tp_of hq2)) (gs_fit_of (Nat.le_of_ble_eq_true rfl) (Nat.le_of_ble_eq_true rfl)) rfl rfl (Nat.le_of_ble_eq_true rfl) dX6_tape_60 (fun b3 => ?_)
              refine gk_iconst (pc := 63) dX6_tape_63 ?_
              exact gk_iret (pc := 64) rfl dX6_tape_64
            · refine gk_bipush (pc := 49) dX6_tape_49 (by decide +kernel) ?_
              exact gk_iret (pc := 51) rfl dX6_tape_51
          · refine gk_bipush (pc := 42) dX6_tape_42 (by decide +kernel) ?_
            exact gk_iret (pc := 44) rfl dX6_tape_44
    · refine gk_aload_n (pc := 14) 0 dX6_tape_14 rfl ?_
      refine gk_getR (q := 57) (pc := 15) rfl clsX6 cll_0 sh_0 6 (by decide) rfl ww_234 dX6_tape_15 ?_
      refine gk_iload_n (pc := 18) 1 dX6_tape_18 rfl ?_
      refine gk_aald_c (pc := 19) cll_57 sh_57 rfl dX6_tape_19 (fun hq4 => ?_)
      refine gk_iconst (pc := 20) dX6_tape_20 ?_
      refine gk_iconst (pc := 21) dX6_tape_21 ?_
      refine gk_callV_vw (As := [gi (-1), gi 0]) (pc := 22) (c_X3_become (58 + 2 * (gn v1).toNat) (-1) 0 (tp_of hq4) σ) rfl mm_X3_become ww_733 clsX3 rfl (tp_lt0 (tp_of hq4)) (tp_sh (tp_of hq4)) (gs_fit_of (Nat.le_of_ble_eq_true rfl) (Nat.le_of_ble_eq_true rfl)) rfl rfl (Nat.le_of_ble_eq_true rfl) dX6_tape_22 (fun b5 => ?_)
      refine gk_iconst (pc := 25) dX6_tape_25 ?_
      exact gk_iret (pc := 26) rfl dX6_tape_26
  · refine gk_iconst (pc := 7) dX6_tape_7 ?_
    exact gk_iret (pc := 8) rfl dX6_tape_8
def f_X6_item (v1 : Int) (v2 : Int) (v3 : Int) (σ : gs_Mem) : Option (Int × gs_Mem) :=
  (f_X6_isTape v1 σ).bind fun u1 =>
  if (gn u1) = 0 then
    some ((-1), σ)
  else
    gs_chk (gn v1) 6 (
    (f_X3_isBlank (58 + 2 * (gn v1).toNat) σ).bind fun u3 =>
    if (gn u3) = 0 then
      (f_X3_holds (58 + 2 * (gn v1).toNat) v2 σ).bind fun u4 =>
      if (gn u4) = 0 then
        some ((-13), σ)
      else
        (f_X3_put (58 + 2 * (gn v1).toNat) v2 v3 σ).bind fun b5 =>
        some (1, b5.2)
    else
      some ((-11), σ))
set_option maxRecDepth 100000 in
set_option maxHeartbeats 4000000 in
theorem c_X6_item {E : gs_E} (v1 : Int) (v2 : Int) (v3 : Int)  (σ : gs_Mem) : gs_C E yX6_item cX6_item 6 (some .int) 0 { frames := 2, cells := 0, slots := 0, locals := 45 } [gr E 0, gi v1, gi v2, gl v3] σ (f_X6_item v1 v2 v3 σ) (fun b : Int × gs_Mem => b) := by
  unfold f_X6_item
  refine gs_enter (L := [(0, gr E 0), (1, gi v1), (2, gi v2), (3, gl v3)]) (by decide) rfl rfl (Nat.le_of_ble_eq_true rfl) rfl ?_
  refine gk_iload_n (pc := 0) 1 dX6_item_0 rfl ?_
  refine gk_callS_ir (As := [gi v1]) (pc := 1) (c_X6_isTape v1 σ) rfl mm_X6_isTape ww_678 (gs_fit_of (Nat.le_of_ble_eq_true rfl) (Nat.le_of_ble_eq_true rfl)) rfl rfl (Nat.le_of_ble_eq_true rfl) dX6_item_1 (fun u1 => ?_)
  refine gk_if_ne (tgt := 9) (pc := 4) dX6_item_4 (by decide) rfl ?_ ?_
  · refine gk_aload_n (pc := 9) 0 dX6_item_9 rfl ?_
    refine gk_getR (q := 57) (pc := 10) rfl clsX6 cll_0 sh_0 6 (by decide) rfl ww_234 dX6_item_10 ?_
    refine gk_iload_n (pc := 13) 1 dX6_item_13 rfl ?_
    refine gk_aald_c (pc := 14) cll_57 sh_57 rfl dX6_item_14 (fun hq2 => ?_)
    refine gk_astore (L' := [(5, gr E (58 + 2 * (gn v1).toNat)), (0, gr E 0), (1, gi v1), (2, gi v2), (3, gl v3)]) (pc := 15) dX6_item_15 (Nat.le_of_ble_eq_true rfl) rfl ?_
    refine gk_aload (pc := 17) 0 dX6_item_17 rfl ?_
    refine gk_callV_ir (As := []) (pc := 19) (c_X3_isBlank (58 + 2 * (gn v1).toNat) (tp_of hq2) σ) rfl mm_X3_isBlank ww_681 clsX3 rfl (tp_lt0 (tp_of hq2)) (tp_sh (tp_of hq2)) (gs_fit_of (Nat.le_of_ble_eq_true rfl) (Nat.le_of_ble_eq_true rfl)) rfl rfl (Nat.le_of_ble_eq_true rfl) dX6_item_19 (fun u3 => ?_)
    refine gk_if_eq (tgt := 28) (pc := 22) dX6_item_22 (by decide) rfl ?_ ?_
    · refine gk_aload (pc := 28) 0 dX6_item_28 rfl ?_
      refine gk_iload_n (pc := 30) 3 dX6_item_30 rfl ?_
      refine gk_callV_ir (As := [gi v2]) (pc := 31) (c_X3_holds (58 + 2 * (gn v1).toNat) v2 (tp_of hq2) σ) rfl mm_X3_holds ww_689 clsX3 rfl (tp_lt0 (tp_of hq2)) (tp_sh (tp_of hq2)) (gs_fit_of (Nat.le_of_ble_eq_true rfl) (Nat.le_of_ble_eq_true rfl)) rfl rfl (Nat.le_of_ble_eq_true rfl) dX6_item_31 (fun u4 => ?_)
      refine gk_if_ne (tgt := 40) (pc := 34) dX6_item_34 (by decide) rfl ?_ ?_
      · refine gk_aload (pc := 40) 0 dX6_item_40 rfl ?_
        refine gk_iload_n (pc := 42) 3 dX6_item_42 rfl ?_
        refine gk_lload_n (pc := 43) 4 dX6_item_43 rfl ?_
        refine gk_callV_vw (As := [gi v2, gl v3]) (pc := 44) (c_X3_put (58 + 2 * (gn v1).toNat) v2 v3 (tp_of hq2) σ) rfl mm_X3_put ww_743 clsX3 rfl (tp_lt0 (tp_of hq2)) (tp_sh (tp_of hq2)) (gs_fit_of (Nat.le_of_ble_eq_true rfl) (Nat.le_of_ble_eq_true rfl)) rfl rfl (Nat.le_of_ble_eq_true rfl) dX6_item_44 (fun b5 => ?_)
        refine gk_iconst (pc := 47) dX6_item_47 ?_
        exact gk_iret (pc := 48) rfl dX6_item_48
      · refine gk_bipush (pc := 37) dX6_item_37 (by decide +kernel) ?_
        exact gk_iret (pc := 39) rfl dX6_item_39
    · refine gk_bipush (pc := 25) dX6_item_25 (by decide +kernel) ?_
      exact gk_iret (pc := 27) rfl dX6_item_27
  · refine gk_iconst (pc := 7) dX6_item_7 ?_
    exact gk_iret (pc := 8) rfl dX6_item_8
def f_X6_peek (v1 : Int) (v2 : Int) (σ : gs_Mem) : Option (Int) :=
  (f_X6_isTape v1 σ).bind fun u1 =>
  if (gn u1) = 0 then
    some (-9223372036854775808)
  else
    gs_chk (gn v1) 6 (
    (f_X3_holds (58 + 2 * (gn v1).toNat) v2 σ).bind fun u3 =>
    if (gn u3) = 0 then
      some (-9223372036854775808)
    else
      gs_chk (gn v1) 6 (
      (f_X3_get (58 + 2 * (gn v1).toNat) v2 σ).bind fun u5 =>
      some u5))
set_option maxRecDepth 100000 in
set_option maxHeartbeats 4000000 in
theorem c_X6_peek {E : gs_E} (v1 : Int) (v2 : Int)  (σ : gs_Mem) : gs_C E yX6_peek cX6_peek 3 (some .long) 1 { frames := 2, cells := 0, slots := 0, locals := 42 } [gr E 0, gi v1, gi v2] σ (f_X6_peek v1 v2 σ) (fun v : Int => (v, σ)) := by
  unfold f_X6_peek
  refine gs_enter (L := [(0, gr E 0), (1, gi v1), (2, gi v2)]) (by decide) rfl rfl (Nat.le_of_ble_eq_true rfl) rfl ?_
  refine gk_iload_n (pc := 0) 1 dX6_peek_0 rfl ?_
  refine gk_callS_ir (As := [gi v1]) (pc := 1) (c_X6_isTape v1 σ) rfl mm_X6_isTape ww_678 (gs_fit_of (Nat.le_of_ble_eq_true rfl) (Nat.le_of_ble_eq_true rfl)) rfl rfl (Nat.le_of_ble_eq_true rfl) dX6_peek_1 (fun u1 => ?_)
  refine gk_if_eq (tgt := 33) (pc := 4) dX6_peek_4 (by decide) rfl ?_ ?_
  · refine gk_ldc2 (x := -9223372036854775808) (pc := 33) rfl dX6_peek_33 ww_642 (by decide +kernel) ?_
    exact gk_lret (pc := 36) rfl dX6_peek_36
  · refine gk_aload_n (pc := 7) 0 dX6_peek_7 rfl ?_
    refine gk_getR (q := 57) (pc := 8) rfl clsX6 cll_0 sh_0 6 (by decide) rfl ww_234 dX6_peek_8 ?_
    refine gk_iload_n (pc := 11) 1 dX6_peek_11 rfl ?_
    refine gk_aald_c (pc := 12) cll_57 sh_57 rfl dX6_peek_12 (fun hq2 => ?_)
    refine gk_iload_n (pc := 13) 2 dX6_peek_13 rfl ?_
    refine gk_callV_ir (As := [gi v2]) (pc := 14) (c_X3_holds (58 + 2 * (gn v1).toNat) v2 (tp_of hq2) σ) rfl mm_X3_holds ww_689 clsX3 rfl (tp_lt0 (tp_of hq2)) (tp_sh (tp_of hq2)) (gs_fit_of (Nat.le_of_ble_eq_true rfl) (Nat.le_of_ble_eq_true rfl)) rfl rfl (Nat.le_of_ble_eq_true rfl) dX6_peek_14 (fun u3 => ?_)
    refine gk_if_eq (tgt := 33) (pc := 17) dX6_peek_17 (by decide) rfl ?_ ?_
    · refine gk_ldc2 (x := -9223372036854775808) (pc := 33) rfl dX6_peek_33 ww_642 (by decide +kernel) ?_
      exact gk_lret (pc := 36) rfl dX6_peek_36
    · refine gk_aload_n (pc := 20) 0 dX6_peek_20 rfl ?_
      refine gk_getR (q := 57) (pc := 21) rfl clsX6 cll_0 sh_0 6 (by decide) rfl ww_234 dX6_peek_21 ?_
      refine gk_iload_n (pc := 24) 1 dX6_peek_24 rfl ?_
      refine gk_aald_c (pc := 25) cll_57 sh_57 rfl dX6_peek_25 (fun hq4 => ?_)
      refine gk_iload_n (pc := 26) 2 dX6_peek_26 rfl ?_
      refine gk_callV_lr (As := [gi v2]) (pc := 27) (c_X3_get (58 + 2 * (gn v1).toNat) v2 (tp_of hq4) σ) rfl mm_X3_get ww_693 clsX3 rfl (tp_lt0 (tp_of hq4)) (tp_sh (tp_of hq4)) (gs_fit_of (Nat.le_of_ble_eq_true rfl) (Nat.le_of_ble_eq_true rfl)) rfl rfl (Nat.le_of_ble_eq_true rfl) dX6_peek_27 (fun u5 => ?_)
      refine gk_goto (tgt := 36) (pc := 30) dX6_peek_30 (by decide) ?_
      exact gk_lret (pc := 36) rfl dX6_peek_36
def f_X6_shift (v1 : Int) (v2 : Int) (v3 : Int) (v4 : Int) (v5 : Int) (σ : gs_Mem) : Option (Int × gs_Mem) :=
  (f_X6_isTape v1 σ).bind fun u1 =>
  if (gn u1) = 0 then
    some ((-1), σ)
  else
    (f_X6_isTape v3 σ).bind fun u2 =>
    if (gn u2) = 0 then
      some ((-1), σ)
    else
      gs_chk (gn v1) 6 (
      gs_chk (gn v3) 6 (
      (f_X3_isBlank (58 + 2 * (gn v1).toNat) σ).bind fun u5 =>
      if (gn u5) = 0 then
        (f_X3_isBlank (58 + 2 * (gn v3).toNat) σ).bind fun u6 =>
        if (gn u6) = 0 then
          (f_X3_sort (58 + 2 * (gn v1).toNat) σ).bind fun u7 =>
          (f_X3_sort (58 + 2 * (gn v3).toNat) σ).bind fun u8 =>
          if (gn u7) = (gn u8) then
            (f_X3_holdsRun (58 + 2 * (gn v1).toNat) v2 v5 σ).bind fun u9 =>
            if (gn u9) = 0 then
              some ((-13), σ)
            else
              (f_X3_holdsRun (58 + 2 * (gn v3).toNat) v4 v5 σ).bind fun u10 =>
              if (gn u10) = 0 then
                some ((-13), σ)
              else
                (f_X3_take (58 + 2 * (gn v3).toNat) v4 (58 + 2 * (gn v1).toNat) v2 v5 σ).bind fun b11 =>
                some (v5, b11.2)
          else
            some ((-12), σ)
        else
          some ((-11), σ)
      else
        some ((-11), σ)))
set_option maxRecDepth 100000 in
set_option maxHeartbeats 4000000 in
theorem c_X6_shift {E : gs_E} (v1 : Int) (v2 : Int) (v3 : Int) (v4 : Int) (v5 : Int)  (σ : gs_Mem) : gs_C E yX6_shift cX6_shift 8 (some .int) 0 { frames := 2, cells := 0, slots := 0, locals := 104 } [gr E 0, gi v1, gi v2, gi v3, gi v4, gi v5] σ (f_X6_shift v1 v2 v3 v4 v5 σ) (fun b : Int × gs_Mem => b) := by
  unfold f_X6_shift
  refine gs_enter (L := [(0, gr E 0), (1, gi v1), (2, gi v2), (3, gi v3), (4, gi v4), (5, gi v5)]) (by decide) rfl rfl (Nat.le_of_ble_eq_true rfl) rfl ?_
  refine gk_iload_n (pc := 0) 1 dX6_shift_0 rfl ?_
  refine gk_callS_ir (As := [gi v1]) (pc := 1) (c_X6_isTape v1 σ) rfl mm_X6_isTape ww_678 (gs_fit_of (Nat.le_of_ble_eq_true rfl) (Nat.le_of_ble_eq_true rfl)) rfl rfl (Nat.le_of_ble_eq_true rfl) dX6_shift_1 (fun u1 => ?_)
  refine gk_if_eq (tgt := 14) (pc := 4) dX6_shift_4 (by decide) rfl ?_ ?_
  · refine gk_iconst (pc := 14) dX6_shift_14 ?_
    exact gk_iret (pc := 15) rfl dX6_shift_15
  · refine gk_iload_n (pc := 7) 3 dX6_shift_7 rfl ?_
    refine gk_callS_ir (As := [gi v3]) (pc := 8) (c_X6_isTape v3 σ) rfl mm_X6_isTape ww_678 (gs_fit_of (Nat.le_of_ble_eq_true rfl) (Nat.le_of_ble_eq_true rfl)) rfl rfl (Nat.le_of_ble_eq_true rfl) dX6_shift_8 (fun u2 => ?_)
    refine gk_if_ne (tgt := 16) (pc := 11) dX6_shift_11 (by decide) rfl ?_ ?_
    · refine gk_aload_n (pc := 16) 0 dX6_shift_16 rfl ?_
      refine gk_getR (q := 57) (pc := 17) rfl clsX6 cll_0 sh_0 6 (by decide) rfl ww_234 dX6_shift_17 ?_
      refine gk_iload_n (pc := 20) 1 dX6_shift_20 rfl ?_
      refine gk_aald_c (pc := 21) cll_57 sh_57 rfl dX6_shift_21 (fun hq3 => ?_)
      refine gk_astore (L' := [(6, gr E (58 + 2 * (gn v1).toNat)), (0, gr E 0), (1, gi v1), (2, gi v2), (3, gi v3), (4, gi v4), (5, gi v5)]) (pc := 22) dX6_shift_22 (Nat.le_of_ble_eq_true rfl) rfl ?_
      refine gk_aload_n (pc := 24) 1 dX6_shift_24 rfl ?_
      refine gk_getR (q := 57) (pc := 25) rfl clsX6 cll_0 sh_0 6 (by decide) rfl ww_234 dX6_shift_25 ?_
      refine gk_iload_n (pc := 28) 4 dX6_shift_28 rfl ?_
      refine gk_aald_c (pc := 29) cll_57 sh_57 rfl dX6_shift_29 (fun hq4 => ?_)
      refine gk_astore (L' := [(7, gr E (58 + 2 * (gn v3).toNat)), (6, gr E (58 + 2 * (gn v1).toNat)), (0, gr E 0), (1, gi v1), (2, gi v2), (3, gi v3), (4, gi v4), (5, gi v5)]) (pc := 30) dX6_shift_30 (Nat.le_of_ble_eq_true rfl) rfl ?_
      refine gk_aload (pc := 32) 1 dX6_shift_32 rfl ?_
      refine gk_callV_ir (As := []) (pc := 34) (c_X3_isBlank (58 + 2 * (gn v1).toNat) (tp_of hq3) σ) rfl mm_X3_isBlank ww_681 clsX3 rfl (tp_lt0 (tp_of hq3)) (tp_sh (tp_of hq3)) (gs_fit_of (Nat.le_of_ble_eq_true rfl) (Nat.le_of_ble_eq_true rfl)) rfl rfl (Nat.le_of_ble_eq_true rfl) dX6_shift_34 (fun u5 => ?_)
      refine gk_if_ne (tgt := 48) (pc := 37) dX6_shift_37 (by decide) rfl ?_ ?_
      · refine gk_bipush (pc := 48) dX6_shift_48 (by decide +kernel) ?_
        exact gk_iret (pc := 50) rfl dX6_shift_50
      · refine gk_aload (pc := 40) 0 dX6_shift_40 rfl ?_
        refine gk_callV_ir (As := []) (pc := 42) (c_X3_isBlank (58 + 2 * (gn v3).toNat) (tp_of hq4) σ) rfl mm_X3_isBlank ww_681 clsX3 rfl (tp_lt0 (tp_of hq4)) (tp_sh (tp_of hq4)) (gs_fit_of (Nat.le_of_ble_eq_true rfl) (Nat.le_of_ble_eq_true rfl)) rfl rfl (Nat.le_of_ble_eq_true rfl) dX6_shift_42 (fun u6 => ?_)
        refine gk_if_eq (tgt := 51) (pc := 45) dX6_shift_45 (by decide) rfl ?_ ?_
        · refine gk_aload (pc := 51) 1 dX6_shift_51 rfl ?_
          refine gk_callV_ir (As := []) (pc := 53) (c_X3_sort (58 + 2 * (gn v1).toNat) (tp_of hq3) σ) rfl mm_X3_sort ww_685 clsX3 rfl (tp_lt0 (tp_of hq3)) (tp_sh (tp_of hq3)) (gs_fit_of (Nat.le_of_ble_eq_true rfl) (Nat.le_of_ble_eq_true rfl)) rfl rfl (Nat.le_of_ble_eq_true rfl) dX6_shift_53 (fun u7 => ?_)
          refine gk_aload (pc := 56) 0 dX6_shift_56 rfl ?_
          refine gk_callV_ir (As := []) (pc := 58) (c_X3_sort (58 + 2 * (gn v3).toNat) (tp_of hq4) σ) rfl mm_X3_sort ww_685 clsX3 rfl (tp_lt0 (tp_of hq4)) (tp_sh (tp_of hq4)) (gs_fit_of (Nat.le_of_ble_eq_true rfl) (Nat.le_of_ble_eq_true rfl)) rfl rfl (Nat.le_of_ble_eq_true rfl) dX6_shift_58 (fun u8 => ?_)
          refine gk_icmp_eq (tgt := 67) (pc := 61) dX6_shift_61 (by decide) rfl rfl ?_ ?_
          · refine gk_aload (pc := 67) 1 dX6_shift_67 rfl ?_
            refine gk_iload_n (pc := 69) 4 dX6_shift_69 rfl ?_
            refine gk_iload (pc := 70) 7 dX6_shift_70 rfl ?_
            refine gk_callV_ir (As := [gi v2, gi v5]) (pc := 72) (c_X3_holdsRun (58 + 2 * (gn v1).toNat) v2 v5 (tp_of hq3) σ) rfl mm_X3_holdsRun ww_759 clsX3 rfl (tp_lt0 (tp_of hq3)) (tp_sh (tp_of hq3)) (gs_fit_of (Nat.le_of_ble_eq_true rfl) (Nat.le_of_ble_eq_true rfl)) rfl rfl (Nat.le_of_ble_eq_true rfl) dX6_shift_72 (fun u9 => ?_)
            refine gk_if_eq (tgt := 90) (pc := 75) dX6_shift_75 (by decide) rfl ?_ ?_
            · refine gk_bipush (pc := 90) dX6_shift_90 (by decide +kernel) ?_
              exact gk_iret (pc := 92) rfl dX6_shift_92
            · refine gk_aload (pc := 78) 0 dX6_shift_78 rfl ?_
              refine gk_iload (pc := 80) 6 dX6_shift_80 rfl ?_
              refine gk_iload (pc := 82) 7 dX6_shift_82 rfl ?_
              refine gk_callV_ir (As := [gi v4, gi v5]) (pc := 84) (c_X3_holdsRun (58 + 2 * (gn v3).toNat) v4 v5 (tp_of hq4) σ) rfl mm_X3_holdsRun ww_759 clsX3 rfl (tp_lt0 (tp_of hq4)) (tp_sh (tp_of hq4)) (gs_fit_of (Nat.le_of_ble_eq_true rfl) (Nat.le_of_ble_eq_true rfl)) rfl rfl (Nat.le_of_ble_eq_true rfl) dX6_shift_84 (fun u10 => ?_)
              refine gk_if_ne (tgt := 93) (pc := 87) dX6_shift_87 (by decide) rfl ?_ ?_
              · refine gk_aload (pc := 93) 0 dX6_shift_93 rfl ?_
                refine gk_iload (pc := 95) 6 dX6_shift_95 rfl ?_
                refine gk_aload (pc := 97) 1 dX6_shift_97 rfl ?_
                refine gk_iload_n (pc := 99) 4 dX6_shift_99 rfl ?_
                refine gk_iload (pc := 100) 7 dX6_shift_100 rfl ?_
                refine gk_callV_vw (As := [gi v4, gr E (58 + 2 * (gn v1).toNat), gi v2, gi v5]) (pc := 102) (c_X3_take (58 + 2 * (gn v3).toNat) v4 (58 + 2 * (gn v1).toNat) v2 v5 (tp_of hq4) (tp_of hq3) σ) rfl mm_X3_take ww_763 clsX3 rfl (tp_lt0 (tp_of hq4)) (tp_sh (tp_of hq4)) (gs_fit_of (Nat.le_of_ble_eq_true rfl) (Nat.le_of_ble_eq_true rfl)) rfl rfl (Nat.le_of_ble_eq_true rfl) dX6_shift_102 (fun b11 => ?_)
                refine gk_iload (pc := 105) 7 dX6_shift_105 rfl ?_
                exact gk_iret (pc := 107) rfl dX6_shift_107
              · refine gk_bipush (pc := 90) dX6_shift_90 (by decide +kernel) ?_
                exact gk_iret (pc := 92) rfl dX6_shift_92
          · refine gk_bipush (pc := 64) dX6_shift_64 (by decide +kernel) ?_
            exact gk_iret (pc := 66) rfl dX6_shift_66
        · refine gk_bipush (pc := 48) dX6_shift_48 (by decide +kernel) ?_
          exact gk_iret (pc := 50) rfl dX6_shift_50
    · refine gk_iconst (pc := 14) dX6_shift_14 ?_
      exact gk_iret (pc := 15) rfl dX6_shift_15
