def f_X6_isRule (v0 : Int) (σ : gs_Mem) : Option (Int) :=
  if (gn v0) < 0 then
    some 0
  else
    if 3 ≤ (gn v0) then
      some 0
    else
      some 1
set_option maxRecDepth 100000 in
set_option maxHeartbeats 4000000 in
theorem c_X6_isRule {E : gs_E} (v0 : Int)  (σ : gs_Mem) : gs_C E yX6_isRule cX6_isRule 1 (some .boolean) 0 { frames := 0, cells := 0, slots := 0, locals := 0 } [gi v0] σ (f_X6_isRule v0 σ) (fun v : Int => (v, σ)) := by
  unfold f_X6_isRule
  refine gs_enter (L := [(0, gi v0)]) (by decide) rfl rfl (Nat.le_of_ble_eq_true rfl) rfl ?_
  refine gk_iload_n (pc := 0) 0 dX6_isRule_0 rfl ?_
  refine gk_if_lt (tgt := 13) (pc := 1) dX6_isRule_1 (by decide) rfl ?_ ?_
  · refine gk_iconst (pc := 13) dX6_isRule_13 ?_
    exact gk_zret (pc := 14) (Or.inl (by decide +kernel)) rfl dX6_isRule_14
  · refine gk_iload_n (pc := 4) 0 dX6_isRule_4 rfl ?_
    refine gk_iconst (pc := 5) dX6_isRule_5 ?_
    refine gk_icmp_ge (tgt := 13) (pc := 6) dX6_isRule_6 (by decide) rfl (by decide +kernel) ?_ ?_
    · refine gk_iconst (pc := 13) dX6_isRule_13 ?_
      exact gk_zret (pc := 14) (Or.inl (by decide +kernel)) rfl dX6_isRule_14
    · refine gk_iconst (pc := 9) dX6_isRule_9 ?_
      refine gk_goto (tgt := 14) (pc := 10) dX6_isRule_10 (by decide) ?_
      exact gk_zret (pc := 14) (Or.inr (by decide +kernel)) rfl dX6_isRule_14
def f_X6_band (v0 : Int) (v1 : Int) (σ : gs_Mem) : Option (Int) :=
  if (gn v0) < 0 then
    some 0
  else
    if 0 < (gn v1) then
      some (gshr (gshl ((gshl 1 ((2 * v1) - 1)) - 1) v0) (v1 - 1))
    else
      some 0
set_option maxRecDepth 100000 in
set_option maxHeartbeats 4000000 in
theorem c_X6_band {E : gs_E} (v0 : Int) (v1 : Int)  (σ : gs_Mem) : gs_C E yX6_band cX6_band 2 (some .int) 0 { frames := 0, cells := 0, slots := 0, locals := 0 } [gi v0, gi v1] σ (f_X6_band v0 v1 σ) (fun v : Int => (v, σ)) := by
  unfold f_X6_band
  refine gs_enter (L := [(0, gi v0), (1, gi v1)]) (by decide) rfl rfl (Nat.le_of_ble_eq_true rfl) rfl ?_
  refine gk_iload_n (pc := 0) 0 dX6_band_0 rfl ?_
  refine gk_if_lt (tgt := 8) (pc := 1) dX6_band_1 (by decide) rfl ?_ ?_
  · refine gk_iconst (pc := 8) dX6_band_8 ?_
    exact gk_iret (pc := 9) rfl dX6_band_9
  · refine gk_iload_n (pc := 4) 1 dX6_band_4 rfl ?_
    refine gk_if_gt (tgt := 10) (pc := 5) dX6_band_5 (by decide) rfl ?_ ?_
    · refine gk_iconst (pc := 10) dX6_band_10 ?_
      refine gk_iconst (pc := 11) dX6_band_11 ?_
      refine gk_iload_n (pc := 12) 1 dX6_band_12 rfl ?_
      refine gk_imul (pc := 13) dX6_band_13 ?_
      refine gk_iconst (pc := 14) dX6_band_14 ?_
      refine gk_isub (pc := 15) dX6_band_15 ?_
      refine gk_ishl (pc := 16) dX6_band_16 ?_
      refine gk_iconst (pc := 17) dX6_band_17 ?_
      refine gk_isub (pc := 18) dX6_band_18 ?_
      refine gk_iload_n (pc := 19) 0 dX6_band_19 rfl ?_
      refine gk_ishl (pc := 20) dX6_band_20 ?_
      refine gk_iload_n (pc := 21) 1 dX6_band_21 rfl ?_
      refine gk_iconst (pc := 22) dX6_band_22 ?_
      refine gk_isub (pc := 23) dX6_band_23 ?_
      refine gk_ishr (pc := 24) dX6_band_24 ?_
      exact gk_iret (pc := 25) rfl dX6_band_25
    · refine gk_iconst (pc := 8) dX6_band_8 ?_
      exact gk_iret (pc := 9) rfl dX6_band_9
def f_X6_leastOf_L2 (σ : gs_Mem) (v0 : Int) : Nat → Int → Option (Int)
  | 0, _ => none
  | n + 1, v1 =>
    if 20 ≤ (gn v1) then
      some (-5)
    else
      if (gand (gshr v0 v1) 1) = 1 then
        some v1
      else
        f_X6_leastOf_L2 σ v0 n (v1 + 1)
set_option maxRecDepth 100000 in
set_option maxHeartbeats 4000000 in
theorem k_X6_leastOf_L2 {E : gs_E} (σ : gs_Mem) (v0 : Int)   : ∀ (n : Nat) (v1 : Int), gs_K E (gs_MC E yX6_leastOf cX6_leastOf 2 (some .int) 0 { frames := 0, cells := 0, slots := 0, locals := 0 }) (fun v : Int => (v, σ)) (f_X6_leastOf_L2 σ v0 n v1) 2 [(0, gi v0), (1, gi v1)] [] σ := by
  intro n
  induction n with
  | zero => intro v1; rw [f_X6_leastOf_L2]; exact gk_none
  | succ n ih =>
    intro v1; rw [f_X6_leastOf_L2]
    refine gk_iload_n (pc := 2) 1 dX6_leastOf_2 rfl ?_
    refine gk_bipush (pc := 3) dX6_leastOf_3 (by decide +kernel) ?_
    refine gk_icmp_ge (tgt := 25) (pc := 5) dX6_leastOf_5 (by decide) rfl (by decide +kernel) ?_ ?_
    · refine gk_bipush (pc := 25) dX6_leastOf_25 (by decide +kernel) ?_
      exact gk_iret (pc := 27) rfl dX6_leastOf_27
    · refine gk_iload_n (pc := 8) 0 dX6_leastOf_8 rfl ?_
      refine gk_iload_n (pc := 9) 1 dX6_leastOf_9 rfl ?_
      refine gk_ishr (pc := 10) dX6_leastOf_10 ?_
      refine gk_iconst (pc := 11) dX6_leastOf_11 ?_
      refine gk_iand (pc := 12) dX6_leastOf_12 ?_
      refine gk_iconst (pc := 13) dX6_leastOf_13 ?_
      refine gk_icmp_ne (tgt := 19) (pc := 14) dX6_leastOf_14 (by decide) (gn_ti _) (by decide +kernel) ?_ ?_
      · refine gk_iinc (L' := [(1, gi (v1 + 1)), (0, gi v0)]) (pc := 19) 1 dX6_leastOf_19 rfl (Nat.le_of_ble_eq_true rfl) rfl ?_
        refine gk_goto (tgt := 2) (pc := 22) dX6_leastOf_22 (by decide) ?_
        refine gk_sub (L' := [(0, gi v0), (1, gi (v1 + 1))]) [1, 0] rfl ?_
        exact ih (v1 + 1)
      · refine gk_iload_n (pc := 17) 1 dX6_leastOf_17 rfl ?_
        exact gk_iret (pc := 18) rfl dX6_leastOf_18
def f_X6_leastOf (v0 : Int) (σ : gs_Mem) : Option (Int) :=
  f_X6_leastOf_L2 σ v0 gs_fuel 0
set_option maxRecDepth 100000 in
set_option maxHeartbeats 4000000 in
theorem c_X6_leastOf {E : gs_E} (v0 : Int)  (σ : gs_Mem) : gs_C E yX6_leastOf cX6_leastOf 2 (some .int) 0 { frames := 0, cells := 0, slots := 0, locals := 0 } [gi v0] σ (f_X6_leastOf v0 σ) (fun v : Int => (v, σ)) := by
  unfold f_X6_leastOf
  refine gs_enter (L := [(0, gi v0)]) (by decide) rfl rfl (Nat.le_of_ble_eq_true rfl) rfl ?_
  refine gk_iconst (pc := 0) dX6_leastOf_0 ?_
  refine gk_istore_n (L' := [(1, gi 0), (0, gi v0)]) (pc := 1) dX6_leastOf_1 (Nat.le_of_ble_eq_true rfl) rfl ?_
  refine gk_sub (L' := [(0, gi v0), (1, gi 0)]) [1, 0] rfl ?_
  exact k_X6_leastOf_L2 σ v0 gs_fuel 0
def f_X6_isOnPlane (v0 : Int) (v1 : Int) (σ : gs_Mem) : Option (Int) :=
  if (gn v0) < 0 then
    some 0
  else
    if 32 ≤ (gn v0) then
      some 0
    else
      if (gn v1) < 0 then
        some 0
      else
        if 32 ≤ (gn v1) then
          some 0
        else
          some 1
set_option maxRecDepth 100000 in
set_option maxHeartbeats 4000000 in
theorem c_X6_isOnPlane {E : gs_E} (v0 : Int) (v1 : Int)  (σ : gs_Mem) : gs_C E yX6_isOnPlane cX6_isOnPlane 2 (some .boolean) 0 { frames := 0, cells := 0, slots := 0, locals := 0 } [gi v0, gi v1] σ (f_X6_isOnPlane v0 v1 σ) (fun v : Int => (v, σ)) := by
  unfold f_X6_isOnPlane
  refine gs_enter (L := [(0, gi v0), (1, gi v1)]) (by decide) rfl rfl (Nat.le_of_ble_eq_true rfl) rfl ?_
  refine gk_iload_n (pc := 0) 0 dX6_isOnPlane_0 rfl ?_
  refine gk_if_lt (tgt := 24) (pc := 1) dX6_isOnPlane_1 (by decide) rfl ?_ ?_
  · refine gk_iconst (pc := 24) dX6_isOnPlane_24 ?_
    exact gk_zret (pc := 25) (Or.inl (by decide +kernel)) rfl dX6_isOnPlane_25
  · refine gk_iload_n (pc := 4) 0 dX6_isOnPlane_4 rfl ?_
    refine gk_bipush (pc := 5) dX6_isOnPlane_5 (by decide +kernel) ?_
    refine gk_icmp_ge (tgt := 24) (pc := 7) dX6_isOnPlane_7 (by decide) rfl (by decide +kernel) ?_ ?_
    · refine gk_iconst (pc := 24) dX6_isOnPlane_24 ?_
      exact gk_zret (pc := 25) (Or.inl (by decide +kernel)) rfl dX6_isOnPlane_25
    · refine gk_iload_n (pc := 10) 1 dX6_isOnPlane_10 rfl ?_
      refine gk_if_lt (tgt := 24) (pc := 11) dX6_isOnPlane_11 (by decide) rfl ?_ ?_
      · refine gk_iconst (pc := 24) dX6_isOnPlane_24 ?_
        exact gk_zret (pc := 25) (Or.inl (by decide +kernel)) rfl dX6_isOnPlane_25
      · refine gk_iload_n (pc := 14) 1 dX6_isOnPlane_14 rfl ?_
        refine gk_bipush (pc := 15) dX6_isOnPlane_15 (by decide +kernel) ?_
        refine gk_icmp_ge (tgt := 24) (pc := 17) dX6_isOnPlane_17 (by decide) rfl (by decide +kernel) ?_ ?_
        · refine gk_iconst (pc := 24) dX6_isOnPlane_24 ?_
          exact gk_zret (pc := 25) (Or.inl (by decide +kernel)) rfl dX6_isOnPlane_25
        · refine gk_iconst (pc := 20) dX6_isOnPlane_20 ?_
          refine gk_goto (tgt := 25) (pc := 21) dX6_isOnPlane_21 (by decide) ?_
          exact gk_zret (pc := 25) (Or.inr (by decide +kernel)) rfl dX6_isOnPlane_25
def f_X6_isNear (v0 : Int) (σ : gs_Mem) : Option (Int) :=
  if (gn v0) < 0 then
    some 0
  else
    if 40 < (gn v0) then
      some 0
    else
      some 1
set_option maxRecDepth 100000 in
set_option maxHeartbeats 4000000 in
theorem c_X6_isNear {E : gs_E} (v0 : Int)  (σ : gs_Mem) : gs_C E yX6_isNear cX6_isNear 1 (some .boolean) 0 { frames := 0, cells := 0, slots := 0, locals := 0 } [gi v0] σ (f_X6_isNear v0 σ) (fun v : Int => (v, σ)) := by
  unfold f_X6_isNear
  refine gs_enter (L := [(0, gi v0)]) (by decide) rfl rfl (Nat.le_of_ble_eq_true rfl) rfl ?_
  refine gk_iload_n (pc := 0) 0 dX6_isNear_0 rfl ?_
  refine gk_if_lt (tgt := 14) (pc := 1) dX6_isNear_1 (by decide) rfl ?_ ?_
  · refine gk_iconst (pc := 14) dX6_isNear_14 ?_
    exact gk_zret (pc := 15) (Or.inl (by decide +kernel)) rfl dX6_isNear_15
  · refine gk_iload_n (pc := 4) 0 dX6_isNear_4 rfl ?_
    refine gk_bipush (pc := 5) dX6_isNear_5 (by decide +kernel) ?_
    refine gk_icmp_gt (tgt := 14) (pc := 7) dX6_isNear_7 (by decide) rfl (by decide +kernel) ?_ ?_
    · refine gk_iconst (pc := 14) dX6_isNear_14 ?_
      exact gk_zret (pc := 15) (Or.inl (by decide +kernel)) rfl dX6_isNear_15
    · refine gk_iconst (pc := 10) dX6_isNear_10 ?_
      refine gk_goto (tgt := 15) (pc := 11) dX6_isNear_11 (by decide) ?_
      exact gk_zret (pc := 15) (Or.inr (by decide +kernel)) rfl dX6_isNear_15
def f_X6_isGap (v0 : Int) (σ : gs_Mem) : Option (Int) :=
  if (gn v0) < 1 then
    some 0
  else
    if 4 < (gn v0) then
      some 0
    else
      some 1
set_option maxRecDepth 100000 in
set_option maxHeartbeats 4000000 in
theorem c_X6_isGap {E : gs_E} (v0 : Int)  (σ : gs_Mem) : gs_C E yX6_isGap cX6_isGap 1 (some .boolean) 0 { frames := 0, cells := 0, slots := 0, locals := 0 } [gi v0] σ (f_X6_isGap v0 σ) (fun v : Int => (v, σ)) := by
  unfold f_X6_isGap
  refine gs_enter (L := [(0, gi v0)]) (by decide) rfl rfl (Nat.le_of_ble_eq_true rfl) rfl ?_
  refine gk_iload_n (pc := 0) 0 dX6_isGap_0 rfl ?_
  refine gk_iconst (pc := 1) dX6_isGap_1 ?_
  refine gk_icmp_lt (tgt := 14) (pc := 2) dX6_isGap_2 (by decide) rfl (by decide +kernel) ?_ ?_
  · refine gk_iconst (pc := 14) dX6_isGap_14 ?_
    exact gk_zret (pc := 15) (Or.inl (by decide +kernel)) rfl dX6_isGap_15
  · refine gk_iload_n (pc := 5) 0 dX6_isGap_5 rfl ?_
    refine gk_iconst (pc := 6) dX6_isGap_6 ?_
    refine gk_icmp_gt (tgt := 14) (pc := 7) dX6_isGap_7 (by decide) rfl (by decide +kernel) ?_ ?_
    · refine gk_iconst (pc := 14) dX6_isGap_14 ?_
      exact gk_zret (pc := 15) (Or.inl (by decide +kernel)) rfl dX6_isGap_15
    · refine gk_iconst (pc := 10) dX6_isGap_10 ?_
      refine gk_goto (tgt := 15) (pc := 11) dX6_isGap_11 (by decide) ?_
      exact gk_zret (pc := 15) (Or.inr (by decide +kernel)) rfl dX6_isGap_15
def f_X6_isChannel (v0 : Int) (σ : gs_Mem) : Option (Int) :=
  if (gn v0) < 0 then
    some 0
  else
    if 20 ≤ (gn v0) then
      some 0
    else
      some 1
set_option maxRecDepth 100000 in
set_option maxHeartbeats 4000000 in
theorem c_X6_isChannel {E : gs_E} (v0 : Int)  (σ : gs_Mem) : gs_C E yX6_isChannel cX6_isChannel 1 (some .boolean) 0 { frames := 0, cells := 0, slots := 0, locals := 0 } [gi v0] σ (f_X6_isChannel v0 σ) (fun v : Int => (v, σ)) := by
  unfold f_X6_isChannel
  refine gs_enter (L := [(0, gi v0)]) (by decide) rfl rfl (Nat.le_of_ble_eq_true rfl) rfl ?_
  refine gk_iload_n (pc := 0) 0 dX6_isChannel_0 rfl ?_
  refine gk_if_lt (tgt := 14) (pc := 1) dX6_isChannel_1 (by decide) rfl ?_ ?_
  · refine gk_iconst (pc := 14) dX6_isChannel_14 ?_
    exact gk_zret (pc := 15) (Or.inl (by decide +kernel)) rfl dX6_isChannel_15
  · refine gk_iload_n (pc := 4) 0 dX6_isChannel_4 rfl ?_
    refine gk_bipush (pc := 5) dX6_isChannel_5 (by decide +kernel) ?_
    refine gk_icmp_ge (tgt := 14) (pc := 7) dX6_isChannel_7 (by decide) rfl (by decide +kernel) ?_ ?_
    · refine gk_iconst (pc := 14) dX6_isChannel_14 ?_
      exact gk_zret (pc := 15) (Or.inl (by decide +kernel)) rfl dX6_isChannel_15
    · refine gk_iconst (pc := 10) dX6_isChannel_10 ?_
      refine gk_goto (tgt := 15) (pc := 11) dX6_isChannel_11 (by decide) ?_
      exact gk_zret (pc := 15) (Or.inr (by decide +kernel)) rfl dX6_isChannel_15
def f_X6_isPart_J9 (σ : gs_Mem)  : Option (Int) :=
  some 1
set_option maxRecDepth 100000 in
set_option maxHeartbeats 4000000 in
theorem k_X6_isPart_J9 {E : gs_E} (σ : gs_Mem)     : gs_K E (gs_MC E yX6_isPart cX6_isPart 1 (some .boolean) 0 { frames := 0, cells := 0, slots := 0, locals := 0 }) (fun v : Int => (v, σ)) (f_X6_isPart_J9 σ) 9 [] [] σ := by
  unfold f_X6_isPart_J9
  refine gk_iconst (pc := 9) dX6_isPart_9 ?_
  refine gk_goto (tgt := 14) (pc := 10) dX6_isPart_10 (by decide) ?_
  exact gk_zret (pc := 14) (Or.inr (by decide +kernel)) rfl dX6_isPart_14
def f_X6_isPart (v0 : Int) (σ : gs_Mem) : Option (Int) :=
  if (gn v0) = 0 then
    f_X6_isPart_J9 σ
  else
    if (gn v0) = 1 then
      f_X6_isPart_J9 σ
    else
      some 0
set_option maxRecDepth 100000 in
set_option maxHeartbeats 4000000 in
theorem c_X6_isPart {E : gs_E} (v0 : Int)  (σ : gs_Mem) : gs_C E yX6_isPart cX6_isPart 1 (some .boolean) 0 { frames := 0, cells := 0, slots := 0, locals := 0 } [gi v0] σ (f_X6_isPart v0 σ) (fun v : Int => (v, σ)) := by
  unfold f_X6_isPart
  refine gs_enter (L := [(0, gi v0)]) (by decide) rfl rfl (Nat.le_of_ble_eq_true rfl) rfl ?_
  refine gk_iload_n (pc := 0) 0 dX6_isPart_0 rfl ?_
  refine gk_if_eq (tgt := 9) (pc := 1) dX6_isPart_1 (by decide) rfl ?_ ?_
  · refine gk_sub (L' := []) [] rfl ?_
    exact k_X6_isPart_J9 σ
  · refine gk_iload_n (pc := 4) 0 dX6_isPart_4 rfl ?_
    refine gk_iconst (pc := 5) dX6_isPart_5 ?_
    refine gk_icmp_ne (tgt := 13) (pc := 6) dX6_isPart_6 (by decide) rfl (by decide +kernel) ?_ ?_
    · refine gk_iconst (pc := 13) dX6_isPart_13 ?_
      exact gk_zret (pc := 14) (Or.inl (by decide +kernel)) rfl dX6_isPart_14
    · refine gk_sub (L' := []) [] rfl ?_
      exact k_X6_isPart_J9 σ
def f_X6_partOf_L8 (σ : gs_Mem) (v0 : Int) (v1 : Int) (v2 : Int) (k39 : Int → Option (Int)) : Nat → Int → Int → Int → Option (Int)
  | 0, _, _, _ => none
  | n + 1, v3, v4, v5 =>
    if 64 ≤ (gn v5) then
      k39 v3
    else
      if (gn v4) = 0 then
        k39 v3
      else
        gs_chk0 (gn v4) (
        f_X6_partOf_L8 σ v0 v1 v2 k39 n v4 (grem v3 v4) (v5 + 1))
set_option maxRecDepth 100000 in
set_option maxHeartbeats 4000000 in
theorem k_X6_partOf_L8 {E : gs_E} (σ : gs_Mem) (v0 : Int) (v1 : Int) (v2 : Int) (k39 : Int → Option (Int))  (hk39 : ∀ (w3 : Int), gs_K E (gs_MC E yX6_partOf cX6_partOf 7 (some .long) 1 { frames := 0, cells := 0, slots := 0, locals := 0 }) (fun v : Int => (v, σ)) (k39 w3) 39 [(0, gi v0), (1, gi v1), (2, gi v2), (3, gi w3)] [] σ) : ∀ (n : Nat) (v3 : Int) (v4 : Int) (v5 : Int), gs_K E (gs_MC E yX6_partOf cX6_partOf 7 (some .long) 1 { frames := 0, cells := 0, slots := 0, locals := 0 }) (fun v : Int => (v, σ)) (f_X6_partOf_L8 σ v0 v1 v2 k39 n v3 v4 v5) 8 [(0, gi v0), (1, gi v1), (2, gi v2), (3, gi v3), (4, gi v4), (5, gi v5)] [] σ := by
  intro n
  induction n with
  | zero => intro v3 v4 v5; rw [f_X6_partOf_L8]; exact gk_none
  | succ n ih =>
    intro v3 v4 v5; rw [f_X6_partOf_L8]
    refine gk_iload (pc := 8) 5 dX6_partOf_8 rfl ?_
    refine gk_bipush (pc := 10) dX6_partOf_10 (by decide +kernel) ?_
    refine gk_icmp_ge (tgt := 39) (pc := 12) dX6_partOf_12 (by decide) rfl (by decide +kernel) ?_ ?_
    · refine gk_sub (L' := [(0, gi v0), (1, gi v1), (2, gi v2), (3, gi v3)]) [0, 1, 2, 3] rfl ?_
      exact hk39 v3
    · refine gk_iload (pc := 15) 4 dX6_partOf_15 rfl ?_
      refine gk_if_eq (tgt := 39) (pc := 17) dX6_partOf_17 (by decide) rfl ?_ ?_
      · refine gk_sub (L' := [(0, gi v0), (1, gi v1), (2, gi v2), (3, gi v3)]) [0, 1, 2, 3] rfl ?_
        exact hk39 v3
      · refine gk_iload_n (pc := 20) 3 dX6_partOf_20 rfl ?_
        refine gk_iload (pc := 21) 4 dX6_partOf_21 rfl ?_
        refine gk_irem_g (pc := 23) dX6_partOf_23 rfl ?_
        refine gk_istore (L' := [(6, gi (grem v3 v4)), (0, gi v0), (1, gi v1), (2, gi v2), (3, gi v3), (4, gi v4), (5, gi v5)]) (pc := 24) dX6_partOf_24 (Nat.le_of_ble_eq_true rfl) rfl ?_
        refine gk_iload (pc := 26) 5 dX6_partOf_26 rfl ?_
        refine gk_istore_n (L' := [(3, gi v4), (6, gi (grem v3 v4)), (0, gi v0), (1, gi v1), (2, gi v2), (4, gi v4), (5, gi v5)]) (pc := 28) dX6_partOf_28 (Nat.le_of_ble_eq_true rfl) rfl ?_
        refine gk_iload (pc := 29) 1 dX6_partOf_29 rfl ?_
        refine gk_istore (L' := [(4, gi (grem v3 v4)), (3, gi v4), (6, gi (grem v3 v4)), (0, gi v0), (1, gi v1), (2, gi v2), (5, gi v5)]) (pc := 31) dX6_partOf_31 (Nat.le_of_ble_eq_true rfl) rfl ?_
        refine gk_iinc (L' := [(5, gi (v5 + 1)), (4, gi (grem v3 v4)), (3, gi v4), (6, gi (grem v3 v4)), (0, gi v0), (1, gi v1), (2, gi v2)]) (pc := 33) 6 dX6_partOf_33 rfl (Nat.le_of_ble_eq_true rfl) rfl ?_
        refine gk_goto (tgt := 8) (pc := 36) dX6_partOf_36 (by decide) ?_
        refine gk_sub (L' := [(0, gi v0), (1, gi v1), (2, gi v2), (3, gi v4), (4, gi (grem v3 v4)), (5, gi (v5 + 1))]) [4, 5, 6, 2, 1, 0] rfl ?_
        exact ih v4 (grem v3 v4) (v5 + 1)
def f_X6_partOf_J39 (σ : gs_Mem) (v0 : Int) (v1 : Int) (v2 : Int) (v3 : Int) : Option (Int) :=
  if (gn v3) = 0 then
    some (-9223372036854775808)
  else
    if (gn v2) = 0 then
      gs_chk0 (gn v3) (
      some (gn (gdiv v0 v3)))
    else
      gs_chk0 (gn v3) (
      some (gn (gdiv v1 v3)))
set_option maxRecDepth 100000 in
set_option maxHeartbeats 4000000 in
theorem k_X6_partOf_J39 {E : gs_E} (σ : gs_Mem)  (v0 : Int) (v1 : Int) (v2 : Int) (v3 : Int)   : gs_K E (gs_MC E yX6_partOf cX6_partOf 7 (some .long) 1 { frames := 0, cells := 0, slots := 0, locals := 0 }) (fun v : Int => (v, σ)) (f_X6_partOf_J39 σ v0 v1 v2 v3) 39 [(0, gi v0), (1, gi v1), (2, gi v2), (3, gi v3)] [] σ := by
  unfold f_X6_partOf_J39
  refine gk_iload_n (pc := 39) 3 dX6_partOf_39 rfl ?_
  refine gk_if_ne (tgt := 47) (pc := 40) dX6_partOf_40 (by decide) rfl ?_ ?_
  · refine gk_iload_n (pc := 47) 2 dX6_partOf_47 rfl ?_
    refine gk_if_ne (tgt := 58) (pc := 48) dX6_partOf_48 (by decide) rfl ?_ ?_
    · refine gk_iload_n (pc := 58) 1 dX6_partOf_58 rfl ?_
      refine gk_iload_n (pc := 59) 3 dX6_partOf_59 rfl ?_
      refine gk_idiv_g (pc := 60) dX6_partOf_60 rfl ?_
      refine gk_i2l (pc := 61) dX6_partOf_61 ?_
      exact gk_lret (pc := 62) rfl dX6_partOf_62
    · refine gk_iload_n (pc := 51) 0 dX6_partOf_51 rfl ?_
      refine gk_iload_n (pc := 52) 3 dX6_partOf_52 rfl ?_
      refine gk_idiv_g (pc := 53) dX6_partOf_53 rfl ?_
      refine gk_i2l (pc := 54) dX6_partOf_54 ?_
      refine gk_goto (tgt := 62) (pc := 55) dX6_partOf_55 (by decide) ?_
      exact gk_lret (pc := 62) rfl dX6_partOf_62
  · refine gk_ldc2 (x := -9223372036854775808) (pc := 43) rfl dX6_partOf_43 ww_642 (by decide +kernel) ?_
    exact gk_lret (pc := 46) rfl dX6_partOf_46
def f_X6_partOf (v0 : Int) (v1 : Int) (v2 : Int) (σ : gs_Mem) : Option (Int) :=
  f_X6_partOf_L8 σ v0 v1 v2 (fun w3 =>
    f_X6_partOf_J39 σ v0 v1 v2 w3) gs_fuel v0 v1 0
set_option maxRecDepth 100000 in
set_option maxHeartbeats 4000000 in
theorem c_X6_partOf {E : gs_E} (v0 : Int) (v1 : Int) (v2 : Int)  (σ : gs_Mem) : gs_C E yX6_partOf cX6_partOf 7 (some .long) 1 { frames := 0, cells := 0, slots := 0, locals := 0 } [gi v0, gi v1, gi v2] σ (f_X6_partOf v0 v1 v2 σ) (fun v : Int => (v, σ)) := by
  unfold f_X6_partOf
  refine gs_enter (L := [(0, gi v0), (1, gi v1), (2, gi v2)]) (by decide) rfl rfl (Nat.le_of_ble_eq_true rfl) rfl ?_
  refine gk_iload_n (pc := 0) 0 dX6_partOf_0 rfl ?_
  refine gk_istore_n (L' := [(3, gi v0), (0, gi v0), (1, gi v1), (2, gi v2)]) (pc := 1) dX6_partOf_1 (Nat.le_of_ble_eq_true rfl) rfl ?_
  refine gk_iload_n (pc := 2) 2 dX6_partOf_2 rfl ?_
  refine gk_istore (L' := [(4, gi v1), (3, gi v0), (0, gi v0), (1, gi v1), (2, gi v2)]) (pc := 3) dX6_partOf_3 (Nat.le_of_ble_eq_true rfl) rfl ?_
  refine gk_iconst (pc := 5) dX6_partOf_5 ?_
  refine gk_istore (L' := [(5, gi 0), (4, gi v1), (3, gi v0), (0, gi v0), (1, gi v1), (2, gi v2)]) (pc := 6) dX6_partOf_6 (Nat.le_of_ble_eq_true rfl) rfl ?_
  refine gk_sub (L' := [(0, gi v0), (1, gi v1), (2, gi v2), (3, gi v0), (4, gi v1), (5, gi 0)]) [3, 4, 5, 2, 1, 0] rfl ?_
  refine k_X6_partOf_L8 σ v0 v1 v2 _ ?_ gs_fuel v0 v1 0
  · intro w3
    exact k_X6_partOf_J39 σ v0 v1 v2 w3
def f_X6_isTape (v0 : Int) (σ : gs_Mem) : Option (Int) :=
  if (gn v0) < 0 then
    some 0
  else
    if 6 ≤ (gn v0) then
      some 0
    else
      some 1
set_option maxRecDepth 100000 in
set_option maxHeartbeats 4000000 in
theorem c_X6_isTape {E : gs_E} (v0 : Int)  (σ : gs_Mem) : gs_C E yX6_isTape cX6_isTape 1 (some .boolean) 0 { frames := 0, cells := 0, slots := 0, locals := 0 } [gi v0] σ (f_X6_isTape v0 σ) (fun v : Int => (v, σ)) := by
  unfold f_X6_isTape
  refine gs_enter (L := [(0, gi v0)]) (by decide) rfl rfl (Nat.le_of_ble_eq_true rfl) rfl ?_
  refine gk_iload_n (pc := 0) 0 dX6_isTape_0 rfl ?_
  refine gk_if_lt (tgt := 14) (pc := 1) dX6_isTape_1 (by decide) rfl ?_ ?_
  · refine gk_iconst (pc := 14) dX6_isTape_14 ?_
    exact gk_zret (pc := 15) (Or.inl (by decide +kernel)) rfl dX6_isTape_15
  · refine gk_iload_n (pc := 4) 0 dX6_isTape_4 rfl ?_
    refine gk_bipush (pc := 5) dX6_isTape_5 (by decide +kernel) ?_
    refine gk_icmp_ge (tgt := 14) (pc := 7) dX6_isTape_7 (by decide) rfl (by decide +kernel) ?_ ?_
    · refine gk_iconst (pc := 14) dX6_isTape_14 ?_
      exact gk_zret (pc := 15) (Or.inl (by decide +kernel)) rfl dX6_isTape_15
    · refine gk_iconst (pc := 10) dX6_isTape_10 ?_
      refine gk_goto (tgt := 15) (pc := 11) dX6_isTape_11 (by decide) ?_
      exact gk_zret (pc := 15) (Or.inr (by decide +kernel)) rfl dX6_isTape_15
