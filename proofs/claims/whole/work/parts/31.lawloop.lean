def f_L_law_J1144 (xs : Nat → Int32) (Ls : Nat) (k18 : Int → gs_Mem → Option (Int × gs_Mem)) (v3 : Int) (σ : gs_Mem) : Option (Int × gs_Mem) :=
  k18 (v3 + 6) σ
set_option maxRecDepth 100000 in
set_option maxHeartbeats 4000000 in
theorem k_L_law_J1144 {E : gs_E} {b : Nat} (xs : Nat → Int32) (Ls : Nat) (k18 : Int → gs_Mem → Option (Int × gs_Mem))  (v3 : Int)  (hk18 : ∀ (w3 : Int) (σ : gs_Mem), gs_K E (gs_ML E b Ls xs) (fun b : Int × gs_Mem => b) (k18 w3 σ) 18 [(0, .ref b), (1, gr E 0), (2, gr E 70), (3, gi w3)] [] σ) (σ : gs_Mem) : gs_K E (gs_ML E b Ls xs) (fun b : Int × gs_Mem => b) (f_L_law_J1144 xs Ls k18 v3 σ) 1144 [(0, .ref b), (1, gr E 0), (2, gr E 70), (3, gi v3)] [] σ := by
  unfold f_L_law_J1144
  refine gk_iinc (L' := [(3, gi (v3 + 6)), (0, .ref b), (1, gr E 0), (2, gr E 70)]) (pc := 1144) 3 dL_law_1144 rfl (Nat.le_of_ble_eq_true rfl) rfl ?_
  refine gk_goto (tgt := 18) (pc := 1147) dL_law_1147 (by decide) ?_
  refine gk_sub (L' := [(0, .ref b), (1, gr E 0), (2, gr E 70), (3, gi (v3 + 6))]) [1, 2, 3, 0] rfl ?_
  exact hk18 (v3 + 6) σ
def f_L_law_J322 (xs : Nat → Int32) (Ls : Nat) (k18 : Int → gs_Mem → Option (Int × gs_Mem)) (v3 : Int) (t0 : Int) (t1 : Int) (t3 : Int) (σ : gs_Mem) : Option (Int × gs_Mem) :=
  (f_X7_fix t1 t0 σ).bind fun b489 =>
  if (gn t3) = (gn b489.1) then
    f_L_law_J1144 xs Ls k18 v3 b489.2
  else
    none
set_option maxRecDepth 100000 in
set_option maxHeartbeats 4000000 in
theorem k_L_law_J322 {E : gs_E} {b : Nat} (xs : Nat → Int32) (Ls : Nat) (k18 : Int → gs_Mem → Option (Int × gs_Mem))  (v3 : Int) (t0 : Int) (t1 : Int) (t3 : Int)  (hk18 : ∀ (w3 : Int) (σ : gs_Mem), gs_K E (gs_ML E b Ls xs) (fun b : Int × gs_Mem => b) (k18 w3 σ) 18 [(0, .ref b), (1, gr E 0), (2, gr E 70), (3, gi w3)] [] σ) (σ : gs_Mem) : gs_K E (gs_ML E b Ls xs) (fun b : Int × gs_Mem => b) (f_L_law_J322 xs Ls k18 v3 t0 t1 t3 σ) 322 [(0, .ref b), (1, gr E 0), (2, gr E 70), (3, gi v3)] [gi t0, gi t1, gr E 70, gi t3] σ := by
  unfold f_L_law_J322
  refine gk_callV_iw (As := [gi t1, gi t0]) (pc := 322) (c_X7_fix t1 t0 σ) rfl mm_X7_fix ww_864 clsX7 rfl cll_70 sh_70 (gs_fitL (Nat.le_of_ble_eq_true rfl) (Nat.le_of_ble_eq_true rfl)) rfl rfl (Nat.le_of_ble_eq_true rfl) dL_law_322 (fun b489 => ?_)
  refine gk_icmp_eq (tgt := 1144) (pc := 325) dL_law_325 (by decide) rfl rfl ?_ ?_
  · exact k_L_law_J1144 xs Ls k18 v3 hk18 b489.2
  · refine gk_iconst (pc := 328) dL_law_328 ?_
    exact gk_none
def f_L_law_J300 (xs : Nat → Int32) (Ls : Nat) (k18 : Int → gs_Mem → Option (Int × gs_Mem)) (v3 : Int) (t0 : Int) (t1 : Int) (σ : gs_Mem) : Option (Int × gs_Mem) :=
  (f_X6_fix t1 t0 σ).bind fun b488 =>
  gs_chk (gn (v3 + 1)) Ls (
  gs_chk (gn (v3 + 2)) Ls (
  if ((xs (gn (v3 + 2)).toNat).toInt) = 0 then
    f_L_law_J322 xs Ls k18 v3 0 ((xs (gn (v3 + 1)).toNat).toInt) b488.1 b488.2
  else
    f_L_law_J322 xs Ls k18 v3 1 ((xs (gn (v3 + 1)).toNat).toInt) b488.1 b488.2))
set_option maxRecDepth 100000 in
set_option maxHeartbeats 4000000 in
theorem k_L_law_J300 {E : gs_E} {b : Nat} (xs : Nat → Int32) (Ls : Nat) (k18 : Int → gs_Mem → Option (Int × gs_Mem))  (v3 : Int) (t0 : Int) (t1 : Int)  (hk18 : ∀ (w3 : Int) (σ : gs_Mem), gs_K E (gs_ML E b Ls xs) (fun b : Int × gs_Mem => b) (k18 w3 σ) 18 [(0, .ref b), (1, gr E 0), (2, gr E 70), (3, gi w3)] [] σ) (σ : gs_Mem) : gs_K E (gs_ML E b Ls xs) (fun b : Int × gs_Mem => b) (f_L_law_J300 xs Ls k18 v3 t0 t1 σ) 300 [(0, .ref b), (1, gr E 0), (2, gr E 70), (3, gi v3)] [gi t0, gi t1, gr E 0] σ := by
  unfold f_L_law_J300
  refine gk_callV_iw (As := [gi t1, gi t0]) (pc := 300) (c_X6_fix t1 t0 σ) rfl mm_X6_fix ww_319 clsX6 rfl cll_0 sh_0 (gs_fitL (Nat.le_of_ble_eq_true rfl) (Nat.le_of_ble_eq_true rfl)) rfl rfl (Nat.le_of_ble_eq_true rfl) dL_law_300 (fun b488 => ?_)
  refine gk_aload_n (pc := 303) 2 dL_law_303 rfl ?_
  refine gk_aloadR_n (x := b) (pc := 304) 0 dL_law_304 rfl ?_
  refine gk_iload_n (pc := 305) 3 dL_law_305 rfl ?_
  refine gk_iconst (pc := 306) dL_law_306 ?_
  refine gk_iadd (pc := 307) dL_law_307 ?_
  refine gk_sld (pc := 308) rfl dL_law_308 ?_
  refine gk_aloadR_n (x := b) (pc := 309) 0 dL_law_309 rfl ?_
  refine gk_iload_n (pc := 310) 3 dL_law_310 rfl ?_
  refine gk_iconst (pc := 311) dL_law_311 ?_
  refine gk_iadd (pc := 312) dL_law_312 ?_
  refine gk_sld (pc := 313) rfl dL_law_313 ?_
  refine gk_if_eq (tgt := 321) (pc := 314) dL_law_314 (by decide) (gn_ti _) ?_ ?_
  · refine gk_iconst (pc := 321) dL_law_321 ?_
    exact k_L_law_J322 xs Ls k18 v3 0 ((xs (gn (v3 + 1)).toNat).toInt) b488.1 hk18 b488.2
  · refine gk_iconst (pc := 317) dL_law_317 ?_
    refine gk_goto (tgt := 322) (pc := 318) dL_law_318 (by decide) ?_
    exact k_L_law_J322 xs Ls k18 v3 1 ((xs (gn (v3 + 1)).toNat).toInt) b488.1 hk18 b488.2
def f_L_law_L18 (xs : Nat → Int32) (Ls : Nat)  : Nat → Int → gs_Mem → Option (Int × gs_Mem)
  | 0, _, _ => none
  | n + 1, v3, σ =>
    if (gn ((Ls : Int) - 6)) < (gn v3) then
      some (1, σ)
    else
      gs_chk (gn v3) Ls (
      if (gn (gand ((xs (gn v3).toNat).toInt) 31)) = 0 then
        gs_chk (gn (v3 + 1)) Ls (
        gs_chk (gn (v3 + 2)) Ls (
        (f_X6_station ((xs (gn (v3 + 1)).toNat).toInt) ((xs (gn (v3 + 2)).toNat).toInt) σ).bind fun b482 =>
        gs_chk (gn (v3 + 1)) Ls (
        gs_chk (gn (v3 + 2)) Ls (
        (f_X7_station ((xs (gn (v3 + 1)).toNat).toInt) ((xs (gn (v3 + 2)).toNat).toInt) b482.2).bind fun b483 =>
        if (gn b482.1) = (gn b483.1) then
          f_L_law_J1144 xs Ls (f_L_law_L18 xs Ls n) v3 b483.2
        else
          none))))
      else if (gn (gand ((xs (gn v3).toNat).toInt) 31)) = 1 then
        gs_chk (gn (v3 + 1)) Ls (
        gs_chk (gn (v3 + 2)) Ls (
        gs_chk (gn (v3 + 3)) Ls (
        (f_X6_rule ((xs (gn (v3 + 1)).toNat).toInt) ((xs (gn (v3 + 2)).toNat).toInt) ((xs (gn (v3 + 3)).toNat).toInt) σ).bind fun b484 =>
        gs_chk (gn (v3 + 1)) Ls (
        gs_chk (gn (v3 + 2)) Ls (
        gs_chk (gn (v3 + 3)) Ls (
        (f_X7_rule ((xs (gn (v3 + 1)).toNat).toInt) ((xs (gn (v3 + 2)).toNat).toInt) ((xs (gn (v3 + 3)).toNat).toInt) b484.2).bind fun b485 =>
        if (gn b484.1) = (gn b485.1) then
          f_L_law_J1144 xs Ls (f_L_law_L18 xs Ls n) v3 b485.2
        else
          none))))))
      else if (gn (gand ((xs (gn v3).toNat).toInt) 31)) = 2 then
        gs_chk (gn (v3 + 1)) Ls (
        gs_chk (gn (v3 + 2)) Ls (
        (f_X6_channel ((xs (gn (v3 + 1)).toNat).toInt) ((xs (gn (v3 + 2)).toNat).toInt) σ).bind fun b486 =>
        gs_chk (gn (v3 + 1)) Ls (
        gs_chk (gn (v3 + 2)) Ls (
        (f_X7_channel ((xs (gn (v3 + 1)).toNat).toInt) ((xs (gn (v3 + 2)).toNat).toInt) b486.2).bind fun b487 =>
        if (gn b486.1) = (gn b487.1) then
          f_L_law_J1144 xs Ls (f_L_law_L18 xs Ls n) v3 b487.2
        else
          none))))
      else if (gn (gand ((xs (gn v3).toNat).toInt) 31)) = 3 then
        gs_chk (gn (v3 + 1)) Ls (
        gs_chk (gn (v3 + 2)) Ls (
        if ((xs (gn (v3 + 2)).toNat).toInt) = 0 then
          f_L_law_J300 xs Ls (f_L_law_L18 xs Ls n) v3 0 ((xs (gn (v3 + 1)).toNat).toInt) σ
        else
          f_L_law_J300 xs Ls (f_L_law_L18 xs Ls n) v3 1 ((xs (gn (v3 + 1)).toNat).toInt) σ))
      else if (gn (gand ((xs (gn v3).toNat).toInt) 31)) = 4 then
        gs_chk (gn (v3 + 1)) Ls (
        gs_chk (gn (v3 + 2)) Ls (
        gs_chk (gn (v3 + 3)) Ls (
        (f_X6_move ((xs (gn (v3 + 1)).toNat).toInt) ((xs (gn (v3 + 2)).toNat).toInt) ((xs (gn (v3 + 3)).toNat).toInt) σ).bind fun b490 =>
        gs_chk (gn (v3 + 1)) Ls (
        gs_chk (gn (v3 + 2)) Ls (
        gs_chk (gn (v3 + 3)) Ls (
        (f_X7_move ((xs (gn (v3 + 1)).toNat).toInt) ((xs (gn (v3 + 2)).toNat).toInt) ((xs (gn (v3 + 3)).toNat).toInt) b490.2).bind fun b491 =>
        if (gn b490.1) = (gn b491.1) then
          f_L_law_J1144 xs Ls (f_L_law_L18 xs Ls n) v3 b491.2
        else
          none))))))
      else if (gn (gand ((xs (gn v3).toNat).toInt) 31)) = 5 then
        gs_chk (gn (v3 + 1)) Ls (
        (f_X6_feed ((xs (gn (v3 + 1)).toNat).toInt) σ).bind fun b492 =>
        gs_chk (gn (v3 + 1)) Ls (
        (f_X7_feed ((xs (gn (v3 + 1)).toNat).toInt) b492.2).bind fun b493 =>
        if (gn b492.1) = (gn b493.1) then
          f_L_law_J1144 xs Ls (f_L_law_L18 xs Ls n) v3 b493.2
        else
          none))
      else if (gn (gand ((xs (gn v3).toNat).toInt) 31)) = 6 then
        (f_X6_read σ).bind fun b494 =>
        (f_X7_read b494.2).bind fun b495 =>
        if (gn b494.1) = (gn b495.1) then
          f_L_law_J1144 xs Ls (f_L_law_L18 xs Ls n) v3 b495.2
        else
          none
      else if (gn (gand ((xs (gn v3).toNat).toInt) 31)) = 7 then
        gs_chk (gn (v3 + 1)) Ls (
        gs_chk (gn (v3 + 2)) Ls (
        (f_X6_of ((xs (gn (v3 + 1)).toNat).toInt) ((xs (gn (v3 + 2)).toNat).toInt) σ).bind fun u496 =>
        gs_chk (gn (v3 + 1)) Ls (
        gs_chk (gn (v3 + 2)) Ls (
        (f_X7_of ((xs (gn (v3 + 1)).toNat).toInt) ((xs (gn (v3 + 2)).toNat).toInt) σ).bind fun u497 =>
        if (gn u496) = (gn u497) then
          f_L_law_J1144 xs Ls (f_L_law_L18 xs Ls n) v3 σ
        else
          none))))
      else if (gn (gand ((xs (gn v3).toNat).toInt) 31)) = 8 then
        gs_chk (gn (v3 + 1)) Ls (
        gs_chk (gn (v3 + 2)) Ls (
        (f_X6_apart ((xs (gn (v3 + 1)).toNat).toInt) ((xs (gn (v3 + 2)).toNat).toInt) σ).bind fun u498 =>
        gs_chk (gn (v3 + 1)) Ls (
        gs_chk (gn (v3 + 2)) Ls (
        (f_X7_apart ((xs (gn (v3 + 1)).toNat).toInt) ((xs (gn (v3 + 2)).toNat).toInt) σ).bind fun u499 =>
        if (gn u498) = (gn u499) then
          f_L_law_J1144 xs Ls (f_L_law_L18 xs Ls n) v3 σ
        else
          none))))
      else if (gn (gand ((xs (gn v3).toNat).toInt) 31)) = 9 then
        gs_chk (gn (v3 + 1)) Ls (
        gs_chk (gn (v3 + 2)) Ls (
        (f_X6_at ((xs (gn (v3 + 1)).toNat).toInt) ((xs (gn (v3 + 2)).toNat).toInt) σ).bind fun u500 =>
        gs_chk (gn (v3 + 1)) Ls (
        gs_chk (gn (v3 + 2)) Ls (
        (f_X7_at ((xs (gn (v3 + 1)).toNat).toInt) ((xs (gn (v3 + 2)).toNat).toInt) σ).bind fun u501 =>
        if (gn u500) = (gn u501) then
          f_L_law_J1144 xs Ls (f_L_law_L18 xs Ls n) v3 σ
        else
          none))))
      else if (gn (gand ((xs (gn v3).toNat).toInt) 31)) = 10 then
        (f_X6_assign σ).bind fun b502 =>
        (f_X7_assign b502.2).bind fun b503 =>
        if (gn b502.1) = (gn b503.1) then
          f_L_law_J1144 xs Ls (f_L_law_L18 xs Ls n) v3 b503.2
        else
          none
      else if (gn (gand ((xs (gn v3).toNat).toInt) 31)) = 11 then
        gs_chk (gn (v3 + 1)) Ls (
        gs_chk (gn (v3 + 2)) Ls (
        (f_X6_exchange ((xs (gn (v3 + 1)).toNat).toInt) ((xs (gn (v3 + 2)).toNat).toInt) σ).bind fun b504 =>
        gs_chk (gn (v3 + 1)) Ls (
        gs_chk (gn (v3 + 2)) Ls (
        (f_X7_exchange ((xs (gn (v3 + 1)).toNat).toInt) ((xs (gn (v3 + 2)).toNat).toInt) b504.2).bind fun b505 =>
        if (gn b504.1) = (gn b505.1) then
          f_L_law_J1144 xs Ls (f_L_law_L18 xs Ls n) v3 b505.2
        else
          none))))
      else if (gn (gand ((xs (gn v3).toNat).toInt) 31)) = 12 then
        gs_chk (gn (v3 + 1)) Ls (
        (f_X6_told ((xs (gn (v3 + 1)).toNat).toInt) σ).bind fun b506 =>
        gs_chk (gn (v3 + 1)) Ls (
        (f_X7_told ((xs (gn (v3 + 1)).toNat).toInt) b506.2).bind fun b507 =>
        if (gn b506.1) = (gn b507.1) then
          f_L_law_J1144 xs Ls (f_L_law_L18 xs Ls n) v3 b507.2
        else
          none))
      else if (gn (gand ((xs (gn v3).toNat).toInt) 31)) = 13 then
        gs_chk (gn (v3 + 1)) Ls (
        (f_X6_clique ((xs (gn (v3 + 1)).toNat).toInt) σ).bind fun b508 =>
        gs_chk (gn (v3 + 1)) Ls (
        (f_X7_clique ((xs (gn (v3 + 1)).toNat).toInt) b508.2).bind fun u509 =>
        if (gn b508.1) = (gn u509) then
          f_L_law_J1144 xs Ls (f_L_law_L18 xs Ls n) v3 b508.2
        else
          none))
      else if (gn (gand ((xs (gn v3).toNat).toInt) 31)) = 14 then
        gs_chk (gn (v3 + 1)) Ls (
        (f_X6_sorted ((xs (gn (v3 + 1)).toNat).toInt) σ).bind fun u510 =>
        gs_chk (gn (v3 + 1)) Ls (
        (f_X7_sorted ((xs (gn (v3 + 1)).toNat).toInt) σ).bind fun u511 =>
        if (gn u510) = (gn u511) then
          f_L_law_J1144 xs Ls (f_L_law_L18 xs Ls n) v3 σ
        else
          none))
      else if (gn (gand ((xs (gn v3).toNat).toInt) 31)) = 15 then
        gs_chk (gn (v3 + 1)) Ls (
        gs_chk (gn (v3 + 2)) Ls (
        (f_X6_see ((xs (gn (v3 + 1)).toNat).toInt) ((xs (gn (v3 + 2)).toNat).toInt) σ).bind fun b512 =>
        gs_chk (gn (v3 + 1)) Ls (
        gs_chk (gn (v3 + 2)) Ls (
        (f_X7_see ((xs (gn (v3 + 1)).toNat).toInt) ((xs (gn (v3 + 2)).toNat).toInt) b512.2).bind fun b513 =>
        if (gn b512.1) = (gn b513.1) then
          f_L_law_J1144 xs Ls (f_L_law_L18 xs Ls n) v3 b513.2
        else
          none))))
      else if (gn (gand ((xs (gn v3).toNat).toInt) 31)) = 16 then
        gs_chk (gn (v3 + 1)) Ls (
        gs_chk (gn (v3 + 2)) Ls (
        (f_X6_fits ((xs (gn (v3 + 1)).toNat).toInt) ((xs (gn (v3 + 2)).toNat).toInt) σ).bind fun b514 =>
        gs_chk (gn (v3 + 1)) Ls (
        gs_chk (gn (v3 + 2)) Ls (
        (f_X7_fits ((xs (gn (v3 + 1)).toNat).toInt) ((xs (gn (v3 + 2)).toNat).toInt) b514.2).bind fun b515 =>
        if (gn b514.1) = (gn b515.1) then
          f_L_law_J1144 xs Ls (f_L_law_L18 xs Ls n) v3 b515.2
        else
          none))))
      else if (gn (gand ((xs (gn v3).toNat).toInt) 31)) = 17 then
        gs_chk (gn (v3 + 1)) Ls (
        gs_chk (gn (v3 + 2)) Ls (
        (f_X6_odds ((xs (gn (v3 + 1)).toNat).toInt) ((xs (gn (v3 + 2)).toNat).toInt) σ).bind fun b516 =>
        gs_chk (gn (v3 + 1)) Ls (
        gs_chk (gn (v3 + 2)) Ls (
        (f_X7_odds ((xs (gn (v3 + 1)).toNat).toInt) ((xs (gn (v3 + 2)).toNat).toInt) b516.2).bind fun b517 =>
        if (gn (gcmp b516.1 b517.1)) = 0 then
          f_L_law_J1144 xs Ls (f_L_law_L18 xs Ls n) v3 b517.2
        else
          none))))
      else if (gn (gand ((xs (gn v3).toNat).toInt) 31)) = 18 then
        gs_chk (gn (v3 + 1)) Ls (
        (f_X6_mean ((xs (gn (v3 + 1)).toNat).toInt) σ).bind fun u518 =>
        gs_chk (gn (v3 + 1)) Ls (
        (f_X7_mean ((xs (gn (v3 + 1)).toNat).toInt) σ).bind fun u519 =>
        if (gn (gcmp u518 u519)) = 0 then
          f_L_law_J1144 xs Ls (f_L_law_L18 xs Ls n) v3 σ
        else
          none))
      else if (gn (gand ((xs (gn v3).toNat).toInt) 31)) = 19 then
        gs_chk (gn (v3 + 1)) Ls (
        gs_chk (gn (v3 + 2)) Ls (
        (f_X6_plan ((xs (gn (v3 + 1)).toNat).toInt) ((xs (gn (v3 + 2)).toNat).toInt) σ).bind fun b520 =>
        gs_chk (gn (v3 + 1)) Ls (
        gs_chk (gn (v3 + 2)) Ls (
        (f_X7_plan ((xs (gn (v3 + 1)).toNat).toInt) ((xs (gn (v3 + 2)).toNat).toInt) b520.2).bind fun b521 =>
        if (gn b520.1) = (gn b521.1) then
          f_L_law_J1144 xs Ls (f_L_law_L18 xs Ls n) v3 b521.2
        else
          none))))
      else if (gn (gand ((xs (gn v3).toNat).toInt) 31)) = 20 then
        gs_chk (gn (v3 + 1)) Ls (
        (f_X6_ends ((xs (gn (v3 + 1)).toNat).toInt) σ).bind fun b522 =>
        gs_chk (gn (v3 + 1)) Ls (
        (f_X7_ends ((xs (gn (v3 + 1)).toNat).toInt) b522.2).bind fun b523 =>
        if (gn b522.1) = (gn b523.1) then
          f_L_law_J1144 xs Ls (f_L_law_L18 xs Ls n) v3 b523.2
        else
          none))
      else if (gn (gand ((xs (gn v3).toNat).toInt) 31)) = 21 then
        gs_chk (gn (v3 + 1)) Ls (
        gs_chk (gn (v3 + 2)) Ls (
        (f_X6_book ((xs (gn (v3 + 1)).toNat).toInt) ((xs (gn (v3 + 2)).toNat).toInt) σ).bind fun b524 =>
        gs_chk (gn (v3 + 1)) Ls (
        gs_chk (gn (v3 + 2)) Ls (
        (f_X7_book ((xs (gn (v3 + 1)).toNat).toInt) ((xs (gn (v3 + 2)).toNat).toInt) b524.2).bind fun b525 =>
        if (gn b524.1) = (gn b525.1) then
          f_L_law_J1144 xs Ls (f_L_law_L18 xs Ls n) v3 b525.2
        else
          none))))
      else if (gn (gand ((xs (gn v3).toNat).toInt) 31)) = 22 then
        (f_X6_looked σ).bind fun u526 =>
        (f_X7_looked σ).bind fun u527 =>
        if (gn u526) = (gn u527) then
          f_L_law_J1144 xs Ls (f_L_law_L18 xs Ls n) v3 σ
        else
          none
      else if (gn (gand ((xs (gn v3).toNat).toInt) 31)) = 23 then
        gs_chk (gn (v3 + 1)) Ls (
        gs_chk (gn (v3 + 2)) Ls (
        (f_X6_judge ((xs (gn (v3 + 1)).toNat).toInt) ((xs (gn (v3 + 2)).toNat).toInt) σ).bind fun u528 =>
        gs_chk (gn (v3 + 1)) Ls (
        gs_chk (gn (v3 + 2)) Ls (
        (f_X7_judge ((xs (gn (v3 + 1)).toNat).toInt) ((xs (gn (v3 + 2)).toNat).toInt) σ).bind fun u529 =>
        if (gn u528) = (gn u529) then
          f_L_law_J1144 xs Ls (f_L_law_L18 xs Ls n) v3 σ
        else
          none))))
      else if (gn (gand ((xs (gn v3).toNat).toInt) 31)) = 24 then
        (f_X6_image σ).bind fun b530 =>
        (f_X7_image b530.2).bind fun b531 =>
        if (gn b530.1) = (gn b531.1) then
          f_L_law_J1144 xs Ls (f_L_law_L18 xs Ls n) v3 b531.2
        else
          none
      else if (gn (gand ((xs (gn v3).toNat).toInt) 31)) = 25 then
        (f_X6_undo σ).bind fun b532 =>
        (f_X7_undo b532.2).bind fun b533 =>
        if (gn b532.1) = (gn b533.1) then
          f_L_law_J1144 xs Ls (f_L_law_L18 xs Ls n) v3 b533.2
        else
          none
      else if (gn (gand ((xs (gn v3).toNat).toInt) 31)) = 26 then
        gs_chk (gn (v3 + 1)) Ls (
        (f_X6_count ((xs (gn (v3 + 1)).toNat).toInt) σ).bind fun u534 =>
        gs_chk (gn (v3 + 1)) Ls (
        (f_X7_count ((xs (gn (v3 + 1)).toNat).toInt) σ).bind fun u535 =>
        if (gn u534) = (gn u535) then
          f_L_law_J1144 xs Ls (f_L_law_L18 xs Ls n) v3 σ
        else
          none))
      else if (gn (gand ((xs (gn v3).toNat).toInt) 31)) = 27 then
        gs_chk (gn (v3 + 1)) Ls (
        gs_chk (gn (v3 + 2)) Ls (
        gs_chk (gn (v3 + 3)) Ls (
        (f_X6_tape ((xs (gn (v3 + 1)).toNat).toInt) ((xs (gn (v3 + 2)).toNat).toInt) ((xs (gn (v3 + 3)).toNat).toInt) σ).bind fun b536 =>
        gs_chk (gn (v3 + 1)) Ls (
        gs_chk (gn (v3 + 2)) Ls (
        gs_chk (gn (v3 + 3)) Ls (
        (f_X7_tape ((xs (gn (v3 + 1)).toNat).toInt) ((xs (gn (v3 + 2)).toNat).toInt) ((xs (gn (v3 + 3)).toNat).toInt) b536.2).bind fun b537 =>
        if (gn b536.1) = (gn b537.1) then
          f_L_law_J1144 xs Ls (f_L_law_L18 xs Ls n) v3 b537.2
        else
          none))))))
      else if (gn (gand ((xs (gn v3).toNat).toInt) 31)) = 28 then
        gs_chk (gn (v3 + 1)) Ls (
        gs_chk (gn (v3 + 2)) Ls (
        gs_chk (gn (v3 + 3)) Ls (
        gs_chk (gn (v3 + 4)) Ls (
        (f_X6_item ((xs (gn (v3 + 1)).toNat).toInt) ((xs (gn (v3 + 2)).toNat).toInt) (glor (glshl (gn ((xs (gn (v3 + 3)).toNat).toInt)) 32) (gland (gn ((xs (gn (v3 + 4)).toNat).toInt)) 4294967295)) σ).bind fun b538 =>
        gs_chk (gn (v3 + 1)) Ls (
        gs_chk (gn (v3 + 2)) Ls (
        gs_chk (gn (v3 + 3)) Ls (
        gs_chk (gn (v3 + 4)) Ls (
        (f_X7_item ((xs (gn (v3 + 1)).toNat).toInt) ((xs (gn (v3 + 2)).toNat).toInt) (glor (glshl (gn ((xs (gn (v3 + 3)).toNat).toInt)) 32) (gland (gn ((xs (gn (v3 + 4)).toNat).toInt)) 4294967295)) b538.2).bind fun b539 =>
        if (gn b538.1) = (gn b539.1) then
          f_L_law_J1144 xs Ls (f_L_law_L18 xs Ls n) v3 b539.2
        else
          none))))))))
      else if (gn (gand ((xs (gn v3).toNat).toInt) 31)) = 29 then
        gs_chk (gn (v3 + 1)) Ls (
        gs_chk (gn (v3 + 2)) Ls (
        (f_X6_peek ((xs (gn (v3 + 1)).toNat).toInt) ((xs (gn (v3 + 2)).toNat).toInt) σ).bind fun u540 =>
        gs_chk (gn (v3 + 1)) Ls (
        gs_chk (gn (v3 + 2)) Ls (
        (f_X7_peek ((xs (gn (v3 + 1)).toNat).toInt) ((xs (gn (v3 + 2)).toNat).toInt) σ).bind fun u541 =>
        if (gn (gcmp u540 u541)) = 0 then
          f_L_law_J1144 xs Ls (f_L_law_L18 xs Ls n) v3 σ
        else
          none))))
      else if (gn (gand ((xs (gn v3).toNat).toInt) 31)) = 30 then
        gs_chk (gn (v3 + 1)) Ls (
        gs_chk (gn (v3 + 2)) Ls (
        gs_chk (gn (v3 + 3)) Ls (
        gs_chk (gn (v3 + 4)) Ls (
        gs_chk (gn (v3 + 5)) Ls (
        (f_X6_shift ((xs (gn (v3 + 1)).toNat).toInt) ((xs (gn (v3 + 2)).toNat).toInt) ((xs (gn (v3 + 3)).toNat).toInt) ((xs (gn (v3 + 4)).toNat).toInt) ((xs (gn (v3 + 5)).toNat).toInt) σ).bind fun b542 =>
        gs_chk (gn (v3 + 1)) Ls (
        gs_chk (gn (v3 + 2)) Ls (
        gs_chk (gn (v3 + 3)) Ls (
        gs_chk (gn (v3 + 4)) Ls (
        gs_chk (gn (v3 + 5)) Ls (
        (f_X7_shift ((xs (gn (v3 + 1)).toNat).toInt) ((xs (gn (v3 + 2)).toNat).toInt) ((xs (gn (v3 + 3)).toNat).toInt) ((xs (gn (v3 + 4)).toNat).toInt) ((xs (gn (v3 + 5)).toNat).toInt) b542.2).bind fun b543 =>
        if (gn b542.1) = (gn b543.1) then
          f_L_law_J1144 xs Ls (f_L_law_L18 xs Ls n) v3 b543.2
        else
          none))))))))))
      else 
        f_L_law_J1144 xs Ls (f_L_law_L18 xs Ls n) v3 σ)
set_option maxRecDepth 100000 in
set_option maxHeartbeats 4000000 in
theorem k_L_law_L18 {E : gs_E} {b : Nat} (xs : Nat → Int32) (Ls : Nat)    : ∀ (n : Nat) (v3 : Int) (σ : gs_Mem), gs_K E (gs_ML E b Ls xs) (fun b : Int × gs_Mem => b) (f_L_law_L18 xs Ls n v3 σ) 18 [(0, .ref b), (1, gr E 0), (2, gr E 70), (3, gi v3)] [] σ := by
  intro n
  induction n with
  | zero => intro v3 σ; rw [f_L_law_L18]; exact gk_none
  | succ n ih =>
    intro v3 σ; rw [f_L_law_L18]
    refine gk_iload_n (pc := 18) 3 dL_law_18 rfl ?_
    refine gk_aloadR_n (x := b) (pc := 19) 0 dL_law_19 rfl ?_
    refine gk_slen (x := (Ls : Int)) (pc := 20) rfl dL_law_20 ?_
    refine gk_bipush (pc := 21) dL_law_21 (by decide +kernel) ?_
    refine gk_isub (pc := 23) dL_law_23 ?_
    refine gk_icmp_gt (tgt := 1150) (pc := 24) dL_law_24 (by decide) rfl rfl ?_ ?_
    · refine gk_iconst (pc := 1150) dL_law_1150 ?_
      exact gk_lend (pc := 1151) dL_law_1151
    · refine gk_aloadR_n (x := b) (pc := 27) 0 dL_law_27 rfl ?_
      refine gk_iload_n (pc := 28) 3 dL_law_28 rfl ?_
      refine gk_sld (pc := 29) rfl dL_law_29 ?_
      refine gk_bipush (pc := 30) dL_law_30 (by decide +kernel) ?_
      refine gk_iand (pc := 32) dL_law_32 ?_
      refine gk_sw (tgt := 172) (pc := 33) 0 dL_law_33 (by decide) rfl (by decide) ?_ (fun hs0 => ?_)
      · refine gk_aload_n (pc := 172) 1 dL_law_172 rfl ?_
        refine gk_aloadR_n (x := b) (pc := 173) 0 dL_law_173 rfl ?_
        refine gk_iload_n (pc := 174) 3 dL_law_174 rfl ?_
        refine gk_iconst (pc := 175) dL_law_175 ?_
        refine gk_iadd (pc := 176) dL_law_176 ?_
        refine gk_sld (pc := 177) rfl dL_law_177 ?_
        refine gk_aloadR_n (x := b) (pc := 178) 0 dL_law_178 rfl ?_
        refine gk_iload_n (pc := 179) 3 dL_law_179 rfl ?_
        refine gk_iconst (pc := 180) dL_law_180 ?_
        refine gk_iadd (pc := 181) dL_law_181 ?_
        refine gk_sld (pc := 182) rfl dL_law_182 ?_
        refine gk_callV_iw (As := [gi ((xs (gn (v3 + 1)).toNat).toInt), gi ((xs (gn (v3 + 2)).toNat).toInt)]) (pc := 183) (c_X6_station ((xs (gn (v3 + 1)).toNat).toInt) ((xs (gn (v3 + 2)).toNat).toInt) σ) rfl mm_X6_station ww_250 clsX6 rfl cll_0 sh_0 (gs_fitL (Nat.le_of_ble_eq_true rfl) (Nat.le_of_ble_eq_true rfl)) rfl rfl (Nat.le_of_ble_eq_true rfl) dL_law_183 (fun b482 => ?_)
        refine gk_aload_n (pc := 186) 2 dL_law_186 rfl ?_
        refine gk_aloadR_n (x := b) (pc := 187) 0 dL_law_187 rfl ?_
        refine gk_iload_n (pc := 188) 3 dL_law_188 rfl ?_
        refine gk_iconst (pc := 189) dL_law_189 ?_
        refine gk_iadd (pc := 190) dL_law_190 ?_
        refine gk_sld (pc := 191) rfl dL_law_191 ?_
        refine gk_aloadR_n (x := b) (pc := 192) 0 dL_law_192 rfl ?_
        refine gk_iload_n (pc := 193) 3 dL_law_193 rfl ?_
        refine gk_iconst (pc := 194) dL_law_194 ?_
        refine gk_iadd (pc := 195) dL_law_195 ?_
        refine gk_sld (pc := 196) rfl dL_law_196 ?_
        refine gk_callV_iw (As := [gi ((xs (gn (v3 + 1)).toNat).toInt), gi ((xs (gn (v3 + 2)).toNat).toInt)]) (pc := 197) (c_X7_station ((xs (gn (v3 + 1)).toNat).toInt) ((xs (gn (v3 + 2)).toNat).toInt) b482.2) rfl mm_X7_station ww_809 clsX7 rfl cll_70 sh_70 (gs_fitL (Nat.le_of_ble_eq_true rfl) (Nat.le_of_ble_eq_true rfl)) rfl rfl (Nat.le_of_ble_eq_true rfl) dL_law_197 (fun b483 => ?_)
        refine gk_icmp_eq (tgt := 1144) (pc := 200) dL_law_200 (by decide) rfl rfl ?_ ?_
        · exact k_L_law_J1144 xs Ls (f_L_law_L18 xs Ls n) v3 ih b483.2
        · refine gk_iconst (pc := 203) dL_law_203 ?_
          exact gk_none
      refine gk_sw (tgt := 205) (pc := 33) 1 dL_law_33 (by decide) rfl (by decide) ?_ (fun hs1 => ?_)
      · refine gk_aload_n (pc := 205) 1 dL_law_205 rfl ?_
        refine gk_aloadR_n (x := b) (pc := 206) 0 dL_law_206 rfl ?_
        refine gk_iload_n (pc := 207) 3 dL_law_207 rfl ?_
        refine gk_iconst (pc := 208) dL_law_208 ?_
        refine gk_iadd (pc := 209) dL_law_209 ?_
        refine gk_sld (pc := 210) rfl dL_law_210 ?_
        refine gk_aloadR_n (x := b) (pc := 211) 0 dL_law_211 rfl ?_
        refine gk_iload_n (pc := 212) 3 dL_law_212 rfl ?_
        refine gk_iconst (pc := 213) dL_law_213 ?_
        refine gk_iadd (pc := 214) dL_law_214 ?_
        refine gk_sld (pc := 215) rfl dL_law_215 ?_
        refine gk_aloadR_n (x := b) (pc := 216) 0 dL_law_216 rfl ?_
        refine gk_iload_n (pc := 217) 3 dL_law_217 rfl ?_
        refine gk_iconst (pc := 218) dL_law_218 ?_
        refine gk_iadd (pc := 219) dL_law_219 ?_
        refine gk_sld (pc := 220) rfl dL_law_220 ?_
        refine gk_callV_iw (As := [gi ((xs (gn (v3 + 1)).toNat).toInt), gi ((xs (gn (v3 + 2)).toNat).toInt), gi ((xs (gn (v3 + 3)).toNat).toInt)]) (pc := 221) (c_X6_rule ((xs (gn (v3 + 1)).toNat).toInt) ((xs (gn (v3 + 2)).toNat).toInt) ((xs (gn (v3 + 3)).toNat).toInt) σ) rfl mm_X6_rule ww_273 clsX6 rfl cll_0 sh_0 (gs_fitL (Nat.le_of_ble_eq_true rfl) (Nat.le_of_ble_eq_true rfl)) rfl rfl (Nat.le_of_ble_eq_true rfl) dL_law_221 (fun b484 => ?_)
        refine gk_aload_n (pc := 224) 2 dL_law_224 rfl ?_
        refine gk_aloadR_n (x := b) (pc := 225) 0 dL_law_225 rfl ?_
        refine gk_iload_n (pc := 226) 3 dL_law_226 rfl ?_
        refine gk_iconst (pc := 227) dL_law_227 ?_
        refine gk_iadd (pc := 228) dL_law_228 ?_
        refine gk_sld (pc := 229) rfl dL_law_229 ?_
        refine gk_aloadR_n (x := b) (pc := 230) 0 dL_law_230 rfl ?_
        refine gk_iload_n (pc := 231) 3 dL_law_231 rfl ?_
        refine gk_iconst (pc := 232) dL_law_232 ?_
        refine gk_iadd (pc := 233) dL_law_233 ?_
        refine gk_sld (pc := 234) rfl dL_law_234 ?_
        refine gk_aloadR_n (x := b) (pc := 235) 0 dL_law_235 rfl ?_
        refine gk_iload_n (pc := 236) 3 dL_law_236 rfl ?_
        refine gk_iconst (pc := 237) dL_law_237 ?_
        refine gk_iadd (pc := 238) dL_law_238 ?_
        refine gk_sld (pc := 239) rfl dL_law_239 ?_
        refine gk_callV_iw (As := [gi ((xs (gn (v3 + 1)).toNat).toInt), gi ((xs (gn (v3 + 2)).toNat).toInt), gi ((xs (gn (v3 + 3)).toNat).toInt)]) (pc := 240) (c_X7_rule ((xs (gn (v3 + 1)).toNat).toInt) ((xs (gn (v3 + 2)).toNat).toInt) ((xs (gn (v3 + 3)).toNat).toInt) b484.2) rfl mm_X7_rule ww_832 clsX7 rfl cll_70 sh_70 (gs_fitL (Nat.le_of_ble_eq_true rfl) (Nat.le_of_ble_eq_true rfl)) rfl rfl (Nat.le_of_ble_eq_true rfl) dL_law_240 (fun b485 => ?_)
        refine gk_icmp_eq (tgt := 1144) (pc := 243) dL_law_243 (by decide) rfl rfl ?_ ?_
        · exact k_L_law_J1144 xs Ls (f_L_law_L18 xs Ls n) v3 ih b485.2
        · refine gk_iconst (pc := 246) dL_law_246 ?_
          exact gk_none
      refine gk_sw (tgt := 248) (pc := 33) 2 dL_law_33 (by decide) rfl (by decide) ?_ (fun hs2 => ?_)
      · refine gk_aload_n (pc := 248) 1 dL_law_248 rfl ?_
        refine gk_aloadR_n (x := b) (pc := 249) 0 dL_law_249 rfl ?_
        refine gk_iload_n (pc := 250) 3 dL_law_250 rfl ?_
        refine gk_iconst (pc := 251) dL_law_251 ?_
        refine gk_iadd (pc := 252) dL_law_252 ?_
        refine gk_sld (pc := 253) rfl dL_law_253 ?_
        refine gk_aloadR_n (x := b) (pc := 254) 0 dL_law_254 rfl ?_
        refine gk_iload_n (pc := 255) 3 dL_law_255 rfl ?_
        refine gk_iconst (pc := 256) dL_law_256 ?_
        refine gk_iadd (pc := 257) dL_law_257 ?_
        refine gk_sld (pc := 258) rfl dL_law_258 ?_
        refine gk_callV_iw (As := [gi ((xs (gn (v3 + 1)).toNat).toInt), gi ((xs (gn (v3 + 2)).toNat).toInt)]) (pc := 259) (c_X6_channel ((xs (gn (v3 + 1)).toNat).toInt) ((xs (gn (v3 + 2)).toNat).toInt) σ) rfl mm_X6_channel ww_291 clsX6 rfl cll_0 sh_0 (gs_fitL (Nat.le_of_ble_eq_true rfl) (Nat.le_of_ble_eq_true rfl)) rfl rfl (Nat.le_of_ble_eq_true rfl) dL_law_259 (fun b486 => ?_)
        refine gk_aload_n (pc := 262) 2 dL_law_262 rfl ?_
        refine gk_aloadR_n (x := b) (pc := 263) 0 dL_law_263 rfl ?_
        refine gk_iload_n (pc := 264) 3 dL_law_264 rfl ?_
        refine gk_iconst (pc := 265) dL_law_265 ?_
        refine gk_iadd (pc := 266) dL_law_266 ?_
        refine gk_sld (pc := 267) rfl dL_law_267 ?_
        refine gk_aloadR_n (x := b) (pc := 268) 0 dL_law_268 rfl ?_
        refine gk_iload_n (pc := 269) 3 dL_law_269 rfl ?_
        refine gk_iconst (pc := 270) dL_law_270 ?_
        refine gk_iadd (pc := 271) dL_law_271 ?_
        refine gk_sld (pc := 272) rfl dL_law_272 ?_
        refine gk_callV_iw (As := [gi ((xs (gn (v3 + 1)).toNat).toInt), gi ((xs (gn (v3 + 2)).toNat).toInt)]) (pc := 273) (c_X7_channel ((xs (gn (v3 + 1)).toNat).toInt) ((xs (gn (v3 + 2)).toNat).toInt) b486.2) rfl mm_X7_channel ww_839 clsX7 rfl cll_70 sh_70 (gs_fitL (Nat.le_of_ble_eq_true rfl) (Nat.le_of_ble_eq_true rfl)) rfl rfl (Nat.le_of_ble_eq_true rfl) dL_law_273 (fun b487 => ?_)
        refine gk_icmp_eq (tgt := 1144) (pc := 276) dL_law_276 (by decide) rfl rfl ?_ ?_
        · exact k_L_law_J1144 xs Ls (f_L_law_L18 xs Ls n) v3 ih b487.2
        · refine gk_iconst (pc := 279) dL_law_279 ?_
          exact gk_none
      refine gk_sw (tgt := 281) (pc := 33) 3 dL_law_33 (by decide) rfl (by decide) ?_ (fun hs3 => ?_)
      · refine gk_aload_n (pc := 281) 1 dL_law_281 rfl ?_
        refine gk_aloadR_n (x := b) (pc := 282) 0 dL_law_282 rfl ?_
        refine gk_iload_n (pc := 283) 3 dL_law_283 rfl ?_
        refine gk_iconst (pc := 284) dL_law_284 ?_
        refine gk_iadd (pc := 285) dL_law_285 ?_
        refine gk_sld (pc := 286) rfl dL_law_286 ?_
        refine gk_aloadR_n (x := b) (pc := 287) 0 dL_law_287 rfl ?_
        refine gk_iload_n (pc := 288) 3 dL_law_288 rfl ?_
        refine gk_iconst (pc := 289) dL_law_289 ?_
        refine gk_iadd (pc := 290) dL_law_290 ?_
        refine gk_sld (pc := 291) rfl dL_law_291 ?_
        refine gk_if_eq (tgt := 299) (pc := 292) dL_law_292 (by decide) (gn_ti _) ?_ ?_
        · refine gk_iconst (pc := 299) dL_law_299 ?_
          exact k_L_law_J300 xs Ls (f_L_law_L18 xs Ls n) v3 0 ((xs (gn (v3 + 1)).toNat).toInt) ih σ
        · refine gk_iconst (pc := 295) dL_law_295 ?_
          refine gk_goto (tgt := 300) (pc := 296) dL_law_296 (by decide) ?_
          exact k_L_law_J300 xs Ls (f_L_law_L18 xs Ls n) v3 1 ((xs (gn (v3 + 1)).toNat).toInt) ih σ
      refine gk_sw (tgt := 330) (pc := 33) 4 dL_law_33 (by decide) rfl (by decide) ?_ (fun hs4 => ?_)
      · refine gk_aload_n (pc := 330) 1 dL_law_330 rfl ?_
        refine gk_aloadR_n (x := b) (pc := 331) 0 dL_law_331 rfl ?_
        refine gk_iload_n (pc := 332) 3 dL_law_332 rfl ?_
        refine gk_iconst (pc := 333) dL_law_333 ?_
        refine gk_iadd (pc := 334) dL_law_334 ?_
        refine gk_sld (pc := 335) rfl dL_law_335 ?_
        refine gk_aloadR_n (x := b) (pc := 336) 0 dL_law_336 rfl ?_
        refine gk_iload_n (pc := 337) 3 dL_law_337 rfl ?_
        refine gk_iconst (pc := 338) dL_law_338 ?_
        refine gk_iadd (pc := 339) dL_law_339 ?_
        refine gk_sld (pc := 340) rfl dL_law_340 ?_
        refine gk_aloadR_n (x := b) (pc := 341) 0 dL_law_341 rfl ?_
        refine gk_iload_n (pc := 342) 3 dL_law_342 rfl ?_
        refine gk_iconst (pc := 343) dL_law_343 ?_
        refine gk_iadd (pc := 344) dL_law_344 ?_
        refine gk_sld (pc := 345) rfl dL_law_345 ?_
        refine gk_callV_iw (As := [gi ((xs (gn (v3 + 1)).toNat).toInt), gi ((xs (gn (v3 + 2)).toNat).toInt), gi ((xs (gn (v3 + 3)).toNat).toInt)]) (pc := 346) (c_X6_move ((xs (gn (v3 + 1)).toNat).toInt) ((xs (gn (v3 + 2)).toNat).toInt) ((xs (gn (v3 + 3)).toNat).toInt) σ) rfl mm_X6_move ww_328 clsX6 rfl cll_0 sh_0 (gs_fitL (Nat.le_of_ble_eq_true rfl) (Nat.le_of_ble_eq_true rfl)) rfl rfl (Nat.le_of_ble_eq_true rfl) dL_law_346 (fun b490 => ?_)
        refine gk_aload_n (pc := 349) 2 dL_law_349 rfl ?_
        refine gk_aloadR_n (x := b) (pc := 350) 0 dL_law_350 rfl ?_
        refine gk_iload_n (pc := 351) 3 dL_law_351 rfl ?_
        refine gk_iconst (pc := 352) dL_law_352 ?_
        refine gk_iadd (pc := 353) dL_law_353 ?_
        refine gk_sld (pc := 354) rfl dL_law_354 ?_
        refine gk_aloadR_n (x := b) (pc := 355) 0 dL_law_355 rfl ?_
        refine gk_iload_n (pc := 356) 3 dL_law_356 rfl ?_
        refine gk_iconst (pc := 357) dL_law_357 ?_
        refine gk_iadd (pc := 358) dL_law_358 ?_
        refine gk_sld (pc := 359) rfl dL_law_359 ?_
        refine gk_aloadR_n (x := b) (pc := 360) 0 dL_law_360 rfl ?_
        refine gk_iload_n (pc := 361) 3 dL_law_361 rfl ?_
        refine gk_iconst (pc := 362) dL_law_362 ?_
        refine gk_iadd (pc := 363) dL_law_363 ?_
        refine gk_sld (pc := 364) rfl dL_law_364 ?_
        refine gk_callV_iw (As := [gi ((xs (gn (v3 + 1)).toNat).toInt), gi ((xs (gn (v3 + 2)).toNat).toInt), gi ((xs (gn (v3 + 3)).toNat).toInt)]) (pc := 365) (c_X7_move ((xs (gn (v3 + 1)).toNat).toInt) ((xs (gn (v3 + 2)).toNat).toInt) ((xs (gn (v3 + 3)).toNat).toInt) b490.2) rfl mm_X7_move ww_868 clsX7 rfl cll_70 sh_70 (gs_fitL (Nat.le_of_ble_eq_true rfl) (Nat.le_of_ble_eq_true rfl)) rfl rfl (Nat.le_of_ble_eq_true rfl) dL_law_365 (fun b491 => ?_)
        refine gk_icmp_eq (tgt := 1144) (pc := 368) dL_law_368 (by decide) rfl rfl ?_ ?_
        · exact k_L_law_J1144 xs Ls (f_L_law_L18 xs Ls n) v3 ih b491.2
        · refine gk_iconst (pc := 371) dL_law_371 ?_
          exact gk_none
      refine gk_sw (tgt := 373) (pc := 33) 5 dL_law_33 (by decide) rfl (by decide) ?_ (fun hs5 => ?_)
      · refine gk_aload_n (pc := 373) 1 dL_law_373 rfl ?_
        refine gk_aloadR_n (x := b) (pc := 374) 0 dL_law_374 rfl ?_
        refine gk_iload_n (pc := 375) 3 dL_law_375 rfl ?_
        refine gk_iconst (pc := 376) dL_law_376 ?_
        refine gk_iadd (pc := 377) dL_law_377 ?_
        refine gk_sld (pc := 378) rfl dL_law_378 ?_
        refine gk_callV_iw (As := [gi ((xs (gn (v3 + 1)).toNat).toInt)]) (pc := 379) (c_X6_feed ((xs (gn (v3 + 1)).toNat).toInt) σ) rfl mm_X6_feed ww_337 clsX6 rfl cll_0 sh_0 (gs_fitL (Nat.le_of_ble_eq_true rfl) (Nat.le_of_ble_eq_true rfl)) rfl rfl (Nat.le_of_ble_eq_true rfl) dL_law_379 (fun b492 => ?_)
        refine gk_aload_n (pc := 382) 2 dL_law_382 rfl ?_
        refine gk_aloadR_n (x := b) (pc := 383) 0 dL_law_383 rfl ?_
        refine gk_iload_n (pc := 384) 3 dL_law_384 rfl ?_
        refine gk_iconst (pc := 385) dL_law_385 ?_
        refine gk_iadd (pc := 386) dL_law_386 ?_
        refine gk_sld (pc := 387) rfl dL_law_387 ?_
        refine gk_callV_iw (As := [gi ((xs (gn (v3 + 1)).toNat).toInt)]) (pc := 388) (c_X7_feed ((xs (gn (v3 + 1)).toNat).toInt) b492.2) rfl mm_X7_feed ww_875 clsX7 rfl cll_70 sh_70 (gs_fitL (Nat.le_of_ble_eq_true rfl) (Nat.le_of_ble_eq_true rfl)) rfl rfl (Nat.le_of_ble_eq_true rfl) dL_law_388 (fun b493 => ?_)
        refine gk_icmp_eq (tgt := 1144) (pc := 391) dL_law_391 (by decide) rfl rfl ?_ ?_
        · exact k_L_law_J1144 xs Ls (f_L_law_L18 xs Ls n) v3 ih b493.2
        · refine gk_iconst (pc := 394) dL_law_394 ?_
          exact gk_none
      refine gk_sw (tgt := 396) (pc := 33) 6 dL_law_33 (by decide) rfl (by decide) ?_ (fun hs6 => ?_)
      · refine gk_aload_n (pc := 396) 1 dL_law_396 rfl ?_
        refine gk_callV_iw (As := []) (pc := 397) (c_X6_read σ) rfl mm_X6_read ww_345 clsX6 rfl cll_0 sh_0 (gs_fitL (Nat.le_of_ble_eq_true rfl) (Nat.le_of_ble_eq_true rfl)) rfl rfl (Nat.le_of_ble_eq_true rfl) dL_law_397 (fun b494 => ?_)
        refine gk_aload_n (pc := 400) 2 dL_law_400 rfl ?_
        refine gk_callV_iw (As := []) (pc := 401) (c_X7_read b494.2) rfl mm_X7_read ww_880 clsX7 rfl cll_70 sh_70 (gs_fitL (Nat.le_of_ble_eq_true rfl) (Nat.le_of_ble_eq_true rfl)) rfl rfl (Nat.le_of_ble_eq_true rfl) dL_law_401 (fun b495 => ?_)
        refine gk_icmp_eq (tgt := 1144) (pc := 404) dL_law_404 (by decide) rfl rfl ?_ ?_
        · exact k_L_law_J1144 xs Ls (f_L_law_L18 xs Ls n) v3 ih b495.2
        · refine gk_iconst (pc := 407) dL_law_407 ?_
          exact gk_none
      refine gk_sw (tgt := 409) (pc := 33) 7 dL_law_33 (by decide) rfl (by decide) ?_ (fun hs7 => ?_)
      · refine gk_aload_n (pc := 409) 1 dL_law_409 rfl ?_
        refine gk_aloadR_n (x := b) (pc := 410) 0 dL_law_410 rfl ?_
        refine gk_iload_n (pc := 411) 3 dL_law_411 rfl ?_
        refine gk_iconst (pc := 412) dL_law_412 ?_
        refine gk_iadd (pc := 413) dL_law_413 ?_
        refine gk_sld (pc := 414) rfl dL_law_414 ?_
        refine gk_aloadR_n (x := b) (pc := 415) 0 dL_law_415 rfl ?_
        refine gk_iload_n (pc := 416) 3 dL_law_416 rfl ?_
        refine gk_iconst (pc := 417) dL_law_417 ?_
        refine gk_iadd (pc := 418) dL_law_418 ?_
        refine gk_sld (pc := 419) rfl dL_law_419 ?_
        refine gk_callV_ir (As := [gi ((xs (gn (v3 + 1)).toNat).toInt), gi ((xs (gn (v3 + 2)).toNat).toInt)]) (pc := 420) (c_X6_of ((xs (gn (v3 + 1)).toNat).toInt) ((xs (gn (v3 + 2)).toNat).toInt) σ) rfl mm_X6_of ww_397 clsX6 rfl cll_0 sh_0 (gs_fitL (Nat.le_of_ble_eq_true rfl) (Nat.le_of_ble_eq_true rfl)) rfl rfl (Nat.le_of_ble_eq_true rfl) dL_law_420 (fun u496 => ?_)
        refine gk_aload_n (pc := 423) 2 dL_law_423 rfl ?_
        refine gk_aloadR_n (x := b) (pc := 424) 0 dL_law_424 rfl ?_
        refine gk_iload_n (pc := 425) 3 dL_law_425 rfl ?_
        refine gk_iconst (pc := 426) dL_law_426 ?_
        refine gk_iadd (pc := 427) dL_law_427 ?_
        refine gk_sld (pc := 428) rfl dL_law_428 ?_
        refine gk_aloadR_n (x := b) (pc := 429) 0 dL_law_429 rfl ?_
        refine gk_iload_n (pc := 430) 3 dL_law_430 rfl ?_
        refine gk_iconst (pc := 431) dL_law_431 ?_
        refine gk_iadd (pc := 432) dL_law_432 ?_
        refine gk_sld (pc := 433) rfl dL_law_433 ?_
        refine gk_callV_ir (As := [gi ((xs (gn (v3 + 1)).toNat).toInt), gi ((xs (gn (v3 + 2)).toNat).toInt)]) (pc := 434) (c_X7_of ((xs (gn (v3 + 1)).toNat).toInt) ((xs (gn (v3 + 2)).toNat).toInt) σ) rfl mm_X7_of ww_899 clsX7 rfl cll_70 sh_70 (gs_fitL (Nat.le_of_ble_eq_true rfl) (Nat.le_of_ble_eq_true rfl)) rfl rfl (Nat.le_of_ble_eq_true rfl) dL_law_434 (fun u497 => ?_)
        refine gk_icmp_eq (tgt := 1144) (pc := 437) dL_law_437 (by decide) rfl rfl ?_ ?_
        · exact k_L_law_J1144 xs Ls (f_L_law_L18 xs Ls n) v3 ih σ
        · refine gk_iconst (pc := 440) dL_law_440 ?_
          exact gk_none
      refine gk_sw (tgt := 442) (pc := 33) 8 dL_law_33 (by decide) rfl (by decide) ?_ (fun hs8 => ?_)
      · refine gk_aload_n (pc := 442) 1 dL_law_442 rfl ?_
        refine gk_aloadR_n (x := b) (pc := 443) 0 dL_law_443 rfl ?_
        refine gk_iload_n (pc := 444) 3 dL_law_444 rfl ?_
        refine gk_iconst (pc := 445) dL_law_445 ?_
        refine gk_iadd (pc := 446) dL_law_446 ?_
        refine gk_sld (pc := 447) rfl dL_law_447 ?_
        refine gk_aloadR_n (x := b) (pc := 448) 0 dL_law_448 rfl ?_
        refine gk_iload_n (pc := 449) 3 dL_law_449 rfl ?_
        refine gk_iconst (pc := 450) dL_law_450 ?_
        refine gk_iadd (pc := 451) dL_law_451 ?_
        refine gk_sld (pc := 452) rfl dL_law_452 ?_
        refine gk_callV_ir (As := [gi ((xs (gn (v3 + 1)).toNat).toInt), gi ((xs (gn (v3 + 2)).toNat).toInt)]) (pc := 453) (c_X6_apart ((xs (gn (v3 + 1)).toNat).toInt) ((xs (gn (v3 + 2)).toNat).toInt) σ) rfl mm_X6_apart ww_438 clsX6 rfl cll_0 sh_0 (gs_fitL (Nat.le_of_ble_eq_true rfl) (Nat.le_of_ble_eq_true rfl)) rfl rfl (Nat.le_of_ble_eq_true rfl) dL_law_453 (fun u498 => ?_)
        refine gk_aload_n (pc := 456) 2 dL_law_456 rfl ?_
        refine gk_aloadR_n (x := b) (pc := 457) 0 dL_law_457 rfl ?_
        refine gk_iload_n (pc := 458) 3 dL_law_458 rfl ?_
        refine gk_iconst (pc := 459) dL_law_459 ?_
        refine gk_iadd (pc := 460) dL_law_460 ?_
        refine gk_sld (pc := 461) rfl dL_law_461 ?_
        refine gk_aloadR_n (x := b) (pc := 462) 0 dL_law_462 rfl ?_
        refine gk_iload_n (pc := 463) 3 dL_law_463 rfl ?_
        refine gk_iconst (pc := 464) dL_law_464 ?_
        refine gk_iadd (pc := 465) dL_law_465 ?_
        refine gk_sld (pc := 466) rfl dL_law_466 ?_
        refine gk_callV_ir (As := [gi ((xs (gn (v3 + 1)).toNat).toInt), gi ((xs (gn (v3 + 2)).toNat).toInt)]) (pc := 467) (c_X7_apart ((xs (gn (v3 + 1)).toNat).toInt) ((xs (gn (v3 + 2)).toNat).toInt) σ) rfl mm_X7_apart ww_936 clsX7 rfl cll_70 sh_70 (gs_fitL (Nat.le_of_ble_eq_true rfl) (Nat.le_of_ble_eq_true rfl)) rfl rfl (Nat.le_of_ble_eq_true rfl) dL_law_467 (fun u499 => ?_)
        refine gk_icmp_eq (tgt := 1144) (pc := 470) dL_law_470 (by decide) rfl rfl ?_ ?_
        · exact k_L_law_J1144 xs Ls (f_L_law_L18 xs Ls n) v3 ih σ
        · refine gk_iconst (pc := 473) dL_law_473 ?_
          exact gk_none
      refine gk_sw (tgt := 475) (pc := 33) 9 dL_law_33 (by decide) rfl (by decide) ?_ (fun hs9 => ?_)
      · refine gk_aload_n (pc := 475) 1 dL_law_475 rfl ?_
        refine gk_aloadR_n (x := b) (pc := 476) 0 dL_law_476 rfl ?_
        refine gk_iload_n (pc := 477) 3 dL_law_477 rfl ?_
        refine gk_iconst (pc := 478) dL_law_478 ?_
        refine gk_iadd (pc := 479) dL_law_479 ?_
        refine gk_sld (pc := 480) rfl dL_law_480 ?_
        refine gk_aloadR_n (x := b) (pc := 481) 0 dL_law_481 rfl ?_
        refine gk_iload_n (pc := 482) 3 dL_law_482 rfl ?_
        refine gk_iconst (pc := 483) dL_law_483 ?_
        refine gk_iadd (pc := 484) dL_law_484 ?_
        refine gk_sld (pc := 485) rfl dL_law_485 ?_
        refine gk_callV_ir (As := [gi ((xs (gn (v3 + 1)).toNat).toInt), gi ((xs (gn (v3 + 2)).toNat).toInt)]) (pc := 486) (c_X6_at ((xs (gn (v3 + 1)).toNat).toInt) ((xs (gn (v3 + 2)).toNat).toInt) σ) rfl mm_X6_at ww_443 clsX6 rfl cll_0 sh_0 (gs_fitL (Nat.le_of_ble_eq_true rfl) (Nat.le_of_ble_eq_true rfl)) rfl rfl (Nat.le_of_ble_eq_true rfl) dL_law_486 (fun u500 => ?_)
        refine gk_aload_n (pc := 489) 2 dL_law_489 rfl ?_
        refine gk_aloadR_n (x := b) (pc := 490) 0 dL_law_490 rfl ?_
        refine gk_iload_n (pc := 491) 3 dL_law_491 rfl ?_
        refine gk_iconst (pc := 492) dL_law_492 ?_
        refine gk_iadd (pc := 493) dL_law_493 ?_
        refine gk_sld (pc := 494) rfl dL_law_494 ?_
        refine gk_aloadR_n (x := b) (pc := 495) 0 dL_law_495 rfl ?_
        refine gk_iload_n (pc := 496) 3 dL_law_496 rfl ?_
        refine gk_iconst (pc := 497) dL_law_497 ?_
        refine gk_iadd (pc := 498) dL_law_498 ?_
        refine gk_sld (pc := 499) rfl dL_law_499 ?_
        refine gk_callV_ir (As := [gi ((xs (gn (v3 + 1)).toNat).toInt), gi ((xs (gn (v3 + 2)).toNat).toInt)]) (pc := 500) (c_X7_at ((xs (gn (v3 + 1)).toNat).toInt) ((xs (gn (v3 + 2)).toNat).toInt) σ) rfl mm_X7_at ww_940 clsX7 rfl cll_70 sh_70 (gs_fitL (Nat.le_of_ble_eq_true rfl) (Nat.le_of_ble_eq_true rfl)) rfl rfl (Nat.le_of_ble_eq_true rfl) dL_law_500 (fun u501 => ?_)
        refine gk_icmp_eq (tgt := 1144) (pc := 503) dL_law_503 (by decide) rfl rfl ?_ ?_
        · exact k_L_law_J1144 xs Ls (f_L_law_L18 xs Ls n) v3 ih σ
        · refine gk_iconst (pc := 506) dL_law_506 ?_
          exact gk_none
      refine gk_sw (tgt := 508) (pc := 33) 10 dL_law_33 (by decide) rfl (by decide) ?_ (fun hs10 => ?_)
      · refine gk_aload_n (pc := 508) 1 dL_law_508 rfl ?_
        refine gk_callV_iw (As := []) (pc := 509) (c_X6_assign σ) rfl mm_X6_assign ww_447 clsX6 rfl cll_0 sh_0 (gs_fitL (Nat.le_of_ble_eq_true rfl) (Nat.le_of_ble_eq_true rfl)) rfl rfl (Nat.le_of_ble_eq_true rfl) dL_law_509 (fun b502 => ?_)
        refine gk_aload_n (pc := 512) 2 dL_law_512 rfl ?_
        refine gk_callV_iw (As := []) (pc := 513) (c_X7_assign b502.2) rfl mm_X7_assign ww_944 clsX7 rfl cll_70 sh_70 (gs_fitL (Nat.le_of_ble_eq_true rfl) (Nat.le_of_ble_eq_true rfl)) rfl rfl (Nat.le_of_ble_eq_true rfl) dL_law_513 (fun b503 => ?_)
        refine gk_icmp_eq (tgt := 1144) (pc := 516) dL_law_516 (by decide) rfl rfl ?_ ?_
        · exact k_L_law_J1144 xs Ls (f_L_law_L18 xs Ls n) v3 ih b503.2
        · refine gk_iconst (pc := 519) dL_law_519 ?_
          exact gk_none
      refine gk_sw (tgt := 521) (pc := 33) 11 dL_law_33 (by decide) rfl (by decide) ?_ (fun hs11 => ?_)
      · refine gk_aload_n (pc := 521) 1 dL_law_521 rfl ?_
        refine gk_aloadR_n (x := b) (pc := 522) 0 dL_law_522 rfl ?_
        refine gk_iload_n (pc := 523) 3 dL_law_523 rfl ?_
        refine gk_iconst (pc := 524) dL_law_524 ?_
        refine gk_iadd (pc := 525) dL_law_525 ?_
        refine gk_sld (pc := 526) rfl dL_law_526 ?_
        refine gk_aloadR_n (x := b) (pc := 527) 0 dL_law_527 rfl ?_
        refine gk_iload_n (pc := 528) 3 dL_law_528 rfl ?_
        refine gk_iconst (pc := 529) dL_law_529 ?_
        refine gk_iadd (pc := 530) dL_law_530 ?_
        refine gk_sld (pc := 531) rfl dL_law_531 ?_
        refine gk_callV_iw (As := [gi ((xs (gn (v3 + 1)).toNat).toInt), gi ((xs (gn (v3 + 2)).toNat).toInt)]) (pc := 532) (c_X6_exchange ((xs (gn (v3 + 1)).toNat).toInt) ((xs (gn (v3 + 2)).toNat).toInt) σ) rfl mm_X6_exchange ww_468 clsX6 rfl cll_0 sh_0 (gs_fitL (Nat.le_of_ble_eq_true rfl) (Nat.le_of_ble_eq_true rfl)) rfl rfl (Nat.le_of_ble_eq_true rfl) dL_law_532 (fun b504 => ?_)
        refine gk_aload_n (pc := 535) 2 dL_law_535 rfl ?_
        refine gk_aloadR_n (x := b) (pc := 536) 0 dL_law_536 rfl ?_
        refine gk_iload_n (pc := 537) 3 dL_law_537 rfl ?_
        refine gk_iconst (pc := 538) dL_law_538 ?_
        refine gk_iadd (pc := 539) dL_law_539 ?_
        refine gk_sld (pc := 540) rfl dL_law_540 ?_
        refine gk_aloadR_n (x := b) (pc := 541) 0 dL_law_541 rfl ?_
        refine gk_iload_n (pc := 542) 3 dL_law_542 rfl ?_
        refine gk_iconst (pc := 543) dL_law_543 ?_
        refine gk_iadd (pc := 544) dL_law_544 ?_
        refine gk_sld (pc := 545) rfl dL_law_545 ?_
        refine gk_callV_iw (As := [gi ((xs (gn (v3 + 1)).toNat).toInt), gi ((xs (gn (v3 + 2)).toNat).toInt)]) (pc := 546) (c_X7_exchange ((xs (gn (v3 + 1)).toNat).toInt) ((xs (gn (v3 + 2)).toNat).toInt) b504.2) rfl mm_X7_exchange ww_961 clsX7 rfl cll_70 sh_70 (gs_fitL (Nat.le_of_ble_eq_true rfl) (Nat.le_of_ble_eq_true rfl)) rfl rfl (Nat.le_of_ble_eq_true rfl) dL_law_546 (fun b505 => ?_)
        refine gk_icmp_eq (tgt := 1144) (pc := 549) dL_law_549 (by decide) rfl rfl ?_ ?_
        · exact k_L_law_J1144 xs Ls (f_L_law_L18 xs Ls n) v3 ih b505.2
        · refine gk_iconst (pc := 552) dL_law_552 ?_
          exact gk_none
      refine gk_sw (tgt := 554) (pc := 33) 12 dL_law_33 (by decide) rfl (by decide) ?_ (fun hs12 => ?_)
      · refine gk_aload_n (pc := 554) 1 dL_law_554 rfl ?_
        refine gk_aloadR_n (x := b) (pc := 555) 0 dL_law_555 rfl ?_
        refine gk_iload_n (pc := 556) 3 dL_law_556 rfl ?_
        refine gk_iconst (pc := 557) dL_law_557 ?_
        refine gk_iadd (pc := 558) dL_law_558 ?_
        refine gk_sld (pc := 559) rfl dL_law_559 ?_
        refine gk_callV_iw (As := [gi ((xs (gn (v3 + 1)).toNat).toInt)]) (pc := 560) (c_X6_told ((xs (gn (v3 + 1)).toNat).toInt) σ) rfl mm_X6_told ww_493 clsX6 rfl cll_0 sh_0 (gs_fitL (Nat.le_of_ble_eq_true rfl) (Nat.le_of_ble_eq_true rfl)) rfl rfl (Nat.le_of_ble_eq_true rfl) dL_law_560 (fun b506 => ?_)
        refine gk_aload_n (pc := 563) 2 dL_law_563 rfl ?_
        refine gk_aloadR_n (x := b) (pc := 564) 0 dL_law_564 rfl ?_
        refine gk_iload_n (pc := 565) 3 dL_law_565 rfl ?_
        refine gk_iconst (pc := 566) dL_law_566 ?_
        refine gk_iadd (pc := 567) dL_law_567 ?_
        refine gk_sld (pc := 568) rfl dL_law_568 ?_
        refine gk_callV_iw (As := [gi ((xs (gn (v3 + 1)).toNat).toInt)]) (pc := 569) (c_X7_told ((xs (gn (v3 + 1)).toNat).toInt) b506.2) rfl mm_X7_told ww_985 clsX7 rfl cll_70 sh_70 (gs_fitL (Nat.le_of_ble_eq_true rfl) (Nat.le_of_ble_eq_true rfl)) rfl rfl (Nat.le_of_ble_eq_true rfl) dL_law_569 (fun b507 => ?_)
        refine gk_icmp_eq (tgt := 1144) (pc := 572) dL_law_572 (by decide) rfl rfl ?_ ?_
        · exact k_L_law_J1144 xs Ls (f_L_law_L18 xs Ls n) v3 ih b507.2
        · refine gk_iconst (pc := 575) dL_law_575 ?_
          exact gk_none
      refine gk_sw (tgt := 577) (pc := 33) 13 dL_law_33 (by decide) rfl (by decide) ?_ (fun hs13 => ?_)
      · refine gk_aload_n (pc := 577) 1 dL_law_577 rfl ?_
        refine gk_aloadR_n (x := b) (pc := 578) 0 dL_law_578 rfl ?_
        refine gk_iload_n (pc := 579) 3 dL_law_579 rfl ?_
        refine gk_iconst (pc := 580) dL_law_580 ?_
        refine gk_iadd (pc := 581) dL_law_581 ?_
        refine gk_sld (pc := 582) rfl dL_law_582 ?_
        refine gk_callV_iw (As := [gi ((xs (gn (v3 + 1)).toNat).toInt)]) (pc := 583) (c_X6_clique ((xs (gn (v3 + 1)).toNat).toInt) σ) rfl mm_X6_clique ww_580 clsX6 rfl cll_0 sh_0 (gs_fitL (Nat.le_of_ble_eq_true rfl) (Nat.le_of_ble_eq_true rfl)) rfl rfl (Nat.le_of_ble_eq_true rfl) dL_law_583 (fun b508 => ?_)
        refine gk_aload_n (pc := 586) 2 dL_law_586 rfl ?_
        refine gk_aloadR_n (x := b) (pc := 587) 0 dL_law_587 rfl ?_
        refine gk_iload_n (pc := 588) 3 dL_law_588 rfl ?_
        refine gk_iconst (pc := 589) dL_law_589 ?_
        refine gk_iadd (pc := 590) dL_law_590 ?_
        refine gk_sld (pc := 591) rfl dL_law_591 ?_
        refine gk_callV_ir (As := [gi ((xs (gn (v3 + 1)).toNat).toInt)]) (pc := 592) (c_X7_clique ((xs (gn (v3 + 1)).toNat).toInt) b508.2) rfl mm_X7_clique ww_973 clsX7 rfl cll_70 sh_70 (gs_fitL (Nat.le_of_ble_eq_true rfl) (Nat.le_of_ble_eq_true rfl)) rfl rfl (Nat.le_of_ble_eq_true rfl) dL_law_592 (fun u509 => ?_)
        refine gk_icmp_eq (tgt := 1144) (pc := 595) dL_law_595 (by decide) rfl rfl ?_ ?_
        · exact k_L_law_J1144 xs Ls (f_L_law_L18 xs Ls n) v3 ih b508.2
        · refine gk_iconst (pc := 598) dL_law_598 ?_
          exact gk_none
      refine gk_sw (tgt := 600) (pc := 33) 14 dL_law_33 (by decide) rfl (by decide) ?_ (fun hs14 => ?_)
      · refine gk_aload_n (pc := 600) 1 dL_law_600 rfl ?_
        refine gk_aloadR_n (x := b) (pc := 601) 0 dL_law_601 rfl ?_
        refine gk_iload_n (pc := 602) 3 dL_law_602 rfl ?_
        refine gk_iconst (pc := 603) dL_law_603 ?_
        refine gk_iadd (pc := 604) dL_law_604 ?_
        refine gk_sld (pc := 605) rfl dL_law_605 ?_
        refine gk_callV_ir (As := [gi ((xs (gn (v3 + 1)).toNat).toInt)]) (pc := 606) (c_X6_sorted ((xs (gn (v3 + 1)).toNat).toInt) σ) rfl mm_X6_sorted ww_585 clsX6 rfl cll_0 sh_0 (gs_fitL (Nat.le_of_ble_eq_true rfl) (Nat.le_of_ble_eq_true rfl)) rfl rfl (Nat.le_of_ble_eq_true rfl) dL_law_606 (fun u510 => ?_)
        refine gk_aload_n (pc := 609) 2 dL_law_609 rfl ?_
        refine gk_aloadR_n (x := b) (pc := 610) 0 dL_law_610 rfl ?_
        refine gk_iload_n (pc := 611) 3 dL_law_611 rfl ?_
        refine gk_iconst (pc := 612) dL_law_612 ?_
        refine gk_iadd (pc := 613) dL_law_613 ?_
        refine gk_sld (pc := 614) rfl dL_law_614 ?_
        refine gk_callV_ir (As := [gi ((xs (gn (v3 + 1)).toNat).toInt)]) (pc := 615) (c_X7_sorted ((xs (gn (v3 + 1)).toNat).toInt) σ) rfl mm_X7_sorted ww_1021 clsX7 rfl cll_70 sh_70 (gs_fitL (Nat.le_of_ble_eq_true rfl) (Nat.le_of_ble_eq_true rfl)) rfl rfl (Nat.le_of_ble_eq_true rfl) dL_law_615 (fun u511 => ?_)
        refine gk_icmp_eq (tgt := 1144) (pc := 618) dL_law_618 (by decide) rfl rfl ?_ ?_
        · exact k_L_law_J1144 xs Ls (f_L_law_L18 xs Ls n) v3 ih σ
        · refine gk_iconst (pc := 621) dL_law_621 ?_
          exact gk_none
      refine gk_sw (tgt := 623) (pc := 33) 15 dL_law_33 (by decide) rfl (by decide) ?_ (fun hs15 => ?_)
      · refine gk_aload_n (pc := 623) 1 dL_law_623 rfl ?_
        refine gk_aloadR_n (x := b) (pc := 624) 0 dL_law_624 rfl ?_
        refine gk_iload_n (pc := 625) 3 dL_law_625 rfl ?_
        refine gk_iconst (pc := 626) dL_law_626 ?_
        refine gk_iadd (pc := 627) dL_law_627 ?_
        refine gk_sld (pc := 628) rfl dL_law_628 ?_
        refine gk_aloadR_n (x := b) (pc := 629) 0 dL_law_629 rfl ?_
        refine gk_iload_n (pc := 630) 3 dL_law_630 rfl ?_
        refine gk_iconst (pc := 631) dL_law_631 ?_
        refine gk_iadd (pc := 632) dL_law_632 ?_
        refine gk_sld (pc := 633) rfl dL_law_633 ?_
        refine gk_callV_iw (As := [gi ((xs (gn (v3 + 1)).toNat).toInt), gi ((xs (gn (v3 + 2)).toNat).toInt)]) (pc := 634) (c_X6_see ((xs (gn (v3 + 1)).toNat).toInt) ((xs (gn (v3 + 2)).toNat).toInt) σ) rfl mm_X6_see ww_593 clsX6 rfl cll_0 sh_0 (gs_fitL (Nat.le_of_ble_eq_true rfl) (Nat.le_of_ble_eq_true rfl)) rfl rfl (Nat.le_of_ble_eq_true rfl) dL_law_634 (fun b512 => ?_)
        refine gk_aload_n (pc := 637) 2 dL_law_637 rfl ?_
        refine gk_aloadR_n (x := b) (pc := 638) 0 dL_law_638 rfl ?_
        refine gk_iload_n (pc := 639) 3 dL_law_639 rfl ?_
        refine gk_iconst (pc := 640) dL_law_640 ?_
        refine gk_iadd (pc := 641) dL_law_641 ?_
        refine gk_sld (pc := 642) rfl dL_law_642 ?_
        refine gk_aloadR_n (x := b) (pc := 643) 0 dL_law_643 rfl ?_
        refine gk_iload_n (pc := 644) 3 dL_law_644 rfl ?_
        refine gk_iconst (pc := 645) dL_law_645 ?_
        refine gk_iadd (pc := 646) dL_law_646 ?_
        refine gk_sld (pc := 647) rfl dL_law_647 ?_
        refine gk_callV_iw (As := [gi ((xs (gn (v3 + 1)).toNat).toInt), gi ((xs (gn (v3 + 2)).toNat).toInt)]) (pc := 648) (c_X7_see ((xs (gn (v3 + 1)).toNat).toInt) ((xs (gn (v3 + 2)).toNat).toInt) b512.2) rfl mm_X7_see ww_1025 clsX7 rfl cll_70 sh_70 (gs_fitL (Nat.le_of_ble_eq_true rfl) (Nat.le_of_ble_eq_true rfl)) rfl rfl (Nat.le_of_ble_eq_true rfl) dL_law_648 (fun b513 => ?_)
        refine gk_icmp_eq (tgt := 1144) (pc := 651) dL_law_651 (by decide) rfl rfl ?_ ?_
        · exact k_L_law_J1144 xs Ls (f_L_law_L18 xs Ls n) v3 ih b513.2
        · refine gk_iconst (pc := 654) dL_law_654 ?_
          exact gk_none
      refine gk_sw (tgt := 656) (pc := 33) 16 dL_law_33 (by decide) rfl (by decide) ?_ (fun hs16 => ?_)
      · refine gk_aload_n (pc := 656) 1 dL_law_656 rfl ?_
        refine gk_aloadR_n (x := b) (pc := 657) 0 dL_law_657 rfl ?_
        refine gk_iload_n (pc := 658) 3 dL_law_658 rfl ?_
        refine gk_iconst (pc := 659) dL_law_659 ?_
        refine gk_iadd (pc := 660) dL_law_660 ?_
        refine gk_sld (pc := 661) rfl dL_law_661 ?_
        refine gk_aloadR_n (x := b) (pc := 662) 0 dL_law_662 rfl ?_
        refine gk_iload_n (pc := 663) 3 dL_law_663 rfl ?_
        refine gk_iconst (pc := 664) dL_law_664 ?_
        refine gk_iadd (pc := 665) dL_law_665 ?_
        refine gk_sld (pc := 666) rfl dL_law_666 ?_
        refine gk_callV_iw (As := [gi ((xs (gn (v3 + 1)).toNat).toInt), gi ((xs (gn (v3 + 2)).toNat).toInt)]) (pc := 667) (c_X6_fits ((xs (gn (v3 + 1)).toNat).toInt) ((xs (gn (v3 + 2)).toNat).toInt) σ) rfl mm_X6_fits ww_605 clsX6 rfl cll_0 sh_0 (gs_fitL (Nat.le_of_ble_eq_true rfl) (Nat.le_of_ble_eq_true rfl)) rfl rfl (Nat.le_of_ble_eq_true rfl) dL_law_667 (fun b514 => ?_)
        refine gk_aload_n (pc := 670) 2 dL_law_670 rfl ?_
        refine gk_aloadR_n (x := b) (pc := 671) 0 dL_law_671 rfl ?_
        refine gk_iload_n (pc := 672) 3 dL_law_672 rfl ?_
        refine gk_iconst (pc := 673) dL_law_673 ?_
        refine gk_iadd (pc := 674) dL_law_674 ?_
        refine gk_sld (pc := 675) rfl dL_law_675 ?_
        refine gk_aloadR_n (x := b) (pc := 676) 0 dL_law_676 rfl ?_
        refine gk_iload_n (pc := 677) 3 dL_law_677 rfl ?_
        refine gk_iconst (pc := 678) dL_law_678 ?_
        refine gk_iadd (pc := 679) dL_law_679 ?_
        refine gk_sld (pc := 680) rfl dL_law_680 ?_
        refine gk_callV_iw (As := [gi ((xs (gn (v3 + 1)).toNat).toInt), gi ((xs (gn (v3 + 2)).toNat).toInt)]) (pc := 681) (c_X7_fits ((xs (gn (v3 + 1)).toNat).toInt) ((xs (gn (v3 + 2)).toNat).toInt) b514.2) rfl mm_X7_fits ww_1029 clsX7 rfl cll_70 sh_70 (gs_fitL (Nat.le_of_ble_eq_true rfl) (Nat.le_of_ble_eq_true rfl)) rfl rfl (Nat.le_of_ble_eq_true rfl) dL_law_681 (fun b515 => ?_)
        refine gk_icmp_eq (tgt := 1144) (pc := 684) dL_law_684 (by decide) rfl rfl ?_ ?_
        · exact k_L_law_J1144 xs Ls (f_L_law_L18 xs Ls n) v3 ih b515.2
        · refine gk_iconst (pc := 687) dL_law_687 ?_
          exact gk_none
      refine gk_sw (tgt := 689) (pc := 33) 17 dL_law_33 (by decide) rfl (by decide) ?_ (fun hs17 => ?_)
      · refine gk_aload_n (pc := 689) 1 dL_law_689 rfl ?_
        refine gk_aloadR_n (x := b) (pc := 690) 0 dL_law_690 rfl ?_
        refine gk_iload_n (pc := 691) 3 dL_law_691 rfl ?_
        refine gk_iconst (pc := 692) dL_law_692 ?_
        refine gk_iadd (pc := 693) dL_law_693 ?_
        refine gk_sld (pc := 694) rfl dL_law_694 ?_
        refine gk_aloadR_n (x := b) (pc := 695) 0 dL_law_695 rfl ?_
        refine gk_iload_n (pc := 696) 3 dL_law_696 rfl ?_
        refine gk_iconst (pc := 697) dL_law_697 ?_
        refine gk_iadd (pc := 698) dL_law_698 ?_
        refine gk_sld (pc := 699) rfl dL_law_699 ?_
        refine gk_callV_lw (As := [gi ((xs (gn (v3 + 1)).toNat).toInt), gi ((xs (gn (v3 + 2)).toNat).toInt)]) (pc := 700) (c_X6_odds ((xs (gn (v3 + 1)).toNat).toInt) ((xs (gn (v3 + 2)).toNat).toInt) σ) rfl mm_X6_odds ww_635 clsX6 rfl cll_0 sh_0 (gs_fitL (Nat.le_of_ble_eq_true rfl) (Nat.le_of_ble_eq_true rfl)) rfl rfl (Nat.le_of_ble_eq_true rfl) dL_law_700 (fun b516 => ?_)
        refine gk_aload_n (pc := 703) 2 dL_law_703 rfl ?_
        refine gk_aloadR_n (x := b) (pc := 704) 0 dL_law_704 rfl ?_
        refine gk_iload_n (pc := 705) 3 dL_law_705 rfl ?_
        refine gk_iconst (pc := 706) dL_law_706 ?_
        refine gk_iadd (pc := 707) dL_law_707 ?_
        refine gk_sld (pc := 708) rfl dL_law_708 ?_
        refine gk_aloadR_n (x := b) (pc := 709) 0 dL_law_709 rfl ?_
        refine gk_iload_n (pc := 710) 3 dL_law_710 rfl ?_
        refine gk_iconst (pc := 711) dL_law_711 ?_
        refine gk_iadd (pc := 712) dL_law_712 ?_
        refine gk_sld (pc := 713) rfl dL_law_713 ?_
        refine gk_callV_lw (As := [gi ((xs (gn (v3 + 1)).toNat).toInt), gi ((xs (gn (v3 + 2)).toNat).toInt)]) (pc := 714) (c_X7_odds ((xs (gn (v3 + 1)).toNat).toInt) ((xs (gn (v3 + 2)).toNat).toInt) b516.2) rfl mm_X7_odds ww_1037 clsX7 rfl cll_70 sh_70 (gs_fitL (Nat.le_of_ble_eq_true rfl) (Nat.le_of_ble_eq_true rfl)) rfl rfl (Nat.le_of_ble_eq_true rfl) dL_law_714 (fun b517 => ?_)
        refine gk_lcmp (pc := 717) dL_law_717 ?_
        refine gk_if_eq (tgt := 1144) (pc := 718) dL_law_718 (by decide) rfl ?_ ?_
        · exact k_L_law_J1144 xs Ls (f_L_law_L18 xs Ls n) v3 ih b517.2
        · refine gk_iconst (pc := 721) dL_law_721 ?_
          exact gk_none
      refine gk_sw (tgt := 723) (pc := 33) 18 dL_law_33 (by decide) rfl (by decide) ?_ (fun hs18 => ?_)
      · refine gk_aload_n (pc := 723) 1 dL_law_723 rfl ?_
        refine gk_aloadR_n (x := b) (pc := 724) 0 dL_law_724 rfl ?_
        refine gk_iload_n (pc := 725) 3 dL_law_725 rfl ?_
        refine gk_iconst (pc := 726) dL_law_726 ?_
        refine gk_iadd (pc := 727) dL_law_727 ?_
        refine gk_sld (pc := 728) rfl dL_law_728 ?_
        refine gk_callV_lr (As := [gi ((xs (gn (v3 + 1)).toNat).toInt)]) (pc := 729) (c_X6_mean ((xs (gn (v3 + 1)).toNat).toInt) σ) rfl mm_X6_mean ww_646 clsX6 rfl cll_0 sh_0 (gs_fitL (Nat.le_of_ble_eq_true rfl) (Nat.le_of_ble_eq_true rfl)) rfl rfl (Nat.le_of_ble_eq_true rfl) dL_law_729 (fun u518 => ?_)
        refine gk_aload_n (pc := 732) 2 dL_law_732 rfl ?_
        refine gk_aloadR_n (x := b) (pc := 733) 0 dL_law_733 rfl ?_
        refine gk_iload_n (pc := 734) 3 dL_law_734 rfl ?_
        refine gk_iconst (pc := 735) dL_law_735 ?_
        refine gk_iadd (pc := 736) dL_law_736 ?_
        refine gk_sld (pc := 737) rfl dL_law_737 ?_
        refine gk_callV_lr (As := [gi ((xs (gn (v3 + 1)).toNat).toInt)]) (pc := 738) (c_X7_mean ((xs (gn (v3 + 1)).toNat).toInt) σ) rfl mm_X7_mean ww_1046 clsX7 rfl cll_70 sh_70 (gs_fitL (Nat.le_of_ble_eq_true rfl) (Nat.le_of_ble_eq_true rfl)) rfl rfl (Nat.le_of_ble_eq_true rfl) dL_law_738 (fun u519 => ?_)
        refine gk_lcmp (pc := 741) dL_law_741 ?_
        refine gk_if_eq (tgt := 1144) (pc := 742) dL_law_742 (by decide) rfl ?_ ?_
        · exact k_L_law_J1144 xs Ls (f_L_law_L18 xs Ls n) v3 ih σ
        · refine gk_iconst (pc := 745) dL_law_745 ?_
          exact gk_none
      refine gk_sw (tgt := 747) (pc := 33) 19 dL_law_33 (by decide) rfl (by decide) ?_ (fun hs19 => ?_)
      · refine gk_aload_n (pc := 747) 1 dL_law_747 rfl ?_
        refine gk_aloadR_n (x := b) (pc := 748) 0 dL_law_748 rfl ?_
        refine gk_iload_n (pc := 749) 3 dL_law_749 rfl ?_
        refine gk_iconst (pc := 750) dL_law_750 ?_
        refine gk_iadd (pc := 751) dL_law_751 ?_
        refine gk_sld (pc := 752) rfl dL_law_752 ?_
        refine gk_aloadR_n (x := b) (pc := 753) 0 dL_law_753 rfl ?_
        refine gk_iload_n (pc := 754) 3 dL_law_754 rfl ?_
        refine gk_iconst (pc := 755) dL_law_755 ?_
        refine gk_iadd (pc := 756) dL_law_756 ?_
        refine gk_sld (pc := 757) rfl dL_law_757 ?_
        refine gk_callV_iw (As := [gi ((xs (gn (v3 + 1)).toNat).toInt), gi ((xs (gn (v3 + 2)).toNat).toInt)]) (pc := 758) (c_X6_plan ((xs (gn (v3 + 1)).toNat).toInt) ((xs (gn (v3 + 2)).toNat).toInt) σ) rfl mm_X6_plan ww_654 clsX6 rfl cll_0 sh_0 (gs_fitL (Nat.le_of_ble_eq_true rfl) (Nat.le_of_ble_eq_true rfl)) rfl rfl (Nat.le_of_ble_eq_true rfl) dL_law_758 (fun b520 => ?_)
        refine gk_aload_n (pc := 761) 2 dL_law_761 rfl ?_
        refine gk_aloadR_n (x := b) (pc := 762) 0 dL_law_762 rfl ?_
        refine gk_iload_n (pc := 763) 3 dL_law_763 rfl ?_
        refine gk_iconst (pc := 764) dL_law_764 ?_
        refine gk_iadd (pc := 765) dL_law_765 ?_
        refine gk_sld (pc := 766) rfl dL_law_766 ?_
        refine gk_aloadR_n (x := b) (pc := 767) 0 dL_law_767 rfl ?_
        refine gk_iload_n (pc := 768) 3 dL_law_768 rfl ?_
        refine gk_iconst (pc := 769) dL_law_769 ?_
        refine gk_iadd (pc := 770) dL_law_770 ?_
        refine gk_sld (pc := 771) rfl dL_law_771 ?_
        refine gk_callV_iw (As := [gi ((xs (gn (v3 + 1)).toNat).toInt), gi ((xs (gn (v3 + 2)).toNat).toInt)]) (pc := 772) (c_X7_plan ((xs (gn (v3 + 1)).toNat).toInt) ((xs (gn (v3 + 2)).toNat).toInt) b520.2) rfl mm_X7_plan ww_1050 clsX7 rfl cll_70 sh_70 (gs_fitL (Nat.le_of_ble_eq_true rfl) (Nat.le_of_ble_eq_true rfl)) rfl rfl (Nat.le_of_ble_eq_true rfl) dL_law_772 (fun b521 => ?_)
        refine gk_icmp_eq (tgt := 1144) (pc := 775) dL_law_775 (by decide) rfl rfl ?_ ?_
        · exact k_L_law_J1144 xs Ls (f_L_law_L18 xs Ls n) v3 ih b521.2
        · refine gk_iconst (pc := 778) dL_law_778 ?_
          exact gk_none
      refine gk_sw (tgt := 780) (pc := 33) 20 dL_law_33 (by decide) rfl (by decide) ?_ (fun hs20 => ?_)
      · refine gk_aload_n (pc := 780) 1 dL_law_780 rfl ?_
        refine gk_aloadR_n (x := b) (pc := 781) 0 dL_law_781 rfl ?_
        refine gk_iload_n (pc := 782) 3 dL_law_782 rfl ?_
        refine gk_iconst (pc := 783) dL_law_783 ?_
        refine gk_iadd (pc := 784) dL_law_784 ?_
        refine gk_sld (pc := 785) rfl dL_law_785 ?_
        refine gk_callV_iw (As := [gi ((xs (gn (v3 + 1)).toNat).toInt)]) (pc := 786) (c_X6_ends ((xs (gn (v3 + 1)).toNat).toInt) σ) rfl mm_X6_ends ww_658 clsX6 rfl cll_0 sh_0 (gs_fitL (Nat.le_of_ble_eq_true rfl) (Nat.le_of_ble_eq_true rfl)) rfl rfl (Nat.le_of_ble_eq_true rfl) dL_law_786 (fun b522 => ?_)
        refine gk_aload_n (pc := 789) 2 dL_law_789 rfl ?_
        refine gk_aloadR_n (x := b) (pc := 790) 0 dL_law_790 rfl ?_
        refine gk_iload_n (pc := 791) 3 dL_law_791 rfl ?_
        refine gk_iconst (pc := 792) dL_law_792 ?_
        refine gk_iadd (pc := 793) dL_law_793 ?_
        refine gk_sld (pc := 794) rfl dL_law_794 ?_
        refine gk_callV_iw (As := [gi ((xs (gn (v3 + 1)).toNat).toInt)]) (pc := 795) (c_X7_ends ((xs (gn (v3 + 1)).toNat).toInt) b522.2) rfl mm_X7_ends ww_1055 clsX7 rfl cll_70 sh_70 (gs_fitL (Nat.le_of_ble_eq_true rfl) (Nat.le_of_ble_eq_true rfl)) rfl rfl (Nat.le_of_ble_eq_true rfl) dL_law_795 (fun b523 => ?_)
        refine gk_icmp_eq (tgt := 1144) (pc := 798) dL_law_798 (by decide) rfl rfl ?_ ?_
        · exact k_L_law_J1144 xs Ls (f_L_law_L18 xs Ls n) v3 ih b523.2
        · refine gk_iconst (pc := 801) dL_law_801 ?_
          exact gk_none
      refine gk_sw (tgt := 803) (pc := 33) 21 dL_law_33 (by decide) rfl (by decide) ?_ (fun hs21 => ?_)
      · refine gk_aload_n (pc := 803) 1 dL_law_803 rfl ?_
        refine gk_aloadR_n (x := b) (pc := 804) 0 dL_law_804 rfl ?_
        refine gk_iload_n (pc := 805) 3 dL_law_805 rfl ?_
        refine gk_iconst (pc := 806) dL_law_806 ?_
        refine gk_iadd (pc := 807) dL_law_807 ?_
        refine gk_sld (pc := 808) rfl dL_law_808 ?_
        refine gk_aloadR_n (x := b) (pc := 809) 0 dL_law_809 rfl ?_
        refine gk_iload_n (pc := 810) 3 dL_law_810 rfl ?_
        refine gk_iconst (pc := 811) dL_law_811 ?_
        refine gk_iadd (pc := 812) dL_law_812 ?_
        refine gk_sld (pc := 813) rfl dL_law_813 ?_
        refine gk_callV_iw (As := [gi ((xs (gn (v3 + 1)).toNat).toInt), gi ((xs (gn (v3 + 2)).toNat).toInt)]) (pc := 814) (c_X6_book ((xs (gn (v3 + 1)).toNat).toInt) ((xs (gn (v3 + 2)).toNat).toInt) σ) rfl mm_X6_book ww_666 clsX6 rfl cll_0 sh_0 (gs_fitL (Nat.le_of_ble_eq_true rfl) (Nat.le_of_ble_eq_true rfl)) rfl rfl (Nat.le_of_ble_eq_true rfl) dL_law_814 (fun b524 => ?_)
        refine gk_aload_n (pc := 817) 2 dL_law_817 rfl ?_
        refine gk_aloadR_n (x := b) (pc := 818) 0 dL_law_818 rfl ?_
        refine gk_iload_n (pc := 819) 3 dL_law_819 rfl ?_
        refine gk_iconst (pc := 820) dL_law_820 ?_
        refine gk_iadd (pc := 821) dL_law_821 ?_
        refine gk_sld (pc := 822) rfl dL_law_822 ?_
        refine gk_aloadR_n (x := b) (pc := 823) 0 dL_law_823 rfl ?_
        refine gk_iload_n (pc := 824) 3 dL_law_824 rfl ?_
        refine gk_iconst (pc := 825) dL_law_825 ?_
        refine gk_iadd (pc := 826) dL_law_826 ?_
        refine gk_sld (pc := 827) rfl dL_law_827 ?_
        refine gk_callV_iw (As := [gi ((xs (gn (v3 + 1)).toNat).toInt), gi ((xs (gn (v3 + 2)).toNat).toInt)]) (pc := 828) (c_X7_book ((xs (gn (v3 + 1)).toNat).toInt) ((xs (gn (v3 + 2)).toNat).toInt) b524.2) rfl mm_X7_book ww_1063 clsX7 rfl cll_70 sh_70 (gs_fitL (Nat.le_of_ble_eq_true rfl) (Nat.le_of_ble_eq_true rfl)) rfl rfl (Nat.le_of_ble_eq_true rfl) dL_law_828 (fun b525 => ?_)
        refine gk_icmp_eq (tgt := 1144) (pc := 831) dL_law_831 (by decide) rfl rfl ?_ ?_
        · exact k_L_law_J1144 xs Ls (f_L_law_L18 xs Ls n) v3 ih b525.2
        · refine gk_iconst (pc := 834) dL_law_834 ?_
          exact gk_none
      refine gk_sw (tgt := 836) (pc := 33) 22 dL_law_33 (by decide) rfl (by decide) ?_ (fun hs22 => ?_)
      · refine gk_aload_n (pc := 836) 1 dL_law_836 rfl ?_
        refine gk_callV_ir (As := []) (pc := 837) (c_X6_looked σ) rfl mm_X6_looked ww_670 clsX6 rfl cll_0 sh_0 (gs_fitL (Nat.le_of_ble_eq_true rfl) (Nat.le_of_ble_eq_true rfl)) rfl rfl (Nat.le_of_ble_eq_true rfl) dL_law_837 (fun u526 => ?_)
        refine gk_aload_n (pc := 840) 2 dL_law_840 rfl ?_
        refine gk_callV_ir (As := []) (pc := 841) (c_X7_looked σ) rfl mm_X7_looked ww_1067 clsX7 rfl cll_70 sh_70 (gs_fitL (Nat.le_of_ble_eq_true rfl) (Nat.le_of_ble_eq_true rfl)) rfl rfl (Nat.le_of_ble_eq_true rfl) dL_law_841 (fun u527 => ?_)
        refine gk_icmp_eq (tgt := 1144) (pc := 844) dL_law_844 (by decide) rfl rfl ?_ ?_
        · exact k_L_law_J1144 xs Ls (f_L_law_L18 xs Ls n) v3 ih σ
        · refine gk_iconst (pc := 847) dL_law_847 ?_
          exact gk_none
      refine gk_sw (tgt := 849) (pc := 33) 23 dL_law_33 (by decide) rfl (by decide) ?_ (fun hs23 => ?_)
      · refine gk_aload_n (pc := 849) 1 dL_law_849 rfl ?_
        refine gk_aloadR_n (x := b) (pc := 850) 0 dL_law_850 rfl ?_
        refine gk_iload_n (pc := 851) 3 dL_law_851 rfl ?_
        refine gk_iconst (pc := 852) dL_law_852 ?_
        refine gk_iadd (pc := 853) dL_law_853 ?_
        refine gk_sld (pc := 854) rfl dL_law_854 ?_
        refine gk_aloadR_n (x := b) (pc := 855) 0 dL_law_855 rfl ?_
        refine gk_iload_n (pc := 856) 3 dL_law_856 rfl ?_
        refine gk_iconst (pc := 857) dL_law_857 ?_
        refine gk_iadd (pc := 858) dL_law_858 ?_
        refine gk_sld (pc := 859) rfl dL_law_859 ?_
        refine gk_callV_ir (As := [gi ((xs (gn (v3 + 1)).toNat).toInt), gi ((xs (gn (v3 + 2)).toNat).toInt)]) (pc := 860) (c_X6_judge ((xs (gn (v3 + 1)).toNat).toInt) ((xs (gn (v3 + 2)).toNat).toInt) σ) rfl mm_X6_judge ww_674 clsX6 rfl cll_0 sh_0 (gs_fitL (Nat.le_of_ble_eq_true rfl) (Nat.le_of_ble_eq_true rfl)) rfl rfl (Nat.le_of_ble_eq_true rfl) dL_law_860 (fun u528 => ?_)
        refine gk_aload_n (pc := 863) 2 dL_law_863 rfl ?_
        refine gk_aloadR_n (x := b) (pc := 864) 0 dL_law_864 rfl ?_
        refine gk_iload_n (pc := 865) 3 dL_law_865 rfl ?_
        refine gk_iconst (pc := 866) dL_law_866 ?_
        refine gk_iadd (pc := 867) dL_law_867 ?_
        refine gk_sld (pc := 868) rfl dL_law_868 ?_
        refine gk_aloadR_n (x := b) (pc := 869) 0 dL_law_869 rfl ?_
        refine gk_iload_n (pc := 870) 3 dL_law_870 rfl ?_
        refine gk_iconst (pc := 871) dL_law_871 ?_
        refine gk_iadd (pc := 872) dL_law_872 ?_
        refine gk_sld (pc := 873) rfl dL_law_873 ?_
        refine gk_callV_ir (As := [gi ((xs (gn (v3 + 1)).toNat).toInt), gi ((xs (gn (v3 + 2)).toNat).toInt)]) (pc := 874) (c_X7_judge ((xs (gn (v3 + 1)).toNat).toInt) ((xs (gn (v3 + 2)).toNat).toInt) σ) rfl mm_X7_judge ww_1087 clsX7 rfl cll_70 sh_70 (gs_fitL (Nat.le_of_ble_eq_true rfl) (Nat.le_of_ble_eq_true rfl)) rfl rfl (Nat.le_of_ble_eq_true rfl) dL_law_874 (fun u529 => ?_)
        refine gk_icmp_eq (tgt := 1144) (pc := 877) dL_law_877 (by decide) rfl rfl ?_ ?_
        · exact k_L_law_J1144 xs Ls (f_L_law_L18 xs Ls n) v3 ih σ
        · refine gk_iconst (pc := 880) dL_law_880 ?_
          exact gk_none
      refine gk_sw (tgt := 882) (pc := 33) 24 dL_law_33 (by decide) rfl (by decide) ?_ (fun hs24 => ?_)
      · refine gk_aload_n (pc := 882) 1 dL_law_882 rfl ?_
        refine gk_callV_iw (As := []) (pc := 883) (c_X6_image σ) rfl mm_X6_image ww_699 clsX6 rfl cll_0 sh_0 (gs_fitL (Nat.le_of_ble_eq_true rfl) (Nat.le_of_ble_eq_true rfl)) rfl rfl (Nat.le_of_ble_eq_true rfl) dL_law_883 (fun b530 => ?_)
        refine gk_aload_n (pc := 886) 2 dL_law_886 rfl ?_
        refine gk_callV_iw (As := []) (pc := 887) (c_X7_image b530.2) rfl mm_X7_image ww_1071 clsX7 rfl cll_70 sh_70 (gs_fitL (Nat.le_of_ble_eq_true rfl) (Nat.le_of_ble_eq_true rfl)) rfl rfl (Nat.le_of_ble_eq_true rfl) dL_law_887 (fun b531 => ?_)
        refine gk_icmp_eq (tgt := 1144) (pc := 890) dL_law_890 (by decide) rfl rfl ?_ ?_
        · exact k_L_law_J1144 xs Ls (f_L_law_L18 xs Ls n) v3 ih b531.2
        · refine gk_iconst (pc := 893) dL_law_893 ?_
          exact gk_none
      refine gk_sw (tgt := 895) (pc := 33) 25 dL_law_33 (by decide) rfl (by decide) ?_ (fun hs25 => ?_)
      · refine gk_aload_n (pc := 895) 1 dL_law_895 rfl ?_
        refine gk_callV_iw (As := []) (pc := 896) (c_X6_undo σ) rfl mm_X6_undo ww_713 clsX6 rfl cll_0 sh_0 (gs_fitL (Nat.le_of_ble_eq_true rfl) (Nat.le_of_ble_eq_true rfl)) rfl rfl (Nat.le_of_ble_eq_true rfl) dL_law_896 (fun b532 => ?_)
        refine gk_aload_n (pc := 899) 2 dL_law_899 rfl ?_
        refine gk_callV_iw (As := []) (pc := 900) (c_X7_undo b532.2) rfl mm_X7_undo ww_1075 clsX7 rfl cll_70 sh_70 (gs_fitL (Nat.le_of_ble_eq_true rfl) (Nat.le_of_ble_eq_true rfl)) rfl rfl (Nat.le_of_ble_eq_true rfl) dL_law_900 (fun b533 => ?_)
        refine gk_icmp_eq (tgt := 1144) (pc := 903) dL_law_903 (by decide) rfl rfl ?_ ?_
        · exact k_L_law_J1144 xs Ls (f_L_law_L18 xs Ls n) v3 ih b533.2
        · refine gk_iconst (pc := 906) dL_law_906 ?_
          exact gk_none
      refine gk_sw (tgt := 908) (pc := 33) 26 dL_law_33 (by decide) rfl (by decide) ?_ (fun hs26 => ?_)
      · refine gk_aload_n (pc := 908) 1 dL_law_908 rfl ?_
        refine gk_aloadR_n (x := b) (pc := 909) 0 dL_law_909 rfl ?_
        refine gk_iload_n (pc := 910) 3 dL_law_910 rfl ?_
        refine gk_iconst (pc := 911) dL_law_911 ?_
        refine gk_iadd (pc := 912) dL_law_912 ?_
        refine gk_sld (pc := 913) rfl dL_law_913 ?_
        refine gk_callV_ir (As := [gi ((xs (gn (v3 + 1)).toNat).toInt)]) (pc := 914) (c_X6_count ((xs (gn (v3 + 1)).toNat).toInt) σ) rfl mm_X6_count ww_717 clsX6 rfl cll_0 sh_0 (gs_fitL (Nat.le_of_ble_eq_true rfl) (Nat.le_of_ble_eq_true rfl)) rfl rfl (Nat.le_of_ble_eq_true rfl) dL_law_914 (fun u534 => ?_)
        refine gk_aload_n (pc := 917) 2 dL_law_917 rfl ?_
        refine gk_aloadR_n (x := b) (pc := 918) 0 dL_law_918 rfl ?_
        refine gk_iload_n (pc := 919) 3 dL_law_919 rfl ?_
        refine gk_iconst (pc := 920) dL_law_920 ?_
        refine gk_iadd (pc := 921) dL_law_921 ?_
        refine gk_sld (pc := 922) rfl dL_law_922 ?_
        refine gk_callV_ir (As := [gi ((xs (gn (v3 + 1)).toNat).toInt)]) (pc := 923) (c_X7_count ((xs (gn (v3 + 1)).toNat).toInt) σ) rfl mm_X7_count ww_1079 clsX7 rfl cll_70 sh_70 (gs_fitL (Nat.le_of_ble_eq_true rfl) (Nat.le_of_ble_eq_true rfl)) rfl rfl (Nat.le_of_ble_eq_true rfl) dL_law_923 (fun u535 => ?_)
        refine gk_icmp_eq (tgt := 1144) (pc := 926) dL_law_926 (by decide) rfl rfl ?_ ?_
        · exact k_L_law_J1144 xs Ls (f_L_law_L18 xs Ls n) v3 ih σ
        · refine gk_iconst (pc := 929) dL_law_929 ?_
          exact gk_none
      refine gk_sw (tgt := 931) (pc := 33) 27 dL_law_33 (by decide) rfl (by decide) ?_ (fun hs27 => ?_)
      · refine gk_aload_n (pc := 931) 1 dL_law_931 rfl ?_
        refine gk_aloadR_n (x := b) (pc := 932) 0 dL_law_932 rfl ?_
        refine gk_iload_n (pc := 933) 3 dL_law_933 rfl ?_
        refine gk_iconst (pc := 934) dL_law_934 ?_
        refine gk_iadd (pc := 935) dL_law_935 ?_
        refine gk_sld (pc := 936) rfl dL_law_936 ?_
        refine gk_aloadR_n (x := b) (pc := 937) 0 dL_law_937 rfl ?_
        refine gk_iload_n (pc := 938) 3 dL_law_938 rfl ?_
        refine gk_iconst (pc := 939) dL_law_939 ?_
        refine gk_iadd (pc := 940) dL_law_940 ?_
        refine gk_sld (pc := 941) rfl dL_law_941 ?_
        refine gk_aloadR_n (x := b) (pc := 942) 0 dL_law_942 rfl ?_
        refine gk_iload_n (pc := 943) 3 dL_law_943 rfl ?_
        refine gk_iconst (pc := 944) dL_law_944 ?_
        refine gk_iadd (pc := 945) dL_law_945 ?_
        refine gk_sld (pc := 946) rfl dL_law_946 ?_
        refine gk_callV_iw (As := [gi ((xs (gn (v3 + 1)).toNat).toInt), gi ((xs (gn (v3 + 2)).toNat).toInt), gi ((xs (gn (v3 + 3)).toNat).toInt)]) (pc := 947) (c_X6_tape ((xs (gn (v3 + 1)).toNat).toInt) ((xs (gn (v3 + 2)).toNat).toInt) ((xs (gn (v3 + 3)).toNat).toInt) σ) rfl mm_X6_tape ww_729 clsX6 rfl cll_0 sh_0 (gs_fitL (Nat.le_of_ble_eq_true rfl) (Nat.le_of_ble_eq_true rfl)) rfl rfl (Nat.le_of_ble_eq_true rfl) dL_law_947 (fun b536 => ?_)
        refine gk_aload_n (pc := 950) 2 dL_law_950 rfl ?_
        refine gk_aloadR_n (x := b) (pc := 951) 0 dL_law_951 rfl ?_
        refine gk_iload_n (pc := 952) 3 dL_law_952 rfl ?_
        refine gk_iconst (pc := 953) dL_law_953 ?_
        refine gk_iadd (pc := 954) dL_law_954 ?_
        refine gk_sld (pc := 955) rfl dL_law_955 ?_
        refine gk_aloadR_n (x := b) (pc := 956) 0 dL_law_956 rfl ?_
        refine gk_iload_n (pc := 957) 3 dL_law_957 rfl ?_
        refine gk_iconst (pc := 958) dL_law_958 ?_
        refine gk_iadd (pc := 959) dL_law_959 ?_
        refine gk_sld (pc := 960) rfl dL_law_960 ?_
        refine gk_aloadR_n (x := b) (pc := 961) 0 dL_law_961 rfl ?_
        refine gk_iload_n (pc := 962) 3 dL_law_962 rfl ?_
        refine gk_iconst (pc := 963) dL_law_963 ?_
        refine gk_iadd (pc := 964) dL_law_964 ?_
        refine gk_sld (pc := 965) rfl dL_law_965 ?_
        refine gk_callV_iw (As := [gi ((xs (gn (v3 + 1)).toNat).toInt), gi ((xs (gn (v3 + 2)).toNat).toInt), gi ((xs (gn (v3 + 3)).toNat).toInt)]) (pc := 966) (c_X7_tape ((xs (gn (v3 + 1)).toNat).toInt) ((xs (gn (v3 + 2)).toNat).toInt) ((xs (gn (v3 + 3)).toNat).toInt) b536.2) rfl mm_X7_tape ww_1092 clsX7 rfl cll_70 sh_70 (gs_fitL (Nat.le_of_ble_eq_true rfl) (Nat.le_of_ble_eq_true rfl)) rfl rfl (Nat.le_of_ble_eq_true rfl) dL_law_966 (fun b537 => ?_)
        refine gk_icmp_eq (tgt := 1144) (pc := 969) dL_law_969 (by decide) rfl rfl ?_ ?_
        · exact k_L_law_J1144 xs Ls (f_L_law_L18 xs Ls n) v3 ih b537.2
        · refine gk_iconst (pc := 972) dL_law_972 ?_
          exact gk_none
      refine gk_sw (tgt := 974) (pc := 33) 28 dL_law_33 (by decide) rfl (by decide) ?_ (fun hs28 => ?_)
      · refine gk_aload_n (pc := 974) 1 dL_law_974 rfl ?_
        refine gk_aloadR_n (x := b) (pc := 975) 0 dL_law_975 rfl ?_
        refine gk_iload_n (pc := 976) 3 dL_law_976 rfl ?_
        refine gk_iconst (pc := 977) dL_law_977 ?_
        refine gk_iadd (pc := 978) dL_law_978 ?_
        refine gk_sld (pc := 979) rfl dL_law_979 ?_
        refine gk_aloadR_n (x := b) (pc := 980) 0 dL_law_980 rfl ?_
        refine gk_iload_n (pc := 981) 3 dL_law_981 rfl ?_
        refine gk_iconst (pc := 982) dL_law_982 ?_
        refine gk_iadd (pc := 983) dL_law_983 ?_
        refine gk_sld (pc := 984) rfl dL_law_984 ?_
        refine gk_aloadR_n (x := b) (pc := 985) 0 dL_law_985 rfl ?_
        refine gk_iload_n (pc := 986) 3 dL_law_986 rfl ?_
        refine gk_iconst (pc := 987) dL_law_987 ?_
        refine gk_iadd (pc := 988) dL_law_988 ?_
        refine gk_sld (pc := 989) rfl dL_law_989 ?_
        refine gk_i2l (pc := 990) dL_law_990 ?_
        refine gk_bipush (pc := 991) dL_law_991 (by decide +kernel) ?_
        refine gk_lshl (pc := 993) dL_law_993 ?_
        refine gk_aloadR_n (x := b) (pc := 994) 0 dL_law_994 rfl ?_
        refine gk_iload_n (pc := 995) 3 dL_law_995 rfl ?_
        refine gk_iconst (pc := 996) dL_law_996 ?_
        refine gk_iadd (pc := 997) dL_law_997 ?_
        refine gk_sld (pc := 998) rfl dL_law_998 ?_
        refine gk_i2l (pc := 999) dL_law_999 ?_
        refine gk_ldc2 (x := 4294967295) (pc := 1000) rfl dL_law_1000 ww_1111 (by decide +kernel) ?_
        refine gk_land (pc := 1003) dL_law_1003 ?_
        refine gk_lor (pc := 1004) dL_law_1004 ?_
        refine gk_callV_iw (As := [gi ((xs (gn (v3 + 1)).toNat).toInt), gi ((xs (gn (v3 + 2)).toNat).toInt), gl (glor (glshl (gn ((xs (gn (v3 + 3)).toNat).toInt)) 32) (gland (gn ((xs (gn (v3 + 4)).toNat).toInt)) 4294967295))]) (pc := 1005) (c_X6_item ((xs (gn (v3 + 1)).toNat).toInt) ((xs (gn (v3 + 2)).toNat).toInt) (glor (glshl (gn ((xs (gn (v3 + 3)).toNat).toInt)) 32) (gland (gn ((xs (gn (v3 + 4)).toNat).toInt)) 4294967295)) σ) rfl mm_X6_item ww_739 clsX6 rfl cll_0 sh_0 (gs_fitL (Nat.le_of_ble_eq_true rfl) (Nat.le_of_ble_eq_true rfl)) rfl rfl (Nat.le_of_ble_eq_true rfl) dL_law_1005 (fun b538 => ?_)
        refine gk_aload_n (pc := 1008) 2 dL_law_1008 rfl ?_
        refine gk_aloadR_n (x := b) (pc := 1009) 0 dL_law_1009 rfl ?_
        refine gk_iload_n (pc := 1010) 3 dL_law_1010 rfl ?_
        refine gk_iconst (pc := 1011) dL_law_1011 ?_
        refine gk_iadd (pc := 1012) dL_law_1012 ?_
        refine gk_sld (pc := 1013) rfl dL_law_1013 ?_
        refine gk_aloadR_n (x := b) (pc := 1014) 0 dL_law_1014 rfl ?_
        refine gk_iload_n (pc := 1015) 3 dL_law_1015 rfl ?_
        refine gk_iconst (pc := 1016) dL_law_1016 ?_
        refine gk_iadd (pc := 1017) dL_law_1017 ?_
        refine gk_sld (pc := 1018) rfl dL_law_1018 ?_
        refine gk_aloadR_n (x := b) (pc := 1019) 0 dL_law_1019 rfl ?_
        refine gk_iload_n (pc := 1020) 3 dL_law_1020 rfl ?_
        refine gk_iconst (pc := 1021) dL_law_1021 ?_
        refine gk_iadd (pc := 1022) dL_law_1022 ?_
        refine gk_sld (pc := 1023) rfl dL_law_1023 ?_
        refine gk_i2l (pc := 1024) dL_law_1024 ?_
        refine gk_bipush (pc := 1025) dL_law_1025 (by decide +kernel) ?_
        refine gk_lshl (pc := 1027) dL_law_1027 ?_
        refine gk_aloadR_n (x := b) (pc := 1028) 0 dL_law_1028 rfl ?_
        refine gk_iload_n (pc := 1029) 3 dL_law_1029 rfl ?_
        refine gk_iconst (pc := 1030) dL_law_1030 ?_
        refine gk_iadd (pc := 1031) dL_law_1031 ?_
        refine gk_sld (pc := 1032) rfl dL_law_1032 ?_
        refine gk_i2l (pc := 1033) dL_law_1033 ?_
        refine gk_ldc2 (x := 4294967295) (pc := 1034) rfl dL_law_1034 ww_1111 (by decide +kernel) ?_
        refine gk_land (pc := 1037) dL_law_1037 ?_
        refine gk_lor (pc := 1038) dL_law_1038 ?_
        refine gk_callV_iw (As := [gi ((xs (gn (v3 + 1)).toNat).toInt), gi ((xs (gn (v3 + 2)).toNat).toInt), gl (glor (glshl (gn ((xs (gn (v3 + 3)).toNat).toInt)) 32) (gland (gn ((xs (gn (v3 + 4)).toNat).toInt)) 4294967295))]) (pc := 1039) (c_X7_item ((xs (gn (v3 + 1)).toNat).toInt) ((xs (gn (v3 + 2)).toNat).toInt) (glor (glshl (gn ((xs (gn (v3 + 3)).toNat).toInt)) 32) (gland (gn ((xs (gn (v3 + 4)).toNat).toInt)) 4294967295)) b538.2) rfl mm_X7_item ww_1096 clsX7 rfl cll_70 sh_70 (gs_fitL (Nat.le_of_ble_eq_true rfl) (Nat.le_of_ble_eq_true rfl)) rfl rfl (Nat.le_of_ble_eq_true rfl) dL_law_1039 (fun b539 => ?_)
        refine gk_icmp_eq (tgt := 1144) (pc := 1042) dL_law_1042 (by decide) rfl rfl ?_ ?_
        · exact k_L_law_J1144 xs Ls (f_L_law_L18 xs Ls n) v3 ih b539.2
        · refine gk_iconst (pc := 1045) dL_law_1045 ?_
          exact gk_none
      refine gk_sw (tgt := 1047) (pc := 33) 29 dL_law_33 (by decide) rfl (by decide) ?_ (fun hs29 => ?_)
      · refine gk_aload_n (pc := 1047) 1 dL_law_1047 rfl ?_
        refine gk_aloadR_n (x := b) (pc := 1048) 0 dL_law_1048 rfl ?_
        refine gk_iload_n (pc := 1049) 3 dL_law_1049 rfl ?_
        refine gk_iconst (pc := 1050) dL_law_1050 ?_
        refine gk_iadd (pc := 1051) dL_law_1051 ?_
        refine gk_sld (pc := 1052) rfl dL_law_1052 ?_
        refine gk_aloadR_n (x := b) (pc := 1053) 0 dL_law_1053 rfl ?_
        refine gk_iload_n (pc := 1054) 3 dL_law_1054 rfl ?_
        refine gk_iconst (pc := 1055) dL_law_1055 ?_
        refine gk_iadd (pc := 1056) dL_law_1056 ?_
        refine gk_sld (pc := 1057) rfl dL_law_1057 ?_
        refine gk_callV_lr (As := [gi ((xs (gn (v3 + 1)).toNat).toInt), gi ((xs (gn (v3 + 2)).toNat).toInt)]) (pc := 1058) (c_X6_peek ((xs (gn (v3 + 1)).toNat).toInt) ((xs (gn (v3 + 2)).toNat).toInt) σ) rfl mm_X6_peek ww_751 clsX6 rfl cll_0 sh_0 (gs_fitL (Nat.le_of_ble_eq_true rfl) (Nat.le_of_ble_eq_true rfl)) rfl rfl (Nat.le_of_ble_eq_true rfl) dL_law_1058 (fun u540 => ?_)
        refine gk_aload_n (pc := 1061) 2 dL_law_1061 rfl ?_
        refine gk_aloadR_n (x := b) (pc := 1062) 0 dL_law_1062 rfl ?_
        refine gk_iload_n (pc := 1063) 3 dL_law_1063 rfl ?_
        refine gk_iconst (pc := 1064) dL_law_1064 ?_
        refine gk_iadd (pc := 1065) dL_law_1065 ?_
        refine gk_sld (pc := 1066) rfl dL_law_1066 ?_
        refine gk_aloadR_n (x := b) (pc := 1067) 0 dL_law_1067 rfl ?_
        refine gk_iload_n (pc := 1068) 3 dL_law_1068 rfl ?_
        refine gk_iconst (pc := 1069) dL_law_1069 ?_
        refine gk_iadd (pc := 1070) dL_law_1070 ?_
        refine gk_sld (pc := 1071) rfl dL_law_1071 ?_
        refine gk_callV_lr (As := [gi ((xs (gn (v3 + 1)).toNat).toInt), gi ((xs (gn (v3 + 2)).toNat).toInt)]) (pc := 1072) (c_X7_peek ((xs (gn (v3 + 1)).toNat).toInt) ((xs (gn (v3 + 2)).toNat).toInt) σ) rfl mm_X7_peek ww_1103 clsX7 rfl cll_70 sh_70 (gs_fitL (Nat.le_of_ble_eq_true rfl) (Nat.le_of_ble_eq_true rfl)) rfl rfl (Nat.le_of_ble_eq_true rfl) dL_law_1072 (fun u541 => ?_)
        refine gk_lcmp (pc := 1075) dL_law_1075 ?_
        refine gk_if_eq (tgt := 1144) (pc := 1076) dL_law_1076 (by decide) rfl ?_ ?_
        · exact k_L_law_J1144 xs Ls (f_L_law_L18 xs Ls n) v3 ih σ
        · refine gk_iconst (pc := 1079) dL_law_1079 ?_
          exact gk_none
      refine gk_sw (tgt := 1081) (pc := 33) 30 dL_law_33 (by decide) rfl (by decide) ?_ (fun hs30 => ?_)
      · refine gk_aload_n (pc := 1081) 1 dL_law_1081 rfl ?_
        refine gk_aloadR_n (x := b) (pc := 1082) 0 dL_law_1082 rfl ?_
        refine gk_iload_n (pc := 1083) 3 dL_law_1083 rfl ?_
        refine gk_iconst (pc := 1084) dL_law_1084 ?_
        refine gk_iadd (pc := 1085) dL_law_1085 ?_
        refine gk_sld (pc := 1086) rfl dL_law_1086 ?_
        refine gk_aloadR_n (x := b) (pc := 1087) 0 dL_law_1087 rfl ?_
        refine gk_iload_n (pc := 1088) 3 dL_law_1088 rfl ?_
        refine gk_iconst (pc := 1089) dL_law_1089 ?_
        refine gk_iadd (pc := 1090) dL_law_1090 ?_
        refine gk_sld (pc := 1091) rfl dL_law_1091 ?_
        refine gk_aloadR_n (x := b) (pc := 1092) 0 dL_law_1092 rfl ?_
        refine gk_iload_n (pc := 1093) 3 dL_law_1093 rfl ?_
        refine gk_iconst (pc := 1094) dL_law_1094 ?_
        refine gk_iadd (pc := 1095) dL_law_1095 ?_
        refine gk_sld (pc := 1096) rfl dL_law_1096 ?_
        refine gk_aloadR_n (x := b) (pc := 1097) 0 dL_law_1097 rfl ?_
        refine gk_iload_n (pc := 1098) 3 dL_law_1098 rfl ?_
        refine gk_iconst (pc := 1099) dL_law_1099 ?_
        refine gk_iadd (pc := 1100) dL_law_1100 ?_
        refine gk_sld (pc := 1101) rfl dL_law_1101 ?_
        refine gk_aloadR_n (x := b) (pc := 1102) 0 dL_law_1102 rfl ?_
        refine gk_iload_n (pc := 1103) 3 dL_law_1103 rfl ?_
        refine gk_iconst (pc := 1104) dL_law_1104 ?_
        refine gk_iadd (pc := 1105) dL_law_1105 ?_
        refine gk_sld (pc := 1106) rfl dL_law_1106 ?_
        refine gk_callV_iw (As := [gi ((xs (gn (v3 + 1)).toNat).toInt), gi ((xs (gn (v3 + 2)).toNat).toInt), gi ((xs (gn (v3 + 3)).toNat).toInt), gi ((xs (gn (v3 + 4)).toNat).toInt), gi ((xs (gn (v3 + 5)).toNat).toInt)]) (pc := 1107) (c_X6_shift ((xs (gn (v3 + 1)).toNat).toInt) ((xs (gn (v3 + 2)).toNat).toInt) ((xs (gn (v3 + 3)).toNat).toInt) ((xs (gn (v3 + 4)).toNat).toInt) ((xs (gn (v3 + 5)).toNat).toInt) σ) rfl mm_X6_shift ww_755 clsX6 rfl cll_0 sh_0 (gs_fitL (Nat.le_of_ble_eq_true rfl) (Nat.le_of_ble_eq_true rfl)) rfl rfl (Nat.le_of_ble_eq_true rfl) dL_law_1107 (fun b542 => ?_)
        refine gk_aload_n (pc := 1110) 2 dL_law_1110 rfl ?_
        refine gk_aloadR_n (x := b) (pc := 1111) 0 dL_law_1111 rfl ?_
        refine gk_iload_n (pc := 1112) 3 dL_law_1112 rfl ?_
        refine gk_iconst (pc := 1113) dL_law_1113 ?_
        refine gk_iadd (pc := 1114) dL_law_1114 ?_
        refine gk_sld (pc := 1115) rfl dL_law_1115 ?_
        refine gk_aloadR_n (x := b) (pc := 1116) 0 dL_law_1116 rfl ?_
        refine gk_iload_n (pc := 1117) 3 dL_law_1117 rfl ?_
        refine gk_iconst (pc := 1118) dL_law_1118 ?_
        refine gk_iadd (pc := 1119) dL_law_1119 ?_
        refine gk_sld (pc := 1120) rfl dL_law_1120 ?_
        refine gk_aloadR_n (x := b) (pc := 1121) 0 dL_law_1121 rfl ?_
        refine gk_iload_n (pc := 1122) 3 dL_law_1122 rfl ?_
        refine gk_iconst (pc := 1123) dL_law_1123 ?_
        refine gk_iadd (pc := 1124) dL_law_1124 ?_
        refine gk_sld (pc := 1125) rfl dL_law_1125 ?_
        refine gk_aloadR_n (x := b) (pc := 1126) 0 dL_law_1126 rfl ?_
        refine gk_iload_n (pc := 1127) 3 dL_law_1127 rfl ?_
        refine gk_iconst (pc := 1128) dL_law_1128 ?_
        refine gk_iadd (pc := 1129) dL_law_1129 ?_
        refine gk_sld (pc := 1130) rfl dL_law_1130 ?_
        refine gk_aloadR_n (x := b) (pc := 1131) 0 dL_law_1131 rfl ?_
        refine gk_iload_n (pc := 1132) 3 dL_law_1132 rfl ?_
        refine gk_iconst (pc := 1133) dL_law_1133 ?_
        refine gk_iadd (pc := 1134) dL_law_1134 ?_
        refine gk_sld (pc := 1135) rfl dL_law_1135 ?_
        refine gk_callV_iw (As := [gi ((xs (gn (v3 + 1)).toNat).toInt), gi ((xs (gn (v3 + 2)).toNat).toInt), gi ((xs (gn (v3 + 3)).toNat).toInt), gi ((xs (gn (v3 + 4)).toNat).toInt), gi ((xs (gn (v3 + 5)).toNat).toInt)]) (pc := 1136) (c_X7_shift ((xs (gn (v3 + 1)).toNat).toInt) ((xs (gn (v3 + 2)).toNat).toInt) ((xs (gn (v3 + 3)).toNat).toInt) ((xs (gn (v3 + 4)).toNat).toInt) ((xs (gn (v3 + 5)).toNat).toInt) b542.2) rfl mm_X7_shift ww_1107 clsX7 rfl cll_70 sh_70 (gs_fitL (Nat.le_of_ble_eq_true rfl) (Nat.le_of_ble_eq_true rfl)) rfl rfl (Nat.le_of_ble_eq_true rfl) dL_law_1136 (fun b543 => ?_)
        refine gk_icmp_eq (tgt := 1144) (pc := 1139) dL_law_1139 (by decide) rfl rfl ?_ ?_
        · exact k_L_law_J1144 xs Ls (f_L_law_L18 xs Ls n) v3 ih b543.2
        · refine gk_iconst (pc := 1142) dL_law_1142 ?_
          exact gk_none
      refine gk_swD (tgt := 1144) (pc := 33) dL_law_33 (by omega) (by decide) ?_
      exact k_L_law_J1144 xs Ls (f_L_law_L18 xs Ls n) v3 ih σ
