def f_J6_bitCount_0f7a4 (v0 : Int) (σ : gs_Mem) : Option (Int) :=
  gs_let ((gand (v0 - (gand (gushr v0 1) 1431655765)) 858993459) + (gand (gushr (v0 - (gand (gushr v0 1) 1431655765)) 2) 858993459)) fun x1 =>
  gs_let ((gand (x1 + (gushr x1 4)) 252645135) + (gushr (gand (x1 + (gushr x1 4)) 252645135) 8)) fun x2 =>
  some (gand (x2 + (gushr x2 16)) 63)
set_option maxRecDepth 100000 in
set_option maxHeartbeats 4000000 in
theorem c_J6_bitCount_0f7a4 {E : gs_E} (v0 : Int)  (σ : gs_Mem) : gs_C E yJ6_bitCount_0f7a4 cJ6_bitCount_0f7a4 1 (some .int) 0 { frames := 0, cells := 0, slots := 0, locals := 0 } [gi v0] σ (f_J6_bitCount_0f7a4 v0 σ) (fun v : Int => (v, σ)) := by
  unfold f_J6_bitCount_0f7a4
  refine gs_enter (L := [(0, gi v0)]) (by decide) rfl rfl (Nat.le_of_ble_eq_true rfl) rfl ?_
  refine gk_iload_n (pc := 0) 0 dJ6_bitCount_0f7a4_0 rfl ?_
  refine gk_iload_n (pc := 1) 0 dJ6_bitCount_0f7a4_1 rfl ?_
  refine gk_iconst (pc := 2) dJ6_bitCount_0f7a4_2 ?_
  refine gk_iushr (pc := 3) dJ6_bitCount_0f7a4_3 ?_
  refine gk_ldcw (x := 1431655765) (pc := 4) rfl dJ6_bitCount_0f7a4_4 ww_424 (by decide +kernel) ?_
  refine gk_iand (pc := 7) dJ6_bitCount_0f7a4_7 ?_
  refine gk_isub (pc := 8) dJ6_bitCount_0f7a4_8 ?_
  refine gk_istore_n (L' := [(0, gi (v0 - (gand (gushr v0 1) 1431655765)))]) (pc := 9) dJ6_bitCount_0f7a4_9 (Nat.le_of_ble_eq_true rfl) rfl ?_
  refine gk_iload_n (pc := 10) 0 dJ6_bitCount_0f7a4_10 rfl ?_
  refine gk_ldcw (x := 858993459) (pc := 11) rfl dJ6_bitCount_0f7a4_11 ww_425 (by decide +kernel) ?_
  refine gk_iand (pc := 14) dJ6_bitCount_0f7a4_14 ?_
  refine gk_iload_n (pc := 15) 0 dJ6_bitCount_0f7a4_15 rfl ?_
  refine gk_iconst (pc := 16) dJ6_bitCount_0f7a4_16 ?_
  refine gk_iushr (pc := 17) dJ6_bitCount_0f7a4_17 ?_
  refine gk_ldcw (x := 858993459) (pc := 18) rfl dJ6_bitCount_0f7a4_18 ww_425 (by decide +kernel) ?_
  refine gk_iand (pc := 21) dJ6_bitCount_0f7a4_21 ?_
  refine gk_iadd (pc := 22) dJ6_bitCount_0f7a4_22 ?_
  refine gk_let (fun x1 => ?_)
  refine gk_istore_n (L' := [(0, gi x1)]) (pc := 23) dJ6_bitCount_0f7a4_23 (Nat.le_of_ble_eq_true rfl) rfl ?_
  refine gk_iload_n (pc := 24) 0 dJ6_bitCount_0f7a4_24 rfl ?_
  refine gk_iload_n (pc := 25) 0 dJ6_bitCount_0f7a4_25 rfl ?_
  refine gk_iconst (pc := 26) dJ6_bitCount_0f7a4_26 ?_
  refine gk_iushr (pc := 27) dJ6_bitCount_0f7a4_27 ?_
  refine gk_iadd (pc := 28) dJ6_bitCount_0f7a4_28 ?_
  refine gk_ldcw (x := 252645135) (pc := 29) rfl dJ6_bitCount_0f7a4_29 ww_426 (by decide +kernel) ?_
  refine gk_iand (pc := 32) dJ6_bitCount_0f7a4_32 ?_
  refine gk_istore_n (L' := [(0, gi (gand (x1 + (gushr x1 4)) 252645135))]) (pc := 33) dJ6_bitCount_0f7a4_33 (Nat.le_of_ble_eq_true rfl) rfl ?_
  refine gk_iload_n (pc := 34) 0 dJ6_bitCount_0f7a4_34 rfl ?_
  refine gk_iload_n (pc := 35) 0 dJ6_bitCount_0f7a4_35 rfl ?_
  refine gk_bipush (pc := 36) dJ6_bitCount_0f7a4_36 (by decide +kernel) ?_
  refine gk_iushr (pc := 38) dJ6_bitCount_0f7a4_38 ?_
  refine gk_iadd (pc := 39) dJ6_bitCount_0f7a4_39 ?_
  refine gk_let (fun x2 => ?_)
  refine gk_istore_n (L' := [(0, gi x2)]) (pc := 40) dJ6_bitCount_0f7a4_40 (Nat.le_of_ble_eq_true rfl) rfl ?_
  refine gk_iload_n (pc := 41) 0 dJ6_bitCount_0f7a4_41 rfl ?_
  refine gk_iload_n (pc := 42) 0 dJ6_bitCount_0f7a4_42 rfl ?_
  refine gk_bipush (pc := 43) dJ6_bitCount_0f7a4_43 (by decide +kernel) ?_
  refine gk_iushr (pc := 45) dJ6_bitCount_0f7a4_45 ?_
  refine gk_iadd (pc := 46) dJ6_bitCount_0f7a4_46 ?_
  refine gk_istore_n (L' := [(0, gi (x2 + (gushr x2 16)))]) (pc := 47) dJ6_bitCount_0f7a4_47 (Nat.le_of_ble_eq_true rfl) rfl ?_
  refine gk_iload_n (pc := 48) 0 dJ6_bitCount_0f7a4_48 rfl ?_
  refine gk_bipush (pc := 49) dJ6_bitCount_0f7a4_49 (by decide +kernel) ?_
  refine gk_iand (pc := 51) dJ6_bitCount_0f7a4_51 ?_
  exact gk_iret (pc := 52) rfl dJ6_bitCount_0f7a4_52
