theorem za_i (m : Nat) : ∀ cA : ClassId, vp_cell cA (m, .inl fun j => Int32.ofInt (zr j)) = arrV cA m (fun _ => defaultValue .int) := fun cA => by rw [vp_cell_i]; rfl
theorem za_b (m : Nat) : ∀ cA : ClassId, vp_cell cA (m, .inl fun j => Int32.ofInt (zr j)) = arrV cA m (fun _ => defaultValue .byte) := fun cA => by rw [vp_cell_i]; rfl
theorem za_z (m : Nat) : ∀ cA : ClassId, vp_cell cA (m, .inl fun j => Int32.ofInt (zr j)) = arrV cA m (fun _ => defaultValue .boolean) := fun cA => by rw [vp_cell_i]; rfl
theorem za_l (m : Nat) : ∀ cA : ClassId, vp_cell cA (m, .inr (.inl fun j => Int64.ofInt (zr j))) = arrV cA m (fun _ => defaultValue .long) := fun cA => by rw [vp_cell_l]; rfl
theorem wa_int : Cond.arrayClass .int ∈ WS := inWS 119 (by decide +kernel) (by decide +kernel)
theorem wa_byte : Cond.arrayClass .byte ∈ WS := inWS 208 (by decide +kernel) (by decide +kernel)
theorem wa_boolean : Cond.arrayClass .boolean ∈ WS := inWS 209 (by decide +kernel) (by decide +kernel)
theorem wa_long : Cond.arrayClass .long ∈ WS := inWS 227 (by decide +kernel) (by decide +kernel)
theorem wf_RX1_9 : Cond.fieldLink RX1 9 (TX1 1).1 (TX1 1).2.1 (TX1 1).2.2.1 ∈ WS := inWS 130 (by decide +kernel) (by decide +kernel)
theorem wf_RX1_15 : Cond.fieldLink RX1 15 (TX1 2).1 (TX1 2).2.1 (TX1 2).2.2.1 ∈ WS := inWS 131 (by decide +kernel) (by decide +kernel)
theorem wf_RX1_18 : Cond.fieldLink RX1 18 (TX1 3).1 (TX1 3).2.1 (TX1 3).2.2.1 ∈ WS := inWS 132 (by decide +kernel) (by decide +kernel)
theorem wf_RX1_28 : Cond.fieldLink RX1 28 (TX1 0).1 (TX1 0).2.1 (TX1 0).2.2.1 ∈ WS := inWS 129 (by decide +kernel) (by decide +kernel)
theorem wf_RX0_9 : Cond.fieldLink RX0 9 (TX0 0).1 (TX0 0).2.1 (TX0 0).2.2.1 ∈ WS := inWS 88 (by decide +kernel) (by decide +kernel)
theorem wf_RX0_15 : Cond.fieldLink RX0 15 (TX0 1).1 (TX0 1).2.1 (TX0 1).2.2.1 ∈ WS := inWS 89 (by decide +kernel) (by decide +kernel)
theorem wf_RX0_18 : Cond.fieldLink RX0 18 (TX0 2).1 (TX0 2).2.1 (TX0 2).2.2.1 ∈ WS := inWS 90 (by decide +kernel) (by decide +kernel)
theorem wf_RX0_21 : Cond.fieldLink RX0 21 (TX0 3).1 (TX0 3).2.1 (TX0 3).2.2.1 ∈ WS := inWS 91 (by decide +kernel) (by decide +kernel)
theorem wf_RX0_24 : Cond.fieldLink RX0 24 (TX0 4).1 (TX0 4).2.1 (TX0 4).2.2.1 ∈ WS := inWS 92 (by decide +kernel) (by decide +kernel)
theorem wf_RX0_27 : Cond.fieldLink RX0 27 (TX0 5).1 (TX0 5).2.1 (TX0 5).2.2.1 ∈ WS := inWS 93 (by decide +kernel) (by decide +kernel)
theorem wf_RX0_30 : Cond.fieldLink RX0 30 (TX0 6).1 (TX0 6).2.1 (TX0 6).2.2.1 ∈ WS := inWS 94 (by decide +kernel) (by decide +kernel)
theorem wf_RX0_33 : Cond.fieldLink RX0 33 (TX0 7).1 (TX0 7).2.1 (TX0 7).2.2.1 ∈ WS := inWS 95 (by decide +kernel) (by decide +kernel)
theorem wf_RX0_36 : Cond.fieldLink RX0 36 (TX0 8).1 (TX0 8).2.1 (TX0 8).2.2.1 ∈ WS := inWS 96 (by decide +kernel) (by decide +kernel)
theorem wf_RX0_40 : Cond.fieldLink RX0 40 (TX0 9).1 (TX0 9).2.1 (TX0 9).2.2.1 ∈ WS := inWS 97 (by decide +kernel) (by decide +kernel)
theorem wf_RX3_9 : Cond.fieldLink RX3 9 (TX3 0).1 (TX3 0).2.1 (TX3 0).2.2.1 ∈ WS := inWS 217 (by decide +kernel) (by decide +kernel)
theorem wf_RX3_15 : Cond.fieldLink RX3 15 (TX3 1).1 (TX3 1).2.1 (TX3 1).2.2.1 ∈ WS := inWS 218 (by decide +kernel) (by decide +kernel)
theorem wf_RX3_19 : Cond.fieldLink RX3 19 (TX3 2).1 (TX3 2).2.1 (TX3 2).2.2.1 ∈ WS := inWS 219 (by decide +kernel) (by decide +kernel)
theorem wf_RX4_9 : Cond.fieldLink RX4 9 (TX4 0).1 (TX4 0).2.1 (TX4 0).2.2.1 ∈ WS := inWS 180 (by decide +kernel) (by decide +kernel)
theorem wf_RX4_15 : Cond.fieldLink RX4 15 (TX4 1).1 (TX4 1).2.1 (TX4 1).2.2.1 ∈ WS := inWS 181 (by decide +kernel) (by decide +kernel)
theorem wf_RX4_19 : Cond.fieldLink RX4 19 (TX4 2).1 (TX4 2).2.1 (TX4 2).2.2.1 ∈ WS := inWS 182 (by decide +kernel) (by decide +kernel)
theorem wf_RX4_22 : Cond.fieldLink RX4 22 (TX4 3).1 (TX4 3).2.1 (TX4 3).2.2.1 ∈ WS := inWS 183 (by decide +kernel) (by decide +kernel)
theorem wf_RX4_25 : Cond.fieldLink RX4 25 (TX4 4).1 (TX4 4).2.1 (TX4 4).2.2.1 ∈ WS := inWS 184 (by decide +kernel) (by decide +kernel)
theorem wf_RX4_28 : Cond.fieldLink RX4 28 (TX4 5).1 (TX4 5).2.1 (TX4 5).2.2.1 ∈ WS := inWS 185 (by decide +kernel) (by decide +kernel)
theorem wf_RX4_32 : Cond.fieldLink RX4 32 (TX4 6).1 (TX4 6).2.1 (TX4 6).2.2.1 ∈ WS := inWS 186 (by decide +kernel) (by decide +kernel)
theorem wf_RX4_35 : Cond.fieldLink RX4 35 (TX4 7).1 (TX4 7).2.1 (TX4 7).2.2.1 ∈ WS := inWS 187 (by decide +kernel) (by decide +kernel)
theorem wf_RX4_38 : Cond.fieldLink RX4 38 (TX4 8).1 (TX4 8).2.1 (TX4 8).2.2.1 ∈ WS := inWS 188 (by decide +kernel) (by decide +kernel)
theorem wf_RX5_9 : Cond.fieldLink RX5 9 (TX5 0).1 (TX5 0).2.1 (TX5 0).2.2.1 ∈ WS := inWS 167 (by decide +kernel) (by decide +kernel)
theorem wf_RX5_15 : Cond.fieldLink RX5 15 (TX5 1).1 (TX5 1).2.1 (TX5 1).2.2.1 ∈ WS := inWS 168 (by decide +kernel) (by decide +kernel)
theorem wn_RX2_9 : Cond.classLink RX2 9 RX0 ∈ WS ∧ Cond.instantiable RX0 10 ∈ WS ∧ Cond.initialized RX0 ∈ WS := ⟨inWS 82 (by decide +kernel) (by decide +kernel), inWS 83 (by decide +kernel) (by decide +kernel), inWS 59 (by decide +kernel) (by decide +kernel)⟩
theorem dv_0 : ∀ j, j < 10 → defaultValue (tyX0 j) = vp_V [.null, .null, .null, .null, .null, .null, .null, .null, gi 0, gi 0] j := by
  intro j hj
  match j, hj with
  | 0, _ => rfl
  | 1, _ => rfl
  | 2, _ => rfl
  | 3, _ => rfl
  | 4, _ => rfl
  | 5, _ => rfl
  | 6, _ => rfl
  | 7, _ => rfl
  | 8, _ => rfl
  | 9, _ => rfl
  | z + 10, h => exact absurd h (by omega)
theorem wl_RX2_11 : Cond.methodLink RX2 11 yX0_init ∈ WS := inWS 84 (by decide +kernel) (by decide +kernel)
theorem wf_RX2_12 : Cond.fieldLink RX2 12 (TX2 0).1 (TX2 0).2.1 (TX2 0).2.2.1 ∈ WS := inWS 142 (by decide +kernel) (by decide +kernel)
theorem wn_RX2_18 : Cond.classLink RX2 18 RX1 ∈ WS ∧ Cond.instantiable RX1 4 ∈ WS ∧ Cond.initialized RX1 ∈ WS := ⟨inWS 120 (by decide +kernel) (by decide +kernel), inWS 121 (by decide +kernel) (by decide +kernel), inWS 60 (by decide +kernel) (by decide +kernel)⟩
theorem dv_1 : ∀ j, j < 4 → defaultValue (tyX1 j) = vp_V [gi 0, .null, .null, gi 0] j := by
  intro j hj
  match j, hj with
  | 0, _ => rfl
  | 1, _ => rfl
  | 2, _ => rfl
  | 3, _ => rfl
  | z + 4, h => exact absurd h (by omega)
theorem wl_RX2_20 : Cond.methodLink RX2 20 yX1_init ∈ WS := inWS 122 (by decide +kernel) (by decide +kernel)
theorem wf_RX2_23 : Cond.fieldLink RX2 23 (TX2 1).1 (TX2 1).2.1 (TX2 1).2.2.1 ∈ WS := inWS 144 (by decide +kernel) (by decide +kernel)
theorem wf_RX2_27 : Cond.fieldLink RX2 27 (TX2 2).1 (TX2 2).2.1 (TX2 2).2.2.1 ∈ WS := inWS 146 (by decide +kernel) (by decide +kernel)
theorem wf_RX2_30 : Cond.fieldLink RX2 30 (TX2 3).1 (TX2 3).2.1 (TX2 3).2.2.1 ∈ WS := inWS 148 (by decide +kernel) (by decide +kernel)
theorem wn_RX6_11 : Cond.classLink RX6 11 RX2 ∈ WS ∧ Cond.instantiable RX2 4 ∈ WS ∧ Cond.initialized RX2 ∈ WS := ⟨inWS 76 (by decide +kernel) (by decide +kernel), inWS 77 (by decide +kernel) (by decide +kernel), inWS 58 (by decide +kernel) (by decide +kernel)⟩
theorem dv_2 : ∀ j, j < 4 → defaultValue (tyX2 j) = vp_V [.null, .null, .null, .null] j := by
  intro j hj
  match j, hj with
  | 0, _ => rfl
  | 1, _ => rfl
  | 2, _ => rfl
  | 3, _ => rfl
  | z + 4, h => exact absurd h (by omega)
theorem wl_RX6_13 : Cond.methodLinkNest RX6 13 yX2_init "GapStations" ∈ WN := inWN 78 (by decide +kernel) (by decide +kernel)
theorem wf_RX6_14 : Cond.fieldLink RX6 14 (TX6 0).1 (TX6 0).2.1 (TX6 0).2.2.1 ∈ WS := inWS 228 (by decide +kernel) (by decide +kernel)
theorem wf_RX6_18 : Cond.fieldLink RX6 18 (TX6 1).1 (TX6 1).2.1 (TX6 1).2.2.1 ∈ WS := inWS 229 (by decide +kernel) (by decide +kernel)
theorem wf_RX6_21 : Cond.fieldLink RX6 21 (TX6 2).1 (TX6 2).2.1 (TX6 2).2.2.1 ∈ WS := inWS 230 (by decide +kernel) (by decide +kernel)
theorem wn_RX6_25 : Cond.classLink RX6 25 RX0 ∈ WS ∧ Cond.instantiable RX0 10 ∈ WS ∧ Cond.initialized RX0 ∈ WS := ⟨inWS 159 (by decide +kernel) (by decide +kernel), inWS 83 (by decide +kernel) (by decide +kernel), inWS 59 (by decide +kernel) (by decide +kernel)⟩
theorem wl_RX6_27 : Cond.methodLink RX6 27 yX0_init ∈ WS := inWS 160 (by decide +kernel) (by decide +kernel)
theorem wf_RX6_28 : Cond.fieldLink RX6 28 (TX6 3).1 (TX6 3).2.1 (TX6 3).2.2.1 ∈ WS := inWS 231 (by decide +kernel) (by decide +kernel)
theorem wn_RX6_32 : Cond.classLink RX6 32 RX5 ∈ WS ∧ Cond.instantiable RX5 2 ∈ WS ∧ Cond.initialized RX5 ∈ WS := ⟨inWS 161 (by decide +kernel) (by decide +kernel), inWS 162 (by decide +kernel) (by decide +kernel), inWS 62 (by decide +kernel) (by decide +kernel)⟩
theorem dv_5 : ∀ j, j < 2 → defaultValue (tyX5 j) = vp_V [.null, .null] j := by
  intro j hj
  match j, hj with
  | 0, _ => rfl
  | 1, _ => rfl
  | z + 2, h => exact absurd h (by omega)
theorem wl_RX6_34 : Cond.methodLinkNest RX6 34 yX5_init "GapStations" ∈ WN := inWN 163 (by decide +kernel) (by decide +kernel)
theorem wf_RX6_35 : Cond.fieldLink RX6 35 (TX6 4).1 (TX6 4).2.1 (TX6 4).2.2.1 ∈ WS := inWS 232 (by decide +kernel) (by decide +kernel)
theorem wn_RX6_39 : Cond.classLink RX6 39 RX4 ∈ WS ∧ Cond.instantiable RX4 9 ∈ WS ∧ Cond.initialized RX4 ∈ WS := ⟨inWS 174 (by decide +kernel) (by decide +kernel), inWS 175 (by decide +kernel) (by decide +kernel), inWS 63 (by decide +kernel) (by decide +kernel)⟩
theorem dv_4 : ∀ j, j < 9 → defaultValue (tyX4 j) = vp_V [.null, gi 0, gi 0, gi 0, gi 0, .null, .null, .null, .null] j := by
  intro j hj
  match j, hj with
  | 0, _ => rfl
  | 1, _ => rfl
  | 2, _ => rfl
  | 3, _ => rfl
  | 4, _ => rfl
  | 5, _ => rfl
  | 6, _ => rfl
  | 7, _ => rfl
  | 8, _ => rfl
  | z + 9, h => exact absurd h (by omega)
theorem wl_RX6_41 : Cond.methodLinkNest RX6 41 yX4_init "GapStations" ∈ WN := inWN 176 (by decide +kernel) (by decide +kernel)
theorem wf_RX6_42 : Cond.fieldLink RX6 42 (TX6 5).1 (TX6 5).2.1 (TX6 5).2.2.1 ∈ WS := inWS 233 (by decide +kernel) (by decide +kernel)
theorem wc_RX6_46 : Cond.classLink RX6 46 "GapStations$Tape" ∈ WS := inWS 210 (by decide +kernel) (by decide +kernel)
theorem wf_RX6_48 : Cond.fieldLink RX6 48 (TX6 6).1 (TX6 6).2.1 (TX6 6).2.2.1 ∈ WS := inWS 234 (by decide +kernel) (by decide +kernel)
theorem wn_RX6_46 : Cond.classLink RX6 46 RX3 ∈ WS ∧ Cond.instantiable RX3 3 ∈ WS ∧ Cond.initialized RX3 ∈ WS := ⟨inWS 210 (by decide +kernel) (by decide +kernel), inWS 212 (by decide +kernel) (by decide +kernel), inWS 64 (by decide +kernel) (by decide +kernel)⟩
theorem dv_3 : ∀ j, j < 3 → defaultValue (tyX3 j) = vp_V [.null, gi 0, gi 0] j := by
  intro j hj
  match j, hj with
  | 0, _ => rfl
  | 1, _ => rfl
  | 2, _ => rfl
  | z + 3, h => exact absurd h (by omega)
theorem wl_RX6_52 : Cond.methodLinkNest RX6 52 yX3_init "GapStations" ∈ WN := inWN 213 (by decide +kernel) (by decide +kernel)
theorem wf_RX7_11 : Cond.fieldLink RX7 11 (TX7 0).1 (TX7 0).2.1 (TX7 0).2.2.1 ∈ WS := inWS 775 (by decide +kernel) (by decide +kernel)
theorem wf_RX7_15 : Cond.fieldLink RX7 15 (TX7 1).1 (TX7 1).2.1 (TX7 1).2.2.1 ∈ WS := inWS 776 (by decide +kernel) (by decide +kernel)
theorem wf_RX7_18 : Cond.fieldLink RX7 18 (TX7 2).1 (TX7 2).2.1 (TX7 2).2.2.1 ∈ WS := inWS 777 (by decide +kernel) (by decide +kernel)
theorem wf_RX7_21 : Cond.fieldLink RX7 21 (TX7 4).1 (TX7 4).2.1 (TX7 4).2.2.1 ∈ WS := inWS 779 (by decide +kernel) (by decide +kernel)
theorem wf_RX7_24 : Cond.fieldLink RX7 24 (TX7 7).1 (TX7 7).2.1 (TX7 7).2.2.1 ∈ WS := inWS 782 (by decide +kernel) (by decide +kernel)
theorem wf_RX7_27 : Cond.fieldLink RX7 27 (TX7 8).1 (TX7 8).2.1 (TX7 8).2.2.1 ∈ WS := inWS 783 (by decide +kernel) (by decide +kernel)
theorem wf_RX7_30 : Cond.fieldLink RX7 30 (TX7 9).1 (TX7 9).2.1 (TX7 9).2.2.1 ∈ WS := inWS 784 (by decide +kernel) (by decide +kernel)
theorem wf_RX7_33 : Cond.fieldLink RX7 33 (TX7 10).1 (TX7 10).2.1 (TX7 10).2.2.1 ∈ WS := inWS 785 (by decide +kernel) (by decide +kernel)
theorem mmw_RX1_22 : gs_mmW RX1 22 Lib.Math.min.name Lib.Math.min.code 2 := ⟨inWS 126 (by decide +kernel) (by decide +kernel), inWS 127 (by decide +kernel) (by decide +kernel), inWS 61 (by decide +kernel) (by decide +kernel), inWS 128 (by decide +kernel) (by decide +kernel)⟩
theorem mi_X1_init : gw_mI yX1_init cX1_init 2 1 := ⟨inWS 124 (by decide +kernel) (by decide +kernel), inWS 123 (by decide +kernel) (by decide +kernel), inWS 60 (by decide +kernel) (by decide +kernel), rfl, by decide +kernel, by decide +kernel, by decide +kernel⟩
theorem wo_X1_init : Cond.methodLink RX1 3 Lib.objectInit ∈ WS ∧ Cond.instanceMethod Lib.objectInit ∈ WS ∧ Cond.code Lib.objectInit ⟨#[0xb1]⟩ 1 none ∈ WS := ⟨inWS 125 (by decide +kernel) (by decide +kernel), inWS 74 (by decide +kernel) (by decide +kernel), inWS 75 (by decide +kernel) (by decide +kernel)⟩
theorem mi_X0_init : gw_mI yX0_init cX0_init 2 0 := ⟨inWS 86 (by decide +kernel) (by decide +kernel), inWS 85 (by decide +kernel) (by decide +kernel), inWS 59 (by decide +kernel) (by decide +kernel), rfl, by decide +kernel, by decide +kernel, by decide +kernel⟩
theorem wo_X0_init : Cond.methodLink RX0 3 Lib.objectInit ∈ WS ∧ Cond.instanceMethod Lib.objectInit ∈ WS ∧ Cond.code Lib.objectInit ⟨#[0xb1]⟩ 1 none ∈ WS := ⟨inWS 87 (by decide +kernel) (by decide +kernel), inWS 74 (by decide +kernel) (by decide +kernel), inWS 75 (by decide +kernel) (by decide +kernel)⟩
theorem mi_X3_init : gw_mI yX3_init cX3_init 1 0 := ⟨inWS 215 (by decide +kernel) (by decide +kernel), inWS 214 (by decide +kernel) (by decide +kernel), inWS 64 (by decide +kernel) (by decide +kernel), rfl, by decide +kernel, by decide +kernel, by decide +kernel⟩
theorem wo_X3_init : Cond.methodLink RX3 3 Lib.objectInit ∈ WS ∧ Cond.instanceMethod Lib.objectInit ∈ WS ∧ Cond.code Lib.objectInit ⟨#[0xb1]⟩ 1 none ∈ WS := ⟨inWS 216 (by decide +kernel) (by decide +kernel), inWS 74 (by decide +kernel) (by decide +kernel), inWS 75 (by decide +kernel) (by decide +kernel)⟩
theorem mi_X4_init : gw_mI yX4_init cX4_init 1 0 := ⟨inWS 178 (by decide +kernel) (by decide +kernel), inWS 177 (by decide +kernel) (by decide +kernel), inWS 63 (by decide +kernel) (by decide +kernel), rfl, by decide +kernel, by decide +kernel, by decide +kernel⟩
theorem wo_X4_init : Cond.methodLink RX4 3 Lib.objectInit ∈ WS ∧ Cond.instanceMethod Lib.objectInit ∈ WS ∧ Cond.code Lib.objectInit ⟨#[0xb1]⟩ 1 none ∈ WS := ⟨inWS 179 (by decide +kernel) (by decide +kernel), inWS 74 (by decide +kernel) (by decide +kernel), inWS 75 (by decide +kernel) (by decide +kernel)⟩
theorem mi_X5_init : gw_mI yX5_init cX5_init 1 0 := ⟨inWS 165 (by decide +kernel) (by decide +kernel), inWS 164 (by decide +kernel) (by decide +kernel), inWS 62 (by decide +kernel) (by decide +kernel), rfl, by decide +kernel, by decide +kernel, by decide +kernel⟩
theorem wo_X5_init : Cond.methodLink RX5 3 Lib.objectInit ∈ WS ∧ Cond.instanceMethod Lib.objectInit ∈ WS ∧ Cond.code Lib.objectInit ⟨#[0xb1]⟩ 1 none ∈ WS := ⟨inWS 166 (by decide +kernel) (by decide +kernel), inWS 74 (by decide +kernel) (by decide +kernel), inWS 75 (by decide +kernel) (by decide +kernel)⟩
theorem mi_X2_init : gw_mI yX2_init cX2_init 1 0 := ⟨inWS 80 (by decide +kernel) (by decide +kernel), inWS 79 (by decide +kernel) (by decide +kernel), inWS 58 (by decide +kernel) (by decide +kernel), rfl, by decide +kernel, by decide +kernel, by decide +kernel⟩
theorem wo_X2_init : Cond.methodLink RX2 3 Lib.objectInit ∈ WS ∧ Cond.instanceMethod Lib.objectInit ∈ WS ∧ Cond.code Lib.objectInit ⟨#[0xb1]⟩ 1 none ∈ WS := ⟨inWS 81 (by decide +kernel) (by decide +kernel), inWS 74 (by decide +kernel) (by decide +kernel), inWS 75 (by decide +kernel) (by decide +kernel)⟩
theorem mi_X6_init : gw_mI yX6_init cX6_init 2 0 := ⟨inWS 72 (by decide +kernel) (by decide +kernel), inWS 71 (by decide +kernel) (by decide +kernel), inWS 57 (by decide +kernel) (by decide +kernel), rfl, by decide +kernel, by decide +kernel, by decide +kernel⟩
theorem wo_X6_init : Cond.methodLink RX6 5 Lib.objectInit ∈ WS ∧ Cond.instanceMethod Lib.objectInit ∈ WS ∧ Cond.code Lib.objectInit ⟨#[0xb1]⟩ 1 none ∈ WS := ⟨inWS 73 (by decide +kernel) (by decide +kernel), inWS 74 (by decide +kernel) (by decide +kernel), inWS 75 (by decide +kernel) (by decide +kernel)⟩
theorem mi_X7_init : gw_mI yX7_init cX7_init 2 0 := ⟨inWS 773 (by decide +kernel) (by decide +kernel), inWS 772 (by decide +kernel) (by decide +kernel), inWS 65 (by decide +kernel) (by decide +kernel), rfl, by decide +kernel, by decide +kernel, by decide +kernel⟩
theorem wo_X7_init : Cond.methodLink RX7 3 Lib.objectInit ∈ WS ∧ Cond.instanceMethod Lib.objectInit ∈ WS ∧ Cond.code Lib.objectInit ⟨#[0xb1]⟩ 1 none ∈ WS := ⟨inWS 774 (by decide +kernel) (by decide +kernel), inWS 74 (by decide +kernel) (by decide +kernel), inWS 75 (by decide +kernel) (by decide +kernel)⟩
def po_X1_init (cA : FieldType → ClassId) (v1 : Int) (a : Nat) (l : va_W) : Prop := ∃ (q1 : Nat) (q2 : Nat), l = [(a, cO 1 [gi (gmin v1 8), .ref q1, .ref q2, gi 0])] ++ [(q1, cI cA 8 zr)] ++ [(q2, cI cA 8 zr)]
set_option maxRecDepth 100000 in
set_option maxHeartbeats 8000000 in
theorem c_X1_init (U : gw_U) (a : Nat) (v1 : Int) : gw_C U yX1_init cX1_init 2 { frames := 1, cells := 2, slots := 16, locals := 21 } a [gi v1] (cO 1 [gi 0, .null, .null, gi 0]) (po_X1_init (gw_cA U) v1 a) := by
  refine gw_enter (L := [(0, .ref a), (1, gi v1)]) (by decide) rfl (Nat.le_of_ble_eq_true rfl) rfl ?_
  refine gw_aload_n (pc := 0) 0 dX1_init_0 rfl ?_
  refine gw_objInit (pc := 1) rfl wo_X1_init (Nat.le_of_ble_eq_true rfl) (Nat.le_of_ble_eq_true rfl) dX1_init_1 ?_
  refine gw_aload_n (pc := 4) 0 dX1_init_4 rfl ?_
  refine gw_bipush (pc := 5) dX1_init_5 (by decide +kernel) ?_
  refine gw_newa (ty := .int) (m := 8) (a0 := (8, .inl fun j => Int32.ofInt (zr j))) (pc := 7) 0 rfl rfl (fun C h => by cases h) wa_int (za_i 8) (by decide +kernel) (by decide +kernel) (by decide) ⟨Nat.le_of_ble_eq_true rfl, Nat.le_of_ble_eq_true rfl⟩ dX1_init_7 (fun q1 => ?_)
  refine gw_putF (l2 := [(a, cO 1 [gi 0, .ref q1, .null, gi 0])] ++ [(q1, cI (gw_cA U) 8 zr)]) (pc := 9) 0 1 rfl clsX1 rfl (by decide) rfl rfl rfl rfl (Nat.le_of_ble_eq_true rfl) wf_RX1_9 rfl dX1_init_9 ?_
  refine gw_aload_n (pc := 12) 0 dX1_init_12 rfl ?_
  refine gw_bipush (pc := 13) dX1_init_13 (by decide +kernel) ?_
  refine gw_newa (ty := .int) (m := 8) (a0 := (8, .inl fun j => Int32.ofInt (zr j))) (pc := 15) 0 rfl rfl (fun C h => by cases h) wa_int (za_i 8) (by decide +kernel) (by decide +kernel) (by decide) ⟨Nat.le_of_ble_eq_true rfl, Nat.le_of_ble_eq_true rfl⟩ dX1_init_15 (fun q2 => ?_)
  refine gw_putF (l2 := [(a, cO 1 [gi 0, .ref q1, .ref q2, gi 0])] ++ [(q1, cI (gw_cA U) 8 zr)] ++ [(q2, cI (gw_cA U) 8 zr)]) (pc := 17) 0 2 rfl clsX1 rfl (by decide) rfl rfl rfl rfl (Nat.le_of_ble_eq_true rfl) wf_RX1_15 rfl dX1_init_17 ?_
  refine gw_aload_n (pc := 20) 0 dX1_init_20 rfl ?_
  refine gw_iconst (pc := 21) dX1_init_21 ?_
  refine gw_put (l2 := [(a, cO 1 [gi 0, .ref q1, .ref q2, gi 0])] ++ [(q1, cI (gw_cA U) 8 zr)] ++ [(q2, cI (gw_cA U) 8 zr)]) (pc := 22) 0 3 rfl clsX1 rfl (by decide) rfl rfl rfl (Nat.le_of_ble_eq_true rfl) wf_RX1_18 rfl dX1_init_22 ?_
  refine gw_aload_n (pc := 25) 0 dX1_init_25 rfl ?_
  refine gw_iload_n (pc := 26) 1 dX1_init_26 rfl ?_
  refine gw_bipush (pc := 27) dX1_init_27 (by decide +kernel) ?_
  refine gw_mmin (pc := 29) rfl mmw_RX1_22 (Nat.le_of_ble_eq_true rfl) (Nat.le_of_ble_eq_true rfl) ⟨Nat.le_of_ble_eq_true rfl, Nat.le_of_ble_eq_true rfl⟩ dX1_init_29 ?_
  refine gw_putF (l2 := [(a, cO 1 [gi (gmin v1 8), .ref q1, .ref q2, gi 0])] ++ [(q1, cI (gw_cA U) 8 zr)] ++ [(q2, cI (gw_cA U) 8 zr)]) (pc := 32) 0 0 rfl clsX1 rfl (by decide) rfl rfl rfl rfl (Nat.le_of_ble_eq_true rfl) wf_RX1_28 rfl dX1_init_32 ?_
  exact gw_ret (pc := 35) dX1_init_35 rfl rfl ⟨q1, q2, rfl⟩
def po_X0_init (cA : FieldType → ClassId) (a : Nat) (l : va_W) : Prop := ∃ (q1 : Nat) (q2 : Nat) (q3 : Nat) (q4 : Nat) (q5 : Nat) (q6 : Nat) (q7 : Nat) (q8 : Nat), l = [(a, cO 0 [.ref q1, .ref q2, .ref q3, .ref q4, .ref q5, .ref q6, .ref q7, .ref q8, gi 0, gi 0])] ++ [(q1, cI cA 8 zr)] ++ [(q2, cI cA 8 zr)] ++ [(q3, cI cA 8 zr)] ++ [(q4, cI cA 3 zr)] ++ [(q5, cI cA 3 (rup (rup (rup zr 0 1) 1 1) 2 1))] ++ [(q6, cI cA 64 zr)] ++ [(q7, cI cA 8 zr)] ++ [(q8, cI cA 8 zr)]
set_option maxRecDepth 100000 in
set_option maxHeartbeats 8000000 in
theorem c_X0_init (U : gw_U) (a : Nat) : gw_C U yX0_init cX0_init 2 { frames := 1, cells := 8, slots := 110, locals := 12 } a [] (cO 0 [.null, .null, .null, .null, .null, .null, .null, .null, gi 0, gi 0]) (po_X0_init (gw_cA U) a) := by
  refine gw_enter (L := [(0, .ref a)]) (by decide) rfl (Nat.le_of_ble_eq_true rfl) rfl ?_
  refine gw_aload_n (pc := 0) 0 dX0_init_0 rfl ?_
  refine gw_objInit (pc := 1) rfl wo_X0_init (Nat.le_of_ble_eq_true rfl) (Nat.le_of_ble_eq_true rfl) dX0_init_1 ?_
  refine gw_aload_n (pc := 4) 0 dX0_init_4 rfl ?_
  refine gw_bipush (pc := 5) dX0_init_5 (by decide +kernel) ?_
  refine gw_newa (ty := .int) (m := 8) (a0 := (8, .inl fun j => Int32.ofInt (zr j))) (pc := 7) 0 rfl rfl (fun C h => by cases h) wa_int (za_i 8) (by decide +kernel) (by decide +kernel) (by decide) ⟨Nat.le_of_ble_eq_true rfl, Nat.le_of_ble_eq_true rfl⟩ dX0_init_7 (fun q1 => ?_)
  refine gw_putF (l2 := [(a, cO 0 [.ref q1, .null, .null, .null, .null, .null, .null, .null, gi 0, gi 0])] ++ [(q1, cI (gw_cA U) 8 zr)]) (pc := 9) 0 0 rfl clsX0 rfl (by decide) rfl rfl rfl rfl (Nat.le_of_ble_eq_true rfl) wf_RX0_9 rfl dX0_init_9 ?_
  refine gw_aload_n (pc := 12) 0 dX0_init_12 rfl ?_
  refine gw_bipush (pc := 13) dX0_init_13 (by decide +kernel) ?_
  refine gw_newa (ty := .int) (m := 8) (a0 := (8, .inl fun j => Int32.ofInt (zr j))) (pc := 15) 0 rfl rfl (fun C h => by cases h) wa_int (za_i 8) (by decide +kernel) (by decide +kernel) (by decide) ⟨Nat.le_of_ble_eq_true rfl, Nat.le_of_ble_eq_true rfl⟩ dX0_init_15 (fun q2 => ?_)
  refine gw_putF (l2 := [(a, cO 0 [.ref q1, .ref q2, .null, .null, .null, .null, .null, .null, gi 0, gi 0])] ++ [(q1, cI (gw_cA U) 8 zr)] ++ [(q2, cI (gw_cA U) 8 zr)]) (pc := 17) 0 1 rfl clsX0 rfl (by decide) rfl rfl rfl rfl (Nat.le_of_ble_eq_true rfl) wf_RX0_15 rfl dX0_init_17 ?_
  refine gw_aload_n (pc := 20) 0 dX0_init_20 rfl ?_
  refine gw_bipush (pc := 21) dX0_init_21 (by decide +kernel) ?_
  refine gw_newa (ty := .int) (m := 8) (a0 := (8, .inl fun j => Int32.ofInt (zr j))) (pc := 23) 0 rfl rfl (fun C h => by cases h) wa_int (za_i 8) (by decide +kernel) (by decide +kernel) (by decide) ⟨Nat.le_of_ble_eq_true rfl, Nat.le_of_ble_eq_true rfl⟩ dX0_init_23 (fun q3 => ?_)
  refine gw_putF (l2 := [(a, cO 0 [.ref q1, .ref q2, .ref q3, .null, .null, .null, .null, .null, gi 0, gi 0])] ++ [(q1, cI (gw_cA U) 8 zr)] ++ [(q2, cI (gw_cA U) 8 zr)] ++ [(q3, cI (gw_cA U) 8 zr)]) (pc := 25) 0 2 rfl clsX0 rfl (by decide) rfl rfl rfl rfl (Nat.le_of_ble_eq_true rfl) wf_RX0_18 rfl dX0_init_25 ?_
  refine gw_aload_n (pc := 28) 0 dX0_init_28 rfl ?_
  refine gw_iconst (pc := 29) dX0_init_29 ?_
  refine gw_newa (ty := .int) (m := 3) (a0 := (3, .inl fun j => Int32.ofInt (zr j))) (pc := 30) 0 rfl rfl (fun C h => by cases h) wa_int (za_i 3) (by decide +kernel) (by decide +kernel) (by decide) ⟨Nat.le_of_ble_eq_true rfl, Nat.le_of_ble_eq_true rfl⟩ dX0_init_30 (fun q4 => ?_)
  refine gw_putF (l2 := [(a, cO 0 [.ref q1, .ref q2, .ref q3, .ref q4, .null, .null, .null, .null, gi 0, gi 0])] ++ [(q1, cI (gw_cA U) 8 zr)] ++ [(q2, cI (gw_cA U) 8 zr)] ++ [(q3, cI (gw_cA U) 8 zr)] ++ [(q4, cI (gw_cA U) 3 zr)]) (pc := 32) 0 3 rfl clsX0 rfl (by decide) rfl rfl rfl rfl (Nat.le_of_ble_eq_true rfl) wf_RX0_21 rfl dX0_init_32 ?_
  refine gw_aload_n (pc := 35) 0 dX0_init_35 rfl ?_
  refine gw_iconst (pc := 36) dX0_init_36 ?_
  refine gw_newa (ty := .int) (m := 3) (a0 := (3, .inl fun j => Int32.ofInt (zr j))) (pc := 37) 0 rfl rfl (fun C h => by cases h) wa_int (za_i 3) (by decide +kernel) (by decide +kernel) (by decide) ⟨Nat.le_of_ble_eq_true rfl, Nat.le_of_ble_eq_true rfl⟩ dX0_init_37 (fun q5 => ?_)
  refine gw_putF (l2 := [(a, cO 0 [.ref q1, .ref q2, .ref q3, .ref q4, .ref q5, .null, .null, .null, gi 0, gi 0])] ++ [(q1, cI (gw_cA U) 8 zr)] ++ [(q2, cI (gw_cA U) 8 zr)] ++ [(q3, cI (gw_cA U) 8 zr)] ++ [(q4, cI (gw_cA U) 3 zr)] ++ [(q5, cI (gw_cA U) 3 zr)]) (pc := 39) 0 4 rfl clsX0 rfl (by decide) rfl rfl rfl rfl (Nat.le_of_ble_eq_true rfl) wf_RX0_24 rfl dX0_init_39 ?_
  refine gw_aload_n (pc := 42) 0 dX0_init_42 rfl ?_
  refine gw_bipush (pc := 43) dX0_init_43 (by decide +kernel) ?_
  refine gw_newa (ty := .int) (m := 64) (a0 := (64, .inl fun j => Int32.ofInt (zr j))) (pc := 45) 0 rfl rfl (fun C h => by cases h) wa_int (za_i 64) (by decide +kernel) (by decide +kernel) (by decide) ⟨Nat.le_of_ble_eq_true rfl, Nat.le_of_ble_eq_true rfl⟩ dX0_init_45 (fun q6 => ?_)
  refine gw_putF (l2 := [(a, cO 0 [.ref q1, .ref q2, .ref q3, .ref q4, .ref q5, .ref q6, .null, .null, gi 0, gi 0])] ++ [(q1, cI (gw_cA U) 8 zr)] ++ [(q2, cI (gw_cA U) 8 zr)] ++ [(q3, cI (gw_cA U) 8 zr)] ++ [(q4, cI (gw_cA U) 3 zr)] ++ [(q5, cI (gw_cA U) 3 zr)] ++ [(q6, cI (gw_cA U) 64 zr)]) (pc := 47) 0 5 rfl clsX0 rfl (by decide) rfl rfl rfl rfl (Nat.le_of_ble_eq_true rfl) wf_RX0_27 rfl dX0_init_47 ?_
  refine gw_aload_n (pc := 50) 0 dX0_init_50 rfl ?_
  refine gw_bipush (pc := 51) dX0_init_51 (by decide +kernel) ?_
  refine gw_newa (ty := .int) (m := 8) (a0 := (8, .inl fun j => Int32.ofInt (zr j))) (pc := 53) 0 rfl rfl (fun C h => by cases h) wa_int (za_i 8) (by decide +kernel) (by decide +kernel) (by decide) ⟨Nat.le_of_ble_eq_true rfl, Nat.le_of_ble_eq_true rfl⟩ dX0_init_53 (fun q7 => ?_)
  refine gw_putF (l2 := [(a, cO 0 [.ref q1, .ref q2, .ref q3, .ref q4, .ref q5, .ref q6, .ref q7, .null, gi 0, gi 0])] ++ [(q1, cI (gw_cA U) 8 zr)] ++ [(q2, cI (gw_cA U) 8 zr)] ++ [(q3, cI (gw_cA U) 8 zr)] ++ [(q4, cI (gw_cA U) 3 zr)] ++ [(q5, cI (gw_cA U) 3 zr)] ++ [(q6, cI (gw_cA U) 64 zr)] ++ [(q7, cI (gw_cA U) 8 zr)]) (pc := 55) 0 6 rfl clsX0 rfl (by decide) rfl rfl rfl rfl (Nat.le_of_ble_eq_true rfl) wf_RX0_30 rfl dX0_init_55 ?_
  refine gw_aload_n (pc := 58) 0 dX0_init_58 rfl ?_
  refine gw_bipush (pc := 59) dX0_init_59 (by decide +kernel) ?_
  refine gw_newa (ty := .int) (m := 8) (a0 := (8, .inl fun j => Int32.ofInt (zr j))) (pc := 61) 0 rfl rfl (fun C h => by cases h) wa_int (za_i 8) (by decide +kernel) (by decide +kernel) (by decide) ⟨Nat.le_of_ble_eq_true rfl, Nat.le_of_ble_eq_true rfl⟩ dX0_init_61 (fun q8 => ?_)
  refine gw_putF (l2 := [(a, cO 0 [.ref q1, .ref q2, .ref q3, .ref q4, .ref q5, .ref q6, .ref q7, .ref q8, gi 0, gi 0])] ++ [(q1, cI (gw_cA U) 8 zr)] ++ [(q2, cI (gw_cA U) 8 zr)] ++ [(q3, cI (gw_cA U) 8 zr)] ++ [(q4, cI (gw_cA U) 3 zr)] ++ [(q5, cI (gw_cA U) 3 zr)] ++ [(q6, cI (gw_cA U) 64 zr)] ++ [(q7, cI (gw_cA U) 8 zr)] ++ [(q8, cI (gw_cA U) 8 zr)]) (pc := 63) 0 7 rfl clsX0 rfl (by decide) rfl rfl rfl rfl (Nat.le_of_ble_eq_true rfl) wf_RX0_33 rfl dX0_init_63 ?_
  refine gw_aload_n (pc := 66) 0 dX0_init_66 rfl ?_
  refine gw_iconst (pc := 67) dX0_init_67 ?_
  refine gw_put (l2 := [(a, cO 0 [.ref q1, .ref q2, .ref q3, .ref q4, .ref q5, .ref q6, .ref q7, .ref q8, gi 0, gi 0])] ++ [(q1, cI (gw_cA U) 8 zr)] ++ [(q2, cI (gw_cA U) 8 zr)] ++ [(q3, cI (gw_cA U) 8 zr)] ++ [(q4, cI (gw_cA U) 3 zr)] ++ [(q5, cI (gw_cA U) 3 zr)] ++ [(q6, cI (gw_cA U) 64 zr)] ++ [(q7, cI (gw_cA U) 8 zr)] ++ [(q8, cI (gw_cA U) 8 zr)]) (pc := 68) 0 8 rfl clsX0 rfl (by decide) rfl rfl rfl (Nat.le_of_ble_eq_true rfl) wf_RX0_36 rfl dX0_init_68 ?_
  refine gw_aload_n (pc := 71) 0 dX0_init_71 rfl ?_
  refine gw_iconst (pc := 72) dX0_init_72 ?_
  refine gw_put (l2 := [(a, cO 0 [.ref q1, .ref q2, .ref q3, .ref q4, .ref q5, .ref q6, .ref q7, .ref q8, gi 0, gi 0])] ++ [(q1, cI (gw_cA U) 8 zr)] ++ [(q2, cI (gw_cA U) 8 zr)] ++ [(q3, cI (gw_cA U) 8 zr)] ++ [(q4, cI (gw_cA U) 3 zr)] ++ [(q5, cI (gw_cA U) 3 zr)] ++ [(q6, cI (gw_cA U) 64 zr)] ++ [(q7, cI (gw_cA U) 8 zr)] ++ [(q8, cI (gw_cA U) 8 zr)]) (pc := 73) 0 9 rfl clsX0 rfl (by decide) rfl rfl rfl (Nat.le_of_ble_eq_true rfl) wf_RX0_40 rfl dX0_init_73 ?_
  refine gw_iconst (pc := 76) dX0_init_76 ?_
  refine gw_istore_n (L' := [(1, gi 0), (0, .ref a)]) (pc := 77) dX0_init_77 (Nat.le_of_ble_eq_true rfl) rfl ?_
  refine gw_iload_n (pc := 78) 0 dX0_init_78 rfl ?_
  refine gw_iconst (pc := 79) dX0_init_79 ?_
  refine gw_ge_f (tgt := 96) (pc := 80) dX0_init_80 (by decide) (by decide +kernel) ?_
  refine gw_aload_n (pc := 83) 1 dX0_init_83 rfl ?_
  refine gw_get (pc := 84) 0 4 rfl clsX0 rfl (by decide) rfl wf_RX0_24 dX0_init_84 ?_
  refine gw_iload_n (pc := 87) 0 dX0_init_87 rfl ?_
  refine gw_iconst (pc := 88) dX0_init_88 ?_
  refine gw_iast (m := 3) (l2 := [(a, cO 0 [.ref q1, .ref q2, .ref q3, .ref q4, .ref q5, .ref q6, .ref q7, .ref q8, gi 0, gi 0])] ++ [(q1, cI (gw_cA U) 8 zr)] ++ [(q2, cI (gw_cA U) 8 zr)] ++ [(q3, cI (gw_cA U) 8 zr)] ++ [(q4, cI (gw_cA U) 3 zr)] ++ [(q5, cI (gw_cA U) 3 (rup zr 0 1))] ++ [(q6, cI (gw_cA U) 64 zr)] ++ [(q7, cI (gw_cA U) 8 zr)] ++ [(q8, cI (gw_cA U) 8 zr)]) (pc := 89) 5 rfl ⟨by decide +kernel, by decide +kernel⟩ rfl dX0_init_89 ?_
  refine gw_iinc (L' := [(1, gi (0 + 1)), (0, .ref a)]) (pc := 90) 0 dX0_init_90 rfl (Nat.le_of_ble_eq_true rfl) rfl ?_
  refine gw_goto (tgt := 78) (pc := 93) dX0_init_93 (by decide) ?_
  refine gw_iload_n (pc := 78) 0 dX0_init_78 rfl ?_
  refine gw_iconst (pc := 79) dX0_init_79 ?_
  refine gw_ge_f (tgt := 96) (pc := 80) dX0_init_80 (by decide) (by decide +kernel) ?_
  refine gw_aload_n (pc := 83) 1 dX0_init_83 rfl ?_
  refine gw_get (pc := 84) 0 4 rfl clsX0 rfl (by decide) rfl wf_RX0_24 dX0_init_84 ?_
  refine gw_iload_n (pc := 87) 0 dX0_init_87 rfl ?_
  refine gw_iconst (pc := 88) dX0_init_88 ?_
  refine gw_iast (m := 3) (l2 := [(a, cO 0 [.ref q1, .ref q2, .ref q3, .ref q4, .ref q5, .ref q6, .ref q7, .ref q8, gi 0, gi 0])] ++ [(q1, cI (gw_cA U) 8 zr)] ++ [(q2, cI (gw_cA U) 8 zr)] ++ [(q3, cI (gw_cA U) 8 zr)] ++ [(q4, cI (gw_cA U) 3 zr)] ++ [(q5, cI (gw_cA U) 3 (rup (rup zr 0 1) 1 1))] ++ [(q6, cI (gw_cA U) 64 zr)] ++ [(q7, cI (gw_cA U) 8 zr)] ++ [(q8, cI (gw_cA U) 8 zr)]) (pc := 89) 5 rfl ⟨by decide +kernel, by decide +kernel⟩ rfl dX0_init_89 ?_
  refine gw_iinc (L' := [(1, gi ((0 + 1) + 1)), (0, .ref a)]) (pc := 90) 0 dX0_init_90 rfl (Nat.le_of_ble_eq_true rfl) rfl ?_
  refine gw_goto (tgt := 78) (pc := 93) dX0_init_93 (by decide) ?_
  refine gw_iload_n (pc := 78) 0 dX0_init_78 rfl ?_
  refine gw_iconst (pc := 79) dX0_init_79 ?_
  refine gw_ge_f (tgt := 96) (pc := 80) dX0_init_80 (by decide) (by decide +kernel) ?_
  refine gw_aload_n (pc := 83) 1 dX0_init_83 rfl ?_
  refine gw_get (pc := 84) 0 4 rfl clsX0 rfl (by decide) rfl wf_RX0_24 dX0_init_84 ?_
  refine gw_iload_n (pc := 87) 0 dX0_init_87 rfl ?_
  refine gw_iconst (pc := 88) dX0_init_88 ?_
  refine gw_iast (m := 3) (l2 := [(a, cO 0 [.ref q1, .ref q2, .ref q3, .ref q4, .ref q5, .ref q6, .ref q7, .ref q8, gi 0, gi 0])] ++ [(q1, cI (gw_cA U) 8 zr)] ++ [(q2, cI (gw_cA U) 8 zr)] ++ [(q3, cI (gw_cA U) 8 zr)] ++ [(q4, cI (gw_cA U) 3 zr)] ++ [(q5, cI (gw_cA U) 3 (rup (rup (rup zr 0 1) 1 1) 2 1))] ++ [(q6, cI (gw_cA U) 64 zr)] ++ [(q7, cI (gw_cA U) 8 zr)] ++ [(q8, cI (gw_cA U) 8 zr)]) (pc := 89) 5 rfl ⟨by decide +kernel, by decide +kernel⟩ rfl dX0_init_89 ?_
  refine gw_iinc (L' := [(1, gi (((0 + 1) + 1) + 1)), (0, .ref a)]) (pc := 90) 0 dX0_init_90 rfl (Nat.le_of_ble_eq_true rfl) rfl ?_
  refine gw_goto (tgt := 78) (pc := 93) dX0_init_93 (by decide) ?_
  refine gw_iload_n (pc := 78) 0 dX0_init_78 rfl ?_
  refine gw_iconst (pc := 79) dX0_init_79 ?_
  refine gw_ge_t (tgt := 96) (pc := 80) dX0_init_80 (by decide) (by decide +kernel) ?_
  exact gw_ret (pc := 96) dX0_init_96 rfl rfl ⟨q1, q2, q3, q4, q5, q6, q7, q8, rfl⟩
def po_X3_init (cA : FieldType → ClassId) (a : Nat) (l : va_W) : Prop := ∃ (q1 : Nat), l = [(a, cO 3 [.ref q1, gi (-1), gi 0])] ++ [(q1, cL cA 60 zr)]
set_option maxRecDepth 100000 in
set_option maxHeartbeats 8000000 in
theorem c_X3_init (U : gw_U) (a : Nat) : gw_C U yX3_init cX3_init 1 { frames := 1, cells := 1, slots := 60, locals := 12 } a [] (cO 3 [.null, gi 0, gi 0]) (po_X3_init (gw_cA U) a) := by
  refine gw_enter (L := [(0, .ref a)]) (by decide) rfl (Nat.le_of_ble_eq_true rfl) rfl ?_
  refine gw_aload_n (pc := 0) 0 dX3_init_0 rfl ?_
  refine gw_objInit (pc := 1) rfl wo_X3_init (Nat.le_of_ble_eq_true rfl) (Nat.le_of_ble_eq_true rfl) dX3_init_1 ?_
  refine gw_aload_n (pc := 4) 0 dX3_init_4 rfl ?_
  refine gw_bipush (pc := 5) dX3_init_5 (by decide +kernel) ?_
  refine gw_newa (ty := .long) (m := 60) (a0 := (60, .inr (.inl fun j => Int64.ofInt (zr j)))) (pc := 7) 3 rfl rfl (fun C h => by cases h) wa_long (za_l 60) (by decide +kernel) (by decide +kernel) (by decide) ⟨Nat.le_of_ble_eq_true rfl, Nat.le_of_ble_eq_true rfl⟩ dX3_init_7 (fun q1 => ?_)
  refine gw_putF (l2 := [(a, cO 3 [.ref q1, gi 0, gi 0])] ++ [(q1, cL (gw_cA U) 60 zr)]) (pc := 9) 0 0 rfl clsX3 rfl (by decide) rfl rfl rfl rfl (Nat.le_of_ble_eq_true rfl) wf_RX3_9 rfl dX3_init_9 ?_
  refine gw_aload_n (pc := 12) 0 dX3_init_12 rfl ?_
  refine gw_iconst (pc := 13) dX3_init_13 ?_
  refine gw_put (l2 := [(a, cO 3 [.ref q1, gi (-1), gi 0])] ++ [(q1, cL (gw_cA U) 60 zr)]) (pc := 14) 0 1 rfl clsX3 rfl (by decide) rfl rfl rfl (Nat.le_of_ble_eq_true rfl) wf_RX3_15 rfl dX3_init_14 ?_
  refine gw_aload_n (pc := 17) 0 dX3_init_17 rfl ?_
  refine gw_iconst (pc := 18) dX3_init_18 ?_
  refine gw_put (l2 := [(a, cO 3 [.ref q1, gi (-1), gi 0])] ++ [(q1, cL (gw_cA U) 60 zr)]) (pc := 19) 0 2 rfl clsX3 rfl (by decide) rfl rfl rfl (Nat.le_of_ble_eq_true rfl) wf_RX3_19 rfl dX3_init_19 ?_
  exact gw_ret (pc := 22) dX3_init_22 rfl rfl ⟨q1, rfl⟩
def po_X4_init (cA : FieldType → ClassId) (a : Nat) (l : va_W) : Prop := ∃ (q1 : Nat) (q2 : Nat) (q3 : Nat) (q4 : Nat) (q5 : Nat), l = [(a, cO 4 [.ref q1, gi 0, gi 0, gi (-1), gi 0, .ref q2, .ref q3, .ref q4, .ref q5])] ++ [(q1, cB cA 100 zr)] ++ [(q2, cI cA 8 zr)] ++ [(q3, cI cA 8 zr)] ++ [(q4, cI cA 8 zr)] ++ [(q5, cZ cA 8 zr)]
set_option maxRecDepth 100000 in
set_option maxHeartbeats 8000000 in
theorem c_X4_init (U : gw_U) (a : Nat) : gw_C U yX4_init cX4_init 1 { frames := 1, cells := 5, slots := 132, locals := 12 } a [] (cO 4 [.null, gi 0, gi 0, gi 0, gi 0, .null, .null, .null, .null]) (po_X4_init (gw_cA U) a) := by
  refine gw_enter (L := [(0, .ref a)]) (by decide) rfl (Nat.le_of_ble_eq_true rfl) rfl ?_
  refine gw_aload_n (pc := 0) 0 dX4_init_0 rfl ?_
  refine gw_objInit (pc := 1) rfl wo_X4_init (Nat.le_of_ble_eq_true rfl) (Nat.le_of_ble_eq_true rfl) dX4_init_1 ?_
  refine gw_aload_n (pc := 4) 0 dX4_init_4 rfl ?_
  refine gw_bipush (pc := 5) dX4_init_5 (by decide +kernel) ?_
  refine gw_newa (ty := .byte) (m := 100) (a0 := (100, .inl fun j => Int32.ofInt (zr j))) (pc := 7) 1 rfl rfl (fun C h => by cases h) wa_byte (za_b 100) (by decide +kernel) (by decide +kernel) (by decide) ⟨Nat.le_of_ble_eq_true rfl, Nat.le_of_ble_eq_true rfl⟩ dX4_init_7 (fun q1 => ?_)
  refine gw_putF (l2 := [(a, cO 4 [.ref q1, gi 0, gi 0, gi 0, gi 0, .null, .null, .null, .null])] ++ [(q1, cB (gw_cA U) 100 zr)]) (pc := 9) 0 0 rfl clsX4 rfl (by decide) rfl rfl rfl rfl (Nat.le_of_ble_eq_true rfl) wf_RX4_9 rfl dX4_init_9 ?_
  refine gw_aload_n (pc := 12) 0 dX4_init_12 rfl ?_
  refine gw_iconst (pc := 13) dX4_init_13 ?_
  refine gw_put (l2 := [(a, cO 4 [.ref q1, gi 0, gi 0, gi 0, gi 0, .null, .null, .null, .null])] ++ [(q1, cB (gw_cA U) 100 zr)]) (pc := 14) 0 1 rfl clsX4 rfl (by decide) rfl rfl rfl (Nat.le_of_ble_eq_true rfl) wf_RX4_15 rfl dX4_init_14 ?_
  refine gw_aload_n (pc := 17) 0 dX4_init_17 rfl ?_
  refine gw_iconst (pc := 18) dX4_init_18 ?_
  refine gw_put (l2 := [(a, cO 4 [.ref q1, gi 0, gi 0, gi 0, gi 0, .null, .null, .null, .null])] ++ [(q1, cB (gw_cA U) 100 zr)]) (pc := 19) 0 2 rfl clsX4 rfl (by decide) rfl rfl rfl (Nat.le_of_ble_eq_true rfl) wf_RX4_19 rfl dX4_init_19 ?_
  refine gw_aload_n (pc := 22) 0 dX4_init_22 rfl ?_
  refine gw_iconst (pc := 23) dX4_init_23 ?_
  refine gw_put (l2 := [(a, cO 4 [.ref q1, gi 0, gi 0, gi (-1), gi 0, .null, .null, .null, .null])] ++ [(q1, cB (gw_cA U) 100 zr)]) (pc := 24) 0 3 rfl clsX4 rfl (by decide) rfl rfl rfl (Nat.le_of_ble_eq_true rfl) wf_RX4_22 rfl dX4_init_24 ?_
  refine gw_aload_n (pc := 27) 0 dX4_init_27 rfl ?_
  refine gw_iconst (pc := 28) dX4_init_28 ?_
  refine gw_put (l2 := [(a, cO 4 [.ref q1, gi 0, gi 0, gi (-1), gi 0, .null, .null, .null, .null])] ++ [(q1, cB (gw_cA U) 100 zr)]) (pc := 29) 0 4 rfl clsX4 rfl (by decide) rfl rfl rfl (Nat.le_of_ble_eq_true rfl) wf_RX4_25 rfl dX4_init_29 ?_
  refine gw_aload_n (pc := 32) 0 dX4_init_32 rfl ?_
  refine gw_bipush (pc := 33) dX4_init_33 (by decide +kernel) ?_
  refine gw_newa (ty := .int) (m := 8) (a0 := (8, .inl fun j => Int32.ofInt (zr j))) (pc := 35) 0 rfl rfl (fun C h => by cases h) wa_int (za_i 8) (by decide +kernel) (by decide +kernel) (by decide) ⟨Nat.le_of_ble_eq_true rfl, Nat.le_of_ble_eq_true rfl⟩ dX4_init_35 (fun q2 => ?_)
  refine gw_putF (l2 := [(a, cO 4 [.ref q1, gi 0, gi 0, gi (-1), gi 0, .ref q2, .null, .null, .null])] ++ [(q1, cB (gw_cA U) 100 zr)] ++ [(q2, cI (gw_cA U) 8 zr)]) (pc := 37) 0 5 rfl clsX4 rfl (by decide) rfl rfl rfl rfl (Nat.le_of_ble_eq_true rfl) wf_RX4_28 rfl dX4_init_37 ?_
  refine gw_aload_n (pc := 40) 0 dX4_init_40 rfl ?_
  refine gw_bipush (pc := 41) dX4_init_41 (by decide +kernel) ?_
  refine gw_newa (ty := .int) (m := 8) (a0 := (8, .inl fun j => Int32.ofInt (zr j))) (pc := 43) 0 rfl rfl (fun C h => by cases h) wa_int (za_i 8) (by decide +kernel) (by decide +kernel) (by decide) ⟨Nat.le_of_ble_eq_true rfl, Nat.le_of_ble_eq_true rfl⟩ dX4_init_43 (fun q3 => ?_)
  refine gw_putF (l2 := [(a, cO 4 [.ref q1, gi 0, gi 0, gi (-1), gi 0, .ref q2, .ref q3, .null, .null])] ++ [(q1, cB (gw_cA U) 100 zr)] ++ [(q2, cI (gw_cA U) 8 zr)] ++ [(q3, cI (gw_cA U) 8 zr)]) (pc := 45) 0 6 rfl clsX4 rfl (by decide) rfl rfl rfl rfl (Nat.le_of_ble_eq_true rfl) wf_RX4_32 rfl dX4_init_45 ?_
  refine gw_aload_n (pc := 48) 0 dX4_init_48 rfl ?_
  refine gw_bipush (pc := 49) dX4_init_49 (by decide +kernel) ?_
  refine gw_newa (ty := .int) (m := 8) (a0 := (8, .inl fun j => Int32.ofInt (zr j))) (pc := 51) 0 rfl rfl (fun C h => by cases h) wa_int (za_i 8) (by decide +kernel) (by decide +kernel) (by decide) ⟨Nat.le_of_ble_eq_true rfl, Nat.le_of_ble_eq_true rfl⟩ dX4_init_51 (fun q4 => ?_)
  refine gw_putF (l2 := [(a, cO 4 [.ref q1, gi 0, gi 0, gi (-1), gi 0, .ref q2, .ref q3, .ref q4, .null])] ++ [(q1, cB (gw_cA U) 100 zr)] ++ [(q2, cI (gw_cA U) 8 zr)] ++ [(q3, cI (gw_cA U) 8 zr)] ++ [(q4, cI (gw_cA U) 8 zr)]) (pc := 53) 0 7 rfl clsX4 rfl (by decide) rfl rfl rfl rfl (Nat.le_of_ble_eq_true rfl) wf_RX4_35 rfl dX4_init_53 ?_
  refine gw_aload_n (pc := 56) 0 dX4_init_56 rfl ?_
  refine gw_bipush (pc := 57) dX4_init_57 (by decide +kernel) ?_
  refine gw_newa (ty := .boolean) (m := 8) (a0 := (8, .inl fun j => Int32.ofInt (zr j))) (pc := 59) 2 rfl rfl (fun C h => by cases h) wa_boolean (za_z 8) (by decide +kernel) (by decide +kernel) (by decide) ⟨Nat.le_of_ble_eq_true rfl, Nat.le_of_ble_eq_true rfl⟩ dX4_init_59 (fun q5 => ?_)
  refine gw_putF (l2 := [(a, cO 4 [.ref q1, gi 0, gi 0, gi (-1), gi 0, .ref q2, .ref q3, .ref q4, .ref q5])] ++ [(q1, cB (gw_cA U) 100 zr)] ++ [(q2, cI (gw_cA U) 8 zr)] ++ [(q3, cI (gw_cA U) 8 zr)] ++ [(q4, cI (gw_cA U) 8 zr)] ++ [(q5, cZ (gw_cA U) 8 zr)]) (pc := 61) 0 8 rfl clsX4 rfl (by decide) rfl rfl rfl rfl (Nat.le_of_ble_eq_true rfl) wf_RX4_38 rfl dX4_init_61 ?_
  exact gw_ret (pc := 64) dX4_init_64 rfl rfl ⟨q1, q2, q3, q4, q5, rfl⟩
def po_X5_init (cA : FieldType → ClassId) (a : Nat) (l : va_W) : Prop := ∃ (q1 : Nat) (q2 : Nat), l = [(a, cO 5 [.ref q1, .ref q2])] ++ [(q1, cI cA 8 zr)] ++ [(q2, cI cA 72 zr)]
set_option maxRecDepth 100000 in
set_option maxHeartbeats 8000000 in
theorem c_X5_init (U : gw_U) (a : Nat) : gw_C U yX5_init cX5_init 1 { frames := 1, cells := 2, slots := 80, locals := 12 } a [] (cO 5 [.null, .null]) (po_X5_init (gw_cA U) a) := by
  refine gw_enter (L := [(0, .ref a)]) (by decide) rfl (Nat.le_of_ble_eq_true rfl) rfl ?_
  refine gw_aload_n (pc := 0) 0 dX5_init_0 rfl ?_
  refine gw_objInit (pc := 1) rfl wo_X5_init (Nat.le_of_ble_eq_true rfl) (Nat.le_of_ble_eq_true rfl) dX5_init_1 ?_
  refine gw_aload_n (pc := 4) 0 dX5_init_4 rfl ?_
  refine gw_bipush (pc := 5) dX5_init_5 (by decide +kernel) ?_
  refine gw_newa (ty := .int) (m := 8) (a0 := (8, .inl fun j => Int32.ofInt (zr j))) (pc := 7) 0 rfl rfl (fun C h => by cases h) wa_int (za_i 8) (by decide +kernel) (by decide +kernel) (by decide) ⟨Nat.le_of_ble_eq_true rfl, Nat.le_of_ble_eq_true rfl⟩ dX5_init_7 (fun q1 => ?_)
  refine gw_putF (l2 := [(a, cO 5 [.ref q1, .null])] ++ [(q1, cI (gw_cA U) 8 zr)]) (pc := 9) 0 0 rfl clsX5 rfl (by decide) rfl rfl rfl rfl (Nat.le_of_ble_eq_true rfl) wf_RX5_9 rfl dX5_init_9 ?_
  refine gw_aload_n (pc := 12) 0 dX5_init_12 rfl ?_
  refine gw_bipush (pc := 13) dX5_init_13 (by decide +kernel) ?_
  refine gw_newa (ty := .int) (m := 72) (a0 := (72, .inl fun j => Int32.ofInt (zr j))) (pc := 15) 0 rfl rfl (fun C h => by cases h) wa_int (za_i 72) (by decide +kernel) (by decide +kernel) (by decide) ⟨Nat.le_of_ble_eq_true rfl, Nat.le_of_ble_eq_true rfl⟩ dX5_init_15 (fun q2 => ?_)
  refine gw_putF (l2 := [(a, cO 5 [.ref q1, .ref q2])] ++ [(q1, cI (gw_cA U) 8 zr)] ++ [(q2, cI (gw_cA U) 72 zr)]) (pc := 17) 0 1 rfl clsX5 rfl (by decide) rfl rfl rfl rfl (Nat.le_of_ble_eq_true rfl) wf_RX5_15 rfl dX5_init_17 ?_
  exact gw_ret (pc := 20) dX5_init_20 rfl rfl ⟨q1, q2, rfl⟩
def po_X2_init (cA : FieldType → ClassId) (a : Nat) (l : va_W) : Prop := ∃ (q1 : Nat) (q2 : Nat) (q3 : Nat) (q4 : Nat) (l1 : va_W) (l2 : va_W) (l3 : va_W) (l4 : va_W), po_X0_init cA q1 l1 ∧ po_X1_init cA 5 q2 l2 ∧ po_X1_init cA 8 q3 l3 ∧ po_X1_init cA 8 q4 l4 ∧ l = [(a, cO 2 [.ref q1, .ref q2, .ref q3, .ref q4])] ++ l1 ++ l2 ++ l3 ++ l4
set_option maxRecDepth 100000 in
set_option maxHeartbeats 8000000 in
theorem c_X2_init (U : gw_U) (a : Nat) : gw_C U yX2_init cX2_init 1 { frames := 2, cells := 18, slots := 180, locals := 42 } a [] (cO 2 [.null, .null, .null, .null]) (po_X2_init (gw_cA U) a) := by
  refine gw_enter (L := [(0, .ref a)]) (by decide) rfl (Nat.le_of_ble_eq_true rfl) rfl ?_
  refine gw_aload_n (pc := 0) 0 dX2_init_0 rfl ?_
  refine gw_objInit (pc := 1) rfl wo_X2_init (Nat.le_of_ble_eq_true rfl) (Nat.le_of_ble_eq_true rfl) dX2_init_1 ?_
  refine gw_aload_n (pc := 4) 0 dX2_init_4 rfl ?_
  refine gw_new (pc := 5) rfl clsX0 wn_RX2_9 dv_0 ⟨Nat.le_of_ble_eq_true rfl, Nat.le_of_ble_eq_true rfl⟩ dX2_init_5 (fun q1 => ?_)
  refine gw_dup (pc := 8) dX2_init_8 rfl ?_
  refine gw_callI (l := [(a, cO 2 [.null, .null, .null, .null])]) (post := po_X0_init (gw_cA U) q1) (As := []) (host := "GapStations") (pc := 9) (c_X0_init _ q1) rfl mi_X0_init (Or.inl wl_RX2_11) ⟨Nat.le_of_ble_eq_true rfl, Nat.le_of_ble_eq_true rfl, Nat.le_of_ble_eq_true rfl, Nat.le_of_ble_eq_true rfl⟩ rfl rfl (Nat.le_of_ble_eq_true rfl) dX2_init_9 (fun l1 h1 => ?_)
  refine gw_putF (l2 := [(a, cO 2 [.ref q1, .null, .null, .null])] ++ l1) (pc := 12) 0 0 rfl clsX2 rfl (by decide) rfl rfl rfl rfl (Nat.le_of_ble_eq_true rfl) wf_RX2_12 rfl dX2_init_12 ?_
  refine gw_aload_n (pc := 15) 0 dX2_init_15 rfl ?_
  refine gw_new (pc := 16) rfl clsX1 wn_RX2_18 dv_1 ⟨Nat.le_of_ble_eq_true rfl, Nat.le_of_ble_eq_true rfl⟩ dX2_init_16 (fun q2 => ?_)
  refine gw_dup (pc := 19) dX2_init_19 rfl ?_
  refine gw_iconst (pc := 20) dX2_init_20 ?_
  refine gw_callI (l := [(a, cO 2 [.ref q1, .null, .null, .null])] ++ l1) (post := po_X1_init (gw_cA U) 5 q2) (As := [gi 5]) (host := "GapStations") (pc := 21) (c_X1_init _ q2 5) rfl mi_X1_init (Or.inl wl_RX2_20) ⟨Nat.le_of_ble_eq_true rfl, Nat.le_of_ble_eq_true rfl, Nat.le_of_ble_eq_true rfl, Nat.le_of_ble_eq_true rfl⟩ rfl rfl (Nat.le_of_ble_eq_true rfl) dX2_init_21 (fun l2 h2 => ?_)
  refine gw_putF (l2 := [(a, cO 2 [.ref q1, .ref q2, .null, .null])] ++ l1 ++ l2) (pc := 24) 0 1 rfl clsX2 rfl (by decide) rfl rfl rfl rfl (Nat.le_of_ble_eq_true rfl) wf_RX2_23 rfl dX2_init_24 ?_
  refine gw_aload_n (pc := 27) 0 dX2_init_27 rfl ?_
  refine gw_new (pc := 28) rfl clsX1 wn_RX2_18 dv_1 ⟨Nat.le_of_ble_eq_true rfl, Nat.le_of_ble_eq_true rfl⟩ dX2_init_28 (fun q3 => ?_)
  refine gw_dup (pc := 31) dX2_init_31 rfl ?_
  refine gw_bipush (pc := 32) dX2_init_32 (by decide +kernel) ?_
  refine gw_callI (l := [(a, cO 2 [.ref q1, .ref q2, .null, .null])] ++ l1 ++ l2) (post := po_X1_init (gw_cA U) 8 q3) (As := [gi 8]) (host := "GapStations") (pc := 34) (c_X1_init _ q3 8) rfl mi_X1_init (Or.inl wl_RX2_20) ⟨Nat.le_of_ble_eq_true rfl, Nat.le_of_ble_eq_true rfl, Nat.le_of_ble_eq_true rfl, Nat.le_of_ble_eq_true rfl⟩ rfl rfl (Nat.le_of_ble_eq_true rfl) dX2_init_34 (fun l3 h3 => ?_)
  refine gw_putF (l2 := [(a, cO 2 [.ref q1, .ref q2, .ref q3, .null])] ++ l1 ++ l2 ++ l3) (pc := 37) 0 2 rfl clsX2 rfl (by decide) rfl rfl rfl rfl (Nat.le_of_ble_eq_true rfl) wf_RX2_27 rfl dX2_init_37 ?_
  refine gw_aload_n (pc := 40) 0 dX2_init_40 rfl ?_
  refine gw_new (pc := 41) rfl clsX1 wn_RX2_18 dv_1 ⟨Nat.le_of_ble_eq_true rfl, Nat.le_of_ble_eq_true rfl⟩ dX2_init_41 (fun q4 => ?_)
  refine gw_dup (pc := 44) dX2_init_44 rfl ?_
  refine gw_bipush (pc := 45) dX2_init_45 (by decide +kernel) ?_
  refine gw_callI (l := [(a, cO 2 [.ref q1, .ref q2, .ref q3, .null])] ++ l1 ++ l2 ++ l3) (post := po_X1_init (gw_cA U) 8 q4) (As := [gi 8]) (host := "GapStations") (pc := 47) (c_X1_init _ q4 8) rfl mi_X1_init (Or.inl wl_RX2_20) ⟨Nat.le_of_ble_eq_true rfl, Nat.le_of_ble_eq_true rfl, Nat.le_of_ble_eq_true rfl, Nat.le_of_ble_eq_true rfl⟩ rfl rfl (Nat.le_of_ble_eq_true rfl) dX2_init_47 (fun l4 h4 => ?_)
  refine gw_putF (l2 := [(a, cO 2 [.ref q1, .ref q2, .ref q3, .ref q4])] ++ l1 ++ l2 ++ l3 ++ l4) (pc := 50) 0 3 rfl clsX2 rfl (by decide) rfl rfl rfl rfl (Nat.le_of_ble_eq_true rfl) wf_RX2_30 rfl dX2_init_50 ?_
  exact gw_ret (pc := 53) dX2_init_53 rfl rfl ⟨q1, q2, q3, q4, l1, l2, l3, l4, h1, h2, h3, h4, rfl⟩
def po_X6_init (cA : FieldType → ClassId) (a : Nat) (l : va_W) : Prop := ∃ (q1 : Nat) (q2 : Nat) (q3 : Nat) (q4 : Nat) (q5 : Nat) (q6 : Nat) (q7 : Nat) (q8 : Nat) (q9 : Nat) (q10 : Nat) (q11 : Nat) (q12 : Nat) (eq7 : Nat) (eq8 : Nat) (eq9 : Nat) (eq10 : Nat) (eq11 : Nat) (eq12 : Nat) (l1 : va_W) (l2 : va_W) (l3 : va_W) (l4 : va_W) (l5 : va_W), po_X2_init cA q1 l1 ∧ po_X2_init cA q2 l2 ∧ po_X0_init cA q3 l3 ∧ po_X5_init cA q4 l4 ∧ po_X4_init cA q5 l5 ∧ l = [(a, cO 6 [.ref q1, .ref q2, gi 0, .ref q3, .ref q4, .ref q5, .ref q6])] ++ l1 ++ l2 ++ l3 ++ l4 ++ l5 ++ [(q6, cQ cA 6 (va_up (va_up (va_up (va_up (va_up (va_up (fun _ => none) 0 (some q7)) 1 (some q8)) 2 (some q9)) 3 (some q10)) 4 (some q11)) 5 (some q12)))] ++ [(q7, cO 3 [.ref eq7, gi (-1), gi 0]), (eq7, cL cA 60 zr)] ++ [(q8, cO 3 [.ref eq8, gi (-1), gi 0]), (eq8, cL cA 60 zr)] ++ [(q9, cO 3 [.ref eq9, gi (-1), gi 0]), (eq9, cL cA 60 zr)] ++ [(q10, cO 3 [.ref eq10, gi (-1), gi 0]), (eq10, cL cA 60 zr)] ++ [(q11, cO 3 [.ref eq11, gi (-1), gi 0]), (eq11, cL cA 60 zr)] ++ [(q12, cO 3 [.ref eq12, gi (-1), gi 0]), (eq12, cL cA 60 zr)]
set_option maxRecDepth 100000 in
set_option maxHeartbeats 8000000 in
theorem c_X6_init (U : gw_U) (a : Nat) : gw_C U yX6_init cX6_init 2 { frames := 3, cells := 69, slots := 1095, locals := 62 } a [] (cO 6 [.null, .null, gi 0, .null, .null, .null, .null]) (po_X6_init (gw_cA U) a) := by
  refine gw_enter (L := [(0, .ref a)]) (by decide) rfl (Nat.le_of_ble_eq_true rfl) rfl ?_
  refine gw_aload_n (pc := 0) 0 dX6_init_0 rfl ?_
  refine gw_objInit (pc := 1) rfl wo_X6_init (Nat.le_of_ble_eq_true rfl) (Nat.le_of_ble_eq_true rfl) dX6_init_1 ?_
  refine gw_aload_n (pc := 4) 0 dX6_init_4 rfl ?_
  refine gw_new (pc := 5) rfl clsX2 wn_RX6_11 dv_2 ⟨Nat.le_of_ble_eq_true rfl, Nat.le_of_ble_eq_true rfl⟩ dX6_init_5 (fun q1 => ?_)
  refine gw_dup (pc := 8) dX6_init_8 rfl ?_
  refine gw_callI (l := [(a, cO 6 [.null, .null, gi 0, .null, .null, .null, .null])]) (post := po_X2_init (gw_cA U) q1) (As := []) (host := "GapStations") (pc := 9) (c_X2_init _ q1) rfl mi_X2_init (Or.inr wl_RX6_13) ⟨Nat.le_of_ble_eq_true rfl, Nat.le_of_ble_eq_true rfl, Nat.le_of_ble_eq_true rfl, Nat.le_of_ble_eq_true rfl⟩ rfl rfl (Nat.le_of_ble_eq_true rfl) dX6_init_9 (fun l1 h1 => ?_)
  refine gw_putF (l2 := [(a, cO 6 [.ref q1, .null, gi 0, .null, .null, .null, .null])] ++ l1) (pc := 12) 0 0 rfl clsX6 rfl (by decide) rfl rfl rfl rfl (Nat.le_of_ble_eq_true rfl) wf_RX6_14 rfl dX6_init_12 ?_
  refine gw_aload_n (pc := 15) 0 dX6_init_15 rfl ?_
  refine gw_new (pc := 16) rfl clsX2 wn_RX6_11 dv_2 ⟨Nat.le_of_ble_eq_true rfl, Nat.le_of_ble_eq_true rfl⟩ dX6_init_16 (fun q2 => ?_)
  refine gw_dup (pc := 19) dX6_init_19 rfl ?_
  refine gw_callI (l := [(a, cO 6 [.ref q1, .null, gi 0, .null, .null, .null, .null])] ++ l1) (post := po_X2_init (gw_cA U) q2) (As := []) (host := "GapStations") (pc := 20) (c_X2_init _ q2) rfl mi_X2_init (Or.inr wl_RX6_13) ⟨Nat.le_of_ble_eq_true rfl, Nat.le_of_ble_eq_true rfl, Nat.le_of_ble_eq_true rfl, Nat.le_of_ble_eq_true rfl⟩ rfl rfl (Nat.le_of_ble_eq_true rfl) dX6_init_20 (fun l2 h2 => ?_)
  refine gw_putF (l2 := [(a, cO 6 [.ref q1, .ref q2, gi 0, .null, .null, .null, .null])] ++ l1 ++ l2) (pc := 23) 0 1 rfl clsX6 rfl (by decide) rfl rfl rfl rfl (Nat.le_of_ble_eq_true rfl) wf_RX6_18 rfl dX6_init_23 ?_
  refine gw_aload_n (pc := 26) 0 dX6_init_26 rfl ?_
  refine gw_iconst (pc := 27) dX6_init_27 ?_
  refine gw_put (l2 := [(a, cO 6 [.ref q1, .ref q2, gi 0, .null, .null, .null, .null])] ++ l1 ++ l2) (pc := 28) 0 2 rfl clsX6 rfl (by decide) rfl rfl rfl (Nat.le_of_ble_eq_true rfl) wf_RX6_21 rfl dX6_init_28 ?_
  refine gw_aload_n (pc := 31) 0 dX6_init_31 rfl ?_
  refine gw_new (pc := 32) rfl clsX0 wn_RX6_25 dv_0 ⟨Nat.le_of_ble_eq_true rfl, Nat.le_of_ble_eq_true rfl⟩ dX6_init_32 (fun q3 => ?_)
  refine gw_dup (pc := 35) dX6_init_35 rfl ?_
  refine gw_callI (l := [(a, cO 6 [.ref q1, .ref q2, gi 0, .null, .null, .null, .null])] ++ l1 ++ l2) (post := po_X0_init (gw_cA U) q3) (As := []) (host := "GapStations") (pc := 36) (c_X0_init _ q3) rfl mi_X0_init (Or.inl wl_RX6_27) ⟨Nat.le_of_ble_eq_true rfl, Nat.le_of_ble_eq_true rfl, Nat.le_of_ble_eq_true rfl, Nat.le_of_ble_eq_true rfl⟩ rfl rfl (Nat.le_of_ble_eq_true rfl) dX6_init_36 (fun l3 h3 => ?_)
  refine gw_putF (l2 := [(a, cO 6 [.ref q1, .ref q2, gi 0, .ref q3, .null, .null, .null])] ++ l1 ++ l2 ++ l3) (pc := 39) 0 3 rfl clsX6 rfl (by decide) rfl rfl rfl rfl (Nat.le_of_ble_eq_true rfl) wf_RX6_28 rfl dX6_init_39 ?_
  refine gw_aload_n (pc := 42) 0 dX6_init_42 rfl ?_
  refine gw_new (pc := 43) rfl clsX5 wn_RX6_32 dv_5 ⟨Nat.le_of_ble_eq_true rfl, Nat.le_of_ble_eq_true rfl⟩ dX6_init_43 (fun q4 => ?_)
  refine gw_dup (pc := 46) dX6_init_46 rfl ?_
  refine gw_callI (l := [(a, cO 6 [.ref q1, .ref q2, gi 0, .ref q3, .null, .null, .null])] ++ l1 ++ l2 ++ l3) (post := po_X5_init (gw_cA U) q4) (As := []) (host := "GapStations") (pc := 47) (c_X5_init _ q4) rfl mi_X5_init (Or.inr wl_RX6_34) ⟨Nat.le_of_ble_eq_true rfl, Nat.le_of_ble_eq_true rfl, Nat.le_of_ble_eq_true rfl, Nat.le_of_ble_eq_true rfl⟩ rfl rfl (Nat.le_of_ble_eq_true rfl) dX6_init_47 (fun l4 h4 => ?_)
  refine gw_putF (l2 := [(a, cO 6 [.ref q1, .ref q2, gi 0, .ref q3, .ref q4, .null, .null])] ++ l1 ++ l2 ++ l3 ++ l4) (pc := 50) 0 4 rfl clsX6 rfl (by decide) rfl rfl rfl rfl (Nat.le_of_ble_eq_true rfl) wf_RX6_35 rfl dX6_init_50 ?_
  refine gw_aload_n (pc := 53) 0 dX6_init_53 rfl ?_
  refine gw_new (pc := 54) rfl clsX4 wn_RX6_39 dv_4 ⟨Nat.le_of_ble_eq_true rfl, Nat.le_of_ble_eq_true rfl⟩ dX6_init_54 (fun q5 => ?_)
  refine gw_dup (pc := 57) dX6_init_57 rfl ?_
  refine gw_callI (l := [(a, cO 6 [.ref q1, .ref q2, gi 0, .ref q3, .ref q4, .null, .null])] ++ l1 ++ l2 ++ l3 ++ l4) (post := po_X4_init (gw_cA U) q5) (As := []) (host := "GapStations") (pc := 58) (c_X4_init _ q5) rfl mi_X4_init (Or.inr wl_RX6_41) ⟨Nat.le_of_ble_eq_true rfl, Nat.le_of_ble_eq_true rfl, Nat.le_of_ble_eq_true rfl, Nat.le_of_ble_eq_true rfl⟩ rfl rfl (Nat.le_of_ble_eq_true rfl) dX6_init_58 (fun l5 h5 => ?_)
  refine gw_putF (l2 := [(a, cO 6 [.ref q1, .ref q2, gi 0, .ref q3, .ref q4, .ref q5, .null])] ++ l1 ++ l2 ++ l3 ++ l4 ++ l5) (pc := 61) 0 5 rfl clsX6 rfl (by decide) rfl rfl rfl rfl (Nat.le_of_ble_eq_true rfl) wf_RX6_42 rfl dX6_init_61 ?_
  refine gw_aload_n (pc := 64) 0 dX6_init_64 rfl ?_
  refine gw_bipush (pc := 65) dX6_init_65 (by decide +kernel) ?_
  refine gw_newq (m := 6) (pc := 67) rfl wc_RX6_46 (by decide +kernel) (by decide +kernel) (by decide) ⟨Nat.le_of_ble_eq_true rfl, Nat.le_of_ble_eq_true rfl⟩ dX6_init_67 (fun q6 => ?_)
  refine gw_putF (l2 := [(a, cO 6 [.ref q1, .ref q2, gi 0, .ref q3, .ref q4, .ref q5, .ref q6])] ++ l1 ++ l2 ++ l3 ++ l4 ++ l5 ++ [(q6, cQ (gw_cA U) 6 (fun _ => none))]) (pc := 70) 0 6 rfl clsX6 rfl (by decide) rfl rfl rfl rfl (Nat.le_of_ble_eq_true rfl) wf_RX6_48 rfl dX6_init_70 ?_
  refine gw_iconst (pc := 73) dX6_init_73 ?_
  refine gw_istore_n (L' := [(1, gi 0), (0, .ref a)]) (pc := 74) dX6_init_74 (Nat.le_of_ble_eq_true rfl) rfl ?_
  refine gw_iload_n (pc := 75) 0 dX6_init_75 rfl ?_
  refine gw_bipush (pc := 76) dX6_init_76 (by decide +kernel) ?_
  refine gw_ge_f (tgt := 100) (pc := 78) dX6_init_78 (by decide) (by decide +kernel) ?_
  refine gw_aload_n (pc := 81) 1 dX6_init_81 rfl ?_
  refine gw_get (pc := 82) 0 6 rfl clsX6 rfl (by decide) rfl wf_RX6_48 dX6_init_82 ?_
  refine gw_iload_n (pc := 85) 0 dX6_init_85 rfl ?_
  refine gw_new (pc := 86) rfl clsX3 wn_RX6_46 dv_3 ⟨Nat.le_of_ble_eq_true rfl, Nat.le_of_ble_eq_true rfl⟩ dX6_init_86 (fun q7 => ?_)
  refine gw_dup (pc := 89) dX6_init_89 rfl ?_
  refine gw_callI (l := [(a, cO 6 [.ref q1, .ref q2, gi 0, .ref q3, .ref q4, .ref q5, .ref q6])] ++ l1 ++ l2 ++ l3 ++ l4 ++ l5 ++ [(q6, cQ (gw_cA U) 6 (fun _ => none))]) (post := po_X3_init (gw_cA U) q7) (As := []) (host := "GapStations") (pc := 90) (c_X3_init _ q7) rfl mi_X3_init (Or.inr wl_RX6_52) ⟨Nat.le_of_ble_eq_true rfl, Nat.le_of_ble_eq_true rfl, Nat.le_of_ble_eq_true rfl, Nat.le_of_ble_eq_true rfl⟩ rfl rfl (Nat.le_of_ble_eq_true rfl) dX6_init_90 (fun l7 h7 => ?_)
  obtain ⟨eq7, h7b⟩ := h7
  subst h7b
  refine gw_aast (m := 6) (f := (fun _ => none)) (vs := [.ref eq7, gi (-1), gi 0]) (w1 := [(a, cO 6 [.ref q1, .ref q2, gi 0, .ref q3, .ref q4, .ref q5, .ref q6])] ++ l1 ++ l2 ++ l3 ++ l4 ++ l5) (w2 := ([(q7, cO 3 [.ref eq7, gi (-1), gi 0]), (eq7, cL (gw_cA U) 60 zr)])) (l2 := [(a, cO 6 [.ref q1, .ref q2, gi 0, .ref q3, .ref q4, .ref q5, .ref q6])] ++ l1 ++ l2 ++ l3 ++ l4 ++ l5 ++ [(q6, cQ (gw_cA U) 6 (va_up (fun _ => none) 0 (some q7)))] ++ [(q7, cO 3 [.ref eq7, gi (-1), gi 0]), (eq7, cL (gw_cA U) 60 zr)]) (pc := 93) (by simp [List.append_assoc]) (by simp) ⟨by decide +kernel, by decide +kernel⟩ (by simp [List.append_assoc]; rfl) dX6_init_93 ?_
  refine gw_iinc (L' := [(1, gi (0 + 1)), (0, .ref a)]) (pc := 94) 0 dX6_init_94 rfl (Nat.le_of_ble_eq_true rfl) rfl ?_
  refine gw_goto (tgt := 75) (pc := 97) dX6_init_97 (by decide) ?_
  refine gw_iload_n (pc := 75) 0 dX6_init_75 rfl ?_
  refine gw_bipush (pc := 76) dX6_init_76 (by decide +kernel) ?_
  refine gw_ge_f (tgt := 100) (pc := 78) dX6_init_78 (by decide) (by decide +kernel) ?_
  refine gw_aload_n (pc := 81) 1 dX6_init_81 rfl ?_
  refine gw_get (pc := 82) 0 6 rfl clsX6 rfl (by decide) rfl wf_RX6_48 dX6_init_82 ?_
  refine gw_iload_n (pc := 85) 0 dX6_init_85 rfl ?_
  refine gw_new (pc := 86) rfl clsX3 wn_RX6_46 dv_3 ⟨Nat.le_of_ble_eq_true rfl, Nat.le_of_ble_eq_true rfl⟩ dX6_init_86 (fun q8 => ?_)
  refine gw_dup (pc := 89) dX6_init_89 rfl ?_
  refine gw_callI (l := [(a, cO 6 [.ref q1, .ref q2, gi 0, .ref q3, .ref q4, .ref q5, .ref q6])] ++ l1 ++ l2 ++ l3 ++ l4 ++ l5 ++ [(q6, cQ (gw_cA U) 6 (va_up (fun _ => none) 0 (some q7)))] ++ [(q7, cO 3 [.ref eq7, gi (-1), gi 0]), (eq7, cL (gw_cA U) 60 zr)]) (post := po_X3_init (gw_cA U) q8) (As := []) (host := "GapStations") (pc := 90) (c_X3_init _ q8) rfl mi_X3_init (Or.inr wl_RX6_52) ⟨Nat.le_of_ble_eq_true rfl, Nat.le_of_ble_eq_true rfl, Nat.le_of_ble_eq_true rfl, Nat.le_of_ble_eq_true rfl⟩ rfl rfl (Nat.le_of_ble_eq_true rfl) dX6_init_90 (fun l8 h8 => ?_)
  obtain ⟨eq8, h8b⟩ := h8
  subst h8b
  refine gw_aast (m := 6) (f := (va_up (fun _ => none) 0 (some q7))) (vs := [.ref eq8, gi (-1), gi 0]) (w1 := [(a, cO 6 [.ref q1, .ref q2, gi 0, .ref q3, .ref q4, .ref q5, .ref q6])] ++ l1 ++ l2 ++ l3 ++ l4 ++ l5) (w2 := ([(q7, cO 3 [.ref eq7, gi (-1), gi 0]), (eq7, cL (gw_cA U) 60 zr)] ++ [(q8, cO 3 [.ref eq8, gi (-1), gi 0]), (eq8, cL (gw_cA U) 60 zr)])) (l2 := [(a, cO 6 [.ref q1, .ref q2, gi 0, .ref q3, .ref q4, .ref q5, .ref q6])] ++ l1 ++ l2 ++ l3 ++ l4 ++ l5 ++ [(q6, cQ (gw_cA U) 6 (va_up (va_up (fun _ => none) 0 (some q7)) 1 (some q8)))] ++ [(q7, cO 3 [.ref eq7, gi (-1), gi 0]), (eq7, cL (gw_cA U) 60 zr)] ++ [(q8, cO 3 [.ref eq8, gi (-1), gi 0]), (eq8, cL (gw_cA U) 60 zr)]) (pc := 93) (by simp [List.append_assoc]) (by simp) ⟨by decide +kernel, by decide +kernel⟩ (by simp [List.append_assoc]; rfl) dX6_init_93 ?_
  refine gw_iinc (L' := [(1, gi ((0 + 1) + 1)), (0, .ref a)]) (pc := 94) 0 dX6_init_94 rfl (Nat.le_of_ble_eq_true rfl) rfl ?_
  refine gw_goto (tgt := 75) (pc := 97) dX6_init_97 (by decide) ?_
  refine gw_iload_n (pc := 75) 0 dX6_init_75 rfl ?_
  refine gw_bipush (pc := 76) dX6_init_76 (by decide +kernel) ?_
  refine gw_ge_f (tgt := 100) (pc := 78) dX6_init_78 (by decide) (by decide +kernel) ?_
  refine gw_aload_n (pc := 81) 1 dX6_init_81 rfl ?_
  refine gw_get (pc := 82) 0 6 rfl clsX6 rfl (by decide) rfl wf_RX6_48 dX6_init_82 ?_
  refine gw_iload_n (pc := 85) 0 dX6_init_85 rfl ?_
  refine gw_new (pc := 86) rfl clsX3 wn_RX6_46 dv_3 ⟨Nat.le_of_ble_eq_true rfl, Nat.le_of_ble_eq_true rfl⟩ dX6_init_86 (fun q9 => ?_)
  refine gw_dup (pc := 89) dX6_init_89 rfl ?_
  refine gw_callI (l := [(a, cO 6 [.ref q1, .ref q2, gi 0, .ref q3, .ref q4, .ref q5, .ref q6])] ++ l1 ++ l2 ++ l3 ++ l4 ++ l5 ++ [(q6, cQ (gw_cA U) 6 (va_up (va_up (fun _ => none) 0 (some q7)) 1 (some q8)))] ++ [(q7, cO 3 [.ref eq7, gi (-1), gi 0]), (eq7, cL (gw_cA U) 60 zr)] ++ [(q8, cO 3 [.ref eq8, gi (-1), gi 0]), (eq8, cL (gw_cA U) 60 zr)]) (post := po_X3_init (gw_cA U) q9) (As := []) (host := "GapStations") (pc := 90) (c_X3_init _ q9) rfl mi_X3_init (Or.inr wl_RX6_52) ⟨Nat.le_of_ble_eq_true rfl, Nat.le_of_ble_eq_true rfl, Nat.le_of_ble_eq_true rfl, Nat.le_of_ble_eq_true rfl⟩ rfl rfl (Nat.le_of_ble_eq_true rfl) dX6_init_90 (fun l9 h9 => ?_)
  obtain ⟨eq9, h9b⟩ := h9
  subst h9b
  refine gw_aast (m := 6) (f := (va_up (va_up (fun _ => none) 0 (some q7)) 1 (some q8))) (vs := [.ref eq9, gi (-1), gi 0]) (w1 := [(a, cO 6 [.ref q1, .ref q2, gi 0, .ref q3, .ref q4, .ref q5, .ref q6])] ++ l1 ++ l2 ++ l3 ++ l4 ++ l5) (w2 := ([(q7, cO 3 [.ref eq7, gi (-1), gi 0]), (eq7, cL (gw_cA U) 60 zr)] ++ [(q8, cO 3 [.ref eq8, gi (-1), gi 0]), (eq8, cL (gw_cA U) 60 zr)] ++ [(q9, cO 3 [.ref eq9, gi (-1), gi 0]), (eq9, cL (gw_cA U) 60 zr)])) (l2 := [(a, cO 6 [.ref q1, .ref q2, gi 0, .ref q3, .ref q4, .ref q5, .ref q6])] ++ l1 ++ l2 ++ l3 ++ l4 ++ l5 ++ [(q6, cQ (gw_cA U) 6 (va_up (va_up (va_up (fun _ => none) 0 (some q7)) 1 (some q8)) 2 (some q9)))] ++ [(q7, cO 3 [.ref eq7, gi (-1), gi 0]), (eq7, cL (gw_cA U) 60 zr)] ++ [(q8, cO 3 [.ref eq8, gi (-1), gi 0]), (eq8, cL (gw_cA U) 60 zr)] ++ [(q9, cO 3 [.ref eq9, gi (-1), gi 0]), (eq9, cL (gw_cA U) 60 zr)]) (pc := 93) (by simp [List.append_assoc]) (by simp) ⟨by decide +kernel, by decide +kernel⟩ (by simp [List.append_assoc]; rfl) dX6_init_93 ?_
  refine gw_iinc (L' := [(1, gi (((0 + 1) + 1) + 1)), (0, .ref a)]) (pc := 94) 0 dX6_init_94 rfl (Nat.le_of_ble_eq_true rfl) rfl ?_
  refine gw_goto (tgt := 75) (pc := 97) dX6_init_97 (by decide) ?_
  refine gw_iload_n (pc := 75) 0 dX6_init_75 rfl ?_
  refine gw_bipush (pc := 76) dX6_init_76 (by decide +kernel) ?_
  refine gw_ge_f (tgt := 100) (pc := 78) dX6_init_78 (by decide) (by decide +kernel) ?_
  refine gw_aload_n (pc := 81) 1 dX6_init_81 rfl ?_
  refine gw_get (pc := 82) 0 6 rfl clsX6 rfl (by decide) rfl wf_RX6_48 dX6_init_82 ?_
  refine gw_iload_n (pc := 85) 0 dX6_init_85 rfl ?_
  refine gw_new (pc := 86) rfl clsX3 wn_RX6_46 dv_3 ⟨Nat.le_of_ble_eq_true rfl, Nat.le_of_ble_eq_true rfl⟩ dX6_init_86 (fun q10 => ?_)
  refine gw_dup (pc := 89) dX6_init_89 rfl ?_
  refine gw_callI (l := [(a, cO 6 [.ref q1, .ref q2, gi 0, .ref q3, .ref q4, .ref q5, .ref q6])] ++ l1 ++ l2 ++ l3 ++ l4 ++ l5 ++ [(q6, cQ (gw_cA U) 6 (va_up (va_up (va_up (fun _ => none) 0 (some q7)) 1 (some q8)) 2 (some q9)))] ++ [(q7, cO 3 [.ref eq7, gi (-1), gi 0]), (eq7, cL (gw_cA U) 60 zr)] ++ [(q8, cO 3 [.ref eq8, gi (-1), gi 0]), (eq8, cL (gw_cA U) 60 zr)] ++ [(q9, cO 3 [.ref eq9, gi (-1), gi 0]), (eq9, cL (gw_cA U) 60 zr)]) (post := po_X3_init (gw_cA U) q10) (As := []) (host := "GapStations") (pc := 90) (c_X3_init _ q10) rfl mi_X3_init (Or.inr wl_RX6_52) ⟨Nat.le_of_ble_eq_true rfl, Nat.le_of_ble_eq_true rfl, Nat.le_of_ble_eq_true rfl, Nat.le_of_ble_eq_true rfl⟩ rfl rfl (Nat.le_of_ble_eq_true rfl) dX6_init_90 (fun l10 h10 => ?_)
  obtain ⟨eq10, h10b⟩ := h10
  subst h10b
  refine gw_aast (m := 6) (f := (va_up (va_up (va_up (fun _ => none) 0 (some q7)) 1 (some q8)) 2 (some q9))) (vs := [.ref eq10, gi (-1), gi 0]) (w1 := [(a, cO 6 [.ref q1, .ref q2, gi 0, .ref q3, .ref q4, .ref q5, .ref q6])] ++ l1 ++ l2 ++ l3 ++ l4 ++ l5) (w2 := ([(q7, cO 3 [.ref eq7, gi (-1), gi 0]), (eq7, cL (gw_cA U) 60 zr)] ++ [(q8, cO 3 [.ref eq8, gi (-1), gi 0]), (eq8, cL (gw_cA U) 60 zr)] ++ [(q9, cO 3 [.ref eq9, gi (-1), gi 0]), (eq9, cL (gw_cA U) 60 zr)] ++ [(q10, cO 3 [.ref eq10, gi (-1), gi 0]), (eq10, cL (gw_cA U) 60 zr)])) (l2 := [(a, cO 6 [.ref q1, .ref q2, gi 0, .ref q3, .ref q4, .ref q5, .ref q6])] ++ l1 ++ l2 ++ l3 ++ l4 ++ l5 ++ [(q6, cQ (gw_cA U) 6 (va_up (va_up (va_up (va_up (fun _ => none) 0 (some q7)) 1 (some q8)) 2 (some q9)) 3 (some q10)))] ++ [(q7, cO 3 [.ref eq7, gi (-1), gi 0]), (eq7, cL (gw_cA U) 60 zr)] ++ [(q8, cO 3 [.ref eq8, gi (-1), gi 0]), (eq8, cL (gw_cA U) 60 zr)] ++ [(q9, cO 3 [.ref eq9, gi (-1), gi 0]), (eq9, cL (gw_cA U) 60 zr)] ++ [(q10, cO 3 [.ref eq10, gi (-1), gi 0]), (eq10, cL (gw_cA U) 60 zr)]) (pc := 93) (by simp [List.append_assoc]) (by simp) ⟨by decide +kernel, by decide +kernel⟩ (by simp [List.append_assoc]; rfl) dX6_init_93 ?_
  refine gw_iinc (L' := [(1, gi ((((0 + 1) + 1) + 1) + 1)), (0, .ref a)]) (pc := 94) 0 dX6_init_94 rfl (Nat.le_of_ble_eq_true rfl) rfl ?_
  refine gw_goto (tgt := 75) (pc := 97) dX6_init_97 (by decide) ?_
  refine gw_iload_n (pc := 75) 0 dX6_init_75 rfl ?_
  refine gw_bipush (pc := 76) dX6_init_76 (by decide +kernel) ?_
  refine gw_ge_f (tgt := 100) (pc := 78) dX6_init_78 (by decide) (by decide +kernel) ?_
  refine gw_aload_n (pc := 81) 1 dX6_init_81 rfl ?_
  refine gw_get (pc := 82) 0 6 rfl clsX6 rfl (by decide) rfl wf_RX6_48 dX6_init_82 ?_
  refine gw_iload_n (pc := 85) 0 dX6_init_85 rfl ?_
  refine gw_new (pc := 86) rfl clsX3 wn_RX6_46 dv_3 ⟨Nat.le_of_ble_eq_true rfl, Nat.le_of_ble_eq_true rfl⟩ dX6_init_86 (fun q11 => ?_)
  refine gw_dup (pc := 89) dX6_init_89 rfl ?_
  refine gw_callI (l := [(a, cO 6 [.ref q1, .ref q2, gi 0, .ref q3, .ref q4, .ref q5, .ref q6])] ++ l1 ++ l2 ++ l3 ++ l4 ++ l5 ++ [(q6, cQ (gw_cA U) 6 (va_up (va_up (va_up (va_up (fun _ => none) 0 (some q7)) 1 (some q8)) 2 (some q9)) 3 (some q10)))] ++ [(q7, cO 3 [.ref eq7, gi (-1), gi 0]), (eq7, cL (gw_cA U) 60 zr)] ++ [(q8, cO 3 [.ref eq8, gi (-1), gi 0]), (eq8, cL (gw_cA U) 60 zr)] ++ [(q9, cO 3 [.ref eq9, gi (-1), gi 0]), (eq9, cL (gw_cA U) 60 zr)] ++ [(q10, cO 3 [.ref eq10, gi (-1), gi 0]), (eq10, cL (gw_cA U) 60 zr)]) (post := po_X3_init (gw_cA U) q11) (As := []) (host := "GapStations") (pc := 90) (c_X3_init _ q11) rfl mi_X3_init (Or.inr wl_RX6_52) ⟨Nat.le_of_ble_eq_true rfl, Nat.le_of_ble_eq_true rfl, Nat.le_of_ble_eq_true rfl, Nat.le_of_ble_eq_true rfl⟩ rfl rfl (Nat.le_of_ble_eq_true rfl) dX6_init_90 (fun l11 h11 => ?_)
  obtain ⟨eq11, h11b⟩ := h11
  subst h11b
  refine gw_aast (m := 6) (f := (va_up (va_up (va_up (va_up (fun _ => none) 0 (some q7)) 1 (some q8)) 2 (some q9)) 3 (some q10))) (vs := [.ref eq11, gi (-1), gi 0]) (w1 := [(a, cO 6 [.ref q1, .ref q2, gi 0, .ref q3, .ref q4, .ref q5, .ref q6])] ++ l1 ++ l2 ++ l3 ++ l4 ++ l5) (w2 := ([(q7, cO 3 [.ref eq7, gi (-1), gi 0]), (eq7, cL (gw_cA U) 60 zr)] ++ [(q8, cO 3 [.ref eq8, gi (-1), gi 0]), (eq8, cL (gw_cA U) 60 zr)] ++ [(q9, cO 3 [.ref eq9, gi (-1), gi 0]), (eq9, cL (gw_cA U) 60 zr)] ++ [(q10, cO 3 [.ref eq10, gi (-1), gi 0]), (eq10, cL (gw_cA U) 60 zr)] ++ [(q11, cO 3 [.ref eq11, gi (-1), gi 0]), (eq11, cL (gw_cA U) 60 zr)])) (l2 := [(a, cO 6 [.ref q1, .ref q2, gi 0, .ref q3, .ref q4, .ref q5, .ref q6])] ++ l1 ++ l2 ++ l3 ++ l4 ++ l5 ++ [(q6, cQ (gw_cA U) 6 (va_up (va_up (va_up (va_up (va_up (fun _ => none) 0 (some q7)) 1 (some q8)) 2 (some q9)) 3 (some q10)) 4 (some q11)))] ++ [(q7, cO 3 [.ref eq7, gi (-1), gi 0]), (eq7, cL (gw_cA U) 60 zr)] ++ [(q8, cO 3 [.ref eq8, gi (-1), gi 0]), (eq8, cL (gw_cA U) 60 zr)] ++ [(q9, cO 3 [.ref eq9, gi (-1), gi 0]), (eq9, cL (gw_cA U) 60 zr)] ++ [(q10, cO 3 [.ref eq10, gi (-1), gi 0]), (eq10, cL (gw_cA U) 60 zr)] ++ [(q11, cO 3 [.ref eq11, gi (-1), gi 0]), (eq11, cL (gw_cA U) 60 zr)]) (pc := 93) (by simp [List.append_assoc]) (by simp) ⟨by decide +kernel, by decide +kernel⟩ (by simp [List.append_assoc]; rfl) dX6_init_93 ?_
  refine gw_iinc (L' := [(1, gi (((((0 + 1) + 1) + 1) + 1) + 1)), (0, .ref a)]) (pc := 94) 0 dX6_init_94 rfl (Nat.le_of_ble_eq_true rfl) rfl ?_
  refine gw_goto (tgt := 75) (pc := 97) dX6_init_97 (by decide) ?_
  refine gw_iload_n (pc := 75) 0 dX6_init_75 rfl ?_
  refine gw_bipush (pc := 76) dX6_init_76 (by decide +kernel) ?_
  refine gw_ge_f (tgt := 100) (pc := 78) dX6_init_78 (by decide) (by decide +kernel) ?_
  refine gw_aload_n (pc := 81) 1 dX6_init_81 rfl ?_
  refine gw_get (pc := 82) 0 6 rfl clsX6 rfl (by decide) rfl wf_RX6_48 dX6_init_82 ?_
  refine gw_iload_n (pc := 85) 0 dX6_init_85 rfl ?_
  refine gw_new (pc := 86) rfl clsX3 wn_RX6_46 dv_3 ⟨Nat.le_of_ble_eq_true rfl, Nat.le_of_ble_eq_true rfl⟩ dX6_init_86 (fun q12 => ?_)
  refine gw_dup (pc := 89) dX6_init_89 rfl ?_
  refine gw_callI (l := [(a, cO 6 [.ref q1, .ref q2, gi 0, .ref q3, .ref q4, .ref q5, .ref q6])] ++ l1 ++ l2 ++ l3 ++ l4 ++ l5 ++ [(q6, cQ (gw_cA U) 6 (va_up (va_up (va_up (va_up (va_up (fun _ => none) 0 (some q7)) 1 (some q8)) 2 (some q9)) 3 (some q10)) 4 (some q11)))] ++ [(q7, cO 3 [.ref eq7, gi (-1), gi 0]), (eq7, cL (gw_cA U) 60 zr)] ++ [(q8, cO 3 [.ref eq8, gi (-1), gi 0]), (eq8, cL (gw_cA U) 60 zr)] ++ [(q9, cO 3 [.ref eq9, gi (-1), gi 0]), (eq9, cL (gw_cA U) 60 zr)] ++ [(q10, cO 3 [.ref eq10, gi (-1), gi 0]), (eq10, cL (gw_cA U) 60 zr)] ++ [(q11, cO 3 [.ref eq11, gi (-1), gi 0]), (eq11, cL (gw_cA U) 60 zr)]) (post := po_X3_init (gw_cA U) q12) (As := []) (host := "GapStations") (pc := 90) (c_X3_init _ q12) rfl mi_X3_init (Or.inr wl_RX6_52) ⟨Nat.le_of_ble_eq_true rfl, Nat.le_of_ble_eq_true rfl, Nat.le_of_ble_eq_true rfl, Nat.le_of_ble_eq_true rfl⟩ rfl rfl (Nat.le_of_ble_eq_true rfl) dX6_init_90 (fun l12 h12 => ?_)
  obtain ⟨eq12, h12b⟩ := h12
  subst h12b
  refine gw_aast (m := 6) (f := (va_up (va_up (va_up (va_up (va_up (fun _ => none) 0 (some q7)) 1 (some q8)) 2 (some q9)) 3 (some q10)) 4 (some q11))) (vs := [.ref eq12, gi (-1), gi 0]) (w1 := [(a, cO 6 [.ref q1, .ref q2, gi 0, .ref q3, .ref q4, .ref q5, .ref q6])] ++ l1 ++ l2 ++ l3 ++ l4 ++ l5) (w2 := ([(q7, cO 3 [.ref eq7, gi (-1), gi 0]), (eq7, cL (gw_cA U) 60 zr)] ++ [(q8, cO 3 [.ref eq8, gi (-1), gi 0]), (eq8, cL (gw_cA U) 60 zr)] ++ [(q9, cO 3 [.ref eq9, gi (-1), gi 0]), (eq9, cL (gw_cA U) 60 zr)] ++ [(q10, cO 3 [.ref eq10, gi (-1), gi 0]), (eq10, cL (gw_cA U) 60 zr)] ++ [(q11, cO 3 [.ref eq11, gi (-1), gi 0]), (eq11, cL (gw_cA U) 60 zr)] ++ [(q12, cO 3 [.ref eq12, gi (-1), gi 0]), (eq12, cL (gw_cA U) 60 zr)])) (l2 := [(a, cO 6 [.ref q1, .ref q2, gi 0, .ref q3, .ref q4, .ref q5, .ref q6])] ++ l1 ++ l2 ++ l3 ++ l4 ++ l5 ++ [(q6, cQ (gw_cA U) 6 (va_up (va_up (va_up (va_up (va_up (va_up (fun _ => none) 0 (some q7)) 1 (some q8)) 2 (some q9)) 3 (some q10)) 4 (some q11)) 5 (some q12)))] ++ [(q7, cO 3 [.ref eq7, gi (-1), gi 0]), (eq7, cL (gw_cA U) 60 zr)] ++ [(q8, cO 3 [.ref eq8, gi (-1), gi 0]), (eq8, cL (gw_cA U) 60 zr)] ++ [(q9, cO 3 [.ref eq9, gi (-1), gi 0]), (eq9, cL (gw_cA U) 60 zr)] ++ [(q10, cO 3 [.ref eq10, gi (-1), gi 0]), (eq10, cL (gw_cA U) 60 zr)] ++ [(q11, cO 3 [.ref eq11, gi (-1), gi 0]), (eq11, cL (gw_cA U) 60 zr)] ++ [(q12, cO 3 [.ref eq12, gi (-1), gi 0]), (eq12, cL (gw_cA U) 60 zr)]) (pc := 93) (by simp [List.append_assoc]) (by simp) ⟨by decide +kernel, by decide +kernel⟩ (by simp [List.append_assoc]; rfl) dX6_init_93 ?_
  refine gw_iinc (L' := [(1, gi ((((((0 + 1) + 1) + 1) + 1) + 1) + 1)), (0, .ref a)]) (pc := 94) 0 dX6_init_94 rfl (Nat.le_of_ble_eq_true rfl) rfl ?_
  refine gw_goto (tgt := 75) (pc := 97) dX6_init_97 (by decide) ?_
  refine gw_iload_n (pc := 75) 0 dX6_init_75 rfl ?_
  refine gw_bipush (pc := 76) dX6_init_76 (by decide +kernel) ?_
  refine gw_ge_t (tgt := 100) (pc := 78) dX6_init_78 (by decide) (by decide +kernel) ?_
  exact gw_ret (pc := 100) dX6_init_100 rfl rfl ⟨q1, q2, q3, q4, q5, q6, q7, q8, q9, q10, q11, q12, eq7, eq8, eq9, eq10, eq11, eq12, l1, l2, l3, l4, l5, h1, h2, h3, h4, h5, rfl⟩
def po_X7_init (cA : FieldType → ClassId) (a : Nat) (l : va_W) : Prop := ∃ (q1 : Nat) (q2 : Nat) (q3 : Nat) (q4 : Nat) (q5 : Nat) (q6 : Nat) (q7 : Nat) (q8 : Nat), l = [(a, cO 7 [.ref q1, .ref q2, .ref q3, gi 0, .ref q4, gi 0, gi 0, .ref q5, .ref q6, .ref q7, .ref q8])] ++ [(q1, cI cA 84 (rup (rup (rup zr 37 1) 39 1) 41 1))] ++ [(q2, cI cA 84 zr)] ++ [(q3, cI cA 84 zr)] ++ [(q4, cI cA 100 zr)] ++ [(q5, cI cA 32 zr)] ++ [(q6, cI cA 6 (rup (rup (rup (rup (rup (rup zr 0 (-1)) 1 (-1)) 2 (-1)) 3 (-1)) 4 (-1)) 5 (-1)))] ++ [(q7, cI cA 6 zr)] ++ [(q8, cL cA 360 zr)]
set_option maxRecDepth 100000 in
set_option maxHeartbeats 8000000 in
theorem c_X7_init (U : gw_U) (a : Nat) : gw_C U yX7_init cX7_init 2 { frames := 1, cells := 8, slots := 756, locals := 12 } a [] (cO 7 [.null, .null, .null, gi 0, .null, gi 0, gi 0, .null, .null, .null, .null]) (po_X7_init (gw_cA U) a) := by
  refine gw_enter (L := [(0, .ref a)]) (by decide) rfl (Nat.le_of_ble_eq_true rfl) rfl ?_
  refine gw_aload_n (pc := 0) 0 dX7_init_0 rfl ?_
  refine gw_objInit (pc := 1) rfl wo_X7_init (Nat.le_of_ble_eq_true rfl) (Nat.le_of_ble_eq_true rfl) dX7_init_1 ?_
  refine gw_aload_n (pc := 4) 0 dX7_init_4 rfl ?_
  refine gw_bipush (pc := 5) dX7_init_5 (by decide +kernel) ?_
  refine gw_newa (ty := .int) (m := 84) (a0 := (84, .inl fun j => Int32.ofInt (zr j))) (pc := 7) 0 rfl rfl (fun C h => by cases h) wa_int (za_i 84) (by decide +kernel) (by decide +kernel) (by decide) ⟨Nat.le_of_ble_eq_true rfl, Nat.le_of_ble_eq_true rfl⟩ dX7_init_7 (fun q1 => ?_)
  refine gw_putF (l2 := [(a, cO 7 [.ref q1, .null, .null, gi 0, .null, gi 0, gi 0, .null, .null, .null, .null])] ++ [(q1, cI (gw_cA U) 84 zr)]) (pc := 9) 0 0 rfl clsX7 rfl (by decide) rfl rfl rfl rfl (Nat.le_of_ble_eq_true rfl) wf_RX7_11 rfl dX7_init_9 ?_
  refine gw_aload_n (pc := 12) 0 dX7_init_12 rfl ?_
  refine gw_bipush (pc := 13) dX7_init_13 (by decide +kernel) ?_
  refine gw_newa (ty := .int) (m := 84) (a0 := (84, .inl fun j => Int32.ofInt (zr j))) (pc := 15) 0 rfl rfl (fun C h => by cases h) wa_int (za_i 84) (by decide +kernel) (by decide +kernel) (by decide) ⟨Nat.le_of_ble_eq_true rfl, Nat.le_of_ble_eq_true rfl⟩ dX7_init_15 (fun q2 => ?_)
  refine gw_putF (l2 := [(a, cO 7 [.ref q1, .ref q2, .null, gi 0, .null, gi 0, gi 0, .null, .null, .null, .null])] ++ [(q1, cI (gw_cA U) 84 zr)] ++ [(q2, cI (gw_cA U) 84 zr)]) (pc := 17) 0 1 rfl clsX7 rfl (by decide) rfl rfl rfl rfl (Nat.le_of_ble_eq_true rfl) wf_RX7_15 rfl dX7_init_17 ?_
  refine gw_aload_n (pc := 20) 0 dX7_init_20 rfl ?_
  refine gw_bipush (pc := 21) dX7_init_21 (by decide +kernel) ?_
  refine gw_newa (ty := .int) (m := 84) (a0 := (84, .inl fun j => Int32.ofInt (zr j))) (pc := 23) 0 rfl rfl (fun C h => by cases h) wa_int (za_i 84) (by decide +kernel) (by decide +kernel) (by decide) ⟨Nat.le_of_ble_eq_true rfl, Nat.le_of_ble_eq_true rfl⟩ dX7_init_23 (fun q3 => ?_)
  refine gw_putF (l2 := [(a, cO 7 [.ref q1, .ref q2, .ref q3, gi 0, .null, gi 0, gi 0, .null, .null, .null, .null])] ++ [(q1, cI (gw_cA U) 84 zr)] ++ [(q2, cI (gw_cA U) 84 zr)] ++ [(q3, cI (gw_cA U) 84 zr)]) (pc := 25) 0 2 rfl clsX7 rfl (by decide) rfl rfl rfl rfl (Nat.le_of_ble_eq_true rfl) wf_RX7_18 rfl dX7_init_25 ?_
  refine gw_aload_n (pc := 28) 0 dX7_init_28 rfl ?_
  refine gw_bipush (pc := 29) dX7_init_29 (by decide +kernel) ?_
  refine gw_newa (ty := .int) (m := 100) (a0 := (100, .inl fun j => Int32.ofInt (zr j))) (pc := 31) 0 rfl rfl (fun C h => by cases h) wa_int (za_i 100) (by decide +kernel) (by decide +kernel) (by decide) ⟨Nat.le_of_ble_eq_true rfl, Nat.le_of_ble_eq_true rfl⟩ dX7_init_31 (fun q4 => ?_)
  refine gw_putF (l2 := [(a, cO 7 [.ref q1, .ref q2, .ref q3, gi 0, .ref q4, gi 0, gi 0, .null, .null, .null, .null])] ++ [(q1, cI (gw_cA U) 84 zr)] ++ [(q2, cI (gw_cA U) 84 zr)] ++ [(q3, cI (gw_cA U) 84 zr)] ++ [(q4, cI (gw_cA U) 100 zr)]) (pc := 33) 0 4 rfl clsX7 rfl (by decide) rfl rfl rfl rfl (Nat.le_of_ble_eq_true rfl) wf_RX7_21 rfl dX7_init_33 ?_
  refine gw_aload_n (pc := 36) 0 dX7_init_36 rfl ?_
  refine gw_bipush (pc := 37) dX7_init_37 (by decide +kernel) ?_
  refine gw_newa (ty := .int) (m := 32) (a0 := (32, .inl fun j => Int32.ofInt (zr j))) (pc := 39) 0 rfl rfl (fun C h => by cases h) wa_int (za_i 32) (by decide +kernel) (by decide +kernel) (by decide) ⟨Nat.le_of_ble_eq_true rfl, Nat.le_of_ble_eq_true rfl⟩ dX7_init_39 (fun q5 => ?_)
  refine gw_putF (l2 := [(a, cO 7 [.ref q1, .ref q2, .ref q3, gi 0, .ref q4, gi 0, gi 0, .ref q5, .null, .null, .null])] ++ [(q1, cI (gw_cA U) 84 zr)] ++ [(q2, cI (gw_cA U) 84 zr)] ++ [(q3, cI (gw_cA U) 84 zr)] ++ [(q4, cI (gw_cA U) 100 zr)] ++ [(q5, cI (gw_cA U) 32 zr)]) (pc := 41) 0 7 rfl clsX7 rfl (by decide) rfl rfl rfl rfl (Nat.le_of_ble_eq_true rfl) wf_RX7_24 rfl dX7_init_41 ?_
  refine gw_aload_n (pc := 44) 0 dX7_init_44 rfl ?_
  refine gw_bipush (pc := 45) dX7_init_45 (by decide +kernel) ?_
  refine gw_newa (ty := .int) (m := 6) (a0 := (6, .inl fun j => Int32.ofInt (zr j))) (pc := 47) 0 rfl rfl (fun C h => by cases h) wa_int (za_i 6) (by decide +kernel) (by decide +kernel) (by decide) ⟨Nat.le_of_ble_eq_true rfl, Nat.le_of_ble_eq_true rfl⟩ dX7_init_47 (fun q6 => ?_)
  refine gw_dup (pc := 49) dX7_init_49 rfl ?_
  refine gw_iconst (pc := 50) dX7_init_50 ?_
  refine gw_iconst (pc := 51) dX7_init_51 ?_
  refine gw_iast (m := 6) (l2 := [(a, cO 7 [.ref q1, .ref q2, .ref q3, gi 0, .ref q4, gi 0, gi 0, .ref q5, .null, .null, .null])] ++ [(q1, cI (gw_cA U) 84 zr)] ++ [(q2, cI (gw_cA U) 84 zr)] ++ [(q3, cI (gw_cA U) 84 zr)] ++ [(q4, cI (gw_cA U) 100 zr)] ++ [(q5, cI (gw_cA U) 32 zr)] ++ [(q6, cI (gw_cA U) 6 (rup zr 0 (-1)))]) (pc := 52) 6 rfl ⟨by decide +kernel, by decide +kernel⟩ rfl dX7_init_52 ?_
  refine gw_dup (pc := 53) dX7_init_53 rfl ?_
  refine gw_iconst (pc := 54) dX7_init_54 ?_
  refine gw_iconst (pc := 55) dX7_init_55 ?_
  refine gw_iast (m := 6) (l2 := [(a, cO 7 [.ref q1, .ref q2, .ref q3, gi 0, .ref q4, gi 0, gi 0, .ref q5, .null, .null, .null])] ++ [(q1, cI (gw_cA U) 84 zr)] ++ [(q2, cI (gw_cA U) 84 zr)] ++ [(q3, cI (gw_cA U) 84 zr)] ++ [(q4, cI (gw_cA U) 100 zr)] ++ [(q5, cI (gw_cA U) 32 zr)] ++ [(q6, cI (gw_cA U) 6 (rup (rup zr 0 (-1)) 1 (-1)))]) (pc := 56) 6 rfl ⟨by decide +kernel, by decide +kernel⟩ rfl dX7_init_56 ?_
  refine gw_dup (pc := 57) dX7_init_57 rfl ?_
  refine gw_iconst (pc := 58) dX7_init_58 ?_
  refine gw_iconst (pc := 59) dX7_init_59 ?_
  refine gw_iast (m := 6) (l2 := [(a, cO 7 [.ref q1, .ref q2, .ref q3, gi 0, .ref q4, gi 0, gi 0, .ref q5, .null, .null, .null])] ++ [(q1, cI (gw_cA U) 84 zr)] ++ [(q2, cI (gw_cA U) 84 zr)] ++ [(q3, cI (gw_cA U) 84 zr)] ++ [(q4, cI (gw_cA U) 100 zr)] ++ [(q5, cI (gw_cA U) 32 zr)] ++ [(q6, cI (gw_cA U) 6 (rup (rup (rup zr 0 (-1)) 1 (-1)) 2 (-1)))]) (pc := 60) 6 rfl ⟨by decide +kernel, by decide +kernel⟩ rfl dX7_init_60 ?_
  refine gw_dup (pc := 61) dX7_init_61 rfl ?_
  refine gw_iconst (pc := 62) dX7_init_62 ?_
  refine gw_iconst (pc := 63) dX7_init_63 ?_
  refine gw_iast (m := 6) (l2 := [(a, cO 7 [.ref q1, .ref q2, .ref q3, gi 0, .ref q4, gi 0, gi 0, .ref q5, .null, .null, .null])] ++ [(q1, cI (gw_cA U) 84 zr)] ++ [(q2, cI (gw_cA U) 84 zr)] ++ [(q3, cI (gw_cA U) 84 zr)] ++ [(q4, cI (gw_cA U) 100 zr)] ++ [(q5, cI (gw_cA U) 32 zr)] ++ [(q6, cI (gw_cA U) 6 (rup (rup (rup (rup zr 0 (-1)) 1 (-1)) 2 (-1)) 3 (-1)))]) (pc := 64) 6 rfl ⟨by decide +kernel, by decide +kernel⟩ rfl dX7_init_64 ?_
  refine gw_dup (pc := 65) dX7_init_65 rfl ?_
  refine gw_iconst (pc := 66) dX7_init_66 ?_
  refine gw_iconst (pc := 67) dX7_init_67 ?_
  refine gw_iast (m := 6) (l2 := [(a, cO 7 [.ref q1, .ref q2, .ref q3, gi 0, .ref q4, gi 0, gi 0, .ref q5, .null, .null, .null])] ++ [(q1, cI (gw_cA U) 84 zr)] ++ [(q2, cI (gw_cA U) 84 zr)] ++ [(q3, cI (gw_cA U) 84 zr)] ++ [(q4, cI (gw_cA U) 100 zr)] ++ [(q5, cI (gw_cA U) 32 zr)] ++ [(q6, cI (gw_cA U) 6 (rup (rup (rup (rup (rup zr 0 (-1)) 1 (-1)) 2 (-1)) 3 (-1)) 4 (-1)))]) (pc := 68) 6 rfl ⟨by decide +kernel, by decide +kernel⟩ rfl dX7_init_68 ?_
  refine gw_dup (pc := 69) dX7_init_69 rfl ?_
  refine gw_iconst (pc := 70) dX7_init_70 ?_
  refine gw_iconst (pc := 71) dX7_init_71 ?_
  refine gw_iast (m := 6) (l2 := [(a, cO 7 [.ref q1, .ref q2, .ref q3, gi 0, .ref q4, gi 0, gi 0, .ref q5, .null, .null, .null])] ++ [(q1, cI (gw_cA U) 84 zr)] ++ [(q2, cI (gw_cA U) 84 zr)] ++ [(q3, cI (gw_cA U) 84 zr)] ++ [(q4, cI (gw_cA U) 100 zr)] ++ [(q5, cI (gw_cA U) 32 zr)] ++ [(q6, cI (gw_cA U) 6 (rup (rup (rup (rup (rup (rup zr 0 (-1)) 1 (-1)) 2 (-1)) 3 (-1)) 4 (-1)) 5 (-1)))]) (pc := 72) 6 rfl ⟨by decide +kernel, by decide +kernel⟩ rfl dX7_init_72 ?_
  refine gw_putF (l2 := [(a, cO 7 [.ref q1, .ref q2, .ref q3, gi 0, .ref q4, gi 0, gi 0, .ref q5, .ref q6, .null, .null])] ++ [(q1, cI (gw_cA U) 84 zr)] ++ [(q2, cI (gw_cA U) 84 zr)] ++ [(q3, cI (gw_cA U) 84 zr)] ++ [(q4, cI (gw_cA U) 100 zr)] ++ [(q5, cI (gw_cA U) 32 zr)] ++ [(q6, cI (gw_cA U) 6 (rup (rup (rup (rup (rup (rup zr 0 (-1)) 1 (-1)) 2 (-1)) 3 (-1)) 4 (-1)) 5 (-1)))]) (pc := 73) 0 8 rfl clsX7 rfl (by decide) rfl rfl rfl rfl (Nat.le_of_ble_eq_true rfl) wf_RX7_27 rfl dX7_init_73 ?_
  refine gw_aload_n (pc := 76) 0 dX7_init_76 rfl ?_
  refine gw_bipush (pc := 77) dX7_init_77 (by decide +kernel) ?_
  refine gw_newa (ty := .int) (m := 6) (a0 := (6, .inl fun j => Int32.ofInt (zr j))) (pc := 79) 0 rfl rfl (fun C h => by cases h) wa_int (za_i 6) (by decide +kernel) (by decide +kernel) (by decide) ⟨Nat.le_of_ble_eq_true rfl, Nat.le_of_ble_eq_true rfl⟩ dX7_init_79 (fun q7 => ?_)
  refine gw_putF (l2 := [(a, cO 7 [.ref q1, .ref q2, .ref q3, gi 0, .ref q4, gi 0, gi 0, .ref q5, .ref q6, .ref q7, .null])] ++ [(q1, cI (gw_cA U) 84 zr)] ++ [(q2, cI (gw_cA U) 84 zr)] ++ [(q3, cI (gw_cA U) 84 zr)] ++ [(q4, cI (gw_cA U) 100 zr)] ++ [(q5, cI (gw_cA U) 32 zr)] ++ [(q6, cI (gw_cA U) 6 (rup (rup (rup (rup (rup (rup zr 0 (-1)) 1 (-1)) 2 (-1)) 3 (-1)) 4 (-1)) 5 (-1)))] ++ [(q7, cI (gw_cA U) 6 zr)]) (pc := 81) 0 9 rfl clsX7 rfl (by decide) rfl rfl rfl rfl (Nat.le_of_ble_eq_true rfl) wf_RX7_30 rfl dX7_init_81 ?_
  refine gw_aload_n (pc := 84) 0 dX7_init_84 rfl ?_
  refine gw_sipush (pc := 85) dX7_init_85 (by decide +kernel) ?_
  refine gw_newa (ty := .long) (m := 360) (a0 := (360, .inr (.inl fun j => Int64.ofInt (zr j)))) (pc := 88) 3 rfl rfl (fun C h => by cases h) wa_long (za_l 360) (by decide +kernel) (by decide +kernel) (by decide) ⟨Nat.le_of_ble_eq_true rfl, Nat.le_of_ble_eq_true rfl⟩ dX7_init_88 (fun q8 => ?_)
  refine gw_putF (l2 := [(a, cO 7 [.ref q1, .ref q2, .ref q3, gi 0, .ref q4, gi 0, gi 0, .ref q5, .ref q6, .ref q7, .ref q8])] ++ [(q1, cI (gw_cA U) 84 zr)] ++ [(q2, cI (gw_cA U) 84 zr)] ++ [(q3, cI (gw_cA U) 84 zr)] ++ [(q4, cI (gw_cA U) 100 zr)] ++ [(q5, cI (gw_cA U) 32 zr)] ++ [(q6, cI (gw_cA U) 6 (rup (rup (rup (rup (rup (rup zr 0 (-1)) 1 (-1)) 2 (-1)) 3 (-1)) 4 (-1)) 5 (-1)))] ++ [(q7, cI (gw_cA U) 6 zr)] ++ [(q8, cL (gw_cA U) 360 zr)]) (pc := 90) 0 10 rfl clsX7 rfl (by decide) rfl rfl rfl rfl (Nat.le_of_ble_eq_true rfl) wf_RX7_33 rfl dX7_init_90 ?_
  refine gw_iconst (pc := 93) dX7_init_93 ?_
  refine gw_istore_n (L' := [(1, gi 0), (0, .ref a)]) (pc := 94) dX7_init_94 (Nat.le_of_ble_eq_true rfl) rfl ?_
  refine gw_iload_n (pc := 95) 0 dX7_init_95 rfl ?_
  refine gw_iconst (pc := 96) dX7_init_96 ?_
  refine gw_ge_f (tgt := 120) (pc := 97) dX7_init_97 (by decide) (by decide +kernel) ?_
  refine gw_aload_n (pc := 100) 1 dX7_init_100 rfl ?_
  refine gw_get (pc := 101) 0 0 rfl clsX7 rfl (by decide) rfl wf_RX7_11 dX7_init_101 ?_
  refine gw_bipush (pc := 104) dX7_init_104 (by decide +kernel) ?_
  refine gw_iconst (pc := 106) dX7_init_106 ?_
  refine gw_iload_n (pc := 107) 0 dX7_init_107 rfl ?_
  refine gw_imul (pc := 108) dX7_init_108 ?_
  refine gw_iadd (pc := 109) dX7_init_109 ?_
  refine gw_iconst (pc := 110) dX7_init_110 ?_
  refine gw_iadd (pc := 111) dX7_init_111 ?_
  refine gw_iconst (pc := 112) dX7_init_112 ?_
  refine gw_iast (m := 84) (l2 := [(a, cO 7 [.ref q1, .ref q2, .ref q3, gi 0, .ref q4, gi 0, gi 0, .ref q5, .ref q6, .ref q7, .ref q8])] ++ [(q1, cI (gw_cA U) 84 (rup zr 37 1))] ++ [(q2, cI (gw_cA U) 84 zr)] ++ [(q3, cI (gw_cA U) 84 zr)] ++ [(q4, cI (gw_cA U) 100 zr)] ++ [(q5, cI (gw_cA U) 32 zr)] ++ [(q6, cI (gw_cA U) 6 (rup (rup (rup (rup (rup (rup zr 0 (-1)) 1 (-1)) 2 (-1)) 3 (-1)) 4 (-1)) 5 (-1)))] ++ [(q7, cI (gw_cA U) 6 zr)] ++ [(q8, cL (gw_cA U) 360 zr)]) (pc := 113) 1 rfl ⟨by decide +kernel, by decide +kernel⟩ rfl dX7_init_113 ?_
  refine gw_iinc (L' := [(1, gi (0 + 1)), (0, .ref a)]) (pc := 114) 0 dX7_init_114 rfl (Nat.le_of_ble_eq_true rfl) rfl ?_
  refine gw_goto (tgt := 95) (pc := 117) dX7_init_117 (by decide) ?_
  refine gw_iload_n (pc := 95) 0 dX7_init_95 rfl ?_
  refine gw_iconst (pc := 96) dX7_init_96 ?_
  refine gw_ge_f (tgt := 120) (pc := 97) dX7_init_97 (by decide) (by decide +kernel) ?_
  refine gw_aload_n (pc := 100) 1 dX7_init_100 rfl ?_
  refine gw_get (pc := 101) 0 0 rfl clsX7 rfl (by decide) rfl wf_RX7_11 dX7_init_101 ?_
  refine gw_bipush (pc := 104) dX7_init_104 (by decide +kernel) ?_
  refine gw_iconst (pc := 106) dX7_init_106 ?_
  refine gw_iload_n (pc := 107) 0 dX7_init_107 rfl ?_
  refine gw_imul (pc := 108) dX7_init_108 ?_
  refine gw_iadd (pc := 109) dX7_init_109 ?_
  refine gw_iconst (pc := 110) dX7_init_110 ?_
  refine gw_iadd (pc := 111) dX7_init_111 ?_
  refine gw_iconst (pc := 112) dX7_init_112 ?_
  refine gw_iast (m := 84) (l2 := [(a, cO 7 [.ref q1, .ref q2, .ref q3, gi 0, .ref q4, gi 0, gi 0, .ref q5, .ref q6, .ref q7, .ref q8])] ++ [(q1, cI (gw_cA U) 84 (rup (rup zr 37 1) 39 1))] ++ [(q2, cI (gw_cA U) 84 zr)] ++ [(q3, cI (gw_cA U) 84 zr)] ++ [(q4, cI (gw_cA U) 100 zr)] ++ [(q5, cI (gw_cA U) 32 zr)] ++ [(q6, cI (gw_cA U) 6 (rup (rup (rup (rup (rup (rup zr 0 (-1)) 1 (-1)) 2 (-1)) 3 (-1)) 4 (-1)) 5 (-1)))] ++ [(q7, cI (gw_cA U) 6 zr)] ++ [(q8, cL (gw_cA U) 360 zr)]) (pc := 113) 1 rfl ⟨by decide +kernel, by decide +kernel⟩ rfl dX7_init_113 ?_
  refine gw_iinc (L' := [(1, gi ((0 + 1) + 1)), (0, .ref a)]) (pc := 114) 0 dX7_init_114 rfl (Nat.le_of_ble_eq_true rfl) rfl ?_
  refine gw_goto (tgt := 95) (pc := 117) dX7_init_117 (by decide) ?_
  refine gw_iload_n (pc := 95) 0 dX7_init_95 rfl ?_
  refine gw_iconst (pc := 96) dX7_init_96 ?_
  refine gw_ge_f (tgt := 120) (pc := 97) dX7_init_97 (by decide) (by decide +kernel) ?_
  refine gw_aload_n (pc := 100) 1 dX7_init_100 rfl ?_
  refine gw_get (pc := 101) 0 0 rfl clsX7 rfl (by decide) rfl wf_RX7_11 dX7_init_101 ?_
  refine gw_bipush (pc := 104) dX7_init_104 (by decide +kernel) ?_
  refine gw_iconst (pc := 106) dX7_init_106 ?_
  refine gw_iload_n (pc := 107) 0 dX7_init_107 rfl ?_
  refine gw_imul (pc := 108) dX7_init_108 ?_
  refine gw_iadd (pc := 109) dX7_init_109 ?_
  refine gw_iconst (pc := 110) dX7_init_110 ?_
  refine gw_iadd (pc := 111) dX7_init_111 ?_
  refine gw_iconst (pc := 112) dX7_init_112 ?_
  refine gw_iast (m := 84) (l2 := [(a, cO 7 [.ref q1, .ref q2, .ref q3, gi 0, .ref q4, gi 0, gi 0, .ref q5, .ref q6, .ref q7, .ref q8])] ++ [(q1, cI (gw_cA U) 84 (rup (rup (rup zr 37 1) 39 1) 41 1))] ++ [(q2, cI (gw_cA U) 84 zr)] ++ [(q3, cI (gw_cA U) 84 zr)] ++ [(q4, cI (gw_cA U) 100 zr)] ++ [(q5, cI (gw_cA U) 32 zr)] ++ [(q6, cI (gw_cA U) 6 (rup (rup (rup (rup (rup (rup zr 0 (-1)) 1 (-1)) 2 (-1)) 3 (-1)) 4 (-1)) 5 (-1)))] ++ [(q7, cI (gw_cA U) 6 zr)] ++ [(q8, cL (gw_cA U) 360 zr)]) (pc := 113) 1 rfl ⟨by decide +kernel, by decide +kernel⟩ rfl dX7_init_113 ?_
  refine gw_iinc (L' := [(1, gi (((0 + 1) + 1) + 1)), (0, .ref a)]) (pc := 114) 0 dX7_init_114 rfl (Nat.le_of_ble_eq_true rfl) rfl ?_
  refine gw_goto (tgt := 95) (pc := 117) dX7_init_117 (by decide) ?_
  refine gw_iload_n (pc := 95) 0 dX7_init_95 rfl ?_
  refine gw_iconst (pc := 96) dX7_init_96 ?_
  refine gw_ge_t (tgt := 120) (pc := 97) dX7_init_97 (by decide) (by decide +kernel) ?_
  exact gw_ret (pc := 120) dX7_init_120 rfl rfl ⟨q1, q2, q3, q4, q5, q6, q7, q8, rfl⟩
