def gs_fuel : Nat := 1000000
theorem gs_fuel_big : 100000 ≤ gs_fuel := by decide +kernel
theorem gn_ti (z : Int32) : gn z.toInt = z.toInt := by unfold gn; rw [oi_toInt]
def gs_chk {α : Type} (i : Int) (n : Nat) (o : Option α) : Option α := if 0 ≤ i ∧ i < (n : Int) then o else none
def gs_chk0 {α : Type} (i : Int) (o : Option α) : Option α := if i = 0 then none else o
def gs_chkz {α : Type} (i : Int) (o : Option α) : Option α := if i = 0 ∨ i = 1 then o else none
def gs_chkc {α : Type} (sp dp n : Int) (n1 n2 : Nat) (o : Option α) : Option α := if 0 ≤ sp ∧ 0 ≤ dp ∧ 0 ≤ n ∧ sp + n ≤ (n1 : Int) ∧ dp + n ≤ (n2 : Int) then o else none
theorem gs_chk_t {α : Type} {i : Int} {n : Nat} {o : Option α} (h1 : 0 ≤ i) (h2 : i < (n : Int)) : gs_chk i n o = o := if_pos ⟨h1, h2⟩
theorem gs_chk0_t {α : Type} {i : Int} {o : Option α} (h : i ≠ 0) : gs_chk0 i o = o := if_neg h
theorem gs_chkz_t {α : Type} {i : Int} {o : Option α} (h : i = 0 ∨ i = 1) : gs_chkz i o = o := if_pos h
theorem gs_chkc_t {α : Type} {sp dp n : Int} {n1 n2 : Nat} {o : Option α} (h : 0 ≤ sp ∧ 0 ≤ dp ∧ 0 ≤ n ∧ sp + n ≤ (n1 : Int) ∧ dp + n ≤ (n2 : Int)) : gs_chkc sp dp n n1 n2 o = o := if_pos h
theorem cll_0 : 0 < 79 := by decide
theorem sh_0 : SH 0 = sp_o 6 fs_gs := rfl
theorem cll_1 : 1 < 79 := by decide
theorem sh_1 : SH 1 = sp_o 2 (fs_st 1) := rfl
theorem cll_2 : 2 < 79 := by decide
theorem sh_2 : SH 2 = sp_o 0 (fs_pl 2) := rfl
theorem cll_3 : 3 < 79 := by decide
theorem sh_3 : SH 3 = sp_i 8 := rfl
theorem cll_4 : 4 < 79 := by decide
theorem sh_4 : SH 4 = sp_i 8 := rfl
theorem cll_5 : 5 < 79 := by decide
theorem sh_5 : SH 5 = sp_i 8 := rfl
theorem cll_6 : 6 < 79 := by decide
theorem sh_6 : SH 6 = sp_i 3 := rfl
theorem cll_7 : 7 < 79 := by decide
theorem sh_7 : SH 7 = sp_i 3 := rfl
theorem cll_8 : 8 < 79 := by decide
theorem sh_8 : SH 8 = sp_i 64 := rfl
theorem cll_9 : 9 < 79 := by decide
theorem sh_9 : SH 9 = sp_i 8 := rfl
theorem cll_10 : 10 < 79 := by decide
theorem sh_10 : SH 10 = sp_i 8 := rfl
theorem cll_11 : 11 < 79 := by decide
theorem sh_11 : SH 11 = sp_o 1 (fs_rw 11) := rfl
theorem cll_12 : 12 < 79 := by decide
theorem sh_12 : SH 12 = sp_i 8 := rfl
theorem cll_13 : 13 < 79 := by decide
theorem sh_13 : SH 13 = sp_i 8 := rfl
theorem cll_14 : 14 < 79 := by decide
theorem sh_14 : SH 14 = sp_o 1 (fs_rw 14) := rfl
theorem cll_15 : 15 < 79 := by decide
theorem sh_15 : SH 15 = sp_i 8 := rfl
theorem cll_16 : 16 < 79 := by decide
theorem sh_16 : SH 16 = sp_i 8 := rfl
theorem cll_17 : 17 < 79 := by decide
theorem sh_17 : SH 17 = sp_o 1 (fs_rw 17) := rfl
theorem cll_18 : 18 < 79 := by decide
theorem sh_18 : SH 18 = sp_i 8 := rfl
theorem cll_19 : 19 < 79 := by decide
theorem sh_19 : SH 19 = sp_i 8 := rfl
theorem cll_20 : 20 < 79 := by decide
theorem sh_20 : SH 20 = sp_o 2 (fs_st 20) := rfl
theorem cll_21 : 21 < 79 := by decide
theorem sh_21 : SH 21 = sp_o 0 (fs_pl 21) := rfl
theorem cll_22 : 22 < 79 := by decide
theorem sh_22 : SH 22 = sp_i 8 := rfl
theorem cll_23 : 23 < 79 := by decide
theorem sh_23 : SH 23 = sp_i 8 := rfl
theorem cll_24 : 24 < 79 := by decide
theorem sh_24 : SH 24 = sp_i 8 := rfl
theorem cll_25 : 25 < 79 := by decide
theorem sh_25 : SH 25 = sp_i 3 := rfl
theorem cll_26 : 26 < 79 := by decide
theorem sh_26 : SH 26 = sp_i 3 := rfl
theorem cll_27 : 27 < 79 := by decide
theorem sh_27 : SH 27 = sp_i 64 := rfl
theorem cll_28 : 28 < 79 := by decide
theorem sh_28 : SH 28 = sp_i 8 := rfl
theorem cll_29 : 29 < 79 := by decide
theorem sh_29 : SH 29 = sp_i 8 := rfl
theorem cll_30 : 30 < 79 := by decide
theorem sh_30 : SH 30 = sp_o 1 (fs_rw 30) := rfl
theorem cll_31 : 31 < 79 := by decide
theorem sh_31 : SH 31 = sp_i 8 := rfl
theorem cll_32 : 32 < 79 := by decide
theorem sh_32 : SH 32 = sp_i 8 := rfl
theorem cll_33 : 33 < 79 := by decide
theorem sh_33 : SH 33 = sp_o 1 (fs_rw 33) := rfl
theorem cll_34 : 34 < 79 := by decide
theorem sh_34 : SH 34 = sp_i 8 := rfl
theorem cll_35 : 35 < 79 := by decide
theorem sh_35 : SH 35 = sp_i 8 := rfl
theorem cll_36 : 36 < 79 := by decide
theorem sh_36 : SH 36 = sp_o 1 (fs_rw 36) := rfl
theorem cll_37 : 37 < 79 := by decide
theorem sh_37 : SH 37 = sp_i 8 := rfl
theorem cll_38 : 38 < 79 := by decide
theorem sh_38 : SH 38 = sp_i 8 := rfl
theorem cll_39 : 39 < 79 := by decide
theorem sh_39 : SH 39 = sp_o 0 (fs_pl 39) := rfl
theorem cll_40 : 40 < 79 := by decide
theorem sh_40 : SH 40 = sp_i 8 := rfl
theorem cll_41 : 41 < 79 := by decide
theorem sh_41 : SH 41 = sp_i 8 := rfl
theorem cll_42 : 42 < 79 := by decide
theorem sh_42 : SH 42 = sp_i 8 := rfl
theorem cll_43 : 43 < 79 := by decide
theorem sh_43 : SH 43 = sp_i 3 := rfl
theorem cll_44 : 44 < 79 := by decide
theorem sh_44 : SH 44 = sp_i 3 := rfl
theorem cll_45 : 45 < 79 := by decide
theorem sh_45 : SH 45 = sp_i 64 := rfl
theorem cll_46 : 46 < 79 := by decide
theorem sh_46 : SH 46 = sp_i 8 := rfl
theorem cll_47 : 47 < 79 := by decide
theorem sh_47 : SH 47 = sp_i 8 := rfl
theorem cll_48 : 48 < 79 := by decide
theorem sh_48 : SH 48 = sp_o 5 fs_wd := rfl
theorem cll_49 : 49 < 79 := by decide
theorem sh_49 : SH 49 = sp_i 8 := rfl
theorem cll_50 : 50 < 79 := by decide
theorem sh_50 : SH 50 = sp_i 72 := rfl
theorem cll_51 : 51 < 79 := by decide
theorem sh_51 : SH 51 = sp_o 4 fs_tx := rfl
theorem cll_52 : 52 < 79 := by decide
theorem sh_52 : SH 52 = .inl (.byte, 100) := rfl
theorem cll_53 : 53 < 79 := by decide
theorem sh_53 : SH 53 = sp_i 8 := rfl
theorem cll_54 : 54 < 79 := by decide
theorem sh_54 : SH 54 = sp_i 8 := rfl
theorem cll_55 : 55 < 79 := by decide
theorem sh_55 : SH 55 = sp_i 8 := rfl
theorem cll_56 : 56 < 79 := by decide
theorem sh_56 : SH 56 = .inl (.boolean, 8) := rfl
theorem cll_57 : 57 < 79 := by decide
theorem sh_57 : SH 57 = .inr (.inr (6, fun k => 58 + 2 * k)) := rfl
theorem cll_58 : 58 < 79 := by decide
theorem sh_58 : SH 58 = sp_o 3 (fs_tp 58) := rfl
theorem cll_59 : 59 < 79 := by decide
theorem sh_59 : SH 59 = sp_l 60 := rfl
theorem cll_60 : 60 < 79 := by decide
theorem sh_60 : SH 60 = sp_o 3 (fs_tp 60) := rfl
theorem cll_61 : 61 < 79 := by decide
theorem sh_61 : SH 61 = sp_l 60 := rfl
theorem cll_62 : 62 < 79 := by decide
theorem sh_62 : SH 62 = sp_o 3 (fs_tp 62) := rfl
theorem cll_63 : 63 < 79 := by decide
theorem sh_63 : SH 63 = sp_l 60 := rfl
theorem cll_64 : 64 < 79 := by decide
theorem sh_64 : SH 64 = sp_o 3 (fs_tp 64) := rfl
theorem cll_65 : 65 < 79 := by decide
theorem sh_65 : SH 65 = sp_l 60 := rfl
theorem cll_66 : 66 < 79 := by decide
theorem sh_66 : SH 66 = sp_o 3 (fs_tp 66) := rfl
theorem cll_67 : 67 < 79 := by decide
theorem sh_67 : SH 67 = sp_l 60 := rfl
theorem cll_68 : 68 < 79 := by decide
theorem sh_68 : SH 68 = sp_o 3 (fs_tp 68) := rfl
theorem cll_69 : 69 < 79 := by decide
theorem sh_69 : SH 69 = sp_l 60 := rfl
theorem cll_70 : 70 < 79 := by decide
theorem sh_70 : SH 70 = sp_o 7 fs_md := rfl
theorem cll_71 : 71 < 79 := by decide
theorem sh_71 : SH 71 = sp_i 84 := rfl
theorem cll_72 : 72 < 79 := by decide
theorem sh_72 : SH 72 = sp_i 84 := rfl
theorem cll_73 : 73 < 79 := by decide
theorem sh_73 : SH 73 = sp_i 84 := rfl
theorem cll_74 : 74 < 79 := by decide
theorem sh_74 : SH 74 = sp_i 100 := rfl
theorem cll_75 : 75 < 79 := by decide
theorem sh_75 : SH 75 = sp_i 32 := rfl
theorem cll_76 : 76 < 79 := by decide
theorem sh_76 : SH 76 = sp_i 6 := rfl
theorem cll_77 : 77 < 79 := by decide
theorem sh_77 : SH 77 = sp_i 6 := rfl
theorem cll_78 : 78 < 79 := by decide
theorem sh_78 : SH 78 = sp_l 360 := rfl
def isPl (r : Nat) : Prop := r = 2 ∨ r = 21 ∨ r = 39
theorem isPl_2 : isPl 2 := by unfold isPl; decide
theorem isPl_21 : isPl 21 := by unfold isPl; decide
theorem isPl_39 : isPl 39 := by unfold isPl; decide
theorem pl_lt0 {r : Nat} (h : isPl r) : r < 79 := by unfold isPl at h; omega
theorem pl_sh {r : Nat} (h : isPl r) : SH r = sp_o 0 (fs_pl r) := by
  unfold isPl at h
  rcases h with rfl|rfl|rfl <;> rfl
theorem pl_lt1 {r : Nat} (h : isPl r) : r + 1 < 79 := by unfold isPl at h; omega
theorem pl_s1 {r : Nat} (h : isPl r) : SH (r + 1) = sp_i 8 := by
  unfold isPl at h
  rcases h with rfl|rfl|rfl <;> rfl
theorem pl_lt2 {r : Nat} (h : isPl r) : r + 2 < 79 := by unfold isPl at h; omega
theorem pl_s2 {r : Nat} (h : isPl r) : SH (r + 2) = sp_i 8 := by
  unfold isPl at h
  rcases h with rfl|rfl|rfl <;> rfl
theorem pl_lt3 {r : Nat} (h : isPl r) : r + 3 < 79 := by unfold isPl at h; omega
theorem pl_s3 {r : Nat} (h : isPl r) : SH (r + 3) = sp_i 8 := by
  unfold isPl at h
  rcases h with rfl|rfl|rfl <;> rfl
theorem pl_lt4 {r : Nat} (h : isPl r) : r + 4 < 79 := by unfold isPl at h; omega
theorem pl_s4 {r : Nat} (h : isPl r) : SH (r + 4) = sp_i 3 := by
  unfold isPl at h
  rcases h with rfl|rfl|rfl <;> rfl
theorem pl_lt5 {r : Nat} (h : isPl r) : r + 5 < 79 := by unfold isPl at h; omega
theorem pl_s5 {r : Nat} (h : isPl r) : SH (r + 5) = sp_i 3 := by
  unfold isPl at h
  rcases h with rfl|rfl|rfl <;> rfl
theorem pl_lt6 {r : Nat} (h : isPl r) : r + 6 < 79 := by unfold isPl at h; omega
theorem pl_s6 {r : Nat} (h : isPl r) : SH (r + 6) = sp_i 64 := by
  unfold isPl at h
  rcases h with rfl|rfl|rfl <;> rfl
theorem pl_lt7 {r : Nat} (h : isPl r) : r + 7 < 79 := by unfold isPl at h; omega
theorem pl_s7 {r : Nat} (h : isPl r) : SH (r + 7) = sp_i 8 := by
  unfold isPl at h
  rcases h with rfl|rfl|rfl <;> rfl
theorem pl_lt8 {r : Nat} (h : isPl r) : r + 8 < 79 := by unfold isPl at h; omega
theorem pl_s8 {r : Nat} (h : isPl r) : SH (r + 8) = sp_i 8 := by
  unfold isPl at h
  rcases h with rfl|rfl|rfl <;> rfl
def isRw (r : Nat) : Prop := r = 11 ∨ r = 14 ∨ r = 17 ∨ r = 30 ∨ r = 33 ∨ r = 36
theorem isRw_11 : isRw 11 := by unfold isRw; decide
theorem isRw_14 : isRw 14 := by unfold isRw; decide
theorem isRw_17 : isRw 17 := by unfold isRw; decide
theorem isRw_30 : isRw 30 := by unfold isRw; decide
theorem isRw_33 : isRw 33 := by unfold isRw; decide
theorem isRw_36 : isRw 36 := by unfold isRw; decide
theorem rw_lt0 {r : Nat} (h : isRw r) : r < 79 := by unfold isRw at h; omega
theorem rw_sh {r : Nat} (h : isRw r) : SH r = sp_o 1 (fs_rw r) := by
  unfold isRw at h
  rcases h with rfl|rfl|rfl|rfl|rfl|rfl <;> rfl
theorem rw_lt1 {r : Nat} (h : isRw r) : r + 1 < 79 := by unfold isRw at h; omega
theorem rw_s1 {r : Nat} (h : isRw r) : SH (r + 1) = sp_i 8 := by
  unfold isRw at h
  rcases h with rfl|rfl|rfl|rfl|rfl|rfl <;> rfl
theorem rw_lt2 {r : Nat} (h : isRw r) : r + 2 < 79 := by unfold isRw at h; omega
theorem rw_s2 {r : Nat} (h : isRw r) : SH (r + 2) = sp_i 8 := by
  unfold isRw at h
  rcases h with rfl|rfl|rfl|rfl|rfl|rfl <;> rfl
def isSt (r : Nat) : Prop := r = 1 ∨ r = 20
theorem isSt_1 : isSt 1 := by unfold isSt; decide
theorem isSt_20 : isSt 20 := by unfold isSt; decide
theorem st_lt0 {r : Nat} (h : isSt r) : r < 79 := by unfold isSt at h; omega
theorem st_sh {r : Nat} (h : isSt r) : SH r = sp_o 2 (fs_st r) := by
  unfold isSt at h
  rcases h with rfl|rfl <;> rfl
def isTp (r : Nat) : Prop := r = 58 ∨ r = 60 ∨ r = 62 ∨ r = 64 ∨ r = 66 ∨ r = 68
theorem isTp_58 : isTp 58 := by unfold isTp; decide
theorem isTp_60 : isTp 60 := by unfold isTp; decide
theorem isTp_62 : isTp 62 := by unfold isTp; decide
theorem isTp_64 : isTp 64 := by unfold isTp; decide
theorem isTp_66 : isTp 66 := by unfold isTp; decide
theorem isTp_68 : isTp 68 := by unfold isTp; decide
theorem tp_lt0 {r : Nat} (h : isTp r) : r < 79 := by unfold isTp at h; omega
theorem tp_sh {r : Nat} (h : isTp r) : SH r = sp_o 3 (fs_tp r) := by
  unfold isTp at h
  rcases h with rfl|rfl|rfl|rfl|rfl|rfl <;> rfl
theorem tp_lt1 {r : Nat} (h : isTp r) : r + 1 < 79 := by unfold isTp at h; omega
theorem tp_s1 {r : Nat} (h : isTp r) : SH (r + 1) = sp_l 60 := by
  unfold isTp at h
  rcases h with rfl|rfl|rfl|rfl|rfl|rfl <;> rfl
def isMa (r : Nat) : Prop := r = 71 ∨ r = 72 ∨ r = 73
theorem isMa_71 : isMa 71 := by unfold isMa; decide
theorem isMa_72 : isMa 72 := by unfold isMa; decide
theorem isMa_73 : isMa 73 := by unfold isMa; decide
theorem ma_lt0 {r : Nat} (h : isMa r) : r < 79 := by unfold isMa at h; omega
theorem ma_sh {r : Nat} (h : isMa r) : SH r = sp_i 84 := by
  unfold isMa at h
  rcases h with rfl|rfl|rfl <;> rfl
theorem st_pl1 {r : Nat} (h : isSt r) : isPl (r + 1) := by unfold isSt at h; unfold isPl; omega
theorem st_rw10 {r : Nat} (h : isSt r) : isRw (r + 10) := by unfold isSt at h; unfold isRw; omega
theorem st_rw13 {r : Nat} (h : isSt r) : isRw (r + 13) := by unfold isSt at h; unfold isRw; omega
theorem st_rw16 {r : Nat} (h : isSt r) : isRw (r + 16) := by unfold isSt at h; unfold isRw; omega
theorem tp_of {i : Int} (h : 0 ≤ i ∧ i < ((6 : Nat) : Int)) : isTp (58 + 2 * i.toNat) := by unfold isTp; omega
theorem gs_fit_of {E : gs_E} {y : MethodName} {b : ByteArray} {n : Nat} {ret : Option FieldType} {κ f l f2 l2 maxL : Nat} (h1 : f + 1 ≤ f2) (h2 : 8 + (maxL + 11) + l ≤ l2) : gs_fit (gs_MC E y b n ret κ { frames := f2, cells := 0, slots := 0, locals := l2 }) { frames := f, cells := 0, slots := 0, locals := l } maxL := ⟨rfl, rfl, h1, h2, Nat.le_refl 0, Nat.le_refl 0⟩
section GKmore
variable {α β : Type} {E : gs_E} {M : gs_M} {out : α → Int × gs_Mem} {o o1 o2 o' : Option α} {pc tgt : Nat} {L L' : List (Nat × Value)} {S S' S0 rest : List Value} {σ : gs_Mem}
theorem gk_getI {own C : String} {T : u_T} {N ci index r : Nat} {ty : Nat → FieldType} {fs : List (Option Nat)} (ho : mM_own M = own) (hcl : gs_cls ci C T N ty) (hr : r < 79) (hsh : SH r = sp_o ci fs) (k : Nat) (hk : k < N) (hf : fs[k]? = some (none)) (hlink : Cond.fieldLink own index (T k).1 (T k).2.1 (T k).2.2.1 ∈ WS) (d : decode (mM_cc M) pc = .ok (.getfield index, 3))
    (kk : gs_K E M out o (pc + 3) L (gi (σ r k) :: S) σ) : gs_K E M out o pc L (gr E r :: S) σ := gk_getF ho hcl hr hsh k hk hf hlink d kk
theorem gk_getR {own C : String} {T : u_T} {N ci index r : Nat} {ty : Nat → FieldType} {fs : List (Option Nat)} {q : Nat} (ho : mM_own M = own) (hcl : gs_cls ci C T N ty) (hr : r < 79) (hsh : SH r = sp_o ci fs) (k : Nat) (hk : k < N) (hf : fs[k]? = some (some q)) (hlink : Cond.fieldLink own index (T k).1 (T k).2.1 (T k).2.2.1 ∈ WS) (d : decode (mM_cc M) pc = .ok (.getfield index, 3))
    (kk : gs_K E M out o (pc + 3) L (gr E q :: S) σ) : gs_K E M out o pc L (gr E r :: S) σ := gk_getF ho hcl hr hsh k hk hf hlink d kk
theorem gk_getIN {own C : String} {T : u_T} {N ci index r : Nat} {ty : Nat → FieldType} {fs : List (Option Nat)} {host : String} (ho : mM_own M = own) (hcl : gs_cls ci C T N ty) (hr : r < 79) (hsh : SH r = sp_o ci fs) (k : Nat) (hk : k < N) (hf : fs[k]? = some (none)) (hlink : Cond.fieldLinkNest own index (T k).1 (T k).2.1 (T k).2.2.1 host ∈ WN) (d : decode (mM_cc M) pc = .ok (.getfield index, 3))
    (kk : gs_K E M out o (pc + 3) L (gi (σ r k) :: S) σ) : gs_K E M out o pc L (gr E r :: S) σ := gk_getFN ho hcl hr hsh k hk hf hlink d kk
theorem gk_getRN {own C : String} {T : u_T} {N ci index r : Nat} {ty : Nat → FieldType} {fs : List (Option Nat)} {host : String} {q : Nat} (ho : mM_own M = own) (hcl : gs_cls ci C T N ty) (hr : r < 79) (hsh : SH r = sp_o ci fs) (k : Nat) (hk : k < N) (hf : fs[k]? = some (some q)) (hlink : Cond.fieldLinkNest own index (T k).1 (T k).2.1 (T k).2.2.1 host ∈ WN) (d : decode (mM_cc M) pc = .ok (.getfield index, 3))
    (kk : gs_K E M out o (pc + 3) L (gr E q :: S) σ) : gs_K E M out o pc L (gr E r :: S) σ := gk_getFN ho hcl hr hsh k hk hf hlink d kk
theorem gk_iald_c {r n : Nat} {i i' : Int} (hr : r < 79) (hsh : SH r = sp_i n) (hi : gn i = i') (d : decode (mM_cc M) pc = .ok (.iaload, 1))
    (kk : gs_K E M out o (pc + 1) L (gi (σ r i'.toNat) :: S) σ) : gs_K E M out (gs_chk i' n o) pc L (gi i :: gr E r :: S) σ := gk_iald hr hsh hi d kk
theorem gk_iast_c {r n : Nat} {i i' x : Int} (hr : r < 79) (hsh : SH r = sp_i n) (hi : gn i = i') (d : decode (mM_cc M) pc = .ok (.iastore, 1))
    (kk : gs_K E M out o (pc + 1) L S (gs_st σ r i'.toNat x)) : gs_K E M out (gs_chk i' n o) pc L (gi x :: gi i :: gr E r :: S) σ := gk_iast hr hsh hi d kk
theorem gk_bald_c {r n : Nat} {i i' : Int} (hr : r < 79) (hsh : SH r = .inl (.byte, n)) (hi : gn i = i') (d : decode (mM_cc M) pc = .ok (.baload, 1))
    (kk : gs_K E M out o (pc + 1) L (gi (σ r i'.toNat) :: S) σ) : gs_K E M out (gs_chk i' n o) pc L (gi i :: gr E r :: S) σ := gk_bald hr hsh hi d kk
theorem gk_bast_c {r n : Nat} {i i' x : Int} (hr : r < 79) (hsh : SH r = .inl (.byte, n)) (hi : gn i = i') (d : decode (mM_cc M) pc = .ok (.bastore, 1))
    (kk : gs_K E M out o (pc + 1) L S (gs_st σ r i'.toNat (gb x))) : gs_K E M out (gs_chk i' n o) pc L (gi x :: gi i :: gr E r :: S) σ := gk_bast hr hsh hi d kk
theorem gk_zald_c {r n : Nat} {i i' : Int} (hr : r < 79) (hsh : SH r = .inl (.boolean, n)) (hi : gn i = i') (d : decode (mM_cc M) pc = .ok (.baload, 1))
    (kk : gs_K E M out o (pc + 1) L (gi (σ r i'.toNat) :: S) σ) : gs_K E M out (gs_chk i' n o) pc L (gi i :: gr E r :: S) σ := gk_zald hr hsh hi d kk
theorem gk_zast_c {r n : Nat} {i i' x : Int} (hr : r < 79) (hsh : SH r = .inl (.boolean, n)) (hi : gn i = i') (hx : vp_nar .boolean (Int32.ofInt x) = Int32.ofInt x) (d : decode (mM_cc M) pc = .ok (.bastore, 1))
    (kk : gs_K E M out o (pc + 1) L S (gs_st σ r i'.toNat x)) : gs_K E M out (gs_chk i' n o) pc L (gi x :: gi i :: gr E r :: S) σ := gk_zast hr hsh hi hx d kk
theorem gk_lald_c {r n : Nat} {i i' : Int} (hr : r < 79) (hsh : SH r = sp_l n) (hi : gn i = i') (d : decode (mM_cc M) pc = .ok (.laload, 1))
    (kk : gs_K E M out o (pc + 1) L (gl (σ r i'.toNat) :: S) σ) : gs_K E M out (gs_chk i' n o) pc L (gi i :: gr E r :: S) σ := gk_lald hr hsh hi d kk
theorem gk_last_c {r n : Nat} {i i' x : Int} (hr : r < 79) (hsh : SH r = sp_l n) (hi : gn i = i') (d : decode (mM_cc M) pc = .ok (.lastore, 1))
    (kk : gs_K E M out o (pc + 1) L S (gs_st σ r i'.toNat x)) : gs_K E M out (gs_chk i' n o) pc L (gl x :: gi i :: gr E r :: S) σ := gk_last hr hsh hi d kk
theorem gk_aald_c {r n : Nat} {q : Nat → Nat} {i i' : Int} (hr : r < 79) (hsh : SH r = .inr (.inr (n, q))) (hi : gn i = i') (d : decode (mM_cc M) pc = .ok (.aaload, 1))
    (kk : 0 ≤ i' ∧ i' < (n : Int) → gs_K E M out o (pc + 1) L (gr E (q i'.toNat) :: S) σ) : gs_K E M out (gs_chk i' n o) pc L (gi i :: gr E r :: S) σ := gk_aald hr hsh hi d kk
theorem gk_copy_i_c {own : String} {index r1 r2 n1 n2 : Nat} {sp sp' dp dp' n n' : Int} (ho : mM_own M = own) (hw : gs_acW own index) (hr1 : r1 < 79) (hs1 : SH r1 = sp_i n1) (hr2 : r2 < 79) (hs2 : SH r2 = sp_i n2) (hsp : gn sp = sp') (hdp : gn dp = dp') (hn : gn n = n') (hfr : 1 ≤ (mM_R M).frames) (hlo : (S.map fun v => v.category).sum + (nativeFrameWords "java/lang/System" "arraycopy" 5 + 11) ≤ (mM_R M).locals) (d : decode (mM_cc M) pc = .ok (.invokestatic index, 3))
    (kk : gs_K E M out o (pc + 3) L S (gs_cp σ r1 sp'.toNat r2 dp'.toNat n'.toNat)) : gs_K E M out (gs_chkc sp' dp' n' n1 n2 o) pc L (gi n :: gi dp :: gr E r2 :: gi sp :: gr E r1 :: S) σ := gk_copy_i ho hw hr1 hs1 hr2 hs2 hsp hdp hn hfr hlo d kk
theorem gk_copy_l_c {own : String} {index r1 r2 n1 n2 : Nat} {sp sp' dp dp' n n' : Int} (ho : mM_own M = own) (hw : gs_acW own index) (hr1 : r1 < 79) (hs1 : SH r1 = sp_l n1) (hr2 : r2 < 79) (hs2 : SH r2 = sp_l n2) (hsp : gn sp = sp') (hdp : gn dp = dp') (hn : gn n = n') (hfr : 1 ≤ (mM_R M).frames) (hlo : (S.map fun v => v.category).sum + (nativeFrameWords "java/lang/System" "arraycopy" 5 + 11) ≤ (mM_R M).locals) (d : decode (mM_cc M) pc = .ok (.invokestatic index, 3))
    (kk : gs_K E M out o (pc + 3) L S (gs_cp σ r1 sp'.toNat r2 dp'.toNat n'.toNat)) : gs_K E M out (gs_chkc sp' dp' n' n1 n2 o) pc L (gi n :: gi dp :: gr E r2 :: gi sp :: gr E r1 :: S) σ := gk_copy_l ho hw hr1 hs1 hr2 hs2 hsp hdp hn hfr hlo d kk
theorem gk_zretG_c {y : MethodName} {bytes : ByteArray} {maxL : Nat} {rm : Room} {a : α} {x x' : Int} (hx : gn x = x') (hout : out a = (x, σ)) (d : decode bytes pc = .ok (.ireturn, 1)) : gs_K E (gs_MC E y bytes maxL (some .boolean) 0 rm) out (gs_chkz x' (some a)) pc L [gi x] σ := gk_zretG hx hout d
theorem gk_idiv_g {x y y' : Int} (d : decode (mM_cc M) pc = .ok (.idiv, 1)) (hy : gn y = y') (k : gs_K E M out o (pc + 1) L (gi (gdiv x y) :: S) σ) : gs_K E M out (gs_chk0 y' o) pc L (gi y :: gi x :: S) σ := by
  subst hy
  unfold gs_chk0
  exact gk_ite (fun _ => gk_none) (fun h => gk_idiv d h k)
theorem gk_irem_g {x y y' : Int} (d : decode (mM_cc M) pc = .ok (.irem, 1)) (hy : gn y = y') (k : gs_K E M out o (pc + 1) L (gi (grem x y) :: S) σ) : gs_K E M out (gs_chk0 y' o) pc L (gi y :: gi x :: S) σ := by
  subst hy
  unfold gs_chk0
  exact gk_ite (fun _ => gk_none) (fun h => gk_irem d h k)
theorem gk_ldiv_g {x y y' : Int} (d : decode (mM_cc M) pc = .ok (.ldiv, 1)) (hy : gm y = y') (k : gs_K E M out o (pc + 1) L (gl (gldiv x y) :: S) σ) : gs_K E M out (gs_chk0 y' o) pc L (gl y :: gl x :: S) σ := by
  subst hy
  unfold gs_chk0
  exact gk_ite (fun _ => gk_none) (fun h => gk_ldiv d h k)
theorem gk_lrem_g {x y y' : Int} (d : decode (mM_cc M) pc = .ok (.lrem, 1)) (hy : gm y = y') (k : gs_K E M out o (pc + 1) L (gl (glrem x y) :: S) σ) : gs_K E M out (gs_chk0 y' o) pc L (gl y :: gl x :: S) σ := by
  subst hy
  unfold gs_chk0
  exact gk_ite (fun _ => gk_none) (fun h => gk_lrem d h k)
theorem gk_callV_ir {r ci n index maxL : Nat} {own : String} {y : MethodName} {bytes : ByteArray} {ret : Option FieldType} {rm : Room} {As : List Value} {C : String} {T : u_T} {N : Nat} {ty : Nat → FieldType} {fs : List (Option Nat)} {oc : Option Int} {X : Int → Option α}
    (hC : gs_C E y bytes maxL ret 0 rm (gr E r :: As) σ oc (fun v : Int => (v, σ))) (ho : mM_own M = own) (hm : gs_mV y bytes maxL ret n) (hlink : Cond.methodLink own index y ∈ WS) (hcl : gs_cls ci C T N ty) (hyC : y.cls = C) (hr : r < 79) (hsh : SH r = sp_o ci fs) (hfit : gs_fit M rm maxL)
    (hn : As.length = n) (hst : As.reverse ++ gr E r :: rest = S0) (hrest : (rest.map fun v => v.category).sum ≤ 8) (d : decode (mM_cc M) pc = .ok (.invokevirtual index, 3))
    (k : ∀ v : Int, gs_K E M out (X v) (pc + 3) L (gi v :: rest) (σ)) : gs_K E M out (oc.bind X) pc L S0 σ := gk_callV (κ := 0) hC ho hm hlink hcl hyC hr hsh hfit hn hst hrest d k
theorem gk_callS_ir {n index maxL : Nat} {own : String} {y : MethodName} {bytes : ByteArray} {ret : Option FieldType} {rm : Room} {As : List Value} {oc : Option Int} {X : Int → Option α}
    (hC : gs_C E y bytes maxL ret 0 rm As σ oc (fun v : Int => (v, σ))) (ho : mM_own M = own) (hm : gs_mS y bytes maxL ret n) (hlink : Cond.methodLink own index y ∈ WS) (hfit : gs_fit M rm maxL)
    (hn : As.length = n) (hst : As.reverse ++ rest = S0) (hrest : (rest.map fun v => v.category).sum ≤ 8) (d : decode (mM_cc M) pc = .ok (.invokestatic index, 3))
    (k : ∀ v : Int, gs_K E M out (X v) (pc + 3) L (gi v :: rest) (σ)) : gs_K E M out (oc.bind X) pc L S0 σ := gk_callS (κ := 0) hC ho hm hlink hfit hn hst hrest d k
theorem gk_callVN_ir {r ci n index maxL : Nat} {own : String} {y : MethodName} {bytes : ByteArray} {ret : Option FieldType} {rm : Room} {As : List Value} {C : String} {T : u_T} {N : Nat} {ty : Nat → FieldType} {fs : List (Option Nat)} {host : String} {oc : Option Int} {X : Int → Option α}
    (hC : gs_C E y bytes maxL ret 0 rm (gr E r :: As) σ oc (fun v : Int => (v, σ))) (ho : mM_own M = own) (hm : gs_mV y bytes maxL ret n) (hlink : Cond.methodLinkNest own index y host ∈ WN) (hcl : gs_cls ci C T N ty) (hyC : y.cls = C) (hr : r < 79) (hsh : SH r = sp_o ci fs) (hfit : gs_fit M rm maxL)
    (hn : As.length = n) (hst : As.reverse ++ gr E r :: rest = S0) (hrest : (rest.map fun v => v.category).sum ≤ 8) (d : decode (mM_cc M) pc = .ok (.invokevirtual index, 3))
    (k : ∀ v : Int, gs_K E M out (X v) (pc + 3) L (gi v :: rest) (σ)) : gs_K E M out (oc.bind X) pc L S0 σ := gk_callVN (κ := 0) hC ho hm hlink hcl hyC hr hsh hfit hn hst hrest d k
theorem gk_callSN_ir {n index maxL : Nat} {own : String} {y : MethodName} {bytes : ByteArray} {ret : Option FieldType} {rm : Room} {As : List Value} {host : String} {oc : Option Int} {X : Int → Option α}
    (hC : gs_C E y bytes maxL ret 0 rm As σ oc (fun v : Int => (v, σ))) (ho : mM_own M = own) (hm : gs_mS y bytes maxL ret n) (hlink : Cond.methodLinkNest own index y host ∈ WN) (hfit : gs_fit M rm maxL)
    (hn : As.length = n) (hst : As.reverse ++ rest = S0) (hrest : (rest.map fun v => v.category).sum ≤ 8) (d : decode (mM_cc M) pc = .ok (.invokestatic index, 3))
    (k : ∀ v : Int, gs_K E M out (X v) (pc + 3) L (gi v :: rest) (σ)) : gs_K E M out (oc.bind X) pc L S0 σ := gk_callSN (κ := 0) hC ho hm hlink hfit hn hst hrest d k
theorem gk_callV_lr {r ci n index maxL : Nat} {own : String} {y : MethodName} {bytes : ByteArray} {ret : Option FieldType} {rm : Room} {As : List Value} {C : String} {T : u_T} {N : Nat} {ty : Nat → FieldType} {fs : List (Option Nat)} {oc : Option Int} {X : Int → Option α}
    (hC : gs_C E y bytes maxL ret 1 rm (gr E r :: As) σ oc (fun v : Int => (v, σ))) (ho : mM_own M = own) (hm : gs_mV y bytes maxL ret n) (hlink : Cond.methodLink own index y ∈ WS) (hcl : gs_cls ci C T N ty) (hyC : y.cls = C) (hr : r < 79) (hsh : SH r = sp_o ci fs) (hfit : gs_fit M rm maxL)
    (hn : As.length = n) (hst : As.reverse ++ gr E r :: rest = S0) (hrest : (rest.map fun v => v.category).sum ≤ 8) (d : decode (mM_cc M) pc = .ok (.invokevirtual index, 3))
    (k : ∀ v : Int, gs_K E M out (X v) (pc + 3) L (gl v :: rest) (σ)) : gs_K E M out (oc.bind X) pc L S0 σ := gk_callV (κ := 1) hC ho hm hlink hcl hyC hr hsh hfit hn hst hrest d k
theorem gk_callS_lr {n index maxL : Nat} {own : String} {y : MethodName} {bytes : ByteArray} {ret : Option FieldType} {rm : Room} {As : List Value} {oc : Option Int} {X : Int → Option α}
    (hC : gs_C E y bytes maxL ret 1 rm As σ oc (fun v : Int => (v, σ))) (ho : mM_own M = own) (hm : gs_mS y bytes maxL ret n) (hlink : Cond.methodLink own index y ∈ WS) (hfit : gs_fit M rm maxL)
    (hn : As.length = n) (hst : As.reverse ++ rest = S0) (hrest : (rest.map fun v => v.category).sum ≤ 8) (d : decode (mM_cc M) pc = .ok (.invokestatic index, 3))
    (k : ∀ v : Int, gs_K E M out (X v) (pc + 3) L (gl v :: rest) (σ)) : gs_K E M out (oc.bind X) pc L S0 σ := gk_callS (κ := 1) hC ho hm hlink hfit hn hst hrest d k
theorem gk_callVN_lr {r ci n index maxL : Nat} {own : String} {y : MethodName} {bytes : ByteArray} {ret : Option FieldType} {rm : Room} {As : List Value} {C : String} {T : u_T} {N : Nat} {ty : Nat → FieldType} {fs : List (Option Nat)} {host : String} {oc : Option Int} {X : Int → Option α}
    (hC : gs_C E y bytes maxL ret 1 rm (gr E r :: As) σ oc (fun v : Int => (v, σ))) (ho : mM_own M = own) (hm : gs_mV y bytes maxL ret n) (hlink : Cond.methodLinkNest own index y host ∈ WN) (hcl : gs_cls ci C T N ty) (hyC : y.cls = C) (hr : r < 79) (hsh : SH r = sp_o ci fs) (hfit : gs_fit M rm maxL)
    (hn : As.length = n) (hst : As.reverse ++ gr E r :: rest = S0) (hrest : (rest.map fun v => v.category).sum ≤ 8) (d : decode (mM_cc M) pc = .ok (.invokevirtual index, 3))
    (k : ∀ v : Int, gs_K E M out (X v) (pc + 3) L (gl v :: rest) (σ)) : gs_K E M out (oc.bind X) pc L S0 σ := gk_callVN (κ := 1) hC ho hm hlink hcl hyC hr hsh hfit hn hst hrest d k
theorem gk_callSN_lr {n index maxL : Nat} {own : String} {y : MethodName} {bytes : ByteArray} {ret : Option FieldType} {rm : Room} {As : List Value} {host : String} {oc : Option Int} {X : Int → Option α}
    (hC : gs_C E y bytes maxL ret 1 rm As σ oc (fun v : Int => (v, σ))) (ho : mM_own M = own) (hm : gs_mS y bytes maxL ret n) (hlink : Cond.methodLinkNest own index y host ∈ WN) (hfit : gs_fit M rm maxL)
    (hn : As.length = n) (hst : As.reverse ++ rest = S0) (hrest : (rest.map fun v => v.category).sum ≤ 8) (d : decode (mM_cc M) pc = .ok (.invokestatic index, 3))
    (k : ∀ v : Int, gs_K E M out (X v) (pc + 3) L (gl v :: rest) (σ)) : gs_K E M out (oc.bind X) pc L S0 σ := gk_callSN (κ := 1) hC ho hm hlink hfit hn hst hrest d k
theorem gk_callV_iw {r ci n index maxL : Nat} {own : String} {y : MethodName} {bytes : ByteArray} {ret : Option FieldType} {rm : Room} {As : List Value} {C : String} {T : u_T} {N : Nat} {ty : Nat → FieldType} {fs : List (Option Nat)} {oc : Option (Int × gs_Mem)} {X : (Int × gs_Mem) → Option α}
    (hC : gs_C E y bytes maxL ret 0 rm (gr E r :: As) σ oc (fun b : Int × gs_Mem => b)) (ho : mM_own M = own) (hm : gs_mV y bytes maxL ret n) (hlink : Cond.methodLink own index y ∈ WS) (hcl : gs_cls ci C T N ty) (hyC : y.cls = C) (hr : r < 79) (hsh : SH r = sp_o ci fs) (hfit : gs_fit M rm maxL)
    (hn : As.length = n) (hst : As.reverse ++ gr E r :: rest = S0) (hrest : (rest.map fun v => v.category).sum ≤ 8) (d : decode (mM_cc M) pc = .ok (.invokevirtual index, 3))
    (k : ∀ b : (Int × gs_Mem), gs_K E M out (X b) (pc + 3) L (gi b.1 :: rest) (b.2)) : gs_K E M out (oc.bind X) pc L S0 σ := gk_callV (κ := 0) hC ho hm hlink hcl hyC hr hsh hfit hn hst hrest d k
theorem gk_callS_iw {n index maxL : Nat} {own : String} {y : MethodName} {bytes : ByteArray} {ret : Option FieldType} {rm : Room} {As : List Value} {oc : Option (Int × gs_Mem)} {X : (Int × gs_Mem) → Option α}
    (hC : gs_C E y bytes maxL ret 0 rm As σ oc (fun b : Int × gs_Mem => b)) (ho : mM_own M = own) (hm : gs_mS y bytes maxL ret n) (hlink : Cond.methodLink own index y ∈ WS) (hfit : gs_fit M rm maxL)
    (hn : As.length = n) (hst : As.reverse ++ rest = S0) (hrest : (rest.map fun v => v.category).sum ≤ 8) (d : decode (mM_cc M) pc = .ok (.invokestatic index, 3))
    (k : ∀ b : (Int × gs_Mem), gs_K E M out (X b) (pc + 3) L (gi b.1 :: rest) (b.2)) : gs_K E M out (oc.bind X) pc L S0 σ := gk_callS (κ := 0) hC ho hm hlink hfit hn hst hrest d k
theorem gk_callVN_iw {r ci n index maxL : Nat} {own : String} {y : MethodName} {bytes : ByteArray} {ret : Option FieldType} {rm : Room} {As : List Value} {C : String} {T : u_T} {N : Nat} {ty : Nat → FieldType} {fs : List (Option Nat)} {host : String} {oc : Option (Int × gs_Mem)} {X : (Int × gs_Mem) → Option α}
    (hC : gs_C E y bytes maxL ret 0 rm (gr E r :: As) σ oc (fun b : Int × gs_Mem => b)) (ho : mM_own M = own) (hm : gs_mV y bytes maxL ret n) (hlink : Cond.methodLinkNest own index y host ∈ WN) (hcl : gs_cls ci C T N ty) (hyC : y.cls = C) (hr : r < 79) (hsh : SH r = sp_o ci fs) (hfit : gs_fit M rm maxL)
    (hn : As.length = n) (hst : As.reverse ++ gr E r :: rest = S0) (hrest : (rest.map fun v => v.category).sum ≤ 8) (d : decode (mM_cc M) pc = .ok (.invokevirtual index, 3))
    (k : ∀ b : (Int × gs_Mem), gs_K E M out (X b) (pc + 3) L (gi b.1 :: rest) (b.2)) : gs_K E M out (oc.bind X) pc L S0 σ := gk_callVN (κ := 0) hC ho hm hlink hcl hyC hr hsh hfit hn hst hrest d k
theorem gk_callSN_iw {n index maxL : Nat} {own : String} {y : MethodName} {bytes : ByteArray} {ret : Option FieldType} {rm : Room} {As : List Value} {host : String} {oc : Option (Int × gs_Mem)} {X : (Int × gs_Mem) → Option α}
    (hC : gs_C E y bytes maxL ret 0 rm As σ oc (fun b : Int × gs_Mem => b)) (ho : mM_own M = own) (hm : gs_mS y bytes maxL ret n) (hlink : Cond.methodLinkNest own index y host ∈ WN) (hfit : gs_fit M rm maxL)
    (hn : As.length = n) (hst : As.reverse ++ rest = S0) (hrest : (rest.map fun v => v.category).sum ≤ 8) (d : decode (mM_cc M) pc = .ok (.invokestatic index, 3))
    (k : ∀ b : (Int × gs_Mem), gs_K E M out (X b) (pc + 3) L (gi b.1 :: rest) (b.2)) : gs_K E M out (oc.bind X) pc L S0 σ := gk_callSN (κ := 0) hC ho hm hlink hfit hn hst hrest d k
theorem gk_callV_vw {r ci n index maxL : Nat} {own : String} {y : MethodName} {bytes : ByteArray} {ret : Option FieldType} {rm : Room} {As : List Value} {C : String} {T : u_T} {N : Nat} {ty : Nat → FieldType} {fs : List (Option Nat)} {oc : Option (Int × gs_Mem)} {X : (Int × gs_Mem) → Option α}
    (hC : gs_C E y bytes maxL ret 2 rm (gr E r :: As) σ oc (fun b : Int × gs_Mem => b)) (ho : mM_own M = own) (hm : gs_mV y bytes maxL ret n) (hlink : Cond.methodLink own index y ∈ WS) (hcl : gs_cls ci C T N ty) (hyC : y.cls = C) (hr : r < 79) (hsh : SH r = sp_o ci fs) (hfit : gs_fit M rm maxL)
    (hn : As.length = n) (hst : As.reverse ++ gr E r :: rest = S0) (hrest : (rest.map fun v => v.category).sum ≤ 8) (d : decode (mM_cc M) pc = .ok (.invokevirtual index, 3))
    (k : ∀ b : (Int × gs_Mem), gs_K E M out (X b) (pc + 3) L (rest) (b.2)) : gs_K E M out (oc.bind X) pc L S0 σ := gk_callV (κ := 2) hC ho hm hlink hcl hyC hr hsh hfit hn hst hrest d k
theorem gk_callS_vw {n index maxL : Nat} {own : String} {y : MethodName} {bytes : ByteArray} {ret : Option FieldType} {rm : Room} {As : List Value} {oc : Option (Int × gs_Mem)} {X : (Int × gs_Mem) → Option α}
    (hC : gs_C E y bytes maxL ret 2 rm As σ oc (fun b : Int × gs_Mem => b)) (ho : mM_own M = own) (hm : gs_mS y bytes maxL ret n) (hlink : Cond.methodLink own index y ∈ WS) (hfit : gs_fit M rm maxL)
    (hn : As.length = n) (hst : As.reverse ++ rest = S0) (hrest : (rest.map fun v => v.category).sum ≤ 8) (d : decode (mM_cc M) pc = .ok (.invokestatic index, 3))
    (k : ∀ b : (Int × gs_Mem), gs_K E M out (X b) (pc + 3) L (rest) (b.2)) : gs_K E M out (oc.bind X) pc L S0 σ := gk_callS (κ := 2) hC ho hm hlink hfit hn hst hrest d k
theorem gk_callVN_vw {r ci n index maxL : Nat} {own : String} {y : MethodName} {bytes : ByteArray} {ret : Option FieldType} {rm : Room} {As : List Value} {C : String} {T : u_T} {N : Nat} {ty : Nat → FieldType} {fs : List (Option Nat)} {host : String} {oc : Option (Int × gs_Mem)} {X : (Int × gs_Mem) → Option α}
    (hC : gs_C E y bytes maxL ret 2 rm (gr E r :: As) σ oc (fun b : Int × gs_Mem => b)) (ho : mM_own M = own) (hm : gs_mV y bytes maxL ret n) (hlink : Cond.methodLinkNest own index y host ∈ WN) (hcl : gs_cls ci C T N ty) (hyC : y.cls = C) (hr : r < 79) (hsh : SH r = sp_o ci fs) (hfit : gs_fit M rm maxL)
    (hn : As.length = n) (hst : As.reverse ++ gr E r :: rest = S0) (hrest : (rest.map fun v => v.category).sum ≤ 8) (d : decode (mM_cc M) pc = .ok (.invokevirtual index, 3))
    (k : ∀ b : (Int × gs_Mem), gs_K E M out (X b) (pc + 3) L (rest) (b.2)) : gs_K E M out (oc.bind X) pc L S0 σ := gk_callVN (κ := 2) hC ho hm hlink hcl hyC hr hsh hfit hn hst hrest d k
theorem gk_callSN_vw {n index maxL : Nat} {own : String} {y : MethodName} {bytes : ByteArray} {ret : Option FieldType} {rm : Room} {As : List Value} {host : String} {oc : Option (Int × gs_Mem)} {X : (Int × gs_Mem) → Option α}
    (hC : gs_C E y bytes maxL ret 2 rm As σ oc (fun b : Int × gs_Mem => b)) (ho : mM_own M = own) (hm : gs_mS y bytes maxL ret n) (hlink : Cond.methodLinkNest own index y host ∈ WN) (hfit : gs_fit M rm maxL)
    (hn : As.length = n) (hst : As.reverse ++ rest = S0) (hrest : (rest.map fun v => v.category).sum ≤ 8) (d : decode (mM_cc M) pc = .ok (.invokestatic index, 3))
    (k : ∀ b : (Int × gs_Mem), gs_K E M out (X b) (pc + 3) L (rest) (b.2)) : gs_K E M out (oc.bind X) pc L S0 σ := gk_callSN (κ := 2) hC ho hm hlink hfit hn hst hrest d k
theorem gk_callV_lw {r ci n index maxL : Nat} {own : String} {y : MethodName} {bytes : ByteArray} {ret : Option FieldType} {rm : Room} {As : List Value} {C : String} {T : u_T} {N : Nat} {ty : Nat → FieldType} {fs : List (Option Nat)} {oc : Option (Int × gs_Mem)} {X : (Int × gs_Mem) → Option α}
    (hC : gs_C E y bytes maxL ret 1 rm (gr E r :: As) σ oc (fun b : Int × gs_Mem => b)) (ho : mM_own M = own) (hm : gs_mV y bytes maxL ret n) (hlink : Cond.methodLink own index y ∈ WS) (hcl : gs_cls ci C T N ty) (hyC : y.cls = C) (hr : r < 79) (hsh : SH r = sp_o ci fs) (hfit : gs_fit M rm maxL)
    (hn : As.length = n) (hst : As.reverse ++ gr E r :: rest = S0) (hrest : (rest.map fun v => v.category).sum ≤ 8) (d : decode (mM_cc M) pc = .ok (.invokevirtual index, 3))
    (k : ∀ b : (Int × gs_Mem), gs_K E M out (X b) (pc + 3) L (gl b.1 :: rest) (b.2)) : gs_K E M out (oc.bind X) pc L S0 σ := gk_callV (κ := 1) hC ho hm hlink hcl hyC hr hsh hfit hn hst hrest d k
theorem gk_callS_lw {n index maxL : Nat} {own : String} {y : MethodName} {bytes : ByteArray} {ret : Option FieldType} {rm : Room} {As : List Value} {oc : Option (Int × gs_Mem)} {X : (Int × gs_Mem) → Option α}
    (hC : gs_C E y bytes maxL ret 1 rm As σ oc (fun b : Int × gs_Mem => b)) (ho : mM_own M = own) (hm : gs_mS y bytes maxL ret n) (hlink : Cond.methodLink own index y ∈ WS) (hfit : gs_fit M rm maxL)
    (hn : As.length = n) (hst : As.reverse ++ rest = S0) (hrest : (rest.map fun v => v.category).sum ≤ 8) (d : decode (mM_cc M) pc = .ok (.invokestatic index, 3))
    (k : ∀ b : (Int × gs_Mem), gs_K E M out (X b) (pc + 3) L (gl b.1 :: rest) (b.2)) : gs_K E M out (oc.bind X) pc L S0 σ := gk_callS (κ := 1) hC ho hm hlink hfit hn hst hrest d k
theorem gk_callVN_lw {r ci n index maxL : Nat} {own : String} {y : MethodName} {bytes : ByteArray} {ret : Option FieldType} {rm : Room} {As : List Value} {C : String} {T : u_T} {N : Nat} {ty : Nat → FieldType} {fs : List (Option Nat)} {host : String} {oc : Option (Int × gs_Mem)} {X : (Int × gs_Mem) → Option α}
    (hC : gs_C E y bytes maxL ret 1 rm (gr E r :: As) σ oc (fun b : Int × gs_Mem => b)) (ho : mM_own M = own) (hm : gs_mV y bytes maxL ret n) (hlink : Cond.methodLinkNest own index y host ∈ WN) (hcl : gs_cls ci C T N ty) (hyC : y.cls = C) (hr : r < 79) (hsh : SH r = sp_o ci fs) (hfit : gs_fit M rm maxL)
    (hn : As.length = n) (hst : As.reverse ++ gr E r :: rest = S0) (hrest : (rest.map fun v => v.category).sum ≤ 8) (d : decode (mM_cc M) pc = .ok (.invokevirtual index, 3))
    (k : ∀ b : (Int × gs_Mem), gs_K E M out (X b) (pc + 3) L (gl b.1 :: rest) (b.2)) : gs_K E M out (oc.bind X) pc L S0 σ := gk_callVN (κ := 1) hC ho hm hlink hcl hyC hr hsh hfit hn hst hrest d k
theorem gk_callSN_lw {n index maxL : Nat} {own : String} {y : MethodName} {bytes : ByteArray} {ret : Option FieldType} {rm : Room} {As : List Value} {host : String} {oc : Option (Int × gs_Mem)} {X : (Int × gs_Mem) → Option α}
    (hC : gs_C E y bytes maxL ret 1 rm As σ oc (fun b : Int × gs_Mem => b)) (ho : mM_own M = own) (hm : gs_mS y bytes maxL ret n) (hlink : Cond.methodLinkNest own index y host ∈ WN) (hfit : gs_fit M rm maxL)
    (hn : As.length = n) (hst : As.reverse ++ rest = S0) (hrest : (rest.map fun v => v.category).sum ≤ 8) (d : decode (mM_cc M) pc = .ok (.invokestatic index, 3))
    (k : ∀ b : (Int × gs_Mem), gs_K E M out (X b) (pc + 3) L (gl b.1 :: rest) (b.2)) : gs_K E M out (oc.bind X) pc L S0 σ := gk_callSN (κ := 1) hC ho hm hlink hfit hn hst hrest d k
def gmax (x y : Int) : Int := if gn x < gn y then y else x
def gmin (x y : Int) : Int := if gn y < gn x then y else x
def gabs (x : Int) : Int := if 0 ≤ gn x then x else 0 - x
def gs_let {α : Type} (e : Int) (X : Int → Option α) : Option α := X e
theorem gk_let {e : Int} {X : Int → Option α} (k : ∀ x, gs_K E M out (X x) pc L (gi x :: S) σ) : gs_K E M out (gs_let e X) pc L (gi e :: S) σ := k e
def gs_mmW (own : String) (index : Nat) (y : MethodName) (b : ByteArray) (n : Nat) : Prop := Cond.methodLink own index y ∈ WS ∧ Cond.static y ∈ WS ∧ Cond.initialized "java/lang/Math" ∈ WS ∧ Cond.code y b n (some .int) ∈ WS
theorem oi_if (P Q : Prop) [Decidable P] [Decidable Q] (h : P ↔ Q) (x y : Int) : (if P then Int32.ofInt y else Int32.ofInt x) = Int32.ofInt (if Q then y else x) := by
  by_cases q : Q
  · rw [if_pos q, if_pos (h.mpr q)]
  · rw [if_neg q, if_neg (fun z => q (h.mp z))]
theorem gk_mmax {own : String} {index : Nat} {x y : Int} (ho : mM_own M = own) (hw : gs_mmW own index Lib.Math.max.name Lib.Math.max.code 2) (hfr : 1 ≤ (mM_R M).frames) (hlo : (S.map fun v => v.category).sum + 13 ≤ (mM_R M).locals) (hcs : mM_c M ≤ (mM_R M).cells ∧ mM_s M ≤ (mM_R M).slots) (d : decode (mM_cc M) pc = .ok (.invokestatic index, 3))
    (k : gs_K E M out o (pc + 3) L (gi (gmax x y) :: S) σ) : gs_K E M out o pc L (gi y :: gi x :: S) σ :=
  gk_go (fun p e s m args below meth c H locs ls Q hc hl kk => by
    subst ho
    obtain ⟨w1, w2, w3, w4⟩ := hw
    obtain ⟨hx, hbc, hml, hr0, hlk, hown, hts, hX⟩ := hc
    refine va_mmax hx hbc (hml.trans hl.1.symm) hown (hts _ w1) (hts _ w2) (hts _ w3) (hts _ w4) hfr hlo hcs.1 hcs.2 d ?_
    rw [oi_if _ _ oi_lt]; exact kk) k
theorem gk_mmin {own : String} {index : Nat} {x y : Int} (ho : mM_own M = own) (hw : gs_mmW own index Lib.Math.min.name Lib.Math.min.code 2) (hfr : 1 ≤ (mM_R M).frames) (hlo : (S.map fun v => v.category).sum + 13 ≤ (mM_R M).locals) (hcs : mM_c M ≤ (mM_R M).cells ∧ mM_s M ≤ (mM_R M).slots) (d : decode (mM_cc M) pc = .ok (.invokestatic index, 3))
    (k : gs_K E M out o (pc + 3) L (gi (gmin x y) :: S) σ) : gs_K E M out o pc L (gi y :: gi x :: S) σ :=
  gk_go (fun p e s m args below meth c H locs ls Q hc hl kk => by
    subst ho
    obtain ⟨w1, w2, w3, w4⟩ := hw
    obtain ⟨hx, hbc, hml, hr0, hlk, hown, hts, hX⟩ := hc
    refine va_mmin hx hbc (hml.trans hl.1.symm) hown (hts _ w1) (hts _ w2) (hts _ w3) (hts _ w4) hfr hlo hcs.1 hcs.2 d ?_
    rw [oi_if _ _ oi_lt]; exact kk) k
theorem gk_mabs {own : String} {index : Nat} {x : Int} (ho : mM_own M = own) (hw : gs_mmW own index Lib.Math.abs.name Lib.Math.abs.code 1) (hfr : 1 ≤ (mM_R M).frames) (hlo : (S.map fun v => v.category).sum + 13 ≤ (mM_R M).locals) (hcs : mM_c M ≤ (mM_R M).cells ∧ mM_s M ≤ (mM_R M).slots) (d : decode (mM_cc M) pc = .ok (.invokestatic index, 3))
    (k : gs_K E M out o (pc + 3) L (gi (gabs x) :: S) σ) : gs_K E M out o pc L (gi x :: S) σ :=
  gk_go (fun p e s m args below meth c H locs ls Q hc hl kk => by
    subst ho
    obtain ⟨w1, w2, w3, w4⟩ := hw
    obtain ⟨hx, hbc, hml, hr0, hlk, hown, hts, hX⟩ := hc
    refine va_mabs hx hbc (hml.trans hl.1.symm) hown (hts _ w1) (hts _ w2) (hts _ w3) (hts _ w4) hfr hlo hcs.1 hcs.2 d ?_
    rw [← oi_0, oi_sub, oi_if _ (0 ≤ gn x) (by rw [oi_le, gn_0])]; exact kk) k
end GKmore
