theorem f_law_ok (xs : Nat → Int32) (L : Nat) (hL : L ≤ 3072) : ∃ a, f_L_law_L18 xs L gs_fuel 0 s0 = some a := law_loop hL 600 gs_fuel 0 s0 s0_Rel (by omega) (by decide) (by have := fuel_big; omega)
