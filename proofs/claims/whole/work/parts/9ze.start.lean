/-! ===== the start ===== -/
theorem zz_one : (1 : Nat) = 1 := rfl
