theorem tn_821 {k : Nat} : (821 * (1 + (k : Int)) + 0).toNat = 821 * (k + 1) := by omega
theorem tn_i0 : (0 : Int).toNat = 0 := rfl
