/-! THE CALLS, both sides: rows -/
theorem fndM_ne {μ : Mem} {f c k : Nat} (h : ¬ (c = 0 ∧ k = 14) ∧ ¬ c = 36) : fndM μ f c k = μ c k := by
  unfold fndM
  rw [wr_ne (by omega), wr_ne (by omega)]
theorem fn1 {μ : Mem} : fX1_found 1 μ = some (-3, fndM μ 1) := e_found (f := 1) (by omega)
theorem fn2 {μ : Mem} : fX1_found 2 μ = some (-3, fndM μ 2) := e_found (f := 2) (by omega)
theorem fn3 {μ : Mem} : fX1_found 3 μ = some (-3, fndM μ 3) := e_found (f := 3) (by omega)
theorem fn4 {μ : Mem} : fX1_found 4 μ = some (-3, fndM μ 4) := e_found (f := 4) (by omega)
theorem fn5 {μ : Mem} : fX1_found 5 μ = some (-3, fndM μ 5) := e_found (f := 5) (by omega)
theorem fuel_lt : 9999 < fuel := by
  unfold fuel
  omega
theorem e_tell {v : Int} {μ : Mem} : fX1_tell v μ = some (1, wr μ 0 11 v) := rfl
