/-! mean; texts -/
def sumW (μ : Mem) (c : Nat) : Nat → Int
  | 0 => 0
  | k + 1 => w64 (sumW μ c k + μ c k)
theorem sumW_congr {μ μ' : Mem} {c : Nat} (h : ∀ k, μ' c k = μ c k) : ∀ n, sumW μ' c n = sumW μ c n
  | 0 => rfl
  | n + 1 => by rw [sumW, sumW, sumW_congr h n, h n]
theorem w8_32 : w8 32 = 32 := by decide
