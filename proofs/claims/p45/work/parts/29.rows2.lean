theorem wr_comm {μ : Mem} {c k c' k' : Nat} {v v' : Int} (h : ¬ (c = c' ∧ k = k')) : wr (wr μ c k v) c' k' v' = wr (wr μ c' k' v') c k v := by
  funext a b
  by_cases h1 : a = c' ∧ b = k'
  · rw [wr_at h1, wr_ne (by omega), wr_at h1]
  · rw [wr_ne h1]
    by_cases h2 : a = c ∧ b = k
    · rw [wr_at h2, wr_at h2]
    · rw [wr_ne h2, wr_ne h2, wr_ne h1]
theorem tn_40b {a b c : Nat} : (40 * (a : Int) + (b : Int) + (c : Int)).toNat = 40 * a + b + c := by omega
theorem cpy_0 {μ : Mem} {c s c1 d : Nat} : cpy μ c s c1 d 0 = μ := by
  funext a b
  rw [cpy_ne (by omega)]
