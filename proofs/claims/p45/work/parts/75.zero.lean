/-! THE BEGINNING: the memory that the constructor leaves, the law's own arrays new -/
def μz : Mem := fun c k => if (c = 8 ∧ k < 6) ∨ (c = 14 ∧ k < 4) ∨ (c = 35 ∧ k < 3) then -1 else if c = 0 ∧ k = 13 then 1 else 0
theorem mz_m {c k : Nat} (h : (c = 8 ∧ k < 6) ∨ (c = 14 ∧ k < 4) ∨ (c = 35 ∧ k < 3)) : μz c k = -1 := by
  unfold μz
  rw [if_pos h]
theorem mz_1 {c k : Nat} (h : c = 0 ∧ k = 13) : μz c k = 1 := by
  unfold μz
  rw [if_neg (by omega), if_pos h]
theorem mz_0 {c k : Nat} (h : ¬ ((c = 8 ∧ k < 6) ∨ (c = 14 ∧ k < 4) ∨ (c = 35 ∧ k < 3))) (h2 : ¬ (c = 0 ∧ k = 13)) : μz c k = 0 := by
  unfold μz
  rw [if_neg h, if_neg h2]
theorem mz_ok : okM μz := by
  intro c k
  have h : μz c k = -1 ∨ μz c k = 1 ∨ μz c k = 0 := by
    unfold μz
    split
    · exact Or.inl rfl
    · split
      · exact Or.inr (Or.inl rfl)
      · exact Or.inr (Or.inr rfl)
  unfold okK
  split
  · unfold okI; omega
  · split
    · unfold okL; omega
    · unfold okB; omega
/-- the law, from there -/
theorem law_z (σ : Scr) : Ok (fL_law σ μz) := law_1 (fun r hr => mz_m (by omega)) (fun r hr => mz_m (by omega))
