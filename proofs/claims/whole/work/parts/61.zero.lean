/-! THE BEGINNING: the memory that the two constructors leave -/
def μz : Mem := fun c k => if (c = 8 ∧ k < 6) ∨ (c = 14 ∧ k < 4) ∨ (c = 35 ∧ k < 3) ∨ (c = 63 ∧ k < 6) ∨ (c = 65 ∧ k < 4) ∨ (c = 61 ∧ (k = 821 ∨ k = 1642 ∨ k = 2463)) then -1 else if (c = 0 ∧ k = 13) ∨ (c = 60 ∧ k = 9) then 1 else 0
theorem mz_m {c k : Nat} (h : (c = 8 ∧ k < 6) ∨ (c = 14 ∧ k < 4) ∨ (c = 35 ∧ k < 3) ∨ (c = 63 ∧ k < 6) ∨ (c = 65 ∧ k < 4) ∨ (c = 61 ∧ (k = 821 ∨ k = 1642 ∨ k = 2463))) : μz c k = -1 := by
  unfold μz
  rw [if_pos h]
theorem mz_1 {c k : Nat} (h : (c = 0 ∧ k = 13) ∨ (c = 60 ∧ k = 9)) : μz c k = 1 := by
  unfold μz
  rw [if_neg (by omega), if_pos h]
theorem mz_0 {c k : Nat} (h : ¬ ((c = 8 ∧ k < 6) ∨ (c = 14 ∧ k < 4) ∨ (c = 35 ∧ k < 3) ∨ (c = 63 ∧ k < 6) ∨ (c = 65 ∧ k < 4) ∨ (c = 61 ∧ (k = 821 ∨ k = 1642 ∨ k = 2463)))) (h2 : ¬ ((c = 0 ∧ k = 13) ∨ (c = 60 ∧ k = 9))) : μz c k = 0 := by
  unfold μz
  rw [if_neg h, if_neg h2]
theorem mz_Riv : RivI μz := by
  have z : ∀ c k : Nat, (c = 0 ∧ k = 8) ∨ (15 ≤ c ∧ c < 25) ∨ c = 30 ∨ (c = 60 ∧ k = 1) ∨ (c = 61 ∧ k < 821) ∨ c = 62 → μz c k = 0 := fun c k h => mz_0 (by omega) (by omega)
  have e8 : μz 0 8 = 0 := z 0 8 (by omega)
  refine ⟨by rw [e8]; omega, (fun _ _ => 0), (fun _ _ _ _ => 0), ⟨z _ _ (by omega), z _ _ (by omega), z _ _ (by omega), fun i hi => absurd hi (by show ¬ ((i : Int) < 0); omega)⟩, ⟨z _ _ (by omega), z _ _ (by omega), z _ _ (by omega), fun i hi => absurd hi (by show ¬ ((i : Int) < 0); omega)⟩, fun j hj => ?_⟩
  by_cases h0 : j = 0
  · subst h0
    have c0 : cnt μz 0 = 0 := e8
    refine ⟨by rw [c0]; omega, by rw [c0]; omega, by rw [c0]; exact z _ _ (by omega), fun _ => ?_⟩
    unfold SlotI
    rw [c0]
    refine ⟨rfl, fun d hd => absurd hd (by omega), ⟨z _ _ (by omega), z _ _ (by omega), z _ _ (by omega), fun i hi => absurd hi (by show ¬ ((i : Int) < 0); omega)⟩, fun d _ => ?_⟩
    refine ⟨by show (0 : Int) ≤ 0; omega, by show (0 : Int) ≤ 6; omega, by show (0 : Int) ≤ 0; omega, by show (0 : Int) ≤ 9; omega, fun i hi => absurd hi (by show ¬ ((i : Int) < 0); omega)⟩
  · have cj : cnt μz j = -1 := by
      unfold cnt
      rw [if_neg h0]
      exact mz_m (by omega)
    rw [cj]
    exact ⟨by omega, by omega, mz_m (by omega), fun h => absurd h (by omega)⟩
theorem mz_Inv : Inv μz := by
  refine ⟨fun r hr => ?_, fun t ht => ?_, ⟨?_, ?_, ?_, ?_, fun f hf => ?_⟩, mz_Riv⟩
  · rw [mz_m (c := 8) (by omega), mz_m (c := 63) (by omega)]
    exact ⟨rfl, by omega, by omega, fun i hi => by rw [mz_0 (by omega) (by omega), mz_0 (by omega) (by omega)]⟩
  · rw [mz_m (c := 14) (by omega), mz_m (c := 65) (by omega)]
    exact ⟨rfl, by omega, by omega, fun i hi => by rw [mz_0 (by omega) (by omega), mz_0 (by omega) (by omega)]⟩
  · rw [mz_0 (by omega) (by omega), mz_0 (by omega) (by omega)]
  · rw [mz_0 (by omega) (by omega), mz_0 (by omega) (by omega)]
  · rw [mz_1 (by omega), mz_1 (by omega)]
  · rw [mz_0 (by omega) (by omega), mz_0 (by omega) (by omega)]
  · rw [mz_0 (by omega) (by omega), mz_0 (by omega) (by omega)]
theorem mz_ok : okM μz := by
  intro c k
  have h : μz c k = -1 ∨ μz c k = 1 ∨ μz c k = 0 := by
    unfold μz
    split
    · exact Or.inl rfl
    · split
      · exact Or.inr (Or.inl rfl)
      · exact Or.inr (Or.inr rfl)
  unfold okK
  split
  · unfold okI; omega
  · split
    · unfold okL; omega
    · unfold okB; omega
