/-! fault, river -/
theorem RD_fr {f : Nat → Int} {n b0 p : Nat} {μ ν : Mem} (h : RD f n b0 p μ) (e : ∀ c k, ¬ (c = 60 ∧ 15 ≤ k) → ¬ c = 68 → ν c k = μ c k) : RD f n b0 p ν := by
  obtain ⟨h1, h2, h3, h4⟩ := h
  exact ⟨by rw [e _ _ (by omega) (by omega)]; exact h1, by rw [e _ _ (by omega) (by omega)]; exact h2, by rw [e _ _ (by omega) (by omega)]; exact h3, fun j hj => by rw [e _ _ (by omega) (by omega)]; exact h4 j hj⟩
theorem RP_p {s μ : Mem} {v : Int} {k : Nat} (h : RP s μ) (hk : k ≤ 14) : RP s (wr μ 60 k v) := by
  obtain ⟨h1, h2, h3⟩ := h
  refine ⟨by rw [wr_ne (by omega)]; exact h1, by rw [wr_ne (by omega)]; exact h2, fun i hi => ?_⟩
  rw [wr_ne (by omega), wr_ne (by omega), wr_ne (by omega)]
  exact h3 i hi
def K11f : Int → Mem → Option (Int × Mem) := fun x9 μ10 => if x9 = 0 then some (μ10 60 13, μ10) else if μ10 60 17 ≤ 0 then some (μ10 60 13, μ10) else some (-9, μ10)
/-! a river anew -/
def ZS (s : Mem) : Prop := s 0 2 = 0 ∧ ∀ i : Nat, (i : Int) < s 0 0 → s 4 i = 0
theorem Z_ad {s : Mem} {k d v : Int} (h : ZS s) : ZS (adS s k d v) := by
  refine ⟨by rw [adS_02]; exact h.1, fun i hi => ?_⟩
  rw [adS_00] at hi
  by_cases e : (i : Int) = s 0 0
  · exact (adS_n s k d v e).2.2.2
  · rw [adS_o _ _ _ _ (by omega) e]
    exact h.2 i (by omega)
theorem Z_pa (f : Nat → Int) (n : Nat) : ∀ (m a : Nat) (s : Mem), ZS s → ZS (paS f n m a s).2
  | 0, _, _, h => h
  | m + 1, a, s, h => by
    unfold paS
    split
    · exact h
    · split
      · exact Z_pa f n m _ _ (Z_ad h)
      · exact h
theorem Z_rd (f : Nat → Int) (n : Nat) : ZS (rdS f n).2 := by
  unfold rdS
  split
  · exact ⟨rfl, fun _ _ => rfl⟩
  · split
    · exact ⟨rfl, fun _ _ => rfl⟩
    · split
      · exact ⟨rfl, fun _ _ => rfl⟩
      · exact Z_pa f n 7 _ _ ⟨ini_o (by omega), fun _ _ => ini_o (by omega)⟩
theorem tn_3a {k : Nat} : (3 * (k : Int)).toNat = 3 * k := by omega
theorem tn_3b {k : Nat} : (3 * (k : Int) + 1).toNat = 3 * k + 1 := by omega
theorem tn_3c {k : Nat} : (3 * (k : Int) + 2).toNat = 3 * k + 2 := by omega
