/-! duel: the table's turns -/
def selS (f : Bool) (x t : Int) : Int := if f then (if t ≤ x then x else t) else (if x ≤ t then x else t)
def dres (f : Bool) (d y0 y1 y2 : Int) : Int := selS f (selS f y0 (if 21 ≤ d + 1 then y0 else y1)) (if 21 ≤ d + 2 then selS f y0 (if 21 ≤ d + 1 then y0 else y1) else y2)
theorem dres_i {s : Mem} {i j a b t : Nat} (hij : ¬ i = j) (h : 0 ≤ s 3 i) (ht : (t + 1) % 2 = 0) : dres true (s 3 i + (a : Int)) (vS i j t (stS s i j a b)) (vS i j t (stS s i j (a + 1) b)) (vS i j t (stS s i j (a + 2) b)) = vS i j (t + 1) (stS s i j a b) := by
  have e0 : upS (stS s i j a b) i 0 = stS s i j a b := stS_i (y := 0) hij h
  have e1 : upS (stS s i j a b) i 1 = stS s i j (a + 1) b := stS_i (y := 1) hij h
  have e2 : upS (stS s i j a b) i 2 = stS s i j (a + 2) b := stS_i (y := 2) hij h
  rw [vS, if_pos ht, e0, e1, e2]
  have r0 := vS_rng i j t (stS s i j a b)
  have r1 := vS_rng i j t (stS s i j (a + 1) b)
  have r2 := vS_rng i j t (stS s i j (a + 2) b)
  have c1 : 20 ≤ s 3 i + (a : Int) → vS i j t (stS s i j (a + 1) b) = vS i j t (stS s i j a b) := fun q => by rw [stS_capI (a := a + 1) (a' := a) (by omega) q]
  have c2 : 20 ≤ s 3 i + (a : Int) + 1 → vS i j t (stS s i j (a + 2) b) = vS i j t (stS s i j (a + 1) b) := fun q => by rw [stS_capI (a := a + 2) (a' := a + 1) (by omega) (by omega)]
  generalize vS i j t (stS s i j a b) = x0 at *
  generalize vS i j t (stS s i j (a + 1) b) = x1 at *
  generalize vS i j t (stS s i j (a + 2) b) = x2 at *
  unfold dres selS mmax
  simp only [if_true]
  by_cases z1 : 20 ≤ s 3 i + (a : Int)
  · have := c1 z1
    have := c2 (by omega)
    simp only [if_pos (show 21 ≤ s 3 i + (a : Int) + 1 by omega), if_pos (show 21 ≤ s 3 i + (a : Int) + 2 by omega)]
    repeat' split
    all_goals omega
  · by_cases z2 : 20 ≤ s 3 i + (a : Int) + 1
    · have := c2 z2
      simp only [if_neg (show ¬ 21 ≤ s 3 i + (a : Int) + 1 by omega), if_pos (show 21 ≤ s 3 i + (a : Int) + 2 by omega)]
      repeat' split
      all_goals omega
    · simp only [if_neg (show ¬ 21 ≤ s 3 i + (a : Int) + 1 by omega), if_neg (show ¬ 21 ≤ s 3 i + (a : Int) + 2 by omega)]
      repeat' split
      all_goals omega
theorem dres_j {s : Mem} {i j a b t : Nat} (hij : ¬ i = j) (h : 0 ≤ s 3 j) (ht : ¬ (t + 1) % 2 = 0) : dres false (s 3 j + (b : Int)) (vS i j t (stS s i j a b)) (vS i j t (stS s i j a (b + 1))) (vS i j t (stS s i j a (b + 2))) = vS i j (t + 1) (stS s i j a b) := by
  have e0 : upS (stS s i j a b) j 0 = stS s i j a b := stS_j (y := 0) hij h
  have e1 : upS (stS s i j a b) j 1 = stS s i j a (b + 1) := stS_j (y := 1) hij h
  have e2 : upS (stS s i j a b) j 2 = stS s i j a (b + 2) := stS_j (y := 2) hij h
  rw [vS, if_neg ht, e0, e1, e2]
  have r0 := vS_rng i j t (stS s i j a b)
  have r1 := vS_rng i j t (stS s i j a (b + 1))
  have r2 := vS_rng i j t (stS s i j a (b + 2))
  have c1 : 20 ≤ s 3 j + (b : Int) → vS i j t (stS s i j a (b + 1)) = vS i j t (stS s i j a b) := fun q => by rw [stS_capJ (b := b + 1) (b' := b) (by omega) q]
  have c2 : 20 ≤ s 3 j + (b : Int) + 1 → vS i j t (stS s i j a (b + 2)) = vS i j t (stS s i j a (b + 1)) := fun q => by rw [stS_capJ (b := b + 2) (b' := b + 1) (by omega) (by omega)]
  generalize vS i j t (stS s i j a b) = x0 at *
  generalize vS i j t (stS s i j a (b + 1)) = x1 at *
  generalize vS i j t (stS s i j a (b + 2)) = x2 at *
  unfold dres selS mmin
  simp only [Bool.false_eq_true, if_false]
  by_cases z1 : 20 ≤ s 3 j + (b : Int)
  · have := c1 z1
    have := c2 (by omega)
    simp only [if_pos (show 21 ≤ s 3 j + (b : Int) + 1 by omega), if_pos (show 21 ≤ s 3 j + (b : Int) + 2 by omega)]
    repeat' split
    all_goals omega
  · by_cases z2 : 20 ≤ s 3 j + (b : Int) + 1
    · have := c2 z2
      simp only [if_neg (show ¬ 21 ≤ s 3 j + (b : Int) + 1 by omega), if_pos (show 21 ≤ s 3 j + (b : Int) + 2 by omega)]
      repeat' split
      all_goals omega
    · simp only [if_neg (show ¬ 21 ≤ s 3 j + (b : Int) + 1 by omega), if_neg (show ¬ 21 ≤ s 3 j + (b : Int) + 2 by omega)]
      repeat' split
      all_goals omega
/-- the table says what becomes of it behind τ turns -/
def PT (s : Mem) (i j T τ : Nat) (μ : Mem) : Prop := ∀ a b : Nat, a ≤ 2 * ((τ + 1) / 2) → b ≤ 2 * (τ / 2) → μ 72 (7 * a + b) = vS i j (T - τ) (stS s i j a b)
