/-! duel: the table's turns -/
def selS (f : Bool) (x t : Int) : Int := if f then (if t ≤ x then x else t) else (if x ≤ t then x else t)
theorem e_159s {K : Int → Option (Int × Mem)} {s ν : Mem} {w up m k st τ N : Nat} {x : Int} (hM : MB 0 ν s) (hg : GB s) (hw : (w : Int) < s 0 0) (h1 : m < 3) (h2 : up + m < 7) (h3 : k + st * m < 49) (hs : st ≤ 7) (hk : k < 49) : fX2_duel_L159 K (up : Int) (w : Int) ν (τ : Int) (k : Int) (st : Int) (N + 1) x (m : Int) = fX2_duel_L159 K (up : Int) (w : Int) ν (τ : Int) (k : Int) (st : Int) N (selS (decide (τ % 2 = 0)) x (if 21 ≤ s 3 w + ((up + m : Nat) : Int) then x else ν 72 (k + st * m))) ((m + 1 : Nat) : Int) := by
  have g6 := hg.2.1
  have hb : 0 ≤ ((k + st * m : Nat) : Int) ∧ ((k + st * m : Nat) : Int) < 49 := ⟨Int.natCast_nonneg _, Int.ofNat_lt.mpr h3⟩
  have hm3 : ¬ 3 ≤ (m : Int) := by omega
  have hm7 : ¬ 7 ≤ ((up + m : Nat) : Int) := by omega
  have hra : 0 ≤ ((up + m : Nat) : Int) ∧ ((up + m : Nat) : Int) ≤ 10 := by omega
  have hsm : st * m < 49 := Nat.lt_of_le_of_lt (Nat.le_add_left _ _) h3
  generalize hz : st * m = z at *
  have em : (τ : Int).tmod 2 = ((τ % 2 : Nat) : Int) := tmod_nat τ 2
  have e1 : w32 ((up : Int) + (m : Int)) = ((up + m : Nat) : Int) := by
    rw [w32_i (by omega)]
    omega
  have e2 : w32 ((k : Int) + w32 ((st : Int) * (m : Int))) = ((k + z : Nat) : Int) := by
    rw [← Int.natCast_mul, hz, w32_i (z := (z : Int)) (by omega), w32_i (by omega)]
    omega
  rw [fX2_duel_L159, if_neg hm3, e1, if_neg hm7, e_raised hM hg hw hra, bd_some, e2, em]
  clear e1 e2 em
  simp only [mlet_e, grd, if_pos hb, tn_c, w32_s (show m ≤ 2000000000 by omega)]
  unfold selS
  by_cases z1 : 21 ≤ s 3 w + ((up + m : Nat) : Int)
  · rw [if_pos z1, if_pos z1]
    by_cases z2 : τ % 2 = 0
    · rw [if_neg (by omega), if_pos (Int.le_refl x)]
      simp only [z2, decide_true, if_true, Int.le_refl]
    · rw [if_pos (by omega), if_pos (Int.le_refl x)]
      simp only [z2, decide_false, Int.le_refl, if_true, ite_self]
  · rw [if_neg z1, if_neg z1]
    by_cases z2 : τ % 2 = 0
    · rw [if_neg (by omega)]
      simp only [z2, decide_true, if_true]
      by_cases z3 : ν 72 (k + z) ≤ x
      · rw [if_pos z3, if_pos z3]
      · rw [if_neg z3, if_neg z3]
    · rw [if_pos (by omega)]
      simp only [z2, decide_false, Bool.false_eq_true, if_false]
      by_cases z3 : x ≤ ν 72 (k + z)
      · rw [if_pos z3, if_pos z3]
      · rw [if_neg z3, if_neg z3]
def dres (f : Bool) (d y0 y1 y2 : Int) : Int := selS f (selS f y0 (if 21 ≤ d + 1 then y0 else y1)) (if 21 ≤ d + 2 then selS f y0 (if 21 ≤ d + 1 then y0 else y1) else y2)
theorem e_159 {K : Int → Option (Int × Mem)} {Q : Int × Mem → Prop} {s ν : Mem} {w up k st τ N : Nat} {x : Int} (hM : MB 0 ν s) (hg : GB s) (hw : (w : Int) < s 0 0) (hup : up ≤ 6) (h3 : ∀ m, m < 3 → up + m < 7 → k + st * m < 49) (hs : st ≤ 7) (hk : k < 49) (hN : 5 < N) (hK : ∀ v, (up ≤ 4 → v = dres (decide (τ % 2 = 0)) (s 3 w + (up : Int)) x (ν 72 (k + st)) (ν 72 (k + 2 * st))) → Ev (K v) Q) : Ev (fX2_duel_L159 K (up : Int) (w : Int) ν (τ : Int) (k : Int) (st : Int) N x 1) Q := by
  obtain ⟨N, rfl⟩ : ∃ j, N = j + 3 := ⟨N - 3, by omega⟩
  rw [show (1 : Int) = ((1 : Nat) : Int) from rfl]
  by_cases z1 : up + 1 < 7
  · rw [e_159s (m := 1) hM hg hw (by omega) z1 (h3 1 (by omega) z1) hs hk]
    by_cases z2 : up + 2 < 7
    · rw [e_159s (m := 2) hM hg hw (by omega) z2 (h3 2 (by omega) z2) hs hk]
      rw [fX2_duel_L159, if_pos (by omega)]
      refine hK _ (fun _ => ?_)
      unfold dres
      rw [show s 3 w + ((up + 1 : Nat) : Int) = s 3 w + (up : Int) + 1 by omega, show s 3 w + ((up + 1 + 1 : Nat) : Int) = s 3 w + (up : Int) + 2 by omega, Nat.mul_one, Nat.mul_comm st (1 + 1)]
    · rw [fX2_duel_L159, if_neg (by omega), w32_i (by omega), if_pos (by omega)]
      exact hK _ (fun w => absurd w (by omega))
  · rw [fX2_duel_L159, if_neg (by omega), w32_i (by omega), if_pos (by omega)]
    exact hK _ (fun w => absurd w (by omega))
theorem dres_i {s : Mem} {i j a b t : Nat} (hij : ¬ i = j) (h : 0 ≤ s 3 i) (ht : (t + 1) % 2 = 0) : dres true (s 3 i + (a : Int)) (vS i j t (stS s i j a b)) (vS i j t (stS s i j (a + 1) b)) (vS i j t (stS s i j (a + 2) b)) = vS i j (t + 1) (stS s i j a b) := by
  have e0 : upS (stS s i j a b) i 0 = stS s i j a b := stS_i (y := 0) hij h
  have e1 : upS (stS s i j a b) i 1 = stS s i j (a + 1) b := stS_i (y := 1) hij h
  have e2 : upS (stS s i j a b) i 2 = stS s i j (a + 2) b := stS_i (y := 2) hij h
  rw [vS, if_pos ht, e0, e1, e2]
  have r0 := vS_rng i j t (stS s i j a b)
  have r1 := vS_rng i j t (stS s i j (a + 1) b)
  have r2 := vS_rng i j t (stS s i j (a + 2) b)
  have c1 : 20 ≤ s 3 i + (a : Int) → vS i j t (stS s i j (a + 1) b) = vS i j t (stS s i j a b) := fun q => by rw [stS_capI (a := a + 1) (a' := a) (by omega) q]
  have c2 : 20 ≤ s 3 i + (a : Int) + 1 → vS i j t (stS s i j (a + 2) b) = vS i j t (stS s i j (a + 1) b) := fun q => by rw [stS_capI (a := a + 2) (a' := a + 1) (by omega) (by omega)]
  generalize vS i j t (stS s i j a b) = x0 at *
  generalize vS i j t (stS s i j (a + 1) b) = x1 at *
  generalize vS i j t (stS s i j (a + 2) b) = x2 at *
  unfold dres selS mmax
  simp only [if_true]
  by_cases z1 : 20 ≤ s 3 i + (a : Int)
  · have := c1 z1
    have := c2 (by omega)
    simp only [if_pos (show 21 ≤ s 3 i + (a : Int) + 1 by omega), if_pos (show 21 ≤ s 3 i + (a : Int) + 2 by omega)]
    repeat' split
    all_goals omega
  · by_cases z2 : 20 ≤ s 3 i + (a : Int) + 1
    · have := c2 z2
      simp only [if_neg (show ¬ 21 ≤ s 3 i + (a : Int) + 1 by omega), if_pos (show 21 ≤ s 3 i + (a : Int) + 2 by omega)]
      repeat' split
      all_goals omega
    · simp only [if_neg (show ¬ 21 ≤ s 3 i + (a : Int) + 1 by omega), if_neg (show ¬ 21 ≤ s 3 i + (a : Int) + 2 by omega)]
      repeat' split
      all_goals omega
theorem dres_j {s : Mem} {i j a b t : Nat} (hij : ¬ i = j) (h : 0 ≤ s 3 j) (ht : ¬ (t + 1) % 2 = 0) : dres false (s 3 j + (b : Int)) (vS i j t (stS s i j a b)) (vS i j t (stS s i j a (b + 1))) (vS i j t (stS s i j a (b + 2))) = vS i j (t + 1) (stS s i j a b) := by
  have e0 : upS (stS s i j a b) j 0 = stS s i j a b := stS_j (y := 0) hij h
  have e1 : upS (stS s i j a b) j 1 = stS s i j a (b + 1) := stS_j (y := 1) hij h
  have e2 : upS (stS s i j a b) j 2 = stS s i j a (b + 2) := stS_j (y := 2) hij h
  rw [vS, if_neg ht, e0, e1, e2]
  have r0 := vS_rng i j t (stS s i j a b)
  have r1 := vS_rng i j t (stS s i j a (b + 1))
  have r2 := vS_rng i j t (stS s i j a (b + 2))
  have c1 : 20 ≤ s 3 j + (b : Int) → vS i j t (stS s i j a (b + 1)) = vS i j t (stS s i j a b) := fun q => by rw [stS_capJ (b := b + 1) (b' := b) (by omega) q]
  have c2 : 20 ≤ s 3 j + (b : Int) + 1 → vS i j t (stS s i j a (b + 2)) = vS i j t (stS s i j a (b + 1)) := fun q => by rw [stS_capJ (b := b + 2) (b' := b + 1) (by omega) (by omega)]
  generalize vS i j t (stS s i j a b) = x0 at *
  generalize vS i j t (stS s i j a (b + 1)) = x1 at *
  generalize vS i j t (stS s i j a (b + 2)) = x2 at *
  unfold dres selS mmin
  simp only [Bool.false_eq_true, if_false]
  by_cases z1 : 20 ≤ s 3 j + (b : Int)
  · have := c1 z1
    have := c2 (by omega)
    simp only [if_pos (show 21 ≤ s 3 j + (b : Int) + 1 by omega), if_pos (show 21 ≤ s 3 j + (b : Int) + 2 by omega)]
    repeat' split
    all_goals omega
  · by_cases z2 : 20 ≤ s 3 j + (b : Int) + 1
    · have := c2 z2
      simp only [if_neg (show ¬ 21 ≤ s 3 j + (b : Int) + 1 by omega), if_pos (show 21 ≤ s 3 j + (b : Int) + 2 by omega)]
      repeat' split
      all_goals omega
    · simp only [if_neg (show ¬ 21 ≤ s 3 j + (b : Int) + 1 by omega), if_neg (show ¬ 21 ≤ s 3 j + (b : Int) + 2 by omega)]
      repeat' split
      all_goals omega
/-- the table says what becomes of it behind τ turns -/
def PT (s : Mem) (i j T τ : Nat) (μ : Mem) : Prop := ∀ a b : Nat, a ≤ 2 * ((τ + 1) / 2) → b ≤ 2 * (τ / 2) → μ 72 (7 * a + b) = vS i j (T - τ) (stS s i j a b)
theorem e_118 {s μ : Mem} {i j T τ : Nat} {K : Mem → Option (Int × Mem)} {Q : Int × Mem → Prop} (hM : MB 0 μ s) (hg : GB s) (hi : (i : Int) < s 0 0) (hj : (j : Int) < s 0 0) (hij : ¬ i = j) (hT : T % 2 = 0) (hτ : τ < T) (hT6 : T ≤ 6) (hP : PT s i j T (τ + 1) μ)
    (hK : ∀ ν, PT s i j T τ ν → (∀ c k, ¬ c = 72 → ν c k = μ c k) → Ev (K ν) Q) : ∀ (m k N : Nat) (ν : Mem), k + m = 49 → m < N → (∀ a b : Nat, a ≤ 2 * ((τ + 1) / 2) → b ≤ 2 * (τ / 2) → 7 * a + b < k → ν 72 (7 * a + b) = vS i j (T - τ) (stS s i j a b)) → (∀ l, k ≤ l → ν 72 l = μ 72 l) → (∀ c k, ¬ c = 72 → ν c k = μ c k) → Ev (fX2_duel_L118 K ((if τ % 2 = 0 then i else j : Nat) : Int) (τ : Int) ((if τ % 2 = 0 then 7 else 1 : Nat) : Int) N (k : Int) ν) Q := by
  have g6 := hg.2.1
  obtain ⟨-, -, gi⟩ := hg.2.2.2.2 i hi
  obtain ⟨-, -, gj⟩ := hg.2.2.2.2 j hj
  intro m
  induction m with
  | zero =>
    intro k N ν h1 h2 h3 h4 h5
    obtain ⟨N, rfl⟩ : ∃ j, N = j + 1 := ⟨N - 1, by omega⟩
    rw [fX2_duel_L118, if_pos (by omega)]
    exact hK ν (fun a b ha hb => h3 a b ha hb (by omega)) h5
  | succ m ih =>
    intro k N ν h1 h2 h3 h4 h5
    obtain ⟨N, rfl⟩ : ∃ j, N = j + 1 := ⟨N - 1, by omega⟩
    have hM' : MB 0 ν s := MB_congr hM g6 (fun c k hk => h5 _ _ (by omega))
    have em : (τ : Int).tmod 2 = ((τ % 2 : Nat) : Int) := tmod_nat τ 2
    have d7 : (k : Int).tdiv 7 = ((k / 7 : Nat) : Int) := tdiv_nat k 7
    have m7 : (k : Int).tmod 7 = ((k % 7 : Nat) : Int) := tmod_nat k 7
    have hb : 0 ≤ (k : Int) ∧ (k : Int) < 49 := by omega
    have nx : ∀ v, (∀ a b : Nat, a ≤ 2 * ((τ + 1) / 2) → b ≤ 2 * (τ / 2) → 7 * a + b = k → v = vS i j (T - τ) (stS s i j a b)) → Ev (fX2_duel_L118 K ((if τ % 2 = 0 then i else j : Nat) : Int) (τ : Int) ((if τ % 2 = 0 then 7 else 1 : Nat) : Int) N ((k + 1 : Nat) : Int) (wr ν 72 k v)) Q := fun v hv => by
      refine ih (k + 1) N _ (by omega) (by omega) (fun a b ha hb hab => ?_) (fun l hl => by rw [wr_ne (by omega), h4 l (by omega)]) (fun c k' hk => by rw [wr_ne (by omega), h5 _ _ hk])
      by_cases e : 7 * a + b = k
      · rw [wr_at (by omega)]
        exact hv a b ha hb e
      · rw [wr_ne (by omega)]
        exact h3 a b ha hb (by omega)
    rw [fX2_duel_L118, if_neg (by omega), em, d7, m7]
    clear em d7 m7
    have hf := fuel_lt
    generalize fuel = F at hf ⊢
    simp only [mlet_e, grd, if_pos hb, tn_c, w32_s (show k ≤ 2000000000 by omega)]
    obtain ⟨t, ht⟩ : ∃ t, T - τ = t + 1 := ⟨T - τ - 1, by omega⟩
    have hP' : ∀ a b : Nat, a ≤ 2 * ((τ + 1 + 1) / 2) → b ≤ 2 * ((τ + 1) / 2) → k ≤ 7 * a + b → ν 72 (7 * a + b) = vS i j t (stS s i j a b) := fun a b ha hb hab => by
      rw [h4 _ hab, hP a b ha hb, show T - (τ + 1) = t by omega]
    by_cases z : τ % 2 = 0
    · rw [if_neg (by omega), w32_i (z := ((k / 7 : Nat) : Int)) (by omega)]
      rw [if_pos z, if_pos z] at nx ⊢
      refine e_159 (s := s) hM' hg hi (by omega) (fun m hm1 hm2 => by omega) (by omega) (by omega) (by omega) (fun v hv => nx v (fun a b ha hb hab => ?_))
      have hka : k / 7 = a := by omega
      rw [hka] at hv
      rw [hv (by omega), show decide (τ % 2 = 0) = true from decide_eq_true z]
      have y0 := hP' a b (by omega) (by omega) (by omega)
      have y1 := hP' (a + 1) b (by omega) (by omega) (by omega)
      have y2 := hP' (a + 2) b (by omega) (by omega) (by omega)
      rw [show 7 * (a + 1) + b = k + 7 by omega] at y1
      rw [show 7 * (a + 2) + b = k + 2 * 7 by omega] at y2
      rw [hab] at y0
      rw [y0, y1, y2, ht]
      exact dres_i hij gi.1 (by omega)
    · rw [if_pos (by omega)]
      rw [if_neg z, if_neg z] at nx ⊢
      refine e_159 (s := s) hM' hg hj (by omega) (fun m hm1 hm2 => by omega) (by omega) (by omega) (by omega) (fun v hv => nx v (fun a b ha hb hab => ?_))
      have hkb : k % 7 = b := by omega
      rw [hkb] at hv
      rw [hv (by omega), show decide (τ % 2 = 0) = false from decide_eq_false z]
      have y0 := hP' a b (by omega) (by omega) (by omega)
      have y1 := hP' a (b + 1) (by omega) (by omega) (by omega)
      have y2 := hP' a (b + 2) (by omega) (by omega) (by omega)
      rw [show 7 * a + (b + 1) = k + 1 by omega] at y1
      rw [show 7 * a + (b + 2) = k + 2 * 1 by omega] at y2
      rw [hab] at y0
      rw [y0, y1, y2, ht]
      exact dres_j hij gj.1 (by omega)
theorem e_81 {s μ : Mem} {i j T : Nat} {K : Mem → Option (Int × Mem)} {Q : Int × Mem → Prop} (hM : MB 0 μ s) (hg : GB s) (hi : (i : Int) < s 0 0) (hj : (j : Int) < s 0 0) (hij : ¬ i = j) (hT : T % 2 = 0) (hT6 : T ≤ 6)
    (hK : ∀ ν, PT s i j T 0 ν → (∀ c k, ¬ c = 72 → ν c k = μ c k) → Ev (K ν) Q) : ∀ (τ N : Nat) (ν : Mem), τ ≤ T → τ < N → PT s i j T τ ν → (∀ c k, ¬ c = 72 → ν c k = μ c k) → Ev (fX2_duel_L81 K (j : Int) (i : Int) N ((τ : Int) - 1) ν) Q := by
  have g6 := hg.2.1
  intro τ
  induction τ with
  | zero =>
    intro N ν h1 h2 h3 h4
    obtain ⟨N, rfl⟩ : ∃ j, N = j + 1 := ⟨N - 1, by omega⟩
    rw [fX2_duel_L81, if_pos (by omega)]
    exact hK ν h3 h4
  | succ τ ih =>
    intro N ν h1 h2 h3 h4
    obtain ⟨N, rfl⟩ : ∃ j, N = j + 1 := ⟨N - 1, by omega⟩
    have em : (τ : Int).tmod 2 = ((τ % 2 : Nat) : Int) := tmod_nat τ 2
    rw [fX2_duel_L81, show ((τ + 1 : Nat) : Int) - 1 = (τ : Int) by omega, if_neg (by omega), em]
    clear em
    have hf := fuel_lt
    generalize fuel = F at hf ⊢
    simp only [mlet_e]
    have e9 := fun K Q hK => e_118 (μ := ν) (K := K) (Q := Q) (MB_congr hM g6 (fun c k hk => h4 _ _ (by omega))) hg hi hj hij hT (show τ < T by omega) hT6 h3 hK 49 0 F ν (by omega) (by omega) (fun a b _ _ h => absurd h (by omega)) (fun _ _ => rfl) (fun _ _ _ => rfl)
    have en : w32 ((τ : Int) + -1) = (τ : Int) - 1 := by
      rw [w32_i (by omega)]
      omega
    rw [en]
    by_cases z : τ % 2 = 0
    · rw [if_neg (by omega), if_neg (by omega)]
      rw [if_pos z, if_pos z] at e9
      exact e9 _ _ (fun ν' r1 r2 => ih N ν' (by omega) (by omega) r1 (fun c k hk => by rw [r2 _ _ hk, h4 _ _ hk]))
    · rw [if_pos (by omega), if_pos (by omega)]
      rw [if_neg z, if_neg z] at e9
      exact e9 _ _ (fun ν' r1 r2 => ih N ν' (by omega) (by omega) r1 (fun c k hk => by rw [r2 _ _ hk, h4 _ _ hk]))
theorem e_38 {s μ : Mem} {i j : Nat} {K : Mem → Option (Int × Mem)} {Q : Int × Mem → Prop} (hM : MB 0 μ s) (hg : GB s) (hi : (i : Int) < s 0 0) (hj : (j : Int) < s 0 0) (hij : ¬ i = j)
    (hK : ∀ ν, (∀ k, k < 49 → ν 72 k = vS i j 0 (stS s i j (k / 7) (k % 7))) → (∀ c k, ¬ (c = 61 ∧ 3284 ≤ k) → ¬ c = 72 → ν c k = μ c k) → Ev (K ν) Q) : ∀ (m k N : Nat) (ν : Mem), k + m = 49 → m < N → (∀ l, l < k → ν 72 l = vS i j 0 (stS s i j (l / 7) (l % 7))) → (∀ c k, ¬ (c = 61 ∧ 3284 ≤ k) → ¬ c = 72 → ν c k = μ c k) → Ev (fX2_duel_L38 K (i : Int) (j : Int) N (k : Int) ν) Q := by
  have g6 := hg.2.1
  intro m
  induction m with
  | zero =>
    intro k N ν h1 h2 h3 h4
    obtain ⟨N, rfl⟩ : ∃ j, N = j + 1 := ⟨N - 1, by omega⟩
    obtain rfl : k = 49 := by omega
    rw [fX2_duel_L38, if_pos (by omega)]
    exact hK ν h3 h4
  | succ m ih =>
    intro k N ν h1 h2 h3 h4
    obtain ⟨N, rfl⟩ : ∃ j, N = j + 1 := ⟨N - 1, by omega⟩
    have d7 : (k : Int).tdiv 7 = ((k / 7 : Nat) : Int) := tdiv_nat k 7
    have m7 : (k : Int).tmod 7 = ((k % 7 : Nat) : Int) := tmod_nat k 7
    rw [fX2_duel_L38, if_neg (by omega), d7, m7]
    clear d7 m7
    rw [w32_i (z := ((k / 7 : Nat) : Int)) (by omega), ev_bnd2]
    refine ev_mono (e_comes (s := s) (MB_congr hM g6 (fun c k hk => h4 _ _ (by omega) (by omega))) hg hi hj hij (a := k / 7) (b := k % 7) (by omega) (by omega)) (fun q hq => ?_)
    obtain ⟨q1, q2⟩ := hq
    have hb : 0 ≤ (k : Int) ∧ (k : Int) < 49 := by omega
    simp only [mlet_e, grd, if_pos hb, tn_c, w32_s (show k ≤ 2000000000 by omega)]
    refine ih (k + 1) N _ (by omega) (by omega) (fun l hl => ?_) (fun c k' c1 c2 => by rw [wr_ne (by omega), q2 _ _ c1, h4 _ _ c1 c2])
    by_cases e : l = k
    · rw [e, wr_at (by omega), q1]
    · rw [wr_ne (by omega), q2 _ _ (by omega), h3 l (by omega)]
theorem P_duel {i j n : Int} {μ : Mem} (h : Inv μ) : Same (fX1_duel i j n μ) (fX2_duel i j n) := by
  obtain ⟨s, hR, hC, hM, hg, h0, h40, h61⟩ := Inv_now h
  have g0 := hg.1
  have g6 := hg.2.1
  have c4 := hC.1
  have m4 := hM.1
  by_cases a : 0 ≤ i ∧ i < s 0 0
  · by_cases b : 0 ≤ j ∧ j < s 0 0
    · by_cases e : i = j
      · refine same_of (v := -1) (μ1 := μ) (μ2 := μ) ?_ ?_ h
        · unfold fX1_duel
          simp (disch := omega) only [e_has, e_within, bnd2_some, bd_some, b01_t, b01_f, if_pos, if_neg, mlet_e, grd, ite_true, ite_false, not_true_eq_false, not_false_eq_true, ite_self, tn_c, w32_i]
        · unfold fX2_duel
          have hf := fuel_lt
          generalize fuel = N at hf ⊢
          simp (disch := omega) only [e_isOne, e_in, bnd2_some, bd_some, b01_t, b01_f, if_pos, if_neg, mlet_e, grd, ite_true, ite_false, not_true_eq_false, not_false_eq_true, ite_self, tn_c, w32_i]
      · by_cases f : 0 ≤ n ∧ n ≤ 3
        · obtain ⟨i, rfl⟩ : ∃ k : Nat, i = k := ⟨i.toNat, by omega⟩
          obtain ⟨j, rfl⟩ : ∃ k : Nat, j = k := ⟨j.toNat, by omega⟩
          obtain ⟨n, rfl⟩ : ∃ k : Nat, n = k := ⟨n.toNat, by omega⟩
          have hij : ¬ i = j := by omega
          obtain ⟨μa, a1, a2, a3⟩ := e_become (b := 25) (b' := 20) (by omega) hC hg
          have e2n : w32 (2 * (n : Int)) = ((2 * n : Nat) : Int) := by
            rw [w32_i (by omega)]
            omega
          have eo := e_outcome (b := 25) (i := i) (j := j) (2 * n) 8 μa s (by omega) (by omega) a2 hg a.2 b.2
          have E1 : fX1_duel (i : Int) (j : Int) (n : Int) μ = some (1, wr μa 0 11 (vS i j (2 * n) s)) := by
            unfold fX1_duel fX1_outcome
            simp (disch := omega) only [e_has, e_within, bd_some, b01_t, if_neg, if_pos, a1, e2n, eo, bnd2_some, e_tell]
          refine ⟨_, E1, ?_⟩
          dsimp only
          generalize hμ1 : wr μa 0 11 (vS i j (2 * n) s) = μ1
          have f1 : ∀ c k, ¬ (25 ≤ c ∧ c ≤ 29) → ¬ (c = 0 ∧ k = 11) → μ1 c k = μ c k := fun c k c1 c2 => by
            rw [← hμ1, wr_ne c2, a3 _ _ (by omega)]
          have hM1 : MB 0 μ1 s := MB_congr hM g6 (fun c k hk => f1 _ _ (by omega) (by omega))
          have m5 := hM1.1
          have e2m : w32 (w32 (2 * (n : Int)) - 1) = ((2 * n : Nat) : Int) - 1 := by
            rw [e2n, w32_i (by omega)]
          unfold fX2_duel
          have hf := fuel_lt
          generalize fuel = N at hf ⊢
          simp (disch := omega) only [e_isOne, e_in, bd_some, b01_t, if_neg, if_pos, mlet_e, e2m]
          refine e_38 (s := s) hM1 hg a.2 b.2 hij (fun ν1 r1 r2 => ?_) 49 0 N μ1 (by omega) (by omega) (fun l hl => absurd hl (by omega)) (fun _ _ _ _ => rfl)
          have hM2 : MB 0 ν1 s := MB_congr hM1 g6 (fun c k hk => r2 _ _ (by omega) (by omega))
          refine e_81 (T := 2 * n) hM2 hg a.2 b.2 hij (by omega) (by omega) (fun ν2 t1 t2 => ?_) (2 * n) N ν1 (by omega) (by omega) (fun a' b' ha hb => ?_) (fun _ _ _ => rfl)
          · have hst : stS s i j 0 0 = s := by
              obtain ⟨-, -, gi⟩ := hg.2.2.2.2 i a.2
              obtain ⟨-, -, gj⟩ := hg.2.2.2.2 j b.2
              unfold stS
              have x1 : mmin 20 (s 3 i + ((0 : Nat) : Int)) = s 3 i := by unfold mmin; split <;> omega
              have x2 : mmin 20 (s 3 j + ((0 : Nat) : Int)) = s 3 j := by unfold mmin; split <;> omega
              rw [x1, x2, wr_id (c := 3) (k := i) rfl, wr_id rfl]
            have hv : ν2 72 0 = vS i j (2 * n) s := by
              have := t1 0 0 (by omega) (by omega)
              rw [hst] at this
              exact this
            refine ev_some.mpr ⟨rfl, ?_⟩
            dsimp only
            rw [hv]
            have fz : ∀ c k, ¬ fre c k → ¬ (c = 0 ∧ k = 11) → ν2 c k = μ c k := fun c k c1 c2 => by
              unfold fre at c1
              rw [t2 _ _ (by omega), r2 _ _ (by omega) (by omega), f1 _ _ (by omega) c2]
            refine Inv_set h (fun c k q1 q2 => ?_) ?_
            · unfold tol at q2
              rw [wr_ne (by omega), fz _ _ q1 (by omega)]
            · obtain ⟨t3, t4, t5, t6, t7⟩ := h.2.2.1
              have nf : ∀ c k, ((c = 0) ∨ (c = 60 ∧ k < 12) ∨ c = 36 ∨ c = 67) → ¬ fre c k := fun c k hc => by unfold fre; omega
              refine ⟨?_, ?_, ?_, ?_, fun g hg => ?_⟩
              · rw [wr_at (by omega), wr_ne (by omega), t2 _ _ (by omega), r2 _ _ (by omega) (by omega), ← hμ1, wr_at (by omega)]
              · rw [wr_ne (by omega), wr_ne (by omega), fz _ _ (nf _ _ (by omega)) (by omega), fz _ _ (nf _ _ (by omega)) (by omega)]
                exact t4
              · rw [wr_ne (by omega), wr_ne (by omega), fz _ _ (nf _ _ (by omega)) (by omega), fz _ _ (nf _ _ (by omega)) (by omega)]
                exact t5
              · rw [wr_ne (by omega), wr_ne (by omega), fz _ _ (nf _ _ (by omega)) (by omega), fz _ _ (nf _ _ (by omega)) (by omega)]
                exact t6
              · rw [wr_ne (by omega), wr_ne (by omega), fz _ _ (nf _ _ (by omega)) (by omega), fz _ _ (nf _ _ (by omega)) (by omega)]
                exact t7 g hg
          · rw [r1 (7 * a' + b') (by omega), Nat.sub_self, show (7 * a' + b') / 7 = a' by omega, show (7 * a' + b') % 7 = b' by omega]
        · refine same_of (v := -1) (μ1 := μ) (μ2 := μ) ?_ ?_ h
          · unfold fX1_duel
            simp (disch := omega) only [e_has, e_within, bnd2_some, bd_some, b01_t, b01_f, if_pos, if_neg, mlet_e, grd, ite_true, ite_false, not_true_eq_false, not_false_eq_true, ite_self, tn_c, w32_i]
          · unfold fX2_duel
            have hf := fuel_lt
            generalize fuel = N at hf ⊢
            simp (disch := omega) only [e_isOne, e_in, bnd2_some, bd_some, b01_t, b01_f, if_pos, if_neg, mlet_e, grd, ite_true, ite_false, not_true_eq_false, not_false_eq_true, ite_self, tn_c, w32_i]
    · refine same_of (v := -1) (μ1 := μ) (μ2 := μ) ?_ ?_ h
      · unfold fX1_duel
        simp (disch := omega) only [e_has, e_within, bnd2_some, bd_some, b01_t, b01_f, if_pos, if_neg, mlet_e, grd, ite_true, ite_false, not_true_eq_false, not_false_eq_true, ite_self, tn_c, w32_i]
      · unfold fX2_duel
        have hf := fuel_lt
        generalize fuel = N at hf ⊢
        simp (disch := omega) only [e_isOne, e_in, bnd2_some, bd_some, b01_t, b01_f, if_pos, if_neg, mlet_e, grd, ite_true, ite_false, not_true_eq_false, not_false_eq_true, ite_self, tn_c, w32_i]
  · refine same_of (v := -1) (μ1 := μ) (μ2 := μ) ?_ ?_ h
    · unfold fX1_duel
      simp (disch := omega) only [e_has, e_within, bnd2_some, bd_some, b01_t, b01_f, if_pos, if_neg, mlet_e, grd, ite_true, ite_false, not_true_eq_false, not_false_eq_true, ite_self, tn_c, w32_i]
    · unfold fX2_duel
      have hf := fuel_lt
      generalize fuel = N at hf ⊢
      simp (disch := omega) only [e_isOne, e_in, bnd2_some, bd_some, b01_t, b01_f, if_pos, if_neg, mlet_e, grd, ite_true, ite_false, not_true_eq_false, not_false_eq_true, ite_self, tn_c, w32_i]
