/-! A RIVER BY CELLS: the law's own walk -/
theorem L_put {τ : Mem} {i : Nat} {v : Int} (h14 : τ 14 0 = 40) (h : τ 10 i = 32) (hi : i < 40) (hv : 0 ≤ v ∧ v ≤ 127) : fX1_put 0 (i : Int) v τ = some (1032, wr τ 10 i v) := by
  have := C_put (n := 40) (i := i) (v := v) (μ := τ) h14 (by omega) hi hv (by omega)
  rw [this, h]
  rfl
theorem RW_step {μ0 ν : Mem} {n k : Nat} {R D A : Nat} (hk : k < n) (hn : n ≤ 6) (h : RW μ0 n k ν) (hR : R < 6) (hD : D ≤ 9) (hA : A ≤ 20) :
    RW μ0 n (k + 1) (wr (wr (wr (wr (wr (wr (wr ν 60 (1 + k) (R : Int)) 61 (2 + k) (D : Int)) 61 (8 + k) (A : Int)) 10 (3 + 5 * k) (ltr (R : Int))) 10 (4 + 5 * k) (48 + (D : Int))) 10 (5 + 5 * k) (48 + ((A : Int)).tdiv 10)) 10 (6 + 5 * k) (48 + ((A : Int)).tmod 10)) := by
  obtain ⟨⟨a1, a2, a3⟩, a4, ⟨f0, f1, f2, v1, v2⟩, a5, a6⟩ := h
  dsimp only at f0 f1 f2 a5 a6
  refine ⟨⟨?_, ?_, ?_⟩, fun c j c1 c2 c3 c4 => ?_, ⟨?_, ?_, ?_, ?_, ?_⟩, fun i hi => ?_, fun j j1 j2 => ?_⟩
  · simp (disch := omega) only [wr_ne]
    exact a1
  · simp (disch := omega) only [wr_ne]
    exact a2
  · simp (disch := omega) only [wr_ne]
    exact a3
  · simp (disch := omega) only [wr_ne]
    exact a4 c j c1 c2 c3 c4
  · simp (disch := omega) only [wr_ne]
    exact f0
  · simp (disch := omega) only [wr_ne]
    exact f1
  · simp (disch := omega) only [wr_ne]
    exact f2
  · simp (disch := omega) only [wr_ne]
    exact v1
  · simp (disch := omega) only [wr_ne]
    exact v2
  · by_cases e : i = k
    · subst e
      have b := a6 (7 + 5 * i) (by omega) (by omega)
      simp (disch := omega) only [wr_ne, wr_at]
      exact ⟨by omega, by omega, by omega, trivial, trivial, trivial, trivial, b⟩
    · have := a5 i (by omega)
      simp (disch := omega) only [wr_ne]
      exact this
  · simp (disch := omega) only [wr_ne]
    exact a6 j (by omega) j2
theorem tn_35 {k a : Nat} : ((a : Nat) : Int) + 5 * (k : Int) = ((a + 5 * k : Nat) : Int) := by omega
theorem w32_5k {k : Nat} (h : k < 6) : w32 (3 + w32 (5 * (k : Int))) = ((3 + 5 * k : Nat) : Int) := by
  rw [w32_i (z := 5 * (k : Int)) (by omega), w32_i (by omega)]
  omega
theorem w32_n {a b : Nat} (h : a ≤ 1000) (h2 : b ≤ 1000) : w32 (((a : Nat) : Int) + (b : Int)) = ((a + b : Nat) : Int) := by
  rw [w32_i (by omega)]
  omega
theorem w32_48 {D : Nat} (h : D ≤ 20) : w32 (48 + (D : Int)) = 48 + (D : Int) := w32_i (by omega)
theorem w32_td {A : Nat} (h : A ≤ 20) : w32 (48 + w32 (((A : Int)).tdiv 10)) = 48 + ((A : Int)).tdiv 10 := by
  have := td10 (a := (A : Int)) (by omega)
  rw [w32_i (z := ((A : Int)).tdiv 10) (by omega), w32_i (by omega)]
theorem w32_tm {A : Nat} (h : A ≤ 20) : w32 (48 + ((A : Int)).tmod 10) = 48 + ((A : Int)).tmod 10 := by
  have := td10 (a := (A : Int)) (by omega)
  exact w32_i (by omega)
theorem L_river_L {σ : Scr} {x1 : Int} {n : Nat} {μ0 : Mem} {K : Int → Mem → Option (Int × Mem)} {Q : Int × Mem → Prop} (hn : n ≤ 6) (hK : ∀ ν, RW μ0 n n ν → Ev (K 1 ν) Q) : ∀ (m k N : Nat) (ν : Mem), k + m = n → m < N → RW μ0 n k ν → Ev (fL_river_L106 K σ x1 N 1 (k : Int) ν) Q := by
  intro m
  induction m with
  | zero =>
    intro k N ν e1 e2 h
    obtain ⟨N, rfl⟩ : ∃ j, N = j + 1 := ⟨N - 1, by omega⟩
    obtain rfl : k = n := by omega
    rw [fL_river_L106, if_pos (by rw [h.1.1]; omega)]
    exact hK ν h
  | succ m ih =>
    intro k N ν e1 e2 h
    obtain ⟨N, rfl⟩ : ∃ j, N = j + 1 := ⟨N - 1, by omega⟩
    have k6 : k < 6 := by omega
    have r1 : 0 ≤ 1 + (k : Int) ∧ 1 + (k : Int) < 7 := by omega
    have r2 : 0 ≤ 2 + (k : Int) ∧ 2 + (k : Int) < 20 := by omega
    have r8 : 0 ≤ 8 + (k : Int) ∧ 8 + (k : Int) < 20 := by omega
    obtain ⟨y, hy⟩ := L_cell (σ := σ) (μ := ν) (p := 1 + (k : Int)) (by omega)
    obtain ⟨R, g1, g2⟩ := L_low (x := y) (n := 6) (μ := ν) (by omega)
    have g1' : fL_low y 6 ν = some (R : Int) := g1
    have f14 : ν 14 0 = 40 := h.1.2.2
    have f32 : ∀ j, 3 + 5 * k ≤ j → j < 40 → ν 10 j = 32 := h.2.2.2.2
    have hl := ltr_rng (R : Int)
    -- what is left behind the three numbers
    have main : ∀ D A : Nat, D ≤ 9 → A ≤ 20 → Ev ((fL_letter (wr (wr (wr ν 60 (1 + k) (R : Int)) 61 (2 + k) (D : Int)) 61 (8 + k) (A : Int) 60 (1 + k)) (wr (wr (wr ν 60 (1 + k) (R : Int)) 61 (2 + k) (D : Int)) 61 (8 + k) (A : Int))).bind fun x47 =>
            bnd2 (fX1_put 0 ((3 + 5 * k : Nat) : Int) x47 (wr (wr (wr ν 60 (1 + k) (R : Int)) 61 (2 + k) (D : Int)) 61 (8 + k) (A : Int))) fun x48 μ49 =>
            if ¬ x48 = 1032 then
              fL_river_L106 K σ x1 N 0 ((k + 1 : Nat) : Int) μ49
            else
              bnd2 (fX1_put 0 (w32 (((3 + 5 * k : Nat) : Int) + 1)) (w32 (48 + (μ49 61 (2 + k)))) μ49) fun x50 μ51 =>
              if ¬ x50 = 1032 then
                fL_river_L106 K σ x1 N 0 ((k + 1 : Nat) : Int) μ51
              else
                bnd2 (fX1_put 0 (w32 (((3 + 5 * k : Nat) : Int) + 2)) (w32 (48 + (w32 ((μ51 61 (8 + k)).tdiv 10)))) μ51) fun x52 μ53 =>
                if ¬ x52 = 1032 then
                  fL_river_L106 K σ x1 N 0 ((k + 1 : Nat) : Int) μ53
                else
                  bnd2 (fX1_put 0 (w32 (((3 + 5 * k : Nat) : Int) + 3)) (w32 (48 + ((μ53 61 (8 + k)).tmod 10))) μ53) fun x54 μ55 =>
                  if ¬ x54 = 1032 then
                    fL_river_L106 K σ x1 N 0 ((k + 1 : Nat) : Int) μ55
                  else
                    fL_river_L106 K σ x1 N 1 ((k + 1 : Nat) : Int) μ55) Q := by
      intro D A hD hA
      have ht := td10 (a := (A : Int)) (by omega)
      have hst := RW_step (R := R) (D := D) (A := A) (by omega) hn h g2 hD hA
      have e60 : wr (wr (wr ν 60 (1 + k) (R : Int)) 61 (2 + k) (D : Int)) 61 (8 + k) (A : Int) 60 (1 + k) = (R : Int) := by rw [wr_ne (by omega), wr_ne (by omega), wr_at (by omega)]
      rw [e60, L_letter, bd_some]
      have w1 : w32 (((3 + 5 * k : Nat) : Int) + 1) = ((4 + 5 * k : Nat) : Int) := by
        have := w32_n (a := 3 + 5 * k) (b := 1) (by omega) (by omega)
        rw [show 3 + 5 * k + 1 = 4 + 5 * k by omega] at this
        exact this
      have w2 : w32 (((3 + 5 * k : Nat) : Int) + 2) = ((5 + 5 * k : Nat) : Int) := by
        have := w32_n (a := 3 + 5 * k) (b := 2) (by omega) (by omega)
        rw [show 3 + 5 * k + 2 = 5 + 5 * k by omega] at this
        exact this
      have w3 : w32 (((3 + 5 * k : Nat) : Int) + 3) = ((6 + 5 * k : Nat) : Int) := by
        have := w32_n (a := 3 + 5 * k) (b := 3) (by omega) (by omega)
        rw [show 3 + 5 * k + 3 = 6 + 5 * k by omega] at this
        exact this
      rw [w1, w2, w3]
      clear w1 w2 w3
      rw [L_put (by simp (disch := omega) only [wr_ne]; exact f14) (by simp (disch := omega) only [wr_ne]; exact f32 _ (by omega) (by omega)) (by omega) (by omega), bnd2_some, if_neg (by omega)]
      have e61 : ∀ x, wr (wr (wr (wr ν 60 (1 + k) (R : Int)) 61 (2 + k) (D : Int)) 61 (8 + k) (A : Int)) 10 (3 + 5 * k) x 61 (2 + k) = (D : Int) := fun x => by rw [wr_ne (by omega), wr_ne (by omega), wr_at (by omega)]
      rw [e61, w32_48 (by omega)]
      rw [L_put (by simp (disch := omega) only [wr_ne]; exact f14) (by simp (disch := omega) only [wr_ne]; exact f32 _ (by omega) (by omega)) (by omega) (by omega), bnd2_some, if_neg (by omega)]
      have e62 : ∀ x y, wr (wr (wr (wr (wr ν 60 (1 + k) (R : Int)) 61 (2 + k) (D : Int)) 61 (8 + k) (A : Int)) 10 (3 + 5 * k) x) 10 (4 + 5 * k) y 61 (8 + k) = (A : Int) := fun x y => by rw [wr_ne (by omega), wr_ne (by omega), wr_at (by omega)]
      rw [e62, w32_td hA]
      rw [L_put (by simp (disch := omega) only [wr_ne]; exact f14) (by simp (disch := omega) only [wr_ne]; exact f32 _ (by omega) (by omega)) (by omega) (by omega), bnd2_some, if_neg (by omega)]
      have e63 : ∀ x y z, wr (wr (wr (wr (wr (wr ν 60 (1 + k) (R : Int)) 61 (2 + k) (D : Int)) 61 (8 + k) (A : Int)) 10 (3 + 5 * k) x) 10 (4 + 5 * k) y) 10 (5 + 5 * k) z 61 (8 + k) = (A : Int) := fun x y z => by rw [wr_ne (by omega), wr_ne (by omega), wr_ne (by omega), wr_at (by omega)]
      rw [e63, w32_tm hA]
      rw [L_put (by simp (disch := omega) only [wr_ne]; exact f14) (by simp (disch := omega) only [wr_ne]; exact f32 _ (by omega) (by omega)) (by omega) (by omega), bnd2_some, if_neg (by omega)]
      exact ih (k + 1) N _ (by omega) (by omega) hst
    have door : ∀ D : Nat, D ≤ 9 → Ev ((fun (x37 : Int) => (fL_low (bshr y 7) x37 (wr (wr ν 60 (1 + k) (R : Int)) 61 (2 + k) (D : Int))).bind fun x39 => (fL_letter (wr (wr (wr ν 60 (1 + k) (R : Int)) 61 (2 + k) (D : Int)) 61 (8 + k) x39 60 (1 + k)) (wr (wr (wr ν 60 (1 + k) (R : Int)) 61 (2 + k) (D : Int)) 61 (8 + k) x39)).bind fun x47 =>
            bnd2 (fX1_put 0 ((3 + 5 * k : Nat) : Int) x47 (wr (wr (wr ν 60 (1 + k) (R : Int)) 61 (2 + k) (D : Int)) 61 (8 + k) x39)) fun x48 μ49 =>
            if ¬ x48 = 1032 then
              fL_river_L106 K σ x1 N 0 ((k + 1 : Nat) : Int) μ49
            else
              bnd2 (fX1_put 0 (w32 (((3 + 5 * k : Nat) : Int) + 1)) (w32 (48 + (μ49 61 (2 + k)))) μ49) fun x50 μ51 =>
              if ¬ x50 = 1032 then
                fL_river_L106 K σ x1 N 0 ((k + 1 : Nat) : Int) μ51
              else
                bnd2 (fX1_put 0 (w32 (((3 + 5 * k : Nat) : Int) + 2)) (w32 (48 + (w32 ((μ51 61 (8 + k)).tdiv 10)))) μ51) fun x52 μ53 =>
                if ¬ x52 = 1032 then
                  fL_river_L106 K σ x1 N 0 ((k + 1 : Nat) : Int) μ53
                else
                  bnd2 (fX1_put 0 (w32 (((3 + 5 * k : Nat) : Int) + 3)) (w32 (48 + ((μ53 61 (8 + k)).tmod 10))) μ53) fun x54 μ55 =>
                  if ¬ x54 = 1032 then
                    fL_river_L106 K σ x1 N 0 ((k + 1 : Nat) : Int) μ55
                  else
                    fL_river_L106 K σ x1 N 1 ((k + 1 : Nat) : Int) μ55) (if ¬ (band (bshr x1 21) 1) = 0 then 8 else 21)) Q := by
      intro D hD
      dsimp only
      by_cases c : ¬ (band (bshr x1 21) 1) = 0
      · rw [if_pos c]
        obtain ⟨A, q1, q2⟩ := L_low (x := bshr y 7) (n := 8) (μ := wr (wr ν 60 (1 + k) (R : Int)) 61 (2 + k) (D : Int)) (by omega)
        have q1' : fL_low (bshr y 7) 8 (wr (wr ν 60 (1 + k) (R : Int)) 61 (2 + k) (D : Int)) = some (A : Int) := q1
        rw [q1', bd_some]
        exact main D A hD (by omega)
      · rw [if_neg c]
        obtain ⟨A, q1, q2⟩ := L_low (x := bshr y 7) (n := 21) (μ := wr (wr ν 60 (1 + k) (R : Int)) 61 (2 + k) (D : Int)) (by omega)
        have q1' : fL_low (bshr y 7) 21 (wr (wr ν 60 (1 + k) (R : Int)) 61 (2 + k) (D : Int)) = some (A : Int) := q1
        rw [q1', bd_some]
        exact main D A hD (by omega)
    dsimp only at door
    rw [fL_river_L106, if_neg (by rw [h.1.1]; omega)]
    simp only [w32_1i k6, w32_2i k6, w32_8i k6, w32_5k k6, tn_1i, tn_2i, tn_8i, hy, g1', bd_some, mlet_e, grd, if_pos r1, if_pos r2, if_pos r8, w32_s (show k ≤ 2000000000 by omega), if_neg (show ¬ (1 : Int) = 0 by omega)]
    by_cases c : ¬ (band (bshr x1 20) 1) = 0
    · rw [if_pos c]
      obtain ⟨D, q1, q2⟩ := L_low (x := bshr y 3) (n := 3) (μ := wr ν 60 (1 + k) (R : Int)) (by omega)
      have q1' : fL_low (bshr y 3) 3 (wr ν 60 (1 + k) (R : Int)) = some (D : Int) := q1
      rw [q1', bd_some]
      have dd9 := door D (by omega)
      by_cases c2 : ¬ (band (bshr x1 21) 1) = 0
      · rw [if_pos c2] at dd9 ⊢
        exact dd9
      · rw [if_neg c2] at dd9 ⊢
        exact dd9
    · rw [if_neg c]
      obtain ⟨D, q1, q2⟩ := L_low (x := bshr y 3) (n := 10) (μ := wr ν 60 (1 + k) (R : Int)) (by omega)
      have q1' : fL_low (bshr y 3) 10 (wr ν 60 (1 + k) (R : Int)) = some (D : Int) := q1
      rw [q1', bd_some]
      have dd9 := door D (by omega)
      by_cases c2 : ¬ (band (bshr x1 21) 1) = 0
      · rw [if_pos c2] at dd9 ⊢
        exact dd9
      · rw [if_neg c2] at dd9 ⊢
        exact dd9
theorem L_river_Z {K : Mem → Option (Int × Mem)} : ∀ (m k N : Nat) (ν : Mem), k + m = 20 → m < N → fL_river_L22 K N (k : Int) (filM ν 61 k 0) = K (filM ν 61 20 0) := by
  intro m
  induction m with
  | zero =>
    intro k N ν e1 e2
    obtain ⟨N, rfl⟩ : ∃ j, N = j + 1 := ⟨N - 1, by omega⟩
    obtain rfl : k = 20 := by omega
    rw [fL_river_L22, if_pos (by omega)]
  | succ m ih =>
    intro k N ν e1 e2
    obtain ⟨N, rfl⟩ : ∃ j, N = j + 1 := ⟨N - 1, by omega⟩
    rw [fL_river_L22, if_neg (by omega), grd, if_pos (by omega), tn_c, mlet_e, mlet_e, filM_step_I, w32_s (by omega)]
    exact ih (k + 1) N ν (by omega) (by omega)
/-- what the law's river leaves as it is -/
def Fr (μ ν : Mem) : Prop := ∀ c j, ¬ c = 0 → ¬ c = 10 → ¬ (c = 14 ∧ j = 0) → ¬ (15 ≤ c ∧ c ≤ 29) → ¬ (35 ≤ c ∧ c ≤ 61) → ν c j = μ c j
theorem L_river {σ : Scr} {μ : Mem} : ∃ ν s0, fL_river σ μ = some (1, ν) ∧ 1 ≤ s0 0 0 ∧ CB 15 ν s0 ∧ Nw 0 s0 ν ∧ bnd 0 s0 ∧ LV s0 ν ∧ ν 14 0 = 40 ∧ rdS (fun j => ν 10 j) 40 = (-9, s0) ∧ (∀ k, k < 3 → ν 35 k = -1) ∧ Fr μ ν := by
  obtain ⟨x1, hx⟩ := L_cell (σ := σ) (μ := μ) (p := 0) (by omega)
  obtain ⟨p, a1, a2⟩ := L_low (x := x1) (n := 6) (μ := μ) (by omega)
  have a1' : fL_low x1 6 μ = some (p : Int) := a1
  have hf := fuel_lt
  have e1 : w32 (1 + (p : Int)) = ((1 + p : Nat) : Int) := by
    rw [w32_i (by omega)]
    omega
  generalize hρ : filM (wr μ 60 0 ((1 + p : Nat) : Int)) 61 20 0 = ρ
  obtain ⟨v, b1, b2⟩ := L_low (x := bshr x1 3) (n := 10) (μ := ρ) (by omega)
  have b1' : fL_low (bshr x1 3) 10 ρ = some (v : Int) := b1
  have c1 := C_text (n := 40) (μ := wr ρ 61 1 (v : Int)) (by omega)
  have c1' : fX1_text 0 40 (wr ρ 61 1 (v : Int)) = some (40, filM (wr (wr ρ 61 1 (v : Int)) 14 0 40) 10 60 32) := c1
  generalize hτ : filM (wr (wr ρ 61 1 (v : Int)) 14 0 40) 10 60 32 = τ at c1'
  have t14 : τ 14 0 = 40 := by rw [← hτ, filM_ne (by omega), wr_at (by omega)]
  have t10 : ∀ j, j < 60 → τ 10 j = 32 := fun j hj => by rw [← hτ, filM_at (by omega)]
  have p0 := L_put (i := 0) (v := 102) t14 (t10 0 (by omega)) (by omega) (by omega)
  have p0' : fX1_put 0 0 102 τ = some (1032, wr τ 10 0 102) := p0
  have t61 : wr τ 10 0 102 61 1 = (v : Int) := by rw [wr_ne (by omega), ← hτ, filM_ne (by omega), wr_ne (by omega), wr_at (by omega)]
  have p1 := L_put (τ := wr τ 10 0 102) (i := 1) (v := 48 + (v : Int)) (by rw [wr_ne (by omega)]; exact t14) (by rw [wr_ne (by omega)]; exact t10 1 (by omega)) (by omega) (by omega)
  have p1' : fX1_put 0 1 (48 + (v : Int)) (wr τ 10 0 102) = some (1032, wr (wr τ 10 0 102) 10 1 (48 + (v : Int))) := p1
  have R0 : RW μ (1 + p) 0 (wr (wr τ 10 0 102) 10 1 (48 + (v : Int))) := by
    refine ⟨⟨?_, ?_, ?_⟩, fun c j c1 c2 c3 c4 => ?_, ⟨?_, ?_, ?_, ?_, ?_⟩, fun i hi => absurd hi (by omega), fun j j1 j2 => ?_⟩
    · rw [wr_ne (by omega), wr_ne (by omega), ← hτ, filM_ne (by omega), wr_ne (by omega), wr_ne (by omega), ← hρ, filM_ne (by omega), wr_at (by omega)]
    · rw [wr_ne (by omega), wr_ne (by omega), ← hτ, filM_ne (by omega), wr_ne (by omega), wr_ne (by omega), ← hρ, filM_at (by omega)]
    · rw [wr_ne (by omega), wr_ne (by omega)]
      exact t14
    · rw [wr_ne (by omega), wr_ne (by omega), ← hτ, filM_ne (by omega), wr_ne (by omega), wr_ne (by omega), ← hρ, filM_ne (by omega), wr_ne (by omega)]
    · dsimp only
      rw [wr_ne (by omega), wr_at (by omega)]
    · dsimp only
      rw [wr_at (by omega), wr_ne (by omega), t61]
    · dsimp only
      rw [wr_ne (by omega), wr_ne (by omega)]
      exact t10 2 (by omega)
    · rw [wr_ne (by omega), t61]
      omega
    · rw [wr_ne (by omega), t61]
      omega
    · dsimp only
      rw [wr_ne (by omega), wr_ne (by omega)]
      exact t10 j (by omega)
  have K9 : Ev (fL_river σ μ) (fun q => q.1 = 1 ∧ ∃ s0, 1 ≤ s0 0 0 ∧ CB 15 q.2 s0 ∧ Nw 0 s0 q.2 ∧ bnd 0 s0 ∧ LV s0 q.2 ∧ q.2 14 0 = 40 ∧ rdS (fun j => q.2 10 j) 40 = (-9, s0) ∧ (∀ k, k < 3 → q.2 35 k = -1) ∧ Fr μ q.2) := by
    unfold fL_river
    rw [hx, bd_some, a1', bd_some, e1]
    clear e1
    generalize fuel = N at hf ⊢
    have z := fun K => L_river_Z (K := K) 20 0 N (wr μ 60 0 ((1 + p : Nat) : Int)) (by omega) (by omega)
    have fz : filM (wr μ 60 0 ((1 + p : Nat) : Int)) 61 0 0 = wr μ 60 0 ((1 + p : Nat) : Int) := by
      funext c k
      exact filM_ne (by omega)
    rw [fz, hρ] at z
    have z' : ∀ K, fL_river_L22 K N 0 (wr μ 60 0 ((1 + p : Nat) : Int)) = K ρ := z
    simp only [mlet_e, z', b1', bd_some, c1', bnd2_some, if_neg (show ¬ ¬ (40 : Int) = 40 by omega), p0', if_neg (show ¬ ¬ (1032 : Int) = 1032 by omega), t61, w32_48 (show v ≤ 20 by omega), p1']
    refine L_river_L (by omega) (fun ν hν => ?_) (1 + p) 0 N _ (by omega) (by omega) R0
    rw [if_neg (by omega)]
    obtain ⟨⟨r1, r2, r3⟩, r4, r5⟩ := hν
    have hrd := TX_rd r5 (by omega) (by omega)
    obtain ⟨ν1, d1, d2⟩ := C_fault (n := 40) (μ := ν) r3 (by omega)
    rw [hrd] at d1
    have r5c := r5
    have e10 : (fun j => ν1 10 j) = fun j => ν 10 j := funext fun j => d2 _ _ (by omega) (by omega) (by omega)
    obtain ⟨ν2, f1, f2, f3, f4, f5⟩ := C_river (n := 40) (μ := ν1) (by rw [d2 _ _ (by omega) (by omega) (by omega)]; exact r3) (by omega) (by rw [e10, hrd])
    rw [e10, hrd] at f1 f2 f3
    generalize hs : pS (ν 61 1) (fun i => ν 60 (1 + i)) (fun i => ν 61 (2 + i)) (fun i => ν 61 (8 + i)) (1 + p) = s0 at *
    have hz := pS_0 (ν 61 1) (fun i => ν 60 (1 + i)) (fun i => ν 61 (2 + i)) (fun i => ν 61 (8 + i)) (1 + p)
    have hnn := pS_n (ν 61 1) (fun i => ν 60 (1 + i)) (fun i => ν 61 (2 + i)) (fun i => ν 61 (8 + i)) (1 + p)
    rw [hs] at hz hnn
    obtain ⟨z1, z2, z3⟩ := hz
    have f60 : ∀ c k, 60 ≤ c → ν2 c k = ν c k := fun c k hc => by rw [f5 _ _ (by omega) (by omega) (by omega), d2 _ _ (by omega) (by omega) (by omega)]
    dsimp only at d1 f1
    rw [d1, bnd2_some, if_neg (fun w => w rfl), f1, bnd2_some, f60 _ _ (by omega), r1, if_neg (by rw [z1]; exact fun w => w rfl)]
    refine ev_some.mpr ⟨rfl, s0, by omega, f2, f3, ⟨by rw [z3]; omega, fun i hi => ?_⟩, ⟨by dsimp only; rw [f60 _ _ (by omega), r1, z1], by dsimp only; rw [f60 _ _ (by omega), r2, z3], by dsimp only; rw [f60 _ _ (by omega), z2], fun i hi => ?_⟩, ?_, ?_, f4, fun c j c1 c2 c3 c4 c5 => ?_⟩
    · obtain ⟨-, -, -, n4⟩ := hnn i (by omega)
      rw [n4]
      omega
    · obtain ⟨n1, n2, n3, -⟩ := hnn i (by omega)
      dsimp only
      rw [f60 _ _ (by omega), f60 _ _ (by omega), f60 _ _ (by omega), n1, n2, n3]
      exact ⟨rfl, rfl, rfl⟩
    · dsimp only
      rw [f5 _ _ (by omega) (by omega) (by omega), d2 _ _ (by omega) (by omega) (by omega)]
      exact r3
    · dsimp only
      rw [show (fun j => ν2 10 j) = fun j => ν 10 j from funext fun j => by rw [f5 _ _ (by omega) (by omega) (by omega), d2 _ _ (by omega) (by omega) (by omega)], hrd]
    · dsimp only
      rw [f5 _ _ c1 c4 (by omega), d2 _ _ (by omega) (by omega) (by omega), r4 _ _ (by omega) (by omega) c2 c3]
  obtain ⟨⟨a, ν⟩, k1, k2, s0, k3⟩ := K9
  dsimp only at k2 k3
  subst k2
  exact ⟨ν, s0, k1, k3⟩
