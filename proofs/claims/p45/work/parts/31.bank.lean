/-! BANKS: both sides come to the spec -/
theorem band_1 (x : Int) : band x 1 = 0 ∨ band x 1 = 1 := by
  unfold band
  have h : (Int32.ofInt x &&& Int32.ofInt 1).toInt = ((Int32.ofInt x).toBitVec &&& 1#32).toInt := rfl
  rw [h]
  generalize (Int32.ofInt x).toBitVec = v
  rw [BitVec.and_one_eq_setWidth_ofBool_getLsbD]
  cases v.getLsbD 0
  · exact Or.inl (by decide)
  · exact Or.inr (by decide)
theorem e_fe {d : Int} {μ : Mem} : fX1_fearfulBoldness d μ = some (fe d) := by
  unfold fX1_fearfulBoldness fe
  by_cases h : 5 ≤ d
  · simp (disch := omega) only [bnd2_some, bd_some, b01_t, b01_f, if_pos, if_neg, mlet_e, grd, ite_true, ite_false, not_true_eq_false, not_false_eq_true, tn_c, w32_i]
  · simp (disch := omega) only [bnd2_some, bd_some, b01_t, b01_f, if_pos, if_neg, mlet_e, grd, ite_true, ite_false, not_true_eq_false, not_false_eq_true, tn_c, w32_i]
theorem e_be {d : Int} {μ : Mem} : fX1_betBoldness d μ = some (be d) := by
  unfold fX1_betBoldness be
  by_cases h : 3 ≤ d
  · simp (disch := omega) only [bnd2_some, bd_some, b01_t, b01_f, if_pos, if_neg, mlet_e, grd, ite_true, ite_false, not_true_eq_false, not_false_eq_true, tn_c, w32_i]
  · simp (disch := omega) only [bnd2_some, bd_some, b01_t, b01_f, if_pos, if_neg, mlet_e, grd, ite_true, ite_false, not_true_eq_false, not_false_eq_true, tn_c, w32_i]
theorem fe_rng {d : Int} (h : 0 ≤ d ∧ d ≤ 1000) : 0 ≤ fe d ∧ fe d ≤ 1000 := by
  unfold fe
  split <;> omega
theorem be_rng {d : Int} (h : 0 ≤ d) : 0 ≤ be d ∧ be d ≤ 3 := by
  unfold be
  split <;> omega
theorem e_bold {k d num f : Int} {μ : Mem} (hd : 0 ≤ d ∧ d ≤ 1000) (hf : 0 ≤ f) : fX1_boldness k d num f μ = some (dar k d num f) := by
  have h1 := fe_rng hd
  have h2 := be_rng hf
  unfold fX1_boldness dar
  simp only [e_fe, e_be, bd_some]
  by_cases k1 : k = 1
  · by_cases e : num.tmod 2 = 0
    · simp (disch := omega) only [bnd2_some, bd_some, b01_t, b01_f, if_pos, if_neg, mlet_e, grd, ite_true, ite_false, not_true_eq_false, not_false_eq_true, tn_c, w32_i]
    · simp (disch := omega) only [bnd2_some, bd_some, b01_t, b01_f, if_pos, if_neg, mlet_e, grd, ite_true, ite_false, not_true_eq_false, not_false_eq_true, tn_c, w32_i]
  · by_cases k2 : k = 2
    · simp (disch := omega) only [bnd2_some, bd_some, b01_t, b01_f, if_pos, if_neg, mlet_e, grd, ite_true, ite_false, not_true_eq_false, not_false_eq_true, tn_c, w32_i]
    · by_cases k4 : k = 4
      · simp (disch := omega) only [bnd2_some, bd_some, b01_t, b01_f, if_pos, if_neg, mlet_e, grd, ite_true, ite_false, not_true_eq_false, not_false_eq_true, tn_c, w32_i]
      · by_cases k5 : k = 5
        · by_cases e : fe d < 10
          · simp (disch := omega) only [bnd2_some, bd_some, b01_t, b01_f, if_pos, if_neg, mlet_e, grd, ite_true, ite_false, not_true_eq_false, not_false_eq_true, tn_c, w32_i]
            unfold mmax
            simp (disch := omega) only [bnd2_some, bd_some, b01_t, b01_f, if_pos, if_neg, mlet_e, grd, ite_true, ite_false, not_true_eq_false, not_false_eq_true, tn_c, w32_i]
          · simp (disch := omega) only [bnd2_some, bd_some, b01_t, b01_f, if_pos, if_neg, mlet_e, grd, ite_true, ite_false, not_true_eq_false, not_false_eq_true, tn_c, w32_i]
            unfold mmax
            by_cases e2 : 0 < 10 - fe d
            · omega
            · simp (disch := omega) only [bnd2_some, bd_some, b01_t, b01_f, if_pos, if_neg, mlet_e, grd, ite_true, ite_false, not_true_eq_false, not_false_eq_true, tn_c, w32_i]
        · simp (disch := omega) only [bnd2_some, bd_some, b01_t, b01_f, if_pos, if_neg, mlet_e, grd, ite_true, ite_false, not_true_eq_false, not_false_eq_true, tn_c, w32_i]
theorem far_rng {s : Mem} {i : Nat} (hg : GB s) (hi : (i : Int) < s 0 0) : 0 ≤ far s i ∧ far s i ≤ 9 := by
  obtain ⟨g1, g2, g3, g4, g5⟩ := hg
  obtain ⟨-, g6, -⟩ := g5 i hi
  unfold far
  split <;> omega
theorem e_farOf {b i : Nat} {μ s : Mem} (hc : CB b μ s) (hg : GB s) (hi : (i : Int) < s 0 0) : fX0_farOf b (i : Int) μ = some (far s i) := by
  obtain ⟨c1, c2, c3, c4⟩ := hc
  obtain ⟨-, c5, -, -⟩ := c4 i hi
  obtain ⟨g1, g2, g3, g4, g5⟩ := hg
  obtain ⟨-, g6, -⟩ := g5 i hi
  unfold fX0_farOf mabs far
  rw [← c2, ← c5] at *
  by_cases h : μ b 5 ≤ μ (b + 2) i
  · by_cases h2 : 0 ≤ μ b 5 - μ (b + 2) i
    · simp (disch := omega) only [bnd2_some, bd_some, b01_t, b01_f, if_pos, if_neg, mlet_e, grd, ite_true, ite_false, not_true_eq_false, not_false_eq_true, tn_c, w32_i]
      congr 1
      omega
    · simp (disch := omega) only [bnd2_some, bd_some, b01_t, b01_f, if_pos, if_neg, mlet_e, grd, ite_true, ite_false, not_true_eq_false, not_false_eq_true, tn_c, w32_i]
      congr 1
      omega
  · simp (disch := omega) only [bnd2_some, bd_some, b01_t, b01_f, if_pos, if_neg, mlet_e, grd, ite_true, ite_false, not_true_eq_false, not_false_eq_true, tn_c, w32_i]
theorem e_boldAt {b i : Nat} {d : Int} {μ s : Mem} (hc : CB b μ s) (hg : GB s) (hi : (i : Int) < s 0 0) (hd : 0 ≤ d ∧ d ≤ 1000) : fX0_boldnessAt b (i : Int) d μ = some (dar (s 1 i) d (s 0 2) (far s i)) := by
  have h1 := far_rng hg hi
  have h6 := hg.2.1
  obtain ⟨c4, -, -, -⟩ := hc.2.2.2 i hi
  unfold fX0_boldnessAt
  rw [e_farOf hc hg hi]
  simp (disch := omega) only [bnd2_some, bd_some, b01_t, b01_f, if_pos, if_neg, mlet_e, grd, ite_true, ite_false, not_true_eq_false, not_false_eq_true, tn_c, w32_i]
  rw [e_bold hd h1.1, c4, hc.2.2.1]
  simp (disch := omega) only [bnd2_some, bd_some, b01_t, b01_f, if_pos, if_neg, mlet_e, grd, ite_true, ite_false, not_true_eq_false, not_false_eq_true, tn_c, w32_i]
theorem e_behind {b i j : Nat} {μ s : Mem} (hc : CB b μ s) (hg : GB s) (hi : (i : Int) < s 0 0) (hj : (j : Int) < s 0 0) : fX0_isBehind b (j : Int) (i : Int) μ = some (b01 (far s i < far s j ∨ (far s i = far s j ∧ i < j))) := by
  unfold fX0_isBehind
  rw [e_farOf hc hg hi, e_farOf hc hg hj]
  by_cases h1 : far s j = far s i
  · by_cases h2 : j ≤ i
    · simp (disch := omega) only [bnd2_some, bd_some, b01_t, b01_f, if_pos, if_neg, mlet_e, grd, ite_true, ite_false, not_true_eq_false, not_false_eq_true, tn_c, w32_i]
    · simp (disch := omega) only [bnd2_some, bd_some, b01_t, b01_f, if_pos, if_neg, mlet_e, grd, ite_true, ite_false, not_true_eq_false, not_false_eq_true, tn_c, w32_i]
  · by_cases h2 : far s j ≤ far s i
    · simp (disch := omega) only [bnd2_some, bd_some, b01_t, b01_f, if_pos, if_neg, mlet_e, grd, ite_true, ite_false, not_true_eq_false, not_false_eq_true, tn_c, w32_i]
    · simp (disch := omega) only [bnd2_some, bd_some, b01_t, b01_f, if_pos, if_neg, mlet_e, grd, ite_true, ite_false, not_true_eq_false, not_false_eq_true, tn_c, w32_i]
theorem holdR_rng (s : Mem) (p : Int) : ∀ k : Nat, (holdR s p k).1 = -9 ∨ ∃ i : Nat, (holdR s p k).1 = (i : Int) ∧ i < k
  | 0 => Or.inl rfl
  | k + 1 => by
    unfold holdR hstep
    split
    · exact Or.inr ⟨k, rfl, by omega⟩
    · rcases holdR_rng s p k with h | ⟨i, h1, h2⟩
      · exact Or.inl h
      · exact Or.inr ⟨i, h1, by omega⟩
theorem hold_rng {s : Mem} {p : Int} (hg : GB s) : hold s p = -9 ∨ ∃ i : Nat, hold s p = (i : Int) ∧ (i : Int) < s 0 0 := by
  have h0 := hg.1
  rcases holdR_rng s p (s 0 0).toNat with h | ⟨i, h1, h2⟩
  · exact Or.inl h
  · exact Or.inr ⟨i, h1, by omega⟩
theorem e_holder_L {b : Nat} {p : Int} {μ s : Mem} (hc : CB b μ s) (hg : GB s) : ∀ (m k N : Nat), k + m = (s 0 0).toNat → m < N → fX0_holder_L8 μ b p N (holdR s p k).1 (holdR s p k).2 (k : Int) = some (hold s p) := by
  have g0 := hg.1
  have g6 := hg.2.1
  intro m
  induction m with
  | zero =>
    intro k N h1 h2
    obtain ⟨N, rfl⟩ : ∃ j, N = j + 1 := ⟨N - 1, by omega⟩
    rw [fX0_holder_L8, hc.1, if_pos (by omega)]
    obtain rfl : k = (s 0 0).toNat := by omega
    rfl
  | succ m ih =>
    intro k N h1 h2
    obtain ⟨N, rfl⟩ : ∃ j, N = j + 1 := ⟨N - 1, by omega⟩
    have hk : (k : Int) < s 0 0 := by omega
    have ih' := ih (k + 1) N (by omega) (by omega)
    obtain ⟨c1, c2, c3, c4⟩ := hc.2.2.2 k hk
    obtain ⟨-, -, g3⟩ := hg.2.2.2.2 k hk
    have eb : (if band (bshr p (k : Int)) 1 = 0 then (if 0 ≤ (k : Int) ∧ (k : Int) < 6 then (fX0_boldnessAt b (k : Int) (μ (b + 3) (k : Int).toNat) μ) else none) else some 0) = some (byP s p k) := by
      unfold byP byS
      by_cases q : band (bshr p (k : Int)) 1 = 0
      · rw [if_pos q, if_pos q, if_pos (by omega), tn_c, c3, e_boldAt hc hg hk (by omega)]
      · rw [if_neg q, if_neg q]
    have main : ∀ x5 : Int, x5 = byP s p k → (if (holdR s p k).2 < x5 then fX0_holder_L8 μ b p N (k : Int) x5 ((k + 1 : Nat) : Int) else if (holdR s p k).1 = -9 then fX0_holder_L8 μ b p N (holdR s p k).1 (holdR s p k).2 ((k + 1 : Nat) : Int) else if ¬ x5 = (holdR s p k).2 then fX0_holder_L8 μ b p N (holdR s p k).1 (holdR s p k).2 ((k + 1 : Nat) : Int) else (fX0_isBehind b (holdR s p k).1 (k : Int) μ).bind fun x12 => if x12 = 0 then fX0_holder_L8 μ b p N (holdR s p k).1 (holdR s p k).2 ((k + 1 : Nat) : Int) else fX0_holder_L8 μ b p N (k : Int) x5 ((k + 1 : Nat) : Int)) = some (hold s p) := by
      rintro x5 rfl
      rw [holdR, hstep] at ih'
      by_cases a1 : (holdR s p k).2 < byP s p k
      · rw [if_pos a1]
        rw [if_pos (Or.inl a1)] at ih'
        exact ih'
      · rw [if_neg a1]
        by_cases a2 : (holdR s p k).1 = -9
        · rw [if_pos a2]
          rw [if_neg (by omega)] at ih'
          exact ih'
        · rw [if_neg a2]
          by_cases a3 : byP s p k = (holdR s p k).2
          · rw [if_neg (by omega)]
            rcases holdR_rng s p k with h | ⟨i, e1, e2⟩
            · exact absurd h a2
            · rw [e1, e_behind hc hg hk (by omega)]
              rw [e1] at ih'
              rw [tn_c] at ih'
              by_cases a4 : far s k < far s i
              · rw [if_pos (by omega)] at ih'
                simp (disch := omega) only [bnd2_some, bd_some, b01_t, b01_f, if_pos, if_neg, mlet_e, grd, ite_true, ite_false, not_true_eq_false, not_false_eq_true, tn_c, w32_i]
                exact ih'
              · rw [if_neg (by omega), e1] at ih'
                simp (disch := omega) only [bnd2_some, bd_some, b01_t, b01_f, if_pos, if_neg, mlet_e, grd, ite_true, ite_false, not_true_eq_false, not_false_eq_true, tn_c, w32_i]
                exact ih'
          · rw [if_pos a3]
            rw [if_neg (by omega)] at ih'
            exact ih'
    rw [fX0_holder_L8]
    rw [if_neg (by rw [hc.1]; omega)]
    simp only [mlet_e, w32_s (show k ≤ 2000000000 by omega), grd]
    by_cases q : band (bshr p (k : Int)) 1 = 0
    · rw [if_pos q] at eb ⊢
      rw [if_pos (by omega)] at eb ⊢
      rw [eb, bd_some]
      exact main _ rfl
    · rw [if_neg q] at eb ⊢
      exact main _ (Option.some.inj eb)
theorem e_holder {b : Nat} {p : Int} {μ s : Mem} (hc : CB b μ s) (hg : GB s) : fX0_holder b p μ = some (hold s p) := by
  have g0 := hg.1
  have g6 := hg.2.1
  unfold fX0_holder
  have hf := fuel_lt
  generalize fuel = N at hf ⊢
  exact e_holder_L hc hg (s 0 0).toNat 0 N (by omega) (by omega)
/-! the model's side -/
theorem tn_a1 {a : Nat} : ((a : Int) + 1).toNat = a + 1 := by omega
theorem tn_a2 {a : Nat} : ((a : Int) + 2).toNat = a + 2 := by omega
theorem tn_a3 {a b : Nat} : ((a : Int) + 3 + (b : Int)).toNat = a + 3 + b := by omega
theorem tn_a9 {a b : Nat} : ((a : Int) + 9 + (b : Int)).toNat = a + 9 + b := by omega
theorem tn_a15 {a b : Nat} : ((a : Int) + 15 + (b : Int)).toNat = a + 15 + b := by omega
