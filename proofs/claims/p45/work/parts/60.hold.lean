/-! WHO HAS THE FORD: by what it is known -/
def Bt (s : Mem) (p : Int) (i j : Nat) : Prop := byP s p j < byP s p i ∨ (byP s p j = byP s p i ∧ (far s i < far s j ∨ (far s i = far s j ∧ i < j)))
def HR (s : Mem) (p : Int) (k : Nat) (q : Int × Int) : Prop := (q.1 = -9 ∧ q.2 = 0 ∧ ∀ j, j < k → byP s p j ≤ 0) ∨ ∃ i : Nat, i < k ∧ q.1 = (i : Int) ∧ q.2 = byP s p i ∧ 0 < byP s p i ∧ ∀ j, j < k → ¬ j = i → Bt s p i j
theorem HR_all (s : Mem) (p : Int) : ∀ k, HR s p k (holdR s p k)
  | 0 => Or.inl ⟨rfl, rfl, fun j hj => absurd hj (by omega)⟩
  | k + 1 => by
    rcases HR_all s p k with ⟨h1, h2, h3⟩ | ⟨i, hi, h1, h2, h3, h4⟩
    · unfold holdR hstep
      by_cases a : 0 < byP s p k
      · rw [if_pos (Or.inl (by omega))]
        refine Or.inr ⟨k, by omega, rfl, rfl, a, fun j hj hne => Or.inl ?_⟩
        have := h3 j (by omega)
        omega
      · rw [if_neg (by omega)]
        refine Or.inl ⟨h1, h2, fun j hj => ?_⟩
        by_cases e : j = k
        · rw [e]; omega
        · exact h3 j (by omega)
    · unfold holdR hstep
      by_cases a : byP s p i < byP s p k ∨ (byP s p k = byP s p i ∧ far s k < far s i)
      · rw [if_pos (by rw [h1, h2, tn_c]; omega)]
        refine Or.inr ⟨k, by omega, rfl, rfl, by omega, fun j hj hne => ?_⟩
        unfold Bt
        by_cases e : j = i
        · rw [e]; omega
        · have := h4 j (by omega) e
          unfold Bt at this
          omega
      · rw [if_neg (by rw [h1, h2, tn_c]; omega)]
        refine Or.inr ⟨i, by omega, h1, h2, h3, fun j hj hne => ?_⟩
        by_cases e : j = k
        · unfold Bt
          rw [e]
          omega
        · exact h4 j (by omega) hne
theorem hold_none {s : Mem} {p : Int} (hg : GB s) : hold s p = -9 ↔ ∀ j : Nat, (j : Int) < s 0 0 → byP s p j ≤ 0 := by
  have g0 := hg.1
  rcases HR_all s p (s 0 0).toNat with ⟨h1, h2, h3⟩ | ⟨i, hi, h1, h2, h3, h4⟩
  · exact ⟨fun _ j hj => h3 j (by omega), fun _ => h1⟩
  · constructor
    · intro h
      unfold hold at h
      omega
    · intro h
      have := h i (by omega)
      omega
theorem hold_iff {s : Mem} {p : Int} {i : Nat} (hg : GB s) (hi : (i : Int) < s 0 0) : hold s p = (i : Int) ↔ 0 < byP s p i ∧ ∀ j : Nat, (j : Int) < s 0 0 → ¬ j = i → Bt s p i j := by
  have g0 := hg.1
  rcases HR_all s p (s 0 0).toNat with ⟨h1, h2, h3⟩ | ⟨i', hi', h1, h2, h3, h4⟩
  · constructor
    · intro h
      unfold hold at h
      omega
    · intro h
      have := h3 i (by omega)
      omega
  · constructor
    · intro h
      unfold hold at h
      obtain rfl : i' = i := by omega
      exact ⟨h3, fun j hj hne => h4 j (by omega) hne⟩
    · intro h
      by_cases e : i' = i
      · subst e
        exact h1
      · exfalso
        have a := h.2 i' (by omega) e
        have b := h4 i (by omega) (fun q => e q.symm)
        unfold Bt at a b
        omega
theorem band_0 (k : Nat) : band (bshr 0 (k : Int)) 1 = 0 := by
  have h : bshr 0 (k : Int) = 0 := by
    unfold bshr
    rw [show Int32.ofInt 0 = 0 from rfl, Int32.zero_shiftRight]
    rfl
  rw [h]
  decide
theorem byP_0 (s : Mem) (k : Nat) : byP s 0 k = byS s k := by
  unfold byP
  rw [if_pos (band_0 k)]
theorem byS_rng {s : Mem} {i : Nat} (hg : GB s) (hi : (i : Int) < s 0 0) : 0 ≤ byS s i ∧ byS s i ≤ 2003 := by
  have h := tol_rng hg hi
  have hf := far_rng hg hi
  unfold byS
  exact dar_rng (by omega) hf.1
/-- who has it next, by daring -/
def BtS (s : Mem) (i j : Nat) : Prop := byS s j < byS s i ∨ (byS s j = byS s i ∧ (far s i < far s j ∨ (far s i = far s j ∧ i < j)))
theorem hold0_iff {s : Mem} {i : Nat} (hg : GB s) (hi : (i : Int) < s 0 0) : hold s 0 = (i : Int) ↔ 0 < byS s i ∧ ∀ j : Nat, (j : Int) < s 0 0 → ¬ j = i → BtS s i j := by
  rw [hold_iff hg hi]
  unfold Bt BtS
  simp only [byP_0]
theorem hold0_none {s : Mem} (hg : GB s) : hold s 0 = -9 ↔ ∀ j : Nat, (j : Int) < s 0 0 → byS s j = 0 := by
  rw [hold_none hg]
  simp only [byP_0]
  constructor
  · intro h j hj
    have := h j hj
    have := byS_rng hg hj
    omega
  · intro h j hj
    have := h j hj
    omega
/-! the law's own river: cells 60 and 61 -/
def LV (s μ : Mem) : Prop := μ 60 0 = s 0 0 ∧ μ 61 0 = s 0 2 ∧ μ 61 1 = s 0 1 ∧ ∀ i : Nat, (i : Int) < s 0 0 → μ 60 (1 + i) = s 1 i ∧ μ 61 (2 + i) = s 2 i ∧ μ 61 (8 + i) = s 3 i
theorem band_p1 {x : Int} (h : 0 ≤ x ∧ x ≤ 1000) : band x 1 = x.tmod 2 := by
  have h1 : x.tmod 2 = x % 2 := by rw [Int.tmod_eq_emod_of_nonneg h.1]
  rw [h1]
  unfold band
  have e : (Int32.ofInt x &&& Int32.ofInt 1) = Int32.ofInt (x % 2) := by
    apply Int32.toBitVec_inj.mp
    apply BitVec.eq_of_toNat_eq
    rw [Int32.toBitVec_and, BitVec.toNat_and]
    have e2 : ∀ z : Int, 0 ≤ z → z ≤ 1000 → (Int32.ofInt z).toBitVec.toNat = z.toNat := by
      intro z h0 h1
      have : (Int32.ofInt z).toBitVec = BitVec.ofInt 32 z := rfl
      rw [this, BitVec.toNat_ofInt]
      omega
    rw [e2 x (by omega) (by omega), e2 1 (by omega) (by omega), e2 (x % 2) (by omega) (by omega)]
    rw [show (1 : Int).toNat = 1 from rfl, Nat.and_one_is_mod]
    omega
  rw [e, tiK (by unfold okI; omega)]
theorem L_dares {k d num f : Int} {μ : Mem} (hd : 0 ≤ d ∧ d ≤ 20) (hf : 0 ≤ f ∧ f ≤ 9) (hn : 0 ≤ num ∧ num ≤ 1000) : fL_dares k d num f μ = some (dar k d num f) := by
  have hb := band_p1 hn
  have ht : num.tmod 2 = 0 ∨ num.tmod 2 = 1 := by
    rw [Int.tmod_eq_emod_of_nonneg hn.1]
    omega
  unfold fL_dares dar fe be
  rw [hb]
  simp only [mlet_e]
  by_cases k1 : k = 1
  · rcases ht with ht | ht
    · rw [ht]
      by_cases a : d ≤ 4
      · simp (disch := omega) only [bnd2_some, bd_some, b01_t, b01_f, if_pos, if_neg, mlet_e, grd, ite_true, ite_false, not_true_eq_false, not_false_eq_true, ite_self, tn_c, w32_i]
        congr 1
        omega
      · simp (disch := omega) only [bnd2_some, bd_some, b01_t, b01_f, if_pos, if_neg, mlet_e, grd, ite_true, ite_false, not_true_eq_false, not_false_eq_true, ite_self, tn_c, w32_i]
        congr 1
        omega
    · rw [ht]
      by_cases a : d ≤ 4
      · simp (disch := omega) only [bnd2_some, bd_some, b01_t, b01_f, if_pos, if_neg, mlet_e, grd, ite_true, ite_false, not_true_eq_false, not_false_eq_true, ite_self, tn_c, w32_i]
        congr 1
        omega
      · simp (disch := omega) only [bnd2_some, bd_some, b01_t, b01_f, if_pos, if_neg, mlet_e, grd, ite_true, ite_false, not_true_eq_false, not_false_eq_true, ite_self, tn_c, w32_i]
        congr 1
        omega
  · by_cases k2 : k = 2
    · by_cases a : d ≤ 4
      · simp (disch := omega) only [bnd2_some, bd_some, b01_t, b01_f, if_pos, if_neg, mlet_e, grd, ite_true, ite_false, not_true_eq_false, not_false_eq_true, ite_self, tn_c, w32_i]
      · simp (disch := omega) only [bnd2_some, bd_some, b01_t, b01_f, if_pos, if_neg, mlet_e, grd, ite_true, ite_false, not_true_eq_false, not_false_eq_true, ite_self, tn_c, w32_i]
    · by_cases k4 : k = 4
      · by_cases a : d ≤ 4
        · by_cases b : f < 3
          · simp (disch := omega) only [bnd2_some, bd_some, b01_t, b01_f, if_pos, if_neg, mlet_e, grd, ite_true, ite_false, not_true_eq_false, not_false_eq_true, ite_self, tn_c, w32_i]
          · by_cases b3 : f = 3
            · simp (disch := omega) only [bnd2_some, bd_some, b01_t, b01_f, if_pos, if_neg, mlet_e, grd, ite_true, ite_false, not_true_eq_false, not_false_eq_true, ite_self, tn_c, w32_i]
              rw [b3]
            · simp (disch := omega) only [bnd2_some, bd_some, b01_t, b01_f, if_pos, if_neg, mlet_e, grd, ite_true, ite_false, not_true_eq_false, not_false_eq_true, ite_self, tn_c, w32_i]
        · by_cases b : f < 3
          · simp (disch := omega) only [bnd2_some, bd_some, b01_t, b01_f, if_pos, if_neg, mlet_e, grd, ite_true, ite_false, not_true_eq_false, not_false_eq_true, ite_self, tn_c, w32_i]
          · by_cases b3 : f = 3
            · simp (disch := omega) only [bnd2_some, bd_some, b01_t, b01_f, if_pos, if_neg, mlet_e, grd, ite_true, ite_false, not_true_eq_false, not_false_eq_true, ite_self, tn_c, w32_i]
              rw [b3]
            · simp (disch := omega) only [bnd2_some, bd_some, b01_t, b01_f, if_pos, if_neg, mlet_e, grd, ite_true, ite_false, not_true_eq_false, not_false_eq_true, ite_self, tn_c, w32_i]
      · by_cases k5 : k = 5
        · by_cases a : d ≤ 4
          · simp (disch := omega) only [bnd2_some, bd_some, b01_t, b01_f, if_pos, if_neg, mlet_e, grd, ite_true, ite_false, not_true_eq_false, not_false_eq_true, ite_self, tn_c, w32_i]
          · by_cases b : d < 10
            · simp (disch := omega) only [bnd2_some, bd_some, b01_t, b01_f, if_pos, if_neg, mlet_e, grd, ite_true, ite_false, not_true_eq_false, not_false_eq_true, ite_self, tn_c, w32_i]
            · by_cases b3 : d = 10
              · simp (disch := omega) only [bnd2_some, bd_some, b01_t, b01_f, if_pos, if_neg, mlet_e, grd, ite_true, ite_false, not_true_eq_false, not_false_eq_true, ite_self, tn_c, w32_i]
                rw [b3]
                rfl
              · simp (disch := omega) only [bnd2_some, bd_some, b01_t, b01_f, if_pos, if_neg, mlet_e, grd, ite_true, ite_false, not_true_eq_false, not_false_eq_true, ite_self, tn_c, w32_i]
        · by_cases a : d ≤ 4
          · simp (disch := omega) only [bnd2_some, bd_some, b01_t, b01_f, if_pos, if_neg, mlet_e, grd, ite_true, ite_false, not_true_eq_false, not_false_eq_true, ite_self, tn_c, w32_i]
          · simp (disch := omega) only [bnd2_some, bd_some, b01_t, b01_f, if_pos, if_neg, mlet_e, grd, ite_true, ite_false, not_true_eq_false, not_false_eq_true, ite_self, tn_c, w32_i]
theorem L_far {a b : Int} {μ : Mem} (ha : 0 ≤ a ∧ a ≤ 9) (hb : 0 ≤ b ∧ b ≤ 9) : fL_far a b μ = some (if b ≤ a then a - b else b - a) := by
  unfold fL_far
  by_cases q : b ≤ a
  · rw [if_pos q, if_pos q, w32_i (by omega)]
  · rw [if_neg q, if_neg q, w32_i (by omega)]
theorem tn_1i {i : Nat} : (1 + (i : Int)).toNat = 1 + i := by omega
theorem tn_2i {i : Nat} : (2 + (i : Int)).toNat = 2 + i := by omega
theorem tn_8i {i : Nat} : (8 + (i : Int)).toNat = 8 + i := by omega
theorem tn_14i {i : Nat} : (14 + (i : Int)).toNat = 14 + i := by omega
theorem w32_1i {i : Nat} (h : i < 6) : w32 (1 + (i : Int)) = 1 + (i : Int) := w32_i (by omega)
theorem w32_2i {i : Nat} (h : i < 6) : w32 (2 + (i : Int)) = 2 + (i : Int) := w32_i (by omega)
theorem w32_8i {i : Nat} (h : i < 6) : w32 (8 + (i : Int)) = 8 + (i : Int) := w32_i (by omega)
theorem w32_14i {i : Nat} (h : i < 6) : w32 (14 + (i : Int)) = 14 + (i : Int) := w32_i (by omega)
theorem L_farOf {s μ : Mem} {i : Nat} (hv : LV s μ) (hg : GB s) (hi : (i : Int) < s 0 0) : fL_far (μ 61 (2 + i)) (μ 61 1) μ = some (far s i) := by
  have h := tol_rng hg hi
  obtain ⟨v1, v2, v3, v4⟩ := hv
  have v5 := (v4 i hi).2.1
  have g := hg.2.2
  rw [v3, v5, L_far h.2.1 ⟨g.1, g.2.1⟩]
  rfl
theorem L_daresNow {s μ : Mem} {i : Nat} (hv : LV s μ) (hg : GB s) (hn : 0 ≤ s 0 2 ∧ s 0 2 ≤ 1000) (hi : (i : Int) < s 0 0) : fL_daresNow (i : Int) μ = some (byS s i) := by
  have g6 := hg.2.1
  have h := tol_rng hg hi
  have hf := far_rng hg hi
  have e1 := L_farOf hv hg hi
  obtain ⟨v1, v2, v3, v4⟩ := hv
  obtain ⟨v5, v6, v7⟩ := v4 i hi
  unfold fL_daresNow
  have i6 : i < 6 := by omega
  rw [w32_1i i6, w32_2i i6, w32_8i i6, tn_1i, tn_2i, tn_8i, e1, v5, v7, v2]
  simp (disch := omega) only [grd, if_pos, bd_some, L_dares h.2.2 hf hn]
  rfl
/-- 10 times daring and 9 more, less the distance -/
def ownS (s : Mem) (i : Nat) : Int := 10 * byS s i + 9 - far s i
theorem L_most_L {s μ : Mem} (hv : LV s μ) (hg : GB s) (hn : 0 ≤ s 0 2 ∧ s 0 2 ≤ 1000) : ∀ (k N : Nat) (x2 x3 : Int), (k : Int) ≤ s 0 0 → k < N →
    ((x2 = -9 ∧ x3 = 0 ∧ ∀ j : Nat, k ≤ j → (j : Int) < s 0 0 → byS s j = 0) ∨ ∃ i : Nat, k ≤ i ∧ (i : Int) < s 0 0 ∧ x2 = (i : Int) ∧ x3 = ownS s i ∧ 0 < byS s i ∧ ∀ j : Nat, k ≤ j → (j : Int) < s 0 0 → ¬ j = i → BtS s i j) →
    fL_most_L13 μ 0 N x2 x3 ((k : Int) - 1) = some (hold s 0) := by
  have g0 := hg.1
  have g6 := hg.2.1
  intro k
  induction k with
  | zero =>
    intro N x2 x3 h1 h2 h
    obtain ⟨N, rfl⟩ : ∃ j, N = j + 1 := ⟨N - 1, by omega⟩
    rw [fL_most_L13, if_pos (by omega)]
    rcases h with ⟨a1, a2, a3⟩ | ⟨i, a1, a2, a3, a4, a5, a6⟩
    · rw [a1, (hold0_none hg).mpr (fun j hj => a3 j (by omega) hj)]
    · rw [a3, (hold0_iff hg a2).mpr ⟨a5, fun j hj hne => a6 j (by omega) hj hne⟩]
  | succ k ih =>
    intro N x2 x3 h1 h2 h
    obtain ⟨N, rfl⟩ : ∃ j, N = j + 1 := ⟨N - 1, by omega⟩
    have hk : (k : Int) < s 0 0 := by omega
    have e0 : ((k + 1 : Nat) : Int) - 1 = (k : Int) := by omega
    have e2 : w32 ((k : Int) + (-1)) = (k : Int) - 1 := w32_i (by omega)
    have hb := byS_rng hg hk
    have hf := far_rng hg hk
    have k6 : k < 6 := by omega
    have w9 : w32 (w32 (w32 (10 * byS s k) + 9) - far s k) = ownS s k := by
      unfold ownS
      rw [w32_i (z := 10 * byS s k) (by omega), w32_i (z := 10 * byS s k + 9) (by omega), w32_i (by omega)]
    have eb : ¬ band (bshr 0 (k : Int)) 1 = 1 := by
      rw [band_0]
      omega
    rw [fL_most_L13, e0, if_neg (show ¬ (k : Int) < 0 by omega)]
    simp only [mlet_e]
    rw [if_pos eb, L_daresNow hv hg hn hk]
    simp only [bd_some, e2, w32_2i k6, tn_2i, L_farOf hv hg hk, w9]
    clear w9 e2
    simp (disch := omega) only [grd, if_pos]
    have own : ∀ i : Nat, ownS s i = 10 * byS s i + 9 - far s i := fun i => rfl
    by_cases b0 : byS s k ≤ 0
    · rw [if_pos b0]
      refine ih N x2 x3 (by omega) (by omega) ?_
      rcases h with ⟨a1, a2, a3⟩ | ⟨i, a1, a2, a3, a4, a5, a6⟩
      · refine Or.inl ⟨a1, a2, fun j hj hj2 => ?_⟩
        by_cases e : j = k
        · rw [e]; omega
        · exact a3 j (by omega) hj2
      · refine Or.inr ⟨i, by omega, a2, a3, a4, a5, fun j hj hj2 hne => ?_⟩
        by_cases e : j = k
        · unfold BtS
          rw [e]
          omega
        · exact a6 j (by omega) hj2 hne
    · rw [if_neg b0]
      rcases h with ⟨a1, a2, a3⟩ | ⟨i, a1, a2, a3, a4, a5, a6⟩
      · rw [if_neg (by rw [own, a2]; omega)]
        refine ih N _ _ (by omega) (by omega) (Or.inr ⟨k, by omega, hk, rfl, rfl, by omega, fun j hj hj2 hne => ?_⟩)
        unfold BtS
        have := a3 j (by omega) hj2
        omega
      · have hfi := far_rng hg a2
        by_cases c : ownS s k < x3
        · rw [if_pos c]
          rw [a4, own, own] at c
          refine ih N x2 x3 (by omega) (by omega) (Or.inr ⟨i, by omega, a2, a3, a4, a5, fun j hj hj2 hne => ?_⟩)
          by_cases e : j = k
          · unfold BtS
            rw [e]
            omega
          · exact a6 j (by omega) hj2 hne
        · rw [if_neg c]
          rw [a4, own, own] at c
          refine ih N _ _ (by omega) (by omega) (Or.inr ⟨k, by omega, hk, rfl, rfl, by omega, fun j hj hj2 hne => ?_⟩)
          unfold BtS
          by_cases e : j = i
          · rw [e]
            omega
          · have h6 := a6 j (by omega) hj2 e
            have hfj := far_rng hg hj2
            unfold BtS at h6
            omega
theorem L_most {s μ : Mem} (hv : LV s μ) (hg : GB s) (hn : 0 ≤ s 0 2 ∧ s 0 2 ≤ 1000) : fL_most 0 μ = some (hold s 0) := by
  have g0 := hg.1
  have g6 := hg.2.1
  unfold fL_most
  have hf := fuel_lt
  generalize fuel = N at hf ⊢
  rw [mlet_e, hv.1, w32_i (by omega)]
  obtain ⟨n, hn'⟩ : ∃ n : Nat, s 0 0 = (n : Int) := ⟨(s 0 0).toNat, by omega⟩
  rw [hn']
  exact L_most_L hv hg hn n N (-9) 0 (by omega) (by omega) (Or.inl ⟨rfl, rfl, fun j h1 h2 => absurd h2 (by omega)⟩)
