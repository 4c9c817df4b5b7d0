/-! A NIGHT, both sides -/
theorem e_isOf {k o : Int} {μ : Mem} : fX1_isOf k o μ = some (b01 (k = o ∨ o = 0 ∨ (k = 4 ∧ o = 3) ∨ (k = 5 ∧ o = 2))) := by
  unfold fX1_isOf
  simp only [mlet_e]
  by_cases h1 : k = o
  · simp (disch := omega) only [bnd2_some, bd_some, b01_t, b01_f, if_pos, if_neg, mlet_e, grd, ite_true, ite_false, not_true_eq_false, not_false_eq_true, tn_c, w32_i]
  · by_cases h2 : o = 0
    · simp (disch := omega) only [bnd2_some, bd_some, b01_t, b01_f, if_pos, if_neg, mlet_e, grd, ite_true, ite_false, not_true_eq_false, not_false_eq_true, tn_c, w32_i]
    · by_cases h3 : k = 4
      · by_cases h4 : o = 3
        · simp (disch := omega) only [bnd2_some, bd_some, b01_t, b01_f, if_pos, if_neg, mlet_e, grd, ite_true, ite_false, not_true_eq_false, not_false_eq_true, tn_c, w32_i]
        · simp (disch := omega) only [bnd2_some, bd_some, b01_t, b01_f, if_pos, if_neg, mlet_e, grd, ite_true, ite_false, not_true_eq_false, not_false_eq_true, tn_c, w32_i]
      · by_cases h4 : k = 5
        · by_cases h5 : o = 2
          · simp (disch := omega) only [bnd2_some, bd_some, b01_t, b01_f, if_pos, if_neg, mlet_e, grd, ite_true, ite_false, not_true_eq_false, not_false_eq_true, tn_c, w32_i]
          · simp (disch := omega) only [bnd2_some, bd_some, b01_t, b01_f, if_pos, if_neg, mlet_e, grd, ite_true, ite_false, not_true_eq_false, not_false_eq_true, tn_c, w32_i]
        · simp (disch := omega) only [bnd2_some, bd_some, b01_t, b01_f, if_pos, if_neg, mlet_e, grd, ite_true, ite_false, not_true_eq_false, not_false_eq_true, tn_c, w32_i]
theorem e_fading {k : Int} {μ : Mem} : fX1_fading k μ = some (fad k) := by
  unfold fX1_fading fad
  rw [e_isOf, bd_some, e_isOf, bd_some]
  by_cases h1 : k = 3 ∨ k = 4
  · rw [if_pos h1, if_neg (by rw [b01_t (by omega)]; omega)]
  · rw [if_neg h1, if_pos (by rw [b01_f (by omega)])]
    by_cases h2 : k = 2 ∨ k = 5
    · rw [if_pos h2, if_neg (by rw [b01_t (by omega)]; omega)]
    · rw [if_neg h2, if_pos (by rw [b01_f (by omega)])]
theorem fad_rng (k : Int) : 0 ≤ fad k ∧ fad k ≤ 2 := by
  unfold fad
  split
  · omega
  · split <;> omega
theorem night_0 (s : Mem) : nightS s 0 0 = s 0 0 := by
  unfold nightS
  simp (disch := omega) only [if_pos, if_neg, ite_true]
theorem night_1 (s : Mem) : nightS s 0 1 = (if hold s 0 = -9 then s 0 1 else s 2 (hold s 0).toNat) := by
  unfold nightS
  rw [if_pos rfl, if_pos rfl]
theorem night_2 (s : Mem) : nightS s 0 2 = w32 (s 0 2 + 1) := by
  unfold nightS
  rw [if_pos rfl, if_neg (by omega), if_pos rfl]
theorem night_k (s : Mem) (i : Nat) : nightS s 1 i = s 1 i := by
  unfold nightS
  rw [if_neg (by omega), if_neg (by omega), if_neg (by omega)]
theorem night_d (s : Mem) (i : Nat) : nightS s 2 i = s 2 i := by
  unfold nightS
  rw [if_neg (by omega), if_neg (by omega), if_neg (by omega)]
theorem night_3 (s : Mem) (i : Nat) : nightS s 3 i = mmax 0 (s 3 i - (if (i : Int) = hold s 0 then 2 else fad (s 1 i))) := by
  unfold nightS
  rw [if_neg (by omega), if_pos rfl]
theorem night_4 (s : Mem) (i : Nat) : nightS s 4 i = (if (i : Int) = hold s 0 then w32 (s 4 i + 1) else s 4 i) := by
  unfold nightS
  rw [if_neg (by omega), if_neg (by omega)]
  by_cases h : (i : Int) = hold s 0
  · rw [if_pos ⟨rfl, h⟩, if_pos h]
  · rw [if_neg (fun q => h q.2), if_neg h]
theorem GB_night {s : Mem} (hg : GB s) : GB (nightS s) := by
  obtain ⟨g1, g2, g3, g4, g5⟩ := id hg
  refine ⟨by rw [night_0]; exact g1, by rw [night_0]; exact g2, ?_⟩
  have e : 0 ≤ nightS s 0 1 ∧ nightS s 0 1 ≤ 9 := by
    rw [night_1]
    rcases hold_rng (p := 0) hg with h | ⟨i, h1, h2⟩
    · rw [if_pos h]
      exact ⟨g3, g4⟩
    · rw [h1, if_neg (by omega), tn_c]
      exact (g5 i h2).2.1
  refine ⟨e.1, e.2, fun i hi => ?_⟩
  rw [night_0] at hi
  obtain ⟨m1, m2, m3⟩ := g5 i hi
  rw [night_k, night_d, night_3]
  refine ⟨m1, m2, ?_⟩
  have := fad_rng (s 1 i)
  unfold mmax
  split <;> split <;> omega
def dayM (b : Nat) (μ s : Mem) (i : Nat) : Mem := fun c k => if c = b + 3 ∧ k < i then nightS s 3 k else μ c k
theorem dayM_at {b i c k : Nat} {μ s : Mem} (h : c = b + 3 ∧ k < i) : dayM b μ s i c k = nightS s 3 k := if_pos h
theorem dayM_ne {b i c k : Nat} {μ s : Mem} (h : ¬ (c = b + 3 ∧ k < i)) : dayM b μ s i c k = μ c k := if_neg h
theorem dayM_s {b i : Nat} {μ s : Mem} {v : Int} (hv : v = nightS s 3 i) : wr (dayM b μ s i) (b + 3) i v = dayM b μ s (i + 1) := by
  subst hv
  funext c k
  by_cases h : c = b + 3 ∧ k = i
  · obtain ⟨rfl, rfl⟩ := h
    rw [wr_at (by omega), dayM_at (by omega)]
  · rw [wr_ne h]
    by_cases h2 : c = b + 3 ∧ k < i
    · rw [dayM_at h2, dayM_at (by omega)]
    · rw [dayM_ne h2, dayM_ne (by omega)]
theorem dayM_0 {b : Nat} {μ s : Mem} : dayM b μ s 0 = μ := by
  funext c k
  rw [dayM_ne (by omega)]
theorem e_day_L {b : Nat} {μ s : Mem} {K : Mem → Option (Int × Mem)} (hc : CB b μ s) (hg : GB s) : ∀ (m k N : Nat), k + m = (s 0 0).toNat → m < N → fX0_passNight_L8 b K (hold s 0) N (k : Int) (dayM b μ s k) = K (dayM b μ s (s 0 0).toNat) := by
  have g0 := hg.1
  have g6 := hg.2.1
  intro m
  induction m with
  | zero =>
    intro k N h1 h2
    obtain ⟨N, rfl⟩ : ∃ j, N = j + 1 := ⟨N - 1, by omega⟩
    rw [fX0_passNight_L8, dayM_ne (by omega), hc.1, if_pos (by omega)]
    obtain rfl : k = (s 0 0).toNat := by omega
    rfl
  | succ m ih =>
    intro k N h1 h2
    obtain ⟨N, rfl⟩ : ∃ j, N = j + 1 := ⟨N - 1, by omega⟩
    have hk : (k : Int) < s 0 0 := by omega
    have ih' := ih (k + 1) N (by omega) (by omega)
    obtain ⟨c1, c2, c3, c4⟩ := hc.2.2.2 k hk
    obtain ⟨-, -, g3⟩ := hg.2.2.2.2 k hk
    have hf := fad_rng (s 1 k)
    have ee : fX0_passNight_L8 b K (hold s 0) N ((k + 1 : Nat) : Int) (wr (dayM b μ s k) (b + 3) k (mmax 0 (s 3 k - (if (k : Int) = hold s 0 then 2 else fad (s 1 k))))) = K (dayM b μ s (s 0 0).toNat) := by
      rw [dayM_s (by rw [night_3])]
      exact ih'
    rw [fX0_passNight_L8]
    rw [if_neg (by rw [dayM_ne (by omega), hc.1]; omega)]
    by_cases q : (k : Int) = hold s 0
    · rw [if_pos q] at ee
      simp (disch := omega) only [mlet_e, w32_s, if_neg, grd, if_pos, tn_c, dayM_ne, c3, w32_i]
      exact ee
    · rw [if_neg q] at ee
      simp (disch := omega) only [mlet_e, w32_s, if_neg, grd, if_pos, tn_c, dayM_ne, c3, c1, e_fading, bd_some, w32_i]
      exact ee
theorem e_passNight {b : Nat} {μ s : Mem} (hc : CB b μ s) (hg : GB s) : Ev (fX0_passNight b μ) fun q => q.1 = hold s 0 ∧ CB b q.2 (nightS s) ∧ ∀ c k, c < b ∨ b + 4 < c → q.2 c k = μ c k := by
  have g0 := hg.1
  have g6 := hg.2.1
  unfold fX0_passNight
  have hf := fuel_lt
  generalize fuel = N at hf ⊢
  rw [e_holder hc hg, bd_some]
  simp only [mlet_e]
  have e9 : ∀ K, fX0_passNight_L8 b K (hold s 0) N 0 μ = K (dayM b μ s (s 0 0).toNat) := fun K => by
    have e8 := e_day_L (K := K) hc hg (s 0 0).toNat 0 N (by omega) (by omega)
    rw [dayM_0] at e8
    exact e8
  rw [e9]
  rcases hold_rng (p := 0) hg with h | ⟨i, h1, h2⟩
  · rw [h]
    rw [e_has, bd_some, if_pos (by rw [b01_f (by omega)])]
    refine ev_eq rfl ?_
    dsimp only
    refine ⟨rfl, ⟨?_, ?_, ?_, ?_⟩, ?_⟩
    · rw [night_0, wr_ne (by omega), dayM_ne (by omega), hc.1]
    · rw [night_1, if_pos h, wr_ne (by omega), dayM_ne (by omega), hc.2.1]
    · rw [night_2, wr_at (by omega), dayM_ne (by omega), hc.2.2.1]
    · intro j hj
      rw [night_0] at hj
      obtain ⟨c1, c2, c3, c4⟩ := hc.2.2.2 j hj
      simp (disch := omega) only [wr_ne, dayM_ne, dayM_at, night_k, night_d, night_4, if_neg]
      exact ⟨c1, c2, trivial, c4⟩
    · intro c k hck
      simp (disch := omega) only [wr_ne, dayM_ne]
  · rw [h1]
    obtain ⟨k1, k2, k3, k4⟩ := hc.2.2.2 i h2
    rw [e_has, bd_some, if_neg (by rw [b01_t (by rw [dayM_ne (by omega), hc.1]; omega)]; omega)]
    simp (disch := omega) only [grd, if_pos, tn_c]
    refine ev_eq rfl ?_
    dsimp only
    refine ⟨rfl, ⟨?_, ?_, ?_, ?_⟩, ?_⟩
    · simp (disch := omega) only [night_0, wr_ne, dayM_ne, hc.1]
    · rw [night_1, if_neg (by omega), h1, tn_c]
      simp (disch := omega) only [wr_ne, wr_at, dayM_ne, k2]
    · rw [night_2]
      simp (disch := omega) only [wr_ne, wr_at, dayM_ne, hc.2.2.1]
    · intro j hj
      rw [night_0] at hj
      obtain ⟨c1, c2, c3, c4⟩ := hc.2.2.2 j hj
      rw [night_k, night_d, night_4]
      by_cases e : j = i
      · subst e
        rw [if_pos (by omega)]
        simp (disch := omega) only [wr_ne, wr_at, dayM_ne, dayM_at, c1, c2, c4]
        exact ⟨trivial, trivial, trivial, trivial⟩
      · rw [if_neg (by omega)]
        simp (disch := omega) only [wr_ne, wr_at, dayM_ne, dayM_at, c1, c2, c4]
        exact ⟨trivial, trivial, trivial, trivial⟩
    · intro c k hck
      simp (disch := omega) only [wr_ne, dayM_ne]
/-! the model's night -/
def dayM2 (a : Nat) (μ s : Mem) (i : Nat) : Mem := fun c k => if c = 61 ∧ a + 9 ≤ k ∧ k < a + 9 + i then nightS s 3 (k - (a + 9)) else μ c k
theorem dayM2_at {a i c k : Nat} {μ s : Mem} (h : c = 61 ∧ a + 9 ≤ k ∧ k < a + 9 + i) : dayM2 a μ s i c k = nightS s 3 (k - (a + 9)) := if_pos h
theorem dayM2_ne {a i c k : Nat} {μ s : Mem} (h : ¬ (c = 61 ∧ a + 9 ≤ k ∧ k < a + 9 + i)) : dayM2 a μ s i c k = μ c k := if_neg h
theorem dayM2_s {a i : Nat} {μ s : Mem} {v : Int} (hv : v = nightS s 3 i) : wr (dayM2 a μ s i) 61 (a + 9 + i) v = dayM2 a μ s (i + 1) := by
  subst hv
  funext c k
  by_cases h : c = 61 ∧ k = a + 9 + i
  · obtain ⟨rfl, rfl⟩ := h
    rw [wr_at (by omega), dayM2_at (by omega)]
    congr 1
    omega
  · rw [wr_ne h]
    by_cases h2 : c = 61 ∧ a + 9 ≤ k ∧ k < a + 9 + i
    · rw [dayM2_at h2, dayM2_at (by omega)]
    · rw [dayM2_ne h2, dayM2_ne (by omega)]
theorem dayM2_0 {a : Nat} {μ s : Mem} : dayM2 a μ s 0 = μ := by
  funext c k
  rw [dayM2_ne (by omega)]
