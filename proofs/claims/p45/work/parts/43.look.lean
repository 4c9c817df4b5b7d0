/-! look -/
def wOf (k : Nat) : Int := if k = 6 then -9 else (k : Int)
def cntS (s : Mem) (i : Nat) (bits : Int) (n k : Nat) : Nat → Int
  | 0 => 0
  | d + 1 => cntS s i bits n k d + (if band (bshr bits (d : Int)) 1 = 0 then 0 else if hold (nitS (wr s 3 i (d : Int)) n) 0 = wOf k then 1 else 0)
theorem cntS_rng (s : Mem) (i : Nat) (bits : Int) (n k : Nat) : ∀ d : Nat, 0 ≤ cntS s i bits n k d ∧ cntS s i bits n k d ≤ d
  | 0 => by unfold cntS; omega
  | d + 1 => by
    have := cntS_rng s i bits n k d
    unfold cntS
    split
    · omega
    · split <;> omega
theorem cntS_no {s : Mem} {i : Nat} {bits : Int} {n k d : Nat} (h : band (bshr bits (d : Int)) 1 = 0) : cntS s i bits n k (d + 1) = cntS s i bits n k d := by
  rw [cntS, if_pos h, Int.add_zero]
theorem cntS_yes {s : Mem} {i : Nat} {bits : Int} {n k d : Nat} (h : ¬ band (bshr bits (d : Int)) 1 = 0) : cntS s i bits n k (d + 1) = cntS s i bits n k d + (if hold (nitS (wr s 3 i (d : Int)) n) 0 = wOf k then 1 else 0) := by
  rw [cntS, if_neg h]
/-- what who has the ford is told by -/
theorem wOf_hold {s : Mem} (hg : GB s) : ∃ k0, k0 < 7 ∧ hold s 0 = wOf k0 ∧ ∀ k, k < 7 → (hold s 0 = wOf k ↔ k = k0) := by
  have g6 := hg.2.1
  rcases hold_rng (p := 0) hg with h | ⟨i, h1, h2⟩
  · refine ⟨6, by omega, by rw [h]; rfl, fun k hk => ?_⟩
    rw [h]
    unfold wOf
    constructor
    · intro q
      split at q <;> omega
    · intro q
      rw [if_pos q]
  · refine ⟨i, by omega, by rw [h1]; unfold wOf; rw [if_neg (by omega)], fun k hk => ?_⟩
    rw [h1]
    unfold wOf
    constructor
    · intro q
      split at q <;> omega
    · intro q
      rw [if_neg (by omega), q]
theorem e_placeOf {x : Int} {μ : Mem} : fX1_placeOf x μ = some (if x = -9 then 6 else x) := by
  unfold fX1_placeOf
  by_cases h : x = -9
  · simp (disch := omega) only [bnd2_some, bd_some, b01_t, b01_f, if_pos, if_neg, mlet_e, grd, ite_true, ite_false, not_true_eq_false, not_false_eq_true, ite_self, tn_c, w32_i]
  · simp (disch := omega) only [bnd2_some, bd_some, b01_t, b01_f, if_pos, if_neg, mlet_e, grd, ite_true, ite_false, not_true_eq_false, not_false_eq_true, ite_self, tn_c, w32_i]
theorem pl_wOf {k : Nat} (hk : k < 7) : (if wOf k = -9 then (6 : Int) else wOf k) = (k : Int) := by
  unfold wOf
  by_cases h : k = 6
  · subst h
    rfl
  · rw [if_neg h, if_neg (by omega)]
/-- the class's parts, behind darings below d, and nights below x of daring d -/
def PCl (s : Mem) (i : Nat) (bits : Int) (d x : Nat) (μ : Mem) : Prop := ∀ n, n < 20 → ∀ k, k < 7 → μ (40 + n) k = cntS s i bits n k (if n < x then d + 1 else d)
theorem e_cp64 {s : Mem} {i : Nat} {bits : Int} {d : Nat} {K : Mem → Option Mem} {Q : Mem → Prop} (hg : GB s) (hd : d ≤ 20) (hb : ¬ band (bshr bits (d : Int)) 1 = 0) : ∀ (m x N : Nat) (μ : Mem), x + m = 20 → m < N → CB 25 μ (nitS (wr s 3 i (d : Int)) x) → PCl s i bits d x μ → (∀ ν, PCl s i bits d 20 ν → (∀ c k, ¬ (25 ≤ c ∧ c ≤ 29) → ¬ (40 ≤ c ∧ c ≤ 59) → ν c k = μ c k) → Ev (K ν) Q) → Ev (fX1_countParts_L64 K N (x : Int) μ) Q := by
  have hg' : GB (wr s 3 i (d : Int)) := GB_wr3 hg (by omega)
  intro m
  induction m with
  | zero =>
    intro x N μ h1 h2 h3 h4 h5
    obtain ⟨N, rfl⟩ : ∃ j, N = j + 1 := ⟨N - 1, by omega⟩
    obtain rfl : x = 20 := by omega
    rw [fX1_countParts_L64, if_pos (by omega)]
    exact h5 μ h4 (fun _ _ _ _ => rfl)
  | succ m ih =>
    intro x N μ h1 h2 h3 h4 h5
    obtain ⟨N, rfl⟩ : ∃ j, N = j + 1 := ⟨N - 1, by omega⟩
    obtain ⟨k0, hk0, e0, e1⟩ := wOf_hold (GB_nit hg' x)
    rw [fX1_countParts_L64]
    simp (disch := omega) only [grd, if_pos, if_neg, tn_c, ev_bnd2, mlet_e, w32_s]
    refine ev_mono (e_passNight h3 (GB_nit hg' x)) (fun q hq => ?_)
    obtain ⟨q1, q2, q3⟩ := hq
    have v0 := cntS_rng s i bits x k0 d
    have e2 : q.2 (40 + x) k0 = cntS s i bits x k0 d := by
      rw [q3 _ _ (by omega), h4 x (by omega) k0 hk0, if_neg (by omega)]
    rw [q1, e0, e_placeOf, pl_wOf hk0, bd_some]
    simp (disch := omega) only [if_pos, tn_c, e2, w32_i]
    refine ih (x + 1) N _ (by omega) (by omega) (CB_congr q2 (fun c k hc => wr_ne (by omega))) (fun n hn k hk => ?_) (fun ν r1 r2 => h5 ν r1 (fun c k c1 c2 => ?_))
    · by_cases z : n = x
      · subst z
        rw [if_pos (by omega), cntS_yes hb]
        by_cases z2 : k = k0
        · rw [z2, wr_at (by omega), if_pos e0]
        · rw [wr_ne (by omega), if_neg (fun w => z2 ((e1 k hk).mp w)), Int.add_zero, q3 _ _ (by omega), h4 n hn k hk, if_neg (by omega)]
      · rw [wr_ne (by omega), q3 _ _ (by omega), h4 n hn k hk]
        by_cases z2 : n < x
        · rw [if_pos z2, if_pos (by omega)]
        · rw [if_neg z2, if_neg (by omega)]
    · rw [r2 _ _ c1 c2, wr_ne (by omega), q3 _ _ (by omega)]
theorem e_cp26 {s : Mem} {i : Nat} {bits : Int} (hg : GB s) (hi : (i : Int) < s 0 0) : ∀ (m d N : Nat) (μ : Mem), d + m = 21 → 30 + m < N → CB 20 μ s → PCl s i bits d 0 μ → Ev (fX1_countParts_L26 bits (i : Int) N (d : Int) μ) fun ν => PCl s i bits 21 0 ν ∧ ∀ c k, ¬ (25 ≤ c ∧ c ≤ 29) → ¬ (40 ≤ c ∧ c ≤ 59) → ν c k = μ c k := by
  have g6 := hg.2.1
  intro m
  induction m with
  | zero =>
    intro d N μ h1 h2 h3 h4
    obtain ⟨N, rfl⟩ : ∃ j, N = j + 1 := ⟨N - 1, by omega⟩
    obtain rfl : d = 21 := by omega
    rw [fX1_countParts_L26, if_pos (by omega)]
    exact ev_some.mpr ⟨h4, fun _ _ _ _ => rfl⟩
  | succ m ih =>
    intro d N μ h1 h2 h3 h4
    obtain ⟨N, rfl⟩ : ∃ j, N = j + 1 := ⟨N - 1, by omega⟩
    rw [fX1_countParts_L26]
    have hf := fuel_lt
    generalize fuel = F at hf ⊢
    by_cases z : band (bshr bits (d : Int)) 1 = 0
    · simp (disch := omega) only [if_pos, if_neg, mlet_e, w32_s]
      refine ih (d + 1) N μ (by omega) (by omega) h3 (fun n hn k hk => ?_)
      have := h4 n hn k hk
      rw [if_neg (by omega)] at this ⊢
      rw [this, cntS_no z]
    · obtain ⟨μa, a1, a2, a3⟩ := e_become (b := 25) (b' := 20) (by omega) h3 hg
      simp (disch := omega) only [grd, if_pos, if_neg, mlet_e, w32_s, a1, bd_some, tn_c]
      refine e_cp64 (s := s) (i := i) (bits := bits) (d := d) hg (by omega) z 20 0 _ _ (by omega) (by omega) (CB_wr3 (b := 25) a2) (fun n hn k hk => ?_) (fun ν r1 r2 => ?_)
      · rw [wr_ne (by omega), a3 _ _ (by omega)]
        exact h4 n hn k hk
      · have f : ∀ c k, ¬ (25 ≤ c ∧ c ≤ 29) → ¬ (40 ≤ c ∧ c ≤ 59) → ν c k = μ c k := fun c k c1 c2 => by
          rw [r2 _ _ c1 c2, wr_ne (by omega), a3 _ _ (by omega)]
        refine ev_mono (ih (d + 1) N ν (by omega) (by omega) (CB_congr h3 (fun c k hc => f _ _ (by omega) (by omega))) (fun n hn k hk => ?_)) (fun t ht => ⟨ht.1, fun c k c1 c2 => ?_⟩)
        · have := r1 n hn k hk
          rw [if_pos hn] at this
          rw [this, if_neg (by omega)]
        · rw [ht.2 _ _ c1 c2, f _ _ c1 c2]
theorem e_countParts {s μ : Mem} {i : Nat} {bits : Int} (hg : GB s) (hi : (i : Int) < s 0 0) (h3 : CB 20 μ s) : Ev (fX1_countParts (i : Int) bits μ) fun ν => PCl s i bits 21 0 ν ∧ ∀ c k, ¬ (25 ≤ c ∧ c ≤ 29) → ¬ (40 ≤ c ∧ c ≤ 59) → ν c k = μ c k := by
  have hL : ∀ (K : Mem → Option Mem) (Q : Mem → Prop) (m x N : Nat) (μ : Mem), x + m = 20 → m < N → (∀ n, n < x → ∀ k, k < 7 → μ (40 + n) k = 0) → (∀ ν, (∀ n, n < 20 → ∀ k, k < 7 → ν (40 + n) k = 0) → (∀ c k, ¬ (40 ≤ c ∧ c ≤ 59) → ν c k = μ c k) → Ev (K ν) Q) → Ev (fX1_countParts_L2 K N (x : Int) μ) Q := by
    intro K Q m
    induction m with
    | zero =>
      intro x N μ h1 h2 h3 h4
      obtain ⟨N, rfl⟩ : ∃ j, N = j + 1 := ⟨N - 1, by omega⟩
      obtain rfl : x = 20 := by omega
      rw [fX1_countParts_L2, if_pos (by omega)]
      exact h4 μ h3 (fun _ _ _ => rfl)
    | succ m ih =>
      intro x N μ h1 h2 h3 h4
      obtain ⟨N, rfl⟩ : ∃ j, N = j + 1 := ⟨N - 1, by omega⟩
      rw [fX1_countParts_L2]
      simp (disch := omega) only [grd, if_pos, if_neg, mlet_e, w32_s, bd_some, tn_c]
      refine ih (x + 1) N _ (by omega) (by omega) (fun n hn k hk => ?_) (fun ν r1 r2 => h4 ν r1 (fun c k c1 => ?_))
      · by_cases z : n = x
        · rw [filM_at (by omega)]
        · rw [filM_ne (by omega)]
          exact h3 n (by omega) k hk
      · rw [r2 _ _ c1, filM_ne (by omega)]
  unfold fX1_countParts
  have hf := fuel_lt
  generalize fuel = N at hf ⊢
  simp only [mlet_e]
  refine hL _ _ 20 0 N μ (by omega) (by omega) (fun n hn => absurd hn (by omega)) (fun ν r1 r2 => ?_)
  refine ev_mono (e_cp26 (s := s) (i := i) (bits := bits) hg hi 21 0 N ν (by omega) (by omega) (CB_congr h3 (fun c k hc => r2 _ _ (by omega))) (fun n hn k hk => ?_)) (fun t ht => ⟨ht.1, fun c k c1 c2 => ?_⟩)
  · rw [r1 n hn k hk, if_neg (by omega)]
    rfl
  · rw [ht.2 _ _ c1 c2, r2 _ _ c2]
/-! the model's parts -/
def ix (n k : Nat) : Nat := 7 * (n + 1) + (if k = 6 then 0 else k + 1)
theorem ix_inj {n k n' k' : Nat} (hk : k < 7) (hk' : k' < 7) (h : ix n k = ix n' k') : n = n' ∧ k = k' := by
  unfold ix at h
  split at h <;> split at h <;> omega
theorem ix_lt {n k : Nat} (hn : n < 20) (hk : k < 7) : 7 ≤ ix n k ∧ ix n k < 147 := by
  unfold ix
  split <;> omega
def PMl (s : Mem) (i : Nat) (bits : Int) (d x : Nat) (μ : Mem) : Prop := ∀ n, n < 20 → ∀ k, k < 7 → μ 71 (ix n k) = cntS s i bits n k (if n < x then d + 1 else d)
