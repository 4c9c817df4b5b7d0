/-! lift; by at whose door it was -/
def lftS (s : Mem) (i n : Nat) : Nat → Nat → Int
  | 0, _ => -9
  | m + 1, k => if whoS (wr s 3 i (s 3 i + (k : Int))) n = (i : Int) then (k : Int) else lftS s i n m (k + 1)
theorem e_lift_L {s : Mem} {i n : Nat} (hn : n ≤ 40) (hg : GB s) (hi : (i : Int) < s 0 0) : ∀ (m k N : Nat) (μ : Mem), s 3 i + k + m = 21 → m < N → CB 20 μ s → Ev (fX1_lift_L25 (i : Int) (n : Int) N (k : Int) μ) fun q => q.1 = lftS s i n m k ∧ ∀ c k, c < 25 ∨ 29 < c → q.2 c k = μ c k := by
  have g6 := hg.2.1
  obtain ⟨-, -, g3⟩ := hg.2.2.2.2 i hi
  intro m
  induction m with
  | zero =>
    intro k N μ h1 h2 h3
    obtain ⟨N, rfl⟩ : ∃ j, N = j + 1 := ⟨N - 1, by omega⟩
    have p3 : μ 23 i = s 3 i := (h3.2.2.2 i hi).2.2.1
    rw [fX1_lift_L25]
    simp (disch := omega) only [grd, if_pos, tn_c, p3, w32_i]
    exact ev_some.mpr ⟨rfl, fun _ _ _ => rfl⟩
  | succ m ih =>
    intro k N μ h1 h2 h3
    obtain ⟨N, rfl⟩ : ∃ j, N = j + 1 := ⟨N - 1, by omega⟩
    have p3 : μ 23 i = s 3 i := (h3.2.2.2 i hi).2.2.1
    obtain ⟨μa, a1, a2, a3⟩ := e_become (b := 25) (b' := 20) (by omega) h3 hg
    have p4 : μa 23 i = s 3 i := by rw [a3 _ _ (by omega), p3]
    rw [fX1_lift_L25]
    simp (disch := omega) only [grd, if_pos, if_neg, tn_c, p3, p4, w32_i, a1, bd_some, mlet_e, ev_bnd2, w32_s]
    refine ev_mono (e_aside (n := n) hn (GB_wr3 hg (i := i) (v := s 3 i + k) (by omega)) (CB_wr3 (b := 25) a2)) (fun q hq => ?_)
    obtain ⟨q1, q2, q3⟩ := hq
    have f : ∀ c k, c < 25 ∨ 29 < c → q.2 c k = μ c k := fun c k hc => by
      rw [q3 _ _ hc, wr_ne (by omega), a3 _ _ (by omega)]
    rw [q1, lftS]
    by_cases z : whoS (wr s 3 i (s 3 i + (k : Int))) n = (i : Int)
    · rw [if_neg (by omega), if_pos z]
      exact ev_some.mpr ⟨rfl, f⟩
    · rw [if_pos z, if_neg z]
      refine ev_mono (ih (k + 1) N q.2 (by omega) (by omega) (CB_congr h3 (fun c k hc => f _ _ (by omega)))) (fun r hr => ⟨hr.1, fun c k hc => ?_⟩)
      rw [hr.2 _ _ hc, f _ _ hc]
theorem tn_3293b {k : Nat} : (3293 + (k : Int)).toNat = 3284 + 9 + k := by omega
/-! holders in a row -/
theorem e_hold_ok {μ : Mem} {r n : Nat} {K : Option (Int × Mem)} (hr : r < 6) (hn : n ≤ 10) (hk : ∀ j, j < n → 0 ≤ μ (2 + r) j ∧ μ (2 + r) j < μ 20 4) : ∀ (m k N : Nat), k + m = n → m < N → fX1_refusalOfHolders_L56 (n : Int) μ (r : Int) K N (k : Int) = some (0, μ) := by
  intro m
  induction m with
  | zero =>
    intro k N h1 h2
    obtain ⟨N, rfl⟩ : ∃ j, N = j + 1 := ⟨N - 1, by omega⟩
    rw [fX1_refusalOfHolders_L56, if_pos (by omega)]
  | succ m ih =>
    intro k N h1 h2
    obtain ⟨N, rfl⟩ : ∃ j, N = j + 1 := ⟨N - 1, by omega⟩
    rw [fX1_refusalOfHolders_L56]
    have := hk k (by omega)
    simp (disch := omega) only [grd, if_pos, if_neg, mlet_e, tn_c, e_has, bd_some, b01_t, w32_s]
    exact ih (k + 1) N (by omega) (by omega)
theorem e_hold_no {μ : Mem} {r n j0 : Nat} {K : Option (Int × Mem)} (hr : r < 6) (hn : n ≤ 10) (hj : j0 < n) (hk : ¬ (0 ≤ μ (2 + r) j0 ∧ μ (2 + r) j0 < μ 20 4)) : ∀ (m k N : Nat), k + m = j0 → m < N → fX1_refusalOfHolders_L56 (n : Int) μ (r : Int) K N (k : Int) = K := by
  intro m
  induction m with
  | zero =>
    intro k N h1 h2
    obtain ⟨N, rfl⟩ : ∃ j, N = j + 1 := ⟨N - 1, by omega⟩
    obtain rfl : k = j0 := by omega
    rw [fX1_refusalOfHolders_L56]
    simp (disch := omega) only [grd, if_pos, if_neg, mlet_e, tn_c, e_has, bd_some, b01_f, not_true_eq_false, ite_false]
  | succ m ih =>
    intro k N h1 h2
    obtain ⟨N, rfl⟩ : ∃ j, N = j + 1 := ⟨N - 1, by omega⟩
    rw [fX1_refusalOfHolders_L56]
    by_cases z : 0 ≤ μ (2 + r) k ∧ μ (2 + r) k < μ 20 4
    · simp (disch := omega) only [grd, if_pos, if_neg, mlet_e, tn_c, e_has, bd_some, b01_t, w32_s]
      exact ih (k + 1) N (by omega) (by omega)
    · simp (disch := omega) only [grd, if_pos, if_neg, mlet_e, tn_c, e_has, bd_some, b01_f, not_true_eq_false, ite_false]
