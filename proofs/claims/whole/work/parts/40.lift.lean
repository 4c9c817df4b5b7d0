/-! lift; by at whose door it was -/
def lftS (s : Mem) (i n : Nat) : Nat → Nat → Int
  | 0, _ => -9
  | m + 1, k => if whoS (wr s 3 i (s 3 i + (k : Int))) n = (i : Int) then (k : Int) else lftS s i n m (k + 1)
theorem e_lift_L {s : Mem} {i n : Nat} (hn : n ≤ 40) (hg : GB s) (hi : (i : Int) < s 0 0) : ∀ (m k N : Nat) (μ : Mem), s 3 i + k + m = 21 → m < N → CB 20 μ s → Ev (fX1_lift_L25 (i : Int) (n : Int) N (k : Int) μ) fun q => q.1 = lftS s i n m k ∧ ∀ c k, c < 25 ∨ 29 < c → q.2 c k = μ c k := by
  have g6 := hg.2.1
  obtain ⟨-, -, g3⟩ := hg.2.2.2.2 i hi
  intro m
  induction m with
  | zero =>
    intro k N μ h1 h2 h3
    obtain ⟨N, rfl⟩ : ∃ j, N = j + 1 := ⟨N - 1, by omega⟩
    have p3 : μ 23 i = s 3 i := (h3.2.2.2 i hi).2.2.1
    rw [fX1_lift_L25]
    simp (disch := omega) only [grd, if_pos, tn_c, p3, w32_i]
    exact ev_some.mpr ⟨rfl, fun _ _ _ => rfl⟩
  | succ m ih =>
    intro k N μ h1 h2 h3
    obtain ⟨N, rfl⟩ : ∃ j, N = j + 1 := ⟨N - 1, by omega⟩
    have p3 : μ 23 i = s 3 i := (h3.2.2.2 i hi).2.2.1
    obtain ⟨μa, a1, a2, a3⟩ := e_become (b := 25) (b' := 20) (by omega) h3 hg
    have p4 : μa 23 i = s 3 i := by rw [a3 _ _ (by omega), p3]
    rw [fX1_lift_L25]
    simp (disch := omega) only [grd, if_pos, if_neg, tn_c, p3, p4, w32_i, a1, bd_some, mlet_e, ev_bnd2, w32_s]
    refine ev_mono (e_aside (n := n) hn (GB_wr3 hg (i := i) (v := s 3 i + k) (by omega)) (CB_wr3 (b := 25) a2)) (fun q hq => ?_)
    obtain ⟨q1, q2, q3⟩ := hq
    have f : ∀ c k, c < 25 ∨ 29 < c → q.2 c k = μ c k := fun c k hc => by
      rw [q3 _ _ hc, wr_ne (by omega), a3 _ _ (by omega)]
    rw [q1, lftS]
    by_cases z : whoS (wr s 3 i (s 3 i + (k : Int))) n = (i : Int)
    · rw [if_neg (by omega), if_pos z]
      exact ev_some.mpr ⟨rfl, f⟩
    · rw [if_pos z, if_neg z]
      refine ev_mono (ih (k + 1) N q.2 (by omega) (by omega) (CB_congr h3 (fun c k hc => f _ _ (by omega)))) (fun r hr => ⟨hr.1, fun c k hc => ?_⟩)
      rw [hr.2 _ _ hc, f _ _ hc]
theorem e_hasBy_L {n : Nat} {s : Mem} (hn : n ≤ 40) (hg : GB s) : ∀ (m k N : Nat) (μ : Mem), k + m = n → m < N → MB 3284 μ (nitS s k) → Ev (fX2_hasBy_L22 (n : Int) N (whoS s k) (k : Int) μ) fun q => q.1 = whoS s n ∧ ∀ c k, ¬ (c = 61 ∧ 3284 ≤ k) → q.2 c k = μ c k := by
  intro m
  induction m with
  | zero =>
    intro k N μ h1 h2 h3
    obtain ⟨N, rfl⟩ : ∃ j, N = j + 1 := ⟨N - 1, by omega⟩
    obtain rfl : k = n := by omega
    rw [fX2_hasBy_L22, if_pos (by omega)]
    exact ev_some.mpr ⟨rfl, fun _ _ _ => rfl⟩
  | succ m ih =>
    intro k N μ h1 h2 h3
    obtain ⟨N, rfl⟩ : ∃ j, N = j + 1 := ⟨N - 1, by omega⟩
    rw [fX2_hasBy_L22, if_neg (by omega), ev_bnd2]
    refine ev_mono (e_passes (x := 3284) (a := 3284) rfl (by omega) h3 (GB_nit hg k)) (fun q hq => ?_)
    obtain ⟨q1, q2, q3⟩ := hq
    rw [mlet_e, w32_s (by omega), q1]
    refine ev_mono (ih (k + 1) N q.2 (by omega) (by omega) q2) (fun r hr => ⟨hr.1, fun c k hc => ?_⟩)
    rw [hr.2 _ _ hc, q3 _ _ (by omega)]
theorem tn_3293b {k : Nat} : (3293 + (k : Int)).toNat = 3284 + 9 + k := by omega
theorem e_hasBy {n i : Nat} {v : Int} {μ s : Mem} (hn : n ≤ 40) (hg : GB s) (hi : (i : Int) < s 0 0) (hv : 0 ≤ v ∧ v ≤ 20) (hM : MB 0 μ s) : Ev (fX2_hasBy (i : Int) v (n : Int) μ) fun q => q.1 = whoS (wr s 3 i v) n ∧ ∀ c k, ¬ (c = 61 ∧ 3284 ≤ k) → q.2 c k = μ c k := by
  have g6 := hg.2.1
  unfold fX2_hasBy
  have hf := fuel_lt
  generalize fuel = N at hf ⊢
  simp (disch := omega) only [e_layTried, bd_some, grd, if_pos, w32_i, tn_3293b, mlet_e]
  refine ev_mono (e_hasBy_L hn (GB_wr3 hg hv) n 0 N _ (by omega) (by omega) (MB_wr3 (i := i) (v := v) (MB_tried hM hg) hg (by omega))) (fun q hq => ⟨hq.1, fun c k hc => ?_⟩)
  rw [hq.2 _ _ hc, wr_ne (by omega), cpy_ne (by omega)]
theorem e_lift2_L {s : Mem} {i n : Nat} (hn : n ≤ 40) (hg : GB s) (hi : (i : Int) < s 0 0) : ∀ (m k N : Nat) (μ : Mem), s 3 i + k + m = 21 → m < N → MB 0 μ s → Ev (fX2_lift_L24 (i : Int) (n : Int) N (k : Int) μ) fun q => q.1 = lftS s i n m k ∧ ∀ c k, ¬ (c = 61 ∧ 3284 ≤ k) → q.2 c k = μ c k := by
  have g6 := hg.2.1
  obtain ⟨-, -, g3⟩ := hg.2.2.2.2 i hi
  intro m
  induction m with
  | zero =>
    intro k N μ h1 h2 h3
    obtain ⟨N, rfl⟩ : ∃ j, N = j + 1 := ⟨N - 1, by omega⟩
    have p3 := ((MB_0 h3).2.2 i hi).2.2.1
    rw [fX2_lift_L24]
    simp (disch := omega) only [grd, if_pos, tn_9, p3, w32_i]
    exact ev_some.mpr ⟨rfl, fun _ _ _ => rfl⟩
  | succ m ih =>
    intro k N μ h1 h2 h3
    obtain ⟨N, rfl⟩ : ∃ j, N = j + 1 := ⟨N - 1, by omega⟩
    have p3 := ((MB_0 h3).2.2 i hi).2.2.1
    rw [fX2_lift_L24]
    simp (disch := omega) only [grd, if_pos, if_neg, tn_9, p3, w32_i, ev_bnd2, mlet_e, w32_s]
    refine ev_mono (e_hasBy (n := n) (v := s 3 i + k) hn hg hi (by omega) h3) (fun q hq => ?_)
    obtain ⟨q1, q3⟩ := hq
    rw [q1, lftS]
    by_cases z : whoS (wr s 3 i (s 3 i + (k : Int))) n = (i : Int)
    · rw [if_neg (by omega), if_pos z]
      exact ev_some.mpr ⟨rfl, q3⟩
    · rw [if_pos z, if_neg z]
      refine ev_mono (ih (k + 1) N q.2 (by omega) (by omega) (MB_congr h3 g6 (fun c k hc => q3 _ _ (by omega)))) (fun r hr => ⟨hr.1, fun c k hc => ?_⟩)
      rw [hr.2 _ _ hc, q3 _ _ hc]
theorem P_lift {i n : Int} {μ : Mem} (h : Inv μ) : Same (fX1_lift i n μ) (fX2_lift i n) := by
  obtain ⟨s, hR, hC, hM, hg, h0, h40, h61⟩ := Inv_now h
  have g0 := hg.1
  have g6 := hg.2.1
  have c4 := hC.1
  have m4 := hM.1
  by_cases a : 0 ≤ i ∧ i < s 0 0
  · by_cases b : 1 ≤ n ∧ n ≤ 20
    · obtain ⟨n, rfl⟩ : ∃ j : Nat, n = j := ⟨n.toNat, by omega⟩
      obtain ⟨i, rfl⟩ : ∃ j : Nat, i = j := ⟨i.toNat, by omega⟩
      obtain ⟨-, -, g3⟩ := hg.2.2.2.2 i a.2
      unfold fX1_lift
      have hf := fuel_lt
      generalize fuel = N at hf ⊢
      simp (disch := omega) only [e_has, e_within, bd_some, b01_t, if_neg, if_pos]
      refine ev_mono (e_lift_L (s := s) (i := i) (n := n) (by omega) hg a.2 (21 - s 3 i).toNat 0 N μ (by omega) (by omega) hC) (fun q hq => ?_)
      have f1 := hq.2
      have hM1 : MB 0 q.2 s := MB_congr hM g6 (fun c k hk => f1 _ _ (by omega))
      have m5 := hM1.1
      unfold fX2_lift
      have hf := fuel_lt
      generalize fuel = N at hf ⊢
      simp (disch := omega) only [e_isOne, e_in, bd_some, b01_t, if_neg, if_pos]
      refine ev_mono (e_lift2_L (s := s) (i := i) (n := n) (by omega) hg a.2 (21 - s 3 i).toNat 0 N q.2 (by omega) (by omega) hM1) (fun r hr => ?_)
      refine ⟨by rw [hr.1, hq.1], Inv_free h (fun c k hf => ?_)⟩
      unfold fre at hf
      rw [hr.2 _ _ (by omega), f1 _ _ (by omega)]
    · refine same_of (v := -1) (μ1 := μ) (μ2 := μ) ?_ ?_ h
      · unfold fX1_lift
        have hf := fuel_lt
        generalize fuel = N at hf ⊢
        simp (disch := omega) only [e_has, e_within, bnd2_some, bd_some, b01_t, b01_f, if_pos, if_neg, mlet_e, grd, ite_true, ite_false, not_true_eq_false, not_false_eq_true, ite_self, tn_c, w32_i]
      · unfold fX2_lift
        have hf := fuel_lt
        generalize fuel = N at hf ⊢
        simp (disch := omega) only [e_isOne, e_in, bnd2_some, bd_some, b01_t, b01_f, if_pos, if_neg, mlet_e, grd, ite_true, ite_false, not_true_eq_false, not_false_eq_true, ite_self, tn_c, w32_i]
  · refine same_of (v := -1) (μ1 := μ) (μ2 := μ) ?_ ?_ h
    · unfold fX1_lift
      have hf := fuel_lt
      generalize fuel = N at hf ⊢
      simp (disch := omega) only [e_has, e_within, bnd2_some, bd_some, b01_t, b01_f, if_pos, if_neg, mlet_e, grd, ite_true, ite_false, not_true_eq_false, not_false_eq_true, ite_self, tn_c, w32_i]
    · unfold fX2_lift
      have hf := fuel_lt
      generalize fuel = N at hf ⊢
      simp (disch := omega) only [e_isOne, e_in, bnd2_some, bd_some, b01_t, b01_f, if_pos, if_neg, mlet_e, grd, ite_true, ite_false, not_true_eq_false, not_false_eq_true, ite_self, tn_c, w32_i]
/-! holders in a row -/
theorem e_hold_ok {μ : Mem} {r n : Nat} {K : Option (Int × Mem)} (hr : r < 6) (hn : n ≤ 10) (hk : ∀ j, j < n → 0 ≤ μ (2 + r) j ∧ μ (2 + r) j < μ 20 4) : ∀ (m k N : Nat), k + m = n → m < N → fX1_refusalOfHolders_L56 (n : Int) μ (r : Int) K N (k : Int) = some (0, μ) := by
  intro m
  induction m with
  | zero =>
    intro k N h1 h2
    obtain ⟨N, rfl⟩ : ∃ j, N = j + 1 := ⟨N - 1, by omega⟩
    rw [fX1_refusalOfHolders_L56, if_pos (by omega)]
  | succ m ih =>
    intro k N h1 h2
    obtain ⟨N, rfl⟩ : ∃ j, N = j + 1 := ⟨N - 1, by omega⟩
    rw [fX1_refusalOfHolders_L56]
    have := hk k (by omega)
    simp (disch := omega) only [grd, if_pos, if_neg, mlet_e, tn_c, e_has, bd_some, b01_t, w32_s]
    exact ih (k + 1) N (by omega) (by omega)
theorem e_hold_no {μ : Mem} {r n j0 : Nat} {K : Option (Int × Mem)} (hr : r < 6) (hn : n ≤ 10) (hj : j0 < n) (hk : ¬ (0 ≤ μ (2 + r) j0 ∧ μ (2 + r) j0 < μ 20 4)) : ∀ (m k N : Nat), k + m = j0 → m < N → fX1_refusalOfHolders_L56 (n : Int) μ (r : Int) K N (k : Int) = K := by
  intro m
  induction m with
  | zero =>
    intro k N h1 h2
    obtain ⟨N, rfl⟩ : ∃ j, N = j + 1 := ⟨N - 1, by omega⟩
    obtain rfl : k = j0 := by omega
    rw [fX1_refusalOfHolders_L56]
    simp (disch := omega) only [grd, if_pos, if_neg, mlet_e, tn_c, e_has, bd_some, b01_f, not_true_eq_false, ite_false]
  | succ m ih =>
    intro k N h1 h2
    obtain ⟨N, rfl⟩ : ∃ j, N = j + 1 := ⟨N - 1, by omega⟩
    rw [fX1_refusalOfHolders_L56]
    by_cases z : 0 ≤ μ (2 + r) k ∧ μ (2 + r) k < μ 20 4
    · simp (disch := omega) only [grd, if_pos, if_neg, mlet_e, tn_c, e_has, bd_some, b01_t, w32_s]
      exact ih (k + 1) N (by omega) (by omega)
    · simp (disch := omega) only [grd, if_pos, if_neg, mlet_e, tn_c, e_has, bd_some, b01_f, not_true_eq_false, ite_false]
theorem e_noRow_0 {μ : Mem} {r n : Nat} {K : Int → Option (Int × Mem)} (hr : r < 6) (hn : n ≤ 10) (e1 : μ 63 r = (n : Int)) : ∀ (m k N : Nat), k + m = n → m < N → fX2_noRow_L42 (r : Int) μ K N 0 (k : Int) = K 0 := by
  intro m
  induction m with
  | zero =>
    intro k N h1 h2
    obtain ⟨N, rfl⟩ : ∃ j, N = j + 1 := ⟨N - 1, by omega⟩
    rw [fX2_noRow_L42]
    simp (disch := omega) only [grd, if_pos, tn_c]
  | succ m ih =>
    intro k N h1 h2
    obtain ⟨N, rfl⟩ : ∃ j, N = j + 1 := ⟨N - 1, by omega⟩
    rw [fX2_noRow_L42]
    simp (disch := omega) only [grd, if_pos, if_neg, tn_c, mlet_e, w32_s, ite_true]
    exact ih (k + 1) N (by omega) (by omega)
theorem e_noRow_ok {μ : Mem} {r n : Nat} {K : Int → Option (Int × Mem)} (hr : r < 6) (hn : n ≤ 10) (e1 : μ 63 r = (n : Int)) (hp : 0 ≤ μ 60 1 ∧ μ 60 1 ≤ 6) (hk : ∀ j, j < n → 0 ≤ μ 64 (40 * r + j) ∧ μ 64 (40 * r + j) < μ 60 1) : ∀ (m k N : Nat), k + m = n → m < N → fX2_noRow_L42 (r : Int) μ K N 1 (k : Int) = K 1 := by
  intro m
  induction m with
  | zero =>
    intro k N h1 h2
    obtain ⟨N, rfl⟩ : ∃ j, N = j + 1 := ⟨N - 1, by omega⟩
    rw [fX2_noRow_L42]
    simp (disch := omega) only [grd, if_pos, tn_c]
  | succ m ih =>
    intro k N h1 h2
    obtain ⟨N, rfl⟩ : ∃ j, N = j + 1 := ⟨N - 1, by omega⟩
    have := hk k (by omega)
    rw [fX2_noRow_L42]
    simp (disch := omega) only [grd, if_pos, if_neg, tn_c, tn_40, w32_i, mlet_e, w32_s, e_isOne, bd_some, b01_t]
    exact ih (k + 1) N (by omega) (by omega)
theorem e_noRow_no {μ : Mem} {r n j0 : Nat} {K : Int → Option (Int × Mem)} (hr : r < 6) (hn : n ≤ 10) (hj : j0 < n) (e1 : μ 63 r = (n : Int)) (hp : 0 ≤ μ 60 1 ∧ μ 60 1 ≤ 6) (hk : ¬ (0 ≤ μ 64 (40 * r + j0) ∧ μ 64 (40 * r + j0) < μ 60 1)) : ∀ (m k N : Nat), k + m = j0 → 50 + m < N → fX2_noRow_L42 (r : Int) μ K N 1 (k : Int) = K 0 := by
  intro m
  induction m with
  | zero =>
    intro k N h1 h2
    obtain ⟨N, rfl⟩ : ∃ j, N = j + 1 := ⟨N - 1, by omega⟩
    obtain rfl : k = j0 := by omega
    rw [fX2_noRow_L42]
    simp (disch := omega) only [grd, if_pos, if_neg, tn_c, tn_40, w32_i, mlet_e, w32_s, e_isOne, bd_some, b01_f, ite_true]
    exact e_noRow_0 hr hn e1 (n - (k + 1)) (k + 1) N (by omega) (by omega)
  | succ m ih =>
    intro k N h1 h2
    obtain ⟨N, rfl⟩ : ∃ j, N = j + 1 := ⟨N - 1, by omega⟩
    rw [fX2_noRow_L42]
    by_cases z : 0 ≤ μ 64 (40 * r + k) ∧ μ 64 (40 * r + k) < μ 60 1
    · simp (disch := omega) only [grd, if_pos, if_neg, tn_c, tn_40, w32_i, mlet_e, w32_s, e_isOne, bd_some, b01_t]
      exact ih (k + 1) N (by omega) (by omega)
    · simp (disch := omega) only [grd, if_pos, if_neg, tn_c, tn_40, w32_i, mlet_e, w32_s, e_isOne, bd_some, b01_f, ite_true]
      exact e_noRow_0 hr hn e1 (n - (k + 1)) (k + 1) N (by omega) (by omega)
theorem P_holders {i r : Nat} {μ : Mem} (h : Inv μ) (hi : (i : Int) < μ 20 4) (hr : r < 6) : (fX1_refusalOfHolders (i : Int) (r : Int) μ = some (0, μ) ∧ (∀ ν : Mem, (∀ c k, (c = 60 ∧ k = 1) ∨ c = 63 ∨ c = 64 → ν c k = μ c k) → fX2_noRow (r : Int) ν = some (0, ν)) ∧ ∃ n : Nat, μ 8 r = (n : Int) ∧ 1 ≤ n ∧ n ≤ 10) ∨ ∃ f : Nat, f ≤ 5 ∧ fX1_refusalOfHolders (i : Int) (r : Int) μ = some (-3, fndM μ f) ∧ fX2_noRow (r : Int) (fndM μ f) = some (-3, fndM2 (fndM μ f) f) := by
  obtain ⟨s, hR, hC, hM, hg, h0, h40, h61⟩ := Inv_now h
  have g0 := hg.1
  have g6 := hg.2.1
  have c4 := hC.1
  have m4 := hM.1
  obtain ⟨k1, k2, k3, k4⟩ := h.1 r hr
  by_cases b : 0 ≤ μ 8 r
  · obtain ⟨n, hn⟩ : ∃ n : Nat, μ 8 r = (n : Int) := ⟨(μ 8 r).toNat, by omega⟩
    by_cases c : 1 ≤ n ∧ n ≤ 10
    · by_cases d : ∃ j, j < n ∧ ¬ (0 ≤ μ (2 + r) j ∧ μ (2 + r) j < μ 20 4)
      · obtain ⟨j, hj, hd⟩ := d
        refine Or.inr ⟨3, by omega, ?_, ?_⟩
        · unfold fX1_refusalOfHolders
          have hf := fuel_lt
          generalize fuel = N at hf ⊢
          simp (disch := omega) only [e_has, e_isRow, e_within, bd_some, b01_t, if_pos, if_neg, grd, tn_c, mlet_e, hn, fn3, bnd2_some]
          exact e_hold_no (n := n) hr c.2 hj hd j 0 N (by omega) (by omega)
        · unfold fX2_noRow
          have hf := fuel_lt
          generalize fuel = N at hf ⊢
          simp (disch := omega) only [e_in, bd_some, b01_t, if_pos, if_neg, grd, tn_c, mlet_e, fndM_ne, k1, hn, gn3, bnd2_some]
          refine (e_noRow_no (μ := fndM μ 3) (n := n) (j0 := j) hr c.2 hj (by rw [fndM_ne (by omega)]; omega) (by rw [fndM_ne (by omega)]; omega) (by rw [fndM_ne (by omega), fndM_ne (by omega), k4 j (by omega)]; omega) j 0 N (by omega) (by omega)).trans ?_
          rw [if_pos rfl]
      · have d' : ∀ j, j < n → 0 ≤ μ (2 + r) j ∧ μ (2 + r) j < μ 20 4 := fun j hj => by
          by_cases q : 0 ≤ μ (2 + r) j ∧ μ (2 + r) j < μ 20 4
          · exact q
          · exact absurd ⟨j, hj, q⟩ d
        refine Or.inl ⟨?_, ?_, n, hn, c⟩
        · unfold fX1_refusalOfHolders
          have hf := fuel_lt
          generalize fuel = N at hf ⊢
          simp (disch := omega) only [e_has, e_isRow, e_within, bd_some, b01_t, if_pos, if_neg, grd, tn_c, mlet_e, hn, fn3, bnd2_some]
          exact e_hold_ok (n := n) hr c.2 d' n 0 N (by omega) (by omega)
        · intro ν hν
          have k1' : ν 63 r = (n : Int) := by rw [hν _ _ (by omega)]; omega
          have p1' : ν 60 1 = μ 60 1 := hν _ _ (by omega)
          unfold fX2_noRow
          have hf := fuel_lt
          generalize fuel = N at hf ⊢
          simp (disch := omega) only [e_in, bd_some, b01_t, if_pos, if_neg, grd, tn_c, mlet_e, k1', gn3, bnd2_some]
          refine (e_noRow_ok (μ := ν) (n := n) hr c.2 k1' (by omega) (fun j hj => by rw [hν 64 _ (by omega), k4 j (by omega)]; have := d' j hj; omega) n 0 N (by omega) (by omega)).trans ?_
          rw [if_neg (by omega)]
    · refine Or.inr ⟨5, by omega, ?_, ?_⟩
      · unfold fX1_refusalOfHolders
        have hf := fuel_lt
        generalize fuel = N at hf ⊢
        simp (disch := omega) only [e_has, e_isRow, e_within, hn, fn5, bnd2_some, bd_some, b01_t, b01_f, if_pos, if_neg, mlet_e, grd, ite_true, ite_false, not_true_eq_false, not_false_eq_true, ite_self, tn_c, w32_i]
      · unfold fX2_noRow
        have hf := fuel_lt
        generalize fuel = N at hf ⊢
        simp (disch := omega) only [e_in, fndM_ne, k1, hn, gn5, bnd2_some, bd_some, b01_t, b01_f, if_pos, if_neg, mlet_e, grd, ite_true, ite_false, not_true_eq_false, not_false_eq_true, ite_self, tn_c, w32_i]
  · refine Or.inr ⟨1, by omega, ?_, ?_⟩
    · unfold fX1_refusalOfHolders
      have hf := fuel_lt
      generalize fuel = N at hf ⊢
      simp (disch := omega) only [e_has, e_isRow, e_within, fn1, bnd2_some, bd_some, b01_t, b01_f, if_pos, if_neg, mlet_e, grd, ite_true, ite_false, not_true_eq_false, not_false_eq_true, ite_self, tn_c, w32_i]
    · unfold fX2_noRow
      have hf := fuel_lt
      generalize fuel = N at hf ⊢
      simp (disch := omega) only [e_in, fndM_ne, k1, gn1, bnd2_some, bd_some, b01_t, b01_f, if_pos, if_neg, mlet_e, grd, ite_true, ite_false, not_true_eq_false, not_false_eq_true, ite_self, tn_c, w32_i]
