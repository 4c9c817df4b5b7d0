/-! NIGHTS aside: where, crosses, first, lift -/
def nitS (s : Mem) : Nat → Mem
  | 0 => s
  | k + 1 => nightS (nitS s k)
def whoS (s : Mem) : Nat → Int
  | 0 => -9
  | k + 1 => hold (nitS s k) 0
theorem GB_nit {s : Mem} (hg : GB s) : ∀ k, GB (nitS s k)
  | 0 => hg
  | k + 1 => GB_night (GB_nit hg k)
theorem nit_0 (s : Mem) : ∀ k, nitS s k 0 0 = s 0 0
  | 0 => rfl
  | k + 1 => by rw [nitS, night_0, nit_0 s k]
theorem e_aside_L {n : Nat} {s : Mem} (hn : n ≤ 40) (hg : GB s) : ∀ (m k N : Nat) (μ : Mem), k + m = n → m < N → CB 25 μ (nitS s k) → Ev (fX1_holderAside_L5 (n : Int) N (whoS s k) (k : Int) μ) fun q => q.1 = whoS s n ∧ CB 25 q.2 (nitS s n) ∧ ∀ c k, c < 25 ∨ 29 < c → q.2 c k = μ c k := by
  intro m
  induction m with
  | zero =>
    intro k N μ h1 h2 h3
    obtain ⟨N, rfl⟩ : ∃ j, N = j + 1 := ⟨N - 1, by omega⟩
    obtain rfl : k = n := by omega
    rw [fX1_holderAside_L5, if_pos (by omega)]
    exact ev_some.mpr ⟨rfl, h3, fun _ _ _ => rfl⟩
  | succ m ih =>
    intro k N μ h1 h2 h3
    obtain ⟨N, rfl⟩ : ∃ j, N = j + 1 := ⟨N - 1, by omega⟩
    rw [fX1_holderAside_L5, if_neg (by omega), ev_bnd2]
    refine ev_mono (e_passNight h3 (GB_nit hg k)) (fun q hq => ?_)
    obtain ⟨q1, q2, q3⟩ := hq
    rw [mlet_e, w32_s (by omega), q1]
    refine ev_mono (ih (k + 1) N q.2 (by omega) (by omega) q2) (fun r hr => ⟨hr.1, hr.2.1, fun c k hc => ?_⟩)
    rw [hr.2.2 _ _ hc, q3 _ _ (by omega)]
theorem e_aside {n : Nat} {μ s : Mem} (hn : n ≤ 40) (hg : GB s) (hc : CB 25 μ s) : Ev (fX1_holderAside (n : Int) μ) fun q => q.1 = whoS s n ∧ CB 25 q.2 (nitS s n) ∧ ∀ c k, c < 25 ∨ 29 < c → q.2 c k = μ c k := by
  unfold fX1_holderAside
  have hf := fuel_lt
  generalize fuel = N at hf ⊢
  exact e_aside_L hn hg n 0 N μ (by omega) (by omega) hc
theorem e_where_L {n : Nat} {s : Mem} {K : Mem → Option (Int × Mem)} {Q : Int × Mem → Prop} (hn : n ≤ 40) (hg : GB s) : ∀ (m k N : Nat) (μ : Mem), k + m = n → m < N → MB 3284 μ (nitS s k) → μ 60 7 = whoS s k → (∀ ν, MB 3284 ν (nitS s n) → ν 60 7 = whoS s n → (∀ c k, ¬ (c = 61 ∧ 3284 ≤ k) → ¬ (c = 60 ∧ k = 7) → ν c k = μ c k) → Ev (K ν) Q) → Ev (fX2_where_L36 (n : Int) K N (k : Int) μ) Q := by
  intro m
  induction m with
  | zero =>
    intro k N μ h1 h2 h3 h4 h5
    obtain ⟨N, rfl⟩ : ∃ j, N = j + 1 := ⟨N - 1, by omega⟩
    obtain rfl : k = n := by omega
    rw [fX2_where_L36, if_pos (by omega)]
    exact h5 μ h3 h4 (fun _ _ _ _ => rfl)
  | succ m ih =>
    intro k N μ h1 h2 h3 h4 h5
    obtain ⟨N, rfl⟩ : ∃ j, N = j + 1 := ⟨N - 1, by omega⟩
    rw [fX2_where_L36, if_neg (by omega), ev_bnd2]
    refine ev_mono (e_passes (x := 3284) (a := 3284) rfl (by omega) h3 (GB_nit hg k)) (fun q hq => ?_)
    obtain ⟨q1, q2, q3⟩ := hq
    rw [mlet_e, mlet_e, w32_s (by omega), q1]
    refine ih (k + 1) N _ (by omega) (by omega) (MB_congr q2 (GB_night (GB_nit hg k)).2.1 (fun c k hk => wr_ne (by omega))) (wr_at (by omega)) (fun ν r1 r2 r3 => h5 ν r1 r2 (fun c k c1 c2 => ?_))
    rw [r3 _ _ c1 c2, wr_ne (by omega), q3 _ _ (by omega)]
theorem P_where {n : Int} {μ : Mem} (h : Inv μ) : Same (fX1_where n μ) (fX2_where n) := by
  obtain ⟨s, hR, hC, hM, hg, h0, h40, h61⟩ := Inv_now h
  have g0 := hg.1
  have g6 := hg.2.1
  have c4 := hC.1
  have m4 := hM.1
  by_cases a : 0 ≤ n ∧ n ≤ 40
  · by_cases b : s 0 0 = 0
    · refine same_of (v := -4) (μ1 := μ) (μ2 := μ) ?_ ?_ h
      · unfold fX1_where
        simp (disch := omega) only [e_within, bnd2_some, bd_some, b01_t, b01_f, if_pos, if_neg, mlet_e, grd, ite_true, ite_false, not_true_eq_false, not_false_eq_true, ite_self, tn_c, w32_i]
      · unfold fX2_where
        have hf := fuel_lt
        generalize fuel = N at hf ⊢
        simp (disch := omega) only [e_in, bnd2_some, bd_some, b01_t, b01_f, if_pos, if_neg, mlet_e, grd, ite_true, ite_false, not_true_eq_false, not_false_eq_true, ite_self, tn_c, w32_i]
    · obtain ⟨n, rfl⟩ : ∃ j : Nat, n = j := ⟨n.toNat, by omega⟩
      obtain ⟨μa, a1, a2, a3⟩ := e_become (b := 25) (b' := 20) (by omega) hC hg
      obtain ⟨⟨v, μb⟩, b1, b2, b3, b4⟩ := e_aside (n := n) (by omega) hg a2
      dsimp only at b2 b3 b4
      subst b2
      have f1 : ∀ c k, ¬ (c = 0 ∧ k = 11) → c < 25 ∨ 29 < c → wr μb 0 11 (whoS s n) c k = μ c k := fun c k q1 q2 => by
        rw [wr_ne (by omega), b4 _ _ q2, a3 _ _ (by omega)]
      have E1 : fX1_where (n : Int) μ = some (nitS s n 0 1, wr μb 0 11 (whoS s n)) := by
        unfold fX1_where
        simp (disch := omega) only [e_within, a1, b1, e_tell, wr_ne, bnd2_some, bd_some, b01_t, b01_f, if_pos, if_neg, mlet_e, grd, ite_true, ite_false, not_true_eq_false, not_false_eq_true, ite_self, tn_c, w32_i]
        rw [b3.2.1]
      refine ⟨_, E1, ?_⟩
      dsimp only
      generalize hμ1 : wr μb 0 11 (whoS s n) = μ1 at f1
      have e11 : μ1 0 11 = whoS s n := by rw [← hμ1, wr_at (by omega)]
      have hM1 : MB 0 μ1 s := MB_congr hM g6 (fun c k hk => f1 _ _ (by omega) (by omega))
      have m5 := hM1.1
      have hM2 := MB_tried hM1 hg
      unfold fX2_where
      have hf := fuel_lt
      generalize fuel = N at hf ⊢
      simp (disch := omega) only [e_in, e_layTried, bnd2_some, bd_some, b01_t, b01_f, if_pos, if_neg, mlet_e, grd, ite_true, ite_false, not_true_eq_false, not_false_eq_true, ite_self, tn_c, w32_i]
      refine e_where_L (n := n) (s := s) (by omega) hg n 0 N _ (by omega) (by omega) (MB_congr hM2 g6 (fun c k hk => wr_ne (by omega))) (wr_at (by omega)) (fun ν r1 r2 r3 => ?_)
      refine ev_some.mpr ⟨r1.2.1, ?_⟩
      dsimp only
      have f2 : ∀ c k, ¬ (c = 61 ∧ 3284 ≤ k) → ¬ (c = 60 ∧ k = 7) → ν c k = μ1 c k := fun c k q1 q2 => by
        rw [r3 _ _ q1 q2, wr_ne (by omega), cpy_ne (by omega)]
      have hI := Inv_free (μ2 := fun c k => if c = 0 ∧ k = 11 then μ 0 11 else if c = 60 ∧ k = 7 then μ 60 7 else ν c k) h (fun c k hf => by
        unfold fre at hf
        by_cases z1 : c = 0 ∧ k = 11
        · rw [if_pos z1, z1.1, z1.2]
        · rw [if_neg z1]
          by_cases z2 : c = 60 ∧ k = 7
          · rw [if_pos z2, z2.1, z2.2]
          · rw [if_neg z2, f2 _ _ (by omega) z2, f1 _ _ z1 (by omega)])
      have hI2 := Inv_tell hI (v := whoS s n)
      have : wr (wr (fun c k => if c = 0 ∧ k = 11 then μ 0 11 else if c = 60 ∧ k = 7 then μ 60 7 else ν c k) 0 11 (whoS s n)) 60 7 (whoS s n) = ν := by
        funext c k
        by_cases z2 : c = 60 ∧ k = 7
        · rw [wr_at z2, z2.1, z2.2, r2]
        · rw [wr_ne z2]
          by_cases z1 : c = 0 ∧ k = 11
          · rw [wr_at z1, z1.1, z1.2, f2 _ _ (by omega) (by omega), e11]
          · rw [wr_ne z1, if_neg z1, if_neg z2]
      rw [this] at hI2
      exact hI2
  · refine same_of (v := -1) (μ1 := μ) (μ2 := μ) ?_ ?_ h
    · unfold fX1_where
      simp (disch := omega) only [e_within, bnd2_some, bd_some, b01_t, b01_f, if_pos, if_neg, mlet_e, grd, ite_true, ite_false, not_true_eq_false, not_false_eq_true, ite_self, tn_c, w32_i]
    · unfold fX2_where
      have hf := fuel_lt
      generalize fuel = N at hf ⊢
      simp (disch := omega) only [e_in, bnd2_some, bd_some, b01_t, b01_f, if_pos, if_neg, mlet_e, grd, ite_true, ite_false, not_true_eq_false, not_false_eq_true, ite_self, tn_c, w32_i]
theorem e_crosses_L {n : Nat} {s : Mem} {K : Mem → Option (Int × Mem)} {Q : Int × Mem → Prop} (hn : n ≤ 40) (hg : GB s) : ∀ (m k N : Nat) (μ : Mem), k + m = n → m < N → MB 3284 μ (nitS s k) → (∀ ν, MB 3284 ν (nitS s n) → (∀ c k, ¬ (c = 61 ∧ 3284 ≤ k) → ν c k = μ c k) → Ev (K ν) Q) → Ev (fX2_crosses_L28 (n : Int) K N (k : Int) μ) Q := by
  intro m
  induction m with
  | zero =>
    intro k N μ h1 h2 h3 h5
    obtain ⟨N, rfl⟩ : ∃ j, N = j + 1 := ⟨N - 1, by omega⟩
    obtain rfl : k = n := by omega
    rw [fX2_crosses_L28, if_pos (by omega)]
    exact h5 μ h3 (fun _ _ _ => rfl)
  | succ m ih =>
    intro k N μ h1 h2 h3 h5
    obtain ⟨N, rfl⟩ : ∃ j, N = j + 1 := ⟨N - 1, by omega⟩
    rw [fX2_crosses_L28, if_neg (by omega), ev_bnd2]
    refine ev_mono (e_passes (x := 3284) (a := 3284) rfl (by omega) h3 (GB_nit hg k)) (fun q hq => ?_)
    obtain ⟨q1, q2, q3⟩ := hq
    rw [mlet_e, w32_s (by omega)]
    refine ih (k + 1) N _ (by omega) (by omega) q2 (fun ν r1 r3 => h5 ν r1 (fun c k c1 => ?_))
    rw [r3 _ _ c1, q3 _ _ (by omega)]
theorem tn_3299 {k : Nat} : (3299 + (k : Int)).toNat = 3284 + 15 + k := by omega
theorem P_crosses {i n : Int} {μ : Mem} (h : Inv μ) : Same (fX1_crosses i n μ) (fX2_crosses i n) := by
  obtain ⟨s, hR, hC, hM, hg, h0, h40, h61⟩ := Inv_now h
  have g0 := hg.1
  have g6 := hg.2.1
  have c4 := hC.1
  have m4 := hM.1
  by_cases a : 0 ≤ i ∧ i < s 0 0
  · by_cases b : 0 ≤ n ∧ n ≤ 40
    · obtain ⟨n, rfl⟩ : ∃ j : Nat, n = j := ⟨n.toNat, by omega⟩
      obtain ⟨i, rfl⟩ : ∃ j : Nat, i = j := ⟨i.toNat, by omega⟩
      obtain ⟨μa, a1, a2, a3⟩ := e_become (b := 25) (b' := 20) (by omega) hC hg
      obtain ⟨⟨v, μb⟩, b1, b2, b3, b4⟩ := e_aside (n := n) (by omega) hg a2
      dsimp only at b2 b3 b4
      have f1 : ∀ c k, c < 25 ∨ 29 < c → μb c k = μ c k := fun c k q2 => by
        rw [b4 _ _ q2, a3 _ _ (by omega)]
      have i1 : μb 29 i = nitS s n 4 i := (b3.2.2.2 i (by rw [nit_0]; exact a.2)).2.2.2
      have i2 : μb 24 i = s 4 i := by rw [f1 _ _ (by omega)]; exact (hC.2.2.2 i a.2).2.2.2
      have E1 : fX1_crosses (i : Int) (n : Int) μ = some (w32 (nitS s n 4 i - s 4 i), μb) := by
        unfold fX1_crosses
        simp (disch := omega) only [e_has, e_within, a1, b1, bnd2_some, bd_some, b01_t, if_pos, if_neg, grd, tn_c, i1, i2]
      refine ⟨_, E1, ?_⟩
      dsimp only
      have hM1 : MB 0 μb s := MB_congr hM g6 (fun c k hk => f1 _ _ (by omega))
      have m5 := hM1.1
      have hM2 := MB_tried hM1 hg
      unfold fX2_crosses
      have hf := fuel_lt
      generalize fuel = N at hf ⊢
      simp (disch := omega) only [e_isOne, e_in, e_layTried, bd_some, b01_t, if_pos, if_neg, mlet_e]
      refine e_crosses_L (n := n) (s := s) (by omega) hg n 0 N _ (by omega) (by omega) hM2 (fun ν r1 r3 => ?_)
      have i3 := (r1.2.2.2 i (by rw [nit_0]; exact a.2)).2.2.2
      have i4 : ν 61 (15 + i) = s 4 i := by
        rw [r3 _ _ (by omega), cpy_ne (by omega)]
        exact ((MB_0 hM1).2.2 i a.2).2.2.2
      simp (disch := omega) only [grd, if_pos, w32_i, tn_3299, tn_15, i3, i4]
      refine ev_some.mpr ⟨rfl, ?_⟩
      dsimp only
      refine Inv_free h (fun c k hf => ?_)
      unfold fre at hf
      rw [r3 _ _ (by omega), cpy_ne (by omega), f1 _ _ (by omega)]
    · refine same_of (v := -1) (μ1 := μ) (μ2 := μ) ?_ ?_ h
      · unfold fX1_crosses
        simp (disch := omega) only [e_has, e_within, bnd2_some, bd_some, b01_t, b01_f, if_pos, if_neg, mlet_e, grd, ite_true, ite_false, not_true_eq_false, not_false_eq_true, ite_self, tn_c, w32_i]
      · unfold fX2_crosses
        have hf := fuel_lt
        generalize fuel = N at hf ⊢
        simp (disch := omega) only [e_isOne, e_in, bnd2_some, bd_some, b01_t, b01_f, if_pos, if_neg, mlet_e, grd, ite_true, ite_false, not_true_eq_false, not_false_eq_true, ite_self, tn_c, w32_i]
  · refine same_of (v := -1) (μ1 := μ) (μ2 := μ) ?_ ?_ h
    · unfold fX1_crosses
      simp (disch := omega) only [e_has, e_within, bnd2_some, bd_some, b01_t, b01_f, if_pos, if_neg, mlet_e, grd, ite_true, ite_false, not_true_eq_false, not_false_eq_true, ite_self, tn_c, w32_i]
    · unfold fX2_crosses
      have hf := fuel_lt
      generalize fuel = N at hf ⊢
      simp (disch := omega) only [e_isOne, e_in, bnd2_some, bd_some, b01_t, b01_f, if_pos, if_neg, mlet_e, grd, ite_true, ite_false, not_true_eq_false, not_false_eq_true, ite_self, tn_c, w32_i]
def fstS (s : Mem) (i : Int) : Nat → Nat → Int
  | 0, _ => -9
  | m + 1, k => if hold (nitS s k) 0 = i then ((k + 1 : Nat) : Int) else fstS s i m (k + 1)
theorem e_first_L {s : Mem} {i : Int} (hg : GB s) : ∀ (m k N : Nat) (μ : Mem), k + m = 40 → m < N → CB 25 μ (nitS s k) → Ev (fX1_first_L26 i N ((k + 1 : Nat) : Int) μ) fun q => q.1 = fstS s i m k ∧ ∀ c k, c < 25 ∨ 29 < c → q.2 c k = μ c k := by
  intro m
  induction m with
  | zero =>
    intro k N μ h1 h2 h3
    obtain ⟨N, rfl⟩ : ∃ j, N = j + 1 := ⟨N - 1, by omega⟩
    rw [fX1_first_L26, if_pos (by omega)]
    exact ev_some.mpr ⟨rfl, fun _ _ _ => rfl⟩
  | succ m ih =>
    intro k N μ h1 h2 h3
    obtain ⟨N, rfl⟩ : ∃ j, N = j + 1 := ⟨N - 1, by omega⟩
    rw [fX1_first_L26, if_neg (by omega), ev_bnd2]
    refine ev_mono (e_passNight h3 (GB_nit hg k)) (fun q hq => ?_)
    obtain ⟨q1, q2, q3⟩ := hq
    rw [mlet_e, w32_s (by omega), q1, fstS]
    by_cases z : hold (nitS s k) 0 = i
    · rw [if_neg (by omega), if_pos z]
      exact ev_some.mpr ⟨rfl, q3⟩
    · rw [if_pos z, if_neg z]
      refine ev_mono (ih (k + 1) N q.2 (by omega) (by omega) q2) (fun r hr => ⟨hr.1, fun c k hc => ?_⟩)
      rw [hr.2 _ _ hc, q3 _ _ (by omega)]
theorem e_first2_L {s : Mem} {i : Int} (hg : GB s) : ∀ (m k N : Nat) (μ : Mem), k + m = 40 → m < N → MB 3284 μ (nitS s k) → Ev (fX2_first_L16 i N ((k + 1 : Nat) : Int) μ) fun q => q.1 = fstS s i m k ∧ ∀ c k, ¬ (c = 61 ∧ 3284 ≤ k) → q.2 c k = μ c k := by
  intro m
  induction m with
  | zero =>
    intro k N μ h1 h2 h3
    obtain ⟨N, rfl⟩ : ∃ j, N = j + 1 := ⟨N - 1, by omega⟩
    rw [fX2_first_L16, if_pos (by omega)]
    exact ev_some.mpr ⟨rfl, fun _ _ _ => rfl⟩
  | succ m ih =>
    intro k N μ h1 h2 h3
    obtain ⟨N, rfl⟩ : ∃ j, N = j + 1 := ⟨N - 1, by omega⟩
    rw [fX2_first_L16, if_neg (by omega), ev_bnd2]
    refine ev_mono (e_passes (x := 3284) (a := 3284) rfl (by omega) h3 (GB_nit hg k)) (fun q hq => ?_)
    obtain ⟨q1, q2, q3⟩ := hq
    rw [mlet_e, w32_s (by omega), q1, fstS]
    by_cases z : hold (nitS s k) 0 = i
    · rw [if_neg (by omega), if_pos z]
      exact ev_some.mpr ⟨rfl, fun c k hc => q3 _ _ (by omega)⟩
    · rw [if_pos z, if_neg z]
      refine ev_mono (ih (k + 1) N q.2 (by omega) (by omega) q2) (fun r hr => ⟨hr.1, fun c k hc => ?_⟩)
      rw [hr.2 _ _ hc, q3 _ _ (by omega)]
theorem P_first {i : Int} {μ : Mem} (h : Inv μ) : Same (fX1_first i μ) (fX2_first i) := by
  obtain ⟨s, hR, hC, hM, hg, h0, h40, h61⟩ := Inv_now h
  have g0 := hg.1
  have g6 := hg.2.1
  have c4 := hC.1
  have m4 := hM.1
  by_cases a : 0 ≤ i ∧ i < s 0 0
  · obtain ⟨μa, a1, a2, a3⟩ := e_become (b := 25) (b' := 20) (by omega) hC hg
    unfold fX1_first
    have hf := fuel_lt
    generalize fuel = N at hf ⊢
    simp (disch := omega) only [e_has, a1, bnd2_some, bd_some, b01_t, b01_f, if_pos, if_neg, mlet_e, grd, ite_true, ite_false, not_true_eq_false, not_false_eq_true, ite_self, tn_c, w32_i]
    refine ev_mono (e_first_L (s := s) (i := i) hg 40 0 N μa (by omega) (by omega) a2) (fun q hq => ?_)
    have f1 : ∀ c k, c < 25 ∨ 29 < c → q.2 c k = μ c k := fun c k q2 => by
      rw [hq.2 _ _ q2, a3 _ _ (by omega)]
    have hM1 : MB 0 q.2 s := MB_congr hM g6 (fun c k hk => f1 _ _ (by omega))
    have m5 := hM1.1
    have hM2 := MB_tried hM1 hg
    unfold fX2_first
    have hf := fuel_lt
    generalize fuel = N at hf ⊢
    simp (disch := omega) only [e_isOne, e_layTried, bnd2_some, bd_some, b01_t, b01_f, if_pos, if_neg, mlet_e, grd, ite_true, ite_false, not_true_eq_false, not_false_eq_true, ite_self, tn_c, w32_i]
    refine ev_mono (e_first2_L (s := s) (i := i) hg 40 0 N _ (by omega) (by omega) hM2) (fun r hr => ?_)
    refine ⟨by rw [hr.1, hq.1], Inv_free h (fun c k hf => ?_)⟩
    unfold fre at hf
    rw [hr.2 _ _ (by omega), cpy_ne (by omega), f1 _ _ (by omega)]
  · refine same_of (v := -1) (μ1 := μ) (μ2 := μ) ?_ ?_ h
    · unfold fX1_first
      have hf := fuel_lt
      generalize fuel = N at hf ⊢
      simp (disch := omega) only [e_has, bnd2_some, bd_some, b01_t, b01_f, if_pos, if_neg, mlet_e, grd, ite_true, ite_false, not_true_eq_false, not_false_eq_true, ite_self, tn_c, w32_i]
    · unfold fX2_first
      have hf := fuel_lt
      generalize fuel = N at hf ⊢
      simp (disch := omega) only [e_isOne, bnd2_some, bd_some, b01_t, b01_f, if_pos, if_neg, mlet_e, grd, ite_true, ite_false, not_true_eq_false, not_false_eq_true, ite_self, tn_c, w32_i]
