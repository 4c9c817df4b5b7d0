/-! kinds -/
theorem GB_wr1 {s : Mem} {i : Nat} {v : Int} (hg : GB s) (hv : 0 ≤ v ∧ v ≤ 5) : GB (wr s 1 i v) := by
  obtain ⟨g1, g2, g3, g4, g5⟩ := hg
  have e0 : ∀ k, wr s 1 i v 0 k = s 0 k := fun k => wr_ne (by omega)
  refine ⟨by rw [e0]; exact g1, by rw [e0]; exact g2, by rw [e0]; exact g3, by rw [e0]; exact g4, fun j hj => ?_⟩
  rw [e0] at hj
  obtain ⟨m1, m2, m3⟩ := g5 j hj
  rw [wr_ne (c := 1) (c' := 2) (by omega), wr_ne (c := 1) (c' := 3) (by omega)]
  refine ⟨?_, m2, m3⟩
  by_cases e : j = i
  · rw [wr_at (by omega)]
    exact hv
  · rw [wr_ne (by omega)]
    exact m1
theorem CB_wr1 {b i : Nat} {μ s : Mem} {v : Int} (h : CB b μ s) : CB b (wr μ (b + 1) i v) (wr s 1 i v) := by
  obtain ⟨h1, h2, h3, h4⟩ := h
  have e0 : ∀ k, wr s 1 i v 0 k = s 0 k := fun k => wr_ne (by omega)
  refine ⟨by rw [e0, wr_ne (by omega)]; exact h1, by rw [e0, wr_ne (by omega)]; exact h2, by rw [e0, wr_ne (by omega)]; exact h3, fun j hj => ?_⟩
  rw [e0] at hj
  obtain ⟨m1, m2, m3, m4⟩ := h4 j hj
  by_cases e : j = i
  · subst e
    simp (disch := omega) only [wr_ne, wr_at]
    exact ⟨trivial, m2, m3, m4⟩
  · simp (disch := omega) only [wr_ne]
    exact ⟨m1, m2, m3, m4⟩
theorem MB_wr1 {a i : Nat} {μ s : Mem} {v : Int} (h : MB a μ s) : MB a (wr μ 62 i v) (wr s 1 i v) := by
  obtain ⟨h1, h2, h3, h4⟩ := h
  have e0 : ∀ k, wr s 1 i v 0 k = s 0 k := fun k => wr_ne (by omega)
  refine ⟨by rw [e0, wr_ne (by omega)]; exact h1, by rw [e0, wr_ne (by omega)]; exact h2, by rw [e0, wr_ne (by omega)]; exact h3, fun j hj => ?_⟩
  rw [e0] at hj
  obtain ⟨m1, m2, m3, m4⟩ := h4 j hj
  by_cases e : j = i
  · subst e
    simp (disch := omega) only [wr_ne, wr_at]
    exact ⟨trivial, m2, m3, m4⟩
  · simp (disch := omega) only [wr_ne]
    exact ⟨m1, m2, m3, m4⟩
theorem e_kinds_L {s : Mem} {i r n : Nat} {ρ : Nat → Int} (hr : r < 6) (hn : n ≤ 40) (hg : GB s) (hi : (i : Int) < s 0 0) : ∀ (m k N : Nat) (μ : Mem), k + m = 6 → m < N → CB 20 μ s → μ 8 r = (n : Int) → (∀ j, j < n → μ (2 + r) j = ρ j) → Ev (fX1_kinds_L19 (i : Int) (r : Int) N (setR (fun d => gosS (wr s 1 i (d : Int)) ρ n 0) k) (k : Int) μ) fun q => q.1 = setR (fun d => gosS (wr s 1 i (d : Int)) ρ n 0) 6 ∧ ∀ c k, c < 25 ∨ 29 < c → q.2 c k = μ c k := by
  have g6 := hg.2.1
  intro m
  induction m with
  | zero =>
    intro k N μ h1 h2 h3 h4 h5
    obtain ⟨N, rfl⟩ : ∃ j, N = j + 1 := ⟨N - 1, by omega⟩
    obtain rfl : k = 6 := by omega
    rw [fX1_kinds_L19, if_pos (by omega)]
    exact ev_some.mpr ⟨rfl, fun _ _ _ => rfl⟩
  | succ m ih =>
    intro k N μ h1 h2 h3 h4 h5
    obtain ⟨N, rfl⟩ : ∃ j, N = j + 1 := ⟨N - 1, by omega⟩
    obtain ⟨μa, a1, a2, a3⟩ := e_become (b := 25) (b' := 20) (by omega) h3 hg
    rw [fX1_kinds_L19]
    simp (disch := omega) only [grd, if_pos, if_neg, tn_c, a1, bd_some, mlet_e, ev_bnd2, w32_s]
    refine ev_mono (e_goes (n := n) (ρ := ρ) hr hn (GB_wr1 hg (i := i) (v := (k : Int)) (by omega)) (CB_wr1 (b := 25) a2) (by rw [wr_ne (by omega), a3 _ _ (by omega)]; exact h4) (fun j hj => by rw [wr_ne (by omega), a3 _ _ (by omega)]; exact h5 j hj)) (fun q hq => ?_)
    obtain ⟨q1, q3⟩ := hq
    have f : ∀ c k, c < 25 ∨ 29 < c → q.2 c k = μ c k := fun c k hc => by
      rw [q3 _ _ hc, wr_ne (by omega), a3 _ _ (by omega)]
    have nx := ih (k + 1) N q.2 (by omega) (by omega) (CB_congr h3 (fun c k hc => f _ _ (by omega))) (by rw [f _ _ (by omega)]; exact h4) (fun j hj => by rw [f _ _ (by omega)]; exact h5 j hj)
    have nx' := ev_mono nx (fun t ht => (⟨ht.1, fun c k hc => by rw [ht.2 _ _ hc, f _ _ hc]⟩ : t.1 = setR (fun d => gosS (wr s 1 i (d : Int)) ρ n 0) 6 ∧ ∀ c k, c < 25 ∨ 29 < c → t.2 c k = μ c k))
    rw [q1]
    by_cases z : gosS (wr s 1 i (k : Int)) ρ n 0 = 0
    · rw [if_pos z]
      rw [setR, if_pos z] at nx'
      exact nx'
    · rw [if_neg z]
      rw [setR, if_neg z] at nx'
      exact nx'
theorem e_kinds2_L {s μ0 : Mem} {i r n : Nat} {ρ : Nat → Int} {K : Int → Mem → Option (Int × Mem)} {Q : Int × Mem → Prop} (hr : r < 6) (hn : n ≤ 40) (hg : GB s) (hi : (i : Int) < s 0 0) (hM : MB 0 μ0 s) (h4 : μ0 63 r = (n : Int)) (h5 : ∀ j, j < n → μ0 64 (40 * r + j) = ρ j)
    (hK : ∀ ν, (∀ c k, ¬ (c = 61 ∧ 3284 ≤ k) → ¬ (c = 62 ∧ k = i) → ν c k = μ0 c k) → Ev (K (setR (fun d => gosS (wr s 1 i (d : Int)) ρ n 0) 6) ν) Q) : ∀ (m k N : Nat) (μ : Mem), k + m = 6 → m < N → (∀ c k, ¬ (c = 61 ∧ 3284 ≤ k) → ¬ (c = 62 ∧ k = i) → μ c k = μ0 c k) → Ev (fX2_kinds_L43 K (i : Int) (r : Int) N (setR (fun d => gosS (wr s 1 i (d : Int)) ρ n 0) k) (k : Int) μ) Q := by
  have g6 := hg.2.1
  intro m
  induction m with
  | zero =>
    intro k N μ h1 h2 h3
    obtain ⟨N, rfl⟩ : ∃ j, N = j + 1 := ⟨N - 1, by omega⟩
    obtain rfl : k = 6 := by omega
    rw [fX2_kinds_L43, if_pos (by omega)]
    exact hK μ h3
  | succ m ih =>
    intro k N μ h1 h2 h3
    obtain ⟨N, rfl⟩ : ∃ j, N = j + 1 := ⟨N - 1, by omega⟩
    have hM1 : MB 0 (wr μ 62 i (k : Int)) (wr s 1 i (k : Int)) := MB_congr (MB_wr1 (i := i) (v := (k : Int)) hM) (by rw [wr_ne (by omega)]; exact g6) (fun c k' hc => by
      by_cases z : c = 62 ∧ k' = i
      · rw [wr_at z, wr_at z]
      · rw [wr_ne z, wr_ne z, h3 _ _ (by omega) z])
    have hG1 : GB (wr s 1 i (k : Int)) := GB_wr1 hg (by omega)
    rw [fX2_kinds_L43]
    simp (disch := omega) only [grd, if_pos, if_neg, tn_c, e_layTried, bd_some, mlet_e, ev_bnd2, w32_s]
    refine ev_mono (e_isSo (n := n) (ρ := ρ) hr hn hG1 (MB_tried hM1 hG1) (by rw [cpy_ne (by omega), wr_ne (by omega), h3 _ _ (by omega) (by omega)]; exact h4) (fun j hj => by rw [cpy_ne (by omega), wr_ne (by omega), h3 _ _ (by omega) (by omega)]; exact h5 j hj)) (fun q hq => ?_)
    obtain ⟨q1, q3⟩ := hq
    have nx := ih (k + 1) N q.2 (by omega) (by omega) (fun c k' c1 c2 => by rw [q3 _ _ c1, cpy_ne (by omega), wr_ne (by omega), h3 _ _ c1 c2])
    rw [q1]
    by_cases z : gosS (wr s 1 i (k : Int)) ρ n 0 = 0
    · rw [if_pos z, bor_0 (setR_ok _ _)]
      rw [setR, if_pos z] at nx
      exact nx
    · rw [if_neg z]
      rw [setR, if_neg z] at nx
      exact nx
theorem P_kinds {i r : Int} {μ : Mem} (h : Inv μ) : Same (fX1_kinds i r μ) (fX2_kinds i r) := by
  obtain ⟨s, hR, hC, hM, hg, h0, h40, h61⟩ := Inv_now h
  have g0 := hg.1
  have g6 := hg.2.1
  have c4 := hC.1
  have m4 := hM.1
  by_cases a : 0 ≤ i ∧ i < s 0 0
  · by_cases b : 0 ≤ r ∧ r ≤ 5
    · obtain ⟨i, rfl⟩ : ∃ j : Nat, i = j := ⟨i.toNat, by omega⟩
      obtain ⟨r, rfl⟩ : ∃ j : Nat, r = j := ⟨r.toNat, by omega⟩
      rcases P_holders (i := i) (r := r) h (by omega) (by omega) with ⟨e1, e2, n, hn, hn1, hn2⟩ | ⟨f, hf, e1, e2⟩
      · obtain ⟨k1, k2, k3, k4⟩ := h.1 r (by omega)
        unfold fX1_kinds
        have hf := fuel_lt
        generalize fuel = N at hf ⊢
        simp only [e1, bnd2_some, if_true]
        refine ev_mono (e_kinds_L (s := s) (i := i) (r := r) (n := n) (ρ := fun j => μ (2 + r) j) (by omega) (by omega) hg a.2 6 0 N μ (by omega) (by omega) hC hn (fun _ _ => rfl)) (fun q hq => ?_)
        obtain ⟨q1, b3⟩ := hq
        have hM1 : MB 0 q.2 s := MB_congr hM g6 (fun c k hk => b3 _ _ (by omega))
        have m5 := hM1.1
        have e3 : fX2_noRow (r : Int) q.2 = some (0, q.2) := e2 q.2 (fun c k hk => b3 _ _ (by omega))
        unfold fX2_kinds
        have hf := fuel_lt
        generalize fuel = N at hf ⊢
        simp (disch := omega) only [e_isOne, e_isRow2, bd_some, b01_t, if_neg, if_pos, e3, bnd2_some, ite_true, grd, mlet_e, tn_c]
        refine e_kinds2_L (μ0 := q.2) (s := s) (i := i) (r := r) (n := n) (ρ := fun j => μ (2 + r) j) (by omega) (by omega) hg a.2 hM1 (by rw [b3 _ _ (by omega)]; omega) (fun j hj => by rw [b3 _ _ (by omega)]; exact k4 j (by omega)) (fun ν hν => ?_) 6 0 N q.2 (by omega) (by omega) (fun _ _ _ _ => rfl)
        refine ev_some.mpr ⟨q1.symm, Inv_free h (fun c k hf => ?_)⟩
        dsimp only
        unfold fre at hf
        by_cases z : c = 62 ∧ k = i
        · rw [wr_at z, z.1, z.2, b3 _ _ (by omega)]
        · rw [wr_ne z, hν _ _ (by omega) z, b3 _ _ (by omega)]
      · refine same_of (v := -3) (μ1 := fndM μ f) (μ2 := fndM2 (fndM μ f) f) ?_ ?_ (Inv_find h hf)
        · unfold fX1_kinds
          have hf := fuel_lt
          generalize fuel = N at hf ⊢
          simp (disch := omega) only [e1, bnd2_some, if_neg]
        · have m5 : fndM μ f 60 1 = μ 60 1 := fndM_ne (by omega)
          unfold fX2_kinds
          have hf := fuel_lt
          generalize fuel = N at hf ⊢
          simp (disch := omega) only [e_isOne, e_isRow2, bd_some, b01_t, if_neg, if_pos, e2, bnd2_some]
    · refine same_of (v := -1) (μ1 := μ) (μ2 := μ) ?_ ?_ h
      · unfold fX1_kinds fX1_refusalOfHolders
        have hf := fuel_lt
        generalize fuel = N at hf ⊢
        simp (disch := omega) only [e_has, e_isRow, bnd2_some, bd_some, b01_t, b01_f, if_pos, if_neg, mlet_e, grd, ite_true, ite_false, not_true_eq_false, not_false_eq_true, ite_self, tn_c, w32_i]
      · unfold fX2_kinds
        have hf := fuel_lt
        generalize fuel = N at hf ⊢
        simp (disch := omega) only [e_isOne, e_isRow2, bnd2_some, bd_some, b01_t, b01_f, if_pos, if_neg, mlet_e, grd, ite_true, ite_false, not_true_eq_false, not_false_eq_true, ite_self, tn_c, w32_i]
  · refine same_of (v := -1) (μ1 := μ) (μ2 := μ) ?_ ?_ h
    · unfold fX1_kinds fX1_refusalOfHolders
      have hf := fuel_lt
      generalize fuel = N at hf ⊢
      simp (disch := omega) only [e_has, e_isRow, bnd2_some, bd_some, b01_t, b01_f, if_pos, if_neg, mlet_e, grd, ite_true, ite_false, not_true_eq_false, not_false_eq_true, ite_self, tn_c, w32_i]
    · unfold fX2_kinds
      have hf := fuel_lt
      generalize fuel = N at hf ⊢
      simp (disch := omega) only [e_isOne, e_isRow2, bnd2_some, bd_some, b01_t, b01_f, if_pos, if_neg, mlet_e, grd, ite_true, ite_false, not_true_eq_false, not_false_eq_true, ite_self, tn_c, w32_i]
