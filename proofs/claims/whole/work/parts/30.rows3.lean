/-! mean; texts -/
def sumW (μ : Mem) (c : Nat) : Nat → Int
  | 0 => 0
  | k + 1 => w64 (sumW μ c k + μ c k)
theorem e_mean_L1 {r s : Nat} {μ : Mem} {K : Int → Option (Int × Mem)} (hr : r < 6) (hs : s ≤ 40) : ∀ (m k N : Nat), k + m = s → m < N → fX1_mean_L41 (s : Int) K (r : Int) μ N (sumW μ (2 + r) k) (k : Int) = K (sumW μ (2 + r) s) := by
  intro m
  induction m with
  | zero =>
    intro k N h1 h2
    obtain ⟨N, rfl⟩ : ∃ j, N = j + 1 := ⟨N - 1, by omega⟩
    obtain rfl : k = s := by omega
    rw [fX1_mean_L41, if_pos (by omega)]
  | succ m ih =>
    intro k N h1 h2
    obtain ⟨N, rfl⟩ : ∃ j, N = j + 1 := ⟨N - 1, by omega⟩
    rw [fX1_mean_L41]
    simp (disch := omega) only [w32_s, bnd2_some, bd_some, b01_t, b01_f, if_pos, if_neg, mlet_e, grd, ite_true, ite_false, not_true_eq_false, not_false_eq_true, tn_c, w32_i]
    exact ih (k + 1) N (by omega) (by omega)
theorem e_mean_L2 {r s : Nat} {μ : Mem} {K : Int → Option (Int × Mem)} (hr : r < 6) (hs : s ≤ 40) (e1 : μ 63 r = (s : Int)) (e2 : ∀ i : Nat, i < 40 → μ 64 (40 * r + i) = μ (2 + r) i) : ∀ (m k N : Nat), k + m = s → m < N → fX2_mean_L44 (r : Int) μ K N (sumW μ (2 + r) k) (k : Int) = K (sumW μ (2 + r) s) := by
  intro m
  induction m with
  | zero =>
    intro k N h1 h2
    obtain ⟨N, rfl⟩ : ∃ j, N = j + 1 := ⟨N - 1, by omega⟩
    obtain rfl : k = s := by omega
    rw [fX2_mean_L44]
    simp (disch := omega) only [bnd2_some, bd_some, b01_t, b01_f, if_pos, if_neg, mlet_e, grd, ite_true, ite_false, not_true_eq_false, not_false_eq_true, tn_c, w32_i]
  | succ m ih =>
    intro k N h1 h2
    obtain ⟨N, rfl⟩ : ∃ j, N = j + 1 := ⟨N - 1, by omega⟩
    rw [fX2_mean_L44]
    simp (disch := omega) only [w32_s, tn_40, bnd2_some, bd_some, b01_t, b01_f, if_pos, if_neg, mlet_e, grd, ite_true, ite_false, not_true_eq_false, not_false_eq_true, tn_c, w32_i]
    rw [e2 k (by omega)]
    exact ih (k + 1) N (by omega) (by omega)
theorem sumW_congr {μ μ' : Mem} {c : Nat} (h : ∀ k, μ' c k = μ c k) : ∀ n, sumW μ' c n = sumW μ c n
  | 0 => rfl
  | n + 1 => by rw [sumW, sumW, sumW_congr h n, h n]
theorem P_mean {r : Int} {μ : Mem} (h : Inv μ) : Same (fX1_mean r μ) (fX2_mean r) := by
  by_cases a : 0 ≤ r ∧ r ≤ 5
  · obtain ⟨r, rfl⟩ : ∃ k : Nat, r = k := ⟨r.toNat, by omega⟩
    obtain ⟨k1, k2, k3, k4⟩ := h.1 r (by omega)
    by_cases b : 0 ≤ μ 8 r
    · by_cases c : μ 8 r = 0
      · refine same_of (v := -3) (μ1 := fndM μ 4) (μ2 := fndM2 (fndM μ 4) 4) ?_ ?_ (Inv_find h (by omega))
        · unfold fX1_mean
          have hf := fuel_lt
          generalize fuel = N at hf ⊢
          simp (disch := omega) only [e_isRow, fn4, bnd2_some, bd_some, b01_t, b01_f, if_pos, if_neg, mlet_e, grd, ite_true, ite_false, not_true_eq_false, not_false_eq_true, tn_c, w32_i]
        · unfold fX2_mean
          have hf := fuel_lt
          generalize fuel = N at hf ⊢
          simp (disch := omega) only [e_isRow2, gn4, fndM_ne, bnd2_some, bd_some, b01_t, b01_f, if_pos, if_neg, mlet_e, grd, ite_true, ite_false, not_true_eq_false, not_false_eq_true, tn_c, w32_i]
      · obtain ⟨s, hs⟩ : ∃ s : Nat, μ 8 r = (s : Int) := ⟨(μ 8 r).toNat, by omega⟩
        refine same_of (v := 1) (μ1 := wr μ 0 11 (w32 (w64 ((sumW μ (2 + r) s).tdiv (s : Int))))) (μ2 := wr (wr μ 0 11 (w32 (w64 ((sumW μ (2 + r) s).tdiv (s : Int))))) 60 7 (w32 (w64 ((sumW μ (2 + r) s).tdiv (s : Int))))) ?_ ?_ (Inv_tell h)
        · unfold fX1_mean
          have hf := fuel_lt
          generalize fuel = N at hf ⊢
          simp (disch := omega) only [e_isRow, hs, bnd2_some, bd_some, b01_t, b01_f, if_pos, if_neg, mlet_e, grd, ite_true, ite_false, not_true_eq_false, not_false_eq_true, tn_c, w32_i]
          refine (e_mean_L1 (μ := μ) (r := r) (s := s) (by omega) (by omega) s 0 N (by omega) (by omega)).trans ?_
          simp (disch := omega) only [e_tell, bnd2_some, bd_some, b01_t, b01_f, if_pos, if_neg, mlet_e, grd, ite_true, ite_false, not_true_eq_false, not_false_eq_true, tn_c, w32_i]
        · generalize hz : w32 (w64 ((sumW μ (2 + r) s).tdiv (s : Int))) = z
          have e0 : ∀ c k, ¬ c = 0 → wr μ 0 11 z c k = μ c k := fun c k hc => wr_ne (by omega)
          unfold fX2_mean
          have hf := fuel_lt
          generalize fuel = N at hf ⊢
          simp (disch := omega) only [e_isRow2, e0, k1, hs, bnd2_some, bd_some, b01_t, b01_f, if_pos, if_neg, mlet_e, grd, ite_true, ite_false, not_true_eq_false, not_false_eq_true, tn_c, w32_i]
          refine (e_mean_L2 (μ := wr μ 0 11 z) (r := r) (s := s) (by omega) (by omega) (by rw [e0 _ _ (by omega)]; omega) (fun i hi => by rw [e0 _ _ (by omega), e0 _ _ (by omega)]; exact k4 i hi) s 0 N (by omega) (by omega)).trans ?_
          rw [sumW_congr (fun k => e0 _ k (by omega))]
          simp (disch := omega) only [e_tell2, hz, bnd2_some, bd_some, b01_t, b01_f, if_pos, if_neg, mlet_e, grd, ite_true, ite_false, not_true_eq_false, not_false_eq_true, tn_c, w32_i]
    · refine same_of (v := -3) (μ1 := fndM μ 1) (μ2 := fndM2 (fndM μ 1) 1) ?_ ?_ (Inv_find h (by omega))
      · unfold fX1_mean
        have hf := fuel_lt
        generalize fuel = N at hf ⊢
        simp (disch := omega) only [e_isRow, fn1, bnd2_some, bd_some, b01_t, b01_f, if_pos, if_neg, mlet_e, grd, ite_true, ite_false, not_true_eq_false, not_false_eq_true, tn_c, w32_i]
      · unfold fX2_mean
        have hf := fuel_lt
        generalize fuel = N at hf ⊢
        simp (disch := omega) only [e_isRow2, gn1, fndM_ne, bnd2_some, bd_some, b01_t, b01_f, if_pos, if_neg, mlet_e, grd, ite_true, ite_false, not_true_eq_false, not_false_eq_true, tn_c, w32_i]
  · refine same_of (v := -1) (μ1 := μ) (μ2 := μ) ?_ ?_ h
    · unfold fX1_mean
      have hf := fuel_lt
      generalize fuel = N at hf ⊢
      simp (disch := omega) only [e_isRow, bnd2_some, bd_some, b01_t, b01_f, if_pos, if_neg, mlet_e, grd, ite_true, ite_false, not_true_eq_false, not_false_eq_true, tn_c, w32_i]
    · unfold fX2_mean
      have hf := fuel_lt
      generalize fuel = N at hf ⊢
      simp (disch := omega) only [e_isRow2, bnd2_some, bd_some, b01_t, b01_f, if_pos, if_neg, mlet_e, grd, ite_true, ite_false, not_true_eq_false, not_false_eq_true, tn_c, w32_i]
theorem Inv_text {μ : Mem} (h : Inv μ) {t : Nat} (ht : t < 4) {v : Int} (hv : 0 ≤ v ∧ v ≤ 60) : Inv (filR (wr (filM (wr μ 14 t v) (10 + t) 60 32) 65 t v) 66 (60 * t) 60 32) := by
  obtain ⟨h1, h2, h3, h4⟩ := h
  have e : ∀ c k, ¬ (10 ≤ c ∧ c ≤ 14) → ¬ c = 65 → ¬ c = 66 → filR (wr (filM (wr μ 14 t v) (10 + t) 60 32) 65 t v) 66 (60 * t) 60 32 c k = μ c k := fun c k a1 a2 a3 => by
    simp (disch := omega) only [wr_ne, filR_ne, filM_ne]
  refine ⟨RowsI_congr h1 (fun c k hc => e c k (by omega) (by omega) (by omega)), fun r' hr' => ?_, ToldI_congr h3 (fun c k hc => e c k (by omega) (by omega) (by omega)), RivI_congr h4 (fun c k hc => by unfold rvc at hc; exact e c k (by omega) (by omega) (by omega))⟩
  obtain ⟨k1, k2, k3, k4⟩ := h2 r' hr'
  by_cases e1 : r' = t
  · subst e1
    simp (disch := omega) only [wr_ne, wr_at, filR_ne, filM_ne]
    refine ⟨trivial, by omega, by omega, fun i hi => ?_⟩
    simp (disch := omega) only [wr_ne, wr_at, filR_ne, filM_ne, filR_at, filM_at]
  · simp (disch := omega) only [wr_ne, wr_at, filR_ne, filM_ne]
    refine ⟨k1, k2, k3, fun i hi => ?_⟩
    simp (disch := omega) only [wr_ne, wr_at, filR_ne, filM_ne, filR_at, filM_at]
    exact k4 i hi
theorem e_text_L {t : Nat} {v : Int} {μ : Mem} (ht : t < 4) : ∀ (m k n : Nat), k + m = 60 → m < n → fX2_text_L34 v (t : Int) n (k : Int) (filR μ 66 (60 * t) k 32) = some (v, filR μ 66 (60 * t) 60 32) := by
  intro m
  induction m with
  | zero =>
    intro k n h1 h2
    obtain ⟨n, rfl⟩ : ∃ j, n = j + 1 := ⟨n - 1, by omega⟩
    obtain rfl : k = 60 := by omega
    rw [fX2_text_L34, if_pos (by omega)]
  | succ m ih =>
    intro k n h1 h2
    obtain ⟨n, rfl⟩ : ∃ j, n = j + 1 := ⟨n - 1, by omega⟩
    rw [fX2_text_L34]
    simp (disch := omega) only [tn_60, filR_s, bnd2_some, bd_some, b01_t, b01_f, if_pos, if_neg, mlet_e, grd, ite_true, ite_false, not_true_eq_false, not_false_eq_true, tn_c, w32_i]
    exact ih (k + 1) n (by omega) (by omega)
theorem w8_32 : w8 32 = 32 := by decide
theorem P_text {t n : Int} {μ : Mem} (h : Inv μ) : Same (fX1_text t n μ) (fX2_text t n) := by
  by_cases a : 0 ≤ t ∧ t ≤ 3
  · by_cases b : n ≤ 60
    · by_cases c : 0 ≤ n
      · obtain ⟨t, rfl⟩ : ∃ k : Nat, t = k := ⟨t.toNat, by omega⟩
        refine same_of (v := n) (μ1 := filM (wr μ 14 t n) (10 + t) 60 32) (μ2 := filR (wr (filM (wr μ 14 t n) (10 + t) 60 32) 65 t n) 66 (60 * t) 60 32) ?_ ?_ (Inv_text h (by omega) (by omega))
        · simp (disch := omega) only [fX1_text, e_isText, w8_32, bnd2_some, bd_some, b01_t, b01_f, if_pos, if_neg, mlet_e, grd, ite_true, ite_false, not_true_eq_false, not_false_eq_true, tn_c, w32_i]
        · unfold fX2_text
          have hf := fuel_lt
          generalize fuel = N at hf ⊢
          simp (disch := omega) only [e_isText2, bnd2_some, bd_some, b01_t, b01_f, if_pos, if_neg, mlet_e, grd, ite_true, ite_false, not_true_eq_false, not_false_eq_true, tn_c, w32_i]
          have e9 := e_text_L (v := n) (μ := wr (filM (wr μ 14 t n) (10 + t) 60 32) 65 t n) (t := t) (by omega) 60 0 N (by omega) (by omega)
          rw [filR_0] at e9
          exact e9
      · refine same_of (v := -3) (μ1 := fndM μ 5) (μ2 := fndM2 (fndM μ 5) 5) ?_ ?_ (Inv_find h (by omega))
        · simp (disch := omega) only [fX1_text, fn5, e_isText, bnd2_some, bd_some, b01_t, b01_f, if_pos, if_neg, mlet_e, grd, ite_true, ite_false, not_true_eq_false, not_false_eq_true, tn_c, w32_i]
        · unfold fX2_text
          have hf := fuel_lt
          generalize fuel = N at hf ⊢
          simp (disch := omega) only [gn5, e_isText2, bnd2_some, bd_some, b01_t, b01_f, if_pos, if_neg, mlet_e, grd, ite_true, ite_false, not_true_eq_false, not_false_eq_true, tn_c, w32_i]
    · refine same_of (v := -1) (μ1 := μ) (μ2 := μ) ?_ ?_ h
      · simp (disch := omega) only [fX1_text, e_isText, bnd2_some, bd_some, b01_t, b01_f, if_pos, if_neg, mlet_e, grd, ite_true, ite_false, not_true_eq_false, not_false_eq_true, tn_c, w32_i]
      · unfold fX2_text
        have hf := fuel_lt
        generalize fuel = N at hf ⊢
        simp (disch := omega) only [e_isText2, bnd2_some, bd_some, b01_t, b01_f, if_pos, if_neg, mlet_e, grd, ite_true, ite_false, not_true_eq_false, not_false_eq_true, tn_c, w32_i]
  · refine same_of (v := -1) (μ1 := μ) (μ2 := μ) ?_ ?_ h
    · simp (disch := omega) only [fX1_text, e_isText, bnd2_some, bd_some, b01_t, b01_f, if_pos, if_neg, mlet_e, grd, ite_true, ite_false, not_true_eq_false, not_false_eq_true, tn_c, w32_i]
    · unfold fX2_text
      have hf := fuel_lt
      generalize fuel = N at hf ⊢
      simp (disch := omega) only [e_isText2, bnd2_some, bd_some, b01_t, b01_f, if_pos, if_neg, mlet_e, grd, ite_true, ite_false, not_true_eq_false, not_false_eq_true, tn_c, w32_i]
theorem Inv_put {μ : Mem} (h : Inv μ) {r i : Nat} (hr : r < 4) (hi : i < 60) {v : Int} : Inv (wr (wr μ (10 + r) i v) 66 (60 * r + i) v) := by
  obtain ⟨h1, h2, h3, h4⟩ := h
  have e : ∀ c k, ¬ (10 ≤ c ∧ c ≤ 14) → ¬ c = 65 → ¬ c = 66 → wr (wr μ (10 + r) i v) 66 (60 * r + i) v c k = μ c k := fun c k a1 a2 a3 => by
    simp (disch := omega) only [wr_ne]
  refine ⟨RowsI_congr h1 (fun c k hc => e c k (by omega) (by omega) (by omega)), fun r' hr' => ?_, ToldI_congr h3 (fun c k hc => e c k (by omega) (by omega) (by omega)), RivI_congr h4 (fun c k hc => by unfold rvc at hc; exact e c k (by omega) (by omega) (by omega))⟩
  obtain ⟨k1, k2, k3, k4⟩ := h2 r' hr'
  simp (disch := omega) only [wr_ne]
  refine ⟨k1, k2, k3, fun j hj => ?_⟩
  by_cases e1 : r' = r ∧ j = i
  · rw [wr_at (by omega), wr_at (by omega)]
  · rw [wr_ne (by omega), wr_ne (by omega), wr_ne (by omega)]
    exact k4 j hj
theorem P_put {t i v : Int} {μ : Mem} (h : Inv μ) : Same (fX1_put t i v μ) (fX2_put t i v) := by
  by_cases a : 0 ≤ t ∧ t ≤ 3
  · obtain ⟨t, rfl⟩ : ∃ k : Nat, t = k := ⟨t.toNat, by omega⟩
    obtain ⟨k1, k2, k3, k4⟩ := h.2.1 t (by omega)
    by_cases b : 0 ≤ μ 14 t
    · by_cases c : 0 ≤ i ∧ i < μ 14 t
      · obtain ⟨i, rfl⟩ : ∃ k : Nat, i = k := ⟨i.toNat, by omega⟩
        refine same_of (v := w32 (μ (10 + t) i + 1000)) (μ1 := wr μ (10 + t) i (w8 v)) (μ2 := wr (wr μ (10 + t) i (w8 v)) 66 (60 * t + i) (w8 v)) ?_ ?_ (Inv_put h (by omega) (by omega))
        · simp (disch := omega) only [fX1_put, fn1, fn2, e_isText, w8w8, bnd2_some, bd_some, b01_t, b01_f, if_pos, if_neg, mlet_e, grd, tn_c]
        · have e1 : w32 (μ 65 t - 1) = μ 65 t - 1 := w32_i (by omega)
          have e2 : w32 (60 * (t : Int)) = 60 * (t : Int) := w32_i (by omega)
          have e3 : w32 (60 * (t : Int) + (i : Int)) = 60 * (t : Int) + (i : Int) := w32_i (by omega)
          simp (disch := omega) only [fX2_put, gn1, gn2, e_isText2, wr_ne, e1, e2, e3, e_in, tn_60, bnd2_some, bd_some, b01_t, b01_f, if_pos, if_neg, mlet_e, grd, tn_c]
          rw [k4 i (by omega)]
      · refine same_of (v := -3) (μ1 := fndM μ 2) (μ2 := fndM2 (fndM μ 2) 2) ?_ ?_ (Inv_find h (by omega))
        · unfold fX1_put
          by_cases g : i < 0
          · simp (disch := omega) only [fn1, fn2, e_isText, bnd2_some, bd_some, b01_t, b01_f, if_pos, if_neg, mlet_e, grd, ite_true, ite_false, not_true_eq_false, not_false_eq_true, tn_c, w32_i]
          · simp (disch := omega) only [fn1, fn2, e_isText, bnd2_some, bd_some, b01_t, b01_f, if_pos, if_neg, mlet_e, grd, ite_true, ite_false, not_true_eq_false, not_false_eq_true, tn_c, w32_i]
        · simp (disch := omega) only [fX2_put, gn1, gn2, e_isText2, fndM_ne, e_in, bnd2_some, bd_some, b01_t, b01_f, if_pos, if_neg, mlet_e, grd, ite_true, ite_false, not_true_eq_false, not_false_eq_true, tn_c, w32_i]
    · refine same_of (v := -3) (μ1 := fndM μ 1) (μ2 := fndM2 (fndM μ 1) 1) ?_ ?_ (Inv_find h (by omega))
      · simp (disch := omega) only [fX1_put, fn1, fn2, e_isText, bnd2_some, bd_some, b01_t, b01_f, if_pos, if_neg, mlet_e, grd, ite_true, ite_false, not_true_eq_false, not_false_eq_true, tn_c, w32_i]
      · simp (disch := omega) only [fX2_put, gn1, gn2, e_isText2, fndM_ne, e_in, bnd2_some, bd_some, b01_t, b01_f, if_pos, if_neg, mlet_e, grd, ite_true, ite_false, not_true_eq_false, not_false_eq_true, tn_c, w32_i]
  · refine same_of (v := -1) (μ1 := μ) (μ2 := μ) ?_ ?_ h
    · simp (disch := omega) only [fX1_put, e_isText, bnd2_some, bd_some, b01_t, b01_f, if_pos, if_neg, mlet_e, grd, ite_true, ite_false, not_true_eq_false, not_false_eq_true, tn_c, w32_i]
    · simp (disch := omega) only [fX2_put, e_isText2, bnd2_some, bd_some, b01_t, b01_f, if_pos, if_neg, mlet_e, grd, ite_true, ite_false, not_true_eq_false, not_false_eq_true, tn_c, w32_i]
