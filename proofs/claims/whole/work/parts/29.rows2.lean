theorem wr_comm {μ : Mem} {c k c' k' : Nat} {v v' : Int} (h : ¬ (c = c' ∧ k = k')) : wr (wr μ c k v) c' k' v' = wr (wr μ c' k' v') c k v := by
  funext a b
  by_cases h1 : a = c' ∧ b = k'
  · rw [wr_at h1, wr_ne (by omega), wr_at h1]
  · rw [wr_ne h1]
    by_cases h2 : a = c ∧ b = k
    · rw [wr_at h2, wr_at h2]
    · rw [wr_ne h2, wr_ne h2, wr_ne h1]
theorem Inv_lay {μ : Mem} (h : Inv μ) {r i : Nat} (hr : r < 6) (hi : i < 40) {v : Int} : Inv (wr (wr μ (2 + r) i v) 64 (40 * r + i) v) := by
  obtain ⟨h1, h2, h3, h4⟩ := h
  have e : ∀ c k, ¬ (2 ≤ c ∧ c ≤ 8) → ¬ c = 63 → ¬ c = 64 → wr (wr μ (2 + r) i v) 64 (40 * r + i) v c k = μ c k := fun c k a1 a2 a3 => by
    simp (disch := omega) only [wr_ne]
  refine ⟨fun r' hr' => ?_, TextsI_congr h2 (fun c k hc => e c k (by omega) (by omega) (by omega)), ToldI_congr h3 (fun c k hc => e c k (by omega) (by omega) (by omega)), RivI_congr h4 (fun c k hc => by unfold rvc at hc; exact e c k (by omega) (by omega) (by omega))⟩
  obtain ⟨k1, k2, k3, k4⟩ := h1 r' hr'
  simp (disch := omega) only [wr_ne]
  refine ⟨k1, k2, k3, fun j hj => ?_⟩
  by_cases e1 : r' = r ∧ j = i
  · rw [wr_at (by omega), wr_at (by omega)]
  · rw [wr_ne (by omega), wr_ne (by omega), wr_ne (by omega)]
    exact k4 j hj
theorem P_lay {r i v : Int} {μ : Mem} (h : Inv μ) : Same (fX1_lay r i v μ) (fX2_lay r i v) := by
  rcases P_refused (r := r) (i := i) h with ⟨e1, e2, r', i', rfl, rfl, hr, hi⟩ | ⟨v, μ1, μ2, hv, e1, e2, h2⟩
  · obtain ⟨k1, k2, k3, k4⟩ := h.1 r' hr
    refine same_of (v := 1) (μ1 := wr (wr μ (2 + r') i' v) 0 11 (μ (2 + r') i')) (μ2 := wr (wr (wr (wr μ (2 + r') i' v) 0 11 (μ (2 + r') i')) 64 (40 * r' + i') v) 60 7 (μ (2 + r') i')) ?_ ?_ ?_
    · simp (disch := omega) only [fX1_lay, e1, e_tell, bnd2_some, bd_some, b01_t, b01_f, if_pos, if_neg, mlet_e, grd, ite_true, ite_false, not_true_eq_false, not_false_eq_true, tn_c, w32_i]
    · have e3 : fX2_refused (r' : Int) (i' : Int) (wr (wr μ (2 + r') i' v) 0 11 (μ (2 + r') i')) = some (0, wr (wr μ (2 + r') i' v) 0 11 (μ (2 + r') i')) := by
        simp (disch := omega) only [fX2_refused, wr_ne, e_in, e_isRow2, bnd2_some, bd_some, b01_t, b01_f, if_pos, if_neg, mlet_e, grd, ite_true, ite_false, not_true_eq_false, not_false_eq_true, tn_c, w32_i]
      simp (disch := omega) only [fX2_lay, e3, e_tell2, tn_40, wr_ne, bnd2_some, bd_some, b01_t, b01_f, if_pos, if_neg, mlet_e, grd, ite_true, ite_false, not_true_eq_false, not_false_eq_true, tn_c, w32_i]
      rw [k4 i' (by omega)]
    · rw [wr_comm (c := 0) (by omega)]
      exact Inv_tell (Inv_lay h hr (by omega))
  · refine same_of (v := v) (μ1 := μ1) (μ2 := μ2) ?_ ?_ h2
    · simp (disch := omega) only [fX1_lay, e1, bnd2_some, bd_some, b01_t, b01_f, if_pos, if_neg, mlet_e, grd, ite_true, ite_false, not_true_eq_false, not_false_eq_true, tn_c, w32_i]
    · simp (disch := omega) only [fX2_lay, e2, bnd2_some, bd_some, b01_t, b01_f, if_pos, if_neg, mlet_e, grd, ite_true, ite_false, not_true_eq_false, not_false_eq_true, tn_c, w32_i]
theorem Inv_tear {μ : Mem} (h : Inv μ) {r : Nat} (hr : r < 6) : Inv (wr (wr μ 8 r (-1)) 63 r (-1)) := by
  obtain ⟨h1, h2, h3, h4⟩ := h
  have e : ∀ c k, ¬ (2 ≤ c ∧ c ≤ 8) → ¬ c = 63 → ¬ c = 64 → wr (wr μ 8 r (-1)) 63 r (-1) c k = μ c k := fun c k a1 a2 a3 => by
    simp (disch := omega) only [wr_ne]
  refine ⟨fun r' hr' => ?_, TextsI_congr h2 (fun c k hc => e c k (by omega) (by omega) (by omega)), ToldI_congr h3 (fun c k hc => e c k (by omega) (by omega) (by omega)), RivI_congr h4 (fun c k hc => by unfold rvc at hc; exact e c k (by omega) (by omega) (by omega))⟩
  obtain ⟨k1, k2, k3, k4⟩ := h1 r' hr'
  by_cases e1 : r' = r
  · subst e1
    simp (disch := omega) only [wr_ne, wr_at]
    exact ⟨trivial, by omega, by omega, k4⟩
  · simp (disch := omega) only [wr_ne]
    exact ⟨k1, k2, k3, k4⟩
theorem P_tear {r : Int} {μ : Mem} (h : Inv μ) : Same (fX1_tear r μ) (fX2_tear r) := by
  by_cases a : 0 ≤ r ∧ r ≤ 5
  · obtain ⟨r, rfl⟩ : ∃ k : Nat, r = k := ⟨r.toNat, by omega⟩
    obtain ⟨k1, k2, k3, k4⟩ := h.1 r (by omega)
    by_cases b : 0 ≤ μ 8 r
    · refine same_of (v := 1) (μ1 := wr μ 8 r (-1)) (μ2 := wr (wr μ 8 r (-1)) 63 r (-1)) ?_ ?_ (Inv_tear h (by omega))
      · simp (disch := omega) only [fX1_tear, e_isRow, bnd2_some, bd_some, b01_t, b01_f, if_pos, if_neg, mlet_e, grd, ite_true, ite_false, not_true_eq_false, not_false_eq_true, tn_c, w32_i]
      · simp (disch := omega) only [fX2_tear, e_isRow2, wr_ne, bnd2_some, bd_some, b01_t, b01_f, if_pos, if_neg, mlet_e, grd, ite_true, ite_false, not_true_eq_false, not_false_eq_true, tn_c, w32_i]
    · refine same_of (v := -3) (μ1 := fndM μ 1) (μ2 := fndM2 (fndM μ 1) 1) ?_ ?_ (Inv_find h (by omega))
      · simp (disch := omega) only [fX1_tear, e_isRow, fn1, bnd2_some, bd_some, b01_t, b01_f, if_pos, if_neg, mlet_e, grd, ite_true, ite_false, not_true_eq_false, not_false_eq_true, tn_c, w32_i]
      · simp (disch := omega) only [fX2_tear, e_isRow2, gn1, fndM_ne, bnd2_some, bd_some, b01_t, b01_f, if_pos, if_neg, mlet_e, grd, ite_true, ite_false, not_true_eq_false, not_false_eq_true, tn_c, w32_i]
  · refine same_of (v := -1) (μ1 := μ) (μ2 := μ) ?_ ?_ h
    · simp (disch := omega) only [fX1_tear, e_isRow, bnd2_some, bd_some, b01_t, b01_f, if_pos, if_neg, mlet_e, grd, ite_true, ite_false, not_true_eq_false, not_false_eq_true, tn_c, w32_i]
    · simp (disch := omega) only [fX2_tear, e_isRow2, bnd2_some, bd_some, b01_t, b01_f, if_pos, if_neg, mlet_e, grd, ite_true, ite_false, not_true_eq_false, not_false_eq_true, tn_c, w32_i]
theorem tn_40b {a b c : Nat} : (40 * (a : Int) + (b : Int) + (c : Int)).toNat = 40 * a + b + c := by omega
theorem e_copyF {r i to j n : Nat} {μ : Mem} (hr : r < 6) (ht : to < 6) (hi : i + n ≤ 40) (hj : j + n ≤ 40) (hij : r = to → j ≤ i) : ∀ (m t N : Nat), t + m = n → m < N → fX2_copy_L96 (n : Int) (r : Int) (i : Int) (to : Int) (j : Int) 0 N (t : Int) (cpy μ 64 (40 * r + i) 64 (40 * to + j) t) = some (1, cpy μ 64 (40 * r + i) 64 (40 * to + j) n) := by
  intro m
  induction m with
  | zero =>
    intro t N h1 h2
    obtain ⟨N, rfl⟩ : ∃ j, N = j + 1 := ⟨N - 1, by omega⟩
    obtain rfl : t = n := by omega
    rw [fX2_copy_L96, if_pos (by omega)]
  | succ m ih =>
    intro t N h1 h2
    obtain ⟨N, rfl⟩ : ∃ j, N = j + 1 := ⟨N - 1, by omega⟩
    rw [fX2_copy_L96]
    simp (disch := omega) only [tn_40b, w32_s, bnd2_some, bd_some, b01_t, b01_f, if_pos, if_neg, mlet_e, grd, ite_true, ite_false, not_true_eq_false, not_false_eq_true, tn_c, w32_i]
    have e : wr (cpy μ 64 (40 * r + i) 64 (40 * to + j) t) 64 (40 * to + j + t) (cpy μ 64 (40 * r + i) 64 (40 * to + j) t 64 (40 * r + i + t)) = cpy μ 64 (40 * r + i) 64 (40 * to + j) (t + 1) := by
      funext c k
      by_cases a1 : c = 64 ∧ k = 40 * to + j + t
      · obtain ⟨rfl, rfl⟩ := a1
        rw [wr_at (by omega), cpy_ne (by omega), cpy_at (by omega)]
        congr 1
        omega
      · rw [wr_ne a1]
        by_cases a2 : c = 64 ∧ 40 * to + j ≤ k ∧ k < 40 * to + j + t
        · rw [cpy_at a2, cpy_at (by omega)]
        · rw [cpy_ne a2, cpy_ne (by omega)]
    rw [e]
    exact ih (t + 1) N (by omega) (by omega)
theorem e_copyB {r i to j n : Nat} {μ : Mem} (hr : r < 6) (ht : to < 6) (hi : i + n ≤ 40) (hj : j + n ≤ 40) (hij : r = to → i ≤ j) : ∀ (m t N : Nat), t + m = n → m < N → fX2_copy_L96 (n : Int) (r : Int) (i : Int) (to : Int) (j : Int) 1 N (t : Int) (cpy μ 64 (40 * r + i + m) 64 (40 * to + j + m) t) = some (1, cpy μ 64 (40 * r + i) 64 (40 * to + j) n) := by
  intro m
  induction m with
  | zero =>
    intro t N h1 h2
    obtain ⟨N, rfl⟩ : ∃ j, N = j + 1 := ⟨N - 1, by omega⟩
    obtain rfl : t = n := by omega
    rw [fX2_copy_L96, if_pos (by omega)]
    rfl
  | succ m ih =>
    intro t N h1 h2
    obtain ⟨N, rfl⟩ : ∃ j, N = j + 1 := ⟨N - 1, by omega⟩
    rw [fX2_copy_L96]
    have e0 : ((n : Int) - 1) - (t : Int) = (m : Int) := by omega
    simp (disch := omega) only [e0, tn_40b, w32_s, bnd2_some, bd_some, b01_t, b01_f, if_pos, if_neg, mlet_e, grd, ite_true, ite_false, not_true_eq_false, not_false_eq_true, tn_c, w32_i]
    have e : wr (cpy μ 64 (40 * r + i + (m + 1)) 64 (40 * to + j + (m + 1)) t) 64 (40 * to + j + m) (cpy μ 64 (40 * r + i + (m + 1)) 64 (40 * to + j + (m + 1)) t 64 (40 * r + i + m)) = cpy μ 64 (40 * r + i + m) 64 (40 * to + j + m) (t + 1) := by
      funext c k
      by_cases a1 : c = 64 ∧ k = 40 * to + j + m
      · obtain ⟨rfl, rfl⟩ := a1
        rw [wr_at (by omega), cpy_ne (by omega), cpy_at (by omega)]
        congr 1
        omega
      · rw [wr_ne a1]
        by_cases a2 : c = 64 ∧ 40 * to + j + (m + 1) ≤ k ∧ k < 40 * to + j + (m + 1) + t
        · rw [cpy_at a2, cpy_at (by omega)]
          congr 1
          omega
        · rw [cpy_ne a2, cpy_ne (by omega)]
    rw [e]
    exact ih (t + 1) N (by omega) (by omega)
theorem cpy_0 {μ : Mem} {c s c1 d : Nat} : cpy μ c s c1 d 0 = μ := by
  funext a b
  rw [cpy_ne (by omega)]
theorem Inv_copy {μ : Mem} (h : Inv μ) {r i to j n : Nat} (hr : r < 6) (ht : to < 6) (hi : i + n ≤ 40) (hj : j + n ≤ 40) : Inv (cpy (cpy μ (2 + r) i (2 + to) j n) 64 (40 * r + i) 64 (40 * to + j) n) := by
  obtain ⟨h1, h2, h3, h4⟩ := h
  have e : ∀ c k, ¬ (2 ≤ c ∧ c ≤ 8) → ¬ c = 63 → ¬ c = 64 → cpy (cpy μ (2 + r) i (2 + to) j n) 64 (40 * r + i) 64 (40 * to + j) n c k = μ c k := fun c k a1 a2 a3 => by
    simp (disch := omega) only [cpy_ne]
  refine ⟨fun r' hr' => ?_, TextsI_congr h2 (fun c k hc => e c k (by omega) (by omega) (by omega)), ToldI_congr h3 (fun c k hc => e c k (by omega) (by omega) (by omega)), RivI_congr h4 (fun c k hc => by unfold rvc at hc; exact e c k (by omega) (by omega) (by omega))⟩
  obtain ⟨k1, k2, k3, k4⟩ := h1 r' hr'
  simp (disch := omega) only [cpy_ne]
  refine ⟨k1, k2, k3, fun l hl => ?_⟩
  by_cases e1 : r' = to ∧ j ≤ l ∧ l < j + n
  · rw [cpy_at (by omega), cpy_ne (by omega), cpy_at (by omega)]
    have := (h1 r hr).2.2.2 (i + (l - j)) (by omega)
    rw [← this]
    congr 1
    omega
  · rw [cpy_ne (by omega), cpy_ne (by omega), cpy_ne (by omega)]
    exact k4 l hl
theorem e_span {r i n : Int} {μ : Mem} (hr : 0 ≤ r ∧ r ≤ 5) (hi : okI i) (hn : okI n) : fX2_isSpan r i n μ = some (b01 (0 ≤ i ∧ i + n ≤ μ 63 r.toNat)) := by
  unfold okI at hi hn
  unfold fX2_isSpan
  by_cases a : i < 0
  · simp (disch := omega) only [bnd2_some, bd_some, b01_t, b01_f, if_pos, if_neg, mlet_e, grd, ite_true, ite_false, not_true_eq_false, not_false_eq_true, tn_c, w32_i]
  · by_cases b : i + n ≤ μ 63 r.toNat
    · simp (disch := omega) only [w64_i, lc_gt, bnd2_some, bd_some, b01_t, b01_f, if_pos, if_neg, mlet_e, grd, ite_true, ite_false, not_true_eq_false, not_false_eq_true, tn_c, w32_i]
    · simp (disch := omega) only [w64_i, lc_gt, bnd2_some, bd_some, b01_t, b01_f, if_pos, if_neg, mlet_e, grd, ite_true, ite_false, not_true_eq_false, not_false_eq_true, tn_c, w32_i]
theorem P_copy {r i to j n : Int} {μ : Mem} (h : Inv μ) (hi : okI i) (hj : okI j) (hn : okI n) : Same (fX1_copy r i to j n μ) (fX2_copy r i to j n) := by
  have hi' := hi
  have hj' := hj
  have hn' := hn
  unfold okI at hi' hj' hn'
  by_cases a : 0 ≤ r ∧ r ≤ 5
  · by_cases b : 0 ≤ to ∧ to ≤ 5
    · by_cases c : 0 ≤ n
      · obtain ⟨r, rfl⟩ : ∃ k : Nat, r = k := ⟨r.toNat, by omega⟩
        obtain ⟨to, rfl⟩ : ∃ k : Nat, to = k := ⟨to.toNat, by omega⟩
        obtain ⟨k1, k2, k3, -⟩ := h.1 r (by omega)
        obtain ⟨m1, m2, m3, -⟩ := h.1 to (by omega)
        by_cases d : 0 ≤ μ 8 r ∧ 0 ≤ μ 8 to
        · by_cases f : (0 ≤ i ∧ i + n ≤ μ 8 r) ∧ 0 ≤ j ∧ j + n ≤ μ 8 to
          · obtain ⟨i, rfl⟩ : ∃ k : Nat, i = k := ⟨i.toNat, by omega⟩
            obtain ⟨j, rfl⟩ : ∃ k : Nat, j = k := ⟨j.toNat, by omega⟩
            obtain ⟨n, rfl⟩ : ∃ k : Nat, n = k := ⟨n.toNat, by omega⟩
            refine same_of (v := 1) (μ1 := cpy μ (2 + r) i (2 + to) j n) (μ2 := cpy (cpy μ (2 + r) i (2 + to) j n) 64 (40 * r + i) 64 (40 * to + j) n) ?_ ?_ (Inv_copy h (by omega) (by omega) (by omega) (by omega))
            · simp (disch := omega) only [fX1_copy, e_isRow, fn1, fn2, bnd2_some, bd_some, b01_t, b01_f, if_pos, if_neg, mlet_e, grd, ite_true, ite_false, not_true_eq_false, not_false_eq_true, tn_c, w32_i]
            · have e1 : cpy μ (2 + r) i (2 + to) j n 63 r = μ 63 r := cpy_ne (by omega)
              have e2 : cpy μ (2 + r) i (2 + to) j n 63 to = μ 63 to := cpy_ne (by omega)
              by_cases g : j ≤ i
              · have e9 := e_copyF (μ := cpy μ (2 + r) i (2 + to) j n) (r := r) (i := i) (to := to) (j := j) (n := n) (by omega) (by omega) (by omega) (by omega) (fun _ => g) n 0
                rw [cpy_0] at e9
                unfold fX2_copy
                have hf := fuel_lt
                generalize fuel = N at hf ⊢
                rw [e_span (by omega) hi hn, e_span (by omega) hj hn]
                simp (disch := omega) only [e_isRow2, gn1, gn2, e1, e2, bnd2_some, bd_some, b01_t, b01_f, if_pos, if_neg, mlet_e, grd, ite_true, ite_false, not_true_eq_false, not_false_eq_true, tn_c, w32_i]
                exact e9 N (by omega) (by omega)
              · have e9 := e_copyB (μ := cpy μ (2 + r) i (2 + to) j n) (r := r) (i := i) (to := to) (j := j) (n := n) (by omega) (by omega) (by omega) (by omega) (fun _ => by omega) n 0
                rw [cpy_0] at e9
                unfold fX2_copy
                have hf := fuel_lt
                generalize fuel = N at hf ⊢
                rw [e_span (by omega) hi hn, e_span (by omega) hj hn]
                simp (disch := omega) only [e_isRow2, gn1, gn2, e1, e2, bnd2_some, bd_some, b01_t, b01_f, if_pos, if_neg, mlet_e, grd, ite_true, ite_false, not_true_eq_false, not_false_eq_true, tn_c, w32_i]
                exact e9 N (by omega) (by omega)
          · refine same_of (v := -3) (μ1 := fndM μ 2) (μ2 := fndM2 (fndM μ 2) 2) ?_ ?_ (Inv_find h (by omega))
            · unfold fX1_copy
              by_cases g1 : i < 0
              · simp (disch := omega) only [e_isRow, fn1, fn2, bnd2_some, bd_some, b01_t, b01_f, if_pos, if_neg, mlet_e, grd, ite_true, ite_false, not_true_eq_false, not_false_eq_true, tn_c, w32_i]
              · by_cases g2 : μ 8 r - n < i
                · simp (disch := omega) only [e_isRow, fn1, fn2, bnd2_some, bd_some, b01_t, b01_f, if_pos, if_neg, mlet_e, grd, ite_true, ite_false, not_true_eq_false, not_false_eq_true, tn_c, w32_i]
                · by_cases g3 : j < 0
                  · simp (disch := omega) only [e_isRow, fn1, fn2, bnd2_some, bd_some, b01_t, b01_f, if_pos, if_neg, mlet_e, grd, ite_true, ite_false, not_true_eq_false, not_false_eq_true, tn_c, w32_i]
                  · simp (disch := omega) only [e_isRow, fn1, fn2, bnd2_some, bd_some, b01_t, b01_f, if_pos, if_neg, mlet_e, grd, ite_true, ite_false, not_true_eq_false, not_false_eq_true, tn_c, w32_i]
            · unfold fX2_copy
              have hf := fuel_lt
              generalize fuel = N at hf ⊢
              rw [e_span (by omega) hi hn, e_span (by omega) hj hn]
              by_cases g1 : 0 ≤ i ∧ i + n ≤ μ 8 r
              · simp (disch := omega) only [e_isRow2, gn1, gn2, fndM_ne, bnd2_some, bd_some, b01_t, b01_f, if_pos, if_neg, mlet_e, grd, ite_true, ite_false, not_true_eq_false, not_false_eq_true, tn_c, w32_i]
              · simp (disch := omega) only [e_isRow2, gn1, gn2, fndM_ne, bnd2_some, bd_some, b01_t, b01_f, if_pos, if_neg, mlet_e, grd, ite_true, ite_false, not_true_eq_false, not_false_eq_true, tn_c, w32_i]
        · refine same_of (v := -3) (μ1 := fndM μ 1) (μ2 := fndM2 (fndM μ 1) 1) ?_ ?_ (Inv_find h (by omega))
          · unfold fX1_copy
            by_cases g1 : μ 8 r < 0
            · simp (disch := omega) only [e_isRow, fn1, fn2, bnd2_some, bd_some, b01_t, b01_f, if_pos, if_neg, mlet_e, grd, ite_true, ite_false, not_true_eq_false, not_false_eq_true, tn_c, w32_i]
            · simp (disch := omega) only [e_isRow, fn1, fn2, bnd2_some, bd_some, b01_t, b01_f, if_pos, if_neg, mlet_e, grd, ite_true, ite_false, not_true_eq_false, not_false_eq_true, tn_c, w32_i]
          · unfold fX2_copy
            have hf := fuel_lt
            generalize fuel = N at hf ⊢
            by_cases g1 : μ 8 r < 0
            · simp (disch := omega) only [e_isRow2, gn1, gn2, fndM_ne, bnd2_some, bd_some, b01_t, b01_f, if_pos, if_neg, mlet_e, grd, ite_true, ite_false, not_true_eq_false, not_false_eq_true, tn_c, w32_i]
            · simp (disch := omega) only [e_isRow2, gn1, gn2, fndM_ne, bnd2_some, bd_some, b01_t, b01_f, if_pos, if_neg, mlet_e, grd, ite_true, ite_false, not_true_eq_false, not_false_eq_true, tn_c, w32_i]
      · refine same_of (v := -3) (μ1 := fndM μ 5) (μ2 := fndM2 (fndM μ 5) 5) ?_ ?_ (Inv_find h (by omega))
        · simp (disch := omega) only [fX1_copy, e_isRow, fn5, bnd2_some, bd_some, b01_t, b01_f, if_pos, if_neg, mlet_e, grd, ite_true, ite_false, not_true_eq_false, not_false_eq_true, tn_c, w32_i]
        · unfold fX2_copy
          have hf := fuel_lt
          generalize fuel = N at hf ⊢
          simp (disch := omega) only [e_isRow2, gn5, fndM_ne, bnd2_some, bd_some, b01_t, b01_f, if_pos, if_neg, mlet_e, grd, ite_true, ite_false, not_true_eq_false, not_false_eq_true, tn_c, w32_i]
    · refine same_of (v := -1) (μ1 := μ) (μ2 := μ) ?_ ?_ h
      · simp (disch := omega) only [fX1_copy, e_isRow, bnd2_some, bd_some, b01_t, b01_f, if_pos, if_neg, mlet_e, grd, ite_true, ite_false, not_true_eq_false, not_false_eq_true, tn_c, w32_i]
      · unfold fX2_copy
        have hf := fuel_lt
        generalize fuel = N at hf ⊢
        simp (disch := omega) only [e_isRow2, bnd2_some, bd_some, b01_t, b01_f, if_pos, if_neg, mlet_e, grd, ite_true, ite_false, not_true_eq_false, not_false_eq_true, tn_c, w32_i]
  · refine same_of (v := -1) (μ1 := μ) (μ2 := μ) ?_ ?_ h
    · simp (disch := omega) only [fX1_copy, e_isRow, bnd2_some, bd_some, b01_t, b01_f, if_pos, if_neg, mlet_e, grd, ite_true, ite_false, not_true_eq_false, not_false_eq_true, tn_c, w32_i]
    · unfold fX2_copy
      have hf := fuel_lt
      generalize fuel = N at hf ⊢
      simp (disch := omega) only [e_isRow2, bnd2_some, bd_some, b01_t, b01_f, if_pos, if_neg, mlet_e, grd, ite_true, ite_false, not_true_eq_false, not_false_eq_true, tn_c, w32_i]
