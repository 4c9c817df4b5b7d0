/-! THE CALLS, both sides: rows -/
def Same (o : Option (Int × Mem)) (F : Mem → Option (Int × Mem)) : Prop := Ev o fun q => Ev (F q.2) fun q' => q'.1 = q.1 ∧ Inv q'.2
theorem same_of {o : Option (Int × Mem)} {F : Mem → Option (Int × Mem)} {v : Int} {μ1 μ2 : Mem} (h1 : o = some (v, μ1)) (h2 : F μ1 = some (v, μ2)) (h3 : Inv μ2) : Same o F := ⟨_, h1, _, h2, rfl, h3⟩
theorem fndM_ne {μ : Mem} {f c k : Nat} (h : ¬ (c = 0 ∧ k = 14) ∧ ¬ c = 36) : fndM μ f c k = μ c k := by
  unfold fndM
  rw [wr_ne (by omega), wr_ne (by omega)]
theorem fn1 {μ : Mem} : fX1_found 1 μ = some (-3, fndM μ 1) := e_found (f := 1) (by omega)
theorem fn2 {μ : Mem} : fX1_found 2 μ = some (-3, fndM μ 2) := e_found (f := 2) (by omega)
theorem fn3 {μ : Mem} : fX1_found 3 μ = some (-3, fndM μ 3) := e_found (f := 3) (by omega)
theorem fn4 {μ : Mem} : fX1_found 4 μ = some (-3, fndM μ 4) := e_found (f := 4) (by omega)
theorem fn5 {μ : Mem} : fX1_found 5 μ = some (-3, fndM μ 5) := e_found (f := 5) (by omega)
theorem gn1 {μ : Mem} : fX2_find 1 μ = some (-3, fndM2 μ 1) := e_find (f := 1) (by omega)
theorem gn2 {μ : Mem} : fX2_find 2 μ = some (-3, fndM2 μ 2) := e_find (f := 2) (by omega)
theorem gn3 {μ : Mem} : fX2_find 3 μ = some (-3, fndM2 μ 3) := e_find (f := 3) (by omega)
theorem gn4 {μ : Mem} : fX2_find 4 μ = some (-3, fndM2 μ 4) := e_find (f := 4) (by omega)
theorem gn5 {μ : Mem} : fX2_find 5 μ = some (-3, fndM2 μ 5) := e_find (f := 5) (by omega)
theorem fuel_lt : 9999 < fuel := by
  unfold fuel
  omega
theorem e_makeRow_L {r : Nat} {μ : Mem} (hr : r < 6) : ∀ (m k n : Nat), k + m = 40 → m < n → fX2_makeRow_L9 (r : Int) n (k : Int) (filR μ 64 (40 * r) k 0) = some (filR μ 64 (40 * r) 40 0) := by
  intro m
  induction m with
  | zero =>
    intro k n h1 h2
    obtain ⟨n, rfl⟩ : ∃ j, n = j + 1 := ⟨n - 1, by omega⟩
    obtain rfl : k = 40 := by omega
    rw [fX2_makeRow_L9, if_pos (by omega)]
  | succ m ih =>
    intro k n h1 h2
    obtain ⟨n, rfl⟩ : ∃ j, n = j + 1 := ⟨n - 1, by omega⟩
    rw [fX2_makeRow_L9]
    simp (disch := omega) only [if_neg, if_pos, grd, mlet_e, w32_i, tn_40, filR_s]
    exact ih (k + 1) n (by omega) (by omega)
theorem e_makeRow {r : Nat} {v : Int} {μ : Mem} (hr : r < 6) : fX2_makeRow (r : Int) v μ = some (filR (wr μ 63 r v) 64 (40 * r) 40 0) := by
  unfold fX2_makeRow
  have hf := fuel_lt
  generalize fuel = N at hf ⊢
  simp (disch := omega) only [if_pos, grd, mlet_e, tn_c]
  have h := e_makeRow_L (μ := wr μ 63 r v) hr 40 0 N (by omega) (by omega)
  rw [filR_0] at h
  exact h
theorem Inv_row {μ : Mem} (h : Inv μ) {r : Nat} (hr : r < 6) {v : Int} (hv : 0 ≤ v ∧ v ≤ 40) : Inv (filR (wr (filM (wr μ 8 r v) (2 + r) 40 0) 63 r v) 64 (40 * r) 40 0) := by
  obtain ⟨h1, h2, h3, h4⟩ := h
  have e : ∀ c k, ¬ (2 ≤ c ∧ c ≤ 8) → ¬ c = 63 → ¬ c = 64 → filR (wr (filM (wr μ 8 r v) (2 + r) 40 0) 63 r v) 64 (40 * r) 40 0 c k = μ c k := fun c k a1 a2 a3 => by
    simp (disch := omega) only [wr_ne, filR_ne, filM_ne]
  refine ⟨fun r' hr' => ?_, TextsI_congr h2 (fun c k hc => e c k (by omega) (by omega) (by omega)), ToldI_congr h3 (fun c k hc => e c k (by omega) (by omega) (by omega)), RivI_congr h4 (fun c k hc => by unfold rvc at hc; exact e c k (by omega) (by omega) (by omega))⟩
  obtain ⟨k1, k2, k3, k4⟩ := h1 r' hr'
  by_cases e1 : r' = r
  · subst e1
    simp (disch := omega) only [wr_ne, wr_at, filR_ne, filM_ne]
    refine ⟨trivial, by omega, by omega, fun i hi => ?_⟩
    simp (disch := omega) only [wr_ne, wr_at, filR_ne, filM_ne, filR_at, filM_at]
  · simp (disch := omega) only [wr_ne, wr_at, filR_ne, filM_ne]
    refine ⟨k1, k2, k3, fun i hi => ?_⟩
    simp (disch := omega) only [wr_ne, wr_at, filR_ne, filM_ne, filR_at, filM_at]
    exact k4 i hi
theorem P_row {r n : Int} {μ : Mem} (h : Inv μ) : Same (fX1_row r n μ) (fX2_row r n) := by
  by_cases a : 0 ≤ r ∧ r ≤ 5
  · by_cases b : n ≤ 40
    · by_cases c : 0 ≤ n
      · obtain ⟨r, rfl⟩ : ∃ k : Nat, r = k := ⟨r.toNat, by omega⟩
        refine same_of (v := n) (μ1 := filM (wr μ 8 r n) (2 + r) 40 0) (μ2 := filR (wr (filM (wr μ 8 r n) (2 + r) 40 0) 63 r n) 64 (40 * r) 40 0) ?_ ?_ (Inv_row h (by omega) (by omega))
        · simp (disch := omega) only [fX1_row, fX1_layAnew, e_isRow, bd_some, b01_t, b01_f, if_pos, if_neg, mlet_e, grd, ite_true, ite_false, not_true_eq_false, not_false_eq_true, tn_c]
        · simp (disch := omega) only [fX2_row, e_makeRow, e_isRow2, bd_some, b01_t, b01_f, if_pos, if_neg, mlet_e, grd, ite_true, ite_false, not_true_eq_false, not_false_eq_true, tn_c]
      · refine same_of (v := -3) (μ1 := fndM μ 5) (μ2 := fndM2 (fndM μ 5) 5) ?_ ?_ (Inv_find h (by omega))
        · simp (disch := omega) only [fX1_row, fn5, bnd2_some, e_isRow, bd_some, b01_t, b01_f, if_pos, if_neg, mlet_e, grd, ite_true, ite_false, not_true_eq_false, not_false_eq_true, tn_c]
        · simp (disch := omega) only [fX2_row, gn5, bnd2_some, e_isRow2, bd_some, b01_t, b01_f, if_pos, if_neg, mlet_e, grd, ite_true, ite_false, not_true_eq_false, not_false_eq_true, tn_c]
    · refine same_of (v := -1) (μ1 := μ) (μ2 := μ) ?_ ?_ h
      · simp (disch := omega) only [fX1_row, e_isRow, bd_some, b01_t, b01_f, if_pos, if_neg, mlet_e, grd, ite_true, ite_false, not_true_eq_false, not_false_eq_true, tn_c]
      · simp (disch := omega) only [fX2_row, e_isRow2, bd_some, b01_t, b01_f, if_pos, if_neg, mlet_e, grd, ite_true, ite_false, not_true_eq_false, not_false_eq_true, tn_c]
  · refine same_of (v := -1) (μ1 := μ) (μ2 := μ) ?_ ?_ h
    · simp (disch := omega) only [fX1_row, e_isRow, bd_some, b01_t, b01_f, if_pos, if_neg, mlet_e, grd, ite_true, ite_false, not_true_eq_false, not_false_eq_true, tn_c]
    · simp (disch := omega) only [fX2_row, e_isRow2, bd_some, b01_t, b01_f, if_pos, if_neg, mlet_e, grd, ite_true, ite_false, not_true_eq_false, not_false_eq_true, tn_c]
/-- what a place is refused for, both sides -/
theorem P_refused {r i : Int} {μ : Mem} (h : Inv μ) : (fX1_refusalOfPlace r i μ = some (0, μ) ∧ fX2_refused r i μ = some (0, μ) ∧ ∃ r' i' : Nat, r = r' ∧ i = i' ∧ r' < 6 ∧ (i' : Int) < μ 8 r') ∨ ∃ (v : Int) (μ1 μ2 : Mem), ¬ v = 0 ∧ fX1_refusalOfPlace r i μ = some (v, μ1) ∧ fX2_refused r i μ1 = some (v, μ2) ∧ Inv μ2 := by
  by_cases a : 0 ≤ r ∧ r ≤ 5
  · obtain ⟨r, rfl⟩ : ∃ k : Nat, r = k := ⟨r.toNat, by omega⟩
    obtain ⟨k1, k2, k3, k4⟩ := h.1 r (by omega)
    by_cases b : 0 ≤ μ 8 r
    · by_cases c : 0 ≤ i ∧ i < μ 8 r
      · refine Or.inl ⟨?_, ?_, r, i.toNat, rfl, by omega, by omega, by omega⟩
        · simp (disch := omega) only [fX1_refusalOfPlace, fn2, bnd2_some, e_isRow, bd_some, b01_t, b01_f, if_pos, if_neg, mlet_e, grd, ite_true, ite_false, not_true_eq_false, not_false_eq_true, tn_c]
        · simp (disch := omega) only [fX2_refused, e_in, bnd2_some, e_isRow2, bd_some, b01_t, b01_f, if_pos, if_neg, mlet_e, grd, ite_true, ite_false, not_true_eq_false, not_false_eq_true, tn_c, w32_i]
      · refine Or.inr ⟨-3, fndM μ 2, _, by omega, ?_, ?_, Inv_find h (f := 2) (by omega)⟩
        · by_cases d : i < 0
          · simp (disch := omega) only [fX1_refusalOfPlace, fn2, bnd2_some, e_isRow, bd_some, b01_t, b01_f, if_pos, if_neg, mlet_e, grd, ite_true, ite_false, not_true_eq_false, not_false_eq_true, tn_c]
          · simp (disch := omega) only [fX1_refusalOfPlace, fn2, bnd2_some, e_isRow, bd_some, b01_t, b01_f, if_pos, if_neg, mlet_e, grd, ite_true, ite_false, not_true_eq_false, not_false_eq_true, tn_c]
        · simp (disch := omega) only [fX2_refused, fndM_ne, gn2, e_in, bnd2_some, e_isRow2, bd_some, b01_t, b01_f, if_pos, if_neg, mlet_e, grd, ite_true, ite_false, not_true_eq_false, not_false_eq_true, tn_c, w32_i]
    · refine Or.inr ⟨-3, fndM μ 1, _, by omega, ?_, ?_, Inv_find h (f := 1) (by omega)⟩
      · simp (disch := omega) only [fX1_refusalOfPlace, fn1, bnd2_some, e_isRow, bd_some, b01_t, b01_f, if_pos, if_neg, mlet_e, grd, ite_true, ite_false, not_true_eq_false, not_false_eq_true, tn_c]
      · simp (disch := omega) only [fX2_refused, fndM_ne, gn1, e_in, bnd2_some, e_isRow2, bd_some, b01_t, b01_f, if_pos, if_neg, mlet_e, grd, ite_true, ite_false, not_true_eq_false, not_false_eq_true, tn_c, w32_i]
  · refine Or.inr ⟨-1, μ, μ, by omega, ?_, ?_, h⟩
    · simp (disch := omega) only [fX1_refusalOfPlace, e_isRow, bd_some, b01_t, b01_f, if_pos, if_neg, mlet_e, grd, ite_true, ite_false, not_true_eq_false, not_false_eq_true, tn_c]
    · simp (disch := omega) only [fX2_refused, e_isRow2, bd_some, b01_t, b01_f, if_pos, if_neg, mlet_e, grd, ite_true, ite_false, not_true_eq_false, not_false_eq_true, tn_c, w32_i]
theorem e_tell {v : Int} {μ : Mem} : fX1_tell v μ = some (1, wr μ 0 11 v) := rfl
theorem e_tell2 {v : Int} {μ : Mem} : fX2_tell v μ = some (1, wr μ 60 7 v) := rfl
theorem P_at {r i : Int} {μ : Mem} (h : Inv μ) : Same (fX1_at r i μ) (fX2_at r i) := by
  rcases P_refused (r := r) (i := i) h with ⟨e1, e2, r', i', rfl, rfl, hr, hi⟩ | ⟨v, μ1, μ2, hv, e1, e2, h2⟩
  · obtain ⟨k1, k2, k3, k4⟩ := h.1 r' hr
    refine same_of (v := 1) (μ1 := wr μ 0 11 (μ (2 + r') i')) (μ2 := wr (wr μ 0 11 (μ (2 + r') i')) 60 7 (μ (2 + r') i')) ?_ ?_ (Inv_tell h)
    · simp (disch := omega) only [fX1_at, e1, e_tell, bnd2_some, if_pos, mlet_e, grd, ite_true, ite_false, not_true_eq_false, not_false_eq_true, tn_c]
    · have e3 : fX2_refused (r' : Int) (i' : Int) (wr μ 0 11 (μ (2 + r') i')) = some (0, wr μ 0 11 (μ (2 + r') i')) := by
        simp (disch := omega) only [fX2_refused, wr_ne, e_in, bnd2_some, e_isRow2, bd_some, b01_t, b01_f, if_pos, if_neg, mlet_e, grd, ite_true, ite_false, not_true_eq_false, not_false_eq_true, tn_c, w32_i]
      simp (disch := omega) only [fX2_at, e3, e_tell2, bnd2_some, if_pos, mlet_e, grd, ite_true, ite_false, not_true_eq_false, not_false_eq_true, tn_c, tn_40, w32_i, wr_ne]
      rw [k4 i' (by omega)]
  · refine same_of (v := v) (μ1 := μ1) (μ2 := μ2) ?_ ?_ h2
    · simp (disch := omega) only [fX1_at, e1, bnd2_some, if_neg, if_pos]
    · simp (disch := omega) only [fX2_at, e2, bnd2_some, if_neg, if_pos]
