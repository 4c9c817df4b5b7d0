/-! undo, keep, on -/
theorem e_again_L {n : Nat} {h : Nat → Mem} (hn : n ≤ 40) (hg : ∀ d, d ≤ n → GB (h d)) : ∀ (m k N : Nat) (μ : Mem), k + m = n → m < N → μ 0 8 = (n : Int) → (∀ d, d < n → h (d + 1) = und (h d) (μ 30 d)) → CB 20 μ (h k) → Ev (fX1_performAgain_L13 N (k : Int) μ) fun μ' => CB 20 μ' (h n) ∧ ∀ c k, c < 20 ∨ 24 < c → μ' c k = μ c k := by
  intro m
  induction m with
  | zero =>
    intro k N μ h1 h2 h3 h4 h5
    obtain ⟨N, rfl⟩ : ∃ j, N = j + 1 := ⟨N - 1, by omega⟩
    obtain rfl : k = n := by omega
    rw [fX1_performAgain_L13, if_pos (by omega)]
    exact ev_some.mpr ⟨h5, fun _ _ _ => rfl⟩
  | succ m ih =>
    intro k N μ h1 h2 h3 h4 h5
    obtain ⟨N, rfl⟩ : ∃ j, N = j + 1 := ⟨N - 1, by omega⟩
    rw [fX1_performAgain_L13, if_neg (by omega)]
    simp (disch := omega) only [grd, if_pos, tn_c, ev_bind, mlet_e, w32_s]
    refine ev_mono (e_undergo (d := μ 30 k) h5 (hg k (by omega))) (fun μ1 q => ?_)
    rw [← h4 k (by omega)] at q
    refine ev_mono (ih (k + 1) N μ1 (by omega) (by omega) (by rw [q.2 _ _ (by omega)]; exact h3) (fun d hd => by rw [q.2 _ _ (by omega)]; exact h4 d hd) q.1) (fun μ2 r => ⟨r.1, fun c k hc => ?_⟩)
    rw [r.2 _ _ hc, q.2 _ _ (by omega)]
theorem e_again {n : Nat} {h : Nat → Mem} {μ : Mem} (hn : n ≤ 40) (hg : ∀ d, d ≤ n → GB (h d)) (h3 : μ 0 8 = (n : Int)) (h4 : ∀ d, d < n → h (d + 1) = und (h d) (μ 30 d)) (h5 : CB 15 μ (h 0)) : Ev (fX1_performAgain μ) fun μ' => CB 20 μ' (h n) ∧ ∀ c k, c < 20 ∨ 24 < c → μ' c k = μ c k := by
  unfold fX1_performAgain
  have hf := fuel_lt
  generalize fuel = N at hf ⊢
  rw [ev_bind]
  refine ev_mono (e_become (b := 20) (b' := 15) (by omega) h5 (hg 0 (by omega))) (fun μ1 q => ?_)
  refine ev_mono (e_again_L hn hg n 0 N μ1 (by omega) (by omega) (by rw [q.2 _ _ (by omega)]; exact h3) (fun d hd => by rw [q.2 _ _ (by omega)]; exact h4 d hd) q.1) (fun μ2 r => ⟨r.1, fun c k hc => ?_⟩)
  rw [r.2 _ _ hc, q.2 _ _ (by omega)]
/-- the river as it was: by the class's memory μ1, the model's μ2 -/
theorem Inv_jump {μ μ1 μ2 s0 : Mem} {hh : Nat → Nat → Mem} {h : Nat → Mem} {n : Nat} (hI : Inv μ) (h1 : CB 15 μ s0) (h4 : ∀ j : Nat, j < 4 → -1 ≤ cnt μ j ∧ cnt μ j ≤ 40 ∧ μ 61 (821 * j) = cnt μ j ∧ (0 ≤ cnt μ j → SlotI μ s0 j (hh j)))
    (hn : n ≤ 40) (hs : h 0 = s0) (b1 : CB 20 μ1 (h n)) (b2 : μ1 0 8 = (n : Int)) (b3 : ∀ d, d < n → h (d + 1) = und (h d) (μ1 30 d)) (b4 : ∀ c' k, ¬ (c' = 0 ∧ k = 8) → ¬ c' = 30 → ¬ (20 ≤ c' ∧ c' ≤ 24) → μ1 c' k = μ c' k) (hg : ∀ d, d ≤ n → GB (h d))
    (m1 : MB 0 μ2 (h n)) (m2 : ∀ d, d < n → MB (20 + 20 * d) μ2 (h d)) (m3 : μ2 61 0 = (n : Int)) (m4 : ∀ c' k, ¬ (c' = 61 ∧ k < 821) → μ2 c' k = μ1 c' k) : Inv μ2 := by
  have f : ∀ c' k, ¬ (c' = 0 ∧ k = 8) → ¬ c' = 30 → ¬ (20 ≤ c' ∧ c' ≤ 24) → ¬ (c' = 61 ∧ k < 821) → μ2 c' k = μ c' k := fun c' k q1 q2 q3 q4 => by
    rw [m4 _ _ q4, b4 _ _ q1 q2 q3]
  have e8 : μ2 0 8 = (n : Int) := by rw [m4 _ _ (by omega), b2]
  have ec : ∀ j, 1 ≤ j → j < 4 → cnt μ2 j = cnt μ j := fun j hj1 hj => by
    unfold cnt
    rw [if_neg (by omega), if_neg (by omega)]
    exact f _ _ (by omega) (by omega) (by omega) (by omega)
  have e0 : cnt μ2 0 = (n : Int) := e8
  refine ⟨RowsI_congr hI.1 (fun c' k hk => f _ _ (by omega) (by omega) (by omega) (by omega)), TextsI_congr hI.2.1 (fun c' k hk => f _ _ (by omega) (by omega) (by omega) (by omega)), ToldI_congr hI.2.2.1 (fun c' k hk => f _ _ (by omega) (by omega) (by omega) (by omega)), by rw [e8]; omega, s0, fun j => if j = 0 then h else hh j, CB_congr h1 (fun c' k hc' => f _ _ (by omega) (by omega) (by omega) (by omega)), ?_, fun j hj => ?_⟩
  · rw [e8, tn_c]
    simp only [if_true]
    exact CB_congr b1 (fun c' k hc' => m4 _ _ (by omega))
  · by_cases e : j = 0
    · subst e
      rw [e0]
      refine ⟨by omega, by omega, m3, fun _ => ?_⟩
      unfold SlotI
      rw [e0]
      simp only [if_true]
      refine ⟨hs, fun d hd => ⟨?_, ?_⟩, ?_, fun d hd => hg d (by omega)⟩
      · rw [show dcl 0 = 30 from rfl, m4 _ _ (by omega)]
        exact b3 d (by omega)
      · rw [show 821 * 0 + 20 + 20 * d = 20 + 20 * d by omega]
        exact m2 d (by omega)
      · exact m1
    · obtain ⟨k1, k2, k3, k4⟩ := h4 j hj
      rw [ec j (by omega) hj]
      refine ⟨k1, k2, by rw [f _ _ (by omega) (by omega) (by omega) (by omega)]; exact k3, fun k5 => ?_⟩
      obtain ⟨n1, n2, n3, n4⟩ := k4 k5
      unfold SlotI
      rw [ec j (by omega) hj]
      simp only [e, if_false]
      have cg : ∀ (a : Nat) (t : Mem), 821 ≤ a → GB t → MB a μ t → MB a μ2 t := fun a t ha ht hm => MB_congr hm ht.2.1 (fun c' k hk => f _ _ (by omega) (by omega) (by omega) (by omega))
      refine ⟨n1, fun e' he => ⟨?_, cg _ _ (by omega) (n4 e' (by omega)) (n2 e' he).2⟩, cg _ _ (by omega) (n4 _ (by omega)) n3, n4⟩
      rw [f _ _ (by unfold dcl; split <;> omega) (by unfold dcl; split <;> omega) (by unfold dcl; split <;> omega) (by unfold dcl; split <;> omega)]
      exact (n2 e' he).1
theorem e_undo_L {μ : Mem} {p : Nat} {x : Int} {K : Mem → Option (Int × Mem)} (hx : 0 < x) (hp : p ≤ 40) : ∀ (m k N : Nat), k + m = 20 → m < N → fX2_undo_L29 K x (p : Int) N (k : Int) (cpy μ 61 (21 + 20 * p) 61 1 k) = K (cpy μ 61 (21 + 20 * p) 61 1 20) := by
  intro m
  induction m with
  | zero =>
    intro k N h1 h2
    obtain ⟨N, rfl⟩ : ∃ j, N = j + 1 := ⟨N - 1, by omega⟩
    obtain rfl : k = 20 := by omega
    rw [fX2_undo_L29, if_pos (by omega)]
  | succ m ih =>
    intro k N h1 h2
    obtain ⟨N, rfl⟩ : ∃ j, N = j + 1 := ⟨N - 1, by omega⟩
    rw [fX2_undo_L29]
    simp (disch := omega) only [w32_s, w32_i, tn_1, tn_20, if_neg, if_pos, grd, mlet_e]
    rw [cpy_s (t := k) (by omega) rfl rfl (by omega)]
    exact ih (k + 1) N (by omega) (by omega)
theorem P_undo {n : Int} {μ : Mem} (h : Inv μ) : Same (fX1_undo n μ) (fX2_undo n) := by
  obtain ⟨s, hR, hC, hM, hg, h0, h40, h61⟩ := Inv_now h
  by_cases a : 0 ≤ n ∧ n ≤ μ 0 8
  · obtain ⟨n, rfl⟩ : ∃ k : Nat, n = k := ⟨n.toNat, by omega⟩
    obtain ⟨c, hc⟩ : ∃ c : Nat, μ 0 8 = (c : Int) := ⟨(μ 0 8).toNat, by omega⟩
    obtain ⟨-, s0, hh, h1, h2, h3, h4⟩ := hR
    obtain ⟨k1, k2, k3, k4⟩ := h4 0 (by omega)
    have o0 : cnt μ 0 = (c : Int) := hc
    obtain ⟨n1, n2, n3, n4⟩ := k4 (by rw [o0]; omega)
    rw [o0] at n2 n3 n4
    rw [show dcl 0 = 30 from rfl] at n2
    rw [show 821 * 0 = 0 from rfl] at n2 n3
    rw [hc] at a h40 h61 h2
    rw [tn_c] at h2 n3
    obtain ⟨μ1, e1, b1, b4⟩ := e_again (μ := wr μ 0 8 (n : Int)) (n := n) (h := hh 0) (by omega) (fun d hd => n4 d (by omega)) (wr_at (by omega)) (fun d hd => by rw [wr_ne (by omega)]; exact (n2 d (by omega)).1) (CB_congr (by rw [n1]; exact h1) (fun c' k hk => wr_ne (by omega)))
    have f1 : ∀ c' k, ¬ (c' = 0 ∧ k = 8) → ¬ (20 ≤ c' ∧ c' ≤ 24) → μ1 c' k = μ c' k := fun c' k q1 q2 => by
      rw [b4 _ _ (by omega), wr_ne (by omega)]
    have E1 : fX1_undo (n : Int) μ = some ((c : Int) - n, μ1) := by
      unfold fX1_undo
      simp (disch := omega) only [e_within, hc, e1, bnd2_some, bd_some, b01_t, b01_f, if_pos, if_neg, mlet_e, grd, ite_true, ite_false, not_true_eq_false, not_false_eq_true, tn_c, w32_i]
    have k0 : μ1 61 0 = (c : Int) := by rw [f1 _ _ (by omega) (by omega)]; exact h61
    have J : ∀ μ2 : Mem, MB 0 μ2 (hh 0 n) → μ2 61 0 = (n : Int) → (∀ c' k, ¬ (c' = 61 ∧ k < 21) → μ2 c' k = μ1 c' k) → Inv μ2 := fun μ2 j1 j2 j3 => Inv_jump (n := n) (h := hh 0) h h1 h4 (by omega) n1 b1 (by rw [b4 _ _ (by omega), wr_at (by omega)]) (fun d hd => by rw [f1 _ _ (by omega) (by omega)]; exact (n2 d (by omega)).1) (fun c' k q1 q2 q3 => f1 _ _ q1 q3) (fun d hd => n4 d (by omega)) j1 (fun d hd => by
      have := (n2 d (by omega)).2
      rw [show 0 + 20 + 20 * d = 20 + 20 * d by omega] at this
      exact MB_congr this (n4 d (by omega)).2.1 (fun c' k hk => by rw [j3 _ _ (by omega), f1 _ _ (by omega) (by omega)])) j2 (fun c' k q => j3 _ _ (by omega))
    by_cases b : n = c
    · subst b
      refine same_of (v := (n : Int) - n) (μ1 := μ1) (μ2 := wr μ1 61 0 (n : Int)) E1 ?_ (J _ (MB_congr n3 (n4 n (by omega)).2.1 (fun c' k hk => by rw [wr_ne (by omega), f1 _ _ (by omega) (by omega)])) (wr_at (by omega)) (fun c' k q => wr_ne (by omega)))
      unfold fX2_undo
      have hf := fuel_lt
      generalize fuel = N at hf ⊢
      simp (disch := omega) only [e_in, k0, bnd2_some, bd_some, b01_t, b01_f, if_pos, if_neg, mlet_e, grd, ite_true, ite_false, not_true_eq_false, not_false_eq_true, tn_c, w32_i]
      obtain ⟨N, rfl⟩ : ∃ j, N = j + 1 := ⟨N - 1, by omega⟩
      rw [fX2_undo_L29, if_neg (by omega), if_pos (by omega)]
    · refine same_of (v := (c : Int) - n) (μ1 := μ1) (μ2 := wr (cpy μ1 61 (21 + 20 * n) 61 1 20) 61 0 (n : Int)) E1 ?_ (J _ ?_ (wr_at (by omega)) (fun c' k q => by rw [wr_ne (by omega), cpy_ne (by omega)]))
      · unfold fX2_undo
        have hf := fuel_lt
        generalize fuel = N at hf ⊢
        simp (disch := omega) only [e_in, k0, bnd2_some, bd_some, b01_t, b01_f, if_pos, if_neg, mlet_e, grd, ite_true, ite_false, not_true_eq_false, not_false_eq_true, tn_c, w32_i]
        have e9 := e_undo_L (μ := μ1) (p := n) (x := (c : Int) - n) (K := fun μ3 => some ((c : Int) - n, wr μ3 61 0 (n : Int))) (by omega) (by omega) 20 0 N (by omega) (by omega)
        rw [cpy_0] at e9
        exact e9
      · have := (n2 n (by omega)).2
        refine MB_of this (n4 n (by omega)) (fun k hk => ?_) ?_ (fun i => ?_)
        · rw [wr_ne (by omega), cpy_at (by omega), f1 _ _ (by omega) (by omega)]
          congr 1
          omega
        · rw [wr_ne (by omega), cpy_ne (by omega), f1 _ _ (by omega) (by omega)]
        · rw [wr_ne (by omega), cpy_ne (by omega), f1 _ _ (by omega) (by omega)]
  · refine same_of (v := -1) (μ1 := μ) (μ2 := μ) ?_ ?_ h
    · unfold fX1_undo
      simp (disch := omega) only [e_within, bnd2_some, bd_some, b01_t, b01_f, if_pos, if_neg, mlet_e, grd, ite_true, ite_false, not_true_eq_false, not_false_eq_true, tn_c, w32_i]
    · unfold fX2_undo
      have hf := fuel_lt
      generalize fuel = N at hf ⊢
      simp (disch := omega) only [e_in, bnd2_some, bd_some, b01_t, b01_f, if_pos, if_neg, mlet_e, grd, ite_true, ite_false, not_true_eq_false, not_false_eq_true, tn_c, w32_i]
