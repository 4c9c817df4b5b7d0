/-! raise, shame, door -/
theorem Inv_now {μ : Mem} (h : Inv μ) : ∃ s, RivS μ s ∧ CB 20 μ s ∧ MB 0 μ s ∧ GB s ∧ 0 ≤ μ 0 8 ∧ μ 0 8 ≤ 40 ∧ μ 61 0 = μ 0 8 := by
  obtain ⟨s, hR⟩ := RivI_S h.2.2.2
  exact ⟨s, hR, RivS_now hR⟩
theorem P_raise {i n : Int} {μ : Mem} (h : Inv μ) : Same (fX1_raise i n μ) (fX2_raise i n) := by
  obtain ⟨s, hR, hC, hM, hg, h0, h40, h61⟩ := Inv_now h
  have g0 := hg.1
  have g6 := hg.2.1
  have c4 := hC.1
  have m4 := hM.1
  by_cases a : 0 ≤ i ∧ i < s 0 0
  · by_cases b : 1 ≤ n ∧ n ≤ 9
    · obtain ⟨i, rfl⟩ : ∃ k : Nat, i = k := ⟨i.toNat, by omega⟩
      obtain ⟨n, rfl⟩ : ∃ k : Nat, n = k := ⟨n.toNat, by omega⟩
      obtain ⟨p1, p2, p3, p4⟩ := hC.2.2.2 i a.2
      obtain ⟨q1, q2, q3, q4⟩ := hM.2.2.2 i a.2
      obtain ⟨-, -, g3⟩ := hg.2.2.2.2 i a.2
      rw [show 0 + 9 + i = 9 + i by omega] at q3
      by_cases e : s 3 i + n ≤ 20
      · by_cases b : μ 0 8 = 40
        · refine same_of (v := -2) (μ1 := μ) (μ2 := μ) ?_ ?_ h
          · unfold fX1_raise
            simp (disch := omega) only [e_has, e_within, p3, bnd2_some, bd_some, b01_t, b01_f, if_pos, if_neg, mlet_e, grd, ite_true, ite_false, not_true_eq_false, not_false_eq_true, tn_c, w32_i]
          · unfold fX2_raise fX2_makeDaring
            simp (disch := omega) only [e_isOne, e_in, q3, tn_9, bnd2_some, bd_some, b01_t, b01_f, if_pos, if_neg, mlet_e, grd, ite_true, ite_false, not_true_eq_false, not_false_eq_true, tn_c, w32_i]
        · obtain ⟨c, hc⟩ : ∃ c : Nat, μ 0 8 = (c : Int) := ⟨(μ 0 8).toNat, by omega⟩
          obtain ⟨μ1, e1, b1, b2, b3, b4⟩ := e_perform (d := dd 1 (i : Int) (n : Int)) hc (by omega) hC hg
          have eu : und s (dd 1 (i : Int) (n : Int)) = wr s 3 i (s 3 i + n) := by
            rw [und_raise hg a.2 (by omega)]
            unfold mmin
            by_cases z : s 3 i + n < 20
            · rw [if_pos z]
            · rw [if_neg z, show s 3 i + (n : Int) = 20 by omega]
          have k1 : μ1 61 0 = (c : Int) := by rw [b4 _ _ (by omega) (by omega) (by omega)]; omega
          have k2 : μ1 60 1 = s 0 0 := by rw [b4 _ _ (by omega) (by omega) (by omega)]; omega
          have k3 : μ1 61 (9 + i) = s 3 i := by rw [b4 _ _ (by omega) (by omega) (by omega)]; omega
          have k4 : μ1 23 i = s 3 i + n := by
            have := (b1.2.2.2 i (by rw [eu, wr_ne (by omega)]; exact a.2)).2.2.1
            rw [eu, wr_at (by omega)] at this
            exact this
          have hM2 := MB_wr3 (i := i) (v := s 3 i + n) (MB_past (v := ((c + 1 : Nat) : Int)) hM hg b4) hg (by omega)
          rw [show 0 + 9 + i = 9 + i by omega] at hM2
          refine same_of (v := s 3 i + n) (μ1 := μ1) (μ2 := wr (wr (cpy μ1 61 1 61 (21 + 20 * c) 20) 61 0 ((c + 1 : Nat) : Int)) 61 (9 + i) (s 3 i + n)) ?_ ?_ (Inv_adv h hR hc (by omega) b1 b2 b3 b4 (by rw [eu]; exact hM2) (fun c' k q => wr_ne (by omega)) (by rw [eu]; exact GB_wr3 hg (by omega))).1
          · unfold fX1_raise
            rw [show fX1_deedOf 1 (i : Int) (n : Int) μ = some (dd 1 (i : Int) (n : Int)) from rfl]
            simp (disch := omega) only [e_has, e_within, p3, e1, k4, bnd2_some, bd_some, b01_t, b01_f, if_pos, if_neg, mlet_e, grd, ite_true, ite_false, not_true_eq_false, not_false_eq_true, tn_c, w32_i]
          · have e5 := e_keepPast k1 (by omega)
            unfold fX2_raise fX2_makeDaring
            simp (disch := omega) only [e_isOne, e_in, k3, tn_9, e5, bnd2_some, bd_some, b01_t, b01_f, if_pos, if_neg, mlet_e, grd, ite_true, ite_false, not_true_eq_false, not_false_eq_true, tn_c, w32_i]
      · refine same_of (v := -4) (μ1 := μ) (μ2 := μ) ?_ ?_ h
        · unfold fX1_raise
          simp (disch := omega) only [e_has, e_within, p3, bnd2_some, bd_some, b01_t, b01_f, if_pos, if_neg, mlet_e, grd, ite_true, ite_false, not_true_eq_false, not_false_eq_true, tn_c, w32_i]
        · unfold fX2_raise fX2_makeDaring
          simp (disch := omega) only [e_isOne, e_in, q3, tn_9, bnd2_some, bd_some, b01_t, b01_f, if_pos, if_neg, mlet_e, grd, ite_true, ite_false, not_true_eq_false, not_false_eq_true, tn_c, w32_i]
    · refine same_of (v := -1) (μ1 := μ) (μ2 := μ) ?_ ?_ h
      · unfold fX1_raise
        simp (disch := omega) only [e_has, e_within, bnd2_some, bd_some, b01_t, b01_f, if_pos, if_neg, mlet_e, grd, ite_true, ite_false, not_true_eq_false, not_false_eq_true, tn_c, w32_i]
      · unfold fX2_raise fX2_makeDaring
        simp (disch := omega) only [e_isOne, e_in, bnd2_some, bd_some, b01_t, b01_f, if_pos, if_neg, mlet_e, grd, ite_true, ite_false, not_true_eq_false, not_false_eq_true, tn_c, w32_i]
  · refine same_of (v := -1) (μ1 := μ) (μ2 := μ) ?_ ?_ h
    · unfold fX1_raise
      simp (disch := omega) only [e_has, e_within, bnd2_some, bd_some, b01_t, b01_f, if_pos, if_neg, mlet_e, grd, ite_true, ite_false, not_true_eq_false, not_false_eq_true, tn_c, w32_i]
    · unfold fX2_raise fX2_makeDaring
      simp (disch := omega) only [e_isOne, e_in, bnd2_some, bd_some, b01_t, b01_f, if_pos, if_neg, mlet_e, grd, ite_true, ite_false, not_true_eq_false, not_false_eq_true, tn_c, w32_i]
theorem P_shame {i n : Int} {μ : Mem} (h : Inv μ) : Same (fX1_shame i n μ) (fX2_shame i n) := by
  obtain ⟨s, hR, hC, hM, hg, h0, h40, h61⟩ := Inv_now h
  have g0 := hg.1
  have g6 := hg.2.1
  have c4 := hC.1
  have m4 := hM.1
  by_cases a : 0 ≤ i ∧ i < s 0 0
  · by_cases b : 1 ≤ n ∧ n ≤ 9
    · obtain ⟨i, rfl⟩ : ∃ k : Nat, i = k := ⟨i.toNat, by omega⟩
      obtain ⟨n, rfl⟩ : ∃ k : Nat, n = k := ⟨n.toNat, by omega⟩
      obtain ⟨p1, p2, p3, p4⟩ := hC.2.2.2 i a.2
      obtain ⟨q1, q2, q3, q4⟩ := hM.2.2.2 i a.2
      obtain ⟨-, -, g3⟩ := hg.2.2.2.2 i a.2
      rw [show 0 + 9 + i = 9 + i by omega] at q3
      by_cases e : 0 ≤ s 3 i - n
      · by_cases b : μ 0 8 = 40
        · refine same_of (v := -2) (μ1 := μ) (μ2 := μ) ?_ ?_ h
          · unfold fX1_shame
            simp (disch := omega) only [e_has, e_within, p3, bnd2_some, bd_some, b01_t, b01_f, if_pos, if_neg, mlet_e, grd, ite_true, ite_false, not_true_eq_false, not_false_eq_true, tn_c, w32_i]
          · unfold fX2_shame fX2_makeDaring
            simp (disch := omega) only [e_isOne, e_in, q3, tn_9, bnd2_some, bd_some, b01_t, b01_f, if_pos, if_neg, mlet_e, grd, ite_true, ite_false, not_true_eq_false, not_false_eq_true, tn_c, w32_i]
        · obtain ⟨c, hc⟩ : ∃ c : Nat, μ 0 8 = (c : Int) := ⟨(μ 0 8).toNat, by omega⟩
          obtain ⟨μ1, e1, b1, b2, b3, b4⟩ := e_perform (d := dd 2 (i : Int) (n : Int)) hc (by omega) hC hg
          have eu : und s (dd 2 (i : Int) (n : Int)) = wr s 3 i (s 3 i - n) := by
            rw [und_shame hg a.2 (by omega)]
            unfold mmax
            by_cases z : 0 < s 3 i - n
            · rw [if_pos z]
            · rw [if_neg z, show s 3 i - (n : Int) = 0 by omega]
          have k1 : μ1 61 0 = (c : Int) := by rw [b4 _ _ (by omega) (by omega) (by omega)]; omega
          have k2 : μ1 60 1 = s 0 0 := by rw [b4 _ _ (by omega) (by omega) (by omega)]; omega
          have k3 : μ1 61 (9 + i) = s 3 i := by rw [b4 _ _ (by omega) (by omega) (by omega)]; omega
          have k4 : μ1 23 i = s 3 i - n := by
            have := (b1.2.2.2 i (by rw [eu, wr_ne (by omega)]; exact a.2)).2.2.1
            rw [eu, wr_at (by omega)] at this
            exact this
          have hM2 := MB_wr3 (i := i) (v := s 3 i - n) (MB_past (v := ((c + 1 : Nat) : Int)) hM hg b4) hg (by omega)
          rw [show 0 + 9 + i = 9 + i by omega] at hM2
          refine same_of (v := s 3 i - n) (μ1 := μ1) (μ2 := wr (wr (cpy μ1 61 1 61 (21 + 20 * c) 20) 61 0 ((c + 1 : Nat) : Int)) 61 (9 + i) (s 3 i - n)) ?_ ?_ (Inv_adv h hR hc (by omega) b1 b2 b3 b4 (by rw [eu]; exact hM2) (fun c' k q => wr_ne (by omega)) (by rw [eu]; exact GB_wr3 hg (by omega))).1
          · unfold fX1_shame
            rw [show fX1_deedOf 2 (i : Int) (n : Int) μ = some (dd 2 (i : Int) (n : Int)) from rfl]
            simp (disch := omega) only [e_has, e_within, p3, e1, k4, bnd2_some, bd_some, b01_t, b01_f, if_pos, if_neg, mlet_e, grd, ite_true, ite_false, not_true_eq_false, not_false_eq_true, tn_c, w32_i]
          · have e5 := e_keepPast k1 (by omega)
            unfold fX2_shame fX2_makeDaring
            simp (disch := omega) only [e_isOne, e_in, k3, tn_9, e5, bnd2_some, bd_some, b01_t, b01_f, if_pos, if_neg, mlet_e, grd, ite_true, ite_false, not_true_eq_false, not_false_eq_true, tn_c, w32_i]
      · refine same_of (v := -4) (μ1 := μ) (μ2 := μ) ?_ ?_ h
        · unfold fX1_shame
          simp (disch := omega) only [e_has, e_within, p3, bnd2_some, bd_some, b01_t, b01_f, if_pos, if_neg, mlet_e, grd, ite_true, ite_false, not_true_eq_false, not_false_eq_true, tn_c, w32_i]
        · unfold fX2_shame fX2_makeDaring
          simp (disch := omega) only [e_isOne, e_in, q3, tn_9, bnd2_some, bd_some, b01_t, b01_f, if_pos, if_neg, mlet_e, grd, ite_true, ite_false, not_true_eq_false, not_false_eq_true, tn_c, w32_i]
    · refine same_of (v := -1) (μ1 := μ) (μ2 := μ) ?_ ?_ h
      · unfold fX1_shame
        simp (disch := omega) only [e_has, e_within, bnd2_some, bd_some, b01_t, b01_f, if_pos, if_neg, mlet_e, grd, ite_true, ite_false, not_true_eq_false, not_false_eq_true, tn_c, w32_i]
      · unfold fX2_shame fX2_makeDaring
        simp (disch := omega) only [e_isOne, e_in, bnd2_some, bd_some, b01_t, b01_f, if_pos, if_neg, mlet_e, grd, ite_true, ite_false, not_true_eq_false, not_false_eq_true, tn_c, w32_i]
  · refine same_of (v := -1) (μ1 := μ) (μ2 := μ) ?_ ?_ h
    · unfold fX1_shame
      simp (disch := omega) only [e_has, e_within, bnd2_some, bd_some, b01_t, b01_f, if_pos, if_neg, mlet_e, grd, ite_true, ite_false, not_true_eq_false, not_false_eq_true, tn_c, w32_i]
    · unfold fX2_shame fX2_makeDaring
      simp (disch := omega) only [e_isOne, e_in, bnd2_some, bd_some, b01_t, b01_f, if_pos, if_neg, mlet_e, grd, ite_true, ite_false, not_true_eq_false, not_false_eq_true, tn_c, w32_i]
theorem P_door {i p : Int} {μ : Mem} (h : Inv μ) : Same (fX1_door i p μ) (fX2_door i p) := by
  obtain ⟨s, hR, hC, hM, hg, h0, h40, h61⟩ := Inv_now h
  have g0 := hg.1
  have g6 := hg.2.1
  have c4 := hC.1
  have m4 := hM.1
  by_cases a : 0 ≤ i ∧ i < s 0 0
  · by_cases b : 0 ≤ p ∧ p ≤ 9
    · obtain ⟨i, rfl⟩ : ∃ k : Nat, i = k := ⟨i.toNat, by omega⟩
      obtain ⟨p, rfl⟩ : ∃ k : Nat, p = k := ⟨p.toNat, by omega⟩
      obtain ⟨p1, p2, p3, p4⟩ := hC.2.2.2 i a.2
      obtain ⟨q1, q2, q3, q4⟩ := hM.2.2.2 i a.2
      obtain ⟨-, -, g3⟩ := hg.2.2.2.2 i a.2
      rw [show 0 + 3 + i = 3 + i by omega] at q2
      by_cases e : s 2 i = p
      · refine same_of (v := -4) (μ1 := μ) (μ2 := μ) ?_ ?_ h
        · unfold fX1_door
          simp (disch := omega) only [e_has, e_isPlace, p2, bnd2_some, bd_some, b01_t, b01_f, if_pos, if_neg, mlet_e, grd, ite_true, ite_false, not_true_eq_false, not_false_eq_true, tn_c, w32_i]
        · unfold fX2_door
          simp (disch := omega) only [e_isOne, e_in, q2, tn_k3, bnd2_some, bd_some, b01_t, b01_f, if_pos, if_neg, mlet_e, grd, ite_true, ite_false, not_true_eq_false, not_false_eq_true, tn_c, w32_i]
      · by_cases b : μ 0 8 = 40
        · refine same_of (v := -2) (μ1 := μ) (μ2 := μ) ?_ ?_ h
          · unfold fX1_door
            simp (disch := omega) only [e_has, e_isPlace, p2, bnd2_some, bd_some, b01_t, b01_f, if_pos, if_neg, mlet_e, grd, ite_true, ite_false, not_true_eq_false, not_false_eq_true, tn_c, w32_i]
          · unfold fX2_door
            simp (disch := omega) only [e_isOne, e_in, q2, tn_k3, bnd2_some, bd_some, b01_t, b01_f, if_pos, if_neg, mlet_e, grd, ite_true, ite_false, not_true_eq_false, not_false_eq_true, tn_c, w32_i]
        · obtain ⟨c, hc⟩ : ∃ c : Nat, μ 0 8 = (c : Int) := ⟨(μ 0 8).toNat, by omega⟩
          obtain ⟨μ1, e1, b1, b2, b3, b4⟩ := e_perform (d := dd 3 (i : Int) (p : Int)) hc (by omega) hC hg
          have eu : und s (dd 3 (i : Int) (p : Int)) = wr s 2 i (p : Int) := und_door hg a.2 (by omega)
          have k1 : μ1 61 0 = (c : Int) := by rw [b4 _ _ (by omega) (by omega) (by omega)]; omega
          have k2 : μ1 60 1 = s 0 0 := by rw [b4 _ _ (by omega) (by omega) (by omega)]; omega
          have k3 : μ1 61 (3 + i) = s 2 i := by rw [b4 _ _ (by omega) (by omega) (by omega)]; omega
          have hM2 := MB_wr2 (i := i) (v := (p : Int)) (MB_past (v := ((c + 1 : Nat) : Int)) hM hg b4) hg (by omega)
          rw [show 0 + 3 + i = 3 + i by omega] at hM2
          refine same_of (v := s 2 i) (μ1 := μ1) (μ2 := wr (wr (cpy μ1 61 1 61 (21 + 20 * c) 20) 61 0 ((c + 1 : Nat) : Int)) 61 (3 + i) (p : Int)) ?_ ?_ (Inv_adv h hR hc (by omega) b1 b2 b3 b4 (by rw [eu]; exact hM2) (fun c' k q => wr_ne (by omega)) (by rw [eu]; exact GB_wr2 hg (by omega))).1
          · unfold fX1_door
            rw [show fX1_deedOf 3 (i : Int) (p : Int) μ = some (dd 3 (i : Int) (p : Int)) from rfl]
            simp (disch := omega) only [e_has, e_isPlace, p2, e1, bnd2_some, bd_some, b01_t, b01_f, if_pos, if_neg, mlet_e, grd, ite_true, ite_false, not_true_eq_false, not_false_eq_true, tn_c, w32_i]
          · have e5 := e_keepPast k1 (by omega)
            unfold fX2_door
            simp (disch := omega) only [e_isOne, e_in, k3, tn_k3, e5, bnd2_some, bd_some, b01_t, b01_f, if_pos, if_neg, mlet_e, grd, ite_true, ite_false, not_true_eq_false, not_false_eq_true, tn_c, w32_i]
    · refine same_of (v := -1) (μ1 := μ) (μ2 := μ) ?_ ?_ h
      · unfold fX1_door
        simp (disch := omega) only [e_has, e_isPlace, bnd2_some, bd_some, b01_t, b01_f, if_pos, if_neg, mlet_e, grd, ite_true, ite_false, not_true_eq_false, not_false_eq_true, tn_c, w32_i]
      · unfold fX2_door
        simp (disch := omega) only [e_isOne, e_in, bnd2_some, bd_some, b01_t, b01_f, if_pos, if_neg, mlet_e, grd, ite_true, ite_false, not_true_eq_false, not_false_eq_true, tn_c, w32_i]
  · refine same_of (v := -1) (μ1 := μ) (μ2 := μ) ?_ ?_ h
    · unfold fX1_door
      simp (disch := omega) only [e_has, e_isPlace, bnd2_some, bd_some, b01_t, b01_f, if_pos, if_neg, mlet_e, grd, ite_true, ite_false, not_true_eq_false, not_false_eq_true, tn_c, w32_i]
    · unfold fX2_door
      simp (disch := omega) only [e_isOne, e_in, bnd2_some, bd_some, b01_t, b01_f, if_pos, if_neg, mlet_e, grd, ite_true, ite_false, not_true_eq_false, not_false_eq_true, tn_c, w32_i]
