theorem tn_821 {k : Nat} : (821 * (1 + (k : Int)) + 0).toNat = 821 * (k + 1) := by omega
theorem tn_i0 : (0 : Int).toNat = 0 := rfl
theorem P_keep {k : Int} {μ : Mem} (h : Inv μ) : Same (fX1_keep k μ) (fX2_keep k) := by
  obtain ⟨s, hR, hC, hM, hg, h0, h40, h61⟩ := Inv_now h
  have c4 := hC.1
  have m4 := hM.1
  by_cases a : 0 ≤ k ∧ k ≤ 2
  · by_cases b : s 0 0 = 0
    · refine same_of (v := -4) (μ1 := μ) (μ2 := μ) ?_ ?_ h
      · unfold fX1_keep
        simp (disch := omega) only [e_isKept, bnd2_some, bd_some, b01_t, b01_f, if_pos, if_neg, mlet_e, grd, ite_true, ite_false, not_true_eq_false, not_false_eq_true, tn_c, w32_i]
      · unfold fX2_keep
        simp (disch := omega) only [e_in, bnd2_some, bd_some, b01_t, b01_f, if_pos, if_neg, mlet_e, grd, ite_true, ite_false, not_true_eq_false, not_false_eq_true, tn_c, w32_i]
    · obtain ⟨k, rfl⟩ : ∃ j : Nat, k = j := ⟨k.toNat, by omega⟩
      obtain ⟨c, hc⟩ : ∃ c : Nat, μ 0 8 = (c : Int) := ⟨(μ 0 8).toNat, by omega⟩
      refine same_of (v := (c : Int)) (μ1 := wr (cpy μ 30 0 (32 + k) 0 c) 35 k (c : Int)) (μ2 := cpy (wr (cpy μ 30 0 (32 + k) 0 c) 35 k (c : Int)) 61 0 61 (821 * (k + 1)) 821) ?_ ?_ ?_
      · unfold fX1_keep
        simp (disch := omega) only [e_isKept, hc, tn_i0, wr_ne, cpy_ne, bnd2_some, bd_some, b01_t, b01_f, if_pos, if_neg, mlet_e, grd, ite_true, ite_false, not_true_eq_false, not_false_eq_true, tn_c, w32_i]
      · have e1 : ∀ ν : Mem, fX2_copyRiver 0 (821 * (1 + (k : Int))) ν = some (cpy ν 61 0 61 (821 * (k + 1)) 821) := fun ν => e_copyRiver (a := 0) (b := 821 * (k + 1)) rfl (by omega) (by omega) (by omega) (by omega)
        unfold fX2_keep
        simp (disch := omega) only [e_in, wr_ne, cpy_ne, e1, bnd2_some, bd_some, b01_t, b01_f, if_pos, if_neg, mlet_e, grd, ite_true, ite_false, not_true_eq_false, not_false_eq_true, tn_c, w32_i]
        rw [h61, hc]
      · obtain ⟨-, s0, hh, h1, h2, h3, h4⟩ := hR
        generalize hν : cpy (wr (cpy μ 30 0 (32 + k) 0 c) 35 k (c : Int)) 61 0 61 (821 * (k + 1)) 821 = ν
        have f : ∀ c' k', ¬ (c' = 32 + k) → ¬ (c' = 35 ∧ k' = k) → ¬ (c' = 61 ∧ 821 * (k + 1) ≤ k' ∧ k' < 821 * (k + 1) + 821) → ν c' k' = μ c' k' := fun c' k' q1 q2 q3 => by
          rw [← hν, cpy_ne (by omega), wr_ne (by omega), cpy_ne (by omega)]
        have f35 : ν 35 k = (c : Int) := by rw [← hν, cpy_ne (by omega), wr_at (by omega)]
        have f61 : ∀ x, x < 821 → ν 61 (821 * (k + 1) + x) = μ 61 x := fun x hx => by
          rw [← hν, cpy_at (by omega), show 0 + (821 * (k + 1) + x - 821 * (k + 1)) = x by omega, wr_ne (by omega), cpy_ne (by omega)]
        have f32 : ∀ x, x < c → ν (32 + k) x = μ 30 x := fun x hx => by
          rw [← hν, cpy_ne (by omega), wr_ne (by omega), cpy_at (by omega), show 0 + (x - 0) = x by omega]
        obtain ⟨k1, k2, k3, k4⟩ := h4 0 (by omega)
        have o0 : cnt μ 0 = (c : Int) := hc
        obtain ⟨n1, n2, n3, n4⟩ := k4 (by rw [o0]; omega)
        rw [o0] at n2 n3 n4 k3
        rw [show dcl 0 = 30 from rfl] at n2
        rw [show 821 * 0 = 0 from rfl] at n2 n3 k3
        rw [tn_c] at n3
        have e8 : ν 0 8 = μ 0 8 := f _ _ (by omega) (by omega) (by omega)
        have ek : cnt ν (k + 1) = (c : Int) := by
          unfold cnt
          rw [if_neg (by omega)]
          exact f35
        have ec : ∀ j, j < 4 → ¬ j = k + 1 → cnt ν j = cnt μ j := fun j hj hjk => by
          unfold cnt
          split
          · exact e8
          · exact f _ _ (by omega) (by omega) (by omega)
        refine ⟨RowsI_congr h.1 (fun c' k hk => f _ _ (by omega) (by omega) (by omega)), TextsI_congr h.2.1 (fun c' k hk => f _ _ (by omega) (by omega) (by omega)), ToldI_congr h.2.2.1 (fun c' k hk => f _ _ (by omega) (by omega) (by omega)), by rw [e8]; omega, s0, fun j => if j = k + 1 then hh 0 else hh j, CB_congr h1 (fun c' k hc' => f _ _ (by omega) (by omega) (by omega)), ?_, fun j hj => ?_⟩
        · rw [e8]
          dsimp only
          rw [if_neg (by omega), h2]
          exact CB_congr h3 (fun c' k hc' => f _ _ (by omega) (by omega) (by omega))
        · by_cases e : j = k + 1
          · subst e
            rw [ek]
            refine ⟨by omega, by omega, ?_, fun _ => ?_⟩
            · have := f61 0 (by omega)
              rw [Nat.add_zero] at this
              rw [this, k3]
            · unfold SlotI
              rw [ek]
              simp only [if_true]
              have ed : dcl (k + 1) = 32 + k := by
                unfold dcl
                rw [if_neg (by omega)]
                omega
              have cp : ∀ (x y : Nat) (t : Mem), y = 821 * (k + 1) + x → x + 20 < 821 → GB t → MB x μ t → MB y ν t := fun x y t hy hx ht hm => MB_of hm ht (fun i hi => by rw [hy, Nat.add_assoc, f61 _ (by omega)]) (f _ _ (by omega) (by omega) (by omega)) (fun i => f _ _ (by omega) (by omega) (by omega))
              refine ⟨n1, fun d hd => ⟨?_, ?_⟩, ?_, n4⟩
              · rw [ed, f32 d (by omega)]
                exact (n2 d hd).1
              · exact cp _ _ _ (by omega) (by omega) (n4 d (by omega)) (n2 d hd).2
              · rw [tn_c]
                exact cp _ _ _ (by omega) (by omega) (n4 c (by omega)) n3
          · obtain ⟨k1, k2, k3, k4⟩ := h4 j hj
            rw [ec j hj e]
            refine ⟨k1, k2, by rw [f _ _ (by omega) (by omega) (by omega)]; exact k3, fun k5 => ?_⟩
            obtain ⟨n1, n2, n3, n4⟩ := k4 k5
            unfold SlotI
            rw [ec j hj e]
            simp only [e, if_false]
            have cg : ∀ (a : Nat) (t : Mem), (a + 20 < 821 * (k + 1) ∨ 821 * (k + 1) + 821 ≤ a) → GB t → MB a μ t → MB a ν t := fun a t ha ht hm => MB_congr hm ht.2.1 (fun c' k hk => f _ _ (by omega) (by omega) (by omega))
            refine ⟨n1, fun e' he => ⟨?_, cg _ _ (by omega) (n4 e' (by omega)) (n2 e' he).2⟩, cg _ _ (by omega) (n4 _ (by omega)) n3, n4⟩
            rw [f _ _ (by unfold dcl; split <;> omega) (by unfold dcl; split <;> omega) (by unfold dcl; split <;> omega)]
            exact (n2 e' he).1
  · refine same_of (v := -1) (μ1 := μ) (μ2 := μ) ?_ ?_ h
    · unfold fX1_keep
      simp (disch := omega) only [e_isKept, bnd2_some, bd_some, b01_t, b01_f, if_pos, if_neg, mlet_e, grd, ite_true, ite_false, not_true_eq_false, not_false_eq_true, tn_c, w32_i]
    · unfold fX2_keep
      simp (disch := omega) only [e_in, bnd2_some, bd_some, b01_t, b01_f, if_pos, if_neg, mlet_e, grd, ite_true, ite_false, not_true_eq_false, not_false_eq_true, tn_c, w32_i]
theorem P_on {k : Int} {μ : Mem} (h : Inv μ) : Same (fX1_on k μ) (fX2_on k) := by
  obtain ⟨s, hR, hC, hM, hg, h0, h40, h61⟩ := Inv_now h
  by_cases a : 0 ≤ k ∧ k ≤ 2
  · obtain ⟨k, rfl⟩ : ∃ j : Nat, k = j := ⟨k.toNat, by omega⟩
    obtain ⟨-, s0, hh, h1, h2, h3, h4⟩ := hR
    obtain ⟨k1, k2, k3, k4⟩ := h4 (k + 1) (by omega)
    have ek : cnt μ (k + 1) = μ 35 k := by
      unfold cnt
      rw [if_neg (by omega)]
      rfl
    rw [ek] at k1 k2 k3 k4
    by_cases b : 0 ≤ μ 35 k
    · obtain ⟨n1, n2, n3, n4⟩ := k4 b
      rw [ek] at n2 n3 n4
      obtain ⟨n, hn⟩ : ∃ n : Nat, μ 35 k = (n : Int) := ⟨(μ 35 k).toNat, by omega⟩
      rw [hn] at n2 n3 n4 k2 k3
      rw [tn_c] at n3
      have ed : dcl (k + 1) = 32 + k := by
        unfold dcl
        rw [if_neg (by omega)]
        omega
      rw [ed] at n2
      have f30 : ∀ d, d < n → cpy (wr μ 0 8 (n : Int)) (32 + k) 0 30 0 n 30 d = μ (32 + k) d := fun d hd => by
        rw [cpy_at (by omega), wr_ne (by omega), show 0 + (d - 0) = d by omega]
      obtain ⟨μ1, e1, b1, b4⟩ := e_again (μ := cpy (wr μ 0 8 (n : Int)) (32 + k) 0 30 0 n) (n := n) (h := hh (k + 1)) (by omega) (fun d hd => n4 d (by omega)) (by rw [cpy_ne (by omega), wr_at (by omega)]) (fun d hd => by rw [f30 d hd]; exact (n2 d (by omega)).1) (CB_congr (by rw [n1]; exact h1) (fun c' k hk => by rw [cpy_ne (by omega), wr_ne (by omega)]))
      have f1 : ∀ c' k', ¬ (c' = 0 ∧ k' = 8) → ¬ c' = 30 → ¬ (20 ≤ c' ∧ c' ≤ 24) → μ1 c' k' = μ c' k' := fun c' k' q1 q2 q3 => by
        rw [b4 _ _ (by omega), cpy_ne (by omega), wr_ne (by omega)]
      have e18 : μ1 0 8 = (n : Int) := by rw [b4 _ _ (by omega), cpy_ne (by omega), wr_at (by omega)]
      have g61 : ∀ x, x < 821 → cpy μ1 61 (821 * (k + 1)) 61 0 821 61 x = μ 61 (821 * (k + 1) + x) := fun x hx => by
        rw [cpy_at (by omega), show 821 * (k + 1) + (x - 0) = 821 * (k + 1) + x by omega, f1 _ _ (by omega) (by omega) (by omega)]
      have cp : ∀ (x y : Nat) (t : Mem), x = 821 * (k + 1) + y → y + 20 < 821 → GB t → MB x μ t → MB y (cpy μ1 61 (821 * (k + 1)) 61 0 821) t := fun x y t hx hy ht hm => MB_of hm ht (fun i hi => by rw [g61 _ (by omega), hx, Nat.add_assoc]) (by rw [cpy_ne (by omega), f1 _ _ (by omega) (by omega) (by omega)]) (fun i => by rw [cpy_ne (by omega), f1 _ _ (by omega) (by omega) (by omega)])
      refine same_of (v := (n : Int)) (μ1 := μ1) (μ2 := cpy μ1 61 (821 * (k + 1)) 61 0 821) ?_ ?_ ?_
      · unfold fX1_on
        simp (disch := omega) only [e_isKept, hn, wr_at, tn_i0, e1, e18, bnd2_some, bd_some, b01_t, b01_f, if_pos, if_neg, mlet_e, grd, ite_true, ite_false, not_true_eq_false, not_false_eq_true, tn_c, w32_i]
      · have e2 : ∀ ν : Mem, fX2_copyRiver (821 * (1 + (k : Int))) 0 ν = some (cpy ν 61 (821 * (k + 1)) 61 0 821) := fun ν => e_copyRiver (a := 821 * (k + 1)) (b := 0) (by omega) rfl (by omega) (by omega) (by omega)
        have k61 : μ1 61 (821 * (k + 1)) = (n : Int) := by rw [f1 _ _ (by omega) (by omega) (by omega)]; exact k3
        unfold fX2_on
        simp (disch := omega) only [e_in, tn_821, k61, e2, bnd2_some, bd_some, b01_t, b01_f, if_pos, if_neg, mlet_e, grd, ite_true, ite_false, not_true_eq_false, not_false_eq_true, tn_c, w32_i]
        have := g61 0 (by omega)
        rw [show 821 * (k + 1) + 0 = 821 * (k + 1) from rfl, k3] at this
        rw [this]
      · refine Inv_jump (n := n) (h := hh (k + 1)) h h1 h4 (by omega) n1 b1 e18 (fun d hd => ?_) f1 (fun d hd => n4 d (by omega)) (cp _ _ _ (by omega) (by omega) (n4 n (by omega)) n3) (fun d hd => cp _ _ _ (by omega) (by omega) (n4 d (by omega)) (n2 d (by omega)).2) ?_ (fun c' k q => cpy_ne (by omega))
        · rw [b4 _ _ (by omega), f30 d hd]
          exact (n2 d (by omega)).1
        · have := g61 0 (by omega)
          rw [show 821 * (k + 1) + 0 = 821 * (k + 1) from rfl, k3] at this
          exact this
    · refine same_of (v := -3) (μ1 := fndM μ 1) (μ2 := fndM2 (fndM μ 1) 1) ?_ ?_ (Inv_find h (by omega))
      · unfold fX1_on
        simp (disch := omega) only [e_isKept, fn1, bnd2_some, bd_some, b01_t, b01_f, if_pos, if_neg, mlet_e, grd, ite_true, ite_false, not_true_eq_false, not_false_eq_true, tn_c, w32_i]
      · unfold fX2_on
        simp (disch := omega) only [e_in, tn_821, fndM_ne, gn1, bnd2_some, bd_some, b01_t, b01_f, if_pos, if_neg, mlet_e, grd, ite_true, ite_false, not_true_eq_false, not_false_eq_true, tn_c, w32_i]
  · refine same_of (v := -1) (μ1 := μ) (μ2 := μ) ?_ ?_ h
    · unfold fX1_on
      simp (disch := omega) only [e_isKept, bnd2_some, bd_some, b01_t, b01_f, if_pos, if_neg, mlet_e, grd, ite_true, ite_false, not_true_eq_false, not_false_eq_true, tn_c, w32_i]
    · unfold fX2_on
      simp (disch := omega) only [e_in, bnd2_some, bd_some, b01_t, b01_f, if_pos, if_neg, mlet_e, grd, ite_true, ite_false, not_true_eq_false, not_false_eq_true, tn_c, w32_i]
