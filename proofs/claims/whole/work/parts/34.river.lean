/-! THE RIVER'S HISTORY -/
def RivS (μ s : Mem) : Prop := 0 ≤ μ 0 8 ∧ ∃ (s0 : Mem) (h : Nat → Nat → Mem), CB 15 μ s0 ∧ h 0 (μ 0 8).toNat = s ∧ CB 20 μ s ∧ ∀ j : Nat, j < 4 → -1 ≤ cnt μ j ∧ cnt μ j ≤ 40 ∧ μ 61 (821 * j) = cnt μ j ∧ (0 ≤ cnt μ j → SlotI μ s0 j (h j))
theorem RivI_S {μ : Mem} (h : RivI μ) : ∃ s, RivS μ s := by
  obtain ⟨h0, s0, hh, h1, h2, h3⟩ := h
  exact ⟨_, h0, s0, hh, h1, rfl, h2, h3⟩
theorem RivS_I {μ s : Mem} (h : RivS μ s) : RivI μ := by
  obtain ⟨h0, s0, hh, h1, h2, h3, h4⟩ := h
  exact ⟨h0, s0, hh, h1, by rw [h2]; exact h3, h4⟩
theorem RivS_now {μ s : Mem} (h : RivS μ s) : CB 20 μ s ∧ MB 0 μ s ∧ GB s ∧ 0 ≤ μ 0 8 ∧ μ 0 8 ≤ 40 ∧ μ 61 0 = μ 0 8 := by
  obtain ⟨h0, s0, hh, h1, h2, h3, h4⟩ := h
  obtain ⟨k1, k2, k3, k4⟩ := h4 0 (by omega)
  have e : cnt μ 0 = μ 0 8 := rfl
  obtain ⟨m1, m2, m3, m4⟩ := k4 (by rw [e]; exact h0)
  rw [e, h2] at m3
  refine ⟨h3, m3, ?_, h0, by rw [← e]; exact k2, by rw [← e]; exact k3⟩
  have := m4 (μ 0 8).toNat (by rw [e]; omega)
  rw [h2] at this
  exact this
/-- a deed more: the class's memory μ1 behind it, the model's μ2 -/
theorem Inv_adv {μ μ1 μ2 s : Mem} {d : Int} {c : Nat} (hI : Inv μ) (hR : RivS μ s) (hc : μ 0 8 = (c : Int)) (h40 : c < 40)
    (b1 : CB 20 μ1 (und s d)) (b2 : μ1 0 8 = ((c + 1 : Nat) : Int)) (b3 : μ1 30 c = d) (b4 : ∀ c' k, ¬ (c' = 0 ∧ k = 8) → ¬ (c' = 30 ∧ k = c) → ¬ (20 ≤ c' ∧ c' ≤ 24) → μ1 c' k = μ c' k)
    (m1 : MB 0 μ2 (und s d)) (m2 : ∀ c' k, ¬ (c' = 61 ∧ 1 ≤ k ∧ k ≤ 20) → μ2 c' k = wr (cpy μ1 61 1 61 (21 + 20 * c) 20) 61 0 ((c + 1 : Nat) : Int) c' k) (g : GB (und s d)) : Inv μ2 ∧ RivS μ2 (und s d) := by
  have f : ∀ c' k, ¬ (c' = 0 ∧ k = 8) → ¬ (c' = 30 ∧ k = c) → ¬ (20 ≤ c' ∧ c' ≤ 24) → ¬ c' = 61 → μ2 c' k = μ c' k := fun c' k q1 q2 q3 q4 => by
    rw [m2 _ _ (by omega), wr_ne (by omega), cpy_ne (by omega), b4 _ _ q1 q2 q3]
  have f1 : ∀ c' k, ¬ c' = 61 → μ2 c' k = μ1 c' k := fun c' k q => by
    rw [m2 _ _ (by omega), wr_ne (by omega), cpy_ne (by omega)]
  have f61 : ∀ k, (21 ≤ k ∧ k < 21 + 20 * c) ∨ 841 ≤ k ∨ (821 ≤ k) → μ2 61 k = μ 61 k := fun k hk => by
    rw [m2 _ _ (by omega), wr_ne (by omega), cpy_ne (by omega), b4 _ _ (by omega) (by omega) (by omega)]
  have hRS : RivS μ2 (und s d) := by
    obtain ⟨h0, s0, hh, h1, h2, h3, h4⟩ := hR
    have e8 : μ2 0 8 = ((c + 1 : Nat) : Int) := by rw [f1 _ _ (by omega), b2]
    have ec : ∀ j, 1 ≤ j → j < 4 → cnt μ2 j = cnt μ j := fun j hj1 hj => by
      unfold cnt
      rw [if_neg (by omega), if_neg (by omega)]
      exact f _ _ (by omega) (by omega) (by omega) (by omega)
    have e0 : cnt μ2 0 = ((c + 1 : Nat) : Int) := e8
    have o0 : cnt μ 0 = (c : Int) := hc
    refine ⟨by rw [e8]; omega, s0, fun j => if j = 0 then (fun e => if e ≤ c then hh 0 e else und (hh 0 c) d) else hh j, CB_congr h1 (fun c' k hc' => f _ _ (by omega) (by omega) (by omega) (by omega)), ?_, CB_congr b1 (fun c' k hc' => f1 _ _ (by omega)), fun j hj => ?_⟩
    · rw [e8, tn_c]
      simp only [if_true]
      rw [if_neg (by omega)]
      rw [hc, tn_c] at h2
      rw [h2]
    · by_cases e : j = 0
      · subst e
        obtain ⟨k1, k2, k3, k4⟩ := h4 0 (by omega)
        obtain ⟨n1, n2, n3, n4⟩ := k4 (by rw [o0]; omega)
        rw [hc, tn_c] at h2
        rw [o0] at n2 n3 n4
        rw [e0]
        refine ⟨by omega, by omega, ?_, fun _ => ?_⟩
        · rw [m2 _ _ (by omega), wr_at (by omega)]
        · unfold SlotI
          rw [e0]
          simp only [if_true]
          refine ⟨?_, fun e he => ?_, ?_, fun e he => ?_⟩
          · rw [if_pos (by omega)]
            exact n1
          · have hGe : GB (hh 0 e) := n4 e (by omega)
            rw [if_pos (show e ≤ c by omega)]
            have ed : dcl 0 = 30 := rfl
            rw [ed] at n2 ⊢
            by_cases e2 : e = c
            · subst e2
              rw [if_neg (by omega), f1 _ _ (by omega), b3]
              refine ⟨rfl, ?_⟩
              rw [h2]
              have hn : MB 0 μ s := by
                rw [tn_c, h2] at n3
                exact n3
              refine MB_of hn (by rw [← h2]; exact hGe) (fun k hk => ?_) (f _ _ (by omega) (by omega) (by omega) (by omega)) (fun i => f _ _ (by omega) (by omega) (by omega) (by omega))
              rw [m2 _ _ (by omega), wr_ne (by omega), cpy_at (by omega), b4 _ _ (by omega) (by omega) (by omega)]
              congr 1
              omega
            · obtain ⟨p1, p2⟩ := n2 e (by omega)
              rw [if_pos (by omega), f _ _ (by omega) (by omega) (by omega) (by omega)]
              refine ⟨p1, MB_congr p2 hGe.2.1 (fun c' k hk => ?_)⟩
              by_cases q : c' = 61
              · subst q
                exact f61 _ (by omega)
              · exact f _ _ (by omega) (by omega) (by omega) q
          · rw [tn_c, if_neg (by omega), h2]
            exact m1
          · by_cases e2 : e ≤ c
            · rw [if_pos e2]
              exact n4 e (by omega)
            · rw [if_neg e2, h2]
              exact g
      · obtain ⟨k1, k2, k3, k4⟩ := h4 j hj
        rw [ec j (by omega) hj]
        refine ⟨k1, k2, by rw [f61 _ (by omega)]; exact k3, fun k5 => ?_⟩
        obtain ⟨n1, n2, n3, n4⟩ := k4 k5
        unfold SlotI
        rw [ec j (by omega) hj]
        simp only [e, if_false]
        have cg : ∀ (a : Nat) (t : Mem), 821 ≤ a → GB t → MB a μ t → MB a μ2 t := fun a t ha ht hm => MB_congr hm ht.2.1 (fun c' k hk => by
          by_cases q : c' = 61
          · subst q
            exact f61 _ (by omega)
          · exact f _ _ (by omega) (by omega) (by omega) q)
        refine ⟨n1, fun e' he => ⟨?_, cg _ _ (by omega) (n4 e' (by omega)) (n2 e' he).2⟩, cg _ _ (by omega) (n4 _ (by omega)) n3, n4⟩
        rw [f _ _ (by unfold dcl; split <;> omega) (by unfold dcl; split <;> omega) (by unfold dcl; split <;> omega) (by unfold dcl; split <;> omega)]
        exact (n2 e' he).1
  refine ⟨⟨RowsI_congr hI.1 (fun c' k hk => f _ _ (by omega) (by omega) (by omega) (by omega)), TextsI_congr hI.2.1 (fun c' k hk => f _ _ (by omega) (by omega) (by omega) (by omega)), ToldI_congr hI.2.2.1 (fun c' k hk => f _ _ (by omega) (by omega) (by omega) (by omega)), RivS_I hRS⟩, hRS⟩
theorem e_perform {μ s : Mem} {d : Int} {c : Nat} (hc : μ 0 8 = (c : Int)) (h40 : c < 40) (hC : CB 20 μ s) (hg : GB s) : Ev (fX1_perform d μ) fun μ1 => CB 20 μ1 (und s d) ∧ μ1 0 8 = ((c + 1 : Nat) : Int) ∧ μ1 30 c = d ∧ ∀ c' k, ¬ (c' = 0 ∧ k = 8) → ¬ (c' = 30 ∧ k = c) → ¬ (20 ≤ c' ∧ c' ≤ 24) → μ1 c' k = μ c' k := by
  unfold fX1_perform
  have e1 : ∀ v, wr μ 30 c v 0 8 = (c : Int) := fun v => by rw [wr_ne (by omega), hc]
  simp (disch := omega) only [hc, if_neg, if_pos, grd, mlet_e, tn_c, e1, w32_s, ev_bind]
  refine ev_mono (e_undergo (b := 20) (s := s) (CB_congr hC (fun c' k hk => ?_)) hg) (fun μ1 h => ev_some.mpr ⟨h.1, ?_, ?_, fun c' k q1 q2 q3 => ?_⟩)
  · rw [wr_ne (by omega), wr_ne (by omega)]
  · rw [h.2 _ _ (by omega), wr_at (by omega)]
  · rw [h.2 _ _ (by omega), wr_ne (by omega), wr_at (by omega)]
  · rw [h.2 _ _ (by omega), wr_ne (by omega), wr_ne (by omega)]
theorem MB_past {μ μ1 s : Mem} {c : Nat} {v : Int} (hM : MB 0 μ s) (hg : GB s) (f : ∀ c' k, ¬ (c' = 0 ∧ k = 8) → ¬ (c' = 30 ∧ k = c) → ¬ (20 ≤ c' ∧ c' ≤ 24) → μ1 c' k = μ c' k) : MB 0 (wr (cpy μ1 61 1 61 (21 + 20 * c) 20) 61 0 v) s := by
  refine MB_congr hM hg.2.1 (fun c' k hk => ?_)
  rw [wr_ne (by omega), cpy_ne (by omega), f _ _ (by omega) (by omega) (by omega)]
theorem P_night {μ : Mem} (h : Inv μ) : Same (fX1_night μ) fX2_night := by
  obtain ⟨s, hR⟩ := RivI_S h.2.2.2
  obtain ⟨hC, hM, hg, h0, h40, h61⟩ := RivS_now hR
  have g0 := hg.1
  by_cases a : s 0 0 = 0
  · refine same_of (v := -4) (μ1 := μ) (μ2 := μ) ?_ ?_ h
    · unfold fX1_night
      rw [hC.1]
      simp (disch := omega) only [bnd2_some, bd_some, b01_t, b01_f, if_pos, if_neg, mlet_e, grd, ite_true, ite_false, not_true_eq_false, not_false_eq_true, tn_c, w32_i]
    · unfold fX2_night
      rw [hM.1]
      simp (disch := omega) only [bnd2_some, bd_some, b01_t, b01_f, if_pos, if_neg, mlet_e, grd, ite_true, ite_false, not_true_eq_false, not_false_eq_true, tn_c, w32_i]
  · by_cases b : μ 0 8 = 40
    · refine same_of (v := -2) (μ1 := μ) (μ2 := μ) ?_ ?_ h
      · unfold fX1_night
        rw [hC.1]
        simp (disch := omega) only [bnd2_some, bd_some, b01_t, b01_f, if_pos, if_neg, mlet_e, grd, ite_true, ite_false, not_true_eq_false, not_false_eq_true, tn_c, w32_i]
      · unfold fX2_night
        rw [hM.1]
        simp (disch := omega) only [bnd2_some, bd_some, b01_t, b01_f, if_pos, if_neg, mlet_e, grd, ite_true, ite_false, not_true_eq_false, not_false_eq_true, tn_c, w32_i]
    · obtain ⟨c, hc⟩ : ∃ c : Nat, μ 0 8 = (c : Int) := ⟨(μ 0 8).toNat, by omega⟩
      obtain ⟨μ1, e1, b1, b2, b3, b4⟩ := e_perform (d := dd 0 0 0) hc (by omega) hC hg
      have k1 : μ1 61 0 = (c : Int) := by rw [b4 _ _ (by omega) (by omega) (by omega)]; omega
      obtain ⟨⟨v, μ2⟩, e2, e3, m1, m2⟩ := e_passes (x := 0) (a := 0) rfl (by omega) (MB_past (v := ((c + 1 : Nat) : Int)) hM hg b4) hg
      dsimp only at e3 m1 m2
      subst e3
      refine same_of (v := hold s 0) (μ1 := μ1) (μ2 := μ2) ?_ ?_ (Inv_adv h hR hc (by omega) b1 b2 b3 b4 (by rw [und_night]; exact m1) (fun c' k q => m2 c' k (by omega)) (by rw [und_night]; exact GB_night hg)).1
      · unfold fX1_night
        rw [hC.1, e_holder hC hg, show fX1_deedOf 0 0 0 μ = some (dd 0 0 0) from rfl]
        simp (disch := omega) only [e1, bnd2_some, bd_some, b01_t, b01_f, if_pos, if_neg, mlet_e, grd, ite_true, ite_false, not_true_eq_false, not_false_eq_true, tn_c, w32_i]
      · unfold fX2_night
        rw [b4 60 1 (by omega) (by omega) (by omega), hM.1, e_keepPast k1 (by omega)]
        simp (disch := omega) only [bd_some, e2, bnd2_some, if_pos, if_neg]
