/-! THE RIVER'S HISTORY -/
theorem e_perform {μ s : Mem} {d : Int} {c : Nat} (hc : μ 0 8 = (c : Int)) (h40 : c < 40) (hC : CB 20 μ s) (hg : GB s) : Ev (fX1_perform d μ) fun μ1 => CB 20 μ1 (und s d) ∧ μ1 0 8 = ((c + 1 : Nat) : Int) ∧ μ1 30 c = d ∧ ∀ c' k, ¬ (c' = 0 ∧ k = 8) → ¬ (c' = 30 ∧ k = c) → ¬ (20 ≤ c' ∧ c' ≤ 24) → μ1 c' k = μ c' k := by
  unfold fX1_perform
  have e1 : ∀ v, wr μ 30 c v 0 8 = (c : Int) := fun v => by rw [wr_ne (by omega), hc]
  simp (disch := omega) only [hc, if_neg, if_pos, grd, mlet_e, tn_c, e1, w32_s, ev_bind]
  refine ev_mono (e_undergo (b := 20) (s := s) (CB_congr hC (fun c' k hk => ?_)) hg) (fun μ1 h => ev_some.mpr ⟨h.1, ?_, ?_, fun c' k q1 q2 q3 => ?_⟩)
  · rw [wr_ne (by omega), wr_ne (by omega)]
  · rw [h.2 _ _ (by omega), wr_at (by omega)]
  · rw [h.2 _ _ (by omega), wr_ne (by omega), wr_at (by omega)]
  · rw [h.2 _ _ (by omega), wr_ne (by omega), wr_ne (by omega)]
