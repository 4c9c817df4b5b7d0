/-! kinds -/
theorem GB_wr1 {s : Mem} {i : Nat} {v : Int} (hg : GB s) (hv : 0 ≤ v ∧ v ≤ 5) : GB (wr s 1 i v) := by
  obtain ⟨g1, g2, g3, g4, g5⟩ := hg
  have e0 : ∀ k, wr s 1 i v 0 k = s 0 k := fun k => wr_ne (by omega)
  refine ⟨by rw [e0]; exact g1, by rw [e0]; exact g2, by rw [e0]; exact g3, by rw [e0]; exact g4, fun j hj => ?_⟩
  rw [e0] at hj
  obtain ⟨m1, m2, m3⟩ := g5 j hj
  rw [wr_ne (c := 1) (c' := 2) (by omega), wr_ne (c := 1) (c' := 3) (by omega)]
  refine ⟨?_, m2, m3⟩
  by_cases e : j = i
  · rw [wr_at (by omega)]
    exact hv
  · rw [wr_ne (by omega)]
    exact m1
theorem CB_wr1 {b i : Nat} {μ s : Mem} {v : Int} (h : CB b μ s) : CB b (wr μ (b + 1) i v) (wr s 1 i v) := by
  obtain ⟨h1, h2, h3, h4⟩ := h
  have e0 : ∀ k, wr s 1 i v 0 k = s 0 k := fun k => wr_ne (by omega)
  refine ⟨by rw [e0, wr_ne (by omega)]; exact h1, by rw [e0, wr_ne (by omega)]; exact h2, by rw [e0, wr_ne (by omega)]; exact h3, fun j hj => ?_⟩
  rw [e0] at hj
  obtain ⟨m1, m2, m3, m4⟩ := h4 j hj
  by_cases e : j = i
  · subst e
    simp (disch := omega) only [wr_ne, wr_at]
    exact ⟨trivial, m2, m3, m4⟩
  · simp (disch := omega) only [wr_ne]
    exact ⟨m1, m2, m3, m4⟩
theorem e_kinds_L {s : Mem} {i r n : Nat} {ρ : Nat → Int} (hr : r < 6) (hn : n ≤ 40) (hg : GB s) (hi : (i : Int) < s 0 0) : ∀ (m k N : Nat) (μ : Mem), k + m = 6 → m < N → CB 20 μ s → μ 8 r = (n : Int) → (∀ j, j < n → μ (2 + r) j = ρ j) → Ev (fX1_kinds_L19 (i : Int) (r : Int) N (setR (fun d => gosS (wr s 1 i (d : Int)) ρ n 0) k) (k : Int) μ) fun q => q.1 = setR (fun d => gosS (wr s 1 i (d : Int)) ρ n 0) 6 ∧ ∀ c k, c < 25 ∨ 29 < c → q.2 c k = μ c k := by
  have g6 := hg.2.1
  intro m
  induction m with
  | zero =>
    intro k N μ h1 h2 h3 h4 h5
    obtain ⟨N, rfl⟩ : ∃ j, N = j + 1 := ⟨N - 1, by omega⟩
    obtain rfl : k = 6 := by omega
    rw [fX1_kinds_L19, if_pos (by omega)]
    exact ev_some.mpr ⟨rfl, fun _ _ _ => rfl⟩
  | succ m ih =>
    intro k N μ h1 h2 h3 h4 h5
    obtain ⟨N, rfl⟩ : ∃ j, N = j + 1 := ⟨N - 1, by omega⟩
    obtain ⟨μa, a1, a2, a3⟩ := e_become (b := 25) (b' := 20) (by omega) h3 hg
    rw [fX1_kinds_L19]
    simp (disch := omega) only [grd, if_pos, if_neg, tn_c, a1, bd_some, mlet_e, ev_bnd2, w32_s]
    refine ev_mono (e_goes (n := n) (ρ := ρ) hr hn (GB_wr1 hg (i := i) (v := (k : Int)) (by omega)) (CB_wr1 (b := 25) a2) (by rw [wr_ne (by omega), a3 _ _ (by omega)]; exact h4) (fun j hj => by rw [wr_ne (by omega), a3 _ _ (by omega)]; exact h5 j hj)) (fun q hq => ?_)
    obtain ⟨q1, q3⟩ := hq
    have f : ∀ c k, c < 25 ∨ 29 < c → q.2 c k = μ c k := fun c k hc => by
      rw [q3 _ _ hc, wr_ne (by omega), a3 _ _ (by omega)]
    have nx := ih (k + 1) N q.2 (by omega) (by omega) (CB_congr h3 (fun c k hc => f _ _ (by omega))) (by rw [f _ _ (by omega)]; exact h4) (fun j hj => by rw [f _ _ (by omega)]; exact h5 j hj)
    have nx' := ev_mono nx (fun t ht => (⟨ht.1, fun c k hc => by rw [ht.2 _ _ hc, f _ _ hc]⟩ : t.1 = setR (fun d => gosS (wr s 1 i (d : Int)) ρ n 0) 6 ∧ ∀ c k, c < 25 ∨ 29 < c → t.2 c k = μ c k))
    rw [q1]
    by_cases z : gosS (wr s 1 i (k : Int)) ρ n 0 = 0
    · rw [if_pos z]
      rw [setR, if_pos z] at nx'
      exact nx'
    · rw [if_neg z]
      rw [setR, if_neg z] at nx'
      exact nx'
