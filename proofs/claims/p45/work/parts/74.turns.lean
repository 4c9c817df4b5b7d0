/-! THE TURNS, the end: the law holds -/
theorem ac_0 {s : Mem} (h : bnd 0 s) : ∀ k : Nat, (k : Int) ≤ s 0 0 → acR s k = 0
  | 0, _ => rfl
  | k + 1, hk => by
    have h1 := h.2 k (by omega)
    rw [acR, ac_0 h k (by omega), show s 4 k = 0 by omega]
    rfl
/-- before the turn t -/
def TI (s0 μ1 : Mem) (t : Nat) (μ : Mem) : Prop := ∃ m s, m ≤ 4 * t ∧ Hs s0 m s μ ∧ LV s μ ∧ (∀ r : Nat, r < 6 → -1 ≤ μ 8 r ∧ μ 8 r ≤ 40) ∧ ∀ c k, (9 ≤ c ∧ c ≤ 19) ∨ (31 ≤ c ∧ c ≤ 35) → μ c k = μ1 c k
theorem E_river {σ : Scr} {s0 μ0 μ : Mem} (h0 : 1 ≤ s0 0 0) (h8 : ∀ r : Nat, r < 6 → μ 8 r = -1) (hs : ∀ c k, 9 ≤ c ∧ c ≤ 14 → μ c k = μ0 c k) (hN : Nw 0 s0 μ0) (e8 : ∀ r : Nat, r < 6 → μ0 8 r = -1) (e14 : μ0 14 0 = 40) (f14 : ∀ r : Nat, r < 4 → μ0 14 r ≤ 60) (e10 : rdS (fun j => μ0 10 j) 40 = (-9, s0)) (e35 : ∀ k : Nat, k < 3 → μ0 35 k = -1) : Ok (fL_law_c2648 σ (s0 0 0) (dgS s0 μ0) μ) := by
  have er : (fun j => μ 10 j) = fun j => μ0 10 j := funext fun j => hs 10 j (by omega)
  obtain ⟨ν, a1, a2, a3, a4, a5⟩ := C_river (n := 40) (μ := μ) (by rw [hs _ _ (by omega), e14]; rfl) (by omega) (by rw [er, e10])
  rw [er, e10] at a1 a3
  dsimp only at a1 a3
  have g : ∀ c k, ¬ c = 0 → ¬ (15 ≤ c ∧ c ≤ 29) → ¬ c = 35 → ν c k = μ c k := a5
  have d1 := C_digest a3 (fun r hr => by rw [g _ _ (by omega) (by omega) (by omega), h8 r hr]; omega) (fun r hr => by rw [g _ _ (by omega) (by omega) (by omega), hs _ _ (by omega)]; exact f14 r hr)
  have d2 : dgS s0 ν = dgS s0 μ0 := dgS_congr (by rw [a3.1, hN.1]) (fun r hr => by rw [g _ _ (by omega) (by omega) (by omega), h8 r hr, e8 r hr]) (fun r hr i hi => by rw [e8 r hr] at hi; exact absurd hi (by omega)) (fun r hr => by rw [g _ _ (by omega) (by omega) (by omega), hs _ _ (by omega)]) (fun r hr i hi => by rw [g _ _ (by omega) (by omega) (by omega), hs _ _ (by omega)]) (fun r hr => by rw [a4 r hr, e35 r hr])
  unfold fL_law_c2648
  rw [a1, bnd2_some, mlet_e, if_neg (fun w => w rfl), d1, bd_some, d2, if_neg (fun w => w (lc_eq.mpr rfl))]
  exact ok1
theorem E_tear {σ : Scr} {μ0 : Mem} {x28 x29 : Int} (hK : ∀ μ : Mem, (∀ r : Nat, r < 6 → μ 8 r = -1) → (∀ c k, 9 ≤ c ∧ c ≤ 14 → μ c k = μ0 c k) → Ok (fL_law_c2648 σ x28 x29 μ)) : ∀ (j k N : Nat) (μ : Mem), k + j = 6 → j < N → (∀ r : Nat, r < k → μ 8 r = -1) → (∀ r : Nat, r < 6 → -1 ≤ μ 8 r) → (∀ c k, 9 ≤ c ∧ c ≤ 14 → μ c k = μ0 c k) → Ok (fL_law_L2612 σ x28 x29 N (k : Int) μ) := by
  intro j
  induction j with
  | zero =>
    intro k N μ e1 e2 h1 h2 h3
    obtain ⟨N, rfl⟩ : ∃ j, N = j + 1 := ⟨N - 1, by omega⟩
    obtain rfl : k = 6 := by omega
    rw [fL_law_L2612, if_pos (by omega)]
    exact hK μ h1 h3
  | succ j ih =>
    intro k N μ e1 e2 h1 h2 h3
    obtain ⟨N, rfl⟩ : ∃ j, N = j + 1 := ⟨N - 1, by omega⟩
    have hk := h2 k (by omega)
    rw [fL_law_L2612, if_neg (by omega), C_tear (by omega)]
    by_cases q : 0 ≤ μ 8 k
    · rw [if_pos q, bnd2_some, mlet_e, mlet_e, if_pos rfl, w32_s (by omega)]
      refine ih (k + 1) N _ (by omega) (by omega) (fun r hr => ?_) (fun r hr => ?_) (fun c l hc => ?_)
      · by_cases e : r = k
        · rw [e, wr_at (by omega)]
        · rw [wr_ne (by omega)]
          exact h1 r (by omega)
      · by_cases e : r = k
        · rw [e, wr_at (by omega)]
          omega
        · rw [wr_ne (by omega)]
          exact h2 r hr
      · rw [wr_ne (by omega)]
        exact h3 c l hc
    · rw [if_neg q, bnd2_some, mlet_e, mlet_e, if_neg (by omega), if_pos rfl, w32_s (by omega)]
      refine ih (k + 1) N _ (by omega) (by omega) (fun r hr => ?_) (fun r hr => ?_) (fun c l hc => ?_)
      · rw [fndM_ne (by omega)]
        by_cases e : r = k
        · rw [e]
          omega
        · exact h1 r (by omega)
      · rw [fndM_ne (by omega)]
        exact h2 r hr
      · rw [fndM_ne (by omega)]
        exact h3 c l hc
theorem E_c2545 {σ : Scr} {s0 μ0 μ1 μ : Mem} (h0 : 1 ≤ s0 0 0) (hb : bnd 0 s0) (hT : TI s0 μ1 3 μ) (h35 : μ1 35 0 = 0) (hs : ∀ c k, 9 ≤ c ∧ c ≤ 14 → μ1 c k = μ0 c k) (hN0 : Nw 0 s0 μ0) (e8 : ∀ r : Nat, r < 6 → μ0 8 r = -1) (e14 : μ0 14 0 = 40) (f14 : ∀ r : Nat, r < 4 → μ0 14 r ≤ 60) (e10 : rdS (fun j => μ0 10 j) 40 = (-9, s0)) (e35 : ∀ k : Nat, k < 3 → μ0 35 k = -1) : Ok (fL_law_c2545 σ (s0 0 0) (dgS s0 μ0) μ) := by
  obtain ⟨m, s, hm, ⟨hN, hC, hr, hg, hbs, hn⟩, hv, h8, hst⟩ := hT
  have b0 := hb.1
  have k1 := C_keep (k := 1) hN (by omega) (by omega) (by omega)
  generalize hτ : wr (cpy μ 30 0 (32 + 1) 0 m) 35 1 (m : Int) = τ at k1
  have k1' : fX1_keep 1 μ = some ((m : Int), τ) := k1
  have f1 : ∀ c k, ¬ c = 33 → ¬ (c = 35 ∧ k = 1) → τ c k = μ c k := fun c k a b => by rw [← hτ, wr_ne b, cpy_ne (by omega)]
  have f33 : ∀ j, j < m → τ 33 j = μ 30 j := fun j hj => by
    rw [← hτ, wr_ne (by omega), cpy_at (by omega), show 0 + (j - 0) = j by omega]
  have f35 : τ 35 1 = (m : Int) := by rw [← hτ, wr_at (by omega)]
  have hNτ : Nw m s τ := ⟨by rw [f1 _ _ (by omega) (by omega)]; exact hN.1, CB_congr hN.2.1 (fun c k hc => f1 _ _ (by omega) (by omega)), hN.2.2⟩
  have hCτ : CB 15 τ s0 := CB_congr hC (fun c k hc => f1 _ _ (by omega) (by omega))
  have hg0 : ∀ d : Nat → Int, GB (rn s0 d 0) := fun d => hg 0 (by omega)
  obtain ⟨ν, a1, a2, a3, a4⟩ := C_on (k := 0) (m := 0) (d := fun k => μ 30 k) hNτ (by omega) (by omega) (by rw [f1 _ _ (by omega) (by omega), hst _ _ (by omega), h35]; rfl) hCτ (fun j hj => absurd hj (by omega)) (fun j hj => by rw [show j = 0 by omega]; exact hg0 _)
  have a1' : fX1_on 0 τ = some (0, ν) := a1
  have a2' : Nw 0 s0 ν := a2
  have g2 : ∀ c k, ¬ c = 0 → ¬ (20 ≤ c ∧ c ≤ 30) → ¬ (36 ≤ c ∧ c ≤ 59) → ν c k = τ c k := fun c k a b d => a4 _ _ a (by omega) (by omega) d
  obtain ⟨ν2, b1, b2, b3, b4⟩ := C_on (k := 1) (m := m) (d := fun k => μ 30 k) a2' (by omega) (by omega) (by rw [g2 _ _ (by omega) (by omega) (by omega)]; exact f35) (CB_congr hCτ (fun c k hc => g2 _ _ (by omega) (by omega) (by omega))) (fun j hj => by rw [g2 _ _ (by omega) (by omega) (by omega)]; exact f33 j hj) hg
  have b1' : fX1_on 1 ν = some ((m : Int), ν2) := b1
  have g3 : ∀ c k, ¬ c = 0 → ¬ (20 ≤ c ∧ c ≤ 30) → ¬ (36 ≤ c ∧ c ≤ 59) → ν2 c k = τ c k := fun c k a b d => by rw [b4 _ _ a (by omega) (by omega) d, g2 _ _ a b d]
  obtain ⟨ν3, c1, c2, c3⟩ := C_undo (m := 0) (d := fun k => μ 30 k) b2 (by omega) (by omega) (CB_congr hCτ (fun c k hc => g3 _ _ (by omega) (by omega) (by omega))) (fun j hj => absurd hj (by omega)) (fun j hj => by rw [show j = 0 by omega]; exact hg0 _)
  have c1' : fX1_undo 0 ν2 = some ((m : Int) - 0, ν3) := c1
  have c2' : Nw 0 s0 ν3 := c2
  have g4 : ∀ c k, ¬ c = 0 → ¬ (20 ≤ c ∧ c ≤ 30) → ¬ (36 ≤ c ∧ c ≤ 59) → ν3 c k = τ c k := fun c k a b d => by rw [c3 _ _ a (by omega) (by omega) d, g3 _ _ a b d]
  have gg := hN0.2.2
  have ha := ac_0 hb (s0 0 0).toNat (by omega)
  have hf := fuel_lt
  unfold fL_law_c2545 fL_law_c2609
  rw [C_cnt2 hN, bd_some, k1', bnd2_some, if_neg (fun w => w rfl), a1', bnd2_some, if_neg (fun w => w rfl), C_cnt1 a2', bd_some, if_neg (by omega), b1', bnd2_some, if_neg (fun w => w rfl), c1', bnd2_some, if_neg (by omega), C_cnt6 c2', bd_some, if_pos ha]
  exact E_tear (μ0 := μ0) (fun ρ r1 r2 => E_river h0 r1 r2 hN0 e8 e14 f14 e10 e35) 6 0 fuel ν3 (by omega) (by omega) (fun r hr => absurd hr (by omega)) (fun r hr => by rw [g4 _ _ (by omega) (by omega) (by omega), f1 _ _ (by omega) (by omega)]; exact (h8 r hr).1) (fun c k hc => by rw [g4 _ _ (by omega) (by omega) (by omega), f1 _ _ (by omega) (by omega), hst _ _ (by omega), hs _ _ hc])
theorem E_L66 {σ : Scr} {s0 μ1 : Mem} {D : Int} (h0 : 1 ≤ s0 0 0) (hE : ∀ μ, TI s0 μ1 3 μ → Ok (fL_law_c2545 σ (s0 0 0) D μ)) : ∀ (j t N : Nat) (μ : Mem), t + j = 3 → j < N → TI s0 μ1 t μ → Ok (fL_law_L66 σ (s0 0 0) D N (t : Int) μ) := by
  intro j
  induction j with
  | zero =>
    intro t N μ e1 e2 h
    obtain ⟨N, rfl⟩ : ∃ j, N = j + 1 := ⟨N - 1, by omega⟩
    obtain rfl : t = 3 := by omega
    rw [fL_law_L66, if_pos (by omega)]
    exact hE μ h
  | succ j ih =>
    intro t N μ e1 e2 h
    obtain ⟨N, rfl⟩ : ∃ j, N = j + 1 := ⟨N - 1, by omega⟩
    obtain ⟨m, s, hm, hH, hv, h8, hst⟩ := h
    have w1 : w32 (7 + (t : Int)) = 7 + (t : Int) := w32_i (by omega)
    have w2 : w32 (10 + (t : Int)) = 10 + (t : Int) := w32_i (by omega)
    obtain ⟨x56, hx1⟩ := L_cell (σ := σ) (μ := μ) (p := 7 + (t : Int)) (by omega)
    obtain ⟨x57, hx2⟩ := L_cell (σ := σ) (μ := μ) (p := 10 + (t : Int)) (by omega)
    obtain ⟨ν, m', s', a1, a2, a3, a4, a5⟩ := L_stir (x := x57) hH (by omega) h0 hv
    have a3' := a3
    obtain ⟨n1, n2, n3, n4, n5, n6⟩ := a3'
    have hB : BF s0 m' s' ν := ⟨⟨n2, n3, n4, n5, n6⟩, ⟨h0, by omega⟩, a4⟩
    have hS : Nx (fL_law_L66 σ (s0 0 0) D N) (t : Int) m' s' ν := by
      intro ρ r1 r2
      rw [w32_s (by omega)]
      refine ih (t + 1) N ρ (by omega) (by omega) ⟨m', s', by omega, ⟨r1, CB_congr n2 (fun c k hc => r2.1 c k (by unfold stc; omega)), ?_, fun k hk => ?_, n5, n6⟩, ?_, r2.2, fun c k hc => ?_⟩
      · rw [n3]
        exact rn_congr m' (fun k hk => (r2.1 30 k (by unfold stc; omega)).symm)
      · rw [rn_congr (d := fun k => ρ 30 k) (d' := fun k => ν 30 k) k (fun j hj => r2.1 30 j (by unfold stc; omega))]
        exact n4 k hk
      · obtain ⟨v1, v2, v3, v4⟩ := a4
        have e6 : ∀ k, ρ 60 k = ν 60 k := fun k => r2.1 60 k (by unfold stc; omega)
        have e7 : ∀ k, ρ 61 k = ν 61 k := fun k => r2.1 61 k (by unfold stc; omega)
        refine ⟨by rw [e6]; exact v1, by rw [e7]; exact v2, by rw [e7]; exact v3, fun i hi => ?_⟩
        rw [e6, e7, e7]
        exact v4 i hi
      · rw [r2.1 c k (by unfold stc; omega), a5 _ _ (by omega) (by omega) (by omega) (by omega)]
        exact hst c k hc
    have main := q_c104 (σ := σ) (x61 := D) (x63 := x56) hB hS n1 ⟨fun _ _ _ => rfl, fun r hr => by rw [a5 _ _ (by omega) (by omega) (by omega) (by omega)]; exact h8 r hr⟩
    rw [n6] at main
    rw [fL_law_L66, if_neg (by omega), w1, w2, hx1, bd_some, hx2, bd_some, a1, bnd2_some, if_pos (by omega)]
    exact main
/-- the law holds, whatever the script -/
theorem law_1 {σ : Scr} {μ : Mem} (h8 : ∀ r : Nat, r < 6 → μ 8 r = -1) (h14 : ∀ r : Nat, r < 4 → μ 14 r = -1) : Ok (fL_law σ μ) := by
  obtain ⟨μ0, s0, a1, a2, a3, a4, a5, a6, a7, a8, a9, a10⟩ := L_river (σ := σ) (μ := μ)
  have e8 : ∀ r : Nat, r < 6 → μ0 8 r = -1 := fun r hr => by rw [a10 _ _ (by omega) (by omega) (by omega) (by omega) (by omega)]; exact h8 r hr
  have f14 : ∀ r : Nat, r < 4 → μ0 14 r ≤ 60 := fun r hr => by
    by_cases e : r = 0
    · rw [e, a7]
      omega
    · rw [a10 _ _ (by omega) (by omega) (by omega) (by omega) (by omega), h14 r hr]
      omega
  have d := C_digest a4 (fun r hr => by rw [e8 r hr]; omega) f14
  have k := C_keep (k := 0) a4 (by omega) a2 (by omega)
  generalize hτ : wr (cpy μ0 30 0 (32 + 0) 0 0) 35 0 ((0 : Nat) : Int) = τ at k
  have k' : fX1_keep 0 μ0 = some (0, τ) := k
  have fτ : ∀ c k, ¬ (c = 35 ∧ k = 0) → τ c k = μ0 c k := fun c k a => by rw [← hτ, wr_ne a, cpy_ne (by omega)]
  have gg := a4.2.2
  have hf := fuel_lt
  unfold fL_law fL_law_c42 fL_law_c63
  rw [a1, bnd2_some, if_pos (by omega), mlet_e, d, bd_some, k', bnd2_some, if_pos rfl, a6.1]
  refine E_L66 (μ1 := τ) a2 (fun ν hν => E_c2545 (μ0 := μ0) (μ1 := τ) a2 a5 hν (by rw [← hτ, wr_at (by omega)]; rfl) (fun c k hc => fτ _ _ (by omega)) a4 e8 a7 f14 a8 a9) 3 0 fuel τ (by omega) (by omega) ⟨0, s0, by omega, ⟨⟨by rw [fτ _ _ (by omega)]; exact a4.1, CB_congr a4.2.1 (fun c k hc => fτ _ _ (by omega)), a4.2.2⟩, CB_congr a3 (fun c k hc => fτ _ _ (by omega)), rfl, fun k hk => by rw [show k = 0 by omega]; exact gg, a5, rfl⟩, ?_, fun r hr => by rw [fτ _ _ (by omega), e8 r hr]; omega, fun _ _ _ => rfl⟩
  obtain ⟨v1, v2, v3, v4⟩ := a6
  refine ⟨by rw [fτ _ _ (by omega)]; exact v1, by rw [fτ _ _ (by omega)]; exact v2, by rw [fτ _ _ (by omega)]; exact v3, fun i hi => ?_⟩
  rw [fτ _ _ (by omega), fτ _ _ (by omega), fτ _ _ (by omega)]
  exact v4 i hi
