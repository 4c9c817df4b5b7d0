/-! look, its end -/
def mxR (f : Nat → Int) : Nat → Int
  | 0 => 0
  | k + 1 => mmax (mxR f k) (f k)
theorem mx_0 (f : Nat → Int) : ∀ n, 0 ≤ mxR f n
  | 0 => by unfold mxR; omega
  | n + 1 => by
    have := mx_0 f n
    unfold mxR mmax
    split <;> omega
theorem mx_le (f : Nat → Int) : ∀ n k, k < n → f k ≤ mxR f n
  | 0, k, h => absurd h (by omega)
  | n + 1, k, h => by
    unfold mxR mmax
    by_cases e : k = n
    · subst e
      split <;> omega
    · have := mx_le f n k (by omega)
      split <;> omega
theorem mx_ex (f : Nat → Int) : ∀ n, mxR f n = 0 ∨ ∃ k, k < n ∧ mxR f n = f k
  | 0 => Or.inl rfl
  | n + 1 => by
    unfold mxR mmax
    split
    · exact Or.inr ⟨n, by omega, rfl⟩
    · rcases mx_ex f n with h | ⟨k, h1, h2⟩
      · exact Or.inl h
      · exact Or.inr ⟨k, by omega, h2⟩
theorem mx_sub {f g : Nat → Int} {n : Nat} (h : ∀ k, k < n → ∃ j, j < n ∧ g j = f k) : mxR f n ≤ mxR g n := by
  rcases mx_ex f n with e | ⟨k, h1, h2⟩
  · rw [e]
    exact mx_0 g n
  · obtain ⟨j, h3, h4⟩ := h k h1
    rw [h2, ← h4]
    exact mx_le g n j h3
def mS (s : Mem) (i : Nat) (bits : Int) (n : Nat) : Int := mxR (fun k => cntS s i bits n k 21) 7
theorem mS_rng (s : Mem) (i : Nat) (bits : Int) (n : Nat) : 0 ≤ mS s i bits n ∧ mS s i bits n ≤ 21 := by
  refine ⟨mx_0 _ _, ?_⟩
  unfold mS
  rcases mx_ex (fun k => cntS s i bits n k 21) 7 with e | ⟨k, h1, h2⟩
  · omega
  · rw [h2]
    exact (cntS_rng s i bits n k 21).2
theorem e_gp {s : Mem} {i n : Nat} {bits : Int} {μ : Mem} (hn : n < 20) (hP : PCl s i bits 21 0 μ) : fX1_greatestPart (n : Int) μ = some (mS s i bits n) := by
  have hL : ∀ (m k N : Nat), k + m = 7 → m < N → fX1_greatestPart_L16 μ (40 + n) N (mxR (fun k => cntS s i bits n k 21) k) (k : Int) = some (mS s i bits n) := by
    intro m
    induction m with
    | zero =>
      intro k N h1 h2
      obtain ⟨N, rfl⟩ : ∃ j, N = j + 1 := ⟨N - 1, by omega⟩
      obtain rfl : k = 7 := by omega
      rw [fX1_greatestPart_L16, if_pos (by omega)]
      rfl
    | succ m ih =>
      intro k N h1 h2
      obtain ⟨N, rfl⟩ : ∃ j, N = j + 1 := ⟨N - 1, by omega⟩
      have e1 := hP n hn k (by omega)
      rw [if_neg (by omega)] at e1
      rw [fX1_greatestPart_L16]
      simp (disch := omega) only [grd, if_pos, if_neg, mlet_e, w32_s, tn_c, e1]
      exact ih (k + 1) N (by omega) (by omega)
  unfold fX1_greatestPart
  have hf := fuel_lt
  generalize fuel = N at hf ⊢
  simp (disch := omega) only [grd, if_pos, mlet_e, tn_c]
  exact hL 7 0 N (by omega) (by omega)
theorem tn_7 {n k : Nat} : (7 * (n : Int) + (k : Int)).toNat = 7 * n + k := by omega
theorem e_gp2 {s : Mem} {i n : Nat} {bits : Int} {μ : Mem} (hn : n < 20) (hP : PMl s i bits 21 0 μ) : fX2_greatestPart ((n + 1 : Nat) : Int) μ = some (mS s i bits n) := by
  have hL : ∀ (m k N : Nat), k + m = 7 → m < N → fX2_greatestPart_L7 ((n + 1 : Nat) : Int) μ N (mxR (fun k => μ 71 (7 * (n + 1) + k)) k) ((7 * (n + 1) + k : Nat) : Int) = some (mxR (fun k => μ 71 (7 * (n + 1) + k)) 7) := by
    intro m
    induction m with
    | zero =>
      intro k N h1 h2
      obtain ⟨N, rfl⟩ : ∃ j, N = j + 1 := ⟨N - 1, by omega⟩
      obtain rfl : k = 7 := by omega
      rw [fX2_greatestPart_L7, w32_i (z := 7 * ((n + 1 : Nat) : Int)) (by omega), w32_i (by omega), if_pos (by omega)]
    | succ m ih =>
      intro k N h1 h2
      obtain ⟨N, rfl⟩ : ∃ j, N = j + 1 := ⟨N - 1, by omega⟩
      have ih' := ih (k + 1) N (by omega) (by omega)
      rw [mxR, mmax] at ih'
      rw [fX2_greatestPart_L7, w32_i (z := 7 * ((n + 1 : Nat) : Int)) (by omega), w32_i (z := 7 * ((n + 1 : Nat) : Int) + 7) (by omega), if_neg (by omega)]
      simp (disch := omega) only [grd, if_pos, mlet_e, tn_c, w32_s]
      by_cases z : μ 71 (7 * (n + 1) + k) ≤ mxR (fun k => μ 71 (7 * (n + 1) + k)) k
      · rw [if_pos z]
        rw [if_neg (by omega)] at ih'
        exact ih'
      · rw [if_neg z]
        rw [if_pos (by omega)] at ih'
        exact ih'
  have e : mxR (fun k => μ 71 (7 * (n + 1) + k)) 7 = mS s i bits n := by
    have hx : ∀ k, k < 7 → μ 71 (ix n k) = cntS s i bits n k 21 := fun k hk => by
      have := hP n hn k hk
      rw [if_neg (by omega)] at this
      exact this
    unfold mS
    refine Int.le_antisymm (mx_sub (fun k hk => ?_)) (mx_sub (fun k hk => ?_))
    · by_cases z : k = 0
      · refine ⟨6, by omega, ?_⟩
        rw [← hx 6 (by omega), z]
        rfl
      · refine ⟨k - 1, by omega, ?_⟩
        rw [← hx (k - 1) (by omega)]
        unfold ix
        rw [if_neg (by omega), show k - 1 + 1 = k by omega]
    · by_cases z : k = 6
      · refine ⟨0, by omega, ?_⟩
        rw [← hx k hk, z]
        rfl
      · refine ⟨k + 1, by omega, ?_⟩
        rw [← hx k hk]
        unfold ix
        rw [if_neg z]
  unfold fX2_greatestPart
  have hf := fuel_lt
  generalize fuel = N at hf ⊢
  rw [mlet_e, w32_i (by omega)]
  have e9 := hL 7 0 N (by omega) (by omega)
  rw [e] at e9
  have e8 : ((7 * (n + 1) + 0 : Nat) : Int) = 7 * ((n + 1 : Nat) : Int) := by omega
  rw [e8] at e9
  exact e9
def bst (M : Nat → Int) : Nat → Nat
  | 0 => 0
  | k + 1 => if M (k + 1) < M (bst M k) then k + 1 else bst M k
theorem bst_le (M : Nat → Int) : ∀ k, bst M k ≤ k
  | 0 => Nat.le_refl 0
  | k + 1 => by
    have := bst_le M k
    unfold bst
    split <;> omega
theorem e_look_L {s : Mem} {i : Nat} {bits : Int} {μ : Mem} {K : Int → Option (Int × Mem)} (hP : PCl s i bits 21 0 μ) : ∀ (m k N : Nat), k + m = 19 → m < N → fX1_look_L42 K μ N ((bst (mS s i bits) k : Nat) : Int) ((k + 1 : Nat) : Int) = K ((bst (mS s i bits) 19 : Nat) : Int) := by
  intro m
  induction m with
  | zero =>
    intro k N h1 h2
    obtain ⟨N, rfl⟩ : ∃ j, N = j + 1 := ⟨N - 1, by omega⟩
    obtain rfl : k = 19 := by omega
    rw [fX1_look_L42, if_pos (by omega)]
  | succ m ih =>
    intro k N h1 h2
    obtain ⟨N, rfl⟩ : ∃ j, N = j + 1 := ⟨N - 1, by omega⟩
    have hb := bst_le (mS s i bits) k
    have ih' := ih (k + 1) N (by omega) (by omega)
    rw [bst] at ih'
    rw [fX1_look_L42, if_neg (by omega), e_gp (by omega) hP, e_gp (by omega) hP]
    simp (disch := omega) only [mlet_e, w32_s, bd_some]
    by_cases z : mS s i bits (k + 1) < mS s i bits (bst (mS s i bits) k)
    · rw [if_neg (by omega)]
      rw [if_pos z] at ih'
      exact ih'
    · rw [if_pos (by omega)]
      rw [if_neg z] at ih'
      exact ih'
theorem e_look2_L {s : Mem} {i : Nat} {bits : Int} {μ : Mem} {K : Int → Int → Option (Int × Mem)} (hP : PMl s i bits 21 0 μ) : ∀ (m k N : Nat), k + m = 19 → m < N → fX2_look_L63 K μ N ((bst (mS s i bits) k + 1 : Nat) : Int) (mS s i bits (bst (mS s i bits) k)) ((k + 2 : Nat) : Int) = K ((bst (mS s i bits) 19 + 1 : Nat) : Int) (mS s i bits (bst (mS s i bits) 19)) := by
  intro m
  induction m with
  | zero =>
    intro k N h1 h2
    obtain ⟨N, rfl⟩ : ∃ j, N = j + 1 := ⟨N - 1, by omega⟩
    obtain rfl : k = 19 := by omega
    rw [fX2_look_L63, if_pos (by omega)]
  | succ m ih =>
    intro k N h1 h2
    obtain ⟨N, rfl⟩ : ∃ j, N = j + 1 := ⟨N - 1, by omega⟩
    have hb := bst_le (mS s i bits) k
    have ih' := ih (k + 1) N (by omega) (by omega)
    rw [bst] at ih'
    rw [fX2_look_L63, if_neg (by omega), show ((k + 2 : Nat) : Int) = ((k + 1 + 1 : Nat) : Int) from rfl, e_gp2 (n := k + 1) (by omega) hP]
    simp (disch := omega) only [mlet_e, w32_s, bd_some]
    by_cases z : mS s i bits (k + 1) < mS s i bits (bst (mS s i bits) k)
    · rw [if_neg (by omega), if_neg (by omega)]
      rw [if_pos z] at ih'
      exact ih'
    · rw [if_pos (by omega), if_pos (by omega)]
      rw [if_neg z] at ih'
      exact ih'
theorem P_look {i r : Int} {μ : Mem} (h : Inv μ) : Same (fX1_look i r μ) (fX2_look i r) := by
  obtain ⟨s, hR, hC, hM, hg, h0, h40, h61⟩ := Inv_now h
  have g0 := hg.1
  have g6 := hg.2.1
  have c4 := hC.1
  have m4 := hM.1
  by_cases a : 0 ≤ i ∧ i < s 0 0
  · by_cases b : 0 ≤ r ∧ r ≤ 5
    · obtain ⟨i, rfl⟩ : ∃ j : Nat, i = j := ⟨i.toNat, by omega⟩
      obtain ⟨r, rfl⟩ : ∃ j : Nat, r = j := ⟨r.toNat, by omega⟩
      rcases P_holders (i := i) (r := r) h (by omega) (by omega) with ⟨e1, e2, n, hn, hn1, hn2⟩ | ⟨f, hf, e1, e2⟩
      · obtain ⟨k1, k2, k3, k4⟩ := h.1 r (by omega)
        obtain ⟨⟨v, μ1⟩, b1, b2, b3⟩ := e_darBy (s := s) (μ := μ) (i := i) (r := r) (n := n) (ρ := fun j => μ (2 + r) j) (by omega) (by omega) hg a.2 hC hn (fun _ _ => rfl)
        dsimp only at b2 b3
        by_cases z : v = 0
        · have hM1 : MB 0 μ1 s := MB_congr hM g6 (fun c k hk => b3 _ _ (by omega))
          have m5 := hM1.1
          obtain ⟨⟨v2, μ2⟩, d1, d2, d3⟩ := e_darBy2 (s := s) (μ := μ1) (i := i) (r := r) (n := n) (ρ := fun j => μ (2 + r) j) (by omega) (by omega) hg a.2 hM1 (by rw [b3 _ _ (by omega)]; omega) (fun j hj => by rw [b3 _ _ (by omega)]; exact k4 j (by omega))
          dsimp only at d2 d3
          rw [← b2] at d2
          subst d2
          have e3 : fX2_noRow (r : Int) μ1 = some (0, μ1) := e2 μ1 (fun c k hk => b3 _ _ (by omega))
          refine same_of (v := -9) (μ1 := μ1) (μ2 := μ2) ?_ ?_ (Inv_free h (fun c k hf => by unfold fre at hf; rw [d3 _ _ (by omega), b3 _ _ (by omega)]))
          · unfold fX1_look
            have hf := fuel_lt
            generalize fuel = N at hf ⊢
            simp (disch := omega) only [e1, bnd2_some, if_pos, if_neg, b1, ite_true]
          · unfold fX2_look
            have hf := fuel_lt
            generalize fuel = N at hf ⊢
            simp (disch := omega) only [e_isOne, e_isRow2, bd_some, b01_t, if_neg, if_pos, e3, bnd2_some, d1, ite_true]
        · obtain ⟨μp, p1, p2, p3⟩ := e_countParts (s := s) (i := i) (bits := v) hg a.2 (CB_congr hC (fun c k hk => b3 _ _ (by omega)))
          have hb := bst_le (mS s i v) 19
          generalize hB : bst (mS s i v) 19 = B at hb
          have f1 : ∀ c k, ¬ (25 ≤ c ∧ c ≤ 29) → ¬ (40 ≤ c ∧ c ≤ 59) → μp c k = μ c k := fun c k c1 c2 => by rw [p3 _ _ c1 c2, b3 _ _ (by omega)]
          have E1 : fX1_look (i : Int) (r : Int) μ = some (((B + 1 : Nat) : Int), wr μp 0 11 (mS s i v B)) := by
            unfold fX1_look
            have hf := fuel_lt
            generalize fuel = N at hf ⊢
            simp (disch := omega) only [e1, bnd2_some, if_pos, if_neg, b1, ite_true, p1, bd_some, mlet_e]
            refine (e_look_L (s := s) (i := i) (bits := v) p2 19 0 N (by omega) (by omega)).trans ?_
            rw [hB, e_gp (by omega) p2, bd_some, e_tell, bnd2_some, w32_s (by omega)]
          refine ⟨_, E1, ?_⟩
          dsimp only
          generalize hμ1 : wr μp 0 11 (mS s i v B) = ν1
          have f2 : ∀ c k, ¬ (25 ≤ c ∧ c ≤ 29) → ¬ (40 ≤ c ∧ c ≤ 59) → ¬ (c = 0 ∧ k = 11) → ν1 c k = μ c k := fun c k c1 c2 c3 => by
            rw [← hμ1, wr_ne c3, f1 _ _ c1 c2]
          have e11 : ν1 0 11 = mS s i v B := by rw [← hμ1, wr_at (by omega)]
          have hM1 : MB 0 ν1 s := MB_congr hM g6 (fun c k hk => f2 _ _ (by omega) (by omega) (by omega))
          have m5 := hM1.1
          obtain ⟨⟨v2, μ2⟩, d1, d2, d3⟩ := e_darBy2 (s := s) (μ := ν1) (i := i) (r := r) (n := n) (ρ := fun j => μ (2 + r) j) (by omega) (by omega) hg a.2 hM1 (by rw [f2 _ _ (by omega) (by omega) (by omega)]; omega) (fun j hj => by rw [f2 _ _ (by omega) (by omega) (by omega)]; exact k4 j (by omega))
          dsimp only at d2 d3
          rw [← b2] at d2
          subst d2
          have e3 : fX2_noRow (r : Int) ν1 = some (0, ν1) := e2 ν1 (fun c k hk => f2 _ _ (by omega) (by omega) (by omega))
          obtain ⟨μq, q1, q2, q3⟩ := e_layParts (s := s) (i := i) (bits := v2) hg a.2 (MB_congr hM1 g6 (fun c k hk => d3 _ _ (by omega)))
          have f3 : ∀ c k, ¬ (c = 61 ∧ 3284 ≤ k) → ¬ c = 71 → μq c k = ν1 c k := fun c k c1 c2 => by rw [q3 _ _ c1 c2, d3 _ _ c1]
          have E2 : fX2_look (i : Int) (r : Int) ν1 = some (((B + 1 : Nat) : Int), wr μq 60 7 (mS s i v2 B)) := by
            unfold fX2_look
            have hf := fuel_lt
            generalize fuel = N at hf ⊢
            simp (disch := omega) only [e_isOne, e_isRow2, bd_some, b01_t, if_neg, if_pos, e3, bnd2_some, d1, ite_true, q1, mlet_e]
            obtain ⟨N, rfl⟩ : ∃ j, N = j + 1 := ⟨N - 1, by omega⟩
            have r0 := mS_rng s i v2 0
            rw [fX2_look_L63, if_neg (by omega), show (1 : Int) = ((0 + 1 : Nat) : Int) from rfl, e_gp2 (n := 0) (by omega) q2]
            simp (disch := omega) only [mlet_e, bd_some, if_neg]
            have e9 := e_look2_L (s := s) (i := i) (bits := v2) (K := fun x8 x9 => some (x8, wr μq 60 7 x9)) q2 19 0 N (by omega) (by omega)
            rw [hB] at e9
            exact e9
          refine ⟨_, E2, rfl, ?_⟩
          dsimp only
          have hI := Inv_free (μ2 := fun c k => if c = 0 ∧ k = 11 then μ 0 11 else if c = 60 ∧ k = 7 then μ 60 7 else μq c k) h (fun c k hf => by
            unfold fre at hf
            by_cases z1 : c = 0 ∧ k = 11
            · rw [if_pos z1, z1.1, z1.2]
            · rw [if_neg z1]
              by_cases z2 : c = 60 ∧ k = 7
              · rw [if_pos z2, z2.1, z2.2]
              · rw [if_neg z2, f3 _ _ (by omega) (by omega), f2 _ _ (by omega) (by omega) z1])
          have hI2 := Inv_tell hI (v := mS s i v2 B)
          have : wr (wr (fun c k => if c = 0 ∧ k = 11 then μ 0 11 else if c = 60 ∧ k = 7 then μ 60 7 else μq c k) 0 11 (mS s i v2 B)) 60 7 (mS s i v2 B) = wr μq 60 7 (mS s i v2 B) := by
            funext c k
            by_cases z2 : c = 60 ∧ k = 7
            · rw [wr_at z2, wr_at z2]
            · rw [wr_ne z2, wr_ne z2]
              by_cases z1 : c = 0 ∧ k = 11
              · rw [wr_at z1, z1.1, z1.2, f3 _ _ (by omega) (by omega), e11]
              · rw [wr_ne z1, if_neg z1, if_neg z2]
          rw [this] at hI2
          exact hI2
      · refine same_of (v := -3) (μ1 := fndM μ f) (μ2 := fndM2 (fndM μ f) f) ?_ ?_ (Inv_find h hf)
        · unfold fX1_look
          have hf := fuel_lt
          generalize fuel = N at hf ⊢
          simp (disch := omega) only [e1, bnd2_some, if_neg]
        · have m5 : fndM μ f 60 1 = μ 60 1 := fndM_ne (by omega)
          unfold fX2_look
          have hf := fuel_lt
          generalize fuel = N at hf ⊢
          simp (disch := omega) only [e_isOne, e_isRow2, bd_some, b01_t, if_neg, if_pos, e2, bnd2_some]
    · refine same_of (v := -1) (μ1 := μ) (μ2 := μ) ?_ ?_ h
      · unfold fX1_look fX1_refusalOfHolders
        have hf := fuel_lt
        generalize fuel = N at hf ⊢
        simp (disch := omega) only [e_has, e_isRow, bnd2_some, bd_some, b01_t, b01_f, if_pos, if_neg, mlet_e, grd, ite_true, ite_false, not_true_eq_false, not_false_eq_true, ite_self, tn_c, w32_i]
      · unfold fX2_look
        have hf := fuel_lt
        generalize fuel = N at hf ⊢
        simp (disch := omega) only [e_isOne, e_isRow2, bnd2_some, bd_some, b01_t, b01_f, if_pos, if_neg, mlet_e, grd, ite_true, ite_false, not_true_eq_false, not_false_eq_true, ite_self, tn_c, w32_i]
  · refine same_of (v := -1) (μ1 := μ) (μ2 := μ) ?_ ?_ h
    · unfold fX1_look fX1_refusalOfHolders
      have hf := fuel_lt
      generalize fuel = N at hf ⊢
      simp (disch := omega) only [e_has, e_isRow, bnd2_some, bd_some, b01_t, b01_f, if_pos, if_neg, mlet_e, grd, ite_true, ite_false, not_true_eq_false, not_false_eq_true, ite_self, tn_c, w32_i]
    · unfold fX2_look
      have hf := fuel_lt
      generalize fuel = N at hf ⊢
      simp (disch := omega) only [e_isOne, e_isRow2, bnd2_some, bd_some, b01_t, b01_f, if_pos, if_neg, mlet_e, grd, ite_true, ite_false, not_true_eq_false, not_false_eq_true, ite_self, tn_c, w32_i]
