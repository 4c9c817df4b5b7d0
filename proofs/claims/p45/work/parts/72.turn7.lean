/-! A TURN: what people tell, who has it next, the night -/
theorem ac_rng {s : Mem} {m : Nat} (h : bnd m s) (hm : m ≤ 100) : ∀ k : Nat, (k : Int) ≤ s 0 0 → k ≤ 6 → 0 ≤ acR s k ∧ acR s k ≤ 100 * k
  | 0, _, _ => by
    unfold acR
    omega
  | k + 1, hk, h6 => by
    have ih := ac_rng h hm k (by omega) (by omega)
    have h1 := h.2 k (by omega)
    rw [acR, w32_i (by omega)]
    omega
theorem ac_night {s : Mem} {m : Nat} (h : bnd m s) (hm : m ≤ 90) : ∀ k : Nat, (k : Int) ≤ s 0 0 → k ≤ 6 → acR (nightS s) k = acR s k + (if 0 ≤ hold s 0 ∧ hold s 0 < (k : Int) then 1 else 0)
  | 0, _, _ => by
    rw [if_neg (by omega)]
    rfl
  | k + 1, hk, h6 => by
    have ih := ac_night h hm k (by omega) (by omega)
    have h1 := h.2 k (by omega)
    have h2 := ac_rng h (by omega) k (by omega) (by omega)
    rw [acR, acR, ih, night_4, w32_i (z := acR s k + s 4 k) (by omega)]
    by_cases q : (k : Int) = hold s 0
    · rw [if_pos q, w32_i (z := s 4 k + 1) (by omega), if_neg (by omega), if_pos (by omega), w32_i (by omega)]
      omega
    · rw [if_neg q]
      by_cases q2 : 0 ≤ hold s 0 ∧ hold s 0 < (k : Int)
      · rw [if_pos q2, if_pos (by omega), w32_i (by omega)]
        omega
      · rw [if_neg q2, if_neg (by omega), w32_i (by omega)]
        omega
theorem T_told {n i : Nat} {w : Int} {s μ : Mem} (h : Nw n s μ) (hi : (i : Int) < s 0 0) (hw : 0 ≤ w ∧ w ≤ 5) : ∃ ν, fL_told (i : Int) w μ = some (tolS s i w, ν) ∧ Fq μ ν := ⟨_, C_told h hi hw, Fq_11 (by omega)⟩
section TURN
variable {σ : Scr} {self66 : Int → Mem → Option (Int × Mem)} {s0 s β μ : Mem} {m : Nat} {x61 x62 x63 : Int}
theorem q_c699 (hB : BF s0 m s β) (hS : Nx self66 x62 m s β) (hN : Nw (m + 1) (nightS s) μ) (hT : St m β μ) (hD : LD s μ) :
    Ok (fL_law_c699 σ self66 (s 0 0) x61 x62 x63 (m : Int) (s 0 2) (s 0 1) (alS s) (cr s) (hold s 0) μ) := by
  have m12 : m ≤ 12 := hB.2.1.2
  obtain ⟨ν, a1, a2, a3, a4⟩ := B_undo hB hN (by omega) (by omega) hT
  unfold fL_law_c699
  rw [a1, bnd2_some, if_neg (by omega), C_cnt3 a2, bd_some, if_neg (fun w => w rfl), C_cnt5 a2, bd_some, if_pos rfl]
  exact q_c731 hB hS a2 a3 (LD_d hD a4)
theorem q_L609 (hB : BF s0 m s β) (hS : Nx self66 x62 m s β) : ∀ (j k N : Nat) (μ : Mem), k + j = nS s → j < N → Nw (m + 1) (nightS s) μ → St m β μ → LD s μ →
    Ok (fL_law_L609 (s 0 0) σ self66 x61 x62 x63 (m : Int) (s 0 2) (s 0 1) (alS s) (cr s) (hold s 0) N (k : Int) μ) := by
  obtain ⟨hg, g1, g6⟩ := BF_g hB
  have m12 : m ≤ 12 := hB.2.1.2
  have hn : (nS s : Int) = s 0 0 := by unfold nS; omega
  intro j
  induction j with
  | zero =>
    intro k N μ e1 e2 hN hT hD
    obtain ⟨N, rfl⟩ : ∃ j, N = j + 1 := ⟨N - 1, by omega⟩
    rw [fL_law_L609, if_pos (by omega)]
    exact q_c699 hB hS hN hT hD
  | succ j ih =>
    intro k N μ e1 e2 hN hT hD
    obtain ⟨N, rfl⟩ : ∃ j, N = j + 1 := ⟨N - 1, by omega⟩
    have hk : (k : Int) < s 0 0 := by omega
    have hk' : (k : Int) < nightS s 0 0 := by rw [night_0]; exact hk
    have hk3 := (tol_rng hg hk).2.2
    have next : ∀ ν, Fq μ ν → Ok (fL_law_L609 (s 0 0) σ self66 x61 x62 x63 (m : Int) (s 0 2) (s 0 1) (alS s) (cr s) (hold s 0) N (w32 ((k : Int) + 1)) ν) := fun ν hq => by
      rw [w32_s (by omega)]
      exact ih (k + 1) N ν (by omega) (by omega) (Nw_q hN hq) (St_q hT hq) (LD_q hD hq)
    clear ih
    obtain ⟨ν, a1, a2⟩ := T_told (w := 2) hN hk' (by omega)
    have ev : tolS (nightS s) k 2 = nightS s 3 k := rfl
    rw [ev] at a1
    have n3 := night_3 s k
    have hfd := fad_rng (s 1 k)
    have hv : 0 ≤ nightS s 3 k ∧ nightS s 3 k ≤ s 3 k ∧ s 3 k - 2 ≤ nightS s 3 k := by
      rw [n3]
      unfold mmax
      split <;> split <;> omega
    have hv2 : ¬ (k : Int) = hold s 0 → (s 1 k = 3 ∨ s 1 k = 4) → nightS s 3 k = s 3 k := fun w1 w2 => by
      rw [n3, if_neg w1]
      unfold fad mmax
      rw [if_pos w2]
      split <;> omega
    clear n3 hfd
    generalize nightS s 3 k = v at *
    have e62 : ν 62 k = s 3 k := LD_q hD a2 k hk
    have hr : 0 ≤ (k : Int) ∧ (k : Int) < 6 := by omega
    obtain ⟨ν2, b1, b2⟩ := T_told (w := 0) (Nw_q hN a2) hk' (by omega)
    obtain ⟨ν3, c1, c2⟩ := T_told (w := 0) (Nw_q (Nw_q hN a2) b2) hk' (by omega)
    have ek : tolS (nightS s) k 0 = s 1 k := night_k s k
    rw [ek] at b1 c1
    have f62 : ν2 62 k = s 3 k := LD_q (LD_q hD a2) b2 k hk
    have h62 : ν3 62 k = s 3 k := LD_q (LD_q (LD_q hD a2) b2) c2 k hk
    rw [fL_law_L609, if_neg (by omega), a1, bnd2_some]
    simp only [mlet_e, grd, if_pos hr, tn_c, e62]
    rw [if_neg (by omega), w32_i (z := s 3 k - 2) (by omega), if_neg (by omega), if_neg (by omega)]
    by_cases q : (k : Int) = hold s 0
    · rw [if_pos q]
      exact next ν a2
    · rw [if_neg q, b1, bnd2_some, f62, c1, bnd2_some, h62]
      by_cases q3 : s 1 k = 3
      · rw [if_pos q3, if_pos (hv2 q (Or.inl q3))]
        exact next ν2 (Fq_t a2 b2)
      · rw [if_neg q3]
        by_cases q4 : s 1 k = 4
        · rw [if_neg (fun w => w q4), if_pos (hv2 q (Or.inr q4))]
          exact next ν3 (Fq_t (Fq_t a2 b2) c2)
        · rw [if_pos q4]
          exact next ν3 (Fq_t (Fq_t a2 b2) c2)
theorem q_c606 (hB : BF s0 m s β) (hS : Nx self66 x62 m s β) (hN : Nw (m + 1) (nightS s) μ) (hT : St m β μ) (hD : LD s μ) :
    Ok (fL_law_c606 σ self66 (s 0 0) x61 x62 x63 (m : Int) (s 0 2) (s 0 1) (alS s) (cr s) (hold s 0) μ) := by
  obtain ⟨hg, g1, g6⟩ := BF_g hB
  have hf := fuel_lt
  unfold fL_law_c606
  exact q_L609 hB hS (nS s) 0 fuel μ (by omega) (by unfold nS; omega) hN hT hD
theorem q_c497 (hB : BF s0 m s β) (hS : Nx self66 x62 m s β) (hN : Nw m s μ) (hT : St m β μ) (hD : LD s μ) :
    Ok (fL_law_c497 σ self66 (s 0 0) x61 x62 x63 (m : Int) (s 0 2) (s 0 1) (alS s) (cr s) (hold s 0) μ) := by
  obtain ⟨hg, g1, g6⟩ := BF_g hB
  have m12 : m ≤ 12 := hB.2.1.2
  have hb : bnd m s := hB.1.2.2.2.1
  have hac := ac_night hb (by omega) (s 0 0).toNat (by omega) (by omega)
  have har := ac_rng hb (by omega) (s 0 0).toNat (by omega) (by omega)
  have ecr : acR (nightS s) (nightS s 0 0).toNat = cr s + (if 0 ≤ hold s 0 then 1 else 0) := by
    rw [night_0, hac]
    rcases hold_rng (p := 0) hg with h | ⟨w, h, h2⟩
    · rw [if_neg (by omega), if_neg (by omega)]
    · rw [if_pos (by omega), if_pos (by omega)]
  have hcr : 0 ≤ cr s ∧ cr s ≤ 100 * ((s 0 0).toNat : Int) := har
  clear hac har
  have main : ∀ (x : Int) (ν : Mem), x = nightS s 0 1 → Fq μ ν → Ok (bnd2 (fX1_night ν) fun x128 μ129 =>
    if ¬ x128 = hold s 0 then some (0, μ129)
    else
      (fX1_count 3 μ129).bind fun x130 =>
      if ¬ x130 = x then some (0, μ129)
      else
        (fX1_count 1 μ129).bind fun x131 =>
        if ¬ x131 = (w32 (s 0 2 + 1)) then some (0, μ129)
        else
          (fX1_count 6 μ129).bind fun x132 =>
          mlet (fun (x133 : Int) =>
            if ¬ x132 = (w32 (cr s + x133)) then some (0, μ129)
            else
              if hold s 0 < 0 then
                fL_law_c606 σ self66 (s 0 0) x61 x62 x63 (m : Int) (s 0 2) (s 0 1) (alS s) (cr s) (hold s 0) μ129
              else
                bnd2 (fL_told (hold s 0) 2 μ129) fun x876 μ877 =>
                grd (0 ≤ hold s 0 ∧ hold s 0 < 6) <|
                mlet (fun (x878 : Int) =>
                  if x876 = x878 then
                    fL_law_c606 σ self66 (s 0 0) x61 x62 x63 (m : Int) (s 0 2) (s 0 1) (alS s) (cr s) (hold s 0) μ877
                  else some (0, μ877)
                  ) fun (K879 : Int → Option (Int × Mem)) =>
                if 2 ≤ (μ877 62 (hold s 0).toNat) then
                  grd (0 ≤ hold s 0 ∧ hold s 0 < 6) <|
                  K879 (w32 ((μ877 62 (hold s 0).toNat) - 2))
                else
                  K879 0
            ) fun (K134 : Int → Option (Int × Mem)) =>
          if 0 ≤ hold s 0 then K134 1 else K134 0) := by
    intro x ν hx hq
    obtain ⟨ν2, a1, a2, a3, a4⟩ := C_night (Nw_q hN hq) (by omega) g1
    have hT2 := St_d (St_q hT hq) (by omega) a4
    have hD2 := LD_d (LD_q hD hq) a4
    have n2 : nightS s 0 2 = w32 (s 0 2 + 1) := night_2 s
    rw [a1, bnd2_some, if_neg (fun w => w rfl), C_cnt3 a2, bd_some, hx, if_neg (fun w => w rfl), C_cnt1 a2, bd_some, n2, if_neg (fun w => w rfl), C_cnt6 a2, bd_some]
    clear n2
    simp only [mlet_e]
    rcases hold_rng (p := 0) hg with h | ⟨w, h, h2⟩
    · rw [if_neg (show ¬ 0 ≤ hold s 0 by omega)] at ecr
      rw [if_neg (by omega), ecr, w32_i (by omega), if_neg (fun w => w rfl), if_pos (by omega)]
      exact q_c606 hB hS a2 hT2 hD2
    · obtain ⟨ν3, b1, b2⟩ := T_told (w := 2) a2 (i := w) (by rw [night_0]; exact h2) (by omega)
      have n3 : tolS (nightS s) w 2 = mmax 0 (s 3 w - 2) := by
        show nightS s 3 w = _
        rw [night_3, if_pos h.symm]
      rw [n3, ← h] at b1
      have e62 : ν3 62 w = s 3 w := LD_q hD2 b2 w h2
      have hr : 0 ≤ hold s 0 ∧ hold s 0 < 6 := by omega
      have ew : (hold s 0).toNat = w := by omega
      have hw3 := (tol_rng hg h2).2.2
      have last := q_c606 (σ := σ) (x61 := x61) (x63 := x63) hB hS (Nw_q a2 b2) (St_q hT2 b2) (LD_q hD2 b2)
      rw [if_pos (show 0 ≤ hold s 0 by omega)] at ecr
      rw [if_pos (by omega), ecr, w32_i (by omega), if_neg (fun w => w rfl), if_neg (by omega), b1, bnd2_some]
      simp only [grd, if_pos hr, ew, e62]
      unfold mmax
      by_cases q : 2 ≤ s 3 w
      · rw [if_pos q, w32_i (by omega)]
        by_cases q2 : (0 : Int) < s 3 w - 2
        · rw [if_pos (by split <;> omega)]
          exact last
        · rw [if_pos (by split <;> omega)]
          exact last
      · rw [if_neg q, if_pos (by split <;> omega)]
        exact last
  have n1 := night_1 s
  unfold fL_law_c497
  rw [mlet_e]
  rcases hold_rng (p := 0) hg with h | ⟨w, h, h2⟩
  · rw [if_neg (by omega)]
    rw [if_pos h] at n1
    exact main (s 0 1) μ n1.symm (Fq_r μ)
  · obtain ⟨ν, b1, b2⟩ := T_told (w := 1) hN h2 (by omega)
    have e1 : tolS s w 1 = nightS s 0 1 := by
      rw [n1, if_neg (by omega), h, tn_c]
      rfl
    rw [e1, ← h] at b1
    rw [if_pos (by omega), b1, bnd2_some]
    exact main (nightS s 0 1) ν rfl b2
end TURN
