/-! lots -/
def lotN (seed : Nat) : Nat → Nat
  | 0 => seed
  | k + 1 => lotN seed k * 48271 % 2147483647
theorem lotN_lt {seed : Nat} (h : seed < 2147483647) : ∀ k, lotN seed k < 2147483647
  | 0 => h
  | k + 1 => Nat.mod_lt _ (by omega)
def dlN (n l : Nat) : Int := if l / 8 % 8 ≤ 1 then dd 1 ((l % n : Nat) : Int) ((1 + l / 64 % 5 : Nat) : Int) else if l / 8 % 8 = 2 then dd 2 ((l % n : Nat) : Int) ((1 + l / 64 % 5 : Nat) : Int) else if l / 8 % 8 = 3 then dd 3 ((l % n : Nat) : Int) ((l / 64 % 10 : Nat) : Int) else dd 0 0 0
def lotSt (s : Mem) (seed : Nat) : Nat → Mem
  | 0 => s
  | k + 1 => und (lotSt s seed k) (dlN (s 0 0).toNat (lotN seed (k + 1)))
theorem und_0 (s : Mem) (d : Int) : und s d 0 0 = s 0 0 := by
  unfold und
  split
  · exact night_0 s
  · split
    · split
      · exact wr_ne (by omega)
      · split
        · exact wr_ne (by omega)
        · exact wr_ne (by omega)
    · rfl
theorem lotSt_0 (s : Mem) (seed : Nat) : ∀ k, lotSt s seed k 0 0 = s 0 0
  | 0 => rfl
  | k + 1 => by rw [lotSt, und_0, lotSt_0 s seed k]
theorem tdiv_nat (a b : Nat) : ((a : Int)).tdiv (b : Int) = ((a / b : Nat) : Int) := (Int.ofNat_tdiv a b).symm
theorem lot_f {l n : Nat} (hl : l < 2147483647) (hn : 1 ≤ n ∧ n ≤ 6) : ∃ q8 q64 w m5 m10 i : Nat, q8 = l / 8 ∧ q64 = l / 64 ∧ w = l / 8 % 8 ∧ m5 = l / 64 % 5 ∧ m10 = l / 64 % 10 ∧ i = l % n ∧ q8 ≤ 300000000 ∧ q64 ≤ 40000000 ∧ w < 8 ∧ m5 < 5 ∧ m10 < 10 ∧ i < n ∧ (l : Int).tdiv 8 = (q8 : Int) ∧ (l : Int).tdiv 64 = (q64 : Int) ∧ (q8 : Int).tmod 8 = (w : Int) ∧ (q64 : Int).tmod 5 = (m5 : Int) ∧ (q64 : Int).tmod 10 = (m10 : Int) ∧ (l : Int).tmod (n : Int) = (i : Int) :=
  ⟨l / 8, l / 64, l / 8 % 8, l / 64 % 5, l / 64 % 10, l % n, rfl, rfl, rfl, rfl, rfl, rfl, by omega, by omega, Nat.mod_lt _ (by omega), Nat.mod_lt _ (by omega), Nat.mod_lt _ (by omega), Nat.mod_lt _ (by omega), tdiv_nat l 8, tdiv_nat l 64, tmod_nat (l / 8) 8, tmod_nat (l / 64) 5, tmod_nat (l / 64) 10, tmod_nat l n⟩
theorem lot_step {l l' : Nat} (hl : l < 2147483647) (h : l' = l * 48271 % 2147483647) : (w64 ((l : Int) * 48271)).tmod 2147483647 = (l' : Int) := by
  rw [w64_i (by omega), show (l : Int) * 48271 = ((l * 48271 : Nat) : Int) from (Int.natCast_mul l 48271).symm, h]
  exact tmod_nat (l * 48271) 2147483647
theorem lot_w {l : Nat} (hl : l < 2147483647) : w32 (l : Int) = (l : Int) := w32_i (by omega)
def dlW (w i m5 m10 : Nat) : Int := if w ≤ 1 then dd 1 (i : Int) ((1 + m5 : Nat) : Int) else if w = 2 then dd 2 (i : Int) ((1 + m5 : Nat) : Int) else if w = 3 then dd 3 (i : Int) (m10 : Int) else dd 0 0 0
theorem e_dlot {μ : Mem} {n l : Nat} (h4 : μ 20 4 = (n : Int)) (hn : 1 ≤ n ∧ n ≤ 6) (hl : l < 2147483647) : fX1_deedByLot (l : Int) μ = some (dlN n l) := by
  obtain ⟨q8, q64, w, m5, m10, i, e1, e2, e3, e4, e5, e6, r1, r2, r3, r4, r5, r6, a1, a2, a3, a4, a5, a6⟩ := lot_f hl hn
  have ed : dlN n l = dlW w i m5 m10 := by rw [e3, e4, e5, e6]; rfl
  rw [ed]
  clear ed e1 e2 e3 e4 e5 e6 hl
  have b1 : w32 (q8 : Int) = (q8 : Int) := w32_i (by omega)
  have b2 : w32 (q64 : Int) = (q64 : Int) := w32_i (by omega)
  have b3 : w32 (1 + (m5 : Int)) = ((1 + m5 : Nat) : Int) := by
    rw [w32_i (by omega)]
    omega
  have dq : ∀ a b c : Int, fX1_deedOf a b c μ = some (dd a b c) := fun _ _ _ => rfl
  unfold fX1_deedByLot
  rw [h4]
  simp (disch := omega) only [mlet_e, grd, if_pos, if_neg]
  rw [a1, b1, a2, b2, a3, a4, a5, a6, b3]
  clear a1 a2 a3 a4 a5 a6 b1 b2 b3
  simp only [dq, bd_some]
  unfold dlW
  by_cases c1 : w ≤ 1
  · rw [if_neg (by omega), if_pos c1]
  · rw [if_pos (by omega), if_neg c1]
    by_cases c2 : w = 2
    · rw [if_neg (by omega), if_pos c2]
    · rw [if_pos (by omega), if_neg c2]
      by_cases c3 : w = 3
      · rw [if_neg (by omega), if_pos c3]
      · rw [if_pos (by omega), if_neg c3]
theorem GB_dl {s : Mem} {n l : Nat} (hg : GB s) (h0 : 1 ≤ s 0 0) (hn : n = (s 0 0).toNat) : GB (und s (dlN n l)) := by
  have g6 := hg.2.1
  have hi : ((l % n : Nat) : Int) < s 0 0 := by
    have := Nat.mod_lt l (show n > 0 by omega)
    omega
  have h5 : l / 64 % 5 < 5 := Nat.mod_lt _ (by omega)
  have h10 : l / 64 % 10 < 10 := Nat.mod_lt _ (by omega)
  unfold dlN
  generalize l % n = i at *
  generalize l / 64 % 5 = m5 at *
  generalize l / 64 % 10 = m10 at *
  generalize l / 8 % 8 = w at *
  obtain ⟨-, -, g3⟩ := hg.2.2.2.2 i hi
  split
  · rw [und_raise hg hi (by omega)]
    refine GB_wr3 hg ?_
    unfold mmin
    split <;> omega
  · split
    · rw [und_shame hg hi (by omega)]
      refine GB_wr3 hg ?_
      unfold mmax
      split <;> omega
    · split
      · rw [und_door hg hi (by omega)]
        exact GB_wr2 hg (by omega)
      · rw [und_night]
        exact GB_night hg
theorem GB_lot {s : Mem} {seed : Nat} (hg : GB s) (h0 : 1 ≤ s 0 0) : ∀ k, GB (lotSt s seed k)
  | 0 => hg
  | k + 1 => GB_dl (GB_lot hg h0 k) (by rw [lotSt_0]; exact h0) (by rw [lotSt_0])
theorem e_byLot {μ s : Mem} {l n : Nat} (hM : MB 0 μ s) (hg : GB s) (h0 : 1 ≤ s 0 0) (hn : n = (s 0 0).toNat) (hl : l < 2147483647) : Ev (fX2_byLot (l : Int) μ) fun ν => MB 0 ν (und s (dlN n l)) ∧ ∀ c k, ¬ (c = 61 ∧ 1 ≤ k ∧ k ≤ 20) → ν c k = μ c k := by
  have g6 := hg.2.1
  obtain ⟨q8, q64, w, m5, m10, i, e1, e2, e3, e4, e5, e6, r1, r2, r3, r4, r5, r6, a1, a2, a3, a4, a5, a6⟩ := lot_f (n := n) hl (by omega)
  have ed : dlN n l = dlW w i m5 m10 := by rw [e3, e4, e5, e6]; rfl
  rw [ed]
  clear ed e1 e2 e3 e4 e5 e6 hl
  rw [show (n : Int) = s 0 0 by omega] at a6
  have hi : (i : Int) < s 0 0 := by omega
  obtain ⟨-, -, g3⟩ := hg.2.2.2.2 i hi
  obtain ⟨q1, q2, q3, q4⟩ := (MB_0 hM).2.2 i hi
  have w3 := fun v : Int => MB_wr3 (i := i) (v := v) hM hg (by omega)
  have w2 := fun v : Int => MB_wr2 (i := i) (v := v) hM hg (by omega)
  simp only [show 0 + 9 + i = 9 + i by omega] at w3
  simp only [show 0 + 3 + i = 3 + i by omega] at w2
  unfold fX2_byLot
  rw [hM.1, a1, w64_i (z := (q8 : Int)) (by omega), a2, w64_i (z := (q64 : Int)) (by omega), a3, a4, a5, a6, w32_i (z := (m5 : Int)) (by omega), w32_i (z := (w : Int)) (by omega), w32_i (z := (m10 : Int)) (by omega), w32_i (z := (i : Int)) (by omega), w32_i (z := 1 + (m5 : Int)) (by omega), show 1 + (m5 : Int) = ((1 + m5 : Nat) : Int) by omega]
  clear a1 a2 a3 a4 a5 a6
  unfold dlW
  have hY : 1 + m5 < 6 := by omega
  generalize 1 + m5 = y at *
  have hi6 : i < 6 := by omega
  have f9 : ∀ j : Nat, j < 6 → w32 (9 + (j : Int)) = 9 + (j : Int) := fun j hj => w32_i (by omega)
  have f3 : ∀ j : Nat, j < 6 → w32 (3 + (j : Int)) = 3 + (j : Int) := fun j hj => w32_i (by omega)
  simp only [mlet_e, grd, f9 i hi6, f3 i hi6]
  have hc9 : 0 ≤ 9 + (i : Int) ∧ 9 + (i : Int) < 3305 := by omega
  have hc3 : 0 ≤ 3 + (i : Int) ∧ 3 + (i : Int) < 3305 := by omega
  have hn0 : ¬ s 0 0 = 0 := by omega
  simp only [if_pos hc9, if_pos hc3, if_pos hn0, tn_9, tn_k3, q3]
  clear f9 f3
  have fr : ∀ (x : Nat) (v : Int), 1 ≤ x → x ≤ 20 → ∀ c k, ¬ (c = 61 ∧ 1 ≤ k ∧ k ≤ 20) → wr μ 61 x v c k = μ c k := fun x v x1 x2 c k hc => wr_ne (by omega)
  by_cases c1 : w ≤ 1
  · rw [if_neg (by omega), if_pos c1, und_raise hg hi (by omega)]
    unfold mmin
    by_cases z : s 3 i + y < 20
    · rw [w32_i (z := s 3 i + y) (by omega), if_pos (by omega), if_pos z]
      exact ev_eq rfl ⟨w3 _, fr _ _ (by omega) (by omega)⟩
    · rw [if_neg z]
      by_cases z2 : s 3 i + y = 20
      · rw [w32_i (z := s 3 i + y) (by omega), if_pos (by omega), z2]
        exact ev_eq rfl ⟨w3 _, fr _ _ (by omega) (by omega)⟩
      · rw [w32_i (z := s 3 i + y) (by omega), if_neg (by omega)]
        exact ev_eq rfl ⟨w3 _, fr _ _ (by omega) (by omega)⟩
  · rw [if_pos (by omega), if_neg c1]
    by_cases c2 : w = 2
    · rw [if_neg (by omega), if_pos c2, und_shame hg hi (by omega)]
      unfold mmax
      by_cases z : 0 < s 3 i - y
      · rw [w32_i (z := s 3 i - y) (by omega), if_pos (by omega), if_pos z]
        exact ev_eq rfl ⟨w3 _, fr _ _ (by omega) (by omega)⟩
      · rw [if_neg z]
        by_cases z2 : s 3 i - y = 0
        · rw [w32_i (z := s 3 i - y) (by omega), if_pos (by omega), z2]
          exact ev_eq rfl ⟨w3 _, fr _ _ (by omega) (by omega)⟩
        · rw [if_neg (by omega)]
          exact ev_eq rfl ⟨w3 _, fr _ _ (by omega) (by omega)⟩
    · rw [if_pos (by omega), if_neg c2]
      by_cases c3 : w = 3
      · rw [if_neg (by omega), if_pos c3, und_door hg hi (by omega)]
        exact ev_eq rfl ⟨w2 _, fr _ _ (by omega) (by omega)⟩
      · rw [if_pos (by omega), if_neg c3, und_night, ev_bnd2]
        refine ev_mono (e_passes (x := 0) (a := 0) rfl (by omega) hM hg) (fun q hq => ev_some.mpr ⟨hq.2.1, fun c k hc => hq.2.2 _ _ (by omega)⟩)
theorem e_lots_L {s : Mem} {seed c n : Nat} (hg : GB s) (h0 : 1 ≤ s 0 0) (hs : seed < 2147483647) (hcn : c + n ≤ 40) : ∀ (m k N : Nat) (μ : Mem), k + m = n → m < N → CB 20 μ (lotSt s seed k) → μ 0 8 = ((c + k : Nat) : Int) → Ev (fX1_lots_L55 (n : Int) N ((lotN seed k : Nat) : Int) (k : Int) μ) fun q => q.1 = lotSt s seed n 0 1 ∧ CB 20 q.2 (lotSt s seed n) ∧ q.2 0 8 = ((c + n : Nat) : Int) ∧ (∀ j, k ≤ j → j < n → q.2 30 (c + j) = dlN (s 0 0).toNat (lotN seed (j + 1))) ∧ ∀ c' k', ¬ (c' = 0 ∧ k' = 8) → ¬ (c' = 30 ∧ c + k ≤ k') → ¬ (20 ≤ c' ∧ c' ≤ 24) → q.2 c' k' = μ c' k' := by
  have g6 := hg.2.1
  intro m
  induction m with
  | zero =>
    intro k N μ h1 h2 h3 h4
    obtain ⟨N, rfl⟩ : ∃ j, N = j + 1 := ⟨N - 1, by omega⟩
    obtain rfl : k = n := by omega
    rw [fX1_lots_L55, if_pos (by omega)]
    exact ev_some.mpr ⟨h3.2.1, h3, h4, fun j j1 j2 => absurd j1 (by omega), fun _ _ _ _ _ => rfl⟩
  | succ m ih =>
    intro k N μ h1 h2 h3 h4
    obtain ⟨N, rfl⟩ : ∃ j, N = j + 1 := ⟨N - 1, by omega⟩
    have e1 : (w64 (((lotN seed k : Nat) : Int) * 48271)).tmod 2147483647 = ((lotN seed (k + 1) : Nat) : Int) := lot_step (lotN_lt hs k) (by rw [lotN])
    have e2 : w32 ((lotN seed (k + 1) : Nat) : Int) = ((lotN seed (k + 1) : Nat) : Int) := lot_w (lotN_lt hs (k + 1))
    rw [fX1_lots_L55, if_neg (by omega), e1, mlet_e, e2, e_dlot (n := (s 0 0).toNat) (by rw [h3.1, lotSt_0]; omega) (by omega) (lotN_lt hs (k + 1)), bd_some, ev_bind]
    refine ev_mono (e_perform (d := dlN (s 0 0).toNat (lotN seed (k + 1))) h4 (by omega) h3 (GB_lot hg h0 k)) (fun μ1 hq => ?_)
    obtain ⟨b1, b2, b3, b4⟩ := hq
    rw [mlet_e, w32_s (by omega)]
    refine ev_mono (ih (k + 1) N μ1 (by omega) (by omega) b1 b2) (fun q hq => ?_)
    obtain ⟨q1, q2, q3, q4, q5⟩ := hq
    refine ⟨q1, q2, q3, fun j j1 j2 => ?_, fun c' k' c1 c2 c3 => ?_⟩
    · by_cases e : j = k
      · subst e
        rw [q5 _ _ (by omega) (by omega) (by omega)]
        exact b3
      · exact q4 j (by omega) j2
    · rw [q5 _ _ c1 (by omega) c3, b4 _ _ c1 (by omega) c3]
theorem e_lots2_L {s : Mem} {seed c n : Nat} {K : Mem → Option (Int × Mem)} {Q : Int × Mem → Prop} (hg : GB s) (h0 : 1 ≤ s 0 0) (hs : seed < 2147483647) (hcn : c + n ≤ 40) : ∀ (m k N : Nat) (μ : Mem), k + m = n → m < N → MB 0 μ (lotSt s seed k) → μ 61 0 = ((c + k : Nat) : Int) → (∀ ν, MB 0 ν (lotSt s seed n) → ν 61 0 = ((c + n : Nat) : Int) → (∀ j, k ≤ j → j < n → MB (20 + 20 * (c + j)) ν (lotSt s seed j)) → (∀ c' k', ¬ (c' = 61 ∧ k' ≤ 20) → ¬ (c' = 61 ∧ 21 + 20 * (c + k) ≤ k' ∧ k' < 821) → ν c' k' = μ c' k') → Ev (K ν) Q) → Ev (fX2_lots_L58 (n : Int) K N ((lotN seed k : Nat) : Int) (k : Int) μ) Q := by
  have g6 := hg.2.1
  intro m
  induction m with
  | zero =>
    intro k N μ h1 h2 h3 h4 h5
    obtain ⟨N, rfl⟩ : ∃ j, N = j + 1 := ⟨N - 1, by omega⟩
    obtain rfl : k = n := by omega
    rw [fX2_lots_L58, if_pos (by omega)]
    exact h5 μ h3 h4 (fun j j1 j2 => absurd j1 (by omega)) (fun _ _ _ _ => rfl)
  | succ m ih =>
    intro k N μ h1 h2 h3 h4 h5
    obtain ⟨N, rfl⟩ : ∃ j, N = j + 1 := ⟨N - 1, by omega⟩
    have e1 : (w64 (((lotN seed k : Nat) : Int) * 48271)).tmod 2147483647 = ((lotN seed (k + 1) : Nat) : Int) := lot_step (lotN_lt hs k) (by rw [lotN])
    have e2 : w32 ((lotN seed (k + 1) : Nat) : Int) = ((lotN seed (k + 1) : Nat) : Int) := lot_w (lotN_lt hs (k + 1))
    have hgk := GB_lot (seed := seed) hg h0 k
    have hMp : MB 0 (wr (cpy μ 61 1 61 (21 + 20 * (c + k)) 20) 61 0 ((c + k + 1 : Nat) : Int)) (lotSt s seed k) := MB_congr h3 hgk.2.1 (fun c' k' hk => by rw [wr_ne (by omega), cpy_ne (by omega)])
    have hPast : MB (20 + 20 * (c + k)) (wr (cpy μ 61 1 61 (21 + 20 * (c + k)) 20) 61 0 ((c + k + 1 : Nat) : Int)) (lotSt s seed k) := MB_of h3 hgk (fun i hi => by
      rw [wr_ne (by omega), cpy_at (by omega), show 1 + (20 + 20 * (c + k) + i - (21 + 20 * (c + k))) = 0 + i by omega]) (by rw [wr_ne (by omega), cpy_ne (by omega)]) (fun i => by rw [wr_ne (by omega), cpy_ne (by omega)])
    rw [fX2_lots_L58, if_neg (by omega), e1, mlet_e, e_keepPast h4 (by omega), bd_some, ev_bind]
    refine ev_mono (e_byLot (n := (s 0 0).toNat) (l := lotN seed (k + 1)) hMp hgk (by rw [lotSt_0]; exact h0) (by rw [lotSt_0]) (lotN_lt hs (k + 1))) (fun μ1 hq => ?_)
    obtain ⟨b1, b2⟩ := hq
    rw [mlet_e, w32_s (by omega)]
    refine ih (k + 1) N μ1 (by omega) (by omega) b1 (by rw [b2 _ _ (by omega), wr_at (by omega)]; rfl) (fun ν r1 r2 r3 r4 => h5 ν r1 r2 (fun j j1 j2 => ?_) (fun c' k' c1 c2 => ?_))
    · by_cases e : j = k
      · subst e
        exact MB_congr hPast hgk.2.1 (fun c' k' hk => by rw [r4 _ _ (by omega) (by omega), b2 _ _ (by omega)])
      · exact r3 j (by omega) j2
    · rw [r4 _ _ c1 (by omega), b2 _ _ (by omega), wr_ne (by omega), cpy_ne (by omega)]
theorem P_lots {n seed : Int} {μ : Mem} (h : Inv μ) : Same (fX1_lots n seed μ) (fX2_lots n seed) := by
  obtain ⟨s, hR, hC, hM, hg, h0, h40, h61⟩ := Inv_now h
  have g0 := hg.1
  have g6 := hg.2.1
  have c4 := hC.1
  have m4 := hM.1
  by_cases a : 1 ≤ n ∧ n ≤ 20
  · by_cases b : 1 ≤ seed ∧ seed ≤ 2147483646
    · by_cases e : s 0 0 = 0
      · refine same_of (v := -4) (μ1 := μ) (μ2 := μ) ?_ ?_ h
        · unfold fX1_lots
          have hf := fuel_lt
          generalize fuel = N at hf ⊢
          simp (disch := omega) only [e_within, bnd2_some, bd_some, b01_t, b01_f, if_pos, if_neg, mlet_e, grd, ite_true, ite_false, not_true_eq_false, not_false_eq_true, ite_self, tn_c, w32_i]
        · unfold fX2_lots
          have hf := fuel_lt
          generalize fuel = N at hf ⊢
          simp (disch := omega) only [e_in, bnd2_some, bd_some, b01_t, b01_f, if_pos, if_neg, mlet_e, grd, ite_true, ite_false, not_true_eq_false, not_false_eq_true, ite_self, tn_c, w32_i]
      · by_cases f : μ 0 8 + n ≤ 40
        · obtain ⟨n, rfl⟩ : ∃ j : Nat, n = j := ⟨n.toNat, by omega⟩
          obtain ⟨seed, rfl⟩ : ∃ j : Nat, seed = j := ⟨seed.toNat, by omega⟩
          obtain ⟨c, hc⟩ : ∃ c : Nat, μ 0 8 = (c : Int) := ⟨(μ 0 8).toNat, by omega⟩
          have hs1 : 1 ≤ s 0 0 := by omega
          unfold fX1_lots
          have hf := fuel_lt
          generalize fuel = N at hf ⊢
          simp (disch := omega) only [e_within, bnd2_some, bd_some, b01_t, b01_f, if_pos, if_neg, mlet_e, grd, ite_true, ite_false, not_true_eq_false, not_false_eq_true, ite_self, tn_c, w32_i]
          refine ev_mono (e_lots_L (s := s) (seed := seed) (c := c) (n := n) hg hs1 (by omega) (by omega) n 0 N μ (by omega) (by omega) hC (by rw [hc]; rfl)) (fun q hq => ?_)
          obtain ⟨q1, q2, q3, q4, q5⟩ := hq
          have hM1 : MB 0 q.2 s := MB_congr hM g6 (fun c' k hk => q5 _ _ (by omega) (by omega) (by omega))
          have m5 := hM1.1
          have k61 : q.2 61 0 = (c : Int) := by rw [q5 _ _ (by omega) (by omega) (by omega)]; omega
          unfold fX2_lots
          have hf := fuel_lt
          generalize fuel = N at hf ⊢
          simp (disch := omega) only [e_in, bnd2_some, bd_some, b01_t, b01_f, if_pos, if_neg, mlet_e, grd, ite_true, ite_false, not_true_eq_false, not_false_eq_true, ite_self, tn_c, w32_i]
          refine e_lots2_L (s := s) (seed := seed) (c := c) (n := n) hg hs1 (by omega) (by omega) n 0 N q.2 (by omega) (by omega) hM1 (by rw [k61]; rfl) (fun ν r1 r2 r3 r4 => ?_)
          refine ev_some.mpr ⟨by rw [q1]; exact r1.2.1, ?_⟩
          dsimp only
          obtain ⟨-, s0, hh, h1, h2, h3, h4⟩ := hR
          obtain ⟨k1, k2, k3, k4⟩ := h4 0 (by omega)
          have o0 : cnt μ 0 = (c : Int) := hc
          obtain ⟨n1, n2, n3, n4⟩ := k4 (by rw [o0]; omega)
          rw [o0] at n2 n3 n4
          rw [show dcl 0 = 30 from rfl] at n2
          rw [hc, tn_c] at h2
          refine Inv_jump (n := c + n) (h := fun d => if d ≤ c then hh 0 d else lotSt s seed (d - c)) h h1 h4 (by omega) ?_ ?_ q3 ?_ (fun c' k' c1 c2 c3 => q5 _ _ c1 (by omega) c3) ?_ ?_ ?_ r2 (fun c' k' hk => r4 _ _ (by omega) (by omega))
          · rw [if_pos (by omega)]
            exact n1
          · rw [if_neg (by omega), show c + n - c = n by omega]
            exact q2
          · intro d hd
            by_cases z : d < c
            · rw [if_pos (by omega), if_pos (by omega), q5 _ _ (by omega) (by omega) (by omega)]
              exact (n2 d (by omega)).1
            · obtain ⟨j, rfl⟩ : ∃ j, d = c + j := ⟨d - c, by omega⟩
              rw [if_neg (by omega), q4 j (by omega) (by omega), show c + j + 1 - c = j + 1 by omega, lotSt]
              by_cases z2 : j = 0
              · subst z2
                rw [if_pos (by omega), show c + 0 = c from rfl, h2]
                rfl
              · rw [if_neg (by omega), show c + j - c = j by omega]
          · intro d hd
            by_cases z : d ≤ c
            · rw [if_pos z]
              exact n4 d (by omega)
            · rw [if_neg z]
              exact GB_lot hg hs1 _
          · rw [if_neg (by omega), show c + n - c = n by omega]
            exact r1
          · intro d hd
            by_cases z : d < c
            · rw [if_pos (by omega)]
              have := (n2 d (by omega)).2
              rw [show 821 * 0 + 20 + 20 * d = 20 + 20 * d by omega] at this
              exact MB_congr this (n4 d (by omega)).2.1 (fun c' k' hk => by rw [r4 _ _ (by omega) (by omega), q5 _ _ (by omega) (by omega) (by omega)])
            · obtain ⟨j, rfl⟩ : ∃ j, d = c + j := ⟨d - c, by omega⟩
              have := r3 j (by omega) (by omega)
              by_cases z2 : j = 0
              · subst z2
                rw [if_pos (by omega), show c + 0 = c from rfl, h2]
                exact this
              · rw [if_neg (by omega), show c + j - c = j by omega]
                exact this
        · refine same_of (v := -2) (μ1 := μ) (μ2 := μ) ?_ ?_ h
          · unfold fX1_lots
            have hf := fuel_lt
            generalize fuel = N at hf ⊢
            simp (disch := omega) only [e_within, bnd2_some, bd_some, b01_t, b01_f, if_pos, if_neg, mlet_e, grd, ite_true, ite_false, not_true_eq_false, not_false_eq_true, ite_self, tn_c, w32_i]
          · unfold fX2_lots
            have hf := fuel_lt
            generalize fuel = N at hf ⊢
            simp (disch := omega) only [e_in, bnd2_some, bd_some, b01_t, b01_f, if_pos, if_neg, mlet_e, grd, ite_true, ite_false, not_true_eq_false, not_false_eq_true, ite_self, tn_c, w32_i]
    · refine same_of (v := -1) (μ1 := μ) (μ2 := μ) ?_ ?_ h
      · unfold fX1_lots
        have hf := fuel_lt
        generalize fuel = N at hf ⊢
        simp (disch := omega) only [e_within, bnd2_some, bd_some, b01_t, b01_f, if_pos, if_neg, mlet_e, grd, ite_true, ite_false, not_true_eq_false, not_false_eq_true, ite_self, tn_c, w32_i]
      · unfold fX2_lots
        have hf := fuel_lt
        generalize fuel = N at hf ⊢
        simp (disch := omega) only [e_in, bnd2_some, bd_some, b01_t, b01_f, if_pos, if_neg, mlet_e, grd, ite_true, ite_false, not_true_eq_false, not_false_eq_true, ite_self, tn_c, w32_i]
  · refine same_of (v := -1) (μ1 := μ) (μ2 := μ) ?_ ?_ h
    · unfold fX1_lots
      have hf := fuel_lt
      generalize fuel = N at hf ⊢
      simp (disch := omega) only [e_within, bnd2_some, bd_some, b01_t, b01_f, if_pos, if_neg, mlet_e, grd, ite_true, ite_false, not_true_eq_false, not_false_eq_true, ite_self, tn_c, w32_i]
    · unfold fX2_lots
      have hf := fuel_lt
      generalize fuel = N at hf ⊢
      simp (disch := omega) only [e_in, bnd2_some, bd_some, b01_t, b01_f, if_pos, if_neg, mlet_e, grd, ite_true, ite_false, not_true_eq_false, not_false_eq_true, ite_self, tn_c, w32_i]
