/-! lots -/
def lotN (seed : Nat) : Nat → Nat
  | 0 => seed
  | k + 1 => lotN seed k * 48271 % 2147483647
theorem lotN_lt {seed : Nat} (h : seed < 2147483647) : ∀ k, lotN seed k < 2147483647
  | 0 => h
  | k + 1 => Nat.mod_lt _ (by omega)
def dlN (n l : Nat) : Int := if l / 8 % 8 ≤ 1 then dd 1 ((l % n : Nat) : Int) ((1 + l / 64 % 5 : Nat) : Int) else if l / 8 % 8 = 2 then dd 2 ((l % n : Nat) : Int) ((1 + l / 64 % 5 : Nat) : Int) else if l / 8 % 8 = 3 then dd 3 ((l % n : Nat) : Int) ((l / 64 % 10 : Nat) : Int) else dd 0 0 0
def lotSt (s : Mem) (seed : Nat) : Nat → Mem
  | 0 => s
  | k + 1 => und (lotSt s seed k) (dlN (s 0 0).toNat (lotN seed (k + 1)))
theorem und_0 (s : Mem) (d : Int) : und s d 0 0 = s 0 0 := by
  unfold und
  split
  · exact night_0 s
  · split
    · split
      · exact wr_ne (by omega)
      · split
        · exact wr_ne (by omega)
        · exact wr_ne (by omega)
    · rfl
theorem lotSt_0 (s : Mem) (seed : Nat) : ∀ k, lotSt s seed k 0 0 = s 0 0
  | 0 => rfl
  | k + 1 => by rw [lotSt, und_0, lotSt_0 s seed k]
theorem tdiv_nat (a b : Nat) : ((a : Int)).tdiv (b : Int) = ((a / b : Nat) : Int) := (Int.ofNat_tdiv a b).symm
theorem lot_f {l n : Nat} (hl : l < 2147483647) (hn : 1 ≤ n ∧ n ≤ 6) : ∃ q8 q64 w m5 m10 i : Nat, q8 = l / 8 ∧ q64 = l / 64 ∧ w = l / 8 % 8 ∧ m5 = l / 64 % 5 ∧ m10 = l / 64 % 10 ∧ i = l % n ∧ q8 ≤ 300000000 ∧ q64 ≤ 40000000 ∧ w < 8 ∧ m5 < 5 ∧ m10 < 10 ∧ i < n ∧ (l : Int).tdiv 8 = (q8 : Int) ∧ (l : Int).tdiv 64 = (q64 : Int) ∧ (q8 : Int).tmod 8 = (w : Int) ∧ (q64 : Int).tmod 5 = (m5 : Int) ∧ (q64 : Int).tmod 10 = (m10 : Int) ∧ (l : Int).tmod (n : Int) = (i : Int) :=
  ⟨l / 8, l / 64, l / 8 % 8, l / 64 % 5, l / 64 % 10, l % n, rfl, rfl, rfl, rfl, rfl, rfl, by omega, by omega, Nat.mod_lt _ (by omega), Nat.mod_lt _ (by omega), Nat.mod_lt _ (by omega), Nat.mod_lt _ (by omega), tdiv_nat l 8, tdiv_nat l 64, tmod_nat (l / 8) 8, tmod_nat (l / 64) 5, tmod_nat (l / 64) 10, tmod_nat l n⟩
theorem lot_step {l l' : Nat} (hl : l < 2147483647) (h : l' = l * 48271 % 2147483647) : (w64 ((l : Int) * 48271)).tmod 2147483647 = (l' : Int) := by
  rw [w64_i (by omega), show (l : Int) * 48271 = ((l * 48271 : Nat) : Int) from (Int.natCast_mul l 48271).symm, h]
  exact tmod_nat (l * 48271) 2147483647
theorem lot_w {l : Nat} (hl : l < 2147483647) : w32 (l : Int) = (l : Int) := w32_i (by omega)
def dlW (w i m5 m10 : Nat) : Int := if w ≤ 1 then dd 1 (i : Int) ((1 + m5 : Nat) : Int) else if w = 2 then dd 2 (i : Int) ((1 + m5 : Nat) : Int) else if w = 3 then dd 3 (i : Int) (m10 : Int) else dd 0 0 0
theorem e_dlot {μ : Mem} {n l : Nat} (h4 : μ 20 4 = (n : Int)) (hn : 1 ≤ n ∧ n ≤ 6) (hl : l < 2147483647) : fX1_deedByLot (l : Int) μ = some (dlN n l) := by
  obtain ⟨q8, q64, w, m5, m10, i, e1, e2, e3, e4, e5, e6, r1, r2, r3, r4, r5, r6, a1, a2, a3, a4, a5, a6⟩ := lot_f hl hn
  have ed : dlN n l = dlW w i m5 m10 := by rw [e3, e4, e5, e6]; rfl
  rw [ed]
  clear ed e1 e2 e3 e4 e5 e6 hl
  have b1 : w32 (q8 : Int) = (q8 : Int) := w32_i (by omega)
  have b2 : w32 (q64 : Int) = (q64 : Int) := w32_i (by omega)
  have b3 : w32 (1 + (m5 : Int)) = ((1 + m5 : Nat) : Int) := by
    rw [w32_i (by omega)]
    omega
  have dq : ∀ a b c : Int, fX1_deedOf a b c μ = some (dd a b c) := fun _ _ _ => rfl
  unfold fX1_deedByLot
  rw [h4]
  simp (disch := omega) only [mlet_e, grd, if_pos, if_neg]
  rw [a1, b1, a2, b2, a3, a4, a5, a6, b3]
  clear a1 a2 a3 a4 a5 a6 b1 b2 b3
  simp only [dq, bd_some]
  unfold dlW
  by_cases c1 : w ≤ 1
  · rw [if_neg (by omega), if_pos c1]
  · rw [if_pos (by omega), if_neg c1]
    by_cases c2 : w = 2
    · rw [if_neg (by omega), if_pos c2]
    · rw [if_pos (by omega), if_neg c2]
      by_cases c3 : w = 3
      · rw [if_neg (by omega), if_pos c3]
      · rw [if_pos (by omega), if_neg c3]
theorem GB_dl {s : Mem} {n l : Nat} (hg : GB s) (h0 : 1 ≤ s 0 0) (hn : n = (s 0 0).toNat) : GB (und s (dlN n l)) := by
  have g6 := hg.2.1
  have hi : ((l % n : Nat) : Int) < s 0 0 := by
    have := Nat.mod_lt l (show n > 0 by omega)
    omega
  have h5 : l / 64 % 5 < 5 := Nat.mod_lt _ (by omega)
  have h10 : l / 64 % 10 < 10 := Nat.mod_lt _ (by omega)
  unfold dlN
  generalize l % n = i at *
  generalize l / 64 % 5 = m5 at *
  generalize l / 64 % 10 = m10 at *
  generalize l / 8 % 8 = w at *
  obtain ⟨-, -, g3⟩ := hg.2.2.2.2 i hi
  split
  · rw [und_raise hg hi (by omega)]
    refine GB_wr3 hg ?_
    unfold mmin
    split <;> omega
  · split
    · rw [und_shame hg hi (by omega)]
      refine GB_wr3 hg ?_
      unfold mmax
      split <;> omega
    · split
      · rw [und_door hg hi (by omega)]
        exact GB_wr2 hg (by omega)
      · rw [und_night]
        exact GB_night hg
theorem GB_lot {s : Mem} {seed : Nat} (hg : GB s) (h0 : 1 ≤ s 0 0) : ∀ k, GB (lotSt s seed k)
  | 0 => hg
  | k + 1 => GB_dl (GB_lot hg h0 k) (by rw [lotSt_0]; exact h0) (by rw [lotSt_0])
theorem e_lots_L {s : Mem} {seed c n : Nat} (hg : GB s) (h0 : 1 ≤ s 0 0) (hs : seed < 2147483647) (hcn : c + n ≤ 40) : ∀ (m k N : Nat) (μ : Mem), k + m = n → m < N → CB 20 μ (lotSt s seed k) → μ 0 8 = ((c + k : Nat) : Int) → Ev (fX1_lots_L55 (n : Int) N ((lotN seed k : Nat) : Int) (k : Int) μ) fun q => q.1 = lotSt s seed n 0 1 ∧ CB 20 q.2 (lotSt s seed n) ∧ q.2 0 8 = ((c + n : Nat) : Int) ∧ (∀ j, k ≤ j → j < n → q.2 30 (c + j) = dlN (s 0 0).toNat (lotN seed (j + 1))) ∧ ∀ c' k', ¬ (c' = 0 ∧ k' = 8) → ¬ (c' = 30 ∧ c + k ≤ k') → ¬ (20 ≤ c' ∧ c' ≤ 24) → q.2 c' k' = μ c' k' := by
  have g6 := hg.2.1
  intro m
  induction m with
  | zero =>
    intro k N μ h1 h2 h3 h4
    obtain ⟨N, rfl⟩ : ∃ j, N = j + 1 := ⟨N - 1, by omega⟩
    obtain rfl : k = n := by omega
    rw [fX1_lots_L55, if_pos (by omega)]
    exact ev_some.mpr ⟨h3.2.1, h3, h4, fun j j1 j2 => absurd j1 (by omega), fun _ _ _ _ _ => rfl⟩
  | succ m ih =>
    intro k N μ h1 h2 h3 h4
    obtain ⟨N, rfl⟩ : ∃ j, N = j + 1 := ⟨N - 1, by omega⟩
    have e1 : (w64 (((lotN seed k : Nat) : Int) * 48271)).tmod 2147483647 = ((lotN seed (k + 1) : Nat) : Int) := lot_step (lotN_lt hs k) (by rw [lotN])
    have e2 : w32 ((lotN seed (k + 1) : Nat) : Int) = ((lotN seed (k + 1) : Nat) : Int) := lot_w (lotN_lt hs (k + 1))
    rw [fX1_lots_L55, if_neg (by omega), e1, mlet_e, e2, e_dlot (n := (s 0 0).toNat) (by rw [h3.1, lotSt_0]; omega) (by omega) (lotN_lt hs (k + 1)), bd_some, ev_bind]
    refine ev_mono (e_perform (d := dlN (s 0 0).toNat (lotN seed (k + 1))) h4 (by omega) h3 (GB_lot hg h0 k)) (fun μ1 hq => ?_)
    obtain ⟨b1, b2, b3, b4⟩ := hq
    rw [mlet_e, w32_s (by omega)]
    refine ev_mono (ih (k + 1) N μ1 (by omega) (by omega) b1 b2) (fun q hq => ?_)
    obtain ⟨q1, q2, q3, q4, q5⟩ := hq
    refine ⟨q1, q2, q3, fun j j1 j2 => ?_, fun c' k' c1 c2 c3 => ?_⟩
    · by_cases e : j = k
      · subst e
        rw [q5 _ _ (by omega) (by omega) (by omega)]
        exact b3
      · exact q4 j (by omega) j2
    · rw [q5 _ _ c1 (by omega) c3, b4 _ _ c1 (by omega) c3]
