/-! THE LAW'S NIGHT, its deeds by a cell -/
theorem L_fades {k : Int} {μ : Mem} : fL_fades k μ = some (fad k) := by
  unfold fL_fades fad
  simp only [mlet_e]
  by_cases h2 : k = 2
  · simp (disch := omega) only [bnd2_some, bd_some, b01_t, b01_f, if_pos, if_neg, mlet_e, grd, ite_true, ite_false, not_true_eq_false, not_false_eq_true, ite_self, tn_c, w32_i]
  · by_cases h5 : k = 5
    · simp (disch := omega) only [bnd2_some, bd_some, b01_t, b01_f, if_pos, if_neg, mlet_e, grd, ite_true, ite_false, not_true_eq_false, not_false_eq_true, ite_self, tn_c, w32_i]
    · by_cases h3 : k = 3
      · simp (disch := omega) only [bnd2_some, bd_some, b01_t, b01_f, if_pos, if_neg, mlet_e, grd, ite_true, ite_false, not_true_eq_false, not_false_eq_true, ite_self, tn_c, w32_i]
      · by_cases h4 : k = 4
        · simp (disch := omega) only [bnd2_some, bd_some, b01_t, b01_f, if_pos, if_neg, mlet_e, grd, ite_true, ite_false, not_true_eq_false, not_false_eq_true, ite_self, tn_c, w32_i]
        · simp (disch := omega) only [bnd2_some, bd_some, b01_t, b01_f, if_pos, if_neg, mlet_e, grd, ite_true, ite_false, not_true_eq_false, not_false_eq_true, ite_self, tn_c, w32_i]
def NI (s μ : Mem) (k : Nat) (ν : Mem) : Prop := (∀ c j, ¬ c = 61 → ν c j = μ c j) ∧ ν 61 0 = μ 61 0 ∧ ν 61 1 = μ 61 1 ∧ (∀ j : Nat, j < 6 → ν 61 (2 + j) = μ 61 (2 + j)) ∧ ∀ j : Nat, (j : Int) < s 0 0 → ν 61 (8 + j) = if j < k then nightS s 3 j else s 3 j
theorem L_night_L {s μ : Mem} (hg : GB s) (h0 : μ 60 0 = s 0 0) (h1 : ∀ i : Nat, (i : Int) < s 0 0 → μ 60 (1 + i) = s 1 i) : ∀ (m k N : Nat) (ν : Mem), k + m = (s 0 0).toNat → m < N → NI s μ k ν → Ev (fL_night_L34 (hold s 0) N (k : Int) ν) fun q => q.1 = hold s 0 ∧ NI s μ (s 0 0).toNat q.2 := by
  have g0 := hg.1
  have g6 := hg.2.1
  intro m
  induction m with
  | zero =>
    intro k N ν e1 e2 h
    obtain ⟨N, rfl⟩ : ∃ j, N = j + 1 := ⟨N - 1, by omega⟩
    obtain rfl : k = (s 0 0).toNat := by omega
    rw [fL_night_L34, if_pos (by rw [h.1 _ _ (by omega), h0]; omega)]
    exact ev_some.mpr ⟨rfl, h⟩
  | succ m ih =>
    intro k N ν e1 e2 h
    obtain ⟨N, rfl⟩ : ∃ j, N = j + 1 := ⟨N - 1, by omega⟩
    have hk : (k : Int) < s 0 0 := by omega
    have k6 : k < 6 := by omega
    obtain ⟨n1, n2, n3, n4, n5⟩ := h
    have v8 : ν 61 (8 + k) = s 3 k := by rw [n5 k hk, if_neg (by omega)]
    have v1 : ν 60 (1 + k) = s 1 k := by rw [n1 _ _ (by omega), h1 k hk]
    have hfd := fad_rng (s 1 k)
    have h3 := (tol_rng hg hk).2.2
    have step : ∀ (x v : Int), v = nightS s 3 k → NI s μ (k + 1) (wr (wr ν 61 (14 + k) x) 61 (8 + k) v) := by
      intro x v hv
      refine ⟨fun c j hc => by rw [wr_ne (by omega), wr_ne (by omega)]; exact n1 c j hc, by rw [wr_ne (by omega), wr_ne (by omega)]; exact n2, by rw [wr_ne (by omega), wr_ne (by omega)]; exact n3, fun j hj => by rw [wr_ne (by omega), wr_ne (by omega)]; exact n4 j hj, fun j hj => ?_⟩
      by_cases e : j = k
      · subst e
        rw [wr_at (by omega), if_pos (by omega), hv]
      · rw [wr_ne (by omega), wr_ne (by omega), n5 j hj]
        by_cases q : j < k
        · rw [if_pos q, if_pos (by omega)]
        · rw [if_neg q, if_neg (by omega)]
    have n3' := night_3 s k
    rw [fL_night_L34, if_neg (by rw [n1 _ _ (by omega), h0]; omega)]
    simp only [w32_14i k6, w32_8i k6, w32_1i k6, tn_14i, tn_8i, tn_1i, mlet_e, w32_s (show k ≤ 2000000000 by omega)]
    have fin : ∀ (x by9 : Int), nightS s 3 k = mmax 0 (s 3 k - by9) → 0 ≤ by9 ∧ by9 ≤ 2 → Ev (if wr ν 61 (14 + k) x 61 (8 + k) ≤ by9 then (if 0 ≤ 8 + (k : Int) ∧ 8 + (k : Int) < 20 then fL_night_L34 (hold s 0) N ((k + 1 : Nat) : Int) (wr (wr ν 61 (14 + k) x) 61 (8 + k) 0) else none) else (if 0 ≤ 8 + (k : Int) ∧ 8 + (k : Int) < 20 then (if 0 ≤ 8 + (k : Int) ∧ 8 + (k : Int) < 20 then fL_night_L34 (hold s 0) N ((k + 1 : Nat) : Int) (wr (wr ν 61 (14 + k) x) 61 (8 + k) (w32 (wr ν 61 (14 + k) x 61 (8 + k) - by9))) else none) else none)) fun q => q.1 = hold s 0 ∧ NI s μ (s 0 0).toNat q.2 := by
      intro x by9 e9 hb
      rw [wr_ne (show ¬ (61 = 61 ∧ 8 + k = 14 + k) by omega), v8]
      unfold mmax at e9
      by_cases q : s 3 k ≤ by9
      · rw [if_pos q, if_pos (by omega)]
        refine ih (k + 1) N _ (by omega) (by omega) (step x 0 ?_)
        rw [e9, if_neg (by omega)]
      · rw [if_neg q, if_pos (by omega), if_pos (by omega), w32_i (by omega)]
        refine ih (k + 1) N _ (by omega) (by omega) (step x _ ?_)
        rw [e9, if_pos (by omega)]
    have r14 : 0 ≤ 14 + (k : Int) ∧ 14 + (k : Int) < 20 := by omega
    have r8 : 0 ≤ 8 + (k : Int) ∧ 8 + (k : Int) < 20 := by omega
    have r1 : 0 ≤ 1 + (k : Int) ∧ 1 + (k : Int) < 7 := by omega
    by_cases q : (k : Int) = hold s 0
    · rw [if_pos q] at n3'
      have q2 : ¬ ¬ (k : Int) = hold s 0 := fun w => w q
      simp only [if_neg q2, grd, if_pos r14, if_pos r8]
      have f9 := fin (w32 (ν 61 (14 + k) + 1)) 2 n3' (by omega)
      simp only [if_pos r8] at f9
      exact f9
    · rw [if_neg q] at n3'
      have v1' : ∀ x, wr ν 61 (14 + k) x 60 (1 + k) = s 1 k := fun x => by rw [wr_ne (by omega), v1]
      simp only [if_pos q, grd, if_pos r14, if_pos r8, if_pos r1, L_fades, bd_some, v1']
      have f9 := fin (w32 (ν 61 (14 + k) + 0)) (fad (s 1 k)) n3' hfd
      simp only [if_pos r8] at f9
      exact f9
theorem L_night {s μ : Mem} (hv : LV s μ) (hg : GB s) (hn : 0 ≤ s 0 2 ∧ s 0 2 ≤ 1000) : ∃ ν, fL_night μ = some (hold s 0, ν) ∧ LV (nightS s) ν ∧ ∀ c k, ¬ c = 61 → ν c k = μ c k := by
  have g0 := hg.1
  have g6 := hg.2.1
  obtain ⟨v1, v2, v3, v4⟩ := id hv
  have hf := fuel_lt
  have main : ∀ x : Int, x = nightS s 0 1 → Ev (fL_night_L34 (hold s 0) fuel 0 (wr (wr μ 61 1 x) 61 0 (w32 (wr μ 61 1 x 61 0 + 1)))) fun q => q.1 = hold s 0 ∧ LV (nightS s) q.2 ∧ ∀ c k, ¬ c = 61 → q.2 c k = μ c k := by
    intro x hx
    rw [wr_ne (show ¬ (61 = 61 ∧ 0 = 1) by omega), v2]
    generalize hρ : wr (wr μ 61 1 x) 61 0 (w32 (s 0 2 + 1)) = ρ
    have e1 : ∀ c j, ¬ c = 61 → ρ c j = μ c j := fun c j hc => by rw [← hρ, wr_ne (by omega), wr_ne (by omega)]
    have e2 : ∀ j, 2 ≤ j → ρ 61 j = μ 61 j := fun j hj => by rw [← hρ, wr_ne (by omega), wr_ne (by omega)]
    have e3 : ρ 61 0 = w32 (s 0 2 + 1) := by rw [← hρ, wr_at (by omega)]
    have e4 : ρ 61 1 = x := by rw [← hρ, wr_ne (by omega), wr_at (by omega)]
    clear hρ
    refine ev_mono (L_night_L (μ := ρ) hg (by rw [e1 _ _ (by omega), v1]) (fun i hi => by rw [e1 _ _ (by omega), (v4 i hi).1]) (s 0 0).toNat 0 fuel ρ (by omega) (by omega) ⟨fun _ _ _ => rfl, rfl, rfl, fun _ _ => rfl, fun j hj => by rw [if_neg (by omega), e2 _ (by omega), (v4 j hj).2.2]⟩) (fun q hq => ?_)
    obtain ⟨q1, n1, n2, n3, n4, n5⟩ := hq
    refine ⟨q1, ⟨by rw [n1 _ _ (by omega), e1 _ _ (by omega), night_0]; exact v1, by rw [n2, e3, night_2], by rw [n3, e4, hx], fun i hi => ?_⟩, fun c k hc => by rw [n1 _ _ hc, e1 _ _ hc]⟩
    rw [night_0] at hi
    obtain ⟨a1, a2, a3⟩ := v4 i hi
    refine ⟨by rw [n1 _ _ (by omega), e1 _ _ (by omega), night_k]; exact a1, by rw [n4 _ (by omega), e2 _ (by omega), night_d]; exact a2, by rw [n5 i hi, if_pos (by omega)]⟩
  have n1' := night_1 s
  unfold fL_night
  rw [L_most hv hg hn, bd_some]
  simp only [mlet_e]
  rcases hold_rng (p := 0) hg with h | ⟨i, h1, h2⟩
  · rw [if_pos h] at n1'
    obtain ⟨⟨a, ν⟩, b1, b2, b3, b4⟩ := main (μ 61 1) (by rw [v3, n1'])
    dsimp only at b2 b3 b4
    subst b2
    rw [if_neg (by omega)]
    exact ⟨ν, b1, b3, b4⟩
  · have hne : ¬ hold s 0 = -9 := by omega
    rw [if_neg hne] at n1'
    rw [h1, tn_c] at n1'
    obtain ⟨a1, a2, a3⟩ := v4 i h2
    have i6 : i < 6 := by omega
    obtain ⟨⟨a, ν⟩, b1, b2, b3, b4⟩ := main (μ 61 (2 + i)) (by rw [a2, n1'])
    dsimp only at b2 b3 b4
    subst b2
    rw [if_pos (by omega)]
    rw [h1] at b1 ⊢
    rw [w32_2i i6, tn_2i, grd, if_pos (by omega)]
    exact ⟨ν, b1, b3, b4⟩
/-! a number of so many -/
theorem band_7f (x : Int) : 0 ≤ band x 2147483647 := by
  unfold band
  rw [show (Int32.ofInt x &&& Int32.ofInt 2147483647).toInt = ((Int32.ofInt x).toBitVec &&& 2147483647#32).toInt from rfl]
  generalize (Int32.ofInt x).toBitVec = v
  have h : (v &&& 2147483647#32).msb = false := by
    rw [BitVec.msb_and]
    have : (2147483647#32).msb = false := by decide
    rw [this, Bool.and_false]
  rw [BitVec.toInt_eq_toNat_of_msb h]
  exact Int.natCast_nonneg _
theorem L_low {x : Int} {n : Nat} {μ : Mem} (hn : 0 < n) : ∃ r : Nat, fL_low x (n : Int) μ = some (r : Int) ∧ r < n := by
  have h := band_7f x
  obtain ⟨a, ha⟩ : ∃ a : Nat, band x 2147483647 = (a : Int) := ⟨(band x 2147483647).toNat, by omega⟩
  refine ⟨a % n, ?_, Nat.mod_lt _ hn⟩
  unfold fL_low
  rw [ha, grd, if_pos (by omega), tmod_nat]
/-! the river with its deeds, from its text on -/
def bnd (m : Nat) (s : Mem) : Prop := (0 ≤ s 0 2 ∧ s 0 2 ≤ (m : Int)) ∧ ∀ i : Nat, (i : Int) < s 0 0 → 0 ≤ s 4 i ∧ s 4 i ≤ (m : Int)
def Hs (s0 : Mem) (m : Nat) (s μ : Mem) : Prop := Nw m s μ ∧ CB 15 μ s0 ∧ s = rn s0 (fun k => μ 30 k) m ∧ (∀ k, k ≤ m → GB (rn s0 (fun k => μ 30 k) k)) ∧ bnd m s ∧ s 0 0 = s0 0 0
theorem Hs_step {s0 s s' μ ν : Mem} {m : Nat} {d : Int} (h : Hs s0 m s μ) (hN : Nw (m + 1) s' ν) (h30 : ν 30 m = d) (hu : und s d = s') (hF : Fdd m μ ν) (hb : bnd (m + 1) s') : Hs s0 (m + 1) s' ν := by
  obtain ⟨h1, h2, h3, h4, h5, h6⟩ := h
  have ed : ∀ k, k < m → (fun k => ν 30 k) k = (fun k => μ 30 k) k := fun k hk => hF _ _ (by omega) (by omega) (by omega) (by omega)
  have er : ∀ k, k ≤ m → rn s0 (fun k => ν 30 k) k = rn s0 (fun k => μ 30 k) k := fun k hk => rn_congr k (fun j hj => ed j (by omega))
  have e9 : s' = rn s0 (fun k => ν 30 k) (m + 1) := by
    rw [rn, er m (by omega), ← h3, h30, hu]
  refine ⟨hN, CB_congr h2 (fun c k hk => hF _ _ (by omega) (by omega) (by omega) (by omega)), e9, fun k hk => ?_, hb, by rw [← hu, und_0, h6]⟩
  by_cases q : k = m + 1
  · rw [q, ← e9]
    exact hN.2.2
  · rw [er k (by omega)]
    exact h4 k (by omega)
theorem bnd_night {s : Mem} {m : Nat} (h : bnd m s) (hm : m ≤ 1000) : bnd (m + 1) (nightS s) := by
  obtain ⟨h1, h2⟩ := h
  refine ⟨by rw [night_2, w32_i (by omega)]; omega, fun i hi => ?_⟩
  rw [night_0] at hi
  have h3 := h2 i hi
  rw [night_4]
  split
  · rw [w32_i (by omega)]
    omega
  · omega
theorem bnd_wr {s : Mem} {m r i : Nat} {v : Int} (h : bnd m s) (hr : r = 1 ∨ r = 2 ∨ r = 3) : bnd (m + 1) (wr s r i v) := by
  obtain ⟨h1, h2⟩ := h
  refine ⟨by rw [wr_ne (by omega)]; omega, fun j hj => ?_⟩
  rw [wr_ne (by omega)] at hj
  rw [wr_ne (by omega)]
  have := h2 j hj
  omega
theorem Hs_far {s0 s μ ν : Mem} {m : Nat} (h : Hs s0 m s μ) (e : ∀ c k, ¬ (c = 0 ∧ ¬ k = 8) → c < 60 → ¬ (25 ≤ c ∧ c ≤ 29) → ¬ (36 ≤ c ∧ c ≤ 59) → ν c k = μ c k ∨ (2 ≤ c ∧ c ≤ 8)) : Hs s0 m s ν := by
  obtain ⟨h1, h2, h3, h4, h5, h6⟩ := h
  have e' : ∀ c k, ¬ (c = 0 ∧ ¬ k = 8) → c < 60 → ¬ (2 ≤ c ∧ c ≤ 8) → ¬ (25 ≤ c ∧ c ≤ 29) → ¬ (36 ≤ c ∧ c ≤ 59) → ν c k = μ c k := fun c k a b d f g => by
    rcases e c k a b f g with w | w
    · exact w
    · exact absurd w d
  have e30 : (fun k => ν 30 k) = (fun k => μ 30 k) := funext fun k => e' _ _ (by omega) (by omega) (by omega) (by omega) (by omega)
  refine ⟨⟨by rw [e' _ _ (by omega) (by omega) (by omega) (by omega) (by omega)]; exact h1.1, CB_congr h1.2.1 (fun c k hk => e' _ _ (by omega) (by omega) (by omega) (by omega) (by omega)), h1.2.2⟩, CB_congr h2 (fun c k hk => e' _ _ (by omega) (by omega) (by omega) (by omega) (by omega)), by rw [e30]; exact h3, by rw [e30]; exact h4, h5, h6⟩
theorem Nw_far {s μ ν : Mem} {m : Nat} (h : Nw m s μ) (e : ∀ c k, c < 60 → ν c k = μ c k) : Nw m s ν := ⟨by rw [e _ _ (by omega)]; exact h.1, CB_congr h.2.1 (fun c k hk => e _ _ (by omega)), h.2.2⟩
/-- what the law's deeds leave as it is -/
def Fs (μ ν : Mem) : Prop := ∀ c k, ¬ c = 0 → ¬ (20 ≤ c ∧ c ≤ 30) → ¬ (36 ≤ c ∧ c ≤ 59) → ¬ c = 61 → ν c k = μ c k
theorem Fs_t {μ ν ρ : Mem} (h : Fs μ ν) (h2 : Fs ν ρ) : Fs μ ρ := fun c k a b d e => by rw [h2 c k a b d e, h c k a b d e]
theorem Fs_d {n : Nat} {μ ν : Mem} (h : Fdd n μ ν) : Fs μ ν := fun c k a b d _ => h c k a (by omega) (by omega) d
theorem Fs_61 {μ : Mem} {k : Nat} {v : Int} : Fs μ (wr μ 61 k v) := fun c k' a b d e => wr_ne (by omega)
theorem LV_d {n : Nat} {s μ ν : Mem} (h : LV s μ) (hF : Fdd n μ ν) : LV s ν := by
  have e : ∀ c k, 60 ≤ c → ν c k = μ c k := fun c k hc => hF _ _ (by omega) (by omega) (by omega) (by omega)
  obtain ⟨h1, h2, h3, h4⟩ := h
  refine ⟨by rw [e _ _ (by omega)]; exact h1, by rw [e _ _ (by omega)]; exact h2, by rw [e _ _ (by omega)]; exact h3, fun i hi => ?_⟩
  rw [e _ _ (by omega), e _ _ (by omega), e _ _ (by omega)]
  exact h4 i hi
theorem LV_wr3 {s μ : Mem} {i : Nat} {v : Int} (h : LV s μ) (hg : GB s) (hi : (i : Int) < s 0 0) : LV (wr s 3 i v) (wr μ 61 (8 + i) v) := by
  have g6 := hg.2.1
  obtain ⟨h1, h2, h3, h4⟩ := h
  refine ⟨by rw [wr_ne (by omega), wr_ne (by omega)]; exact h1, by rw [wr_ne (by omega), wr_ne (by omega)]; exact h2, by rw [wr_ne (by omega), wr_ne (by omega)]; exact h3, fun j hj => ?_⟩
  rw [wr_ne (by omega)] at hj
  obtain ⟨a1, a2, a3⟩ := h4 j hj
  by_cases e : j = i
  · subst e
    simp (disch := omega) only [wr_ne, wr_at]
    exact ⟨a1, a2, trivial⟩
  · simp (disch := omega) only [wr_ne]
    exact ⟨a1, a2, a3⟩
theorem LV_wr2 {s μ : Mem} {i : Nat} {v : Int} (h : LV s μ) (hg : GB s) (hi : (i : Int) < s 0 0) : LV (wr s 2 i v) (wr μ 61 (2 + i) v) := by
  have g6 := hg.2.1
  obtain ⟨h1, h2, h3, h4⟩ := h
  refine ⟨by rw [wr_ne (by omega), wr_ne (by omega)]; exact h1, by rw [wr_ne (by omega), wr_ne (by omega)]; exact h2, by rw [wr_ne (by omega), wr_ne (by omega)]; exact h3, fun j hj => ?_⟩
  rw [wr_ne (by omega)] at hj
  obtain ⟨a1, a2, a3⟩ := h4 j hj
  by_cases e : j = i
  · subst e
    simp (disch := omega) only [wr_ne, wr_at]
    exact ⟨a1, trivial, a3⟩
  · simp (disch := omega) only [wr_ne]
    exact ⟨a1, a2, a3⟩
theorem Hs_61 {s0 s μ : Mem} {m k : Nat} {v : Int} (h : Hs s0 m s μ) : Hs s0 m s (wr μ 61 k v) := Hs_far h (fun c k' _ hc _ _ => Or.inl (wr_ne (by omega)))
def SI (s0 μ0 : Mem) (m0 k : Nat) (ν : Mem) : Prop := ∃ (m : Nat) (s : Mem), m ≤ m0 + k ∧ Hs s0 m s ν ∧ LV s ν ∧ Fs μ0 ν
theorem L_stir_L {s0 μ0 : Mem} {m0 : Nat} {x : Int} (h1 : 1 ≤ s0 0 0) (hm0 : m0 ≤ 30) : ∀ (m k N : Nat) (ν : Mem), k + m = 4 → m < N → SI s0 μ0 m0 k ν → Ev (fL_stir_L6 4 x N 1 (k : Int) ν) fun q => q.1 = 1 ∧ SI s0 μ0 m0 4 q.2 := by
  intro m
  induction m with
  | zero =>
    intro k N ν e1 e2 h
    obtain ⟨N, rfl⟩ : ∃ j, N = j + 1 := ⟨N - 1, by omega⟩
    obtain rfl : k = 4 := by omega
    rw [fL_stir_L6, if_pos (by omega), grd, if_pos (by omega)]
    exact ev_some.mpr ⟨rfl, h⟩
  | succ m ih =>
    intro k N ν e1 e2 h
    obtain ⟨N, rfl⟩ : ∃ j, N = j + 1 := ⟨N - 1, by omega⟩
    obtain ⟨n, s, hn, hH, hv, hF⟩ := h
    obtain ⟨hN, h15, hh, hgb, hbd, hs0⟩ := id hH
    have hg := hN.2.2
    have g0 := hg.1
    have g6 := hg.2.1
    have next : ∀ ν', SI s0 μ0 m0 (k + 1) ν' → Ev (fL_stir_L6 4 x N 1 (w32 ((k : Int) + 1)) ν') fun q => q.1 = 1 ∧ SI s0 μ0 m0 4 q.2 := fun ν' h' => by
      rw [w32_s (by omega)]
      exact ih (k + 1) N ν' (by omega) (by omega) h'
    have same : Ev (fL_stir_L6 4 x N 1 (w32 ((k : Int) + 1)) ν) fun q => q.1 = 1 ∧ SI s0 μ0 m0 4 q.2 := next ν ⟨n, s, by omega, hH, hv, hF⟩
    rw [fL_stir_L6, if_neg (by omega)]
    generalize w32 ((k : Int) + 1) = kk at next same ⊢
    simp only [mlet_e]
    generalize w32 (bshr x (w32 (3 * (k : Int))) + w32 (7 * (k : Int))) = y
    obtain ⟨p, hp⟩ : ∃ p : Nat, s 0 0 = (p : Int) := ⟨(s 0 0).toNat, by omega⟩
    obtain ⟨i, a1, a2⟩ := L_low (x := bshr y 3) (n := p) (μ := ν) (by omega)
    obtain ⟨r, b1, b2⟩ := L_low (x := bshr y 6) (n := 9) (μ := ν) (by omega)
    have hi : (i : Int) < s 0 0 := by omega
    have i6 : i < 6 := by omega
    have e9 : w32 (1 + (r : Int)) = ((1 + r : Nat) : Int) := by
      rw [w32_i (by omega)]
      omega
    obtain ⟨t1, t2, t3⟩ := tol_rng hg hi
    obtain ⟨v1, v2, v3⟩ := hv.2.2.2 i hi
    have r8 : 0 ≤ 8 + (i : Int) ∧ 8 + (i : Int) < 20 := by omega
    have r2 : 0 ≤ 2 + (i : Int) ∧ 2 + (i : Int) < 20 := by omega
    have b1' : fL_low (bshr y 6) 9 ν = some (r : Int) := b1
    rw [hv.1, hp, a1, bd_some, b1', bd_some, e9]
    clear e9
    simp only [w32_8i i6, w32_2i i6, tn_8i, tn_2i, grd, if_pos r8, if_pos r2, v2, v3, if_neg (show ¬ (1 : Int) = 0 by omega)]
    generalize band y 7 = way
    have door : Ev (if way ≤ 5 then fL_stir_L6 4 x N 1 kk ν else if s 2 i = ((1 + r : Nat) : Int) then fL_stir_L6 4 x N 1 kk ν else bnd2 (fX1_door (i : Int) ((1 + r : Nat) : Int) (wr ν 61 (2 + i) ((1 + r : Nat) : Int))) fun x23 μ24 => if ¬ x23 = s 2 i then fL_stir_L6 4 x N 0 kk μ24 else fL_stir_L6 4 x N 1 kk μ24) fun q => q.1 = 1 ∧ SI s0 μ0 m0 4 q.2 := by
      by_cases c1 : way ≤ 5
      · rw [if_pos c1]; exact same
      · rw [if_neg c1]
        by_cases c2 : s 2 i = ((1 + r : Nat) : Int)
        · rw [if_pos c2]; exact same
        · rw [if_neg c2]
          have hH' := Hs_61 (k := 2 + i) (v := ((1 + r : Nat) : Int)) hH
          obtain ⟨μ1, d1, d2, d3, d4⟩ := C_door (y := 1 + r) hH'.1 (by omega) hi (by omega) c2
          rw [d1, bnd2_some, if_neg (by omega)]
          exact next μ1 ⟨n + 1, _, by omega, Hs_step hH' d2 d3 (und_door hg hi (by omega)) d4 (bnd_wr hbd (by omega)), LV_d (LV_wr2 hv hg hi) d4, Fs_t (Fs_t hF Fs_61) (Fs_d d4)⟩
    have shame : Ev (if ¬ way = 5 then (if way ≤ 5 then fL_stir_L6 4 x N 1 kk ν else if s 2 i = ((1 + r : Nat) : Int) then fL_stir_L6 4 x N 1 kk ν else bnd2 (fX1_door (i : Int) ((1 + r : Nat) : Int) (wr ν 61 (2 + i) ((1 + r : Nat) : Int))) fun x23 μ24 => if ¬ x23 = s 2 i then fL_stir_L6 4 x N 0 kk μ24 else fL_stir_L6 4 x N 1 kk μ24) else if s 3 i < ((1 + r : Nat) : Int) then (if way ≤ 5 then fL_stir_L6 4 x N 1 kk ν else if s 2 i = ((1 + r : Nat) : Int) then fL_stir_L6 4 x N 1 kk ν else bnd2 (fX1_door (i : Int) ((1 + r : Nat) : Int) (wr ν 61 (2 + i) ((1 + r : Nat) : Int))) fun x23 μ24 => if ¬ x23 = s 2 i then fL_stir_L6 4 x N 0 kk μ24 else fL_stir_L6 4 x N 1 kk μ24) else bnd2 (fX1_shame (i : Int) ((1 + r : Nat) : Int) (wr ν 61 (8 + i) (w32 (s 3 i - ((1 + r : Nat) : Int))))) fun x35 μ36 => if ¬ x35 = μ36 61 (8 + i) then fL_stir_L6 4 x N 0 kk μ36 else fL_stir_L6 4 x N 1 kk μ36) fun q => q.1 = 1 ∧ SI s0 μ0 m0 4 q.2 := by
      by_cases c1 : way = 5
      · rw [if_neg (fun w => w c1)]
        by_cases c2 : s 3 i < ((1 + r : Nat) : Int)
        · rw [if_pos c2]; exact door
        · rw [if_neg c2, w32_i (by omega)]
          have hH' := Hs_61 (k := 8 + i) (v := s 3 i - ((1 + r : Nat) : Int)) hH
          obtain ⟨μ1, d1, d2, d3, d4⟩ := C_shame (y := 1 + r) hH'.1 (by omega) hi (by omega) (by omega)
          have eu : und s (dd 2 (i : Int) ((1 + r : Nat) : Int)) = wr s 3 i (s 3 i - ((1 + r : Nat) : Int)) := by
            rw [und_shame hg hi (by omega)]
            unfold mmax
            by_cases z : s 3 i = ((1 + r : Nat) : Int)
            · rw [if_neg (by omega)]
              congr 1
              omega
            · rw [if_pos (by omega)]
          have e61 : μ1 61 (8 + i) = s 3 i - ((1 + r : Nat) : Int) := by rw [d4 _ _ (by omega) (by omega) (by omega) (by omega), wr_at (by omega)]
          rw [d1, bnd2_some, e61, if_neg (fun w => w rfl)]
          exact next μ1 ⟨n + 1, _, by omega, Hs_step hH' d2 d3 eu d4 (bnd_wr hbd (by omega)), LV_d (LV_wr3 hv hg hi) d4, Fs_t (Fs_t hF Fs_61) (Fs_d d4)⟩
      · rw [if_pos c1]; exact door
    by_cases c1 : 3 ≤ way
    · rw [if_pos c1]
      by_cases c2 : 5 ≤ way
      · rw [if_pos c2]; exact shame
      · rw [if_neg c2]
        by_cases c3 : 21 ≤ w32 (s 3 i + ((1 + r : Nat) : Int))
        · rw [if_pos c3]; exact shame
        · rw [if_neg c3]
          rw [w32_i (by omega)] at c3 ⊢
          have hH' := Hs_61 (k := 8 + i) (v := s 3 i + ((1 + r : Nat) : Int)) hH
          obtain ⟨μ1, d1, d2, d3, d4⟩ := C_raise (y := 1 + r) hH'.1 (by omega) hi (by omega) (by omega)
          have eu : und s (dd 1 (i : Int) ((1 + r : Nat) : Int)) = wr s 3 i (s 3 i + ((1 + r : Nat) : Int)) := by
            rw [und_raise hg hi (by omega)]
            unfold mmin
            by_cases z : s 3 i + ((1 + r : Nat) : Int) = 20
            · rw [if_neg (by omega), z]
            · rw [if_pos (by omega)]
          have e61 : μ1 61 (8 + i) = s 3 i + ((1 + r : Nat) : Int) := by rw [d4 _ _ (by omega) (by omega) (by omega) (by omega), wr_at (by omega)]
          rw [d1, bnd2_some, e61, if_neg (fun w => w rfl)]
          exact next μ1 ⟨n + 1, _, by omega, Hs_step hH' d2 d3 eu d4 (bnd_wr hbd (by omega)), LV_d (LV_wr3 hv hg hi) d4, Fs_t (Fs_t hF Fs_61) (Fs_d d4)⟩
    · rw [if_neg c1]
      obtain ⟨μ1, d1, d2, d3⟩ := L_night hv hg (by have := hbd.1; omega)
      have hH1 : Hs s0 n s μ1 := Hs_far hH (fun c k' _ hc _ _ => Or.inl (d3 _ _ (by omega)))
      obtain ⟨μ2, f1, f2, f3, f4⟩ := C_night hH1.1 (by omega) (by omega)
      rw [d1, bnd2_some, f1, bnd2_some, if_neg (fun w => w rfl)]
      exact next μ2 ⟨n + 1, _, by omega, Hs_step hH1 f2 f3 und_night f4 (bnd_night hbd (by omega)), LV_d d2 f4, Fs_t (Fs_t hF (fun c k a b d e => d3 c k e)) (Fs_d f4)⟩
theorem L_stir {s0 s μ : Mem} {m : Nat} {x : Int} (hH : Hs s0 m s μ) (hm : m ≤ 30) (h1 : 1 ≤ s0 0 0) (hv : LV s μ) : ∃ ν m' s', fL_stir x 4 μ = some (1, ν) ∧ m' ≤ m + 4 ∧ Hs s0 m' s' ν ∧ LV s' ν ∧ Fs μ ν := by
  have hf := fuel_lt
  obtain ⟨⟨a, ν⟩, b1, b2, m', s', b3, b4, b5, b6⟩ := L_stir_L (s0 := s0) (μ0 := μ) (m0 := m) (x := x) h1 hm 4 0 fuel μ (by omega) (by omega) ⟨m, s, by omega, hH, hv, fun _ _ _ _ _ _ => rfl⟩
  dsimp only at b2 b4 b5 b6
  subst b2
  exact ⟨ν, m', s', b1, by omega, b4, b5, b6⟩
