/-! digest -/
def hR (v : Nat → Int) (h : Int) : Nat → Int
  | 0 => h
  | k + 1 => w64 (w64 (31 * hR v h k) + v k)
theorem hR_eq {v u : Nat → Int} {h : Int} {n : Nat} (e : ∀ k, k < n → v k = u k) : hR v h n = hR u h n := by
  induction n with
  | zero => rfl
  | succ n ih => rw [hR, hR, ih (fun k hk => e k (by omega)), e n (by omega)]
theorem e_dg6 {μ : Mem} {v : Nat → Int} {h : Int} {K : Int → Option Int} (hv : ∀ k : Nat, k < 12 → fX1_count (k : Int) μ = some (v k)) : ∀ (m k N : Nat), k + m = 12 → m < N → fX1_digest_L6 K μ N (hR v h k) (k : Int) = K (hR v h 12) := by
  intro m
  induction m with
  | zero =>
    intro k N h1 h2
    obtain ⟨N, rfl⟩ : ∃ j, N = j + 1 := ⟨N - 1, by omega⟩
    obtain rfl : k = 12 := by omega
    rw [fX1_digest_L6, if_pos (by omega)]
  | succ m ih =>
    intro k N h1 h2
    obtain ⟨N, rfl⟩ : ∃ j, N = j + 1 := ⟨N - 1, by omega⟩
    rw [fX1_digest_L6, if_neg (by omega), hv k (by omega), bd_some, mlet_e, mlet_e, w32_s (by omega)]
    exact ih (k + 1) N (by omega) (by omega)
def tvS (s : Mem) (j : Nat) : Int := tolS s (j / 6) ((j % 6 : Nat) : Int)
theorem e_dg47 {μ s : Mem} {i : Nat} {h : Int} {K : Int → Option Int} (hc : CB 20 μ s) (hg : GB s) (hi : (i : Int) < s 0 0) : ∀ (m w N : Nat), w + m = 6 → m < N → fX1_digest_L47 K (i : Int) μ N (hR (tvS s) h (6 * i + w)) (w : Int) = K (hR (tvS s) h (6 * i + 6)) := by
  intro m
  induction m with
  | zero =>
    intro w N h1 h2
    obtain ⟨N, rfl⟩ : ∃ j, N = j + 1 := ⟨N - 1, by omega⟩
    obtain rfl : w = 6 := by omega
    rw [fX1_digest_L47, if_pos (by omega)]
  | succ m ih =>
    intro w N h1 h2
    obtain ⟨N, rfl⟩ : ∃ j, N = j + 1 := ⟨N - 1, by omega⟩
    have e : tvS s (6 * i + w) = tolS s i (w : Int) := by
      unfold tvS
      rw [show (6 * i + w) / 6 = i by omega, show (6 * i + w) % 6 = w by omega]
    rw [fX1_digest_L47, if_neg (by omega), e_told hc hg hi, bd_some, mlet_e, mlet_e, w32_s (by omega), ← e]
    exact ih (w + 1) N (by omega) (by omega)
theorem e_dg33 {μ s : Mem} {h : Int} {K : Int → Option Int} (hc : CB 20 μ s) (hg : GB s) : ∀ (m k N : Nat), k + m = (s 0 0).toNat → m < N → fX1_digest_L33 μ K N (hR (tvS s) h (6 * k)) (k : Int) = K (hR (tvS s) h (6 * (s 0 0).toNat)) := by
  have g0 := hg.1
  have g6 := hg.2.1
  intro m
  induction m with
  | zero =>
    intro k N h1 h2
    obtain ⟨N, rfl⟩ : ∃ j, N = j + 1 := ⟨N - 1, by omega⟩
    obtain rfl : k = (s 0 0).toNat := by omega
    rw [fX1_digest_L33, hc.1, if_pos (by omega)]
  | succ m ih =>
    intro k N h1 h2
    obtain ⟨N, rfl⟩ : ∃ j, N = j + 1 := ⟨N - 1, by omega⟩
    rw [fX1_digest_L33, hc.1, if_neg (by omega)]
    have hf := fuel_lt
    generalize fuel = F at hf ⊢
    simp only [mlet_e]
    refine (e_dg47 (i := k) (h := h) hc hg (by omega) 6 0 F (by omega) (by omega)).trans ?_
    rw [w32_s (by omega)]
    exact ih (k + 1) N (by omega) (by omega)
theorem e_dg86 {μ : Mem} {h : Int} {K : Int → Option Int} : ∀ (m k N : Nat), k + m = 3 → m < N → fX1_digest_L86 K μ N (hR (fun k => μ 35 k) h k) (k : Int) = K (hR (fun k => μ 35 k) h 3) := by
  intro m
  induction m with
  | zero =>
    intro k N h1 h2
    obtain ⟨N, rfl⟩ : ∃ j, N = j + 1 := ⟨N - 1, by omega⟩
    obtain rfl : k = 3 := by omega
    rw [fX1_digest_L86, if_pos (by omega)]
  | succ m ih =>
    intro k N h1 h2
    obtain ⟨N, rfl⟩ : ∃ j, N = j + 1 := ⟨N - 1, by omega⟩
    rw [fX1_digest_L86, if_neg (by omega)]
    simp (disch := omega) only [mlet_e, w32_s, grd, if_pos, tn_c]
    exact ih (k + 1) N (by omega) (by omega)
theorem tn_821c {k : Nat} : (821 * (k : Int) + 0).toNat = 821 * k := by omega
/-- rows behind each other: their sizes in cell a, themselves in those from b on -/
def rwR (μ : Mem) (a b : Nat) (h : Int) : Nat → Int
  | 0 => h
  | r + 1 => hR (fun i => μ (b + r) i) (w64 (w64 (31 * rwR μ a b h r) + μ a r)) (μ a r).toNat
theorem e_dg136 {μ : Mem} {r n : Nat} {h : Int} {K : Int → Option Int} (hr : r < 6) (hn : n ≤ 40) (hs : ∀ k : Nat, μ 8 r ≤ (k : Int) ↔ n ≤ k) : ∀ (m k N : Nat), k + m = n → m < N → fX1_digest_L136 (r : Int) μ K N (hR (fun i => μ (2 + r) i) h k) (k : Int) = K (hR (fun i => μ (2 + r) i) h n) := by
  intro m
  induction m with
  | zero =>
    intro k N h1 h2
    obtain ⟨N, rfl⟩ : ∃ j, N = j + 1 := ⟨N - 1, by omega⟩
    obtain rfl : k = n := by omega
    rw [fX1_digest_L136]
    simp (disch := omega) only [grd, if_pos, tn_c]
    rw [if_pos ((hs k).mpr (Nat.le_refl _))]
  | succ m ih =>
    intro k N h1 h2
    obtain ⟨N, rfl⟩ : ∃ j, N = j + 1 := ⟨N - 1, by omega⟩
    rw [fX1_digest_L136]
    simp (disch := omega) only [grd, if_pos, tn_c, mlet_e, w32_s]
    rw [if_neg (fun w => absurd ((hs k).mp w) (by omega))]
    exact ih (k + 1) N (by omega) (by omega)
theorem e_dg200 {μ : Mem} {r n : Nat} {h : Int} {K : Int → Option Int} (hr : r < 4) (hn : n ≤ 60) (hs : ∀ k : Nat, μ 14 r ≤ (k : Int) ↔ n ≤ k) : ∀ (m k N : Nat), k + m = n → m < N → fX1_digest_L200 (r : Int) μ K N (hR (fun i => μ (10 + r) i) h k) (k : Int) = K (hR (fun i => μ (10 + r) i) h n) := by
  intro m
  induction m with
  | zero =>
    intro k N h1 h2
    obtain ⟨N, rfl⟩ : ∃ j, N = j + 1 := ⟨N - 1, by omega⟩
    obtain rfl : k = n := by omega
    rw [fX1_digest_L200]
    simp (disch := omega) only [grd, if_pos, tn_c]
    rw [if_pos ((hs k).mpr (Nat.le_refl _))]
  | succ m ih =>
    intro k N h1 h2
    obtain ⟨N, rfl⟩ : ∃ j, N = j + 1 := ⟨N - 1, by omega⟩
    rw [fX1_digest_L200]
    simp (disch := omega) only [grd, if_pos, tn_c, mlet_e, w32_s]
    rw [if_neg (fun w => absurd ((hs k).mp w) (by omega))]
    exact ih (k + 1) N (by omega) (by omega)
theorem le_tn {x : Int} (k : Nat) : x ≤ (k : Int) ↔ x.toNat ≤ k := by omega
