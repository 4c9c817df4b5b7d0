/-! digest -/
def hR (v : Nat → Int) (h : Int) : Nat → Int
  | 0 => h
  | k + 1 => w64 (w64 (31 * hR v h k) + v k)
theorem hR_eq {v u : Nat → Int} {h : Int} {n : Nat} (e : ∀ k, k < n → v k = u k) : hR v h n = hR u h n := by
  induction n with
  | zero => rfl
  | succ n ih => rw [hR, hR, ih (fun k hk => e k (by omega)), e n (by omega)]
theorem e_dg6 {μ : Mem} {v : Nat → Int} {h : Int} {K : Int → Option Int} (hv : ∀ k : Nat, k < 12 → fX1_count (k : Int) μ = some (v k)) : ∀ (m k N : Nat), k + m = 12 → m < N → fX1_digest_L6 K μ N (hR v h k) (k : Int) = K (hR v h 12) := by
  intro m
  induction m with
  | zero =>
    intro k N h1 h2
    obtain ⟨N, rfl⟩ : ∃ j, N = j + 1 := ⟨N - 1, by omega⟩
    obtain rfl : k = 12 := by omega
    rw [fX1_digest_L6, if_pos (by omega)]
  | succ m ih =>
    intro k N h1 h2
    obtain ⟨N, rfl⟩ : ∃ j, N = j + 1 := ⟨N - 1, by omega⟩
    rw [fX1_digest_L6, if_neg (by omega), hv k (by omega), bd_some, mlet_e, mlet_e, w32_s (by omega)]
    exact ih (k + 1) N (by omega) (by omega)
theorem e_dg6b {μ : Mem} {v : Nat → Int} {h : Int} {K : Int → Option Int} (hv : ∀ k : Nat, k < 12 → fX2_countOf (k : Int) μ = some (v k)) : ∀ (m k N : Nat), k + m = 12 → m < N → fX2_digest_L6 K μ N (hR v h k) (k : Int) = K (hR v h 12) := by
  intro m
  induction m with
  | zero =>
    intro k N h1 h2
    obtain ⟨N, rfl⟩ : ∃ j, N = j + 1 := ⟨N - 1, by omega⟩
    obtain rfl : k = 12 := by omega
    rw [fX2_digest_L6, if_pos (by omega)]
  | succ m ih =>
    intro k N h1 h2
    obtain ⟨N, rfl⟩ : ∃ j, N = j + 1 := ⟨N - 1, by omega⟩
    rw [fX2_digest_L6, if_neg (by omega), hv k (by omega), bd_some, mlet_e, mlet_e, w32_s (by omega)]
    exact ih (k + 1) N (by omega) (by omega)
def tvS (s : Mem) (j : Nat) : Int := tolS s (j / 6) ((j % 6 : Nat) : Int)
theorem e_dg47 {μ s : Mem} {i : Nat} {h : Int} {K : Int → Option Int} (hc : CB 20 μ s) (hg : GB s) (hi : (i : Int) < s 0 0) : ∀ (m w N : Nat), w + m = 6 → m < N → fX1_digest_L47 K (i : Int) μ N (hR (tvS s) h (6 * i + w)) (w : Int) = K (hR (tvS s) h (6 * i + 6)) := by
  intro m
  induction m with
  | zero =>
    intro w N h1 h2
    obtain ⟨N, rfl⟩ : ∃ j, N = j + 1 := ⟨N - 1, by omega⟩
    obtain rfl : w = 6 := by omega
    rw [fX1_digest_L47, if_pos (by omega)]
  | succ m ih =>
    intro w N h1 h2
    obtain ⟨N, rfl⟩ : ∃ j, N = j + 1 := ⟨N - 1, by omega⟩
    have e : tvS s (6 * i + w) = tolS s i (w : Int) := by
      unfold tvS
      rw [show (6 * i + w) / 6 = i by omega, show (6 * i + w) % 6 = w by omega]
    rw [fX1_digest_L47, if_neg (by omega), e_told hc hg hi, bd_some, mlet_e, mlet_e, w32_s (by omega), ← e]
    exact ih (w + 1) N (by omega) (by omega)
theorem e_dg33 {μ s : Mem} {h : Int} {K : Int → Option Int} (hc : CB 20 μ s) (hg : GB s) : ∀ (m k N : Nat), k + m = (s 0 0).toNat → m < N → fX1_digest_L33 μ K N (hR (tvS s) h (6 * k)) (k : Int) = K (hR (tvS s) h (6 * (s 0 0).toNat)) := by
  have g0 := hg.1
  have g6 := hg.2.1
  intro m
  induction m with
  | zero =>
    intro k N h1 h2
    obtain ⟨N, rfl⟩ : ∃ j, N = j + 1 := ⟨N - 1, by omega⟩
    obtain rfl : k = (s 0 0).toNat := by omega
    rw [fX1_digest_L33, hc.1, if_pos (by omega)]
  | succ m ih =>
    intro k N h1 h2
    obtain ⟨N, rfl⟩ : ∃ j, N = j + 1 := ⟨N - 1, by omega⟩
    rw [fX1_digest_L33, hc.1, if_neg (by omega)]
    have hf := fuel_lt
    generalize fuel = F at hf ⊢
    simp only [mlet_e]
    refine (e_dg47 (i := k) (h := h) hc hg (by omega) 6 0 F (by omega) (by omega)).trans ?_
    rw [w32_s (by omega)]
    exact ih (k + 1) N (by omega) (by omega)
theorem e_dg33b {μ s : Mem} {h : Int} {K : Int → Option Int} (hc : MB 0 μ s) (hg : GB s) : ∀ (m k N : Nat), k + m = 6 * (s 0 0).toNat → m < N → fX2_digest_L33 μ K N (hR (tvS s) h k) (k : Int) = K (hR (tvS s) h (6 * (s 0 0).toNat)) := by
  have g0 := hg.1
  have g6 := hg.2.1
  intro m
  induction m with
  | zero =>
    intro k N h1 h2
    obtain ⟨N, rfl⟩ : ∃ j, N = j + 1 := ⟨N - 1, by omega⟩
    obtain rfl : k = 6 * (s 0 0).toNat := by omega
    rw [fX2_digest_L33, hc.1, w32_i (by omega), if_pos (by omega)]
  | succ m ih =>
    intro k N h1 h2
    obtain ⟨N, rfl⟩ : ∃ j, N = j + 1 := ⟨N - 1, by omega⟩
    have a1 : (k : Int).tdiv 6 = ((k / 6 : Nat) : Int) := tdiv_nat k 6
    have a2 : (k : Int).tmod 6 = ((k % 6 : Nat) : Int) := tmod_nat k 6
    rw [fX2_digest_L33, hc.1, w32_i (z := 6 * s 0 0) (by omega), if_neg (by omega), a1, a2]
    clear a1 a2
    rw [w32_i (z := ((k / 6 : Nat) : Int)) (by omega), e_toldOf hc hg (by omega), bd_some, mlet_e, mlet_e, w32_s (by omega)]
    exact ih (k + 1) N (by omega) (by omega)
theorem e_dg86 {μ : Mem} {h : Int} {K : Int → Option Int} : ∀ (m k N : Nat), k + m = 3 → m < N → fX1_digest_L86 K μ N (hR (fun k => μ 35 k) h k) (k : Int) = K (hR (fun k => μ 35 k) h 3) := by
  intro m
  induction m with
  | zero =>
    intro k N h1 h2
    obtain ⟨N, rfl⟩ : ∃ j, N = j + 1 := ⟨N - 1, by omega⟩
    obtain rfl : k = 3 := by omega
    rw [fX1_digest_L86, if_pos (by omega)]
  | succ m ih =>
    intro k N h1 h2
    obtain ⟨N, rfl⟩ : ∃ j, N = j + 1 := ⟨N - 1, by omega⟩
    rw [fX1_digest_L86, if_neg (by omega)]
    simp (disch := omega) only [mlet_e, w32_s, grd, if_pos, tn_c]
    exact ih (k + 1) N (by omega) (by omega)
theorem tn_821c {k : Nat} : (821 * (k : Int) + 0).toNat = 821 * k := by omega
theorem e_dg72 {μ : Mem} {v : Nat → Int} {h : Int} {K : Int → Option Int} (hv : ∀ k, k < 3 → μ 61 (821 * (k + 1)) = v k) : ∀ (m k N : Nat), k + m = 3 → m < N → fX2_digest_L72 K μ N (hR v h k) ((k + 1 : Nat) : Int) = K (hR v h 3) := by
  intro m
  induction m with
  | zero =>
    intro k N h1 h2
    obtain ⟨N, rfl⟩ : ∃ j, N = j + 1 := ⟨N - 1, by omega⟩
    obtain rfl : k = 3 := by omega
    rw [fX2_digest_L72, if_pos (by omega)]
  | succ m ih =>
    intro k N h1 h2
    obtain ⟨N, rfl⟩ : ∃ j, N = j + 1 := ⟨N - 1, by omega⟩
    rw [fX2_digest_L72, if_neg (by omega), w32_i (z := 821 * ((k + 1 : Nat) : Int)) (by omega), w32_i (z := 821 * ((k + 1 : Nat) : Int) + 0) (by omega)]
    simp (disch := omega) only [mlet_e, w32_s, grd, if_pos, tn_821c]
    rw [hv k (by omega)]
    exact ih (k + 1) N (by omega) (by omega)
/-- rows behind each other: their sizes in cell a, themselves in those from b on -/
def rwR (μ : Mem) (a b : Nat) (h : Int) : Nat → Int
  | 0 => h
  | r + 1 => hR (fun i => μ (b + r) i) (w64 (w64 (31 * rwR μ a b h r) + μ a r)) (μ a r).toNat
theorem e_dg136 {μ : Mem} {r n : Nat} {h : Int} {K : Int → Option Int} (hr : r < 6) (hn : n ≤ 40) (hs : ∀ k : Nat, μ 8 r ≤ (k : Int) ↔ n ≤ k) : ∀ (m k N : Nat), k + m = n → m < N → fX1_digest_L136 (r : Int) μ K N (hR (fun i => μ (2 + r) i) h k) (k : Int) = K (hR (fun i => μ (2 + r) i) h n) := by
  intro m
  induction m with
  | zero =>
    intro k N h1 h2
    obtain ⟨N, rfl⟩ : ∃ j, N = j + 1 := ⟨N - 1, by omega⟩
    obtain rfl : k = n := by omega
    rw [fX1_digest_L136]
    simp (disch := omega) only [grd, if_pos, tn_c]
    rw [if_pos ((hs k).mpr (Nat.le_refl _))]
  | succ m ih =>
    intro k N h1 h2
    obtain ⟨N, rfl⟩ : ∃ j, N = j + 1 := ⟨N - 1, by omega⟩
    rw [fX1_digest_L136]
    simp (disch := omega) only [grd, if_pos, tn_c, mlet_e, w32_s]
    rw [if_neg (fun w => absurd ((hs k).mp w) (by omega))]
    exact ih (k + 1) N (by omega) (by omega)
theorem e_dg128 {μ : Mem} {r n : Nat} {h : Int} {K : Int → Option Int} (hr : r < 6) (hn : n ≤ 40) (hs : ∀ k : Nat, μ 63 r ≤ (k : Int) ↔ n ≤ k) (e : ∀ i, i < 40 → μ 64 (40 * r + i) = μ (2 + r) i) : ∀ (m k N : Nat), k + m = n → m < N → fX2_digest_L128 (r : Int) μ K N (hR (fun i => μ (2 + r) i) h k) (k : Int) = K (hR (fun i => μ (2 + r) i) h n) := by
  intro m
  induction m with
  | zero =>
    intro k N h1 h2
    obtain ⟨N, rfl⟩ : ∃ j, N = j + 1 := ⟨N - 1, by omega⟩
    obtain rfl : k = n := by omega
    rw [fX2_digest_L128]
    simp (disch := omega) only [grd, if_pos, tn_c]
    rw [if_pos ((hs k).mpr (Nat.le_refl _))]
  | succ m ih =>
    intro k N h1 h2
    obtain ⟨N, rfl⟩ : ∃ j, N = j + 1 := ⟨N - 1, by omega⟩
    rw [fX2_digest_L128, w32_i (z := 40 * (r : Int)) (by omega), w32_i (z := 40 * (r : Int) + (k : Int)) (by omega)]
    simp (disch := omega) only [grd, if_pos, tn_c, mlet_e, w32_s, tn_40]
    rw [if_neg (fun w => absurd ((hs k).mp w) (by omega)), e k (by omega)]
    exact ih (k + 1) N (by omega) (by omega)
theorem e_dg200 {μ : Mem} {r n : Nat} {h : Int} {K : Int → Option Int} (hr : r < 4) (hn : n ≤ 60) (hs : ∀ k : Nat, μ 14 r ≤ (k : Int) ↔ n ≤ k) : ∀ (m k N : Nat), k + m = n → m < N → fX1_digest_L200 (r : Int) μ K N (hR (fun i => μ (10 + r) i) h k) (k : Int) = K (hR (fun i => μ (10 + r) i) h n) := by
  intro m
  induction m with
  | zero =>
    intro k N h1 h2
    obtain ⟨N, rfl⟩ : ∃ j, N = j + 1 := ⟨N - 1, by omega⟩
    obtain rfl : k = n := by omega
    rw [fX1_digest_L200]
    simp (disch := omega) only [grd, if_pos, tn_c]
    rw [if_pos ((hs k).mpr (Nat.le_refl _))]
  | succ m ih =>
    intro k N h1 h2
    obtain ⟨N, rfl⟩ : ∃ j, N = j + 1 := ⟨N - 1, by omega⟩
    rw [fX1_digest_L200]
    simp (disch := omega) only [grd, if_pos, tn_c, mlet_e, w32_s]
    rw [if_neg (fun w => absurd ((hs k).mp w) (by omega))]
    exact ih (k + 1) N (by omega) (by omega)
theorem e_dg195 {μ : Mem} {r n : Nat} {h : Int} {K : Int → Option Int} (hr : r < 4) (hn : n ≤ 60) (hs : ∀ k : Nat, μ 65 r ≤ (k : Int) ↔ n ≤ k) (e : ∀ i, i < 60 → μ 66 (60 * r + i) = μ (10 + r) i) : ∀ (m k N : Nat), k + m = n → m < N → fX2_digest_L195 (r : Int) μ K N (hR (fun i => μ (10 + r) i) h k) (k : Int) = K (hR (fun i => μ (10 + r) i) h n) := by
  intro m
  induction m with
  | zero =>
    intro k N h1 h2
    obtain ⟨N, rfl⟩ : ∃ j, N = j + 1 := ⟨N - 1, by omega⟩
    obtain rfl : k = n := by omega
    rw [fX2_digest_L195]
    simp (disch := omega) only [grd, if_pos, tn_c]
    rw [if_pos ((hs k).mpr (Nat.le_refl _))]
  | succ m ih =>
    intro k N h1 h2
    obtain ⟨N, rfl⟩ : ∃ j, N = j + 1 := ⟨N - 1, by omega⟩
    rw [fX2_digest_L195, w32_i (z := 60 * (r : Int)) (by omega), w32_i (z := 60 * (r : Int) + (k : Int)) (by omega)]
    simp (disch := omega) only [grd, if_pos, tn_c, mlet_e, w32_s, tn_60]
    rw [if_neg (fun w => absurd ((hs k).mp w) (by omega)), e k (by omega)]
    exact ih (k + 1) N (by omega) (by omega)
theorem le_tn {x : Int} (k : Nat) : x ≤ (k : Int) ↔ x.toNat ≤ k := by omega
theorem e_dg113 {μ : Mem} {h : Int} {K : Int → Option Int} (hI : RowsI μ) : ∀ (m r N : Nat), r + m = 6 → m < N → fX1_digest_L113 K μ N (rwR μ 8 2 h r) (r : Int) = K (rwR μ 8 2 h 6) := by
  intro m
  induction m with
  | zero =>
    intro r N h1 h2
    obtain ⟨N, rfl⟩ : ∃ j, N = j + 1 := ⟨N - 1, by omega⟩
    obtain rfl : r = 6 := by omega
    rw [fX1_digest_L113, if_pos (by omega)]
  | succ m ih =>
    intro r N h1 h2
    obtain ⟨N, rfl⟩ : ∃ j, N = j + 1 := ⟨N - 1, by omega⟩
    obtain ⟨k1, k2, k3, k4⟩ := hI r (by omega)
    rw [fX1_digest_L113, if_neg (by omega)]
    have hf := fuel_lt
    generalize fuel = F at hf ⊢
    simp (disch := omega) only [grd, if_pos, tn_c, mlet_e]
    refine (e_dg136 (r := r) (n := (μ 8 r).toNat) (by omega) (by omega) le_tn (μ 8 r).toNat 0 F (by omega) (by omega)).trans ?_
    rw [w32_s (by omega)]
    exact ih (r + 1) N (by omega) (by omega)
theorem e_dg105 {μ : Mem} {h : Int} {K : Int → Option Int} (hI : RowsI μ) : ∀ (m r N : Nat), r + m = 6 → m < N → fX2_digest_L105 K μ N (rwR μ 8 2 h r) (r : Int) = K (rwR μ 8 2 h 6) := by
  intro m
  induction m with
  | zero =>
    intro r N h1 h2
    obtain ⟨N, rfl⟩ : ∃ j, N = j + 1 := ⟨N - 1, by omega⟩
    obtain rfl : r = 6 := by omega
    rw [fX2_digest_L105, if_pos (by omega)]
  | succ m ih =>
    intro r N h1 h2
    obtain ⟨N, rfl⟩ : ∃ j, N = j + 1 := ⟨N - 1, by omega⟩
    obtain ⟨k1, k2, k3, k4⟩ := hI r (by omega)
    rw [fX2_digest_L105, if_neg (by omega)]
    have hf := fuel_lt
    generalize fuel = F at hf ⊢
    simp (disch := omega) only [grd, if_pos, tn_c, mlet_e]
    rw [k1]
    refine (e_dg128 (r := r) (n := (μ 8 r).toNat) (by omega) (by omega) (by rw [k1]; exact le_tn) k4 (μ 8 r).toNat 0 F (by omega) (by omega)).trans ?_
    rw [w32_s (by omega)]
    exact ih (r + 1) N (by omega) (by omega)
theorem e_dg178 {μ : Mem} {h : Int} (hI : TextsI μ) : ∀ (m r N : Nat), r + m = 4 → m < N → fX1_digest_L178 μ N (rwR μ 14 10 h r) (r : Int) = some (rwR μ 14 10 h 4) := by
  intro m
  induction m with
  | zero =>
    intro r N h1 h2
    obtain ⟨N, rfl⟩ : ∃ j, N = j + 1 := ⟨N - 1, by omega⟩
    obtain rfl : r = 4 := by omega
    rw [fX1_digest_L178, if_pos (by omega)]
  | succ m ih =>
    intro r N h1 h2
    obtain ⟨N, rfl⟩ : ∃ j, N = j + 1 := ⟨N - 1, by omega⟩
    obtain ⟨k1, k2, k3, k4⟩ := hI r (by omega)
    rw [fX1_digest_L178, if_neg (by omega)]
    have hf := fuel_lt
    generalize fuel = F at hf ⊢
    simp (disch := omega) only [grd, if_pos, tn_c, mlet_e]
    refine (e_dg200 (r := r) (n := (μ 14 r).toNat) (by omega) (by omega) le_tn (μ 14 r).toNat 0 F (by omega) (by omega)).trans ?_
    rw [w32_s (by omega)]
    exact ih (r + 1) N (by omega) (by omega)
theorem e_dg173 {μ : Mem} {h : Int} (hI : TextsI μ) : ∀ (m r N : Nat), r + m = 4 → m < N → fX2_digest_L173 μ N (rwR μ 14 10 h r) (r : Int) = some (rwR μ 14 10 h 4) := by
  intro m
  induction m with
  | zero =>
    intro r N h1 h2
    obtain ⟨N, rfl⟩ : ∃ j, N = j + 1 := ⟨N - 1, by omega⟩
    obtain rfl : r = 4 := by omega
    rw [fX2_digest_L173, if_pos (by omega)]
  | succ m ih =>
    intro r N h1 h2
    obtain ⟨N, rfl⟩ : ∃ j, N = j + 1 := ⟨N - 1, by omega⟩
    obtain ⟨k1, k2, k3, k4⟩ := hI r (by omega)
    rw [fX2_digest_L173, if_neg (by omega)]
    have hf := fuel_lt
    generalize fuel = F at hf ⊢
    simp (disch := omega) only [grd, if_pos, tn_c, mlet_e]
    rw [k1]
    refine (e_dg195 (r := r) (n := (μ 14 r).toNat) (by omega) (by omega) (by rw [k1]; exact le_tn) k4 (μ 14 r).toNat 0 F (by omega) (by omega)).trans ?_
    rw [w32_s (by omega)]
    exact ih (r + 1) N (by omega) (by omega)
theorem P_digest {μ : Mem} (h : Inv μ) : Same0 (fX1_digest μ) (fX2_digest μ) := by
  obtain ⟨s, hR', hC, hM, hg, h0, h40, h61⟩ := Inv_now h
  have g0 := hg.1
  have g6 := hg.2.1
  obtain ⟨-, s0, hh, -, -, -, h4⟩ := hR'
  obtain ⟨v, hv⟩ : ∃ v : Nat → Int, ∀ k : Nat, k < 12 → fX1_count (k : Int) μ = some (v k) ∧ fX2_countOf (k : Int) μ = some (v k) := ⟨fun k => (fX1_count (k : Int) μ).getD 0, fun k hk => by
    obtain ⟨u, e1, e2⟩ := P_countOf (w := (k : Int)) h (by omega)
    dsimp only
    rw [e1, e2]
    exact ⟨rfl, rfl⟩⟩
  have hk : ∀ k, k < 3 → μ 61 (821 * (k + 1)) = (fun k => μ 35 k) k := fun k hk => by
    rw [(h4 (k + 1) (by omega)).2.2.1]
    unfold cnt
    rw [if_neg (by omega)]
    rfl
  refine ⟨rwR μ 14 10 (rwR μ 8 2 (hR (fun k => μ 35 k) (hR (tvS s) (hR v 17 12) (6 * (s 0 0).toNat)) 3) 6) 4, ?_, ?_⟩
  · unfold fX1_digest
    have hf := fuel_lt
    generalize fuel = N at hf ⊢
    simp only [mlet_e]
    refine (e_dg6 (h := 17) (fun k hk => (hv k hk).1) 12 0 N (by omega) (by omega)).trans ?_
    refine (e_dg33 hC hg (s 0 0).toNat 0 N (by omega) (by omega)).trans ?_
    refine (e_dg86 3 0 N (by omega) (by omega)).trans ?_
    refine (e_dg113 h.1 6 0 N (by omega) (by omega)).trans ?_
    exact e_dg178 h.2.1 4 0 N (by omega) (by omega)
  · unfold fX2_digest
    have hf := fuel_lt
    generalize fuel = N at hf ⊢
    simp only [mlet_e]
    refine (e_dg6b (h := 17) (fun k hk => (hv k hk).2) 12 0 N (by omega) (by omega)).trans ?_
    refine (e_dg33b hM hg (6 * (s 0 0).toNat) 0 N (by omega) (by omega)).trans ?_
    refine (e_dg72 hk 3 0 N (by omega) (by omega)).trans ?_
    refine (e_dg105 h.1 6 0 N (by omega) (by omega)).trans ?_
    exact e_dg173 h.2.1 4 0 N (by omega) (by omega)
