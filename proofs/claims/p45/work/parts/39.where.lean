/-! NIGHTS aside: where, crosses, first, lift -/
def nitS (s : Mem) : Nat → Mem
  | 0 => s
  | k + 1 => nightS (nitS s k)
def whoS (s : Mem) : Nat → Int
  | 0 => -9
  | k + 1 => hold (nitS s k) 0
theorem GB_nit {s : Mem} (hg : GB s) : ∀ k, GB (nitS s k)
  | 0 => hg
  | k + 1 => GB_night (GB_nit hg k)
theorem nit_0 (s : Mem) : ∀ k, nitS s k 0 0 = s 0 0
  | 0 => rfl
  | k + 1 => by rw [nitS, night_0, nit_0 s k]
theorem e_aside_L {n : Nat} {s : Mem} (hn : n ≤ 40) (hg : GB s) : ∀ (m k N : Nat) (μ : Mem), k + m = n → m < N → CB 25 μ (nitS s k) → Ev (fX1_holderAside_L5 (n : Int) N (whoS s k) (k : Int) μ) fun q => q.1 = whoS s n ∧ CB 25 q.2 (nitS s n) ∧ ∀ c k, c < 25 ∨ 29 < c → q.2 c k = μ c k := by
  intro m
  induction m with
  | zero =>
    intro k N μ h1 h2 h3
    obtain ⟨N, rfl⟩ : ∃ j, N = j + 1 := ⟨N - 1, by omega⟩
    obtain rfl : k = n := by omega
    rw [fX1_holderAside_L5, if_pos (by omega)]
    exact ev_some.mpr ⟨rfl, h3, fun _ _ _ => rfl⟩
  | succ m ih =>
    intro k N μ h1 h2 h3
    obtain ⟨N, rfl⟩ : ∃ j, N = j + 1 := ⟨N - 1, by omega⟩
    rw [fX1_holderAside_L5, if_neg (by omega), ev_bnd2]
    refine ev_mono (e_passNight h3 (GB_nit hg k)) (fun q hq => ?_)
    obtain ⟨q1, q2, q3⟩ := hq
    rw [mlet_e, w32_s (by omega), q1]
    refine ev_mono (ih (k + 1) N q.2 (by omega) (by omega) q2) (fun r hr => ⟨hr.1, hr.2.1, fun c k hc => ?_⟩)
    rw [hr.2.2 _ _ hc, q3 _ _ (by omega)]
theorem e_aside {n : Nat} {μ s : Mem} (hn : n ≤ 40) (hg : GB s) (hc : CB 25 μ s) : Ev (fX1_holderAside (n : Int) μ) fun q => q.1 = whoS s n ∧ CB 25 q.2 (nitS s n) ∧ ∀ c k, c < 25 ∨ 29 < c → q.2 c k = μ c k := by
  unfold fX1_holderAside
  have hf := fuel_lt
  generalize fuel = N at hf ⊢
  exact e_aside_L hn hg n 0 N μ (by omega) (by omega) hc
theorem tn_3299 {k : Nat} : (3299 + (k : Int)).toNat = 3284 + 15 + k := by omega
def fstS (s : Mem) (i : Int) : Nat → Nat → Int
  | 0, _ => -9
  | m + 1, k => if hold (nitS s k) 0 = i then ((k + 1 : Nat) : Int) else fstS s i m (k + 1)
theorem e_first_L {s : Mem} {i : Int} (hg : GB s) : ∀ (m k N : Nat) (μ : Mem), k + m = 40 → m < N → CB 25 μ (nitS s k) → Ev (fX1_first_L26 i N ((k + 1 : Nat) : Int) μ) fun q => q.1 = fstS s i m k ∧ ∀ c k, c < 25 ∨ 29 < c → q.2 c k = μ c k := by
  intro m
  induction m with
  | zero =>
    intro k N μ h1 h2 h3
    obtain ⟨N, rfl⟩ : ∃ j, N = j + 1 := ⟨N - 1, by omega⟩
    rw [fX1_first_L26, if_pos (by omega)]
    exact ev_some.mpr ⟨rfl, fun _ _ _ => rfl⟩
  | succ m ih =>
    intro k N μ h1 h2 h3
    obtain ⟨N, rfl⟩ : ∃ j, N = j + 1 := ⟨N - 1, by omega⟩
    rw [fX1_first_L26, if_neg (by omega), ev_bnd2]
    refine ev_mono (e_passNight h3 (GB_nit hg k)) (fun q hq => ?_)
    obtain ⟨q1, q2, q3⟩ := hq
    rw [mlet_e, w32_s (by omega), q1, fstS]
    by_cases z : hold (nitS s k) 0 = i
    · rw [if_neg (by omega), if_pos z]
      exact ev_some.mpr ⟨rfl, q3⟩
    · rw [if_pos z, if_neg z]
      refine ev_mono (ih (k + 1) N q.2 (by omega) (by omega) q2) (fun r hr => ⟨hr.1, fun c k hc => ?_⟩)
      rw [hr.2 _ _ hc, q3 _ _ (by omega)]
