/-! chances -/
def prR (p f : Int) : Nat → Int
  | 0 => 1
  | k + 1 => prR p f k * (if band (bshr f (k : Int)) 1 = 0 then 12 - p else p)
def sumP (p : Int) (n : Nat) : Nat → Int
  | 0 => 0
  | k + 1 => sumP p n k + prR p (k : Int) n
theorem sumP_dec : ∀ (p : Fin 13) (n : Fin 7), sumP (p.val : Int) n.val (2 ^ n.val) = ((12 ^ n.val : Nat) : Int) := by decide +kernel
theorem sumP_all {p : Int} {n : Nat} (hp : 0 ≤ p ∧ p ≤ 12) (hn : n ≤ 6) : sumP p n (2 ^ n) = ((12 ^ n : Nat) : Int) := by
  have := sumP_dec ⟨p.toNat, by omega⟩ ⟨n, by omega⟩
  rw [show ((⟨p.toNat, by omega⟩ : Fin 13).val : Int) = p by show ((p.toNat : Nat) : Int) = p; omega] at this
  exact this
theorem pow12 : ∀ n : Nat, n ≤ 6 → 1 ≤ 12 ^ n ∧ 12 ^ n ≤ 2985984 := fun n h => by
  have h1 : 12 ^ n ≤ 12 ^ 6 := Nat.pow_le_pow_right (by omega) h
  have h2 : 0 < 12 ^ n := Nat.pow_pos (by omega)
  have h3 : 12 ^ 6 = 2985984 := by decide
  omega
theorem prR_rng {p f : Int} (hp : 0 ≤ p ∧ p ≤ 12) : ∀ k : Nat, 0 ≤ prR p f k ∧ prR p f k ≤ ((12 ^ k : Nat) : Int)
  | 0 => by unfold prR; exact ⟨by omega, by omega⟩
  | k + 1 => by
    obtain ⟨h1, h2⟩ := prR_rng (f := f) hp k
    unfold prR
    have hy : ∀ y : Int, 0 ≤ y → y ≤ 12 → 0 ≤ prR p f k * y ∧ prR p f k * y ≤ ((12 ^ (k + 1) : Nat) : Int) := fun y y1 y2 => by
      refine ⟨Int.mul_nonneg h1 y1, ?_⟩
      have := Int.mul_le_mul h2 y2 y1 (by omega)
      rw [Nat.pow_succ]
      omega
    split
    · exact hy _ (by omega) (by omega)
    · exact hy _ (by omega) (by omega)
theorem prR_b {p f : Int} (hp : 0 ≤ p ∧ p ≤ 12) {k : Nat} (hk : k ≤ 6) : 0 ≤ prR p f k ∧ prR p f k ≤ 2985984 := by
  have := prR_rng (f := f) hp k
  have := pow12 k hk
  omega
def prS (s : Mem) (p f : Int) : Int := prR p f (s 0 0).toNat
def WS (s : Mem) (p : Int) (k : Nat) : Nat → Int
  | 0 => 0
  | f + 1 => WS s p k f + (if hold s (f : Int) = wOf k then prS s p (f : Int) else 0)
theorem prS_b {s : Mem} {p f : Int} (hg : GB s) (hp : 0 ≤ p ∧ p ≤ 12) : 0 ≤ prS s p f ∧ prS s p f ≤ 2985984 := by
  have g0 := hg.1
  have g6 := hg.2.1
  exact prR_b hp (by omega)
theorem WS_rng {s : Mem} {p : Int} (hg : GB s) (hp : 0 ≤ p ∧ p ≤ 12) (k : Nat) : ∀ f : Nat, 0 ≤ WS s p k f ∧ WS s p k f ≤ 2985984 * f
  | 0 => by unfold WS; omega
  | f + 1 => by
    have := WS_rng hg hp k f
    have := prS_b (f := (f : Int)) hg hp
    unfold WS
    split <;> omega
theorem wOf_holdP {s : Mem} {p : Int} (hg : GB s) : ∃ k0 : Nat, (k0 = 6 ∨ (k0 : Int) < s 0 0) ∧ k0 < 7 ∧ hold s p = wOf k0 ∧ ∀ k, k < 7 → (hold s p = wOf k ↔ k = k0) := by
  have g6 := hg.2.1
  rcases hold_rng (p := p) hg with h | ⟨i, h1, h2⟩
  · refine ⟨6, Or.inl rfl, by omega, by rw [h]; rfl, fun k hk => ?_⟩
    rw [h]
    unfold wOf
    constructor
    · intro q
      split at q <;> omega
    · intro q
      rw [if_pos q]
  · refine ⟨i, Or.inr h2, by omega, by rw [h1]; unfold wOf; rw [if_neg (by omega)], fun k hk => ?_⟩
    rw [h1]
    unfold wOf
    constructor
    · intro q
      split at q <;> omega
    · intro q
      rw [if_neg (by omega), q]
theorem e_w28 {s μ : Mem} {p f : Int} {K : Int → Option Mem} (hc : CB 20 μ s) (hg : GB s) (hp : 0 ≤ p ∧ p ≤ 12) : ∀ (m k N : Nat), k + m = (s 0 0).toNat → m < N → fX1_weigh_L28 μ K f p N (prR p f k) (k : Int) = K (prS s p f) := by
  have g0 := hg.1
  have g6 := hg.2.1
  intro m
  induction m with
  | zero =>
    intro k N h1 h2
    obtain ⟨N, rfl⟩ : ∃ j, N = j + 1 := ⟨N - 1, by omega⟩
    obtain rfl : k = (s 0 0).toNat := by omega
    rw [fX1_weigh_L28, hc.1, if_pos (by omega)]
    rfl
  | succ m ih =>
    intro k N h1 h2
    obtain ⟨N, rfl⟩ : ∃ j, N = j + 1 := ⟨N - 1, by omega⟩
    have ih' := ih (k + 1) N (by omega) (by omega)
    have hb := prR_b (f := f) hp (k := k + 1) (by omega)
    rw [prR] at ih' hb
    rw [fX1_weigh_L28, hc.1, if_neg (by omega)]
    simp (disch := omega) only [mlet_e, w32_s]
    by_cases q : band (bshr f (k : Int)) 1 = 0
    · rw [if_pos q] at ih' hb ⊢
      rw [w32_i (z := 12 - p) (by omega), w32_i (by omega)]
      exact ih'
    · rw [if_neg q] at ih' hb ⊢
      rw [w32_i (by omega)]
      exact ih'
theorem e_weigh {s μ : Mem} {p : Int} (hc : CB 20 μ s) (hg : GB s) (hp : 0 ≤ p ∧ p ≤ 12) {T : Nat} (hT : 2 ^ (s 0 0).toNat = T) : Ev (fX1_weigh p μ) fun ν => (∀ k, k < 7 → ν 38 k = WS s p k T) ∧ ∀ c k, ¬ c = 38 → ν c k = μ c k := by
  have g0 := hg.1
  have g6 := hg.2.1
  have hpw := pow_64 (n := (s 0 0).toNat) (by omega)
  rw [hT] at hpw
  have hL : ∀ (m f N : Nat) (ν : Mem), f + m = T → m < N → (∀ k, k < 7 → ν 38 k = WS s p k f) → (∀ c k, ¬ c = 38 → ν c k = μ c k) → Ev (fX1_weigh_L10 p N (f : Int) ν) fun ν => (∀ k, k < 7 → ν 38 k = WS s p k T) ∧ ∀ c k, ¬ c = 38 → ν c k = μ c k := by
    intro m
    induction m with
    | zero =>
      intro f N ν h1 h2 h3 h4
      obtain ⟨N, rfl⟩ : ∃ j, N = j + 1 := ⟨N - 1, by omega⟩
      obtain rfl : f = T := by omega
      rw [fX1_weigh_L10, h4 _ _ (by omega), hc.1, bshl_p (by omega), hT, if_pos (by omega)]
      exact ev_some.mpr ⟨h3, h4⟩
    | succ m ih =>
      intro f N ν h1 h2 h3 h4
      obtain ⟨N, rfl⟩ : ∃ j, N = j + 1 := ⟨N - 1, by omega⟩
      have hc' : CB 20 ν s := CB_congr hc (fun c k hk => h4 _ _ (by omega))
      obtain ⟨k0, -, hk0, e0, e1⟩ := wOf_holdP (p := (f : Int)) hg
      have hw := WS_rng hg hp k0 f
      have hb := prS_b (f := (f : Int)) hg hp
      rw [fX1_weigh_L10]
      have hf := fuel_lt
      generalize fuel = F at hf ⊢
      rw [h4 _ _ (by omega), hc.1, bshl_p (by omega), hT, if_neg (by omega)]
      simp only [mlet_e]
      refine (show ∀ o : Option Mem, Ev o _ → ∀ o', o' = o → Ev o' _ from fun o a o' b => by rw [b]; exact a) _ ?_ _ (e_w28 (s := s) (μ := ν) (f := (f : Int)) hc' hg hp (s 0 0).toNat 0 F (by omega) (by omega))
      rw [e_holder hc' hg, bd_some, e0, e_placeOf, pl_wOf hk0, bd_some]
      simp (disch := omega) only [grd, if_pos, tn_c, w32_s]
      rw [h3 k0 hk0, w32_i (by omega)]
      refine ih (f + 1) N _ (by omega) (by omega) (fun k hk => ?_) (fun c k hck => by rw [wr_ne (by omega), h4 _ _ hck])
      rw [WS]
      by_cases z : k = k0
      · rw [z, wr_at (by omega), if_pos e0]
      · rw [wr_ne (by omega), if_neg (fun w => z ((e1 k hk).mp w)), Int.add_zero, h3 k hk]
  unfold fX1_weigh
  have hf := fuel_lt
  generalize fuel = N at hf ⊢
  rw [bd_some]
  refine hL T 0 N _ (by omega) (by omega) (fun k hk => ?_) (fun c k hck => filM_ne (by omega))
  rw [filM_at (by omega)]
  rfl
theorem e_allW {s μ : Mem} (h4 : μ 20 4 = s 0 0) (hg : GB s) : fX1_allWeight μ = some ((12 ^ (s 0 0).toNat : Nat) : Int) := by
  have g0 := hg.1
  have g6 := hg.2.1
  have hL : ∀ (m k N : Nat), k + m = (s 0 0).toNat → m < N → fX1_allWeight_L4 μ N ((12 ^ k : Nat) : Int) (k : Int) = some ((12 ^ (s 0 0).toNat : Nat) : Int) := by
    intro m
    induction m with
    | zero =>
      intro k N h1 h2
      obtain ⟨N, rfl⟩ : ∃ j, N = j + 1 := ⟨N - 1, by omega⟩
      obtain rfl : k = (s 0 0).toNat := by omega
      rw [fX1_allWeight_L4, h4, if_pos (by omega)]
    | succ m ih =>
      intro k N h1 h2
      obtain ⟨N, rfl⟩ : ∃ j, N = j + 1 := ⟨N - 1, by omega⟩
      have ih' := ih (k + 1) N (by omega) (by omega)
      have hb := pow12 (k + 1) (by omega)
      rw [Nat.pow_succ] at ih' hb
      rw [fX1_allWeight_L4, h4, if_neg (by omega)]
      simp (disch := omega) only [mlet_e, w32_s]
      rw [w32_i (by omega), show ((12 ^ k : Nat) : Int) * 12 = ((12 ^ k * 12 : Nat) : Int) by omega]
      exact ih'
  unfold fX1_allWeight
  have hf := fuel_lt
  generalize fuel = N at hf ⊢
  exact hL (s 0 0).toNat 0 N (by omega) (by omega)
theorem sumP_rng {s : Mem} {p : Int} (hg : GB s) (hp : 0 ≤ p ∧ p ≤ 12) : ∀ f : Nat, 0 ≤ sumP p (s 0 0).toNat f ∧ sumP p (s 0 0).toNat f ≤ 2985984 * f
  | 0 => by unfold sumP; omega
  | f + 1 => by
    have := sumP_rng hg hp f
    have := prS_b (f := (f : Int)) hg hp
    unfold prS at this
    unfold sumP
    omega
