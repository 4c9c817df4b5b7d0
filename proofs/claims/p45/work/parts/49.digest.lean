/-! what is told; count, digest -/
def acR (s : Mem) : Nat → Int
  | 0 => 0
  | k + 1 => w32 (acR s k + s 4 k)
theorem e_allX {b : Nat} {μ s : Mem} (hc : CB b μ s) (hg : GB s) : fX0_allCrossings b μ = some (acR s (s 0 0).toNat) := by
  have g0 := hg.1
  have g6 := hg.2.1
  have hL : ∀ (m k N : Nat), k + m = (s 0 0).toNat → m < N → fX0_allCrossings_L4 μ b N (acR s k) (k : Int) = some (acR s (s 0 0).toNat) := by
    intro m
    induction m with
    | zero =>
      intro k N h1 h2
      obtain ⟨N, rfl⟩ : ∃ j, N = j + 1 := ⟨N - 1, by omega⟩
      obtain rfl : k = (s 0 0).toNat := by omega
      rw [fX0_allCrossings_L4, hc.1, if_pos (by omega)]
    | succ m ih =>
      intro k N h1 h2
      obtain ⟨N, rfl⟩ : ∃ j, N = j + 1 := ⟨N - 1, by omega⟩
      obtain ⟨c1, c2, c3, c4⟩ := hc.2.2.2 k (by omega)
      rw [fX0_allCrossings_L4, hc.1, if_neg (by omega)]
      simp (disch := omega) only [mlet_e, w32_s, grd, if_pos, tn_c, c4]
      exact ih (k + 1) N (by omega) (by omega)
  unfold fX0_allCrossings
  have hf := fuel_lt
  generalize fuel = N at hf ⊢
  exact hL (s 0 0).toNat 0 N (by omega) (by omega)
def hmR (s : Mem) (o : Int) : Nat → Int
  | 0 => 0
  | k + 1 => hmR s o k + b01 (s 1 k = o ∨ (s 1 k = 4 ∧ o = 3) ∨ (s 1 k = 5 ∧ o = 2))
theorem b01_rng {c : Prop} [inst : Decidable c] : 0 ≤ b01 c ∧ b01 c ≤ 1 := by
  unfold b01
  split <;> omega
theorem hmR_rng (s : Mem) (o : Int) : ∀ k : Nat, 0 ≤ hmR s o k ∧ hmR s o k ≤ k
  | 0 => by unfold hmR; omega
  | k + 1 => by
    have h1 := hmR_rng s o k
    have h2 := b01_rng (c := s 1 k = o ∨ (s 1 k = 4 ∧ o = 3) ∨ (s 1 k = 5 ∧ o = 2))
    unfold hmR
    omega
theorem e_hmOf {b : Nat} {o : Int} {μ s : Mem} (ho : ¬ o = 0) (hc : CB b μ s) (hg : GB s) : fX0_howManyOf b o μ = some (hmR s o (s 0 0).toNat) := by
  have g0 := hg.1
  have g6 := hg.2.1
  have hL : ∀ (m k N : Nat), k + m = (s 0 0).toNat → m < N → fX0_howManyOf_L4 μ b o N (hmR s o k) (k : Int) = some (hmR s o (s 0 0).toNat) := by
    intro m
    induction m with
    | zero =>
      intro k N h1 h2
      obtain ⟨N, rfl⟩ : ∃ j, N = j + 1 := ⟨N - 1, by omega⟩
      obtain rfl : k = (s 0 0).toNat := by omega
      rw [fX0_howManyOf_L4, hc.1, if_pos (by omega)]
    | succ m ih =>
      intro k N h1 h2
      obtain ⟨N, rfl⟩ : ∃ j, N = j + 1 := ⟨N - 1, by omega⟩
      obtain ⟨c1, c2, c3, c4⟩ := hc.2.2.2 k (by omega)
      have hr := hmR_rng s o k
      have ih' := ih (k + 1) N (by omega) (by omega)
      rw [hmR] at ih'
      rw [fX0_howManyOf_L4, hc.1, if_neg (by omega)]
      simp (disch := omega) only [mlet_e, w32_s, grd, if_pos, tn_c, c1, e_isOf, bd_some, b01_0]
      by_cases z : s 1 k = o ∨ (s 1 k = 4 ∧ o = 3) ∨ (s 1 k = 5 ∧ o = 2)
      · rw [if_neg (by omega), w32_i (by omega)]
        rw [b01_t z] at ih'
        exact ih'
      · rw [if_pos (by omega)]
        rw [b01_f z, Int.add_zero] at ih'
        exact ih'
  unfold fX0_howManyOf
  have hf := fuel_lt
  generalize fuel = N at hf ⊢
  exact hL (s 0 0).toNat 0 N (by omega) (by omega)
def trS (f : Nat → Int) : Nat → Int
  | 0 => 0
  | k + 1 => trS f k + (if f k < 0 then 0 else 1)
theorem trS_rng (f : Nat → Int) : ∀ k : Nat, 0 ≤ trS f k ∧ trS f k ≤ k
  | 0 => by unfold trS; omega
  | k + 1 => by
    have h1 := trS_rng f k
    unfold trS
    split <;> omega
theorem trS_eq {f g : Nat → Int} {n : Nat} (h : ∀ k, k < n → f k = g k) : trS f n = trS g n := by
  induction n with
  | zero => rfl
  | succ n ih => rw [trS, trS, ih (fun k hk => h k (by omega)), h n (by omega)]
theorem trS_tail {g : Nat → Int} {n : Nat} : ∀ m, (∀ k, n ≤ k → k < n + m → g k < 0) → trS g (n + m) = trS g n
  | 0, _ => rfl
  | m + 1, h => by
    rw [show n + (m + 1) = n + m + 1 by omega, trS, trS_tail m (fun k h1 h2 => h k h1 (by omega)), if_pos (h (n + m) (by omega) (by omega)), Int.add_zero]
theorem e_there {p n : Nat} {μ : Mem} (hn : n ≤ 6) : fX1_howManyThere p n μ = some (trS (fun k => μ p k) n) := by
  have hL : ∀ (m k N : Nat), k + m = n → m < N → fX1_howManyThere_L10 (n : Int) n μ p N (trS (fun k => μ p k) k) (k : Int) = some (trS (fun k => μ p k) n) := by
    intro m
    induction m with
    | zero =>
      intro k N h1 h2
      obtain ⟨N, rfl⟩ : ∃ j, N = j + 1 := ⟨N - 1, by omega⟩
      obtain rfl : k = n := by omega
      rw [fX1_howManyThere_L10, if_pos (by omega)]
    | succ m ih =>
      intro k N h1 h2
      obtain ⟨N, rfl⟩ : ∃ j, N = j + 1 := ⟨N - 1, by omega⟩
      have hr := trS_rng (fun k => μ p k) k
      have ih' := ih (k + 1) N (by omega) (by omega)
      rw [trS] at ih'
      rw [fX1_howManyThere_L10, if_neg (by omega)]
      simp (disch := omega) only [mlet_e, w32_s, grd, if_pos, tn_c]
      by_cases z : μ p k < 0
      · rw [if_pos z]
        rw [if_pos z, Int.add_zero] at ih'
        exact ih'
      · rw [if_neg z, w32_i (by omega)]
        rw [if_neg z] at ih'
        exact ih'
  unfold fX1_howManyThere
  have hf := fuel_lt
  generalize fuel = N at hf ⊢
  rw [mlet_e]
  exact hL n 0 N (by omega) (by omega)
theorem tn_821b {k : Nat} : (821 * (1 + (k : Int)) + 0).toNat = 821 * (k + 1) := tn_821
