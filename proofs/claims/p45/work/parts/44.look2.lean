/-! look, its end -/
def mxR (f : Nat → Int) : Nat → Int
  | 0 => 0
  | k + 1 => mmax (mxR f k) (f k)
theorem mx_0 (f : Nat → Int) : ∀ n, 0 ≤ mxR f n
  | 0 => by unfold mxR; omega
  | n + 1 => by
    have := mx_0 f n
    unfold mxR mmax
    split <;> omega
theorem mx_le (f : Nat → Int) : ∀ n k, k < n → f k ≤ mxR f n
  | 0, k, h => absurd h (by omega)
  | n + 1, k, h => by
    unfold mxR mmax
    by_cases e : k = n
    · subst e
      split <;> omega
    · have := mx_le f n k (by omega)
      split <;> omega
theorem mx_ex (f : Nat → Int) : ∀ n, mxR f n = 0 ∨ ∃ k, k < n ∧ mxR f n = f k
  | 0 => Or.inl rfl
  | n + 1 => by
    unfold mxR mmax
    split
    · exact Or.inr ⟨n, by omega, rfl⟩
    · rcases mx_ex f n with h | ⟨k, h1, h2⟩
      · exact Or.inl h
      · exact Or.inr ⟨k, by omega, h2⟩
theorem mx_sub {f g : Nat → Int} {n : Nat} (h : ∀ k, k < n → ∃ j, j < n ∧ g j = f k) : mxR f n ≤ mxR g n := by
  rcases mx_ex f n with e | ⟨k, h1, h2⟩
  · rw [e]
    exact mx_0 g n
  · obtain ⟨j, h3, h4⟩ := h k h1
    rw [h2, ← h4]
    exact mx_le g n j h3
def mS (s : Mem) (i : Nat) (bits : Int) (n : Nat) : Int := mxR (fun k => cntS s i bits n k 21) 7
theorem mS_rng (s : Mem) (i : Nat) (bits : Int) (n : Nat) : 0 ≤ mS s i bits n ∧ mS s i bits n ≤ 21 := by
  refine ⟨mx_0 _ _, ?_⟩
  unfold mS
  rcases mx_ex (fun k => cntS s i bits n k 21) 7 with e | ⟨k, h1, h2⟩
  · omega
  · rw [h2]
    exact (cntS_rng s i bits n k 21).2
theorem e_gp {s : Mem} {i n : Nat} {bits : Int} {μ : Mem} (hn : n < 20) (hP : PCl s i bits 21 0 μ) : fX1_greatestPart (n : Int) μ = some (mS s i bits n) := by
  have hL : ∀ (m k N : Nat), k + m = 7 → m < N → fX1_greatestPart_L16 μ (40 + n) N (mxR (fun k => cntS s i bits n k 21) k) (k : Int) = some (mS s i bits n) := by
    intro m
    induction m with
    | zero =>
      intro k N h1 h2
      obtain ⟨N, rfl⟩ : ∃ j, N = j + 1 := ⟨N - 1, by omega⟩
      obtain rfl : k = 7 := by omega
      rw [fX1_greatestPart_L16, if_pos (by omega)]
      rfl
    | succ m ih =>
      intro k N h1 h2
      obtain ⟨N, rfl⟩ : ∃ j, N = j + 1 := ⟨N - 1, by omega⟩
      have e1 := hP n hn k (by omega)
      rw [if_neg (by omega)] at e1
      rw [fX1_greatestPart_L16]
      simp (disch := omega) only [grd, if_pos, if_neg, mlet_e, w32_s, tn_c, e1]
      exact ih (k + 1) N (by omega) (by omega)
  unfold fX1_greatestPart
  have hf := fuel_lt
  generalize fuel = N at hf ⊢
  simp (disch := omega) only [grd, if_pos, mlet_e, tn_c]
  exact hL 7 0 N (by omega) (by omega)
theorem tn_7 {n k : Nat} : (7 * (n : Int) + (k : Int)).toNat = 7 * n + k := by omega
def bst (M : Nat → Int) : Nat → Nat
  | 0 => 0
  | k + 1 => if M (k + 1) < M (bst M k) then k + 1 else bst M k
theorem bst_le (M : Nat → Int) : ∀ k, bst M k ≤ k
  | 0 => Nat.le_refl 0
  | k + 1 => by
    have := bst_le M k
    unfold bst
    split <;> omega
theorem e_look_L {s : Mem} {i : Nat} {bits : Int} {μ : Mem} {K : Int → Option (Int × Mem)} (hP : PCl s i bits 21 0 μ) : ∀ (m k N : Nat), k + m = 19 → m < N → fX1_look_L42 K μ N ((bst (mS s i bits) k : Nat) : Int) ((k + 1 : Nat) : Int) = K ((bst (mS s i bits) 19 : Nat) : Int) := by
  intro m
  induction m with
  | zero =>
    intro k N h1 h2
    obtain ⟨N, rfl⟩ : ∃ j, N = j + 1 := ⟨N - 1, by omega⟩
    obtain rfl : k = 19 := by omega
    rw [fX1_look_L42, if_pos (by omega)]
  | succ m ih =>
    intro k N h1 h2
    obtain ⟨N, rfl⟩ : ∃ j, N = j + 1 := ⟨N - 1, by omega⟩
    have hb := bst_le (mS s i bits) k
    have ih' := ih (k + 1) N (by omega) (by omega)
    rw [bst] at ih'
    rw [fX1_look_L42, if_neg (by omega), e_gp (by omega) hP, e_gp (by omega) hP]
    simp (disch := omega) only [mlet_e, w32_s, bd_some]
    by_cases z : mS s i bits (k + 1) < mS s i bits (bst (mS s i bits) k)
    · rw [if_neg (by omega)]
      rw [if_pos z] at ih'
      exact ih'
    · rw [if_pos (by omega)]
      rw [if_neg z] at ih'
      exact ih'
