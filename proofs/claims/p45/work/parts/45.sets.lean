/-! ratios; sets, sure -/
def tol (c k : Nat) : Prop := (c = 0 ∧ 11 ≤ k ∧ k ≤ 14) ∨ (c = 60 ∧ 7 ≤ k ∧ k ≤ 10) ∨ c = 36 ∨ c = 67
theorem tmod_nat (a b : Nat) : ((a : Int)).tmod (b : Int) = ((a % b : Nat) : Int) := (Int.ofNat_tmod a b).symm
theorem gcd_step {a b : Nat} (h : ¬ b = 0) : Nat.gcd b (a % b) = Nat.gcd a b := by
  rw [Nat.gcd_comm a b, Nat.gcd_rec b a, Nat.gcd_comm]
theorem half_mod {a b m : Nat} (hb : ¬ b = 0) (hab : b ≤ a) (h : a * b < 2 ^ (m + 1)) : b * (a % b) < 2 ^ m := by
  have h1 : 2 * (a % b) ≤ a := by
    have h2 := Nat.mod_lt a (Nat.pos_of_ne_zero hb)
    have h3 := Nat.div_add_mod a b
    have h4 : 1 ≤ a / b := (Nat.one_le_div_iff (Nat.pos_of_ne_zero hb)).mpr hab
    have h5 : b * 1 ≤ b * (a / b) := Nat.mul_le_mul_left b h4
    omega
  have h6 : b * (2 * (a % b)) ≤ b * a := Nat.mul_le_mul_left b h1
  rw [Nat.mul_comm b a] at h6
  rw [Nat.pow_succ] at h
  have h7 : b * (2 * (a % b)) = 2 * (b * (a % b)) := Nat.mul_left_comm b 2 (a % b)
  omega
theorem e_gcd_L : ∀ (m a b x N : Nat), b ≤ a → a * b < 2 ^ m → x + m + 1 ≤ 1000 → m + 1 < N → fX1_greatestDivisor_L9 N (a : Int) (b : Int) (x : Int) = some ((Nat.gcd a b : Nat) : Int) := by
  intro m
  induction m with
  | zero =>
    intro a b x N h1 h2 h3 h4
    obtain ⟨N, rfl⟩ : ∃ j, N = j + 1 := ⟨N - 1, by omega⟩
    have hb : b = 0 := by
      by_cases z : b = 0
      · exact z
      · have : 1 * 1 ≤ a * b := Nat.mul_le_mul (by omega) (by omega)
        omega
    subst hb
    rw [fX1_greatestDivisor_L9, if_neg (by omega), if_pos (by rw [lc_eq]; rfl), Nat.gcd_zero_right]
  | succ m ih =>
    intro a b x N h1 h2 h3 h4
    obtain ⟨N, rfl⟩ : ∃ j, N = j + 1 := ⟨N - 1, by omega⟩
    rw [fX1_greatestDivisor_L9, if_neg (by omega)]
    by_cases z : b = 0
    · subst z
      rw [if_pos (by rw [lc_eq]; rfl), Nat.gcd_zero_right]
    · rw [if_neg (by rw [lc_eq]; omega)]
      simp (disch := omega) only [grd, if_pos, mlet_e, w32_s, tmod_nat]
      rw [ih b (a % b) (x + 1) N (Nat.le_of_lt (Nat.mod_lt a (by omega))) (half_mod z h1 h2) (by omega) (by omega), gcd_step z]
theorem e_gcd {a b : Nat} {μ : Mem} (ha : a < 2 ^ 31) (hb : b < 2 ^ 31) : fX1_greatestDivisor (a : Int) (b : Int) μ = some ((Nat.gcd a b : Nat) : Int) := by
  unfold fX1_greatestDivisor
  have hf := fuel_lt
  generalize fuel = N at hf ⊢
  have hab : a * b < 2 ^ 62 := by
    have := Nat.mul_lt_mul'' ha hb
    omega
  by_cases h : b ≤ a
  · exact e_gcd_L 62 a b 0 N h hab (by omega) (by omega)
  · obtain ⟨N, rfl⟩ : ∃ j, N = j + 1 := ⟨N - 1, by omega⟩
    rw [fX1_greatestDivisor_L9, if_neg (by omega), if_neg (by rw [lc_eq]; omega)]
    simp (disch := omega) only [grd, if_pos, mlet_e, tmod_nat]
    rw [show w32 (0 + 1) = ((1 : Nat) : Int) from by rw [w32_i (by omega)]; rfl, Nat.mod_eq_of_lt (by omega)]
    rw [e_gcd_L 62 b a 1 N (by omega) (by rw [Nat.mul_comm]; exact hab) (by omega) (by omega), Nat.gcd_comm]
/-- a fraction's two numbers in lowest terms, as both sides make them -/
def rU (a b : Nat) : Int := w64 ((a : Int).tdiv ((Nat.gcd a b : Nat) : Int))
def rL' (a b : Nat) : Int := w64 ((b : Int).tdiv ((Nat.gcd a b : Nat) : Int))
theorem e_ratio {a b : Nat} {μ : Mem} (ha : a < 2 ^ 31) (hb : b < 2 ^ 31) (h0 : 1 ≤ b) : fX1_tellRatio (a : Int) (b : Int) μ = some (wr (wr μ 0 12 (rU a b)) 0 13 (rL' a b)) := by
  have hp : 0 < Nat.gcd a b := Nat.gcd_pos_of_pos_right a (by omega)
  unfold fX1_tellRatio
  rw [e_gcd ha hb, bd_some, if_neg (by rw [lc_le]; omega)]
  simp (disch := omega) only [grd, if_pos, mlet_e]
  rfl
theorem bshl_1 : ∀ p : Fin 21, bshl 1 (p.val : Int) = ((2 ^ p.val : Nat) : Int) := by decide +kernel
theorem bshl_p {p : Int} (h : 0 ≤ p ∧ p ≤ 20) : bshl 1 p = ((2 ^ p.toNat : Nat) : Int) := by
  have := bshl_1 ⟨p.toNat, by omega⟩
  rw [show ((⟨p.toNat, by omega⟩ : Fin 21).val : Int) = p by show ((p.toNat : Nat) : Int) = p; omega] at this
  exact this
theorem pow_64 {n : Nat} (h : n ≤ 6) : 1 ≤ 2 ^ n ∧ 2 ^ n ≤ 64 := by
  have h1 : 2 ^ n ≤ 2 ^ 6 := Nat.pow_le_pow_right (by omega) h
  have h2 : 0 < 2 ^ n := Nat.pow_pos (by omega)
  omega
def dsR (s : Mem) (bits : Int) : Nat → Int
  | 0 => 0
  | k + 1 => dsR s bits k + (if band (bshr bits (k : Int)) 1 = 0 then 0 else s 3 k)
theorem dsR_rng {s : Mem} (hg : GB s) (bits : Int) : ∀ k : Nat, (k : Int) ≤ s 0 0 → 0 ≤ dsR s bits k ∧ dsR s bits k ≤ 20 * k
  | 0, _ => by unfold dsR; omega
  | k + 1, h => by
    have := dsR_rng hg bits k (by omega)
    obtain ⟨-, -, g3⟩ := hg.2.2.2.2 k (by omega)
    unfold dsR
    split <;> omega
def dsS (s : Mem) (bits : Int) : Int := dsR s bits (s 0 0).toNat
theorem e_dOf {b : Nat} {bits : Int} {μ s : Mem} (hc : CB b μ s) (hg : GB s) : fX0_daringOf b bits μ = some (dsS s bits) := by
  have g0 := hg.1
  have g6 := hg.2.1
  have hL : ∀ (m k N : Nat), k + m = (s 0 0).toNat → m < N → fX0_daringOf_L4 μ b bits N (dsR s bits k) (k : Int) = some (dsS s bits) := by
    intro m
    induction m with
    | zero =>
      intro k N h1 h2
      obtain ⟨N, rfl⟩ : ∃ j, N = j + 1 := ⟨N - 1, by omega⟩
      obtain rfl : k = (s 0 0).toNat := by omega
      rw [fX0_daringOf_L4, hc.1, if_pos (by omega)]
      rfl
    | succ m ih =>
      intro k N h1 h2
      obtain ⟨N, rfl⟩ : ∃ j, N = j + 1 := ⟨N - 1, by omega⟩
      have ih' := ih (k + 1) N (by omega) (by omega)
      rw [dsR] at ih'
      have hr := dsR_rng hg bits k (by omega)
      obtain ⟨c1, c2, c3, c4⟩ := hc.2.2.2 k (by omega)
      obtain ⟨-, -, g3⟩ := hg.2.2.2.2 k (by omega)
      rw [fX0_daringOf_L4, hc.1, if_neg (by omega)]
      by_cases q : band (bshr bits (k : Int)) 1 = 0
      · rw [if_pos q, Int.add_zero] at ih'
        simp (disch := omega) only [mlet_e, w32_s, if_pos]
        exact ih'
      · rw [if_neg q] at ih'
        simp (disch := omega) only [mlet_e, w32_s, if_neg, grd, if_pos, tn_c, c3, w32_i]
        exact ih'
  unfold fX0_daringOf
  have hf := fuel_lt
  generalize fuel = N at hf ⊢
  exact hL (s 0 0).toNat 0 N (by omega) (by omega)
/-! how many of the numbers below k have t, the least of these -/
def cN (t : Nat → Bool) : Nat → Nat
  | 0 => 0
  | k + 1 => cN t k + (if t k then 1 else 0)
def lst (t : Nat → Bool) : Nat → Int
  | 0 => -9
  | k + 1 => if cN t k = 0 then (if t k then (k : Int) else -9) else lst t k
theorem cN_le (t : Nat → Bool) : ∀ k, cN t k ≤ k
  | 0 => Nat.le_refl 0
  | k + 1 => by
    have := cN_le t k
    unfold cN
    split <;> omega
theorem cN_mono (t : Nat → Bool) {a : Nat} : ∀ b, a ≤ b → cN t a ≤ cN t b
  | 0, h => by rw [show a = 0 by omega]; exact Nat.le_refl _
  | b + 1, h => by
    by_cases e : a = b + 1
    · rw [e]; exact Nat.le_refl _
    · have := cN_mono t (a := a) b (by omega)
      rw [cN]
      omega
theorem lst_0 (t : Nat → Bool) : ∀ k, cN t k = 0 → lst t k = -9
  | 0, _ => rfl
  | k + 1, h => by
    rw [cN] at h
    by_cases e : t k
    · rw [if_pos e] at h; omega
    · rw [lst, if_pos (by omega), if_neg e]
def sls (t : Nat → Bool) (T : Nat) : Nat → Int
  | 0 => -9
  | m + 1 => if t (T - (m + 1)) then ((T - (m + 1) : Nat) : Int) else sls t T m
theorem sls_lst (t : Nat → Bool) (T : Nat) : ∀ m k, k + m = T → (if cN t k = 0 then sls t T m else lst t k) = lst t T
  | 0, k, h => by
    obtain rfl : k = T := by omega
    by_cases e : cN t k = 0
    · rw [if_pos e, lst_0 t k e]; rfl
    · rw [if_neg e]
  | m + 1, k, h => by
    have ih := sls_lst t T m (k + 1) (by omega)
    rw [lst, cN] at ih
    rw [← ih, sls, show T - (m + 1) = k by omega]
    by_cases e : cN t k = 0
    · rw [if_pos e, if_pos e]
      by_cases e2 : t k
      · rw [if_pos e2, if_pos e2, if_pos e2, if_neg (by omega)]
      · rw [if_neg e2, if_neg e2, if_neg e2, if_pos (by omega)]
    · rw [if_neg e, if_neg e]
      by_cases e2 : t k
      · rw [if_pos e2, if_neg (by omega)]
      · rw [if_neg e2, if_neg (by omega)]
def tS (s : Mem) (v : Int) (k : Nat) : Bool := decide (dsS s (k : Int) = v)
theorem tS_iff {s : Mem} {v : Int} {k : Nat} : tS s v k = true ↔ dsS s (k : Int) = v := decide_eq_true_iff
theorem e_sets_L {s μ : Mem} {v : Int} {K : Int → Int → Option (Int × Mem)} (hc : CB 20 μ s) (hg : GB s) : ∀ (m k N : Nat), k + m = 2 ^ (s 0 0).toNat → m < N → fX1_sets_L33 μ K v N ((cN (tS s v) k : Nat) : Int) (lst (tS s v) k) (k : Int) = K ((cN (tS s v) (2 ^ (s 0 0).toNat) : Nat) : Int) (lst (tS s v) (2 ^ (s 0 0).toNat)) := by
  have g0 := hg.1
  have g6 := hg.2.1
  have hp := pow_64 (n := (s 0 0).toNat) (by omega)
  intro m
  induction m with
  | zero =>
    intro k N h1 h2
    obtain ⟨N, rfl⟩ : ∃ j, N = j + 1 := ⟨N - 1, by omega⟩
    obtain rfl : k = 2 ^ (s 0 0).toNat := by omega
    rw [fX1_sets_L33, hc.1, bshl_p (by omega), if_pos (by omega)]
  | succ m ih =>
    intro k N h1 h2
    obtain ⟨N, rfl⟩ : ∃ j, N = j + 1 := ⟨N - 1, by omega⟩
    have ih' := ih (k + 1) N (by omega) (by omega)
    rw [cN, lst] at ih'
    have hle := cN_le (tS s v) k
    rw [fX1_sets_L33, hc.1, bshl_p (by omega), if_neg (by omega), e_dOf hc hg, bd_some]
    simp (disch := omega) only [mlet_e, w32_s]
    by_cases z : dsS s (k : Int) = v
    · have z2 := tS_iff.mpr z
      rw [if_neg (by omega)]
      by_cases q : cN (tS s v) k = 0
      · rw [if_neg (by omega)]
        rw [if_pos q, if_pos z2, if_pos z2] at ih'
        exact ih'
      · rw [if_pos (by omega)]
        rw [if_neg q, if_pos z2] at ih'
        exact ih'
    · have z2 : ¬ tS s v k = true := fun w => z (tS_iff.mp w)
      rw [if_pos z]
      rw [if_neg z2, if_neg z2, Nat.add_zero] at ih'
      by_cases q : cN (tS s v) k = 0
      · rw [if_pos q] at ih'
        rw [lst_0 _ _ q]
        exact ih'
      · rw [if_neg q] at ih'
        exact ih'
/-! sure -/
def suR (t : Nat → Bool) (all : Int) : Nat → Int × Int × Bool
  | 0 => (all, 0, false)
  | k + 1 => if t k then (band (suR t all k).1 (k : Int), bor (suR t all k).2.1 (k : Int), true) else suR t all k
theorem e_sure_L {s μ : Mem} {v x : Int} {K : Int → Int → Int → Option (Int × Mem)} (hc : CB 20 μ s) (hg : GB s) {T : Nat} (hT : T ≤ 64) (hx : x = (T : Int) - 1) : ∀ (m k N : Nat), k + m = T → m < N → fX1_sure_L48 x K μ v N (suR (tS s v) x k).1 (suR (tS s v) x k).2.1 (if (suR (tS s v) x k).2.2 then 0 else 1) (k : Int) = K (suR (tS s v) x T).1 (suR (tS s v) x T).2.1 (if (suR (tS s v) x T).2.2 then 0 else 1) := by
  intro m
  induction m with
  | zero =>
    intro k N h1 h2
    obtain ⟨N, rfl⟩ : ∃ j, N = j + 1 := ⟨N - 1, by omega⟩
    obtain rfl : k = T := by omega
    rw [fX1_sure_L48, if_pos (by omega)]
  | succ m ih =>
    intro k N h1 h2
    obtain ⟨N, rfl⟩ : ∃ j, N = j + 1 := ⟨N - 1, by omega⟩
    have ih' := ih (k + 1) N (by omega) (by omega)
    rw [suR] at ih'
    rw [fX1_sure_L48, if_neg (by omega), e_dOf hc hg, bd_some]
    simp (disch := omega) only [mlet_e, w32_s]
    by_cases z : dsS s (k : Int) = v
    · rw [if_neg (by omega)]
      rw [if_pos (tS_iff.mpr z)] at ih'
      exact ih'
    · rw [if_pos z]
      rw [if_neg (fun w => z (tS_iff.mp w))] at ih'
      exact ih'
