/-! mid, fair -/
def dst (x y : Int) : Int := if y ≤ x then x - y else y - x
theorem dst_b {x y : Int} (hx : 0 ≤ x ∧ x ≤ 9) (hy : 0 ≤ y ∧ y ≤ 9) : 0 ≤ dst x y ∧ dst x y ≤ 9 := by
  unfold dst
  split <;> omega
/-- where the ford would be, told by the holder's place -/
def plS (s : Mem) (k : Nat) : Int := if k = 6 then s 0 1 else s 2 k
def dS (s : Mem) (x : Int) (k : Nat) : Int := dst x (plS s k)
theorem plS_b {s : Mem} (hg : GB s) {k : Nat} (hk : k = 6 ∨ (k : Int) < s 0 0) : 0 ≤ plS s k ∧ plS s k ≤ 9 := by
  obtain ⟨g1, g2, g3, g4, g5⟩ := hg
  unfold plS
  rcases hk with h | h
  · rw [if_pos h]
    exact ⟨g3, g4⟩
  · rw [if_neg (by omega)]
    exact (g5 k h).2.1
def fS (w d : Nat → Int) : Nat → Int
  | 0 => w 6 * d 6
  | k + 1 => fS w d k + w k * d k
theorem fS_mono {w d : Nat → Int} {n : Nat} (h : ∀ k, (k = 6 ∨ k < n) → 0 ≤ w k * d k) : ∀ k, k ≤ n → 0 ≤ fS w d k ∧ ∀ j, j ≤ k → fS w d j ≤ fS w d k
  | 0, _ => ⟨by unfold fS; exact h 6 (Or.inl rfl), fun j hj => by rw [show j = 0 by omega]; exact Int.le_refl _⟩
  | k + 1, hk => by
    obtain ⟨h1, h2⟩ := fS_mono h k (by omega)
    have h3 := h k (Or.inr (by omega))
    have e : fS w d (k + 1) = fS w d k + w k * d k := rfl
    refine ⟨by omega, fun j hj => ?_⟩
    by_cases q : j = k + 1
    · rw [q]; exact Int.le_refl _
    · have := h2 j (by omega)
      omega
theorem fS_add {w w' d : Nat → Int} {k0 : Nat} {x : Int} (h6 : w' 6 = w 6 + (if 6 = k0 then x else 0)) : ∀ n, n ≤ 6 → (∀ k, k < n → w' k = w k + (if k = k0 then x else 0)) → fS w' d n = fS w d n + (if k0 = 6 ∨ k0 < n then x * d k0 else 0)
  | 0, _, _ => by
    unfold fS
    rw [h6]
    by_cases q : 6 = k0
    · rw [if_pos q, if_pos (by omega), ← q, Int.add_mul]
    · rw [if_neg q, if_neg (by omega), Int.add_zero, Int.add_zero]
  | n + 1, hn, h => by
    have ih := fS_add (d := d) h6 n (by omega) (fun k hk => h k (by omega))
    have e1 : fS w' d (n + 1) = fS w' d n + w' n * d n := rfl
    have e2 : fS w d (n + 1) = fS w d n + w n * d n := rfl
    rw [e1, e2, ih, h n (by omega)]
    by_cases q : n = k0
    · rw [if_pos q, if_neg (by omega), if_pos (by omega), Int.add_mul, ← q]
      omega
    · rw [if_neg q, Int.add_zero]
      by_cases q2 : k0 = 6 ∨ k0 < n
      · rw [if_pos q2, if_pos (by omega)]
        omega
      · rw [if_neg q2, if_neg (by omega)]
        omega
/-- how far in all, by the failing ones below f -/
def FA (s : Mem) (p x : Int) : Nat → Int
  | 0 => 0
  | f + 1 => FA s p x f + prS s p (f : Int) * dst x (if hold s (f : Int) = -9 then s 0 1 else s 2 (hold s (f : Int)).toNat)
theorem hold_pl {s : Mem} {p : Int} {k0 : Nat} (hk : k0 < 7) (h : hold s p = wOf k0) : (if hold s p = -9 then s 0 1 else s 2 (hold s p).toNat) = plS s k0 := by
  rw [h]
  unfold wOf plS
  by_cases q : k0 = 6
  · rw [if_pos q, if_pos rfl, if_pos q]
  · rw [if_neg q, if_neg (by omega), if_neg q, tn_c]
theorem FA_fS {s : Mem} {p x : Int} (hg : GB s) : ∀ f : Nat, FA s p x f = fS (fun k => WS s p k f) (dS s x) (s 0 0).toNat
  | 0 => by
    have e : ∀ n, fS (fun k => WS s p k 0) (dS s x) n = 0 := by
      intro n
      induction n with
      | zero => unfold fS WS; exact Int.zero_mul _
      | succ n ih =>
        unfold fS
        rw [ih]
        unfold WS
        rw [Int.zero_mul]
        rfl
    rw [e]
    rfl
  | f + 1 => by
    have g0 := hg.1
    have g6 := hg.2.1
    obtain ⟨k0, hk1, hk0, e0, e1⟩ := wOf_holdP (p := (f : Int)) hg
    have hw : ∀ k, k < 7 → WS s p k (f + 1) = WS s p k f + (if k = k0 then prS s p (f : Int) else 0) := fun k hk => by
      rw [WS]
      by_cases q : k = k0
      · rw [if_pos q, if_pos ((e1 k hk).mpr q)]
      · rw [if_neg q, if_neg (fun w => q ((e1 k hk).mp w))]
    rw [FA, FA_fS hg f, hold_pl hk0 e0, fS_add (w' := fun k => WS s p k (f + 1)) (w := fun k => WS s p k f) (k0 := k0) (x := prS s p (f : Int)) (by
      rw [hw 6 (by omega)]
      ) (s 0 0).toNat (by omega) (fun k hk => hw k (by omega)), if_pos (by omega)]
    rfl
theorem FA_rng {s : Mem} {p x : Int} (hg : GB s) (hp : 0 ≤ p ∧ p ≤ 12) (hx : 0 ≤ x ∧ x ≤ 9) : ∀ f : Nat, 0 ≤ FA s p x f ∧ FA s p x f ≤ 26873856 * f
  | 0 => by unfold FA; omega
  | f + 1 => by
    have ih := FA_rng hg hp hx f
    obtain ⟨k0, hk1, hk0, e0, e1⟩ := wOf_holdP (p := (f : Int)) hg
    have h1 := prS_b (f := (f : Int)) hg hp
    have h2 := dst_b hx (plS_b hg hk1)
    rw [FA, hold_pl hk0 e0]
    have h3 := Int.mul_nonneg h1.1 h2.1
    have h4 := Int.mul_le_mul h1.2 h2.2 h2.1 (by omega)
    omega
theorem e_wFar {s μ : Mem} {p x : Int} {T : Nat} (hc : CB 20 μ s) (hg : GB s) (hp : 0 ≤ p ∧ p ≤ 12) (hx : 0 ≤ x ∧ x ≤ 9) (hT : T ≤ 64) (hW : ∀ k, k < 7 → μ 38 k = WS s p k T) : fX1_weighedFar x μ = some (FA s p x T) := by
  have g0 := hg.1
  have g6 := hg.2.1
  have hFA := FA_rng hg hp hx T
  rw [FA_fS hg] at hFA ⊢
  have hnn : ∀ k, (k = 6 ∨ k < (s 0 0).toNat) → 0 ≤ (fun k => WS s p k T) k * dS s x k := fun k hk => Int.mul_nonneg (WS_rng hg hp k T).1 (dst_b hx (plS_b hg (by omega))).1
  obtain ⟨-, hmono⟩ := fS_mono hnn (s 0 0).toNat (Nat.le_refl _)
  have hpos : ∀ k, k ≤ (s 0 0).toNat → 0 ≤ fS (fun k => WS s p k T) (dS s x) k := fun k hk => (fS_mono (n := (s 0 0).toNat) hnn k hk).1
  have hab : ∀ y : Int, 0 ≤ y ∧ y ≤ 9 → mabs (w32 (y - x)) = dst x y := fun y hy => by
    unfold mabs dst
    rw [w32_i (by omega)]
    by_cases q : 0 ≤ y - x
    · rw [if_pos q]
      split <;> omega
    · rw [if_neg q, w32_i (by omega), if_pos (by omega)]
      omega
  have hL : ∀ (m k N : Nat), k + m = (s 0 0).toNat → m < N → fX1_weighedFar_L23 μ x N (fS (fun k => WS s p k T) (dS s x) k) (k : Int) = some (fS (fun k => WS s p k T) (dS s x) (s 0 0).toNat) := by
    intro m
    induction m with
    | zero =>
      intro k N h1 h2
      obtain ⟨N, rfl⟩ : ∃ j, N = j + 1 := ⟨N - 1, by omega⟩
      obtain rfl : k = (s 0 0).toNat := by omega
      rw [fX1_weighedFar_L23, hc.1, if_pos (by omega)]
    | succ m ih =>
      intro k N h1 h2
      obtain ⟨N, rfl⟩ : ∃ j, N = j + 1 := ⟨N - 1, by omega⟩
      have ih' := ih (k + 1) N (by omega) (by omega)
      have m1 := hmono (k + 1) (by omega)
      have m0 := hpos k (by omega)
      have m2 : 0 ≤ WS s p k T * dS s x k := hnn k (Or.inr (by omega))
      have e : fS (fun k => WS s p k T) (dS s x) (k + 1) = fS (fun k => WS s p k T) (dS s x) k + WS s p k T * dS s x k := rfl
      rw [e] at ih' m1
      obtain ⟨c1, c2, c3, c4⟩ := hc.2.2.2 k (by omega)
      obtain ⟨-, g5, -⟩ := hg.2.2.2.2 k (by omega)
      have ed : dst x (s 2 k) = dS s x k := by unfold dS plS; rw [if_neg (by omega)]
      rw [fX1_weighedFar_L23, hc.1, if_neg (by omega)]
      simp (disch := omega) only [mlet_e, w32_s, grd, if_pos, tn_c]
      rw [c2, hW k (by omega), hab _ g5, ed, w32_i (z := WS s p k T * dS s x k) (by omega), w32_i (by omega)]
      exact ih'
  unfold fX1_weighedFar
  have hf := fuel_lt
  generalize fuel = N at hf ⊢
  rw [mlet_e, hc.2.1, hW 6 (by omega), hab _ ⟨hg.2.2.1, hg.2.2.2.1⟩]
  have e6 : WS s p 6 T * dst x (s 0 1) = fS (fun k => WS s p k T) (dS s x) 0 := by
    unfold fS dS plS
    rw [if_pos rfl]
  have m1 := hmono 0 (by omega)
  have m0 := hpos 0 (by omega)
  rw [e6, w32_i (by omega)]
  exact hL (s 0 0).toNat 0 N (by omega) (by omega)
theorem e_fair_L {s μ : Mem} {p : Int} {T : Nat} {K : Int → Option (Int × Mem)} (hc : CB 20 μ s) (hg : GB s) (hp : 0 ≤ p ∧ p ≤ 12) (hT : T ≤ 64) (hW : ∀ k, k < 7 → μ 38 k = WS s p k T) : ∀ (m k N : Nat), k + m = 9 → m < N → fX1_fair_L34 K μ N ((bst (fun x => FA s p (x : Int) T) k : Nat) : Int) ((k + 1 : Nat) : Int) = K ((bst (fun x => FA s p (x : Int) T) 9 : Nat) : Int) := by
  intro m
  induction m with
  | zero =>
    intro k N h1 h2
    obtain ⟨N, rfl⟩ : ∃ j, N = j + 1 := ⟨N - 1, by omega⟩
    obtain rfl : k = 9 := by omega
    rw [fX1_fair_L34, if_pos (by omega)]
  | succ m ih =>
    intro k N h1 h2
    obtain ⟨N, rfl⟩ : ∃ j, N = j + 1 := ⟨N - 1, by omega⟩
    have ih' := ih (k + 1) N (by omega) (by omega)
    have hb := bst_le (fun x => FA s p (x : Int) T) k
    rw [bst] at ih'
    rw [fX1_fair_L34, if_neg (by omega), e_wFar hc hg hp (by omega) hT hW, bd_some, e_wFar hc hg hp (by omega) hT hW, bd_some]
    simp (disch := omega) only [mlet_e, w32_s]
    by_cases z : FA s p ((k + 1 : Nat) : Int) T < FA s p ((bst (fun x => FA s p (x : Int) T) k : Nat) : Int) T
    · rw [if_neg (by omega)]
      rw [if_pos z] at ih'
      exact ih'
    · rw [if_pos (by omega)]
      rw [if_neg z] at ih'
      exact ih'
