/-! CHANCES: what the law asks of them -/
def oS (s : Mem) (p : Int) (T : Nat) : Nat → Int
  | 0 => 0
  | i + 1 => oS s p T i + WS s p i T
theorem oS_fS (s : Mem) (p : Int) (T : Nat) : ∀ i, fS (fun k => WS s p k T) (fun _ => 1) i = WS s p 6 T + oS s p T i
  | 0 => by
    unfold fS oS
    omega
  | i + 1 => by
    unfold fS oS
    rw [oS_fS s p T i]
    omega
theorem WS_all {s : Mem} {p : Int} (hg : GB s) : ∀ f : Nat, fS (fun k => WS s p k f) (fun _ => 1) (s 0 0).toNat = sumP p (s 0 0).toNat f
  | 0 => by
    have e : ∀ n, fS (fun k => WS s p k 0) (fun _ => 1) n = 0 := by
      intro n
      induction n with
      | zero => rfl
      | succ n ih =>
        unfold fS
        rw [ih]
        rfl
    rw [e]
    rfl
  | f + 1 => by
    have g0 := hg.1
    have g6 := hg.2.1
    obtain ⟨k0, h1, h2, h3, h4⟩ := wOf_holdP (p := (f : Int)) hg
    have hw : ∀ k, k < 7 → WS s p k (f + 1) = WS s p k f + (if k = k0 then prS s p (f : Int) else 0) := fun k hk => by
      rw [show WS s p k (f + 1) = WS s p k f + (if hold s (f : Int) = wOf k then prS s p (f : Int) else 0) from rfl]
      by_cases e : k = k0
      · rw [if_pos e, if_pos ((h4 k hk).mpr e)]
      · rw [if_neg e, if_neg (fun w => e ((h4 k hk).mp w))]
    have h5 := fS_add (w := fun k => WS s p k f) (w' := fun k => WS s p k (f + 1)) (d := fun _ => 1) (k0 := k0) (x := prS s p (f : Int)) (hw 6 (by omega)) (s 0 0).toNat (by omega) (fun k hk => hw k (by omega))
    rw [h5, WS_all hg f, if_pos (by omega), sumP]
    unfold prS
    omega
theorem oS_mono {s : Mem} {p : Int} {T : Nat} (hg : GB s) (hp : 0 ≤ p ∧ p ≤ 12) : ∀ i : Nat, 0 ≤ oS s p T i ∧ ∀ j, j ≤ i → oS s p T j ≤ oS s p T i
  | 0 => ⟨by unfold oS; omega, fun j hj => by rw [show j = 0 by omega]; exact Int.le_refl _⟩
  | i + 1 => by
    obtain ⟨h1, h2⟩ := oS_mono (T := T) hg hp i
    have hw := (WS_rng hg hp i T).1
    refine ⟨by unfold oS; omega, fun j hj => ?_⟩
    by_cases e : j = i + 1
    · rw [e]; exact Int.le_refl _
    · have := h2 j (by omega)
      rw [oS]
      omega
theorem oS_le {s : Mem} {p : Int} (hg : GB s) (hp : 0 ≤ p ∧ p ≤ 12) {i : Nat} (hi : (i : Int) ≤ s 0 0) : 0 ≤ oS s p (2 ^ nS s) i ∧ oS s p (2 ^ nS s) i ≤ ((bS s : Nat) : Int) := by
  have g0 := hg.1
  have g6 := hg.2.1
  obtain ⟨h1, h2⟩ := oS_mono (T := 2 ^ nS s) hg hp (s 0 0).toNat
  have h3 := h2 i (by omega)
  have h4 := (oS_mono (T := 2 ^ nS s) hg hp i).1
  have h5 := WS_all (p := p) hg (2 ^ nS s)
  rw [oS_fS, sumP_all hp (by omega)] at h5
  have h6 := (WS_rng hg hp 6 (2 ^ nS s)).1
  unfold bS nS at *
  omega
theorem pr0_dec : ∀ (n : Fin 7) (f : Fin 64), f.val < 2 ^ n.val → prR 0 (f.val : Int) n.val = if f.val = 0 then ((12 ^ n.val : Nat) : Int) else 0 := by decide +kernel
theorem pr12_dec : ∀ (n : Fin 7) (f : Fin 64), f.val < 2 ^ n.val → prR 12 (f.val : Int) n.val = if f.val + 1 = 2 ^ n.val then ((12 ^ n.val : Nat) : Int) else 0 := by decide +kernel
theorem allf_dec : ∀ (n : Fin 7) (k : Fin 6), k.val < n.val → band (bshr ((2 ^ n.val - 1 : Nat) : Int) (k.val : Int)) 1 = 1 := by decide +kernel
theorem WS_p0 {s : Mem} (hg : GB s) (k : Nat) : ∀ f : Nat, f ≤ 2 ^ nS s → WS s 0 k f = if f = 0 then 0 else if hold s 0 = wOf k then ((bS s : Nat) : Int) else 0
  | 0, _ => rfl
  | f + 1, h => by
    have g0 := hg.1
    have g6 := hg.2.1
    have hp := pow_64 (n := (s 0 0).toNat) (by omega)
    have h1 := pr0_dec ⟨(s 0 0).toNat, by omega⟩ ⟨f, by unfold nS at h; omega⟩ (by unfold nS at h; dsimp only; omega)
    dsimp only at h1
    have ih := WS_p0 hg k f (by omega)
    rw [WS, ih, if_neg (show ¬ f + 1 = 0 by omega)]
    unfold prS
    rw [h1]
    by_cases e : f = 0
    · subst e
      rw [if_pos rfl, if_pos rfl]
      unfold bS nS
      by_cases q : hold s 0 = wOf k
      · rw [if_pos q, if_pos (by exact q)]
        omega
      · rw [if_neg q, if_neg (by exact q)]
        omega
    · rw [if_neg e, if_neg e]
      by_cases q : hold s (f : Int) = wOf k
      · rw [if_pos q]
        omega
      · rw [if_neg q]
        omega
theorem hold_all {s : Mem} (hg : GB s) : hold s ((2 ^ nS s - 1 : Nat) : Int) = -9 := by
  have g0 := hg.1
  have g6 := hg.2.1
  refine (hold_none hg).mpr (fun j hj => ?_)
  have h1 := allf_dec ⟨(s 0 0).toNat, by omega⟩ ⟨j, by omega⟩ (by dsimp only; omega)
  dsimp only at h1
  unfold byP nS
  rw [h1, if_neg (by omega)]
  omega
theorem WS_p12 {s : Mem} (hg : GB s) {k : Nat} (hk : k < 6) : ∀ f : Nat, f ≤ 2 ^ nS s → WS s 12 k f = 0
  | 0, _ => rfl
  | f + 1, h => by
    have g0 := hg.1
    have g6 := hg.2.1
    have hp := pow_64 (n := (s 0 0).toNat) (by omega)
    have h1 := pr12_dec ⟨(s 0 0).toNat, by omega⟩ ⟨f, by unfold nS at h; omega⟩ (by unfold nS at h; dsimp only; omega)
    dsimp only at h1
    have ih := WS_p12 hg hk f (by omega)
    rw [WS, ih]
    unfold prS
    rw [h1]
    by_cases e : f + 1 = 2 ^ (s 0 0).toNat
    · have h9 := hold_all hg
      unfold nS at h9
      rw [show 2 ^ (s 0 0).toNat - 1 = f by omega] at h9
      rw [h9, if_neg (by unfold wOf; rw [if_neg (by omega)]; omega)]
      omega
    · rw [if_neg e]
      by_cases q : hold s (f : Int) = wOf k
      · rw [if_pos q]; omega
      · rw [if_neg q]; omega
/-! fractions in lowest terms -/
theorem rU_n {a b : Nat} (ha : a < 2 ^ 31) (hb : 1 ≤ b) : ∃ g u l : Nat, 1 ≤ g ∧ rU a b = (u : Int) ∧ rL' a b = (if b < 2 ^ 31 then (l : Int) else rL' a b) ∧ a = u * g ∧ b = l * g ∧ u ≤ a ∧ l ≤ b ∧ 1 ≤ l := by
  have g1 : 0 < Nat.gcd a b := Nat.gcd_pos_of_pos_right _ (by omega)
  have d1 := Nat.gcd_dvd_left a b
  have d2 := Nat.gcd_dvd_right a b
  refine ⟨Nat.gcd a b, a / Nat.gcd a b, b / Nat.gcd a b, g1, ?_, ?_, (Nat.div_mul_cancel d1).symm, (Nat.div_mul_cancel d2).symm, Nat.div_le_self _ _, Nat.div_le_self _ _, ?_⟩
  · unfold rU
    rw [tdiv_nat]
    have := Nat.div_le_self a (Nat.gcd a b)
    generalize a / Nat.gcd a b = q at *
    exact w64_i (by omega)
  · by_cases q : b < 2 ^ 31
    · rw [if_pos q]
      unfold rL'
      rw [tdiv_nat]
      have := Nat.div_le_self b (Nat.gcd a b)
      generalize b / Nat.gcd a b = q at *
      exact w64_i (by omega)
    · rw [if_neg q]
  · exact Nat.div_pos (Nat.le_of_dvd (by omega) d2) g1
theorem frac {a b : Nat} (ha : a < 2 ^ 31) (hb : 1 ≤ b) (hb2 : b < 2 ^ 31) : ∃ g u l : Nat, 1 ≤ g ∧ rU a b = (u : Int) ∧ rL' a b = (l : Int) ∧ a = u * g ∧ b = l * g ∧ u ≤ a ∧ l ≤ b ∧ 1 ≤ l := by
  obtain ⟨g, u, l, h1, h2, h3, h4⟩ := rU_n ha hb
  rw [if_pos hb2] at h3
  exact ⟨g, u, l, h1, h2, h3, h4⟩
theorem frac_le {u l g u0 l0 g0 B : Nat} (h1 : B = l * g) (h2 : B = l0 * g0) (hg : 1 ≤ g) (hg0 : 1 ≤ g0) (h : u0 * g0 ≤ u * g) : u0 * l ≤ u * l0 := by
  have e1 : u0 * l * (g * g0) = u0 * g0 * B := by rw [h1]; ac_rfl
  have e2 : u * l0 * (g * g0) = u * g * B := by rw [h2]; ac_rfl
  have h3 : u0 * l * (g * g0) ≤ u * l0 * (g * g0) := by
    rw [e1, e2]
    exact Nat.mul_le_mul_right _ h
  exact Nat.le_of_mul_le_mul_right h3 (Nat.mul_pos hg hg0)
theorem frac_lt {u l g u0 l0 g0 B : Nat} (h1 : B = l * g) (h2 : B = l0 * g0) (hB : 1 ≤ B) (h : u0 * g0 < u * g) : u0 * l < u * l0 := by
  have e1 : u0 * l * (g * g0) = u0 * g0 * B := by rw [h1]; ac_rfl
  have e2 : u * l0 * (g * g0) = u * g * B := by rw [h2]; ac_rfl
  have h3 : u0 * l * (g * g0) < u * l0 * (g * g0) := by
    rw [e1, e2]
    exact Nat.mul_lt_mul_of_pos_right h hB
  exact Nat.lt_of_mul_lt_mul_right h3
theorem FA_9 {s : Mem} {p x : Int} (hg : GB s) (hp : 0 ≤ p ∧ p ≤ 12) (hx : 0 ≤ x ∧ x ≤ 9) : ∀ f : Nat, FA s p x f ≤ 9 * sumP p (s 0 0).toNat f
  | 0 => by
    unfold FA sumP
    omega
  | f + 1 => by
    have ih := FA_9 hg hp hx f
    obtain ⟨k0, h1, h2, h3, h4⟩ := wOf_holdP (p := (f : Int)) hg
    have hpl := plS_b hg h1
    have hd := dst_b hx hpl
    have hr := prS_b (f := (f : Int)) hg hp
    rw [FA, hold_pl h2 h3, sumP]
    unfold prS at *
    generalize dst x (plS s k0) = d at *
    generalize prR p (f : Int) (s 0 0).toNat = r at *
    have : r * d ≤ r * 9 := Int.mul_le_mul_of_nonneg_left hd.2 hr.1
    omega
theorem bst_min (M : Nat → Int) : ∀ k, (∀ y, y ≤ k → M (bst M k) ≤ M y) ∧ ∀ y, y < bst M k → M (bst M k) < M y
  | 0 => ⟨fun y hy => by rw [show y = 0 by omega]; exact Int.le_refl _, fun y hy => absurd hy (by unfold bst; omega)⟩
  | k + 1 => by
    obtain ⟨h1, h2⟩ := bst_min M k
    have hb := bst_le M k
    unfold bst
    by_cases q : M (k + 1) < M (bst M k)
    · rw [if_pos q]
      refine ⟨fun y hy => ?_, fun y hy => ?_⟩
      · by_cases e : y = k + 1
        · rw [e]; exact Int.le_refl _
        · have := h1 y (by omega)
          omega
      · have := h1 y (by omega)
        omega
    · rw [if_neg q]
      refine ⟨fun y hy => ?_, h2⟩
      by_cases e : y = k + 1
      · rw [e]; omega
      · exact h1 y (by omega)
