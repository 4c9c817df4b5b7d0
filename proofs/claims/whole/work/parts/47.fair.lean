/-! mid, fair -/
def dst (x y : Int) : Int := if y ≤ x then x - y else y - x
theorem dst_b {x y : Int} (hx : 0 ≤ x ∧ x ≤ 9) (hy : 0 ≤ y ∧ y ≤ 9) : 0 ≤ dst x y ∧ dst x y ≤ 9 := by
  unfold dst
  split <;> omega
/-- where the ford would be, told by the holder's place -/
def plS (s : Mem) (k : Nat) : Int := if k = 6 then s 0 1 else s 2 k
def dS (s : Mem) (x : Int) (k : Nat) : Int := dst x (plS s k)
theorem plS_b {s : Mem} (hg : GB s) {k : Nat} (hk : k = 6 ∨ (k : Int) < s 0 0) : 0 ≤ plS s k ∧ plS s k ≤ 9 := by
  obtain ⟨g1, g2, g3, g4, g5⟩ := hg
  unfold plS
  rcases hk with h | h
  · rw [if_pos h]
    exact ⟨g3, g4⟩
  · rw [if_neg (by omega)]
    exact (g5 k h).2.1
def fS (w d : Nat → Int) : Nat → Int
  | 0 => w 6 * d 6
  | k + 1 => fS w d k + w k * d k
theorem fS_mono {w d : Nat → Int} {n : Nat} (h : ∀ k, (k = 6 ∨ k < n) → 0 ≤ w k * d k) : ∀ k, k ≤ n → 0 ≤ fS w d k ∧ ∀ j, j ≤ k → fS w d j ≤ fS w d k
  | 0, _ => ⟨by unfold fS; exact h 6 (Or.inl rfl), fun j hj => by rw [show j = 0 by omega]; exact Int.le_refl _⟩
  | k + 1, hk => by
    obtain ⟨h1, h2⟩ := fS_mono h k (by omega)
    have h3 := h k (Or.inr (by omega))
    have e : fS w d (k + 1) = fS w d k + w k * d k := rfl
    refine ⟨by omega, fun j hj => ?_⟩
    by_cases q : j = k + 1
    · rw [q]; exact Int.le_refl _
    · have := h2 j (by omega)
      omega
theorem fS_add {w w' d : Nat → Int} {k0 : Nat} {x : Int} (h6 : w' 6 = w 6 + (if 6 = k0 then x else 0)) : ∀ n, n ≤ 6 → (∀ k, k < n → w' k = w k + (if k = k0 then x else 0)) → fS w' d n = fS w d n + (if k0 = 6 ∨ k0 < n then x * d k0 else 0)
  | 0, _, _ => by
    unfold fS
    rw [h6]
    by_cases q : 6 = k0
    · rw [if_pos q, if_pos (by omega), ← q, Int.add_mul]
    · rw [if_neg q, if_neg (by omega), Int.add_zero, Int.add_zero]
  | n + 1, hn, h => by
    have ih := fS_add (d := d) h6 n (by omega) (fun k hk => h k (by omega))
    have e1 : fS w' d (n + 1) = fS w' d n + w' n * d n := rfl
    have e2 : fS w d (n + 1) = fS w d n + w n * d n := rfl
    rw [e1, e2, ih, h n (by omega)]
    by_cases q : n = k0
    · rw [if_pos q, if_neg (by omega), if_pos (by omega), Int.add_mul, ← q]
      omega
    · rw [if_neg q, Int.add_zero]
      by_cases q2 : k0 = 6 ∨ k0 < n
      · rw [if_pos q2, if_pos (by omega)]
        omega
      · rw [if_neg q2, if_neg (by omega)]
        omega
/-- how far in all, by the failing ones below f -/
def FA (s : Mem) (p x : Int) : Nat → Int
  | 0 => 0
  | f + 1 => FA s p x f + prS s p (f : Int) * dst x (if hold s (f : Int) = -9 then s 0 1 else s 2 (hold s (f : Int)).toNat)
theorem hold_pl {s : Mem} {p : Int} {k0 : Nat} (hk : k0 < 7) (h : hold s p = wOf k0) : (if hold s p = -9 then s 0 1 else s 2 (hold s p).toNat) = plS s k0 := by
  rw [h]
  unfold wOf plS
  by_cases q : k0 = 6
  · rw [if_pos q, if_pos rfl, if_pos q]
  · rw [if_neg q, if_neg (by omega), if_neg q, tn_c]
theorem FA_fS {s : Mem} {p x : Int} (hg : GB s) : ∀ f : Nat, FA s p x f = fS (fun k => WS s p k f) (dS s x) (s 0 0).toNat
  | 0 => by
    have e : ∀ n, fS (fun k => WS s p k 0) (dS s x) n = 0 := by
      intro n
      induction n with
      | zero => unfold fS WS; exact Int.zero_mul _
      | succ n ih =>
        unfold fS
        rw [ih]
        unfold WS
        rw [Int.zero_mul]
        rfl
    rw [e]
    rfl
  | f + 1 => by
    have g0 := hg.1
    have g6 := hg.2.1
    obtain ⟨k0, hk1, hk0, e0, e1⟩ := wOf_holdP (p := (f : Int)) hg
    have hw : ∀ k, k < 7 → WS s p k (f + 1) = WS s p k f + (if k = k0 then prS s p (f : Int) else 0) := fun k hk => by
      rw [WS]
      by_cases q : k = k0
      · rw [if_pos q, if_pos ((e1 k hk).mpr q)]
      · rw [if_neg q, if_neg (fun w => q ((e1 k hk).mp w))]
    rw [FA, FA_fS hg f, hold_pl hk0 e0, fS_add (w' := fun k => WS s p k (f + 1)) (w := fun k => WS s p k f) (k0 := k0) (x := prS s p (f : Int)) (by
      rw [hw 6 (by omega)]
      ) (s 0 0).toNat (by omega) (fun k hk => hw k (by omega)), if_pos (by omega)]
    rfl
theorem FA_rng {s : Mem} {p x : Int} (hg : GB s) (hp : 0 ≤ p ∧ p ≤ 12) (hx : 0 ≤ x ∧ x ≤ 9) : ∀ f : Nat, 0 ≤ FA s p x f ∧ FA s p x f ≤ 26873856 * f
  | 0 => by unfold FA; omega
  | f + 1 => by
    have ih := FA_rng hg hp hx f
    obtain ⟨k0, hk1, hk0, e0, e1⟩ := wOf_holdP (p := (f : Int)) hg
    have h1 := prS_b (f := (f : Int)) hg hp
    have h2 := dst_b hx (plS_b hg hk1)
    rw [FA, hold_pl hk0 e0]
    have h3 := Int.mul_nonneg h1.1 h2.1
    have h4 := Int.mul_le_mul h1.2 h2.2 h2.1 (by omega)
    omega
theorem e_wFar {s μ : Mem} {p x : Int} {T : Nat} (hc : CB 20 μ s) (hg : GB s) (hp : 0 ≤ p ∧ p ≤ 12) (hx : 0 ≤ x ∧ x ≤ 9) (hT : T ≤ 64) (hW : ∀ k, k < 7 → μ 38 k = WS s p k T) : fX1_weighedFar x μ = some (FA s p x T) := by
  have g0 := hg.1
  have g6 := hg.2.1
  have hFA := FA_rng hg hp hx T
  rw [FA_fS hg] at hFA ⊢
  have hnn : ∀ k, (k = 6 ∨ k < (s 0 0).toNat) → 0 ≤ (fun k => WS s p k T) k * dS s x k := fun k hk => Int.mul_nonneg (WS_rng hg hp k T).1 (dst_b hx (plS_b hg (by omega))).1
  obtain ⟨-, hmono⟩ := fS_mono hnn (s 0 0).toNat (Nat.le_refl _)
  have hpos : ∀ k, k ≤ (s 0 0).toNat → 0 ≤ fS (fun k => WS s p k T) (dS s x) k := fun k hk => (fS_mono (n := (s 0 0).toNat) hnn k hk).1
  have hab : ∀ y : Int, 0 ≤ y ∧ y ≤ 9 → mabs (w32 (y - x)) = dst x y := fun y hy => by
    unfold mabs dst
    rw [w32_i (by omega)]
    by_cases q : 0 ≤ y - x
    · rw [if_pos q]
      split <;> omega
    · rw [if_neg q, w32_i (by omega), if_pos (by omega)]
      omega
  have hL : ∀ (m k N : Nat), k + m = (s 0 0).toNat → m < N → fX1_weighedFar_L23 μ x N (fS (fun k => WS s p k T) (dS s x) k) (k : Int) = some (fS (fun k => WS s p k T) (dS s x) (s 0 0).toNat) := by
    intro m
    induction m with
    | zero =>
      intro k N h1 h2
      obtain ⟨N, rfl⟩ : ∃ j, N = j + 1 := ⟨N - 1, by omega⟩
      obtain rfl : k = (s 0 0).toNat := by omega
      rw [fX1_weighedFar_L23, hc.1, if_pos (by omega)]
    | succ m ih =>
      intro k N h1 h2
      obtain ⟨N, rfl⟩ : ∃ j, N = j + 1 := ⟨N - 1, by omega⟩
      have ih' := ih (k + 1) N (by omega) (by omega)
      have m1 := hmono (k + 1) (by omega)
      have m0 := hpos k (by omega)
      have m2 : 0 ≤ WS s p k T * dS s x k := hnn k (Or.inr (by omega))
      have e : fS (fun k => WS s p k T) (dS s x) (k + 1) = fS (fun k => WS s p k T) (dS s x) k + WS s p k T * dS s x k := rfl
      rw [e] at ih' m1
      obtain ⟨c1, c2, c3, c4⟩ := hc.2.2.2 k (by omega)
      obtain ⟨-, g5, -⟩ := hg.2.2.2.2 k (by omega)
      have ed : dst x (s 2 k) = dS s x k := by unfold dS plS; rw [if_neg (by omega)]
      rw [fX1_weighedFar_L23, hc.1, if_neg (by omega)]
      simp (disch := omega) only [mlet_e, w32_s, grd, if_pos, tn_c]
      rw [c2, hW k (by omega), hab _ g5, ed, w32_i (z := WS s p k T * dS s x k) (by omega), w32_i (by omega)]
      exact ih'
  unfold fX1_weighedFar
  have hf := fuel_lt
  generalize fuel = N at hf ⊢
  rw [mlet_e, hc.2.1, hW 6 (by omega), hab _ ⟨hg.2.2.1, hg.2.2.2.1⟩]
  have e6 : WS s p 6 T * dst x (s 0 1) = fS (fun k => WS s p k T) (dS s x) 0 := by
    unfold fS dS plS
    rw [if_pos rfl]
  have m1 := hmono 0 (by omega)
  have m0 := hpos 0 (by omega)
  rw [e6, w32_i (by omega)]
  exact hL (s 0 0).toNat 0 N (by omega) (by omega)
theorem e_farAll {s μ : Mem} {p x : Int} {T : Nat} (hM : MB 0 μ s) (hg : GB s) (hp : 0 ≤ p ∧ p ≤ 12) (hx : 0 ≤ x ∧ x ≤ 9) (hT : 2 ^ (s 0 0).toNat = T) : Ev (fX2_farAll x p μ) fun q => q.1 = FA s p x T ∧ q.2 60 22 = sumP p (s 0 0).toNat T ∧ ∀ c k, ¬ (c = 60 ∧ k = 22) → q.2 c k = μ c k := by
  have g0 := hg.1
  have g6 := hg.2.1
  have hpw := pow_64 (n := (s 0 0).toNat) (by omega)
  rw [hT] at hpw
  have hL : ∀ (m f N : Nat) (ν : Mem), f + m = T → m < N → ν 60 22 = sumP p (s 0 0).toNat f → (∀ c k, ¬ (c = 60 ∧ k = 22) → ν c k = μ c k) → Ev (fX2_farAll_L10 p x N (FA s p x f) (f : Int) ν) fun q => q.1 = FA s p x T ∧ q.2 60 22 = sumP p (s 0 0).toNat T ∧ ∀ c k, ¬ (c = 60 ∧ k = 22) → q.2 c k = μ c k := by
    intro m
    induction m with
    | zero =>
      intro f N ν h1 h2 h3 h4
      obtain ⟨N, rfl⟩ : ∃ j, N = j + 1 := ⟨N - 1, by omega⟩
      obtain rfl : f = T := by omega
      rw [fX2_farAll_L10, h4 _ _ (by omega), hM.1, bshl_p (by omega), hT, if_pos (by omega)]
      exact ev_some.mpr ⟨rfl, h3, h4⟩
    | succ m ih =>
      intro f N ν h1 h2 h3 h4
      obtain ⟨N, rfl⟩ : ∃ j, N = j + 1 := ⟨N - 1, by omega⟩
      have hM' : MB 0 ν s := MB_congr hM g6 (fun c k hk => h4 _ _ (by omega))
      obtain ⟨k0, hk1, hk0, e0, e1⟩ := wOf_holdP (p := (f : Int)) hg
      have hFA := FA_rng hg hp hx (f + 1)
      have hFA0 := FA_rng hg hp hx f
      have hsum := sumP_rng hg hp (f + 1)
      have h6 := prS_b (f := (f : Int)) hg hp
      have h7 := dst_b hx (plS_b hg hk1)
      have h8 := Int.mul_nonneg h6.1 h7.1
      have step : ∀ y, y = plS s k0 → Ev (mlet (wr ν 60 22 (w64 (ν 60 22 + prS s p (f : Int)))) fun μ12 => mlet (w32 ((f : Int) + 1)) fun x13 => fX2_farAll_L10 p x N (w64 (FA s p x f + w64 (prS s p (f : Int) * (if y ≤ x then x - y else y - x)))) x13 μ12) fun q => q.1 = FA s p x T ∧ q.2 60 22 = sumP p (s 0 0).toNat T ∧ ∀ c k, ¬ (c = 60 ∧ k = 22) → q.2 c k = μ c k := by
        rintro y rfl
        have ih' := ih (f + 1) N (wr ν 60 22 (sumP p (s 0 0).toNat (f + 1))) (by omega) (by omega) (wr_at (by omega)) (fun c k hc => by rw [wr_ne hc, h4 _ _ hc])
        rw [sumP, show prR p (f : Int) (s 0 0).toNat = prS s p (f : Int) from rfl] at ih' hsum
        rw [FA, hold_pl hk0 e0] at ih' hFA
        rw [mlet_e, mlet_e, w32_s (by omega), h3, w64_i (z := sumP p (s 0 0).toNat f + prS s p (f : Int)) (by omega)]
        rw [show (if plS s k0 ≤ x then x - plS s k0 else plS s k0 - x) = dst x (plS s k0) from rfl]
        rw [w64_i (z := prS s p (f : Int) * dst x (plS s k0)) (by omega), w64_i (by omega)]
        exact ih'
      have hb := plS_b hg hk1
      rw [fX2_farAll_L10, h4 60 1 (by omega), hM.1, bshl_p (by omega), hT, if_neg (by omega), e_boldest (x := 0) (a := 0) rfl (by omega) hM' hg, bd_some, e_chances hM'.1 hg hp, bd_some, mlet_e]
      by_cases z : hold s (f : Int) = -9
      · have hy : s 0 1 = plS s k0 := by
          have := hold_pl hk0 e0
          rw [if_pos z] at this
          exact this
        rw [if_neg (by omega), (MB_0 hM').1]
        dsimp only
        rw [e_apart (x := x) (y := s 0 1) (by omega) (by rw [hy]; omega), bd_some, mlet_e]
        exact step _ hy
      · have hy : s 2 (hold s (f : Int)).toNat = plS s k0 := by
          have := hold_pl hk0 e0
          rw [if_neg z] at this
          exact this
        rcases hold_rng (p := (f : Int)) hg with h | ⟨i, i1, i2⟩
        · exact absurd h z
        · rw [i1, tn_c] at hy
          rw [if_pos z, i1]
          simp only [grd]
          rw [w32_i (z := 3 + (i : Int)) (by omega), if_pos (by omega), tn_k3, ((MB_0 hM').2.2 i i2).2.1, e_apart (x := x) (y := s 2 i) (by omega) (by rw [hy]; omega), bd_some, mlet_e]
          exact step _ hy
  unfold fX2_farAll
  have hf := fuel_lt
  generalize fuel = N at hf ⊢
  rw [mlet_e]
  exact hL T 0 N _ (by omega) (by omega) (wr_at (by omega)) (fun c k hc => wr_ne hc)
theorem P_mid {x p : Int} {μ : Mem} (h : Inv μ) : Same (fX1_mid x p μ) (fX2_mid x p) := by
  obtain ⟨s, hR, hC, hM, hg, h0, h40, h61⟩ := Inv_now h
  have g0 := hg.1
  have g6 := hg.2.1
  have c4 := hC.1
  have m4 := hM.1
  have hpw := pow_64 (n := (s 0 0).toNat) (by omega)
  have h12 := pow12 (s 0 0).toNat (by omega)
  by_cases a : 0 ≤ x ∧ x ≤ 9
  · by_cases b : 0 ≤ p ∧ p ≤ 12
    · by_cases e : s 0 0 = 0
      · refine same_of (v := -4) (μ1 := μ) (μ2 := μ) ?_ ?_ h
        · unfold fX1_mid
          simp (disch := omega) only [e_isPlace, e_within, bnd2_some, bd_some, b01_t, b01_f, if_pos, if_neg, mlet_e, grd, ite_true, ite_false, not_true_eq_false, not_false_eq_true, ite_self, tn_c, w32_i]
        · unfold fX2_mid
          simp (disch := omega) only [e_in, bnd2_some, bd_some, b01_t, b01_f, if_pos, if_neg, mlet_e, grd, ite_true, ite_false, not_true_eq_false, not_false_eq_true, ite_self, tn_c, w32_i]
      · generalize hT : 2 ^ (s 0 0).toNat = T at hpw
        obtain ⟨μa, a1, a2, a3⟩ := e_weigh (p := p) hC hg b hT
        have hFA := FA_rng hg b a T
        obtain ⟨A, hA⟩ : ∃ A : Nat, FA s p x T = (A : Int) := ⟨(FA s p x T).toNat, by omega⟩
        generalize hB : 12 ^ (s 0 0).toNat = B at h12
        have hCa : CB 20 μa s := CB_congr hC (fun c k hk => a3 _ _ (by omega))
        have ew := e_wFar hCa hg b a hpw.2 a2
        have eall := e_allW (s := s) (μ := μa) hCa.1 hg
        rw [hB] at eall
        rw [hA] at ew
        have hM1 : MB 0 (wr (wr μa 0 12 (rU A B)) 0 13 (rL' A B)) s := MB_congr hM g6 (fun c k hk => by rw [wr_ne (by omega), wr_ne (by omega), a3 _ _ (by omega)])
        obtain ⟨⟨v, μ2⟩, b1, b2, b3, b4⟩ := e_farAll (x := x) hM1 hg b a hT
        dsimp only at b2 b3 b4
        subst b2
        rw [← hT, sumP_all b (by omega), hB] at b3
        refine same_of (v := 1) (μ1 := wr (wr μa 0 12 (rU A B)) 0 13 (rL' A B)) (μ2 := wr (wr μ2 60 8 (rU A B)) 60 9 (rL' A B)) ?_ ?_ (Inv_ratio h (fun c k hf => a3 _ _ (by unfold fre at hf; omega)) (fun c k hf => b4 _ _ (by unfold fre at hf; omega)))
        · unfold fX1_mid
          simp (disch := omega) only [e_isPlace, e_within, a1, ew, eall, bnd2_some, bd_some, b01_t, b01_f, if_pos, if_neg, mlet_e, grd, ite_true, ite_false, not_true_eq_false, not_false_eq_true, ite_self, tn_c, w32_i]
          rw [e_ratio (by omega) (by omega) (by omega), bd_some]
        · have m5 := hM1.1
          unfold fX2_mid
          simp (disch := omega) only [e_in, bd_some, b01_t, if_neg, if_pos, m5, b1, bnd2_some, b3]
          rw [hA, e_parts (by omega) (by omega) (by omega), bd_some]
    · refine same_of (v := -1) (μ1 := μ) (μ2 := μ) ?_ ?_ h
      · unfold fX1_mid
        simp (disch := omega) only [e_isPlace, e_within, bnd2_some, bd_some, b01_t, b01_f, if_pos, if_neg, mlet_e, grd, ite_true, ite_false, not_true_eq_false, not_false_eq_true, ite_self, tn_c, w32_i]
      · unfold fX2_mid
        simp (disch := omega) only [e_in, bnd2_some, bd_some, b01_t, b01_f, if_pos, if_neg, mlet_e, grd, ite_true, ite_false, not_true_eq_false, not_false_eq_true, ite_self, tn_c, w32_i]
  · refine same_of (v := -1) (μ1 := μ) (μ2 := μ) ?_ ?_ h
    · unfold fX1_mid
      simp (disch := omega) only [e_isPlace, e_within, bnd2_some, bd_some, b01_t, b01_f, if_pos, if_neg, mlet_e, grd, ite_true, ite_false, not_true_eq_false, not_false_eq_true, ite_self, tn_c, w32_i]
    · unfold fX2_mid
      simp (disch := omega) only [e_in, bnd2_some, bd_some, b01_t, b01_f, if_pos, if_neg, mlet_e, grd, ite_true, ite_false, not_true_eq_false, not_false_eq_true, ite_self, tn_c, w32_i]
theorem e_fair_L {s μ : Mem} {p : Int} {T : Nat} {K : Int → Option (Int × Mem)} (hc : CB 20 μ s) (hg : GB s) (hp : 0 ≤ p ∧ p ≤ 12) (hT : T ≤ 64) (hW : ∀ k, k < 7 → μ 38 k = WS s p k T) : ∀ (m k N : Nat), k + m = 9 → m < N → fX1_fair_L34 K μ N ((bst (fun x => FA s p (x : Int) T) k : Nat) : Int) ((k + 1 : Nat) : Int) = K ((bst (fun x => FA s p (x : Int) T) 9 : Nat) : Int) := by
  intro m
  induction m with
  | zero =>
    intro k N h1 h2
    obtain ⟨N, rfl⟩ : ∃ j, N = j + 1 := ⟨N - 1, by omega⟩
    obtain rfl : k = 9 := by omega
    rw [fX1_fair_L34, if_pos (by omega)]
  | succ m ih =>
    intro k N h1 h2
    obtain ⟨N, rfl⟩ : ∃ j, N = j + 1 := ⟨N - 1, by omega⟩
    have ih' := ih (k + 1) N (by omega) (by omega)
    have hb := bst_le (fun x => FA s p (x : Int) T) k
    rw [bst] at ih'
    rw [fX1_fair_L34, if_neg (by omega), e_wFar hc hg hp (by omega) hT hW, bd_some, e_wFar hc hg hp (by omega) hT hW, bd_some]
    simp (disch := omega) only [mlet_e, w32_s]
    by_cases z : FA s p ((k + 1 : Nat) : Int) T < FA s p ((bst (fun x => FA s p (x : Int) T) k : Nat) : Int) T
    · rw [if_neg (by omega)]
      rw [if_pos z] at ih'
      exact ih'
    · rw [if_pos (by omega)]
      rw [if_neg z] at ih'
      exact ih'
theorem e_fair2_L {s μ : Mem} {p : Int} {T : Nat} {K : Int → Int → Mem → Option (Int × Mem)} {Q : Int × Mem → Prop} (hM : MB 0 μ s) (hg : GB s) (hp : 0 ≤ p ∧ p ≤ 12) (hT : 2 ^ (s 0 0).toNat = T)
    (hK : ∀ ν, ν 60 22 = sumP p (s 0 0).toNat T → (∀ c k, ¬ (c = 60 ∧ k = 22) → ν c k = μ c k) → Ev (K ((bst (fun x => FA s p (x : Int) T) 9 : Nat) : Int) (FA s p ((bst (fun x => FA s p (x : Int) T) 9 : Nat) : Int) T) ν) Q) : ∀ (m k N : Nat) (ν : Mem), k + m = 9 → m < N → ν 60 22 = sumP p (s 0 0).toNat T → (∀ c k, ¬ (c = 60 ∧ k = 22) → ν c k = μ c k) → Ev (fX2_fair_L33 K p N ((bst (fun x => FA s p (x : Int) T) k : Nat) : Int) (FA s p ((bst (fun x => FA s p (x : Int) T) k : Nat) : Int) T) ((k + 1 : Nat) : Int) ν) Q := by
  have g0 := hg.1
  have g6 := hg.2.1
  intro m
  induction m with
  | zero =>
    intro k N ν h1 h2 h3 h4
    obtain ⟨N, rfl⟩ : ∃ j, N = j + 1 := ⟨N - 1, by omega⟩
    obtain rfl : k = 9 := by omega
    rw [fX2_fair_L33, if_pos (by omega)]
    exact hK ν h3 h4
  | succ m ih =>
    intro k N ν h1 h2 h3 h4
    obtain ⟨N, rfl⟩ : ∃ j, N = j + 1 := ⟨N - 1, by omega⟩
    have hb := bst_le (fun x => FA s p (x : Int) T) k
    have hF0 := FA_rng (x := ((bst (fun x => FA s p (x : Int) T) k : Nat) : Int)) hg hp (by omega) T
    rw [fX2_fair_L33, if_neg (by omega), ev_bnd2]
    refine ev_mono (e_farAll (x := ((k + 1 : Nat) : Int)) (MB_congr hM g6 (fun c k hk => h4 _ _ (by omega))) hg hp (by omega) hT) (fun q hq => ?_)
    obtain ⟨q1, q2, q3⟩ := hq
    have ih' := ih (k + 1) N q.2 (by omega) (by omega) q2 (fun c k hc => by rw [q3 _ _ hc, h4 _ _ hc])
    rw [bst] at ih'
    rw [q1]
    by_cases z : FA s p ((k + 1 : Nat) : Int) T < FA s p ((bst (fun x => FA s p (x : Int) T) k : Nat) : Int) T
    · rw [if_pos z] at ih'
      simp (disch := omega) only [mlet_e, w32_s, lc_lt, lc_ge, if_neg, if_pos]
      exact ih'
    · rw [if_neg z] at ih'
      simp (disch := omega) only [mlet_e, w32_s, lc_lt, lc_ge, if_neg, if_pos, ite_true]
      exact ih'
theorem P_fair {p : Int} {μ : Mem} (h : Inv μ) : Same (fX1_fair p μ) (fX2_fair p) := by
  obtain ⟨s, hR, hC, hM, hg, h0, h40, h61⟩ := Inv_now h
  have g0 := hg.1
  have g6 := hg.2.1
  have c4 := hC.1
  have m4 := hM.1
  have hpw := pow_64 (n := (s 0 0).toNat) (by omega)
  have h12 := pow12 (s 0 0).toNat (by omega)
  by_cases b : 0 ≤ p ∧ p ≤ 12
  · by_cases e : s 0 0 = 0
    · refine same_of (v := -4) (μ1 := μ) (μ2 := μ) ?_ ?_ h
      · unfold fX1_fair
        have hf := fuel_lt
        generalize fuel = N at hf ⊢
        simp (disch := omega) only [e_isPlace, e_within, bnd2_some, bd_some, b01_t, b01_f, if_pos, if_neg, mlet_e, grd, ite_true, ite_false, not_true_eq_false, not_false_eq_true, ite_self, tn_c, w32_i]
      · unfold fX2_fair
        have hf := fuel_lt
        generalize fuel = N at hf ⊢
        simp (disch := omega) only [e_in, bnd2_some, bd_some, b01_t, b01_f, if_pos, if_neg, mlet_e, grd, ite_true, ite_false, not_true_eq_false, not_false_eq_true, ite_self, tn_c, w32_i]
    · generalize hT : 2 ^ (s 0 0).toNat = T at hpw
      obtain ⟨μa, a1, a2, a3⟩ := e_weigh (p := p) hC hg b hT
      have hb := bst_le (fun x => FA s p (x : Int) T) 9
      generalize hX : bst (fun x => FA s p (x : Int) T) 9 = x at hb
      have hFA := FA_rng (x := (x : Int)) hg b (by omega) T
      obtain ⟨A, hA⟩ : ∃ A : Nat, FA s p (x : Int) T = (A : Int) := ⟨(FA s p (x : Int) T).toNat, by omega⟩
      generalize hB : 12 ^ (s 0 0).toNat = B at h12
      have hCa : CB 20 μa s := CB_congr hC (fun c k hk => a3 _ _ (by omega))
      have ew := e_wFar (x := (x : Int)) hCa hg b (by omega) hpw.2 a2
      have eall := e_allW (s := s) (μ := μa) hCa.1 hg
      rw [hB] at eall
      rw [hA] at ew
      have hM1 : MB 0 (wr (wr μa 0 12 (rU A B)) 0 13 (rL' A B)) s := MB_congr hM g6 (fun c k hk => by rw [wr_ne (by omega), wr_ne (by omega), a3 _ _ (by omega)])
      have E1 : fX1_fair p μ = some ((x : Int), wr (wr μa 0 12 (rU A B)) 0 13 (rL' A B)) := by
        unfold fX1_fair
        have hf := fuel_lt
        generalize fuel = N at hf ⊢
        simp (disch := omega) only [e_within, bd_some, b01_t, if_neg, if_pos, a1, mlet_e]
        refine (e_fair_L hCa hg b hpw.2 a2 9 0 N (by omega) (by omega)).trans ?_
        rw [hX, ew, bd_some, eall, bd_some, e_ratio (by omega) (by omega) (by omega), bd_some]
      refine ⟨_, E1, ?_⟩
      dsimp only
      have m5 := hM1.1
      obtain ⟨⟨v, μ2⟩, b1, b2, b3, b4⟩ := e_farAll (x := 0) hM1 hg b (by omega) hT
      dsimp only at b2 b3 b4
      unfold fX2_fair
      have hf := fuel_lt
      generalize fuel = N at hf ⊢
      simp (disch := omega) only [e_in, bd_some, b01_t, if_neg, if_pos, mlet_e, m5]
      obtain ⟨N, rfl⟩ : ∃ j, N = j + 1 := ⟨N - 1, by omega⟩
      rw [fX2_fair_L33, if_neg (by omega), b1, bnd2_some, b2]
      simp (disch := omega) only [mlet_e, lc_lt, if_pos, if_neg]
      have e9 := fun K Q hK => e_fair2_L (K := K) (Q := Q) hM1 hg b hT hK 9 0 N μ2 (by omega) (by omega) b3 b4
      refine e9 _ _ (fun ν r1 r2 => ?_)
      rw [← hT, sumP_all b (by omega), hB] at r1
      rw [hX, hA, r1, e_parts (by omega) (by omega) (by omega), bd_some]
      exact ev_some.mpr ⟨rfl, Inv_ratio h (fun c k hf => a3 _ _ (by unfold fre at hf; omega)) (fun c k hf => r2 _ _ (by unfold fre at hf; omega))⟩
  · refine same_of (v := -1) (μ1 := μ) (μ2 := μ) ?_ ?_ h
    · unfold fX1_fair
      have hf := fuel_lt
      generalize fuel = N at hf ⊢
      simp (disch := omega) only [e_isPlace, e_within, bnd2_some, bd_some, b01_t, b01_f, if_pos, if_neg, mlet_e, grd, ite_true, ite_false, not_true_eq_false, not_false_eq_true, ite_self, tn_c, w32_i]
    · unfold fX2_fair
      have hf := fuel_lt
      generalize fuel = N at hf ⊢
      simp (disch := omega) only [e_in, bnd2_some, bd_some, b01_t, b01_f, if_pos, if_neg, mlet_e, grd, ite_true, ite_false, not_true_eq_false, not_false_eq_true, ite_self, tn_c, w32_i]
