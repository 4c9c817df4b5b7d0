/-! A TURN OF THE LAW, from its end on: chances, the fair, lots -/
abbrev Ok (o : Option (Int × Mem)) : Prop := Ev o (fun q => q.1 = 1)
theorem ok1 {μ : Mem} : Ok (some (1, μ)) := ev_some.mpr rfl
/-- the river s behind m deeds, at the memory β -/
def BF (s0 : Mem) (m : Nat) (s β : Mem) : Prop := (CB 15 β s0 ∧ s = rn s0 (fun k => β 30 k) m ∧ (∀ k, k ≤ m → GB (rn s0 (fun k => β 30 k) k)) ∧ bnd m s ∧ s 0 0 = s0 0 0) ∧ (1 ≤ s0 0 0 ∧ m ≤ 12) ∧ LV s β
def stc (m c k : Nat) : Prop := (9 ≤ c ∧ c ≤ 19) ∨ (c = 30 ∧ k < m) ∨ (31 ≤ c ∧ c ≤ 35) ∨ c = 60 ∨ c = 61
/-- what a turn leaves as it is -/
def St (m : Nat) (β μ : Mem) : Prop := (∀ c k, stc m c k → μ c k = β c k) ∧ ∀ r : Nat, r < 6 → -1 ≤ μ 8 r ∧ μ 8 r ≤ 40
theorem BF_g {s0 s β : Mem} {m : Nat} (h : BF s0 m s β) : GB s ∧ 1 ≤ s 0 0 ∧ s 0 0 ≤ 6 := by
  obtain ⟨⟨h1, h2, h3, h4, h5⟩, ⟨h6, h7⟩, h8⟩ := h
  have hg : GB s := by
    rw [h2]
    exact h3 m (by omega)
  exact ⟨hg, by omega, hg.2.1⟩
theorem St_q {m : Nat} {β μ ν : Mem} (h : St m β μ) (hq : Fq μ ν) : St m β ν := by
  refine ⟨fun c k hc => ?_, fun r hr => ?_⟩
  · unfold stc at hc
    rw [hq _ _ (by omega) (by omega) (by omega)]
    exact h.1 c k (by unfold stc; exact hc)
  · rw [hq _ _ (by omega) (by omega) (by omega)]
    exact h.2 r hr
theorem St_d {m n : Nat} {β μ ν : Mem} (h : St m β μ) (hm : m ≤ n) (hq : Fdd n μ ν) : St m β ν := by
  refine ⟨fun c k hc => ?_, fun r hr => ?_⟩
  · unfold stc at hc
    rw [hq _ _ (by omega) (by omega) (by omega) (by omega)]
    exact h.1 c k (by unfold stc; exact hc)
  · rw [hq _ _ (by omega) (by omega) (by omega) (by omega)]
    exact h.2 r hr
theorem B_undo {s0 s s' β τ : Mem} {m n : Nat} (hB : BF s0 m s β) (hN : Nw n s' τ) (hn : n ≤ 40) (hm : m ≤ n) (hT : St m β τ) : ∃ ν, fX1_undo (m : Int) τ = some ((n : Int) - m, ν) ∧ Nw m s ν ∧ St m β ν ∧ Fdd 40 τ ν := by
  obtain ⟨⟨h1, h2, h3, h4, h5⟩, ⟨h6, h7⟩, h8⟩ := hB
  obtain ⟨ν, e1, e2, e3⟩ := C_undo (d := fun k => β 30 k) hN hn hm (CB_congr h1 (fun c k hc => hT.1 c k (by unfold stc; omega))) (fun k hk => hT.1 30 k (by unfold stc; omega)) h3
  rw [← h2] at e2
  exact ⟨ν, e1, e2, St_d hT (by omega) e3, e3⟩
theorem band_ff (x : Int) : 0 ≤ band x 16777215 ∧ band x 16777215 ≤ 16777215 := by
  unfold band
  rw [show (Int32.ofInt x &&& Int32.ofInt 16777215).toInt = ((Int32.ofInt x).toBitVec &&& 16777215#32).toInt from rfl]
  generalize (Int32.ofInt x).toBitVec = v
  have h : (v &&& 16777215#32).msb = false := by
    rw [BitVec.msb_and]
    have : (16777215#32).msb = false := by decide
    rw [this, Bool.and_false]
  rw [BitVec.toInt_eq_toNat_of_msb h, BitVec.toNat_and]
  have h2 : v.toNat &&& (16777215#32).toNat ≤ (16777215#32).toNat := Nat.and_le_right
  have h3 : (16777215#32).toNat = 16777215 := by decide
  rw [h3] at h2 ⊢
  omega
abbrev cr (s : Mem) : Int := acR s (s 0 0).toNat
/-- what comes behind a turn -/
def Nx (self66 : Int → Mem → Option (Int × Mem)) (x62 : Int) (m : Nat) (s β : Mem) : Prop := ∀ ν, Nw m s ν → St m β ν → Ok (self66 (w32 (x62 + 1)) ν)
theorem w64_nn {a b : Nat} (ha : a ≤ 2147483648) (hb : b ≤ 2147483648) : w64 ((a : Int) * (b : Int)) = ((a * b : Nat) : Int) := by
  have h : a * b ≤ 2147483648 * 2147483648 := Nat.mul_le_mul ha hb
  rw [← Int.natCast_mul]
  generalize a * b = q at *
  exact w64_i (by omega)
theorem rU_0 (b : Nat) : rU 0 b = 0 := by
  unfold rU
  rw [tdiv_nat, Nat.zero_div]
  rfl
theorem oS_p0 {s : Mem} (hg : GB s) : ∀ i : Nat, i ≤ 6 → oS s 0 (2 ^ nS s) i = if (hold s 0 = -9 ∨ (i : Int) ≤ hold s 0) then 0 else ((bS s : Nat) : Int)
  | 0, _ => by
    have hr := hold_rng (p := 0) hg
    have : hold s 0 = -9 ∨ ((0 : Nat) : Int) ≤ hold s 0 := by
      rcases hr with h | ⟨i, h1, h2⟩ <;> omega
    rw [if_pos this]
    rfl
  | i + 1, hi => by
    have g6 := hg.2.1
    have hpw := pow_64 (n := (s 0 0).toNat) (by omega)
    have ew : wOf i = (i : Int) := by
      unfold wOf
      rw [if_neg (by omega)]
    have hT : ¬ 2 ^ nS s = 0 := by
      unfold nS
      omega
    rw [oS, oS_p0 hg i (by omega), WS_p0 hg i (2 ^ nS s) (Nat.le_refl _), if_neg hT, ew]
    by_cases q : hold s 0 = (i : Int)
    · rw [if_pos (by omega), if_pos q, if_neg (by omega)]
      omega
    · rw [if_neg q]
      by_cases q2 : hold s 0 = -9 ∨ (i : Int) ≤ hold s 0
      · rw [if_pos q2, if_pos (by omega)]
        omega
      · rw [if_neg q2, if_neg (by omega)]
        omega
section TURN
variable {σ : Scr} {self66 : Int → Mem → Option (Int × Mem)} {s0 s β μ : Mem} {m : Nat} {x61 x62 x63 : Int}
theorem q_c2539 (hS : Nx self66 x62 m s β) (hN : Nw m s μ) (hT : St m β μ) : Ok (fL_law_c2539 σ self66 (s 0 0) x61 x62 μ) := by
  unfold fL_law_c2539
  rw [mlet_e]
  exact hS μ hN hT
theorem q_c2438 (hB : BF s0 m s β) (hS : Nx self66 x62 m s β) (hN : Nw m s μ) (hT : St m β μ) : Ok (fL_law_c2438 σ self66 (s 0 0) x61 x62 x63 (m : Int) (s 0 2) (s 0 1) (alS s) (cr s) μ) := by
  obtain ⟨hg, g1, g6⟩ := BF_g hB
  have m12 : m ≤ 12 := hB.2.1.2
  have hb := band_ff x63
  obtain ⟨y, hy⟩ : ∃ y : Nat, band x63 16777215 = (y : Int) := ⟨(band x63 16777215).toNat, by omega⟩
  have ew : w32 (1 + (y : Int)) = ((1 + y : Nat) : Int) := by
    rw [w32_i (by omega)]
    omega
  obtain ⟨ν, e1, e2, e3⟩ := C_lots (m := 4) (seed := 1 + y) hN g1 (by omega) (by omega) (by omega)
  have hgl := e2.2.2
  obtain ⟨ν2, f1, f2, f3, f4⟩ := B_undo hB e2 (by omega) (by omega) (St_d hT (by omega) e3)
  have e1' : fX1_lots 4 (((1 + y : Nat)) : Int) μ = some (lotSt s (1 + y) 4 0 1, ν) := e1
  have em : w32 ((m : Int) + 4) = ((m + 4 : Nat) : Int) := w32_n (a := m) (b := 4) (by omega) (by omega)
  unfold fL_law_c2438
  rw [hy, ew, e1', bnd2_some]
  clear ew hy
  have l1 := hgl.2.2.1
  have l2 := hgl.2.2.2.1
  rw [if_neg (by omega), if_neg (by omega), C_cnt3 e2, bd_some, if_neg (fun w => w rfl), C_cnt2 e2, bd_some, em, if_neg (fun w => w rfl), f1, bnd2_some, if_neg (by omega), C_cnt1 f2, bd_some, if_neg (fun w => w rfl), C_cnt3 f2, bd_some, if_neg (fun w => w rfl), C_cnt5 f2, bd_some, if_neg (fun w => w rfl), C_cnt6 f2, bd_some, if_pos rfl]
  exact q_c2539 hS f2 f3
theorem q_L2352 (hB : BF s0 m s β) (hS : Nx self66 x62 m s β) {p : Int} (hp : 0 ≤ p ∧ p ≤ 12) {x0 A0 : Nat} (hx : x0 ≤ 9) (hA : FA s p (x0 : Int) (2 ^ nS s) = (A0 : Int)) (hmin : bst (fun x => FA s p (x : Int) (2 ^ nS s)) 9 = x0) :
    ∀ (j k N : Nat) (μ : Mem), k + j = 10 → j < N → Nw m s μ → St m β μ → Ok (fL_law_L2352 σ self66 (s 0 0) x61 x62 x63 (m : Int) (s 0 2) (s 0 1) (alS s) (cr s) p (rL' A0 (bS s)) (rU A0 (bS s)) (x0 : Int) N (k : Int) μ) := by
  obtain ⟨hg, g1, g6⟩ := BF_g hB
  have h12 := pow12 (s 0 0).toNat (by omega)
  have hpw := pow_64 (n := (s 0 0).toNat) (by omega)
  have hm9 := bst_min (fun x => FA s p (x : Int) (2 ^ nS s)) 9
  rw [hmin] at hm9
  have hFA : ∀ x : Int, 0 ≤ x ∧ x ≤ 9 → 0 ≤ FA s p x (2 ^ nS s) ∧ FA s p x (2 ^ nS s) ≤ 9 * ((bS s : Nat) : Int) := fun x hx => by
    have h1 := FA_rng hg hp hx (2 ^ nS s)
    have h2 := FA_9 hg hp hx (2 ^ nS s)
    have h3 := sumP_all (p := p) (n := (s 0 0).toNat) hp (by omega)
    unfold nS at *
    rw [h3] at h2
    unfold bS nS
    omega
  have hB12 : 1 ≤ bS s ∧ bS s ≤ 2985984 := h12
  have hA0 := hFA (x0 : Int) (by omega)
  rw [hA] at hA0
  obtain ⟨g0, u0, l0, a1, a2, a3, a4, a5, a6, a7, a8⟩ := frac (a := A0) (b := bS s) (by omega) hB12.1 (by omega)
  rw [a2, a3]
  intro j
  induction j with
  | zero =>
    intro k N μ e1 e2 hN hT
    obtain ⟨N, rfl⟩ : ∃ j, N = j + 1 := ⟨N - 1, by omega⟩
    rw [fL_law_L2352, if_pos (by omega)]
    exact q_c2438 hB hS hN hT
  | succ j ih =>
    intro k N μ e1 e2 hN hT
    obtain ⟨N, rfl⟩ : ∃ j, N = j + 1 := ⟨N - 1, by omega⟩
    obtain ⟨ν, A, b1, b2, b3, b4, b5⟩ := C_mid (x := (k : Int)) hN g1 (by omega) hp
    have hAk := hFA (k : Int) (by omega)
    rw [b2] at hAk
    obtain ⟨g, u, l, c1, c2, c3, c4, c5, c6, c7, c8⟩ := frac (a := A) (b := bS s) (by omega) hB12.1 (by omega)
    have hle : A0 ≤ A := by
      have := hm9.1 k (by omega)
      rw [hA, b2] at this
      omega
    have k1 : u0 * l ≤ u * l0 := frac_le c5 a5 c1 a1 (by omega)
    have k9 : u ≤ 9 * l := by
      have : u * g ≤ (9 * l) * g := by
        rw [Nat.mul_assoc, ← c5, ← c4]
        omega
      exact Nat.le_of_mul_le_mul_right this c1
    have next : Ok (fL_law_L2352 σ self66 (s 0 0) x61 x62 x63 (m : Int) (s 0 2) (s 0 1) (alS s) (cr s) p (l0 : Int) (u0 : Int) (x0 : Int) N (w32 ((k : Int) + 1)) ν) := by
      rw [w32_s (by omega)]
      exact ih (k + 1) N ν (by omega) (by omega) (Nw_q hN b5) (St_q hT b5)
    rw [fL_law_L2352, if_neg (by omega), b1, bnd2_some, if_neg (fun w => w rfl)]
    unfold fX1_upper fX1_lower
    simp only [bd_some, b3, b4, c2, c3, mlet_e]
    rw [w64_nn (by omega) (by omega), w64_nn (by omega) (by omega), show (9 : Int) * (l : Int) = ((9 : Nat) : Int) * (l : Int) from rfl, w64_nn (by omega) (by omega)]
    simp only [lc_lt, lc_le, lc_eq]
    rw [if_neg (by omega), if_pos (show (u : Int) ≤ ((9 * l : Nat) : Int) by omega)]
    by_cases q : (x0 : Int) ≤ (k : Int)
    · rw [if_pos q]
      exact next
    · rw [if_neg q]
      have hlt : A0 < A := by
        have := hm9.2 k (by omega)
        rw [hA, b2] at this
        omega
      have k2 : u0 * l < u * l0 := frac_lt c5 a5 hB12.1 (by omega)
      rw [if_neg (by omega)]
      exact next
theorem q_c2283 (hB : BF s0 m s β) (hS : Nx self66 x62 m s β) {p : Int} (hp : 0 ≤ p ∧ p ≤ 12) (hN : Nw m s μ) (hT : St m β μ) : Ok (fL_law_c2283 σ self66 (s 0 0) x61 x62 x63 (m : Int) (s 0 2) (s 0 1) (alS s) (cr s) p μ) := by
  obtain ⟨hg, g1, g6⟩ := BF_g hB
  obtain ⟨ν, x0, A0, b1, b2, b3, b4, b5, b6⟩ := C_fair (p := p) hN g1 hp
  have hx := bst_le (fun x => FA s p (x : Int) (2 ^ nS s)) 9
  rw [b2] at hx
  obtain ⟨ν2, A2, d1, d2, d3, d4, d5⟩ := C_mid (x := (x0 : Int)) (Nw_q hN b6) g1 (by omega) hp
  have hA : A2 = A0 := by
    rw [b3] at d2
    omega
  subst hA
  unfold fL_law_c2283 fX1_upper fX1_lower fL_law_c2349
  rw [b1, bnd2_some]
  simp only [bd_some]
  rw [if_neg (by omega), if_neg (by omega), d1, bnd2_some, if_neg (fun w => w rfl)]
  simp only [bd_some, b4, b5, d3, d4, lc_eq, not_true_eq_false, if_true, if_false]
  have hf := fuel_lt
  exact q_L2352 hB hS hp hx b3 b2 10 0 fuel ν2 (by omega) (by omega) (Nw_q (Nw_q hN b6) d5) (St_q (St_q hT b6) d5)
theorem q_c2244 (hB : BF s0 m s β) (hS : Nx self66 x62 m s β) {p : Int} (hp : 0 ≤ p ∧ p ≤ 12) (hN : Nw m s μ) (hT : St m β μ) : Ok (fL_law_c2244 σ self66 (s 0 0) x61 x62 x63 (m : Int) (s 0 2) (s 0 1) (alS s) (cr s) (hold s 0) p (oS s p (2 ^ nS s) (nS s)) ((bS s : Nat) : Int) μ) := by
  obtain ⟨hg, g1, g6⟩ := BF_g hB
  have ho := oS_le hg hp (i := nS s) (by unfold nS; omega)
  have last := q_c2283 (σ := σ) (x61 := x61) (x63 := x63) hB hS hp hN hT
  unfold fL_law_c2244
  simp only [lc_gt, lc_lt, lc_eq, mlet_e]
  rw [if_neg (by omega), if_neg (by omega)]
  by_cases q : p = 0
  · rw [if_neg (fun w => w q)]
    subst q
    have h0 := oS_p0 hg (nS s) (by unfold nS; omega)
    rcases hold_rng (p := 0) hg with h | ⟨i', h1, h2⟩
    · rw [if_pos (Or.inl h)] at h0
      rw [h0, if_neg (show ¬ 0 ≤ hold s 0 by omega), if_pos rfl]
      exact last
    · rw [if_neg (by unfold nS; omega)] at h0
      rw [h0, if_pos (show 0 ≤ hold s 0 by omega), if_pos rfl]
      exact last
  · rw [if_pos q]
    exact last
theorem q_L2125 (hB : BF s0 m s β) (hS : Nx self66 x62 m s β) {p : Int} (hp : 0 ≤ p ∧ p ≤ 12) :
    ∀ (j k N : Nat) (μ : Mem), k + j = nS s → j < N → Nw m s μ → St m β μ → Ok (fL_law_L2125 (s 0 0) σ self66 x61 x62 x63 (m : Int) (s 0 2) (s 0 1) (alS s) (cr s) (hold s 0) p ((bS s : Nat) : Int) N (oS s p (2 ^ nS s) k) (k : Int) μ) := by
  obtain ⟨hg, g1, g6⟩ := BF_g hB
  have h12 : 1 ≤ bS s ∧ bS s ≤ 2985984 := pow12 (s 0 0).toNat (by omega)
  have hpw := pow_64 (n := (s 0 0).toNat) (by omega)
  have hn : (nS s : Int) = s 0 0 := by unfold nS; omega
  intro j
  induction j with
  | zero =>
    intro k N μ e1 e2 hN hT
    obtain ⟨N, rfl⟩ : ∃ j, N = j + 1 := ⟨N - 1, by omega⟩
    obtain rfl : k = nS s := by omega
    rw [fL_law_L2125, if_pos (by omega)]
    exact q_c2244 hB hS hp hN hT
  | succ j ih =>
    intro k N μ e1 e2 hN hT
    obtain ⟨N, rfl⟩ : ∃ j, N = j + 1 := ⟨N - 1, by omega⟩
    have hk : (k : Int) < s 0 0 := by omega
    obtain ⟨ν, A, b1, b2, b3, b4, b5⟩ := C_odds (p := p) hN hk hp
    have hN1 := Nw_q hN b5
    have hT1 := St_q hT b5
    obtain ⟨ν2, A2, c1, c2, c3, c4, c5⟩ := C_odds (p := 0) hN1 hk (by omega)
    have hN2 := Nw_q hN1 c5
    have hT2 := St_q hT1 c5
    obtain ⟨ν3, A3, d1, d2, d3, d4, d5⟩ := C_odds (p := 12) hN2 hk (by omega)
    have hN3 := Nw_q hN2 d5
    have hT3 := St_q hT2 d5
    have ho := oS_le hg hp (i := k) (by omega)
    have ho1 := oS_le hg hp (i := k + 1) (by omega)
    rw [oS, b2] at ho1
    obtain ⟨g, u, l, r1, r2, r3, r4, r5, r6, r7, r8⟩ := frac (a := A) (b := bS s) (by omega) h12.1 (by omega)
    have e0 : A2 = if hold s 0 = (k : Int) then bS s else 0 := by
      rw [WS_p0 hg k (2 ^ nS s) (Nat.le_refl _), if_neg (by unfold nS; omega)] at c2
      have ew : wOf k = (k : Int) := by
        unfold wOf
        rw [if_neg (by omega)]
      rw [ew] at c2
      by_cases q : hold s 0 = (k : Int)
      · rw [if_pos q] at c2 ⊢
        omega
      · rw [if_neg q] at c2 ⊢
        omega
    have e12 : A3 = 0 := by
      rw [WS_p12 hg (by omega) (2 ^ nS s) (Nat.le_refl _)] at d2
      omega
    subst e12
    have u0 : rU 0 (bS s) = 0 := rU_0 _
    have u2 : rU A2 (bS s) = if hold s 0 = (k : Int) then 1 else 0 := by
      by_cases q : hold s 0 = (k : Int)
      · rw [if_pos q] at e0 ⊢
        subst e0
        unfold rU
        rw [Nat.gcd_self, tdiv_nat, Nat.div_self (by omega)]
        rfl
      · rw [if_neg q] at e0 ⊢
        subst e0
        exact u0
    have next : Ok (fL_law_L2125 (s 0 0) σ self66 x61 x62 x63 (m : Int) (s 0 2) (s 0 1) (alS s) (cr s) (hold s 0) p ((bS s : Nat) : Int) N (oS s p (2 ^ nS s) k + (A : Int)) (w32 ((k : Int) + 1)) ν3) := by
      rw [w32_s (by omega), ← b2]
      exact ih (k + 1) N ν3 (by omega) (by omega) hN3 hT3
    have hgl : g ≤ bS s := by
      rw [r5]
      exact Nat.le_mul_of_pos_left g (by omega)
    have hmul : w64 ((u : Int) * (g : Int)) = (A : Int) := by
      rw [w64_nn (by omega) (by omega), ← r4]
    have hmod : (((bS s : Nat) : Int)).tmod (l : Int) = 0 := by
      rw [tmod_nat, r5, Nat.mul_mod_right]
      rfl
    have hdiv : w64 ((((bS s : Nat) : Int)).tdiv (l : Int)) = (g : Int) := by
      have : bS s / l = g := by
        rw [r5]
        exact Nat.mul_div_cancel_left g (by omega)
      have hgl : g ≤ bS s := by
        rw [r5]
        exact Nat.le_mul_of_pos_left g (by omega)
      rw [tdiv_nat, this]
      exact w64_i (by omega)
    rw [fL_law_L2125, if_neg (by omega), b1, bnd2_some, if_neg (fun w => w rfl)]
    unfold fX1_upper fX1_lower
    simp only [bd_some, b3, b4, r2, r3, mlet_e, lc_lt, lc_eq, hmod, hdiv, hmul, grd, if_true]
    clear hmod hdiv hmul
    rw [if_neg (show ¬ (u : Int) < 0 by omega), if_pos (show ¬ (l : Int) = 0 by omega), if_pos (show ¬ (l : Int) = 0 by omega), c1, bnd2_some, if_neg (fun w => w rfl), c3, u2]
    have ew64 : w64 (oS s p (2 ^ nS s) k + (A : Int)) = oS s p (2 ^ nS s) k + (A : Int) := w64_i (by omega)
    rw [ew64]
    clear ew64
    by_cases q : hold s 0 = (k : Int)
    · rw [if_pos q, if_neg (fun w => w q), if_neg (fun w => w rfl), d1, bnd2_some, if_neg (fun w => w rfl), d3, u0, if_pos rfl]
      exact next
    · rw [if_neg q, if_pos q, if_neg (fun w => w rfl), d1, bnd2_some, if_neg (fun w => w rfl), d3, u0, if_pos rfl]
      exact next
theorem q_L2101 (hB : BF s0 m s β) (hS : Nx self66 x62 m s β) {p : Int} (hp : 0 ≤ p ∧ p ≤ 12) (hN : Nw m s μ) (hT : St m β μ) :
    ∀ (j k N : Nat), k + j = nS s → j < N → Ok (fL_law_L2101 (s 0 0) σ self66 x61 x62 x63 (m : Int) (s 0 2) (s 0 1) (alS s) (cr s) (hold s 0) p μ N ((12 ^ k : Nat) : Int) (k : Int)) := by
  obtain ⟨hg, g1, g6⟩ := BF_g hB
  have hn : (nS s : Int) = s 0 0 := by unfold nS; omega
  intro j
  induction j with
  | zero =>
    intro k N e1 e2
    obtain ⟨N, rfl⟩ : ∃ j, N = j + 1 := ⟨N - 1, by omega⟩
    obtain rfl : k = nS s := by omega
    rw [fL_law_L2101, if_pos (by omega)]
    unfold fL_law_c2122
    have hf := fuel_lt
    exact q_L2125 hB hS hp (nS s) 0 fuel μ (by omega) (by omega) hN hT
  | succ j ih =>
    intro k N e1 e2
    obtain ⟨N, rfl⟩ : ∃ j, N = j + 1 := ⟨N - 1, by omega⟩
    have h12 := pow12 k (by omega)
    have e12 : w64 (((12 ^ k : Nat) : Int) * 12) = ((12 ^ (k + 1) : Nat) : Int) := by
      rw [show (12 : Int) = ((12 : Nat) : Int) from rfl, w64_nn (by omega) (by omega), Nat.pow_succ]
    rw [fL_law_L2101, if_neg (by omega)]
    simp only [mlet_e]
    rw [e12, w32_s (by omega)]
    exact ih (k + 1) N (by omega) (by omega)
theorem q_c2080 (hB : BF s0 m s β) (hS : Nx self66 x62 m s β) (hN : Nw m s μ) (hT : St m β μ) : Ok (fL_law_c2080 σ self66 (s 0 0) x61 x62 x63 (m : Int) (s 0 2) (s 0 1) (alS s) (cr s) (hold s 0) μ) := by
  obtain ⟨hg, g1, g6⟩ := BF_g hB
  obtain ⟨r, a1, a2⟩ := L_low (x := bshr x63 18) (n := 13) (μ := μ) (by omega)
  have a1' : fL_low (bshr x63 18) 13 μ = some (r : Int) := a1
  have hf := fuel_lt
  unfold fL_law_c2080
  rw [a1', bd_some]
  exact q_L2101 hB hS (by omega) hN hT (nS s) 0 fuel (by omega) (by unfold nS; omega)
end TURN
