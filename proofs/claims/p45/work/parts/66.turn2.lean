/-! SETS of people, by bits -/
theorem ofInt_tn {z : Nat} (h : z < 2147483648) : (Int32.ofInt (z : Int)).toBitVec.toNat = z := by
  have : (Int32.ofInt (z : Int)).toBitVec = BitVec.ofInt 32 (z : Int) := rfl
  rw [this, BitVec.toNat_ofInt]
  omega
theorem band_nn {a b : Nat} (ha : a < 2147483648) (hb : b < 2147483648) : band (a : Int) (b : Int) = ((a &&& b : Nat) : Int) := by
  have hl : a &&& b ≤ a := Nat.and_le_left
  have e : (Int32.ofInt (a : Int) &&& Int32.ofInt (b : Int)) = Int32.ofInt ((a &&& b : Nat) : Int) := by
    apply Int32.toBitVec_inj.mp
    apply BitVec.eq_of_toNat_eq
    rw [Int32.toBitVec_and, BitVec.toNat_and, ofInt_tn ha, ofInt_tn hb, ofInt_tn (by omega)]
  unfold band
  rw [e]
  generalize a &&& b = q at *
  exact tiK (by unfold okI; omega)
theorem bor_nn {a b : Nat} (ha : a < 64) (hb : b < 64) : bor (a : Int) (b : Int) = ((a ||| b : Nat) : Int) := by
  have hl : a ||| b < 2 ^ 6 := Nat.or_lt_two_pow ha hb
  have e : (Int32.ofInt (a : Int) ||| Int32.ofInt (b : Int)) = Int32.ofInt ((a ||| b : Nat) : Int) := by
    apply Int32.toBitVec_inj.mp
    apply BitVec.eq_of_toNat_eq
    rw [Int32.toBitVec_or, BitVec.toNat_or, ofInt_tn (by omega), ofInt_tn (by omega), ofInt_tn (by omega)]
  unfold bor
  rw [e]
  generalize a ||| b = q at *
  exact tiK (by unfold okI; omega)
theorem andn_dec : ∀ a b : Fin 64, band (a.val : Int) (bxor (b.val : Int) (-1)) = ((a.val ^^^ (a.val &&& b.val) : Nat) : Int) := by decide +kernel
theorem andn {a b : Nat} (ha : a < 64) (hb : b < 64) : band (a : Int) (bxor (b : Int) (-1)) = ((a ^^^ (a &&& b) : Nat) : Int) := andn_dec ⟨a, ha⟩ ⟨b, hb⟩
theorem cN_pos {t : Nat → Bool} {j : Nat} (h : t j = true) : ∀ k, j < k → 1 ≤ cN t k
  | 0, hk => absurd hk (by omega)
  | k + 1, hk => by
    rw [cN]
    by_cases e : j = k
    · rw [← e, if_pos h]
      omega
    · have := cN_pos h k (by omega)
      omega
theorem lst_in (t : Nat → Bool) : ∀ k, 1 ≤ cN t k → ∃ l : Nat, l < k ∧ lst t k = (l : Int) ∧ t l = true
  | 0, h => absurd h (by unfold cN; omega)
  | k + 1, h => by
    rw [cN] at h
    rw [lst]
    by_cases q : cN t k = 0
    · rw [if_pos q]
      by_cases z : t k = true
      · rw [if_pos z]
        exact ⟨k, by omega, rfl, z⟩
      · rw [if_neg z] at h
        omega
    · rw [if_neg q]
      obtain ⟨l, h1, h2, h3⟩ := lst_in t k (by omega)
      exact ⟨l, by omega, h2, h3⟩
theorem lst_first {t : Nat → Bool} (h : t 0 = true) : ∀ k, 1 ≤ k → lst t k = 0
  | 0, hk => absurd hk (by omega)
  | k + 1, _ => by
    rw [lst]
    by_cases q : k = 0
    · subst q
      rw [if_pos (show cN t 0 = 0 from rfl), if_pos h]
      rfl
    · have := cN_pos h k (by omega)
      rw [if_neg (by omega)]
      exact lst_first h k (by omega)
/-- what all sets have, what some have -/
def sN (t : Nat → Bool) (all : Nat) : Nat → Nat × Nat
  | 0 => (all, 0)
  | k + 1 => if t k then ((sN t all k).1 &&& k, (sN t all k).2 ||| k) else sN t all k
theorem sN_su {t : Nat → Bool} {all : Nat} (ha : all < 64) : ∀ k, k ≤ 64 → (suR t (all : Int) k).1 = ((sN t all k).1 : Int) ∧ (suR t (all : Int) k).2.1 = ((sN t all k).2 : Int) ∧ ((suR t (all : Int) k).2.2 = true ↔ 1 ≤ cN t k) ∧ (sN t all k).1 < 64 ∧ (sN t all k).2 < 64
  | 0, _ => ⟨rfl, rfl, by unfold suR cN; simp, ha, by unfold sN; omega⟩
  | k + 1, hk => by
    obtain ⟨h1, h2, h3, h4, h5⟩ := sN_su (t := t) ha k (by omega)
    rw [suR, sN, cN]
    by_cases z : t k = true
    · rw [if_pos z, if_pos z, if_pos z]
      have l1 : (sN t all k).1 &&& k ≤ (sN t all k).1 := Nat.and_le_left
      have l2 : (sN t all k).2 ||| k < 2 ^ 6 := Nat.or_lt_two_pow h5 (by omega)
      refine ⟨?_, ?_, ?_, by dsimp only; omega, by dsimp only; omega⟩
      · dsimp only
        rw [h1, band_nn (by omega) (by omega)]
      · dsimp only
        rw [h2, bor_nn h5 (by omega)]
      · dsimp only
        constructor
        · intro _
          omega
        · intro _
          rfl
    · rw [if_neg z, if_neg z, if_neg z]
      exact ⟨h1, h2, h3, h4, h5⟩
theorem and3 (a b c : Nat) : a &&& b &&& c = a &&& c &&& b := by
  rw [Nat.and_assoc, Nat.and_comm b c, ← Nat.and_assoc]
theorem sN_in (t : Nat → Bool) (all : Nat) : ∀ k j, j < k → t j = true → (sN t all k).1 &&& j = (sN t all k).1 ∧ j &&& (sN t all k).2 = j
  | 0, j, h, _ => absurd h (by omega)
  | k + 1, j, h, ht => by
    rw [sN]
    by_cases e : j = k
    · subst e
      rw [if_pos ht]
      dsimp only
      refine ⟨by rw [Nat.and_assoc, Nat.and_self], ?_⟩
      apply Nat.eq_of_testBit_eq
      intro i
      rw [Nat.testBit_and, Nat.testBit_or]
      cases j.testBit i <;> simp
    · obtain ⟨h1, h2⟩ := sN_in t all k j (by omega) ht
      by_cases z : t k = true
      · rw [if_pos z]
        dsimp only
        refine ⟨by rw [and3, h1], ?_⟩
        apply Nat.eq_of_testBit_eq
        intro i
        have h2' := congrArg (fun x => x.testBit i) h2
        rw [Nat.testBit_and] at h2'
        rw [Nat.testBit_and, Nat.testBit_or]
        cases hj : j.testBit i
        · simp
        · rw [hj] at h2'
          simp only [Bool.true_and] at h2'
          rw [h2']
          simp
      · rw [if_neg z]
        exact ⟨h1, h2⟩
theorem sN_one (t : Nat → Bool) (all : Nat) : ∀ k, (cN t k = 0 → (sN t all k).1 = all) ∧ (cN t k = 1 → (sN t all k).1 = all &&& (lst t k).toNat)
  | 0 => ⟨fun _ => rfl, fun h => by unfold cN at h; omega⟩
  | k + 1 => by
    obtain ⟨h1, h2⟩ := sN_one t all k
    rw [cN, sN, lst]
    by_cases z : t k = true
    · rw [if_pos z, if_pos z]
      refine ⟨fun h => by omega, fun h => ?_⟩
      have q : cN t k = 0 := by omega
      rw [if_pos q, if_pos z, h1 q]
      rfl
    · rw [if_neg z, if_neg z, Nat.add_zero]
      refine ⟨h1, fun h => ?_⟩
      rw [if_neg (by omega)]
      exact h2 h
theorem dsS_0 (s : Mem) : dsS s 0 = 0 := by
  have h : ∀ k, dsR s 0 k = 0 := by
    intro k
    induction k with
    | zero => rfl
    | succ k ih => rw [dsR, ih, if_pos (band_0 k)]; rfl
  exact h _
theorem alS_rng {s : Mem} (hg : GB s) : 0 ≤ alS s ∧ alS s ≤ 120 := by
  have g0 := hg.1
  have g6 := hg.2.1
  have := dsR_rng hg (bshl 1 (s 0 0) - 1) (s 0 0).toNat (by omega)
  unfold alS dsS
  omega
theorem alS_T {s : Mem} (hg : GB s) : alS s = dsS s ((2 ^ nS s - 1 : Nat) : Int) := by
  have g0 := hg.1
  have g6 := hg.2.1
  have hpw := pow_64 (n := (s 0 0).toNat) (by omega)
  unfold alS nS
  rw [bshl_p (by omega)]
  congr 1
  omega
def LD (s μ : Mem) : Prop := ∀ i : Nat, (i : Int) < s 0 0 → μ 62 i = s 3 i
theorem LD_q {s μ ν : Mem} (h : LD s μ) (hq : Fq μ ν) : LD s ν := fun i hi => by
  rw [hq _ _ (by omega) (by omega) (by omega)]
  exact h i hi
theorem LD_d {n : Nat} {s μ ν : Mem} (h : LD s μ) (hq : Fdd n μ ν) : LD s ν := fun i hi => by
  rw [hq _ _ (by omega) (by omega) (by omega) (by omega)]
  exact h i hi
section TURN
variable {σ : Scr} {self66 : Int → Mem → Option (Int × Mem)} {s0 s β μ : Mem} {m : Nat} {x61 x62 x63 : Int}
theorem q_c1977 (hB : BF s0 m s β) (hS : Nx self66 x62 m s β) (hN : Nw m s μ) (hT : St m β μ) {i : Nat} (hi : (i : Int) < s 0 0) : Ok (fL_law_c1977 σ self66 (s 0 0) x61 x62 x63 (m : Int) (s 0 2) (s 0 1) (alS s) (cr s) (hold s 0) (i : Int) μ) := by
  obtain ⟨hg, g1, g6⟩ := BF_g hB
  obtain ⟨n, hn⟩ : ∃ n : Nat, s 0 0 = (n : Int) := ⟨(s 0 0).toNat, by omega⟩
  have eo : (w32 ((i : Int) + 1)).tmod (s 0 0) = (((i + 1) % n : Nat) : Int) := by
    rw [w32_s (by omega), hn, tmod_nat]
  have hj1 : (i + 1) % n < n := Nat.mod_lt _ (by omega)
  have hj2 : n > 1 → ¬ i = (i + 1) % n := by
    intro h1
    by_cases e : i + 1 = n
    · rw [e, Nat.mod_self]
      omega
    · rw [Nat.mod_eq_of_lt (by omega)]
      omega
  generalize (i + 1) % n = j at *
  have last : ∀ ν, Nw m s ν → St m β ν → Ok (fL_law_c2080 σ self66 (s 0 0) x61 x62 x63 (m : Int) (s 0 2) (s 0 1) (alS s) (cr s) (hold s 0) ν) := fun ν a b => q_c2080 hB hS a b
  unfold fL_law_c1977
  simp only [mlet_e, eo]
  clear eo
  rw [grd, if_pos (by omega)]
  by_cases q : s 0 0 ≤ 1
  · rw [if_pos q]
    exact last μ hN hT
  · rw [if_neg q]
    have hj : (j : Int) < s 0 0 := by omega
    have hij := hj2 (by omega)
    obtain ⟨ν, a1, a2, a3⟩ := C_duel (m := 0) hN hi hj hij (by omega)
    have hN1 := Nw_q hN a3
    have hT1 := St_q hT a3
    obtain ⟨r, b1, b2⟩ := L_low (x := bshr x63 16) (n := 3) (μ := ν) (by omega)
    have b1' : fL_low (bshr x63 16) 3 ν = some (r : Int) := b1
    have er : w32 (1 + (r : Int)) = ((1 + r : Nat) : Int) := by
      rw [w32_i (by omega)]
      omega
    obtain ⟨ν2, c1, c2, c3⟩ := C_duel (m := 1 + r) hN1 hi hj hij (by omega)
    have hv := vS_rng i j (2 * (1 + r)) s
    rw [← c2] at hv
    have a1' : fX1_duel (i : Int) (j : Int) 0 μ = some (1, ν) := a1
    have a2' : ν 0 11 = outS s (i : Int) (j : Int) := a2
    have key : ∀ x, x = outS s (i : Int) (j : Int) → Ok (bnd2 (fX1_duel (i : Int) (j : Int) 0 μ) fun x667 μ668 =>
      if ¬ x667 = 1 then some (0, μ668) else (fX1_asked μ668).bind fun x669 => if ¬ x669 = x then some (0, μ668) else (fL_low (bshr x63 16) 3 μ668).bind fun x670 => bnd2 (fX1_duel (i : Int) (j : Int) (w32 (1 + x670)) μ668) fun x671 μ672 => if ¬ x671 = 1 then some (0, μ672) else (fX1_asked μ672).bind fun x673 => if x673 < (-1) then some (0, μ672) else (fX1_asked μ672).bind fun x674 => if x674 ≤ 1 then fL_law_c2080 σ self66 (s 0 0) x61 x62 x63 (m : Int) (s 0 2) (s 0 1) (alS s) (cr s) (hold s 0) μ672 else some (0, μ672)) := by
      intro x hx
      unfold fX1_asked
      rw [a1', bnd2_some, if_neg (fun w => w rfl), bd_some, a2', hx, if_neg (fun w => w rfl), b1', bd_some, er, c1, bnd2_some, if_neg (fun w => w rfl), bd_some]
      clear er
      rw [if_neg (by omega), bd_some, if_pos (by omega)]
      exact last ν2 (Nw_q hN1 c3) (St_q hT1 c3)
    by_cases w1 : hold s 0 = (i : Int)
    · rw [if_neg (fun w => w w1)]
      exact key 1 (by unfold outS; rw [if_pos w1])
    · rw [if_pos w1]
      by_cases w2 : hold s 0 = (j : Int)
      · rw [if_neg (fun w => w w2)]
        exact key (-1) (by unfold outS; rw [if_neg w1, if_pos w2])
      · rw [if_pos w2]
        exact key 0 (by unfold outS; rw [if_neg w1, if_neg w2])
theorem q_c1840 (hB : BF s0 m s β) (hS : Nx self66 x62 m s β) (hN : Nw m s μ) (hT : St m β μ) {i : Nat} (hi : (i : Int) < s 0 0) {v : Int} {L S Z W : Int} (hc : cN (tS s v) (2 ^ nS s) ≤ 2 ^ nS s) (h3 : cN (tS s v) (2 ^ nS s) = 0 ↔ S = -3)
    (h : 1 ≤ cN (tS s v) (2 ^ nS s) → W = v ∧ band S (bxor L (-1)) = 0 ∧ band Z L = 0 ∧ (cN (tS s v) (2 ^ nS s) = 1 → S = L)) :
    Ok (fL_law_c1840 σ self66 (s 0 0) x61 x62 x63 (m : Int) (s 0 2) (s 0 1) (alS s) (cr s) (hold s 0) (i : Int) v ((cN (tS s v) (2 ^ nS s) : Nat) : Int) L S Z W μ) := by
  obtain ⟨hg, g1, g6⟩ := BF_g hB
  have hpw := pow_64 (n := (s 0 0).toNat) (by omega)
  have ha := alS_rng hg
  generalize cN (tS s v) (2 ^ nS s) = C at *
  obtain ⟨ν, a1, a2, a3, a4⟩ := C_sets (v := 0) hN (by omega) g1
  have t0 : tS s 0 0 = true := tS_iff.mpr (dsS_0 s)
  have hN1 := Nw_q hN a4
  have hT1 := St_q hT a4
  obtain ⟨ν2, b1, b2, b3, b4⟩ := C_sets (v := alS s) hN1 ha g1
  have t1 : tS s (alS s) (2 ^ nS s - 1) = true := tS_iff.mpr (alS_T hg).symm
  have p1 := cN_pos t0 (2 ^ nS s) (by unfold nS; omega)
  have p2 := cN_pos t1 (2 ^ nS s) (by unfold nS; omega)
  rw [lst_first t0 (2 ^ nS s) (by unfold nS; omega)] at a3
  have tail : Ok (bnd2 (fX1_sets 0 μ) fun x472 μ473 => if ¬ x472 = 1 then some (0, μ473) else (fX1_asked μ473).bind fun x474 => if ¬ x474 = 0 then some (0, μ473) else (fX1_upper μ473).bind fun x475 => if x475 < 1 then some (0, μ473) else bnd2 (fX1_sets (alS s) μ473) fun x476 μ477 => if ¬ x476 = 1 then some (0, μ477) else (fX1_upper μ477).bind fun x478 => if 1 ≤ x478 then fL_law_c1977 σ self66 (s 0 0) x61 x62 x63 (m : Int) (s 0 2) (s 0 1) (alS s) (cr s) (hold s 0) (i : Int) μ477 else some (0, μ477)) := by
    unfold fX1_asked fX1_upper
    rw [a1, bnd2_some, if_neg (fun w => w rfl), bd_some, a3, if_neg (fun w => w rfl), bd_some, a2, if_neg (by omega), b1, bnd2_some, if_neg (fun w => w rfl), bd_some, b2, if_pos (by omega)]
    exact q_c1977 hB hS (Nw_q hN1 b4) (St_q hT1 b4) hi
  have eb : bshl 1 (s 0 0) = ((2 ^ nS s : Nat) : Int) := bshl_p (by omega)
  unfold fL_law_c1840
  simp only [mlet_e, lc_lt, lc_gt, lc_le, lc_ge, lc_eq, eb]
  rw [if_neg (by omega), if_neg (by omega)]
  by_cases q : C = 0
  · have hs := h3.mp q
    rw [if_neg (by omega), if_neg (by omega), if_neg (fun w => w trivial), if_pos (by omega)]
    exact tail
  · have hs : ¬ S = -3 := fun w => q (h3.mpr w)
    obtain ⟨h4, h5, h6, h7⟩ := h (by omega)
    rw [if_pos (by omega), if_pos hs, if_neg (fun w => w trivial), if_neg (by omega), if_neg (fun w => w h4), if_neg (fun w => w h5), if_neg (fun w => w h6)]
    by_cases q1 : C = 1
    · rw [if_neg (by omega), if_neg (fun w => w (h7 q1))]
      exact tail
    · rw [if_pos (by omega)]
      exact tail
theorem q_L1795 (hB : BF s0 m s β) (hS : Nx self66 x62 m s β) (hN : Nw m s μ) (hT : St m β μ) (hD : LD s μ) {i : Nat} (hi : (i : Int) < s 0 0) {v : Int} {L S Z : Int} (hc : cN (tS s v) (2 ^ nS s) ≤ 2 ^ nS s) (h3 : cN (tS s v) (2 ^ nS s) = 0 ↔ S = -3)
    (h : 1 ≤ cN (tS s v) (2 ^ nS s) → dsS s L = v ∧ band S (bxor L (-1)) = 0 ∧ band Z L = 0 ∧ (cN (tS s v) (2 ^ nS s) = 1 → S = L)) :
    ∀ (j k N : Nat), k + j = nS s → j < N → Ok (fL_law_L1795 (s 0 0) σ self66 x61 x62 x63 (m : Int) (s 0 2) (s 0 1) (alS s) (cr s) (hold s 0) (i : Int) v ((cN (tS s v) (2 ^ nS s) : Nat) : Int) L S Z μ N (dsR s L k) (k : Int)) := by
  obtain ⟨hg, g1, g6⟩ := BF_g hB
  have hn : (nS s : Int) = s 0 0 := by unfold nS; omega
  intro j
  induction j with
  | zero =>
    intro k N e1 e2
    obtain ⟨N, rfl⟩ : ∃ j, N = j + 1 := ⟨N - 1, by omega⟩
    obtain rfl : k = nS s := by omega
    rw [fL_law_L1795, if_pos (by omega)]
    exact q_c1840 hB hS hN hT hi hc h3 (fun w => ⟨(h w).1, (h w).2⟩)
  | succ j ih =>
    intro k N e1 e2
    obtain ⟨N, rfl⟩ : ∃ j, N = j + 1 := ⟨N - 1, by omega⟩
    have hk : (k : Int) < s 0 0 := by omega
    rw [fL_law_L1795, if_neg (by omega)]
    simp only [lc_le]
    by_cases q : ((cN (tS s v) (2 ^ nS s) : Nat) : Int) ≤ 0
    · rw [if_pos q]
      exact q_c1840 hB hS hN hT hi hc h3 (fun w => absurd q (by omega))
    · rw [if_neg q]
      have ih' := ih (k + 1) N (by omega) (by omega)
      rw [dsR] at ih'
      have hr := dsR_rng hg L k (by omega)
      have h3k := (tol_rng hg hk).2.2
      simp only [mlet_e, w32_s (show k ≤ 2000000000 by omega)]
      rcases band_1 (bshr L (k : Int)) with z | z
      · rw [if_pos z] at ih'
        rw [if_pos (by omega), w32_i (by omega)]
        exact ih'
      · rw [if_neg (by omega)] at ih'
        rw [if_neg (by omega), grd, if_pos (by omega), tn_c, hD k hk, w32_i (by omega)]
        exact ih'
theorem q_c1763 (hB : BF s0 m s β) (hS : Nx self66 x62 m s β) (hN : Nw m s μ) (hT : St m β μ) (hD : LD s μ) {i : Nat} (hi : (i : Int) < s 0 0) {v : Int} (hv : 0 ≤ v ∧ v ≤ 120) (h12 : μ 0 12 = ((cN (tS s v) (2 ^ nS s) : Nat) : Int)) (h11 : μ 0 11 = lst (tS s v) (2 ^ nS s)) :
    Ok (fL_law_c1763 σ self66 (s 0 0) x61 x62 x63 (m : Int) (s 0 2) (s 0 1) (alS s) (cr s) (hold s 0) (i : Int) v μ) := by
  obtain ⟨hg, g1, g6⟩ := BF_g hB
  have hpw : 1 ≤ 2 ^ nS s ∧ 2 ^ nS s ≤ 64 := pow_64 (n := (s 0 0).toNat) (by omega)
  have hf := fuel_lt
  have hc := cN_le (tS s v) (2 ^ nS s)
  have hall : xS s = ((2 ^ nS s - 1 : Nat) : Int) := by
    unfold xS
    omega
  obtain ⟨s1, s2, s3, s4, s5⟩ := sN_su (t := tS s v) (all := 2 ^ nS s - 1) (by omega) (2 ^ nS s) hpw.2
  have hsu := C_sure hN hv g1
  rw [hall] at hsu
  unfold fL_law_c1763 fX1_upper fX1_asked
  rw [bd_some, bd_some, hsu, h12, h11]
  have n6 : nS s < fuel := by unfold nS; omega
  by_cases q : 1 ≤ cN (tS s v) (2 ^ nS s)
  · rw [if_pos (s3.mpr q), bnd2_some, bd_some, wr_at (by omega)]
    obtain ⟨l, l1, l2, l3⟩ := lst_in (tS s v) (2 ^ nS s) q
    obtain ⟨i1, i2⟩ := sN_in (tS s v) (2 ^ nS s - 1) (2 ^ nS s) l l1 l3
    obtain ⟨-, o2⟩ := sN_one (tS s v) (2 ^ nS s - 1) (2 ^ nS s)
    rw [l2] at o2
    rw [s1, s2, l2]
    generalize hA : (sN (tS s v) (2 ^ nS s - 1) (2 ^ nS s)).1 = A at *
    generalize hO : (sN (tS s v) (2 ^ nS s - 1) (2 ^ nS s)).2 = O at *
    have hq : Fq μ (wr μ 0 11 (band ((2 ^ nS s - 1 : Nat) : Int) (bxor (O : Int) (-1)))) := Fq_11 (by omega)
    refine q_L1795 hB hS (Nw_q hN hq) (St_q hT hq) (LD_q hD hq) hi hc ?_ (fun _ => ⟨tS_iff.mp l3, ?_, ?_, fun h1 => ?_⟩) (nS s) 0 fuel (by omega) n6
    · constructor
      · intro w
        omega
      · intro w
        omega
    · rw [andn s4 (by omega), i1, Nat.xor_self]
      rfl
    · rw [andn (by omega) s5]
      have hlt : (2 ^ nS s - 1) ^^^ ((2 ^ nS s - 1) &&& O) < 2 ^ 6 := Nat.xor_lt_two_pow (by omega) (Nat.lt_of_le_of_lt Nat.and_le_left (by omega))
      rw [band_nn (by omega) (by omega)]
      have : ((2 ^ nS s - 1) ^^^ ((2 ^ nS s - 1) &&& O)) &&& l = 0 := by
        apply Nat.eq_of_testBit_eq
        intro b
        have h2' := congrArg (fun x => x.testBit b) i2
        rw [Nat.testBit_and] at h2'
        rw [Nat.testBit_and, Nat.testBit_xor, Nat.testBit_and, Nat.zero_testBit]
        cases hj : l.testBit b
        · simp
        · rw [hj] at h2'
          simp only [Bool.true_and] at h2'
          rw [h2']
          simp
      rw [this]
      rfl
    · rw [o2 h1]
      have : (2 ^ nS s - 1) &&& ((l : Nat) : Int).toNat = l := by
        rw [tn_c, Nat.and_comm, Nat.and_two_pow_sub_one_eq_mod]
        exact Nat.mod_eq_of_lt l1
      rw [this]
  · rw [if_neg (fun w => q (s3.mp w)), bnd2_some, bd_some]
    have hq : Fq μ (fndM μ 4) := Fq_fnd
    refine q_L1795 hB hS (Nw_q hN hq) (St_q hT hq) (LD_q hD hq) hi hc ?_ (fun w => absurd w q) (nS s) 0 fuel (by omega) n6
    constructor
    · intro _
      rfl
    · intro _
      omega
theorem q_c1737 (hB : BF s0 m s β) (hS : Nx self66 x62 m s β) (hN : Nw m s μ) (hT : St m β μ) (hD : LD s μ) {i : Nat} (hi : (i : Int) < s 0 0) : Ok (fL_law_c1737 σ self66 (s 0 0) x61 x62 x63 (m : Int) (s 0 2) (s 0 1) (alS s) (cr s) (hold s 0) (i : Int) μ) := by
  obtain ⟨hg, g1, g6⟩ := BF_g hB
  have ha := alS_rng hg
  obtain ⟨a, hal⟩ : ∃ a : Nat, alS s = (a : Int) := ⟨(alS s).toNat, by omega⟩
  obtain ⟨r, a1, a2⟩ := L_low (x := bshr x63 12) (n := a + 1) (μ := μ) (by omega)
  have ew : w32 (alS s + 1) = ((a + 1 : Nat) : Int) := by
    rw [hal, w32_i (by omega)]
    omega
  obtain ⟨ν, b1, b2, b3, b4⟩ := C_sets (v := (r : Int)) hN (by omega) g1
  unfold fL_law_c1737
  rw [ew, a1, bd_some, b1, bnd2_some, if_pos rfl]
  clear ew
  exact q_c1763 hB hS (Nw_q hN b4) (St_q hT b4) (LD_q hD b4) hi (by omega) b2 b3
end TURN
