/-! what is told; count, digest -/
theorem P_asked {μ : Mem} (h : Inv μ) : Same0 (fX1_asked μ) (fX2_asked μ) := ⟨_, rfl, by unfold fX2_asked; rw [h.2.2.1.1]⟩
theorem P_upper {μ : Mem} (h : Inv μ) : Same0 (fX1_upper μ) (fX2_upper μ) := ⟨_, rfl, by unfold fX2_upper; rw [h.2.2.1.2.1]⟩
theorem P_lower {μ : Mem} (h : Inv μ) : Same0 (fX1_lower μ) (fX2_lower μ) := ⟨_, rfl, by unfold fX2_lower; rw [h.2.2.1.2.2.1]⟩
theorem P_finding {μ : Mem} (h : Inv μ) : Same0 (fX1_finding μ) (fX2_finding μ) := ⟨_, rfl, by unfold fX2_finding; rw [h.2.2.1.2.2.2.1]⟩
theorem P_findings {f : Int} {μ : Mem} (h : Inv μ) : Same0 (fX1_findings f μ) (fX2_findings f μ) := by
  by_cases a : 1 ≤ f ∧ f ≤ 5
  · obtain ⟨f, rfl⟩ : ∃ j : Nat, f = j := ⟨f.toNat, by omega⟩
    refine ⟨μ 36 f, ?_, ?_⟩
    · unfold fX1_findings
      simp (disch := omega) only [e_within, bnd2_some, bd_some, b01_t, b01_f, if_pos, if_neg, mlet_e, grd, ite_true, ite_false, not_true_eq_false, not_false_eq_true, ite_self, tn_c, w32_i]
    · unfold fX2_findings
      simp (disch := omega) only [e_in, bnd2_some, bd_some, b01_t, b01_f, if_pos, if_neg, mlet_e, grd, ite_true, ite_false, not_true_eq_false, not_false_eq_true, ite_self, tn_c, w32_i]
      rw [h.2.2.1.2.2.2.2 f (by omega)]
  · refine ⟨-1, ?_, ?_⟩
    · unfold fX1_findings
      simp (disch := omega) only [e_within, bnd2_some, bd_some, b01_t, b01_f, if_pos, if_neg, mlet_e, grd, ite_true, ite_false, not_true_eq_false, not_false_eq_true, ite_self, tn_c, w32_i]
    · unfold fX2_findings
      simp (disch := omega) only [e_in, bnd2_some, bd_some, b01_t, b01_f, if_pos, if_neg, mlet_e, grd, ite_true, ite_false, not_true_eq_false, not_false_eq_true, ite_self, tn_c, w32_i]
def acR (s : Mem) : Nat → Int
  | 0 => 0
  | k + 1 => w32 (acR s k + s 4 k)
theorem e_allX {b : Nat} {μ s : Mem} (hc : CB b μ s) (hg : GB s) : fX0_allCrossings b μ = some (acR s (s 0 0).toNat) := by
  have g0 := hg.1
  have g6 := hg.2.1
  have hL : ∀ (m k N : Nat), k + m = (s 0 0).toNat → m < N → fX0_allCrossings_L4 μ b N (acR s k) (k : Int) = some (acR s (s 0 0).toNat) := by
    intro m
    induction m with
    | zero =>
      intro k N h1 h2
      obtain ⟨N, rfl⟩ : ∃ j, N = j + 1 := ⟨N - 1, by omega⟩
      obtain rfl : k = (s 0 0).toNat := by omega
      rw [fX0_allCrossings_L4, hc.1, if_pos (by omega)]
    | succ m ih =>
      intro k N h1 h2
      obtain ⟨N, rfl⟩ : ∃ j, N = j + 1 := ⟨N - 1, by omega⟩
      obtain ⟨c1, c2, c3, c4⟩ := hc.2.2.2 k (by omega)
      rw [fX0_allCrossings_L4, hc.1, if_neg (by omega)]
      simp (disch := omega) only [mlet_e, w32_s, grd, if_pos, tn_c, c4]
      exact ih (k + 1) N (by omega) (by omega)
  unfold fX0_allCrossings
  have hf := fuel_lt
  generalize fuel = N at hf ⊢
  exact hL (s 0 0).toNat 0 N (by omega) (by omega)
theorem e_allX2 {μ s : Mem} (hc : MB 0 μ s) (hg : GB s) : fX2_crossedByAll μ = some (acR s (s 0 0).toNat) := by
  have g0 := hg.1
  have g6 := hg.2.1
  have hL : ∀ (m k N : Nat), k + m = (s 0 0).toNat → m < N → fX2_crossedByAll_L4 μ N (acR s k) (k : Int) = some (acR s (s 0 0).toNat) := by
    intro m
    induction m with
    | zero =>
      intro k N h1 h2
      obtain ⟨N, rfl⟩ : ∃ j, N = j + 1 := ⟨N - 1, by omega⟩
      obtain rfl : k = (s 0 0).toNat := by omega
      rw [fX2_crossedByAll_L4, hc.1, if_pos (by omega)]
    | succ m ih =>
      intro k N h1 h2
      obtain ⟨N, rfl⟩ : ∃ j, N = j + 1 := ⟨N - 1, by omega⟩
      obtain ⟨c1, c2, c3, c4⟩ := (MB_0 hc).2.2 k (by omega)
      rw [fX2_crossedByAll_L4, hc.1, if_neg (by omega), w32_i (z := 15 + (k : Int)) (by omega)]
      simp (disch := omega) only [mlet_e, w32_s, grd, if_pos, tn_15, c4]
      exact ih (k + 1) N (by omega) (by omega)
  unfold fX2_crossedByAll
  have hf := fuel_lt
  generalize fuel = N at hf ⊢
  exact hL (s 0 0).toNat 0 N (by omega) (by omega)
def hmR (s : Mem) (o : Int) : Nat → Int
  | 0 => 0
  | k + 1 => hmR s o k + b01 (s 1 k = o ∨ (s 1 k = 4 ∧ o = 3) ∨ (s 1 k = 5 ∧ o = 2))
theorem b01_rng {c : Prop} [inst : Decidable c] : 0 ≤ b01 c ∧ b01 c ≤ 1 := by
  unfold b01
  split <;> omega
theorem hmR_rng (s : Mem) (o : Int) : ∀ k : Nat, 0 ≤ hmR s o k ∧ hmR s o k ≤ k
  | 0 => by unfold hmR; omega
  | k + 1 => by
    have h1 := hmR_rng s o k
    have h2 := b01_rng (c := s 1 k = o ∨ (s 1 k = 4 ∧ o = 3) ∨ (s 1 k = 5 ∧ o = 2))
    unfold hmR
    omega
theorem e_hmOf {b : Nat} {o : Int} {μ s : Mem} (ho : ¬ o = 0) (hc : CB b μ s) (hg : GB s) : fX0_howManyOf b o μ = some (hmR s o (s 0 0).toNat) := by
  have g0 := hg.1
  have g6 := hg.2.1
  have hL : ∀ (m k N : Nat), k + m = (s 0 0).toNat → m < N → fX0_howManyOf_L4 μ b o N (hmR s o k) (k : Int) = some (hmR s o (s 0 0).toNat) := by
    intro m
    induction m with
    | zero =>
      intro k N h1 h2
      obtain ⟨N, rfl⟩ : ∃ j, N = j + 1 := ⟨N - 1, by omega⟩
      obtain rfl : k = (s 0 0).toNat := by omega
      rw [fX0_howManyOf_L4, hc.1, if_pos (by omega)]
    | succ m ih =>
      intro k N h1 h2
      obtain ⟨N, rfl⟩ : ∃ j, N = j + 1 := ⟨N - 1, by omega⟩
      obtain ⟨c1, c2, c3, c4⟩ := hc.2.2.2 k (by omega)
      have hr := hmR_rng s o k
      have ih' := ih (k + 1) N (by omega) (by omega)
      rw [hmR] at ih'
      rw [fX0_howManyOf_L4, hc.1, if_neg (by omega)]
      simp (disch := omega) only [mlet_e, w32_s, grd, if_pos, tn_c, c1, e_isOf, bd_some, b01_0]
      by_cases z : s 1 k = o ∨ (s 1 k = 4 ∧ o = 3) ∨ (s 1 k = 5 ∧ o = 2)
      · rw [if_neg (by omega), w32_i (by omega)]
        rw [b01_t z] at ih'
        exact ih'
      · rw [if_pos (by omega)]
        rw [b01_f z, Int.add_zero] at ih'
        exact ih'
  unfold fX0_howManyOf
  have hf := fuel_lt
  generalize fuel = N at hf ⊢
  exact hL (s 0 0).toNat 0 N (by omega) (by omega)
theorem e_those {o : Int} {μ s : Mem} (hc : MB 0 μ s) (hg : GB s) : fX2_those o μ = some (hmR s o (s 0 0).toNat) := by
  have g0 := hg.1
  have g6 := hg.2.1
  have hL : ∀ (m k N : Nat), k + m = (s 0 0).toNat → m < N → fX2_those_L4 μ o N (hmR s o k) (k : Int) = some (hmR s o (s 0 0).toNat) := by
    intro m
    induction m with
    | zero =>
      intro k N h1 h2
      obtain ⟨N, rfl⟩ : ∃ j, N = j + 1 := ⟨N - 1, by omega⟩
      obtain rfl : k = (s 0 0).toNat := by omega
      rw [fX2_those_L4, hc.1, if_pos (by omega)]
    | succ m ih =>
      intro k N h1 h2
      obtain ⟨N, rfl⟩ : ∃ j, N = j + 1 := ⟨N - 1, by omega⟩
      have hr := hmR_rng s o k
      have ih' := ih (k + 1) N (by omega) (by omega)
      rw [hmR] at ih'
      rw [fX2_those_L4, hc.1, if_neg (by omega), e_isOf2 hc hg (by omega), bd_some]
      simp (disch := omega) only [mlet_e, w32_s, b01_0]
      by_cases z : s 1 k = o ∨ (s 1 k = 4 ∧ o = 3) ∨ (s 1 k = 5 ∧ o = 2)
      · rw [if_neg (by omega), w32_i (by omega)]
        rw [b01_t z] at ih'
        exact ih'
      · rw [if_pos z, w32_i (by omega)]
        rw [b01_f z] at ih'
        exact ih'
  unfold fX2_those
  have hf := fuel_lt
  generalize fuel = N at hf ⊢
  exact hL (s 0 0).toNat 0 N (by omega) (by omega)
def trS (f : Nat → Int) : Nat → Int
  | 0 => 0
  | k + 1 => trS f k + (if f k < 0 then 0 else 1)
theorem trS_rng (f : Nat → Int) : ∀ k : Nat, 0 ≤ trS f k ∧ trS f k ≤ k
  | 0 => by unfold trS; omega
  | k + 1 => by
    have h1 := trS_rng f k
    unfold trS
    split <;> omega
theorem trS_eq {f g : Nat → Int} {n : Nat} (h : ∀ k, k < n → f k = g k) : trS f n = trS g n := by
  induction n with
  | zero => rfl
  | succ n ih => rw [trS, trS, ih (fun k hk => h k (by omega)), h n (by omega)]
theorem trS_tail {g : Nat → Int} {n : Nat} : ∀ m, (∀ k, n ≤ k → k < n + m → g k < 0) → trS g (n + m) = trS g n
  | 0, _ => rfl
  | m + 1, h => by
    rw [show n + (m + 1) = n + m + 1 by omega, trS, trS_tail m (fun k h1 h2 => h k h1 (by omega)), if_pos (h (n + m) (by omega) (by omega)), Int.add_zero]
theorem e_there {p n : Nat} {μ : Mem} (hn : n ≤ 6) : fX1_howManyThere p n μ = some (trS (fun k => μ p k) n) := by
  have hL : ∀ (m k N : Nat), k + m = n → m < N → fX1_howManyThere_L10 (n : Int) n μ p N (trS (fun k => μ p k) k) (k : Int) = some (trS (fun k => μ p k) n) := by
    intro m
    induction m with
    | zero =>
      intro k N h1 h2
      obtain ⟨N, rfl⟩ : ∃ j, N = j + 1 := ⟨N - 1, by omega⟩
      obtain rfl : k = n := by omega
      rw [fX1_howManyThere_L10, if_pos (by omega)]
    | succ m ih =>
      intro k N h1 h2
      obtain ⟨N, rfl⟩ : ∃ j, N = j + 1 := ⟨N - 1, by omega⟩
      have hr := trS_rng (fun k => μ p k) k
      have ih' := ih (k + 1) N (by omega) (by omega)
      rw [trS] at ih'
      rw [fX1_howManyThere_L10, if_neg (by omega)]
      simp (disch := omega) only [mlet_e, w32_s, grd, if_pos, tn_c]
      by_cases z : μ p k < 0
      · rw [if_pos z]
        rw [if_pos z, Int.add_zero] at ih'
        exact ih'
      · rw [if_neg z, w32_i (by omega)]
        rw [if_neg z] at ih'
        exact ih'
  unfold fX1_howManyThere
  have hf := fuel_lt
  generalize fuel = N at hf ⊢
  rw [mlet_e]
  exact hL n 0 N (by omega) (by omega)
theorem tn_821b {k : Nat} : (821 * (1 + (k : Int)) + 0).toNat = 821 * (k + 1) := tn_821
theorem e_thereOf {w : Int} {μ : Mem} {g : Nat → Int} (hg : ∀ k, k < 6 → g k = (if w = 9 then μ 63 k else if w = 10 then (if k < 4 then μ 65 k else -1) else (if k < 3 then μ 61 (821 * (k + 1)) else -1))) : fX2_thereOf w μ = some (trS g 6) := by
  have hL : ∀ (m k N : Nat), k + m = 6 → m < N → fX2_thereOf_L4 w μ N (trS g k) (k : Int) = some (trS g 6) := by
    intro m
    induction m with
    | zero =>
      intro k N h1 h2
      obtain ⟨N, rfl⟩ : ∃ j, N = j + 1 := ⟨N - 1, by omega⟩
      obtain rfl : k = 6 := by omega
      rw [fX2_thereOf_L4, if_pos (by omega)]
    | succ m ih =>
      intro k N h1 h2
      obtain ⟨N, rfl⟩ : ∃ j, N = j + 1 := ⟨N - 1, by omega⟩
      have hr := trS_rng g k
      have ih' := ih (k + 1) N (by omega) (by omega)
      have hk := hg k (by omega)
      rw [trS] at ih'
      rw [fX2_thereOf_L4, if_neg (by omega)]
      simp (disch := omega) only [mlet_e, w32_s, grd]
      by_cases w9 : w = 9
      · rw [if_pos w9] at hk
        rw [hk] at ih'
        simp (disch := omega) only [if_neg, if_pos, tn_c]
        by_cases z : μ 63 k < 0
        · rw [if_neg (by omega), w32_i (by omega)]
          rw [if_pos z] at ih'
          exact ih'
        · rw [if_pos (by omega), w32_i (by omega)]
          rw [if_neg z] at ih'
          exact ih'
      · rw [if_neg w9] at hk
        by_cases w10 : w = 10
        · rw [if_pos w10] at hk
          by_cases k4 : k < 4
          · rw [if_pos k4] at hk
            rw [hk] at ih'
            simp (disch := omega) only [if_neg, if_pos, tn_c]
            by_cases z : μ 65 k < 0
            · rw [if_pos z, w32_i (by omega)]
              rw [if_pos z] at ih'
              exact ih'
            · rw [if_neg z, w32_i (by omega)]
              rw [if_neg z] at ih'
              exact ih'
          · rw [if_neg k4] at hk
            rw [hk, if_pos (by omega)] at ih'
            simp (disch := omega) only [if_neg, if_pos]
            rw [w32_i (by omega)]
            exact ih'
        · rw [if_neg w10] at hk
          by_cases k3 : k < 3
          · rw [if_pos k3] at hk
            rw [hk] at ih'
            simp (disch := omega) only [if_neg, if_pos, w32_i (z := 1 + (k : Int)), w32_i (z := 821 * (1 + (k : Int))), w32_i (z := 821 * (1 + (k : Int)) + 0), tn_821]
            by_cases z : μ 61 (821 * (k + 1)) < 0
            · rw [if_pos z, w32_i (by omega)]
              rw [if_pos z] at ih'
              exact ih'
            · rw [if_neg z, w32_i (by omega)]
              rw [if_neg z] at ih'
              exact ih'
          · rw [if_neg k3] at hk
            rw [hk, if_pos (by omega)] at ih'
            simp (disch := omega) only [if_neg, if_pos]
            rw [w32_i (by omega)]
            exact ih'
  unfold fX2_thereOf
  have hf := fuel_lt
  generalize fuel = N at hf ⊢
  exact hL 6 0 N (by omega) (by omega)
theorem P_countOf {w : Int} {μ : Mem} (h : Inv μ) (hw : 0 ≤ w ∧ w ≤ 11) : ∃ v, fX1_count w μ = some v ∧ fX2_countOf w μ = some v := by
  obtain ⟨s, hR, hC, hM, hg, h0, h40, h61⟩ := Inv_now h
  have g0 := hg.1
  have g6 := hg.2.1
  have c4 := hC.1
  have m4 := hM.1
  obtain ⟨-, s0, hh, -, -, -, h4⟩ := hR
  have hb : fX2_boldest 0 0 μ = some (hold s 0) := e_boldest (x := 0) (a := 0) rfl (by omega) hM hg
  unfold fX1_count fX2_countOf
  rw [hb, bd_some]
  by_cases w0 : w = 0
  · subst w0
    exact ⟨s 0 0, by rw [if_pos rfl, c4], by rw [if_pos rfl, m4]⟩
  · rw [if_neg w0, if_neg w0]
    by_cases w1 : w = 1
    · exact ⟨s 0 2, by rw [if_pos w1, hC.2.2.1], by rw [if_pos w1, (MB_0 hM).2.1]⟩
    · rw [if_neg w1, if_neg w1]
      by_cases w2 : w = 2
      · exact ⟨μ 0 8, by rw [if_pos w2], by rw [if_pos w2, h61]⟩
      · rw [if_neg w2, if_neg w2]
        by_cases w3 : w = 3
        · exact ⟨s 0 1, by rw [if_pos w3, hC.2.1], by rw [if_pos w3, (MB_0 hM).1]⟩
        · rw [if_neg w3, if_neg w3]
          by_cases w4 : w = 4
          · rw [if_pos w4, if_pos w4, e_holder hC hg, bd_some]
            unfold fX1_bitOf
            rcases hold_rng (p := 0) hg with q | ⟨i, i1, i2⟩
            · exact ⟨0, by rw [if_pos (by omega), bd_some], by rw [if_neg (by omega)]⟩
            · exact ⟨bshl 1 (hold s 0), by rw [if_neg (by omega), bd_some], by rw [if_pos (by omega)]⟩
          · rw [if_neg w4, if_neg w4]
            by_cases w5 : w = 5
            · exact ⟨_, by rw [if_pos w5, e_dOf hC hg, bd_some], by rw [if_pos w5, e_dOf2 hM hg, bd_some, m4, c4]⟩
            · rw [if_neg w5, if_neg w5]
              by_cases w6 : w = 6
              · exact ⟨_, by rw [if_pos w6, e_allX hC hg, bd_some], by rw [if_pos w6, e_allX2 hM hg, bd_some]⟩
              · rw [if_neg w6, if_neg w6]
                by_cases w7 : w = 7
                · exact ⟨_, by rw [if_pos w7, e_hmOf (by omega) hC hg, bd_some], by rw [if_pos w7, e_those hM hg, bd_some]⟩
                · rw [if_neg w7, if_neg w7]
                  by_cases w8 : w = 8
                  · exact ⟨_, by rw [if_pos w8, e_hmOf (by omega) hC hg, bd_some], by rw [if_pos w8, e_those hM hg, bd_some]⟩
                  · rw [if_neg w8, if_neg w8]
                    by_cases w9 : w = 9
                    · refine ⟨trS (fun k => μ 8 k) 6, by rw [if_pos w9, e_there (by omega), bd_some], ?_⟩
                      rw [e_thereOf (g := fun k => μ 8 k) (fun k hk => by rw [if_pos w9, (h.1 k hk).1]), bd_some]
                    · rw [if_neg w9]
                      by_cases w10 : w = 10
                      · refine ⟨trS (fun k => μ 14 k) 4, by rw [if_pos w10, e_there (by omega), bd_some], ?_⟩
                        rw [e_thereOf (g := fun k => if k < 4 then μ 14 k else -1) (fun k hk => by
                          rw [if_neg w9, if_pos w10]
                          by_cases z : k < 4
                          · rw [if_pos z, if_pos z, (h.2.1 k z).1]
                          · rw [if_neg z, if_neg z]), bd_some]
                        rw [trS_tail (n := 4) 2 (fun k k1 k2 => by rw [if_neg (by omega)]; omega)]
                        rw [trS_eq (g := fun k => μ 14 k) (fun k hk => by rw [if_pos hk])]
                      · rw [if_neg w10, if_pos (by omega)]
                        refine ⟨trS (fun k => μ 35 k) 3, by rw [e_there (by omega), bd_some], ?_⟩
                        rw [e_thereOf (g := fun k => if k < 3 then μ 35 k else -1) (fun k hk => by
                          rw [if_neg w9, if_neg w10]
                          by_cases z : k < 3
                          · rw [if_pos z, if_pos z, (h4 (k + 1) (by omega)).2.2.1]
                            unfold cnt
                            rw [if_neg (by omega)]
                            rfl
                          · rw [if_neg z, if_neg z]), bd_some]
                        rw [trS_tail (n := 3) 3 (fun k k1 k2 => by rw [if_neg (by omega)]; omega)]
                        rw [trS_eq (g := fun k => μ 35 k) (fun k hk => by rw [if_pos hk])]
theorem P_count {w : Int} {μ : Mem} (h : Inv μ) : Same0 (fX1_count w μ) (fX2_count w μ) := by
  by_cases hw : 0 ≤ w ∧ w ≤ 11
  · obtain ⟨v, e1, e2⟩ := P_countOf h hw
    refine ⟨v, e1, ?_⟩
    unfold fX2_count
    simp (disch := omega) only [e_in, e2, bnd2_some, bd_some, b01_t, b01_f, if_pos, if_neg, mlet_e, grd, ite_true, ite_false, not_true_eq_false, not_false_eq_true, ite_self, tn_c, w32_i]
  · refine ⟨-1, ?_, ?_⟩
    · unfold fX1_count
      simp (disch := omega) only [bnd2_some, bd_some, b01_t, b01_f, if_pos, if_neg, mlet_e, grd, ite_true, ite_false, not_true_eq_false, not_false_eq_true, ite_self, tn_c, w32_i]
    · unfold fX2_count
      simp (disch := omega) only [e_in, bnd2_some, bd_some, b01_t, b01_f, if_pos, if_neg, mlet_e, grd, ite_true, ite_false, not_true_eq_false, not_false_eq_true, ite_self, tn_c, w32_i]
