/-! A RIVER BY CELLS: the text that the law writes, read -/
def ltr (k : Int) : Int := if k = 0 then 112 else if k = 1 then 100 else if k = 2 then 101 else if k = 3 then 98 else if k = 4 then 116 else 113
theorem kof_ltr {k : Int} (h : 0 ≤ k ∧ k ≤ 5) : kof (ltr k) = k := by
  have : k = 0 ∨ k = 1 ∨ k = 2 ∨ k = 3 ∨ k = 4 ∨ k = 5 := by omega
  rcases this with rfl | rfl | rfl | rfl | rfl | rfl <;> rfl
theorem ltr_rng (k : Int) : 98 ≤ ltr k ∧ ltr k ≤ 116 := by
  unfold ltr
  repeat' (first | omega | split)
theorem L_letter {k : Int} {μ : Mem} : fL_letter k μ = some (ltr k) := by
  unfold fL_letter ltr
  by_cases h0 : k = 0
  · simp (disch := omega) only [bnd2_some, bd_some, b01_t, b01_f, if_pos, if_neg, mlet_e, grd, ite_true, ite_false, not_true_eq_false, not_false_eq_true, ite_self, tn_c, w32_i]
  · by_cases h1 : k = 1
    · simp (disch := omega) only [bnd2_some, bd_some, b01_t, b01_f, if_pos, if_neg, mlet_e, grd, ite_true, ite_false, not_true_eq_false, not_false_eq_true, ite_self, tn_c, w32_i]
    · by_cases h2 : k = 2
      · simp (disch := omega) only [bnd2_some, bd_some, b01_t, b01_f, if_pos, if_neg, mlet_e, grd, ite_true, ite_false, not_true_eq_false, not_false_eq_true, ite_self, tn_c, w32_i]
      · by_cases h3 : k = 3
        · simp (disch := omega) only [bnd2_some, bd_some, b01_t, b01_f, if_pos, if_neg, mlet_e, grd, ite_true, ite_false, not_true_eq_false, not_false_eq_true, ite_self, tn_c, w32_i]
        · by_cases h4 : k = 4
          · simp (disch := omega) only [bnd2_some, bd_some, b01_t, b01_f, if_pos, if_neg, mlet_e, grd, ite_true, ite_false, not_true_eq_false, not_false_eq_true, ite_self, tn_c, w32_i]
          · simp (disch := omega) only [bnd2_some, bd_some, b01_t, b01_f, if_pos, if_neg, mlet_e, grd, ite_true, ite_false, not_true_eq_false, not_false_eq_true, ite_self, tn_c, w32_i]
theorem sk_no {f : Nat → Int} {k : Nat} (hk : k < 40) (h : ¬ f k = 32) : sk f 40 k = k := by
  unfold sk
  obtain ⟨m, hm⟩ : ∃ m, 40 - k = m + 1 := ⟨40 - k - 1, by omega⟩
  rw [hm, skS, if_neg h]
theorem sk_step {f : Nat → Int} {k : Nat} (hk : k < 40) (h : f k = 32) : sk f 40 k = sk f 40 (k + 1) := by
  unfold sk
  obtain ⟨m, hm⟩ : ∃ m, 40 - k = m + 1 := ⟨40 - k - 1, by omega⟩
  rw [hm, skS, if_pos h, show 40 - (k + 1) = m by omega]
theorem sk_end {f : Nat → Int} : ∀ (m k : Nat), k + m = 40 → (∀ j, k ≤ j → j < 40 → f j = 32) → sk f 40 k = 40
  | 0, k, h, _ => by
    unfold sk
    rw [show 40 - k = 0 by omega, skS]
    omega
  | m + 1, k, h, e => by
    rw [sk_step (by omega) (e k (by omega) (by omega))]
    exact sk_end m (k + 1) (by omega) (fun j h1 h2 => e j (by omega) h2)
/-- people, one behind the other -/
def pS (v : Int) (K D A : Nat → Int) : Nat → Mem
  | 0 => ini v
  | j + 1 => adS (pS v K D A j) (K j) (D j) (A j)
theorem pS_0 (v : Int) (K D A : Nat → Int) : ∀ j, pS v K D A j 0 0 = (j : Int) ∧ pS v K D A j 0 1 = v ∧ pS v K D A j 0 2 = 0
  | 0 => ⟨ini_o (by omega), ini_1, ini_o (by omega)⟩
  | j + 1 => by
    obtain ⟨h1, h2, h3⟩ := pS_0 v K D A j
    rw [pS, adS_00, adS_01, adS_02, h1, h2, h3]
    exact ⟨rfl, rfl, rfl⟩
theorem pS_n (v : Int) (K D A : Nat → Int) : ∀ j i : Nat, i < j → pS v K D A j 1 i = K i ∧ pS v K D A j 2 i = D i ∧ pS v K D A j 3 i = A i ∧ pS v K D A j 4 i = 0
  | 0, i, h => absurd h (by omega)
  | j + 1, i, h => by
    obtain ⟨h1, -, -⟩ := pS_0 v K D A j
    rw [pS]
    by_cases e : i = j
    · subst e
      exact adS_n _ _ _ _ h1.symm
    · rw [adS_o _ _ _ _ (by omega) (by rw [h1]; omega), adS_o _ _ _ _ (by omega) (by rw [h1]; omega), adS_o _ _ _ _ (by omega) (by rw [h1]; omega), adS_o _ _ _ _ (by omega) (by rw [h1]; omega)]
      exact pS_n v K D A j i (by omega)
def TX (f : Nat → Int) (v : Int) (K D A : Nat → Int) (n : Nat) : Prop :=
  (f 0 = 102 ∧ f 1 = 48 + v ∧ f 2 = 32 ∧ 0 ≤ v ∧ v ≤ 9) ∧ (∀ i, i < n → (0 ≤ K i ∧ K i ≤ 5) ∧ (0 ≤ D i ∧ D i ≤ 9) ∧ (0 ≤ A i ∧ A i ≤ 20) ∧ f (3 + 5 * i) = ltr (K i) ∧ f (4 + 5 * i) = 48 + D i ∧ f (5 + 5 * i) = 48 + (A i).tdiv 10 ∧ f (6 + 5 * i) = 48 + (A i).tmod 10 ∧ f (7 + 5 * i) = 32) ∧ ∀ k, 3 + 5 * n ≤ k → k < 40 → f k = 32
theorem td10 {a : Int} (h : 0 ≤ a ∧ a ≤ 20) : 0 ≤ a.tdiv 10 ∧ a.tdiv 10 ≤ 2 ∧ 0 ≤ a.tmod 10 ∧ a.tmod 10 ≤ 9 ∧ 10 * a.tdiv 10 + a.tmod 10 = a := by
  rw [Int.tdiv_eq_ediv_of_nonneg h.1, Int.tmod_eq_emod_of_nonneg h.1]
  omega
theorem TX_pa {f : Nat → Int} {v : Int} {K D A : Nat → Int} {n : Nat} (h : TX f v K D A n) (hn : n ≤ 6) (h1 : 1 ≤ n) : ∀ m i : Nat, i + m = n → paS f 40 (m + (7 - n)) (if i = n then 40 else 3 + 5 * i) (pS v K D A i) = (-9, pS v K D A n) := by
  obtain ⟨-, h2, h3⟩ := h
  intro m
  induction m with
  | zero =>
    intro i hi
    obtain rfl : i = n := by omega
    obtain ⟨q, hq⟩ : ∃ q, 0 + (7 - i) = q + 1 := ⟨6 - i, by omega⟩
    rw [hq, if_pos rfl, paS, if_pos (by omega), if_neg (by rw [(pS_0 v K D A i).1]; omega)]
  | succ m ih =>
    intro i hi
    obtain ⟨k1, d1, a1, f1, f2, f3, f4, f5⟩ := h2 i (by omega)
    have ht := td10 a1
    have hl := ltr_rng (K i)
    have h9 : fltS f 40 (pS v K D A i 0 0) (3 + 5 * i) = -9 := by
      have g1 : dgt f 40 (4 + 5 * i) := ⟨by omega, by omega, by omega⟩
      have g2 : dgt f 40 (4 + 5 * i + 1) := ⟨by omega, by rw [show 4 + 5 * i + 1 = 5 + 5 * i by omega]; omega, by rw [show 4 + 5 * i + 1 = 5 + 5 * i by omega]; omega⟩
      have g3 : dgt f 40 (4 + 5 * i + 2) := ⟨by omega, by rw [show 4 + 5 * i + 2 = 6 + 5 * i by omega]; omega, by rw [show 4 + 5 * i + 2 = 6 + 5 * i by omega]; omega⟩
      have e3 := (fl3_eq f 40 (4 + 5 * i)).2.2.2 g1 g2 g3
      unfold fltS
      rw [(pS_0 v K D A i).1, show 3 + 5 * i + 1 = 4 + 5 * i by omega, show 3 + 5 * i + 2 = 5 + 5 * i by omega, show 3 + 5 * i + 3 = 6 + 5 * i by omega, f1, kof_ltr k1, if_neg (by omega), if_pos e3, if_neg (by omega)]
    have hx : nxS f (pS v K D A i) (3 + 5 * i) = pS v K D A (i + 1) := by
      unfold nxS
      rw [show 3 + 5 * i + 1 = 4 + 5 * i by omega, show 3 + 5 * i + 2 = 5 + 5 * i by omega, show 3 + 5 * i + 3 = 6 + 5 * i by omega, f1, kof_ltr k1, pS]
      congr 1
      · omega
      · omega
    have hsk : sk f 40 (3 + 5 * i + 4) = if i + 1 = n then 40 else 3 + 5 * (i + 1) := by
      rw [show 3 + 5 * i + 4 = 7 + 5 * i by omega, sk_step (by omega) f5]
      by_cases e : i + 1 = n
      · rw [if_pos e]
        exact sk_end (40 - (7 + 5 * i + 1)) _ (by omega) (fun j j1 j2 => h3 j (by omega) j2)
      · rw [if_neg e, show 7 + 5 * i + 1 = 3 + 5 * (i + 1) by omega]
        obtain ⟨-, -, -, f6, -⟩ := h2 (i + 1) (by omega)
        have hl2 := ltr_rng (K (i + 1))
        exact sk_no (by omega) (by omega)
    rw [show m + 1 + (7 - n) = (m + (7 - n)) + 1 by omega, if_neg (by omega), paS, if_neg (by omega), if_pos h9, hx, hsk]
    exact ih (i + 1) (by omega)
theorem TX_rd {f : Nat → Int} {v : Int} {K D A : Nat → Int} {n : Nat} (h : TX f v K D A n) (hn : n ≤ 6) (h1 : 1 ≤ n) : rdS f 40 = (-9, pS v K D A n) := by
  have h' := h
  obtain ⟨⟨f0, f1, f2, v1, v2⟩, h2, -⟩ := h
  obtain ⟨-, -, -, f3, -⟩ := h2 0 (by omega)
  have hl := ltr_rng (K 0)
  have e0 : sk f 40 0 = 0 := sk_no (by omega) (by omega)
  have e2 : sk f 40 2 = 3 := by
    rw [sk_step (by omega) f2]
    exact sk_no (by omega) (by rw [show (2 + 1 : Nat) = 3 + 5 * 0 by omega, f3]; omega)
  have g1 : dgt f 40 1 := ⟨by omega, by omega, by omega⟩
  unfold rdS
  rw [e0, if_neg (by omega), if_neg (by omega), Nat.zero_add, if_neg (fun w => w g1), Nat.zero_add, e2, f1, show 48 + v - 48 = v by omega]
  have := TX_pa h' hn h1 n 0 (by omega)
  rw [if_neg (by omega), show n + (7 - n) = 7 by omega] at this
  exact this
theorem L_cell {σ : Scr} {p : Int} {μ : Mem} (h : 0 ≤ p) : ∃ x, fL_cell σ p μ = some x := by
  unfold fL_cell
  by_cases q : (Nat.cast σ.1 : Int) ≤ p
  · exact ⟨_, by rw [if_pos q]⟩
  · exact ⟨_, by rw [if_neg q, grd, if_pos (by omega)]⟩
/-- what stands where, behind k people -/
def RW (μ0 : Mem) (n k : Nat) (ν : Mem) : Prop :=
  (ν 60 0 = (n : Int) ∧ ν 61 0 = 0 ∧ ν 14 0 = 40) ∧ (∀ c j, ¬ c = 60 → ¬ c = 61 → ¬ c = 10 → ¬ (c = 14 ∧ j = 0) → ν c j = μ0 c j) ∧ TX (fun j => ν 10 j) (ν 61 1) (fun i => ν 60 (1 + i)) (fun i => ν 61 (2 + i)) (fun i => ν 61 (8 + i)) k
