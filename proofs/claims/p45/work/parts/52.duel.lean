/-! duel -/
def upS (s : Mem) (w : Nat) (y : Int) : Mem := wr s 3 w (mmin 20 (s 3 w + y))
def outS (s : Mem) (i j : Int) : Int := if hold s 0 = i then 1 else if hold s 0 = j then -1 else 0
def vS (i j : Nat) : Nat → Mem → Int
  | 0, s => outS s (i : Int) (j : Int)
  | t + 1, s => if (t + 1) % 2 = 0 then mmax (mmax (mmax (-1) (vS i j t (upS s i 0))) (vS i j t (upS s i 1))) (vS i j t (upS s i 2)) else mmin (mmin (mmin 1 (vS i j t (upS s j 0))) (vS i j t (upS s j 1))) (vS i j t (upS s j 2))
theorem vS_rng (i j : Nat) : ∀ t s, -1 ≤ vS i j t s ∧ vS i j t s ≤ 1
  | 0, s => by
    unfold vS outS
    split
    · omega
    · split <;> omega
  | t + 1, s => by
    have h0 := vS_rng i j t (upS s i 0)
    have h1 := vS_rng i j t (upS s i 1)
    have h2 := vS_rng i j t (upS s i 2)
    have h3 := vS_rng i j t (upS s j 0)
    have h4 := vS_rng i j t (upS s j 1)
    have h5 := vS_rng i j t (upS s j 2)
    unfold vS mmax mmin
    split <;> (repeat' split) <;> omega
theorem wr_wr {μ : Mem} {c k : Nat} {u v : Int} : wr (wr μ c k u) c k v = wr μ c k v := by
  funext a b
  by_cases h : a = c ∧ b = k
  · rw [wr_at h, wr_at h]
  · rw [wr_ne h, wr_ne h, wr_ne h]
theorem wr_id {μ : Mem} {c k : Nat} {v : Int} (h : v = μ c k) : wr μ c k v = μ := by
  funext a b
  by_cases q : a = c ∧ b = k
  · rw [wr_at q, h, q.1, q.2]
  · rw [wr_ne q]
theorem GB_up {s : Mem} {w : Nat} {y : Int} (hg : GB s) (hw : (w : Int) < s 0 0) (hy : 0 ≤ y) : GB (upS s w y) := by
  obtain ⟨-, -, g3⟩ := hg.2.2.2.2 w hw
  refine GB_wr3 hg ?_
  unfold mmin
  split <;> omega
theorem e_outcome {b i j : Nat} : ∀ (t N : Nat) (μ s : Mem), t < N → t ≤ 6 → CB b μ s → GB s → (i : Int) < s 0 0 → (j : Int) < s 0 0 → fX1_outcome_N N b (i : Int) (j : Int) (t : Int) μ = some (vS i j t s, μ) := by
  intro t
  induction t with
  | zero =>
    intro N μ s h1 h2 hc hg hi hj
    obtain ⟨N, rfl⟩ : ∃ j, N = j + 1 := ⟨N - 1, by omega⟩
    rw [fX1_outcome_N]
    unfold fX1_outcome_B
    rw [if_neg (by omega), e_holder hc hg, bd_some, vS]
    unfold outS
    by_cases z1 : hold s 0 = (i : Int)
    · rw [if_neg (by omega), if_pos z1]
    · rw [if_pos z1, if_neg z1]
      by_cases z2 : hold s 0 = (j : Int)
      · rw [if_neg (by omega), if_pos z2]
      · rw [if_pos z2, if_neg z2]
  | succ t ih =>
    intro N μ s h1 h2 hc hg hi hj
    obtain ⟨N, rfl⟩ : ∃ j, N = j + 1 := ⟨N - 1, by omega⟩
    have g6 := hg.2.1
    -- one's three ways
    have way : ∀ (w : Nat) (K : Int → Mem → Option (Int × Mem)) (F : Nat) (x : Int) (f : Int), (w : Int) < s 0 0 → 5 < F → fX1_outcome_L82 K (w : Int) b (s 3 w) (fX1_outcome_N N) (i : Int) (j : Int) ((t + 1 : Nat) : Int) f F x 0 μ = (if f = 0 then K (mmin (mmin (mmin x (vS i j t (upS s w 0))) (vS i j t (upS s w 1))) (vS i j t (upS s w 2))) (wr μ (b + 3) w (mmin 20 (s 3 w + 2))) else K (mmax (mmax (mmax x (vS i j t (upS s w 0))) (vS i j t (upS s w 1))) (vS i j t (upS s w 2))) (wr μ (b + 3) w (mmin 20 (s 3 w + 2)))) := by
      intro w K F x f hw hF
      obtain ⟨-, -, g3⟩ := hg.2.2.2.2 w hw
      obtain ⟨F, rfl⟩ : ∃ j, F = j + 4 := ⟨F - 4, by omega⟩
      have run : ∀ y : Int, 0 ≤ y → fX1_outcome_N N b (i : Int) (j : Int) (t : Int) (wr μ (b + 3) w (mmin 20 (s 3 w + y))) = some (vS i j t (upS s w y), wr μ (b + 3) w (mmin 20 (s 3 w + y))) := fun y hy => ih N _ (upS s w y) (by omega) (by omega) (CB_wr3 hc) (GB_up hg hw hy) (by unfold upS; rw [wr_ne (by omega)]; exact hi) (by unfold upS; rw [wr_ne (by omega)]; exact hj)
      have et : w32 (((t + 1 : Nat) : Int) - 1) = (t : Int) := by rw [w32_i (by omega)]; omega
      have e1 : w32 (0 + 1) = 1 := by decide
      have e2 : w32 (1 + 1) = 2 := by decide
      have e3 : w32 (2 + 1) = 3 := by decide
      have a0 : w32 (s 3 w + 0) = s 3 w + 0 := w32_i (by omega)
      have a1 : w32 (s 3 w + 1) = s 3 w + 1 := w32_i (by omega)
      have a2 : w32 (s 3 w + 2) = s 3 w + 2 := w32_i (by omega)
      have cw : 0 ≤ (w : Int) ∧ (w : Int) < 6 := by omega
      by_cases z : f = 0
      · subst z
        rw [fX1_outcome_L82, if_neg (by omega)]
        simp only [grd, if_pos cw, tn_c, mlet_e, et, a0, run 0 (by omega), bnd2_some, e1, if_true]
        rw [fX1_outcome_L82, if_neg (by omega)]
        simp only [grd, if_pos cw, tn_c, mlet_e, et, a1, wr_wr, run 1 (by omega), bnd2_some, e2, if_true]
        rw [fX1_outcome_L82, if_neg (by omega)]
        simp only [grd, if_pos cw, tn_c, mlet_e, et, a2, wr_wr, run 2 (by omega), bnd2_some, e3, if_true]
        rw [fX1_outcome_L82, if_pos (by omega)]
      · rw [fX1_outcome_L82, if_neg (by omega)]
        simp only [grd, if_pos cw, tn_c, mlet_e, et, a0, run 0 (by omega), bnd2_some, e1, if_neg z]
        rw [fX1_outcome_L82, if_neg (by omega)]
        simp only [grd, if_pos cw, tn_c, mlet_e, et, a1, wr_wr, run 1 (by omega), bnd2_some, e2, if_neg z]
        rw [fX1_outcome_L82, if_neg (by omega)]
        simp only [grd, if_pos cw, tn_c, mlet_e, et, a2, wr_wr, run 2 (by omega), bnd2_some, e3, if_neg z]
        rw [fX1_outcome_L82, if_pos (by omega)]
    rw [fX1_outcome_N]
    unfold fX1_outcome_B
    have hf := fuel_lt
    generalize fuel = F at hf ⊢
    have em : ((t + 1 : Nat) : Int).tmod 2 = (((t + 1) % 2 : Nat) : Int) := tmod_nat (t + 1) 2
    rw [if_pos (by omega), em]
    clear em
    simp only [mlet_e]
    rw [vS]
    by_cases z : (t + 1) % 2 = 0
    · obtain ⟨c1, c2, c3, c4⟩ := hc.2.2.2 i hi
      rw [if_neg (by omega), if_neg (by omega), if_pos z]
      have cw : 0 ≤ (i : Int) ∧ (i : Int) < 6 := by omega
      simp only [grd, if_pos cw, tn_c, c3]
      rw [if_neg (by omega), way i _ F (-1) 1 hi (by omega), if_neg (by omega), wr_wr, wr_id c3.symm]
    · obtain ⟨c1, c2, c3, c4⟩ := hc.2.2.2 j hj
      rw [if_pos (by omega), if_neg z]
      have cw : 0 ≤ (j : Int) ∧ (j : Int) < 6 := by omega
      simp only [grd, if_pos cw, tn_c, c3, if_true]
      rw [way j _ F 1 0 hj (by omega), if_pos rfl, wr_wr, wr_id c3.symm]
/-! the model's table -/
def stS (s : Mem) (i j : Nat) (a b : Nat) : Mem := wr (wr s 3 i (mmin 20 (s 3 i + (a : Int)))) 3 j (mmin 20 (s 3 j + (b : Int)))
theorem stS_i {s : Mem} {i j a b : Nat} {y : Nat} (hij : ¬ i = j) (h : 0 ≤ s 3 i) : upS (stS s i j a b) i (y : Int) = stS s i j (a + y) b := by
  unfold upS stS
  have e : mmin 20 (mmin 20 (s 3 i + (a : Int)) + (y : Int)) = mmin 20 (s 3 i + ((a + y : Nat) : Int)) := by
    unfold mmin
    repeat' split
    all_goals omega
  rw [wr_ne (by omega), wr_at (by omega), e, wr_comm (by omega), wr_wr]
theorem stS_j {s : Mem} {i j a b : Nat} {y : Nat} (hij : ¬ i = j) (h : 0 ≤ s 3 j) : upS (stS s i j a b) j (y : Int) = stS s i j a (b + y) := by
  unfold upS stS
  have e : mmin 20 (mmin 20 (s 3 j + (b : Int)) + (y : Int)) = mmin 20 (s 3 j + ((b + y : Nat) : Int)) := by
    unfold mmin
    repeat' split
    all_goals omega
  rw [wr_at (by omega), e, wr_wr]
theorem stS_capI {s : Mem} {i j a a' b : Nat} (h : 20 ≤ s 3 i + (a : Int)) (h' : 20 ≤ s 3 i + (a' : Int)) : stS s i j a b = stS s i j a' b := by
  unfold stS
  have e : mmin 20 (s 3 i + (a : Int)) = mmin 20 (s 3 i + (a' : Int)) := by
    unfold mmin
    rw [if_neg (by omega), if_neg (by omega)]
  rw [e]
theorem stS_capJ {s : Mem} {i j a b b' : Nat} (h : 20 ≤ s 3 j + (b : Int)) (h' : 20 ≤ s 3 j + (b' : Int)) : stS s i j a b = stS s i j a b' := by
  unfold stS
  have e : mmin 20 (s 3 j + (b : Int)) = mmin 20 (s 3 j + (b' : Int)) := by
    unfold mmin
    rw [if_neg (by omega), if_neg (by omega)]
  rw [e]
