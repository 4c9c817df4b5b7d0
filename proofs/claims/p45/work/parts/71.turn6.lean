/-! A TURN: nights, who crosses, who first -/
theorem fst_spec {s : Mem} {i : Int} : ∀ M k : Nat, (fstS s i M k = -9 ∧ ∀ x : Nat, k ≤ x → x < k + M → ¬ hold (nitS s x) 0 = i) ∨ ∃ u : Nat, fstS s i M k = ((u + 1 : Nat) : Int) ∧ k ≤ u ∧ u < k + M ∧ hold (nitS s u) 0 = i ∧ ∀ x : Nat, k ≤ x → x < u → ¬ hold (nitS s x) 0 = i
  | 0, k => Or.inl ⟨rfl, fun x h1 h2 => absurd h2 (by omega)⟩
  | M + 1, k => by
    rw [fstS]
    by_cases q : hold (nitS s k) 0 = i
    · rw [if_pos q]
      exact Or.inr ⟨k, rfl, by omega, by omega, q, fun x h1 h2 => absurd h2 (by omega)⟩
    · rw [if_neg q]
      rcases fst_spec (s := s) (i := i) M (k + 1) with ⟨h1, h2⟩ | ⟨u, h1, h2, h3, h4, h5⟩
      · refine Or.inl ⟨h1, fun x h3 h4 => ?_⟩
        by_cases e : x = k
        · rw [e]; exact q
        · exact h2 x (by omega) (by omega)
      · refine Or.inr ⟨u, h1, by omega, by omega, h4, fun x h6 h7 => ?_⟩
        by_cases e : x = k
        · rw [e]; exact q
        · exact h5 x (by omega) h7
theorem bnd_nit {s : Mem} {m : Nat} (h : bnd m s) : ∀ k, m + k ≤ 1000 → bnd (m + k) (nitS s k)
  | 0, _ => h
  | k + 1, hk => bnd_night (bnd_nit h k (by omega)) (show m + k ≤ 1000 by omega)
def cx (s : Mem) (i k : Nat) : Int := nitS s k 4 i - s 4 i
theorem cx_0 (s : Mem) (i : Nat) : cx s i 0 = 0 := Int.sub_self (s 4 i)
theorem cx_s {s : Mem} {m i : Nat} (h : bnd m s) (hi : (i : Int) < s 0 0) (k : Nat) (hk : m + k ≤ 900) : cx s i (k + 1) = cx s i k + (if hold (nitS s k) 0 = (i : Int) then 1 else 0) := by
  have h1 := (bnd_nit h k (by omega)).2 i (by rw [nit_0]; exact hi)
  unfold cx
  rw [show nitS s (k + 1) = nightS (nitS s k) from rfl, night_4]
  by_cases q : hold (nitS s k) 0 = (i : Int)
  · rw [if_pos q.symm, if_pos q, w32_i (by omega)]
    omega
  · rw [if_neg (fun w => q w.symm), if_neg q]
    omega
theorem cx_z {s : Mem} {m i : Nat} (h : bnd m s) (hi : (i : Int) < s 0 0) : ∀ k : Nat, m + k ≤ 900 → (0 ≤ cx s i k ∧ cx s i k ≤ k) ∧ (cx s i k = 0 ↔ ∀ x : Nat, x < k → ¬ hold (nitS s x) 0 = (i : Int))
  | 0, _ => ⟨by rw [cx_0]; omega, fun _ x hx => absurd hx (by omega), fun _ => cx_0 s i⟩
  | k + 1, hk => by
    obtain ⟨h1, h2⟩ := cx_z h hi k (by omega)
    rw [cx_s h hi k (by omega)]
    by_cases q : hold (nitS s k) 0 = (i : Int)
    · rw [if_pos q]
      refine ⟨by omega, fun w => by omega, fun w => absurd q (w k (by omega))⟩
    · rw [if_neg q]
      refine ⟨by omega, fun w x hx => ?_, fun w => ?_⟩
      · by_cases e : x = k
        · rw [e]; exact q
        · exact h2.mp (by omega) x (by omega)
      · have := h2.mpr (fun x hx => w x (by omega))
        omega
section TURN
variable {σ : Scr} {self66 : Int → Mem → Option (Int × Mem)} {s0 s β μ : Mem} {m : Nat} {x61 x62 x63 : Int}
theorem q_c853 (hB : BF s0 m s β) (hS : Nx self66 x62 m s β) {K i : Nat} (hK : K ≤ 11) (hi : (i : Int) < s 0 0) (hN : Nw (m + K) (nitS s K) μ) (hT : St m β μ) (hD : LD s μ) :
    Ok (fL_law_c853 σ self66 (s 0 0) x61 x62 x63 (m : Int) (s 0 2) (s 0 1) (alS s) (cr s) (hold s 0) (K : Int) (nitS s K 0 1) (whoS s K) (i : Int) (cx s i K) (fstS s (i : Int) 40 0) (cx s i K) (whoS s K) μ) := by
  obtain ⟨hg, g1, g6⟩ := BF_g hB
  have m12 : m ≤ 12 := hB.2.1.2
  have hb : bnd m s := hB.1.2.2.2.1
  have hz := cx_z hb hi K (by omega)
  obtain ⟨ν, a1, a2, a3, a4⟩ := B_undo hB hN (by omega) (by omega) hT
  obtain ⟨ν2, b1, b2, b3⟩ := C_where (m := 0) a2 (by omega) g1
  have b1' : fX1_where 0 ν = some (s 0 1, ν2) := b1
  have hN2 := Nw_q a2 b3
  obtain ⟨ν3, c1, c2⟩ := C_crosses (m := 0) hN2 (by omega) hi
  have e0 : w32 (nitS s 0 4 i - s 4 i) = 0 := by
    show w32 (s 4 i - s 4 i) = 0
    rw [Int.sub_self]
    rfl
  rw [e0] at c1
  clear e0
  have c1' : fX1_crosses (i : Int) 0 ν2 = some (0, ν3) := c1
  have tail : Ok (bnd2 (fX1_undo (m : Int) μ) fun x210 μ211 => if ¬ x210 = (K : Int) then some (0, μ211) else bnd2 (fX1_where 0 μ211) fun x212 μ213 => if ¬ x212 = s 0 1 then some (0, μ213) else bnd2 (fX1_crosses (i : Int) 0 μ213) fun x214 μ215 => if x214 = 0 then fL_law_c946 σ self66 (s 0 0) x61 x62 x63 (m : Int) (s 0 2) (s 0 1) (alS s) (cr s) (hold s 0) (i : Int) μ215 else some (0, μ215)) := by
    rw [a1, bnd2_some, if_neg (by omega), b1', bnd2_some, if_neg (fun w => w rfl), c1', bnd2_some, if_pos rfl]
    exact q_c946 hB hS (Nw_q hN2 c2) (St_q (St_q a3 b3) c2) (LD_q (LD_q (LD_d hD a4) b3) c2) hi
  have hf := fst_spec (s := s) (i := (i : Int)) 40 0
  generalize fstS s (i : Int) 40 0 = f at *
  have hfr : f = -9 ∨ 1 ≤ f ∧ f ≤ 40 := by
    rcases hf with ⟨h1, -⟩ | ⟨u, h1, h2, h3, -⟩ <;> omega
  have hfk : 1 ≤ f → f ≤ (K : Int) → ¬ cx s i K = 0 := fun w1 w2 w3 => by
    rcases hf with ⟨h1, -⟩ | ⟨u, h1, h2, h3, h4, -⟩
    · omega
    · exact hz.2.mp w3 u (by omega) h4
  unfold fL_law_c853
  rw [C_cnt3 hN, bd_some, if_neg (fun w => w rfl), if_neg (fun w => w rfl), if_neg (fun w => w rfl), if_neg (by omega), if_neg (by omega), if_neg (by omega), mlet_e]
  by_cases q1 : f ≤ 0
  · rw [if_pos q1]
    exact tail
  · rw [if_neg q1]
    by_cases q2 : (K : Int) < f
    · rw [if_pos q2]
      exact tail
    · rw [if_neg q2, if_neg (hfk (by omega) (by omega))]
      exact tail
theorem q_L793 (hB : BF s0 m s β) (hS : Nx self66 x62 m s β) {K i : Nat} (hK : K ≤ 11) (hi : (i : Int) < s 0 0) :
    ∀ (j k N : Nat) (μ : Mem), k + j = K → j < N → Nw (m + k) (nitS s k) μ → St m β μ → LD s μ →
    Ok (fL_law_L793 (K : Int) σ self66 (s 0 0) x61 x62 x63 (m : Int) (s 0 2) (s 0 1) (alS s) (cr s) (hold s 0) (nitS s K 0 1) (whoS s K) (i : Int) (cx s i K) (fstS s (i : Int) 40 0) N (cx s i k) (whoS s k) (k : Int) μ) := by
  obtain ⟨hg, g1, g6⟩ := BF_g hB
  have m12 : m ≤ 12 := hB.2.1.2
  have hb : bnd m s := hB.1.2.2.2.1
  intro j
  induction j with
  | zero =>
    intro k N μ e1 e2 hN hT hD
    obtain ⟨N, rfl⟩ : ∃ j, N = j + 1 := ⟨N - 1, by omega⟩
    obtain rfl : k = K := by omega
    rw [fL_law_L793, if_pos (by omega)]
    exact q_c853 hB hS hK hi hN hT hD
  | succ j ih =>
    intro k N μ e1 e2 hN hT hD
    obtain ⟨N, rfl⟩ : ∃ j, N = j + 1 := ⟨N - 1, by omega⟩
    obtain ⟨ν, a1, a2, a3, a4⟩ := C_night hN (by omega) (by rw [nit_0]; exact g1)
    have ih' := ih (k + 1) N ν (by omega) (by omega) a2 (St_d hT (by omega) a4) (LD_d hD a4)
    have ecx := cx_s hb hi k (by omega)
    have hz := cx_z hb hi k (by omega)
    have ew : whoS s (k + 1) = hold (nitS s k) 0 := rfl
    have hfs := fst_spec (s := s) (i := (i : Int)) 40 0
    rw [ew] at ih'
    generalize fstS s (i : Int) 40 0 = f at *
    rw [fL_law_L793, if_neg (by omega), a1, bnd2_some]
    simp only [mlet_e]
    rw [w32_s (by omega)]
    by_cases q : hold (nitS s k) 0 = (i : Int)
    · rw [if_pos q] at ecx
      rw [if_neg (fun w => w q), w32_i (by omega), ← ecx, if_neg (fun w => w q)]
      by_cases q1 : cx s i (k + 1) = 1
      · have hfk : f = ((k + 1 : Nat) : Int) := by
          rcases hfs with ⟨h1, h2⟩ | ⟨u, h1, h2, h3, h4, h5⟩
          · exact absurd q (h2 k (by omega) (by omega))
          · have u1 : ¬ u < k := fun w => hz.2.mp (by omega) u w h4
            have u2 : ¬ k < u := fun w => h5 k (by omega) w q
            omega
        rw [if_neg (fun w => w q1), if_pos hfk]
        exact ih'
      · rw [if_pos q1]
        exact ih'
    · rw [if_neg q] at ecx
      rw [if_pos q, w32_i (by omega), ← ecx, if_pos q]
      exact ih'
theorem q_c731 (hB : BF s0 m s β) (hS : Nx self66 x62 m s β) (hN : Nw m s μ) (hT : St m β μ) (hD : LD s μ) :
    Ok (fL_law_c731 σ self66 (s 0 0) x61 x62 x63 (m : Int) (s 0 2) (s 0 1) (alS s) (cr s) (hold s 0) μ) := by
  obtain ⟨hg, g1, g6⟩ := BF_g hB
  have m12 : m ≤ 12 := hB.2.1.2
  have hb : bnd m s := hB.1.2.2.2.1
  obtain ⟨n, hn⟩ : ∃ n : Nat, s 0 0 = (n : Int) := ⟨(s 0 0).toNat, by omega⟩
  obtain ⟨K, a1, a2⟩ := L_low (x := x63) (n := 12) (μ := μ) (by omega)
  have a1' : fL_low x63 12 μ = some (K : Int) := a1
  obtain ⟨ν, b1, b2, b3⟩ := C_where (m := K) hN (by omega) g1
  obtain ⟨i, c1, c2⟩ := L_low (x := bshr x63 4) (n := n) (μ := ν) (by omega)
  have c1' : fL_low (bshr x63 4) (s 0 0) ν = some (i : Int) := by
    rw [hn]
    exact c1
  have hi : (i : Int) < s 0 0 := by omega
  have hN1 := Nw_q hN b3
  obtain ⟨ν2, d1, d2⟩ := C_crosses (m := K) hN1 (by omega) hi
  have hN2 := Nw_q hN1 d2
  obtain ⟨ν3, f1, f2⟩ := C_first hN2 hi
  have hz := (cx_z hb hi K (by omega)).1
  have ex : w32 (nitS s K 4 i - s 4 i) = cx s i K := w32_i (by unfold cx at hz; omega)
  rw [ex] at d1
  clear ex
  have hf := fuel_lt
  have main := q_L793 (σ := σ) (x61 := x61) (x63 := x63) hB hS (K := K) (by omega) hi K 0 fuel ν3 (by omega) (by omega) (Nw_q hN2 f2) (St_q (St_q (St_q hT b3) d2) f2) (LD_q (LD_q (LD_q hD b3) d2) f2)
  rw [cx_0] at main
  unfold fL_law_c731 fX1_asked
  rw [a1', bd_some, b1, bnd2_some, bd_some, b2, c1', bd_some, d1, bnd2_some, f1, bnd2_some]
  exact main
end TURN
