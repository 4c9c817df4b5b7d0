/-! darings, kinds -/
def gosS (s : Mem) (ρ : Nat → Int) : Nat → Nat → Int
  | 0, _ => 1
  | m + 1, k => if hold (nitS s k) 0 = ρ k then gosS s ρ m (k + 1) else 0
theorem gos_01 (s : Mem) (ρ : Nat → Int) : ∀ m k, gosS s ρ m k = 0 ∨ gosS s ρ m k = 1
  | 0, _ => Or.inr rfl
  | m + 1, k => by
    unfold gosS
    split
    · exact gos_01 s ρ m (k + 1)
    · exact Or.inl rfl
theorem e_goes_L {s : Mem} {r n : Nat} {ρ : Nat → Int} (hr : r < 6) (hn : n ≤ 40) (hg : GB s) : ∀ (m k N : Nat) (μ : Mem), k + m = n → m < N → CB 25 μ (nitS s k) → μ 8 r = (n : Int) → (∀ j, j < n → μ (2 + r) j = ρ j) → Ev (fX1_goesAsideBy_L2 (r : Int) N (k : Int) μ) fun q => q.1 = gosS s ρ m k ∧ ∀ c k, c < 25 ∨ 29 < c → q.2 c k = μ c k := by
  intro m
  induction m with
  | zero =>
    intro k N μ h1 h2 h3 h4 h5
    obtain ⟨N, rfl⟩ : ∃ j, N = j + 1 := ⟨N - 1, by omega⟩
    rw [fX1_goesAsideBy_L2]
    simp (disch := omega) only [grd, if_pos, tn_c]
    exact ev_some.mpr ⟨rfl, fun _ _ _ => rfl⟩
  | succ m ih =>
    intro k N μ h1 h2 h3 h4 h5
    obtain ⟨N, rfl⟩ : ∃ j, N = j + 1 := ⟨N - 1, by omega⟩
    rw [fX1_goesAsideBy_L2]
    simp (disch := omega) only [grd, if_pos, if_neg, tn_c, ev_bnd2, mlet_e, w32_s]
    refine ev_mono (e_passNight h3 (GB_nit hg k)) (fun q hq => ?_)
    obtain ⟨q1, q2, q3⟩ := hq
    rw [q1, q3 (2 + r) k (by omega), h5 k (by omega), gosS]
    by_cases z : hold (nitS s k) 0 = ρ k
    · rw [if_pos z, if_pos z]
      refine ev_mono (ih (k + 1) N q.2 (by omega) (by omega) q2 (by rw [q3 _ _ (by omega)]; exact h4) (fun j hj => by rw [q3 _ _ (by omega)]; exact h5 j hj)) (fun t ht => ⟨ht.1, fun c k hc => ?_⟩)
      rw [ht.2 _ _ hc, q3 _ _ (by omega)]
    · rw [if_neg z, if_neg z]
      exact ev_some.mpr ⟨rfl, q3⟩
theorem e_goes {s μ : Mem} {r n : Nat} {ρ : Nat → Int} (hr : r < 6) (hn : n ≤ 40) (hg : GB s) (h3 : CB 25 μ s) (h4 : μ 8 r = (n : Int)) (h5 : ∀ j, j < n → μ (2 + r) j = ρ j) : Ev (fX1_goesAsideBy (r : Int) μ) fun q => q.1 = gosS s ρ n 0 ∧ ∀ c k, c < 25 ∨ 29 < c → q.2 c k = μ c k := by
  unfold fX1_goesAsideBy
  have hf := fuel_lt
  generalize fuel = N at hf ⊢
  exact e_goes_L hr hn hg n 0 N μ (by omega) (by omega) h3 h4 h5
theorem bor_ok {x y : Int} : okI (bor x y) := toI_ok _
theorem bor_0 {x : Int} (h : okI x) : bor x 0 = x := by
  unfold bor
  rw [show Int32.ofInt 0 = 0 from rfl, Int32.or_zero, tiK h]
/-- a set of numbers: those below k of which t says it -/
def setR (t : Nat → Int) : Nat → Int
  | 0 => 0
  | k + 1 => if t k = 0 then setR t k else bor (setR t k) (bshl 1 (k : Int))
theorem setR_ok (t : Nat → Int) : ∀ k, okI (setR t k)
  | 0 => ok0
  | k + 1 => by
    unfold setR
    split
    · exact setR_ok t k
    · exact bor_ok
theorem e_darBy_L {s : Mem} {i r n : Nat} {ρ : Nat → Int} (hr : r < 6) (hn : n ≤ 40) (hg : GB s) (hi : (i : Int) < s 0 0) : ∀ (m k N : Nat) (μ : Mem), k + m = 21 → m < N → CB 20 μ s → μ 8 r = (n : Int) → (∀ j, j < n → μ (2 + r) j = ρ j) → Ev (fX1_daringsBy_L5 (i : Int) (r : Int) N (setR (fun d => gosS (wr s 3 i (d : Int)) ρ n 0) k) (k : Int) μ) fun q => q.1 = setR (fun d => gosS (wr s 3 i (d : Int)) ρ n 0) 21 ∧ ∀ c k, c < 25 ∨ 29 < c → q.2 c k = μ c k := by
  have g6 := hg.2.1
  intro m
  induction m with
  | zero =>
    intro k N μ h1 h2 h3 h4 h5
    obtain ⟨N, rfl⟩ : ∃ j, N = j + 1 := ⟨N - 1, by omega⟩
    obtain rfl : k = 21 := by omega
    rw [fX1_daringsBy_L5, if_pos (by omega)]
    exact ev_some.mpr ⟨rfl, fun _ _ _ => rfl⟩
  | succ m ih =>
    intro k N μ h1 h2 h3 h4 h5
    obtain ⟨N, rfl⟩ : ∃ j, N = j + 1 := ⟨N - 1, by omega⟩
    obtain ⟨μa, a1, a2, a3⟩ := e_become (b := 25) (b' := 20) (by omega) h3 hg
    rw [fX1_daringsBy_L5]
    simp (disch := omega) only [grd, if_pos, if_neg, tn_c, a1, bd_some, mlet_e, ev_bnd2, w32_s]
    refine ev_mono (e_goes (n := n) (ρ := ρ) hr hn (GB_wr3 hg (i := i) (v := (k : Int)) (by omega)) (CB_wr3 (b := 25) a2) (by rw [wr_ne (by omega), a3 _ _ (by omega)]; exact h4) (fun j hj => by rw [wr_ne (by omega), a3 _ _ (by omega)]; exact h5 j hj)) (fun q hq => ?_)
    obtain ⟨q1, q3⟩ := hq
    have f : ∀ c k, c < 25 ∨ 29 < c → q.2 c k = μ c k := fun c k hc => by
      rw [q3 _ _ hc, wr_ne (by omega), a3 _ _ (by omega)]
    have nx := ih (k + 1) N q.2 (by omega) (by omega) (CB_congr h3 (fun c k hc => f _ _ (by omega))) (by rw [f _ _ (by omega)]; exact h4) (fun j hj => by rw [f _ _ (by omega)]; exact h5 j hj)
    have nx' := ev_mono nx (fun t ht => (⟨ht.1, fun c k hc => by rw [ht.2 _ _ hc, f _ _ hc]⟩ : t.1 = setR (fun d => gosS (wr s 3 i (d : Int)) ρ n 0) 21 ∧ ∀ c k, c < 25 ∨ 29 < c → t.2 c k = μ c k))
    rw [q1]
    by_cases z : gosS (wr s 3 i (k : Int)) ρ n 0 = 0
    · rw [if_pos z]
      rw [setR, if_pos z] at nx'
      exact nx'
    · rw [if_neg z]
      rw [setR, if_neg z] at nx'
      exact nx'
theorem e_darBy {s μ : Mem} {i r n : Nat} {ρ : Nat → Int} (hr : r < 6) (hn : n ≤ 40) (hg : GB s) (hi : (i : Int) < s 0 0) (h3 : CB 20 μ s) (h4 : μ 8 r = (n : Int)) (h5 : ∀ j, j < n → μ (2 + r) j = ρ j) : Ev (fX1_daringsBy (i : Int) (r : Int) μ) fun q => q.1 = setR (fun d => gosS (wr s 3 i (d : Int)) ρ n 0) 21 ∧ ∀ c k, c < 25 ∨ 29 < c → q.2 c k = μ c k := by
  unfold fX1_daringsBy
  have hf := fuel_lt
  generalize fuel = N at hf ⊢
  exact e_darBy_L hr hn hg hi 21 0 N μ (by omega) (by omega) h3 h4 h5
