/-! cheap -/
theorem dar_rng {k d num f : Int} (hd : 0 ≤ d ∧ d ≤ 1000) (hf : 0 ≤ f) : 0 ≤ dar k d num f ∧ dar k d num f ≤ 2003 := by
  have h1 := fe_rng hd
  have h2 := be_rng hf
  unfold dar
  split
  · split <;> omega
  · split
    · omega
    · split
      · omega
      · split
        · split <;> omega
        · omega
def nrS (s : Mem) (i j : Nat) : Prop := far s i < far s j ∨ (far s i = far s j ∧ i < j)
def mstS (s : Mem) (i : Nat) (u : Int) : Int := dar (s 1 i) (s 3 i + u) (s 0 2) (far s i)
def shL (s : Mem) (i : Nat) (most : Int) (j : Nat) : Nat → Nat → Int
  | 0, _ => -9
  | m + 1, k => if dar (s 1 j) (s 3 j - (k : Int)) (s 0 2) (far s j) < most ∨ (dar (s 1 j) (s 3 j - (k : Int)) (s 0 2) (far s j) = most ∧ (far s i < far s j ∨ (far s i = far s j ∧ i < j))) then (k : Int) else shL s i most j m (k + 1)
theorem shL_rng (s : Mem) (i : Nat) (most : Int) (j : Nat) : ∀ m k, shL s i most j m k = -9 ∨ (0 ≤ shL s i most j m k ∧ shL s i most j m k < ((k + m : Nat) : Int))
  | 0, _ => Or.inl rfl
  | m + 1, k => by
    unfold shL
    split
    · exact Or.inr ⟨by omega, by omega⟩
    · rcases shL_rng s i most j m (k + 1) with h | h
      · exact Or.inl h
      · exact Or.inr ⟨h.1, by omega⟩
def shr (s : Mem) (i : Nat) (u : Int) (j : Nat) : Int := if j = i then u else shL s i (mstS s i u) j (s 3 j + 1).toNat 0
def pcL (s : Mem) (i : Nat) (u : Int) : Nat → Int
  | 0 => u
  | k + 1 => if pcL s i u k = -9 then -9 else if shr s i u k = -9 then -9 else pcL s i u k + (if k = i then 0 else shr s i u k)
def pcS (s : Mem) (i : Nat) (u : Int) : Int := if mstS s i u = 0 then -9 else pcL s i u (s 0 0).toNat
theorem shr_rng {s : Mem} {i j : Nat} {u : Int} (hg : GB s) (hj : (j : Int) < s 0 0) (hu : 0 ≤ u ∧ u ≤ 20) : shr s i u j = -9 ∨ (0 ≤ shr s i u j ∧ shr s i u j ≤ 20) := by
  obtain ⟨-, -, g3⟩ := hg.2.2.2.2 j hj
  unfold shr
  split
  · exact Or.inr hu
  · rcases shL_rng s i (mstS s i u) j (s 3 j + 1).toNat 0 with h | h
    · exact Or.inl h
    · exact Or.inr ⟨h.1, by omega⟩
theorem pcL_rng {s : Mem} {i : Nat} {u : Int} (hg : GB s) (hu : 0 ≤ u ∧ u ≤ 20) : ∀ k : Nat, (k : Int) ≤ s 0 0 → pcL s i u k = -9 ∨ (0 ≤ pcL s i u k ∧ pcL s i u k ≤ 20 + 20 * k)
  | 0, _ => by unfold pcL; exact Or.inr ⟨hu.1, by omega⟩
  | k + 1, hk => by
    have h1 := pcL_rng (i := i) hg hu k (by omega)
    have h2 := shr_rng (i := i) (j := k) hg (by omega) hu
    unfold pcL
    split
    · exact Or.inl rfl
    · split
      · exact Or.inl rfl
      · split <;> omega
theorem pcL_up {s : Mem} {i : Nat} {u : Int} {k : Nat} (h : pcL s i u k = -9) : ∀ m, pcL s i u (k + m) = -9
  | 0 => h
  | m + 1 => by
    rw [show k + (m + 1) = k + m + 1 by omega, pcL, if_pos (pcL_up h m)]
theorem e_lsh {μ s : Mem} {i j : Nat} {most : Int} (hc : CB 20 μ s) (hg : GB s) (hi : (i : Int) < s 0 0) (hj : (j : Int) < s 0 0) : fX1_leastShame (j : Int) (i : Int) most μ = some (shL s i most j (s 3 j + 1).toNat 0) := by
  have g6 := hg.2.1
  obtain ⟨-, -, g3⟩ := hg.2.2.2.2 j hj
  obtain ⟨c1, c2, c3, c4⟩ := hc.2.2.2 j hj
  have hL : ∀ (m k N : Nat), s 3 j + 1 = k + m → m < N → fX1_leastShame_L14 (j : Int) μ most (b01 (far s i < far s j ∨ (far s i = far s j ∧ i < j))) N (k : Int) = some (shL s i most j m k) := by
    intro m
    induction m with
    | zero =>
      intro k N h1 h2
      obtain ⟨N, rfl⟩ : ∃ j, N = j + 1 := ⟨N - 1, by omega⟩
      rw [fX1_leastShame_L14]
      simp (disch := omega) only [grd, if_pos, tn_c, c3]
      rfl
    | succ m ih =>
      intro k N h1 h2
      obtain ⟨N, rfl⟩ : ∃ j, N = j + 1 := ⟨N - 1, by omega⟩
      have ih' := ih (k + 1) N (by omega) (by omega)
      rw [fX1_leastShame_L14]
      simp (disch := omega) only [grd, if_pos, if_neg, tn_c, c3, w32_i (z := s 3 j - (k : Int)), e_boldAt hc hg hj, bd_some, mlet_e, w32_s, b01_0]
      rw [shL]
      by_cases z1 : dar (s 1 j) (s 3 j - (k : Int)) (s 0 2) (far s j) < most
      · rw [if_pos z1, if_pos (Or.inl z1)]
      · rw [if_neg z1]
        by_cases z2 : dar (s 1 j) (s 3 j - (k : Int)) (s 0 2) (far s j) = most
        · rw [if_neg (by omega)]
          by_cases z3 : far s i < far s j ∨ (far s i = far s j ∧ i < j)
          · rw [if_neg (fun w => w z3), if_pos (Or.inr ⟨z2, z3⟩)]
          · rw [if_pos z3, if_neg (fun w => by rcases w with w | w; exact z1 w; exact z3 w.2)]
            exact ih'
        · rw [if_pos z2, if_neg (fun w => by rcases w with w | w; exact z1 w; exact z2 w.1)]
          exact ih'
  unfold fX1_leastShame
  have hf := fuel_lt
  generalize fuel = N at hf ⊢
  rw [e_behind hc hg hi hj, bd_some]
  exact hL (s 3 j + 1).toNat 0 N (by omega) (by omega)
theorem e_price {μ s : Mem} {i : Nat} {u : Int} (hc : CB 20 μ s) (hg : GB s) (hi : (i : Int) < s 0 0) (hu : 0 ≤ u ∧ s 3 i + u ≤ 20) : Ev (fX1_priceByShares (i : Int) u μ) fun q => q.1 = pcS s i u ∧ (¬ pcS s i u = -9 → ∀ j : Nat, (j : Int) < s 0 0 → q.2 37 j = shr s i u j) ∧ ∀ c k, ¬ c = 37 → q.2 c k = μ c k := by
  have g0 := hg.1
  have g6 := hg.2.1
  obtain ⟨-, -, g3⟩ := hg.2.2.2.2 i hi
  obtain ⟨c1, c2, c3, c4⟩ := hc.2.2.2 i hi
  have hu2 : 0 ≤ u ∧ u ≤ 20 := by omega
  have hL : ∀ (m k N : Nat) (ν : Mem), k + m = (s 0 0).toNat → m < N → (∀ c k, ¬ c = 37 → ν c k = μ c k) → ¬ pcL s i u k = -9 → (∀ j, j < k → ν 37 j = shr s i u j) → Ev (fX1_priceByShares_L33 (i : Int) (mstS s i u) u N (pcL s i u k) (k : Int) ν) fun q => q.1 = pcL s i u (s 0 0).toNat ∧ (¬ pcL s i u (s 0 0).toNat = -9 → ∀ j : Nat, (j : Int) < s 0 0 → q.2 37 j = shr s i u j) ∧ ∀ c k, ¬ c = 37 → q.2 c k = μ c k := by
    intro m
    induction m with
    | zero =>
      intro k N ν h1 h2 h3 h4 h5
      obtain ⟨N, rfl⟩ : ∃ j, N = j + 1 := ⟨N - 1, by omega⟩
      obtain rfl : k = (s 0 0).toNat := by omega
      rw [fX1_priceByShares_L33, h3 _ _ (by omega), hc.1, if_pos (by omega)]
      exact ev_some.mpr ⟨rfl, fun _ j hj => h5 j (by omega), h3⟩
    | succ m ih =>
      intro k N ν h1 h2 h3 h4 h5
      obtain ⟨N, rfl⟩ : ∃ j, N = j + 1 := ⟨N - 1, by omega⟩
      have hc' : CB 20 ν s := CB_congr hc (fun c k hk => h3 _ _ (by omega))
      have hr := pcL_rng (i := i) hg hu2 k (by omega)
      have hsr := shr_rng (i := i) (j := k) hg (by omega) hu2
      have main : ∀ y, y = shr s i u k → Ev (mlet (wr ν 37 k y) fun μ8 => if ¬ μ8 37 k = -9 then (if ¬ (k : Int) = (i : Int) then fX1_priceByShares_L33 (i : Int) (mstS s i u) u N (w32 (pcL s i u k + μ8 37 k)) ((k + 1 : Nat) : Int) μ8 else fX1_priceByShares_L33 (i : Int) (mstS s i u) u N (w32 (pcL s i u k + 0)) ((k + 1 : Nat) : Int) μ8) else some (-9, μ8)) fun q => q.1 = pcL s i u (s 0 0).toNat ∧ (¬ pcL s i u (s 0 0).toNat = -9 → ∀ j : Nat, (j : Int) < s 0 0 → q.2 37 j = shr s i u j) ∧ ∀ c k, ¬ c = 37 → q.2 c k = μ c k := by
        rintro y rfl
        rw [mlet_e, wr_at (by omega)]
        have f3 : ∀ c k', ¬ c = 37 → wr ν 37 k (shr s i u k) c k' = μ c k' := fun c k' hk => by rw [wr_ne (by omega), h3 _ _ hk]
        have f5 : ∀ j, j < k + 1 → wr ν 37 k (shr s i u k) 37 j = shr s i u j := fun j hj => by
          by_cases e : j = k
          · rw [e, wr_at (by omega)]
          · rw [wr_ne (by omega), h5 j (by omega)]
        by_cases z : shr s i u k = -9
        · rw [if_neg (by omega)]
          have e1 : pcL s i u (k + 1) = -9 := by rw [pcL, if_neg h4, if_pos z]
          have e2 : pcL s i u (s 0 0).toNat = -9 := by
            have := pcL_up e1 ((s 0 0).toNat - (k + 1))
            rw [show k + 1 + ((s 0 0).toNat - (k + 1)) = (s 0 0).toNat by omega] at this
            exact this
          exact ev_some.mpr ⟨e2.symm, fun w => absurd e2 w, f3⟩
        · rw [if_pos z]
          have e1 : pcL s i u (k + 1) = pcL s i u k + (if k = i then 0 else shr s i u k) := by rw [pcL, if_neg h4, if_neg z]
          have hne : ¬ pcL s i u (k + 1) = -9 := by
            rw [e1]
            split <;> omega
          have ih' := ih (k + 1) N _ (by omega) (by omega) f3 hne f5
          rw [e1] at ih'
          by_cases zi : k = i
          · rw [if_neg (by omega), w32_i (by omega)]
            rw [if_pos zi] at ih'
            exact ih'
          · rw [if_pos (by omega), w32_i (by omega)]
            rw [if_neg zi] at ih'
            exact ih'
      rw [fX1_priceByShares_L33, h3 20 4 (by omega), hc.1, if_neg (by omega)]
      simp (disch := omega) only [mlet_e, grd, if_pos, tn_c, w32_s]
      by_cases zi : k = i
      · rw [if_neg (by omega)]
        have := main u (by unfold shr; rw [if_pos zi])
        rw [mlet_e] at this
        exact this
      · rw [if_pos (by omega), e_lsh hc' hg hi (by omega), bd_some]
        have := main _ (show shL s i (mstS s i u) k (s 3 k + 1).toNat 0 = shr s i u k by unfold shr; rw [if_neg zi])
        rw [mlet_e, if_pos (show ¬ (k : Int) = (i : Int) by omega)] at this
        exact this
  unfold fX1_priceByShares
  have hf := fuel_lt
  generalize fuel = N at hf ⊢
  simp (disch := omega) only [grd, if_pos, tn_c, c3, w32_i (z := s 3 i + u), e_boldAt hc hg hi, bd_some]
  rw [show dar (s 1 i) (s 3 i + u) (s 0 2) (far s i) = mstS s i u from rfl]
  unfold pcS
  by_cases z : mstS s i u = 0
  · rw [if_neg (by omega), if_pos z]
    exact ev_some.mpr ⟨rfl, fun w => absurd rfl w, fun _ _ _ => rfl⟩
  · rw [if_pos z, if_neg z]
    exact hL (s 0 0).toNat 0 N μ (by omega) (by omega) (fun _ _ _ => rfl) (by unfold pcL; omega) (fun j hj => absurd hj (by omega))
/-! the model's side -/
theorem e_ahead {μ s : Mem} {i j : Nat} {most d : Int} (hM : MB 0 μ s) (hg : GB s) (hi : (i : Int) < s 0 0) (hj : (j : Int) < s 0 0) (hd : 0 ≤ d ∧ d ≤ 1000) : fX2_isAhead (i : Int) most (j : Int) d μ = some (b01 (dar (s 1 j) d (s 0 2) (far s j) < most ∨ (dar (s 1 j) d (s 0 2) (far s j) = most ∧ (far s i < far s j ∨ (far s i = far s j ∧ i < j))))) := by
  have g6 := hg.2.1
  have hf := far_rng hg hj
  have e1 := e_farOf2 (x := 0) (a := 0) rfl (by omega) hM hg hj
  have e2 := e_farOf2 (x := 0) (a := 0) rfl (by omega) hM hg hi
  obtain ⟨q1, q2, q3, q4⟩ := (MB_0 hM).2.2 j hj
  unfold fX2_isAhead
  simp (disch := omega) only [e1, e2, bd_some, grd, if_pos, tn_c, q1, (MB_0 hM).2.1, e_daresBy hd hf.1, mlet_e]
  generalize dar (s 1 j) d (s 0 2) (far s j) = x
  by_cases z1 : x < most
  · by_cases z2 : far s i < far s j
    · simp (disch := omega) only [bnd2_some, bd_some, b01_t, b01_f, if_pos, if_neg, mlet_e, grd, ite_true, ite_false, not_true_eq_false, not_false_eq_true, ite_self, tn_c, w32_i]
    · by_cases z3 : far s i = far s j
      · by_cases z4 : j ≤ i
        · simp (disch := omega) only [bnd2_some, bd_some, b01_t, b01_f, if_pos, if_neg, mlet_e, grd, ite_true, ite_false, not_true_eq_false, not_false_eq_true, ite_self, tn_c, w32_i]
        · simp (disch := omega) only [bnd2_some, bd_some, b01_t, b01_f, if_pos, if_neg, mlet_e, grd, ite_true, ite_false, not_true_eq_false, not_false_eq_true, ite_self, tn_c, w32_i]
      · simp (disch := omega) only [bnd2_some, bd_some, b01_t, b01_f, if_pos, if_neg, mlet_e, grd, ite_true, ite_false, not_true_eq_false, not_false_eq_true, ite_self, tn_c, w32_i]
  · by_cases z5 : x = most
    · by_cases z2 : far s i < far s j
      · simp (disch := omega) only [bnd2_some, bd_some, b01_t, b01_f, if_pos, if_neg, mlet_e, grd, ite_true, ite_false, not_true_eq_false, not_false_eq_true, ite_self, tn_c, w32_i]
      · by_cases z3 : far s i = far s j
        · by_cases z4 : j ≤ i
          · simp (disch := omega) only [bnd2_some, bd_some, b01_t, b01_f, if_pos, if_neg, mlet_e, grd, ite_true, ite_false, not_true_eq_false, not_false_eq_true, ite_self, tn_c, w32_i]
          · simp (disch := omega) only [bnd2_some, bd_some, b01_t, b01_f, if_pos, if_neg, mlet_e, grd, ite_true, ite_false, not_true_eq_false, not_false_eq_true, ite_self, tn_c, w32_i]
        · simp (disch := omega) only [bnd2_some, bd_some, b01_t, b01_f, if_pos, if_neg, mlet_e, grd, ite_true, ite_false, not_true_eq_false, not_false_eq_true, ite_self, tn_c, w32_i]
    · by_cases z2 : far s i < far s j
      · simp (disch := omega) only [bnd2_some, bd_some, b01_t, b01_f, if_pos, if_neg, mlet_e, grd, ite_true, ite_false, not_true_eq_false, not_false_eq_true, ite_self, tn_c, w32_i]
      · by_cases z3 : far s i = far s j
        · by_cases z4 : j ≤ i
          · simp (disch := omega) only [bnd2_some, bd_some, b01_t, b01_f, if_pos, if_neg, mlet_e, grd, ite_true, ite_false, not_true_eq_false, not_false_eq_true, ite_self, tn_c, w32_i]
          · simp (disch := omega) only [bnd2_some, bd_some, b01_t, b01_f, if_pos, if_neg, mlet_e, grd, ite_true, ite_false, not_true_eq_false, not_false_eq_true, ite_self, tn_c, w32_i]
        · simp (disch := omega) only [bnd2_some, bd_some, b01_t, b01_f, if_pos, if_neg, mlet_e, grd, ite_true, ite_false, not_true_eq_false, not_false_eq_true, ite_self, tn_c, w32_i]
theorem e_shm {μ s : Mem} {i j : Nat} {most : Int} (hM : MB 0 μ s) (hg : GB s) (hi : (i : Int) < s 0 0) (hj : (j : Int) < s 0 0) : fX2_shamed (i : Int) most (j : Int) μ = some (shL s i most j (s 3 j + 1).toNat 0) := by
  have g6 := hg.2.1
  obtain ⟨-, -, g3⟩ := hg.2.2.2.2 j hj
  obtain ⟨q1, q2, q3, q4⟩ := (MB_0 hM).2.2 j hj
  have hL : ∀ (m k N : Nat), s 3 j + 1 = k + m → m < N → fX2_shamed_L3 (j : Int) μ (i : Int) most N (k : Int) = some (shL s i most j m k) := by
    intro m
    induction m with
    | zero =>
      intro k N h1 h2
      obtain ⟨N, rfl⟩ : ∃ j, N = j + 1 := ⟨N - 1, by omega⟩
      rw [fX2_shamed_L3]
      simp (disch := omega) only [grd, if_pos, w32_i (z := 9 + (j : Int)), tn_9, q3]
      rfl
    | succ m ih =>
      intro k N h1 h2
      obtain ⟨N, rfl⟩ : ∃ j, N = j + 1 := ⟨N - 1, by omega⟩
      have ih' := ih (k + 1) N (by omega) (by omega)
      rw [fX2_shamed_L3]
      simp (disch := omega) only [grd, if_pos, if_neg, w32_i (z := 9 + (j : Int)), tn_9, q3, w32_i (z := s 3 j - (k : Int)), e_ahead hM hg hi hj, bd_some, mlet_e, w32_s, b01_0]
      rw [shL]
      by_cases z : dar (s 1 j) (s 3 j - (k : Int)) (s 0 2) (far s j) < most ∨ (dar (s 1 j) (s 3 j - (k : Int)) (s 0 2) (far s j) = most ∧ (far s i < far s j ∨ (far s i = far s j ∧ i < j)))
      · rw [if_neg (fun w => w z), if_pos z]
      · rw [if_pos z, if_neg z]
        exact ih'
  unfold fX2_shamed
  have hf := fuel_lt
  generalize fuel = N at hf ⊢
  exact hL (s 3 j + 1).toNat 0 N (by omega) (by omega)
def smL (s : Mem) (i : Nat) (u : Int) : Nat → Int
  | 0 => u
  | k + 1 => smL s i u k + (if shr s i u k = -9 then 99999 else if k = i then 0 else shr s i u k)
theorem smL_pc {s : Mem} {i : Nat} {u : Int} (hg : GB s) (hu : 0 ≤ u ∧ u ≤ 20) : ∀ k : Nat, (k : Int) ≤ s 0 0 → 0 ≤ smL s i u k ∧ smL s i u k ≤ 20 + 100000 * k ∧ (pcL s i u k = -9 → 99999 ≤ smL s i u k) ∧ (¬ pcL s i u k = -9 → smL s i u k = pcL s i u k)
  | 0, _ => by unfold smL pcL; exact ⟨hu.1, by omega, by omega, fun _ => rfl⟩
  | k + 1, hk => by
    obtain ⟨h1, h2, h3, h4⟩ := smL_pc (i := i) hg hu k (by omega)
    have h5 := shr_rng (i := i) (j := k) hg (by omega) hu
    have h6 := pcL_rng (i := i) hg hu k (by omega)
    unfold smL pcL
    by_cases z1 : pcL s i u k = -9
    · have := h3 z1
      rw [if_pos z1]
      refine ⟨?_, ?_, fun _ => ?_, fun w => absurd rfl w⟩
      · split
        · omega
        · split <;> omega
      · split
        · omega
        · split <;> omega
      · split
        · omega
        · split <;> omega
    · have := h4 z1
      rw [if_neg z1]
      by_cases z2 : shr s i u k = -9
      · rw [if_pos z2, if_pos z2]
        exact ⟨by omega, by omega, fun _ => by omega, fun w => absurd rfl w⟩
      · rw [if_neg z2, if_neg z2]
        refine ⟨?_, ?_, fun w => ?_, fun _ => by rw [this]⟩
        · split <;> omega
        · split <;> omega
        · split at w <;> omega
theorem e_tog {μ s : Mem} {i : Nat} {u : Int} (hM : MB 0 μ s) (hg : GB s) (hi : (i : Int) < s 0 0) (hu : 0 ≤ u ∧ s 3 i + u ≤ 20) : Ev (fX2_together (i : Int) u μ) fun q => (pcS s i u = -9 → 99999 ≤ q.1) ∧ (¬ pcS s i u = -9 → q.1 = pcS s i u) ∧ (∀ j : Nat, (j : Int) < s 0 0 → q.2 69 j = shr s i u j) ∧ ∀ c k, ¬ c = 69 → q.2 c k = μ c k := by
  have g0 := hg.1
  have g6 := hg.2.1
  obtain ⟨-, -, g3⟩ := hg.2.2.2.2 i hi
  obtain ⟨q1, q2, q3, q4⟩ := (MB_0 hM).2.2 i hi
  have hf := far_rng hg hi
  have hu2 : 0 ≤ u ∧ u ≤ 20 := by omega
  have hL : ∀ (K : Int → Mem → Option (Int × Mem)) (Q : Int × Mem → Prop) (m k N : Nat) (ν : Mem), k + m = (s 0 0).toNat → m < N → (∀ c k, ¬ c = 69 → ν c k = μ c k) → (∀ j, j < k → ν 69 j = shr s i u j) → (∀ ν', (∀ c k, ¬ c = 69 → ν' c k = μ c k) → (∀ j, j < (s 0 0).toNat → ν' 69 j = shr s i u j) → Ev (K (smL s i u (s 0 0).toNat) ν') Q) → Ev (fX2_together_L39 K (i : Int) (mstS s i u) u N (smL s i u k) (k : Int) ν) Q := by
    intro K Q m
    induction m with
    | zero =>
      intro k N ν h1 h2 h3 h5 h6
      obtain ⟨N, rfl⟩ : ∃ j, N = j + 1 := ⟨N - 1, by omega⟩
      obtain rfl : k = (s 0 0).toNat := by omega
      rw [fX2_together_L39, h3 _ _ (by omega), hM.1, if_pos (by omega)]
      exact h6 ν h3 h5
    | succ m ih =>
      intro k N ν h1 h2 h3 h5 h6
      obtain ⟨N, rfl⟩ : ∃ j, N = j + 1 := ⟨N - 1, by omega⟩
      have hM' : MB 0 ν s := MB_congr hM g6 (fun c k hk => h3 _ _ (by omega))
      have hs := smL_pc (i := i) hg hu2 k (by omega)
      have hsr := shr_rng (i := i) (j := k) hg (by omega) hu2
      have main : ∀ y, y = shr s i u k → Ev (mlet (wr ν 69 k y) fun μ8 => if ¬ μ8 69 k = -9 then (if ¬ (k : Int) = (i : Int) then fX2_together_L39 K (i : Int) (mstS s i u) u N (w32 (smL s i u k + μ8 69 k)) ((k + 1 : Nat) : Int) μ8 else fX2_together_L39 K (i : Int) (mstS s i u) u N (w32 (smL s i u k + 0)) ((k + 1 : Nat) : Int) μ8) else fX2_together_L39 K (i : Int) (mstS s i u) u N (w32 (smL s i u k + 99999)) ((k + 1 : Nat) : Int) μ8) Q := by
        rintro y rfl
        rw [mlet_e, wr_at (by omega)]
        have f3 : ∀ c k', ¬ c = 69 → wr ν 69 k (shr s i u k) c k' = μ c k' := fun c k' hk => by rw [wr_ne (by omega), h3 _ _ hk]
        have f5 : ∀ j, j < k + 1 → wr ν 69 k (shr s i u k) 69 j = shr s i u j := fun j hj => by
          by_cases e : j = k
          · rw [e, wr_at (by omega)]
          · rw [wr_ne (by omega), h5 j (by omega)]
        have ih' := ih (k + 1) N _ (by omega) (by omega) f3 f5 h6
        rw [smL] at ih'
        by_cases z : shr s i u k = -9
        · rw [if_neg (by omega), w32_i (by omega)]
          rw [if_pos z] at ih'
          exact ih'
        · rw [if_pos z]
          rw [if_neg z] at ih'
          by_cases zi : k = i
          · rw [if_neg (by omega), w32_i (by omega)]
            rw [if_pos zi] at ih'
            exact ih'
          · rw [if_pos (by omega), w32_i (by omega)]
            rw [if_neg zi] at ih'
            exact ih'
      rw [fX2_together_L39, h3 60 1 (by omega), hM.1, if_neg (by omega)]
      simp (disch := omega) only [mlet_e, grd, if_pos, tn_c, w32_s]
      by_cases zi : k = i
      · rw [if_neg (by omega)]
        have := main u (by unfold shr; rw [if_pos zi])
        rw [mlet_e] at this
        exact this
      · rw [if_pos (by omega), e_shm hM' hg hi (by omega), bd_some]
        have := main _ (show shL s i (mstS s i u) k (s 3 k + 1).toNat 0 = shr s i u k by unfold shr; rw [if_neg zi])
        rw [mlet_e, if_pos (show ¬ (k : Int) = (i : Int) by omega)] at this
        exact this
  have hd := dar_rng (k := s 1 i) (d := s 3 i + u) (num := s 0 2) (by omega) hf.1
  unfold fX2_together
  have hf := fuel_lt
  generalize fuel = N at hf ⊢
  simp (disch := omega) only [grd, if_pos, tn_c, q1, q3, w32_i (z := 9 + (i : Int)), tn_9, w32_i (z := s 3 i + u), e_farOf2 (x := 0) (a := 0) rfl (by omega) hM hg hi, bd_some, (MB_0 hM).2.1, e_daresBy, mlet_e]
  rw [show dar (s 1 i) (s 3 i + u) (s 0 2) (far s i) = mstS s i u from rfl] at hd ⊢
  refine hL _ _ (s 0 0).toNat 0 N μ (by omega) (by omega) (fun _ _ _ => rfl) (fun j hj => absurd hj (by omega)) (fun ν' r1 r2 => ?_)
  obtain ⟨s1, s2, s3, s4⟩ := smL_pc (i := i) hg hu2 (s 0 0).toNat (by omega)
  unfold pcS
  by_cases z : mstS s i u = 0
  · rw [if_pos (by omega), if_pos z]
    exact ev_some.mpr ⟨fun _ => by dsimp only; omega, fun w => absurd rfl w, fun j hj => r2 j (by omega), r1⟩
  · rw [if_neg (by omega), if_neg z]
    exact ev_some.mpr ⟨s3, s4, fun j hj => r2 j (by omega), r1⟩
/-! the cheapest of all -/
def chR (s : Mem) (i : Nat) : Nat → Int × Int
  | 0 => (-9, 0)
  | k + 1 => if ¬ pcS s i (k : Int) = -9 ∧ ((chR s i k).1 = -9 ∨ pcS s i (k : Int) < (chR s i k).1) then (pcS s i (k : Int), (k : Int)) else chR s i k
theorem pcS_rng {s : Mem} {i : Nat} {u : Int} (hg : GB s) (hu : 0 ≤ u ∧ u ≤ 20) : pcS s i u = -9 ∨ (0 ≤ pcS s i u ∧ pcS s i u ≤ 140) := by
  have g0 := hg.1
  have g6 := hg.2.1
  unfold pcS
  split
  · exact Or.inl rfl
  · rcases pcL_rng (i := i) hg hu (s 0 0).toNat (by omega) with h | h
    · exact Or.inl h
    · exact Or.inr ⟨h.1, by omega⟩
theorem chR_ok {s : Mem} {i : Nat} (hg : GB s) : ∀ k : Nat, k ≤ 21 → (chR s i k).1 = -9 ∨ ((0 ≤ (chR s i k).1 ∧ (chR s i k).1 ≤ 140) ∧ 0 ≤ (chR s i k).2 ∧ (chR s i k).2 < (k : Int) ∧ pcS s i (chR s i k).2 = (chR s i k).1)
  | 0, _ => Or.inl rfl
  | k + 1, hk => by
    have ih := chR_ok (i := i) hg k (by omega)
    have hp := pcS_rng (i := i) (u := (k : Int)) hg (by omega)
    unfold chR
    split
    · next h => exact Or.inr ⟨by dsimp only; omega, by dsimp only; omega, by dsimp only; omega, rfl⟩
    · rcases ih with h | h
      · exact Or.inl h
      · exact Or.inr ⟨h.1, h.2.1, by omega, h.2.2.2⟩
theorem e_cheap_L {s μ : Mem} {i : Nat} {K : Int → Int → Mem → Option (Int × Mem)} {Q : Int × Mem → Prop} (hc : CB 20 μ s) (hg : GB s) (hi : (i : Int) < s 0 0) {T : Nat} (hT : (T : Int) = 21 - s 3 i)
    (hK : ∀ ν, (∀ c k, ¬ c = 37 → ν c k = μ c k) → Ev (K (chR s i T).1 (chR s i T).2 ν) Q) : ∀ (m k N : Nat) (ν : Mem), k + m = T → m < N → (∀ c k, ¬ c = 37 → ν c k = μ c k) → Ev (fX1_cheap_L29 (i : Int) K N (chR s i k).1 (chR s i k).2 (k : Int) ν) Q := by
  have g6 := hg.2.1
  obtain ⟨-, -, g3⟩ := hg.2.2.2.2 i hi
  obtain ⟨c1, c2, c3, c4⟩ := hc.2.2.2 i hi
  intro m
  induction m with
  | zero =>
    intro k N ν h1 h2 h3
    obtain ⟨N, rfl⟩ : ∃ j, N = j + 1 := ⟨N - 1, by omega⟩
    obtain rfl : k = T := by omega
    have e23 : ν 23 i = s 3 i := by rw [h3 23 i (by omega)]; exact c3
    rw [fX1_cheap_L29]
    simp (disch := omega) only [grd, if_pos, tn_c, e23, w32_i (z := s 3 i + (k : Int))]
    exact hK ν h3
  | succ m ih =>
    intro k N ν h1 h2 h3
    obtain ⟨N, rfl⟩ : ∃ j, N = j + 1 := ⟨N - 1, by omega⟩
    have e23 : ν 23 i = s 3 i := by rw [h3 23 i (by omega)]; exact c3
    rw [fX1_cheap_L29]
    simp (disch := omega) only [grd, if_pos, if_neg, tn_c, e23, w32_i (z := s 3 i + (k : Int))]
    rw [ev_bnd2]
    refine ev_mono (e_price (s := s) (i := i) (u := (k : Int)) (CB_congr hc (fun c k hk => h3 _ _ (by omega))) hg hi (by omega)) (fun q hq => ?_)
    obtain ⟨q1, -, q3⟩ := hq
    have ih' := ih (k + 1) N q.2 (by omega) (by omega) (fun c k hk => by rw [q3 _ _ hk, h3 _ _ hk])
    rw [chR] at ih'
    rw [q1]
    simp (disch := omega) only [mlet_e, w32_s]
    by_cases z1 : pcS s i (k : Int) = -9
    · rw [if_pos z1]
      rw [if_neg (fun w => w.1 z1)] at ih'
      exact ih'
    · rw [if_neg z1]
      by_cases z2 : (chR s i k).1 = -9
      · rw [if_pos z2]
        rw [if_pos ⟨z1, Or.inl z2⟩] at ih'
        exact ih'
      · rw [if_neg z2]
        by_cases z3 : (chR s i k).1 ≤ pcS s i (k : Int)
        · rw [if_pos z3]
          rw [if_neg (fun w => by rcases w.2 with w | w; exact z2 w; omega)] at ih'
          exact ih'
        · rw [if_neg z3]
          rw [if_pos ⟨z1, Or.inr (by omega)⟩] at ih'
          exact ih'
theorem e_ch61 {s μ : Mem} {K : Int → Mem → Option (Int × Mem)} {Q : Int × Mem → Prop} {x : Int} (h4 : μ 60 1 = s 0 0) (hg : GB s) (hK : ∀ ν, (∀ c k, ¬ c = 70 → ν c k = μ c k) → (∀ j : Nat, (j : Int) < s 0 0 → ν 70 j = μ 69 j) → Ev (K x ν) Q) : ∀ (m k N : Nat) (ν : Mem), k + m = (s 0 0).toNat → m < N → (∀ c k, ¬ c = 70 → ν c k = μ c k) → (∀ j, j < k → ν 70 j = μ 69 j) → Ev (fX2_cheap_L61 K x N (k : Int) ν) Q := by
  have g0 := hg.1
  have g6 := hg.2.1
  intro m
  induction m with
  | zero =>
    intro k N ν h1 h2 h3 h5
    obtain ⟨N, rfl⟩ : ∃ j, N = j + 1 := ⟨N - 1, by omega⟩
    obtain rfl : k = (s 0 0).toNat := by omega
    rw [fX2_cheap_L61, h3 _ _ (by omega), h4, if_pos (by omega)]
    exact hK ν h3 (fun j hj => h5 j (by omega))
  | succ m ih =>
    intro k N ν h1 h2 h3 h5
    obtain ⟨N, rfl⟩ : ∃ j, N = j + 1 := ⟨N - 1, by omega⟩
    rw [fX2_cheap_L61, h3 60 1 (by omega), h4, if_neg (by omega)]
    simp (disch := omega) only [mlet_e, grd, if_pos, tn_c, w32_s]
    refine ih (k + 1) N _ (by omega) (by omega) (fun c k' hk => by rw [wr_ne (by omega), h3 _ _ hk]) (fun j hj => ?_)
    by_cases e : j = k
    · rw [e, wr_at (by omega), h3 _ _ (by omega)]
    · rw [wr_ne (by omega), h5 j (by omega)]
theorem e_cheap2_L {s μ : Mem} {i : Nat} {K : Int → Mem → Option (Int × Mem)} {Q : Int × Mem → Prop} (hM : MB 0 μ s) (hg : GB s) (hi : (i : Int) < s 0 0) {T : Nat} (hT : (T : Int) = 21 - s 3 i)
    (hK : ∀ ν, (∀ c k, ¬ c = 69 → ¬ c = 70 → ν c k = μ c k) → (¬ (chR s i T).1 = -9 → ∀ j : Nat, (j : Int) < s 0 0 → ν 70 j = shr s i (chR s i T).2 j) → Ev (K (if (chR s i T).1 = -9 then 99999 else (chR s i T).1) ν) Q) : ∀ (m k N : Nat) (ν : Mem), k + m = T → m < N → (∀ c k, ¬ c = 69 → ¬ c = 70 → ν c k = μ c k) → (¬ (chR s i k).1 = -9 → ∀ j : Nat, (j : Int) < s 0 0 → ν 70 j = shr s i (chR s i k).2 j) → Ev (fX2_cheap_L23 (i : Int) K N (if (chR s i k).1 = -9 then 99999 else (chR s i k).1) (k : Int) ν) Q := by
  have g0 := hg.1
  have g6 := hg.2.1
  obtain ⟨-, -, g3⟩ := hg.2.2.2.2 i hi
  obtain ⟨c1, c2, c3, c4⟩ := (MB_0 hM).2.2 i hi
  intro m
  induction m with
  | zero =>
    intro k N ν h1 h2 h3 h5
    obtain ⟨N, rfl⟩ : ∃ j, N = j + 1 := ⟨N - 1, by omega⟩
    obtain rfl : k = T := by omega
    rw [fX2_cheap_L23, w32_i (z := 9 + (i : Int)) (by omega)]
    simp (disch := omega) only [grd, if_pos, tn_9]
    rw [h3 61 (9 + i) (by omega) (by omega), c3, w32_i (by omega), if_pos (by omega)]
    exact hK ν h3 h5
  | succ m ih =>
    intro k N ν h1 h2 h3 h5
    obtain ⟨N, rfl⟩ : ∃ j, N = j + 1 := ⟨N - 1, by omega⟩
    have hM' : MB 0 ν s := MB_congr hM g6 (fun c k hk => h3 _ _ (by omega) (by omega))
    have hp := pcS_rng (i := i) (u := (k : Int)) hg (by omega)
    have hch := chR_ok (i := i) hg k (by omega)
    rw [fX2_cheap_L23, w32_i (z := 9 + (i : Int)) (by omega)]
    have hf := fuel_lt
    generalize fuel = F at hf ⊢
    simp (disch := omega) only [grd, if_pos, tn_9]
    rw [h3 61 (9 + i) (by omega) (by omega), c3, w32_i (by omega), if_neg (by omega), ev_bnd2]
    refine ev_mono (e_tog (s := s) (i := i) (u := (k : Int)) hM' hg hi (by omega)) (fun q hq => ?_)
    obtain ⟨q1, q2, q3, q4⟩ := hq
    simp (disch := omega) only [mlet_e, w32_s]
    have ih' := ih (k + 1) N
    rw [chR] at ih'
    have stay : ¬ (¬ pcS s i (k : Int) = -9 ∧ ((chR s i k).1 = -9 ∨ pcS s i (k : Int) < (chR s i k).1)) → Ev (fX2_cheap_L23 (i : Int) K N (if (chR s i k).1 = -9 then 99999 else (chR s i k).1) ((k + 1 : Nat) : Int) q.2) Q := fun w => by
      have := ih' q.2 (by omega) (by omega) (fun c k' a1 a2 => by rw [q4 _ _ a1, h3 _ _ a1 a2])
      rw [if_neg w] at this
      exact this (fun w2 j hj => by rw [q4 _ _ (by omega)]; exact h5 w2 j hj)
    by_cases z1 : pcS s i (k : Int) = -9
    · have := q1 z1
      rw [if_pos (by split <;> omega)]
      exact stay (fun w => w.1 z1)
    · have e1 := q2 z1
      by_cases z2 : (chR s i k).1 = -9 ∨ pcS s i (k : Int) < (chR s i k).1
      · rw [if_neg (by split <;> omega)]
        refine e_ch61 (s := s) (μ := q.2) (x := q.1) (by rw [q4 _ _ (by omega)]; exact hM'.1) hg (fun ν' r1 r2 => ?_) (s 0 0).toNat 0 F q.2 (by omega) (by omega) (fun _ _ _ => rfl) (fun j hj => absurd hj (by omega))
        have := ih' ν' (by omega) (by omega) (fun c k' a1 a2 => by rw [r1 _ _ a2, q4 _ _ a1, h3 _ _ a1 a2])
        rw [if_pos ⟨z1, z2⟩] at this
        have := this (fun _ j hj => by rw [r2 j hj, q3 j hj])
        rw [if_neg z1] at this
        rw [e1]
        exact this
      · rw [if_pos (by split <;> omega)]
        exact stay (fun w => z2 w.2)
theorem e_ch117 {s μ : Mem} {x : Int} {r : Nat} (hr : r < 6) (h4 : μ 60 1 = s 0 0) (hg : GB s) : ∀ (m k N : Nat), k + m = (s 0 0).toNat → m < N → fX2_cheap_L117 x (r : Int) N (k : Int) (cpy μ 70 0 64 (40 * r) k) = some (x, cpy μ 70 0 64 (40 * r) (s 0 0).toNat) := by
  have g0 := hg.1
  have g6 := hg.2.1
  intro m
  induction m with
  | zero =>
    intro k N h1 h2
    obtain ⟨N, rfl⟩ : ∃ j, N = j + 1 := ⟨N - 1, by omega⟩
    obtain rfl : k = (s 0 0).toNat := by omega
    rw [fX2_cheap_L117, cpy_ne (by omega), h4, if_pos (by omega)]
  | succ m ih =>
    intro k N h1 h2
    obtain ⟨N, rfl⟩ : ∃ j, N = j + 1 := ⟨N - 1, by omega⟩
    rw [fX2_cheap_L117, cpy_ne (by omega), h4, if_neg (by omega), w32_i (z := 40 * (r : Int)) (by omega), w32_i (z := 40 * (r : Int) + (k : Int)) (by omega)]
    simp (disch := omega) only [mlet_e, grd, if_pos, tn_c, tn_40, w32_s]
    have e : wr (cpy μ 70 0 64 (40 * r) k) 64 (40 * r + k) (cpy μ 70 0 64 (40 * r) k 70 k) = cpy μ 70 0 64 (40 * r) (k + 1) := by
      funext c k'
      by_cases a1 : c = 64 ∧ k' = 40 * r + k
      · obtain ⟨rfl, rfl⟩ := a1
        rw [wr_at (by omega), cpy_ne (by omega), cpy_at (by omega)]
        congr 1
        omega
      · rw [wr_ne a1]
        by_cases a2 : c = 64 ∧ 40 * r ≤ k' ∧ k' < 40 * r + k
        · rw [cpy_at a2, cpy_at (by omega)]
        · rw [cpy_ne a2, cpy_ne (by omega)]
    rw [e]
    exact ih (k + 1) N (by omega) (by omega)
theorem P_cheap {i r : Int} {μ : Mem} (h : Inv μ) : Same (fX1_cheap i r μ) (fX2_cheap i r) := by
  obtain ⟨s, hR, hC, hM, hg, h0, h40, h61⟩ := Inv_now h
  have g0 := hg.1
  have g6 := hg.2.1
  have c4 := hC.1
  have m4 := hM.1
  by_cases a : 0 ≤ i ∧ i < s 0 0
  · by_cases b : 0 ≤ r ∧ r ≤ 5
    · obtain ⟨i, rfl⟩ : ∃ j : Nat, i = j := ⟨i.toNat, by omega⟩
      obtain ⟨r, rfl⟩ : ∃ j : Nat, r = j := ⟨r.toNat, by omega⟩
      obtain ⟨-, -, g3⟩ := hg.2.2.2.2 i a.2
      obtain ⟨T, hT⟩ : ∃ T : Nat, (T : Int) = 21 - s 3 i := ⟨(21 - s 3 i).toNat, by omega⟩
      have hch := chR_ok (i := i) hg T (by omega)
      have n6 : (s 0 0).toNat ≤ 6 := by omega
      unfold fX1_cheap
      have hf := fuel_lt
      generalize fuel = N at hf ⊢
      simp (disch := omega) only [e_has, e_isRow, bd_some, b01_t, if_neg, if_pos, mlet_e]
      refine e_cheap_L hC hg a.2 hT (fun ν1 r1 => ?_) T 0 N μ (by omega) (by omega) (fun _ _ _ => rfl)
      by_cases z : (chR s i T).1 = -9
      · rw [if_neg (fun w => w z)]
        refine ev_some.mpr ?_
        dsimp only
        have hM1 : MB 0 ν1 s := MB_congr hM g6 (fun c k hk => r1 _ _ (by omega))
        have m5 := hM1.1
        unfold fX2_cheap
        have hf := fuel_lt
        generalize fuel = N at hf ⊢
        simp (disch := omega) only [e_isOne, e_isRow2, bd_some, b01_t, if_neg, if_pos, mlet_e]
        refine e_cheap2_L hM1 hg a.2 hT (fun ν2 r2 r3 => ?_) T 0 N ν1 (by omega) (by omega) (fun _ _ _ _ => rfl) (fun w => absurd rfl w)
        rw [if_pos z, if_neg (by omega)]
        refine ev_some.mpr ⟨rfl, Inv_free h (fun c k hf => ?_)⟩
        unfold fre at hf
        show ν2 c k = μ c k
        rw [r2 _ _ (by omega) (by omega), r1 _ _ (by omega)]
      · rcases hch with hch | ⟨hc1, hc2, hc3, hc4⟩
        · exact absurd hch z
        generalize hL0 : (chR s i T).1 = least at *
        generalize hU : (chR s i T).2 = u at *
        obtain ⟨⟨v, μp⟩, p1, p2, p3, p4⟩ := e_price (s := s) (μ := ν1) (i := i) (u := u) (CB_congr hC (fun c k hk => r1 _ _ (by omega))) hg a.2 (by omega)
        dsimp only at p2 p3 p4
        have p5 := p3 (by omega)
        have ep4 : μp 20 4 = s 0 0 := by rw [p4 _ _ (by omega), r1 _ _ (by omega), c4]
        have f1 : ∀ c k, ¬ c = 37 → μp c k = μ c k := fun c k hk => by rw [p4 _ _ hk, r1 _ _ hk]
        rw [if_pos z, p1, bnd2_some]
        obtain ⟨n, hn⟩ : ∃ n : Nat, s 0 0 = (n : Int) := ⟨(s 0 0).toNat, by omega⟩
        have e20 : ∀ (c' : Nat) (ν : Mem), c' < 8 → ¬ c' = 0 → filM (wr μp 8 r (s 0 0)) (2 + r) 40 0 20 4 = s 0 0 := fun _ _ _ _ => by rw [filM_ne (by omega), wr_ne (by omega), ep4]
        have e20' := e20 1 μ (by omega) (by omega)
        unfold fX1_layAnew
        simp (disch := omega) only [grd, if_pos, tn_c, mlet_e, bd_some, ep4, e20', tn_i0]
        refine ev_some.mpr ?_
        dsimp only
        generalize hμ1 : cpy (filM (wr μp 8 r (s 0 0)) (2 + r) 40 0) 37 0 (2 + r) 0 (s 0 0).toNat = μ1
        have f2 : ∀ c k, ¬ c = 37 → ¬ (c = 8 ∧ k = r) → ¬ c = 2 + r → μ1 c k = μ c k := fun c k a1 a2 a3 => by
          rw [← hμ1, cpy_ne (by omega), filM_ne (by omega), wr_ne a2, f1 _ _ a1]
        have hM1 : MB 0 μ1 s := MB_congr hM g6 (fun c k hk => f2 _ _ (by omega) (by omega) (by omega))
        have m5 := hM1.1
        unfold fX2_cheap
        have hf := fuel_lt
        generalize fuel = N at hf ⊢
        simp (disch := omega) only [e_isOne, e_isRow2, bd_some, b01_t, if_neg, if_pos, mlet_e]
        refine e_cheap2_L hM1 hg a.2 hT (fun ν2 r2 r3 => ?_) T 0 N μ1 (by omega) (by omega) (fun _ _ _ _ => rfl) (fun w => absurd rfl w)
        rw [hL0, hU] at r3
        have r5 := r3 z
        rw [hL0, if_neg z, if_pos (by omega)]
        have e61 : ν2 60 1 = s 0 0 := by rw [r2 _ _ (by omega) (by omega), m5]
        rw [e_makeRow (by omega), bd_some, e61]
        have e9 := e_ch117 (s := s) (μ := filR (wr ν2 63 r (s 0 0)) 64 (40 * r) 40 0) (x := least) (r := r) (by omega) (by rw [filR_ne (by omega), wr_ne (by omega), e61]) hg (s 0 0).toNat 0 N (by omega) (by omega)
        rw [cpy_0] at e9
        refine ev_eq e9 ⟨rfl, ?_⟩
        dsimp only
        have f3 : ∀ c k, ¬ c = 37 → ¬ (2 ≤ c ∧ c ≤ 8) → ¬ c = 63 → ¬ c = 64 → ¬ c = 69 → ¬ c = 70 → cpy (filR (wr ν2 63 r (s 0 0)) 64 (40 * r) 40 0) 70 0 64 (40 * r) (s 0 0).toNat c k = μ c k := fun c k a1 a2 a3 a4 a5 a6 => by
          rw [cpy_ne (by omega), filR_ne (by omega), wr_ne (by omega), r2 _ _ a5 a6, f2 _ _ a1 (by omega) (by omega)]
        refine ⟨fun r' hr' => ?_, TextsI_congr h.2.1 (fun c k hc => f3 c k (by omega) (by omega) (by omega) (by omega) (by omega) (by omega)), ToldI_congr h.2.2.1 (fun c k hc => f3 c k (by omega) (by omega) (by omega) (by omega) (by omega) (by omega)), RivI_congr h.2.2.2 (fun c k hc => by unfold rvc at hc; exact f3 c k (by omega) (by omega) (by omega) (by omega) (by omega) (by omega))⟩
        obtain ⟨k1, k2, k3, k4⟩ := h.1 r' hr'
        by_cases er : r' = r
        · subst er
          rw [cpy_ne (by omega), filR_ne (by omega), wr_at (by omega), cpy_ne (by omega), filR_ne (by omega), wr_ne (by omega), r2 _ _ (by omega) (by omega), ← hμ1, cpy_ne (by omega), filM_ne (by omega), wr_at (by omega)]
          refine ⟨rfl, by omega, by omega, fun l hl => ?_⟩
          rw [cpy_ne (c' := 2 + r') (by omega), filR_ne (c' := 2 + r') (by omega), wr_ne (c' := 2 + r') (by omega), r2 (2 + r') _ (by omega) (by omega), ← hμ1]
          by_cases zl : l < (s 0 0).toNat
          · rw [cpy_at (by omega), show 0 + (40 * r' + l - 40 * r') = l by omega, filR_ne (by omega), wr_ne (by omega), r5 l (by omega), cpy_at (by omega), show 0 + (l - 0) = l by omega, filM_ne (by omega), wr_ne (by omega), p5 l (by omega)]
          · rw [cpy_ne (by omega), filR_at (by omega), cpy_ne (by omega), filM_at (by omega)]
        · rw [cpy_ne (by omega), filR_ne (by omega), wr_ne (by omega), r2 63 _ (by omega) (by omega), f2 63 _ (by omega) (by omega) (by omega), cpy_ne (by omega), filR_ne (by omega), wr_ne (by omega), r2 8 _ (by omega) (by omega), f2 8 _ (by omega) (by omega) (by omega)]
          refine ⟨k1, k2, k3, fun l hl => ?_⟩
          rw [cpy_ne (by omega), filR_ne (by omega), wr_ne (by omega), r2 64 _ (by omega) (by omega), f2 64 _ (by omega) (by omega) (by omega), cpy_ne (by omega), filR_ne (by omega), wr_ne (by omega), r2 (2 + r') _ (by omega) (by omega), f2 (2 + r') _ (by omega) (by omega) (by omega)]
          exact k4 l hl
    · refine same_of (v := -1) (μ1 := μ) (μ2 := μ) ?_ ?_ h
      · unfold fX1_cheap
        have hf := fuel_lt
        generalize fuel = N at hf ⊢
        simp (disch := omega) only [e_has, e_isRow, bnd2_some, bd_some, b01_t, b01_f, if_pos, if_neg, mlet_e, grd, ite_true, ite_false, not_true_eq_false, not_false_eq_true, ite_self, tn_c, w32_i]
      · unfold fX2_cheap
        have hf := fuel_lt
        generalize fuel = N at hf ⊢
        simp (disch := omega) only [e_isOne, e_isRow2, bnd2_some, bd_some, b01_t, b01_f, if_pos, if_neg, mlet_e, grd, ite_true, ite_false, not_true_eq_false, not_false_eq_true, ite_self, tn_c, w32_i]
  · refine same_of (v := -1) (μ1 := μ) (μ2 := μ) ?_ ?_ h
    · unfold fX1_cheap
      have hf := fuel_lt
      generalize fuel = N at hf ⊢
      simp (disch := omega) only [e_has, e_isRow, bnd2_some, bd_some, b01_t, b01_f, if_pos, if_neg, mlet_e, grd, ite_true, ite_false, not_true_eq_false, not_false_eq_true, ite_self, tn_c, w32_i]
    · unfold fX2_cheap
      have hf := fuel_lt
      generalize fuel = N at hf ⊢
      simp (disch := omega) only [e_isOne, e_isRow2, bnd2_some, bd_some, b01_t, b01_f, if_pos, if_neg, mlet_e, grd, ite_true, ite_false, not_true_eq_false, not_false_eq_true, ite_self, tn_c, w32_i]
