/-! cheap -/
theorem dar_rng {k d num f : Int} (hd : 0 ≤ d ∧ d ≤ 1000) (hf : 0 ≤ f) : 0 ≤ dar k d num f ∧ dar k d num f ≤ 2003 := by
  have h1 := fe_rng hd
  have h2 := be_rng hf
  unfold dar
  split
  · split <;> omega
  · split
    · omega
    · split
      · omega
      · split
        · split <;> omega
        · omega
def nrS (s : Mem) (i j : Nat) : Prop := far s i < far s j ∨ (far s i = far s j ∧ i < j)
def mstS (s : Mem) (i : Nat) (u : Int) : Int := dar (s 1 i) (s 3 i + u) (s 0 2) (far s i)
def shL (s : Mem) (i : Nat) (most : Int) (j : Nat) : Nat → Nat → Int
  | 0, _ => -9
  | m + 1, k => if dar (s 1 j) (s 3 j - (k : Int)) (s 0 2) (far s j) < most ∨ (dar (s 1 j) (s 3 j - (k : Int)) (s 0 2) (far s j) = most ∧ (far s i < far s j ∨ (far s i = far s j ∧ i < j))) then (k : Int) else shL s i most j m (k + 1)
theorem shL_rng (s : Mem) (i : Nat) (most : Int) (j : Nat) : ∀ m k, shL s i most j m k = -9 ∨ (0 ≤ shL s i most j m k ∧ shL s i most j m k < ((k + m : Nat) : Int))
  | 0, _ => Or.inl rfl
  | m + 1, k => by
    unfold shL
    split
    · exact Or.inr ⟨by omega, by omega⟩
    · rcases shL_rng s i most j m (k + 1) with h | h
      · exact Or.inl h
      · exact Or.inr ⟨h.1, by omega⟩
def shr (s : Mem) (i : Nat) (u : Int) (j : Nat) : Int := if j = i then u else shL s i (mstS s i u) j (s 3 j + 1).toNat 0
def pcL (s : Mem) (i : Nat) (u : Int) : Nat → Int
  | 0 => u
  | k + 1 => if pcL s i u k = -9 then -9 else if shr s i u k = -9 then -9 else pcL s i u k + (if k = i then 0 else shr s i u k)
def pcS (s : Mem) (i : Nat) (u : Int) : Int := if mstS s i u = 0 then -9 else pcL s i u (s 0 0).toNat
theorem shr_rng {s : Mem} {i j : Nat} {u : Int} (hg : GB s) (hj : (j : Int) < s 0 0) (hu : 0 ≤ u ∧ u ≤ 20) : shr s i u j = -9 ∨ (0 ≤ shr s i u j ∧ shr s i u j ≤ 20) := by
  obtain ⟨-, -, g3⟩ := hg.2.2.2.2 j hj
  unfold shr
  split
  · exact Or.inr hu
  · rcases shL_rng s i (mstS s i u) j (s 3 j + 1).toNat 0 with h | h
    · exact Or.inl h
    · exact Or.inr ⟨h.1, by omega⟩
theorem pcL_rng {s : Mem} {i : Nat} {u : Int} (hg : GB s) (hu : 0 ≤ u ∧ u ≤ 20) : ∀ k : Nat, (k : Int) ≤ s 0 0 → pcL s i u k = -9 ∨ (0 ≤ pcL s i u k ∧ pcL s i u k ≤ 20 + 20 * k)
  | 0, _ => by unfold pcL; exact Or.inr ⟨hu.1, by omega⟩
  | k + 1, hk => by
    have h1 := pcL_rng (i := i) hg hu k (by omega)
    have h2 := shr_rng (i := i) (j := k) hg (by omega) hu
    unfold pcL
    split
    · exact Or.inl rfl
    · split
      · exact Or.inl rfl
      · split <;> omega
theorem pcL_up {s : Mem} {i : Nat} {u : Int} {k : Nat} (h : pcL s i u k = -9) : ∀ m, pcL s i u (k + m) = -9
  | 0 => h
  | m + 1 => by
    rw [show k + (m + 1) = k + m + 1 by omega, pcL, if_pos (pcL_up h m)]
theorem e_lsh {μ s : Mem} {i j : Nat} {most : Int} (hc : CB 20 μ s) (hg : GB s) (hi : (i : Int) < s 0 0) (hj : (j : Int) < s 0 0) : fX1_leastShame (j : Int) (i : Int) most μ = some (shL s i most j (s 3 j + 1).toNat 0) := by
  have g6 := hg.2.1
  obtain ⟨-, -, g3⟩ := hg.2.2.2.2 j hj
  obtain ⟨c1, c2, c3, c4⟩ := hc.2.2.2 j hj
  have hL : ∀ (m k N : Nat), s 3 j + 1 = k + m → m < N → fX1_leastShame_L14 (j : Int) μ most (b01 (far s i < far s j ∨ (far s i = far s j ∧ i < j))) N (k : Int) = some (shL s i most j m k) := by
    intro m
    induction m with
    | zero =>
      intro k N h1 h2
      obtain ⟨N, rfl⟩ : ∃ j, N = j + 1 := ⟨N - 1, by omega⟩
      rw [fX1_leastShame_L14]
      simp (disch := omega) only [grd, if_pos, tn_c, c3]
      rfl
    | succ m ih =>
      intro k N h1 h2
      obtain ⟨N, rfl⟩ : ∃ j, N = j + 1 := ⟨N - 1, by omega⟩
      have ih' := ih (k + 1) N (by omega) (by omega)
      rw [fX1_leastShame_L14]
      simp (disch := omega) only [grd, if_pos, if_neg, tn_c, c3, w32_i (z := s 3 j - (k : Int)), e_boldAt hc hg hj, bd_some, mlet_e, w32_s, b01_0]
      rw [shL]
      by_cases z1 : dar (s 1 j) (s 3 j - (k : Int)) (s 0 2) (far s j) < most
      · rw [if_pos z1, if_pos (Or.inl z1)]
      · rw [if_neg z1]
        by_cases z2 : dar (s 1 j) (s 3 j - (k : Int)) (s 0 2) (far s j) = most
        · rw [if_neg (by omega)]
          by_cases z3 : far s i < far s j ∨ (far s i = far s j ∧ i < j)
          · rw [if_neg (fun w => w z3), if_pos (Or.inr ⟨z2, z3⟩)]
          · rw [if_pos z3, if_neg (fun w => by rcases w with w | w; exact z1 w; exact z3 w.2)]
            exact ih'
        · rw [if_pos z2, if_neg (fun w => by rcases w with w | w; exact z1 w; exact z2 w.1)]
          exact ih'
  unfold fX1_leastShame
  have hf := fuel_lt
  generalize fuel = N at hf ⊢
  rw [e_behind hc hg hi hj, bd_some]
  exact hL (s 3 j + 1).toNat 0 N (by omega) (by omega)
theorem e_price {μ s : Mem} {i : Nat} {u : Int} (hc : CB 20 μ s) (hg : GB s) (hi : (i : Int) < s 0 0) (hu : 0 ≤ u ∧ s 3 i + u ≤ 20) : Ev (fX1_priceByShares (i : Int) u μ) fun q => q.1 = pcS s i u ∧ (¬ pcS s i u = -9 → ∀ j : Nat, (j : Int) < s 0 0 → q.2 37 j = shr s i u j) ∧ ∀ c k, ¬ c = 37 → q.2 c k = μ c k := by
  have g0 := hg.1
  have g6 := hg.2.1
  obtain ⟨-, -, g3⟩ := hg.2.2.2.2 i hi
  obtain ⟨c1, c2, c3, c4⟩ := hc.2.2.2 i hi
  have hu2 : 0 ≤ u ∧ u ≤ 20 := by omega
  have hL : ∀ (m k N : Nat) (ν : Mem), k + m = (s 0 0).toNat → m < N → (∀ c k, ¬ c = 37 → ν c k = μ c k) → ¬ pcL s i u k = -9 → (∀ j, j < k → ν 37 j = shr s i u j) → Ev (fX1_priceByShares_L33 (i : Int) (mstS s i u) u N (pcL s i u k) (k : Int) ν) fun q => q.1 = pcL s i u (s 0 0).toNat ∧ (¬ pcL s i u (s 0 0).toNat = -9 → ∀ j : Nat, (j : Int) < s 0 0 → q.2 37 j = shr s i u j) ∧ ∀ c k, ¬ c = 37 → q.2 c k = μ c k := by
    intro m
    induction m with
    | zero =>
      intro k N ν h1 h2 h3 h4 h5
      obtain ⟨N, rfl⟩ : ∃ j, N = j + 1 := ⟨N - 1, by omega⟩
      obtain rfl : k = (s 0 0).toNat := by omega
      rw [fX1_priceByShares_L33, h3 _ _ (by omega), hc.1, if_pos (by omega)]
      exact ev_some.mpr ⟨rfl, fun _ j hj => h5 j (by omega), h3⟩
    | succ m ih =>
      intro k N ν h1 h2 h3 h4 h5
      obtain ⟨N, rfl⟩ : ∃ j, N = j + 1 := ⟨N - 1, by omega⟩
      have hc' : CB 20 ν s := CB_congr hc (fun c k hk => h3 _ _ (by omega))
      have hr := pcL_rng (i := i) hg hu2 k (by omega)
      have hsr := shr_rng (i := i) (j := k) hg (by omega) hu2
      have main : ∀ y, y = shr s i u k → Ev (mlet (wr ν 37 k y) fun μ8 => if ¬ μ8 37 k = -9 then (if ¬ (k : Int) = (i : Int) then fX1_priceByShares_L33 (i : Int) (mstS s i u) u N (w32 (pcL s i u k + μ8 37 k)) ((k + 1 : Nat) : Int) μ8 else fX1_priceByShares_L33 (i : Int) (mstS s i u) u N (w32 (pcL s i u k + 0)) ((k + 1 : Nat) : Int) μ8) else some (-9, μ8)) fun q => q.1 = pcL s i u (s 0 0).toNat ∧ (¬ pcL s i u (s 0 0).toNat = -9 → ∀ j : Nat, (j : Int) < s 0 0 → q.2 37 j = shr s i u j) ∧ ∀ c k, ¬ c = 37 → q.2 c k = μ c k := by
        rintro y rfl
        rw [mlet_e, wr_at (by omega)]
        have f3 : ∀ c k', ¬ c = 37 → wr ν 37 k (shr s i u k) c k' = μ c k' := fun c k' hk => by rw [wr_ne (by omega), h3 _ _ hk]
        have f5 : ∀ j, j < k + 1 → wr ν 37 k (shr s i u k) 37 j = shr s i u j := fun j hj => by
          by_cases e : j = k
          · rw [e, wr_at (by omega)]
          · rw [wr_ne (by omega), h5 j (by omega)]
        by_cases z : shr s i u k = -9
        · rw [if_neg (by omega)]
          have e1 : pcL s i u (k + 1) = -9 := by rw [pcL, if_neg h4, if_pos z]
          have e2 : pcL s i u (s 0 0).toNat = -9 := by
            have := pcL_up e1 ((s 0 0).toNat - (k + 1))
            rw [show k + 1 + ((s 0 0).toNat - (k + 1)) = (s 0 0).toNat by omega] at this
            exact this
          exact ev_some.mpr ⟨e2.symm, fun w => absurd e2 w, f3⟩
        · rw [if_pos z]
          have e1 : pcL s i u (k + 1) = pcL s i u k + (if k = i then 0 else shr s i u k) := by rw [pcL, if_neg h4, if_neg z]
          have hne : ¬ pcL s i u (k + 1) = -9 := by
            rw [e1]
            split <;> omega
          have ih' := ih (k + 1) N _ (by omega) (by omega) f3 hne f5
          rw [e1] at ih'
          by_cases zi : k = i
          · rw [if_neg (by omega), w32_i (by omega)]
            rw [if_pos zi] at ih'
            exact ih'
          · rw [if_pos (by omega), w32_i (by omega)]
            rw [if_neg zi] at ih'
            exact ih'
      rw [fX1_priceByShares_L33, h3 20 4 (by omega), hc.1, if_neg (by omega)]
      simp (disch := omega) only [mlet_e, grd, if_pos, tn_c, w32_s]
      by_cases zi : k = i
      · rw [if_neg (by omega)]
        have := main u (by unfold shr; rw [if_pos zi])
        rw [mlet_e] at this
        exact this
      · rw [if_pos (by omega), e_lsh hc' hg hi (by omega), bd_some]
        have := main _ (show shL s i (mstS s i u) k (s 3 k + 1).toNat 0 = shr s i u k by unfold shr; rw [if_neg zi])
        rw [mlet_e, if_pos (show ¬ (k : Int) = (i : Int) by omega)] at this
        exact this
  unfold fX1_priceByShares
  have hf := fuel_lt
  generalize fuel = N at hf ⊢
  simp (disch := omega) only [grd, if_pos, tn_c, c3, w32_i (z := s 3 i + u), e_boldAt hc hg hi, bd_some]
  rw [show dar (s 1 i) (s 3 i + u) (s 0 2) (far s i) = mstS s i u from rfl]
  unfold pcS
  by_cases z : mstS s i u = 0
  · rw [if_neg (by omega), if_pos z]
    exact ev_some.mpr ⟨rfl, fun w => absurd rfl w, fun _ _ _ => rfl⟩
  · rw [if_pos z, if_neg z]
    exact hL (s 0 0).toNat 0 N μ (by omega) (by omega) (fun _ _ _ => rfl) (by unfold pcL; omega) (fun j hj => absurd hj (by omega))
/-! the model's side -/
def smL (s : Mem) (i : Nat) (u : Int) : Nat → Int
  | 0 => u
  | k + 1 => smL s i u k + (if shr s i u k = -9 then 99999 else if k = i then 0 else shr s i u k)
theorem smL_pc {s : Mem} {i : Nat} {u : Int} (hg : GB s) (hu : 0 ≤ u ∧ u ≤ 20) : ∀ k : Nat, (k : Int) ≤ s 0 0 → 0 ≤ smL s i u k ∧ smL s i u k ≤ 20 + 100000 * k ∧ (pcL s i u k = -9 → 99999 ≤ smL s i u k) ∧ (¬ pcL s i u k = -9 → smL s i u k = pcL s i u k)
  | 0, _ => by unfold smL pcL; exact ⟨hu.1, by omega, by omega, fun _ => rfl⟩
  | k + 1, hk => by
    obtain ⟨h1, h2, h3, h4⟩ := smL_pc (i := i) hg hu k (by omega)
    have h5 := shr_rng (i := i) (j := k) hg (by omega) hu
    have h6 := pcL_rng (i := i) hg hu k (by omega)
    unfold smL pcL
    by_cases z1 : pcL s i u k = -9
    · have := h3 z1
      rw [if_pos z1]
      refine ⟨?_, ?_, fun _ => ?_, fun w => absurd rfl w⟩
      · split
        · omega
        · split <;> omega
      · split
        · omega
        · split <;> omega
      · split
        · omega
        · split <;> omega
    · have := h4 z1
      rw [if_neg z1]
      by_cases z2 : shr s i u k = -9
      · rw [if_pos z2, if_pos z2]
        exact ⟨by omega, by omega, fun _ => by omega, fun w => absurd rfl w⟩
      · rw [if_neg z2, if_neg z2]
        refine ⟨?_, ?_, fun w => ?_, fun _ => by rw [this]⟩
        · split <;> omega
        · split <;> omega
        · split at w <;> omega
/-! the cheapest of all -/
def chR (s : Mem) (i : Nat) : Nat → Int × Int
  | 0 => (-9, 0)
  | k + 1 => if ¬ pcS s i (k : Int) = -9 ∧ ((chR s i k).1 = -9 ∨ pcS s i (k : Int) < (chR s i k).1) then (pcS s i (k : Int), (k : Int)) else chR s i k
theorem pcS_rng {s : Mem} {i : Nat} {u : Int} (hg : GB s) (hu : 0 ≤ u ∧ u ≤ 20) : pcS s i u = -9 ∨ (0 ≤ pcS s i u ∧ pcS s i u ≤ 140) := by
  have g0 := hg.1
  have g6 := hg.2.1
  unfold pcS
  split
  · exact Or.inl rfl
  · rcases pcL_rng (i := i) hg hu (s 0 0).toNat (by omega) with h | h
    · exact Or.inl h
    · exact Or.inr ⟨h.1, by omega⟩
theorem chR_ok {s : Mem} {i : Nat} (hg : GB s) : ∀ k : Nat, k ≤ 21 → (chR s i k).1 = -9 ∨ ((0 ≤ (chR s i k).1 ∧ (chR s i k).1 ≤ 140) ∧ 0 ≤ (chR s i k).2 ∧ (chR s i k).2 < (k : Int) ∧ pcS s i (chR s i k).2 = (chR s i k).1)
  | 0, _ => Or.inl rfl
  | k + 1, hk => by
    have ih := chR_ok (i := i) hg k (by omega)
    have hp := pcS_rng (i := i) (u := (k : Int)) hg (by omega)
    unfold chR
    split
    · next h => exact Or.inr ⟨by dsimp only; omega, by dsimp only; omega, by dsimp only; omega, rfl⟩
    · rcases ih with h | h
      · exact Or.inl h
      · exact Or.inr ⟨h.1, h.2.1, by omega, h.2.2.2⟩
theorem e_cheap_L {s μ : Mem} {i : Nat} {K : Int → Int → Mem → Option (Int × Mem)} {Q : Int × Mem → Prop} (hc : CB 20 μ s) (hg : GB s) (hi : (i : Int) < s 0 0) {T : Nat} (hT : (T : Int) = 21 - s 3 i)
    (hK : ∀ ν, (∀ c k, ¬ c = 37 → ν c k = μ c k) → Ev (K (chR s i T).1 (chR s i T).2 ν) Q) : ∀ (m k N : Nat) (ν : Mem), k + m = T → m < N → (∀ c k, ¬ c = 37 → ν c k = μ c k) → Ev (fX1_cheap_L29 (i : Int) K N (chR s i k).1 (chR s i k).2 (k : Int) ν) Q := by
  have g6 := hg.2.1
  obtain ⟨-, -, g3⟩ := hg.2.2.2.2 i hi
  obtain ⟨c1, c2, c3, c4⟩ := hc.2.2.2 i hi
  intro m
  induction m with
  | zero =>
    intro k N ν h1 h2 h3
    obtain ⟨N, rfl⟩ : ∃ j, N = j + 1 := ⟨N - 1, by omega⟩
    obtain rfl : k = T := by omega
    have e23 : ν 23 i = s 3 i := by rw [h3 23 i (by omega)]; exact c3
    rw [fX1_cheap_L29]
    simp (disch := omega) only [grd, if_pos, tn_c, e23, w32_i (z := s 3 i + (k : Int))]
    exact hK ν h3
  | succ m ih =>
    intro k N ν h1 h2 h3
    obtain ⟨N, rfl⟩ : ∃ j, N = j + 1 := ⟨N - 1, by omega⟩
    have e23 : ν 23 i = s 3 i := by rw [h3 23 i (by omega)]; exact c3
    rw [fX1_cheap_L29]
    simp (disch := omega) only [grd, if_pos, if_neg, tn_c, e23, w32_i (z := s 3 i + (k : Int))]
    rw [ev_bnd2]
    refine ev_mono (e_price (s := s) (i := i) (u := (k : Int)) (CB_congr hc (fun c k hk => h3 _ _ (by omega))) hg hi (by omega)) (fun q hq => ?_)
    obtain ⟨q1, -, q3⟩ := hq
    have ih' := ih (k + 1) N q.2 (by omega) (by omega) (fun c k hk => by rw [q3 _ _ hk, h3 _ _ hk])
    rw [chR] at ih'
    rw [q1]
    simp (disch := omega) only [mlet_e, w32_s]
    by_cases z1 : pcS s i (k : Int) = -9
    · rw [if_pos z1]
      rw [if_neg (fun w => w.1 z1)] at ih'
      exact ih'
    · rw [if_neg z1]
      by_cases z2 : (chR s i k).1 = -9
      · rw [if_pos z2]
        rw [if_pos ⟨z1, Or.inl z2⟩] at ih'
        exact ih'
      · rw [if_neg z2]
        by_cases z3 : (chR s i k).1 ≤ pcS s i (k : Int)
        · rw [if_pos z3]
          rw [if_neg (fun w => by rcases w.2 with w | w; exact z2 w; omega)] at ih'
          exact ih'
        · rw [if_neg z3]
          rw [if_pos ⟨z1, Or.inr (by omega)⟩] at ih'
          exact ih'
