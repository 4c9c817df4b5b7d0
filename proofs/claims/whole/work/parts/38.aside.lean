/-! ONE, MARK, DARES; what comes, aside -/
def fre (c k : Nat) : Prop := (25 ≤ c ∧ c ≤ 29) ∨ (37 ≤ c ∧ c ≤ 59) ∨ (c = 61 ∧ 3284 ≤ k) ∨ 68 ≤ c ∨ (c = 60 ∧ 12 ≤ k)
theorem Inv_free {μ μ2 : Mem} (h : Inv μ) (f : ∀ c k, ¬ fre c k → μ2 c k = μ c k) : Inv μ2 := by
  unfold fre at f
  refine ⟨RowsI_congr h.1 (fun c k hc => f _ _ (by omega)), TextsI_congr h.2.1 (fun c k hc => f _ _ (by omega)), ToldI_congr h.2.2.1 (fun c k hc => f _ _ (by omega)), RivI_congr h.2.2.2 (fun c k hc => f _ _ (by unfold rvc at hc; omega))⟩
def tolS (s : Mem) (i : Nat) (w : Int) : Int := if w = 0 then s 1 i else if w = 1 then s 2 i else if w = 2 then s 3 i else if w = 3 then byS s i else if w = 4 then s 4 i else far s i
theorem e_told {b i : Nat} {w : Int} {μ s : Mem} (hc : CB b μ s) (hg : GB s) (hi : (i : Int) < s 0 0) : fX0_told b (i : Int) w μ = some (tolS s i w) := by
  have g6 := hg.2.1
  obtain ⟨c1, c2, c3, c4⟩ := hc.2.2.2 i hi
  obtain ⟨-, -, g3⟩ := hg.2.2.2.2 i hi
  unfold fX0_told tolS byS
  rw [e_farOf hc hg hi]
  simp (disch := omega) only [grd, if_pos, tn_c, c1, c2, c3, c4]
  rw [e_boldAt hc hg hi (by omega)]
  simp only [bd_some]
  repeat' (first | rfl | split)
theorem e_toldOf {i : Nat} {w : Int} {μ s : Mem} (hc : MB 0 μ s) (hg : GB s) (hi : (i : Int) < s 0 0) : fX2_toldOf (i : Int) w μ = some (tolS s i w) := by
  have g6 := hg.2.1
  obtain ⟨c1, c2, c3, c4⟩ := hc.2.2.2 i hi
  rw [show 0 + 3 + i = 3 + i by omega] at c2
  rw [show 0 + 9 + i = 9 + i by omega] at c3
  rw [show 0 + 15 + i = 15 + i by omega] at c4
  unfold fX2_toldOf tolS
  rw [e_farOf2 (x := 0) (a := 0) rfl (by omega) hc hg hi, e_daresIn (x := 0) (a := 0) rfl (by omega) hc hg hi]
  simp (disch := omega) only [grd, if_pos, tn_c, c1, c2, c3, c4, w32_i, tn_k3, tn_9, tn_15, bd_some]
  repeat' (first | rfl | split)
theorem MB_0 {μ s : Mem} (h : MB 0 μ s) : μ 61 2 = s 0 1 ∧ μ 61 1 = s 0 2 ∧ ∀ i : Nat, (i : Int) < s 0 0 → μ 62 i = s 1 i ∧ μ 61 (3 + i) = s 2 i ∧ μ 61 (9 + i) = s 3 i ∧ μ 61 (15 + i) = s 4 i := by
  obtain ⟨-, h2, h3, h4⟩ := h
  refine ⟨h2, h3, fun i hi => ?_⟩
  have := h4 i hi
  rw [show 0 + 3 + i = 3 + i by omega, show 0 + 9 + i = 9 + i by omega, show 0 + 15 + i = 15 + i by omega] at this
  exact this
theorem P_one {i w : Int} {μ : Mem} (h : Inv μ) : Same (fX1_one i w μ) (fX2_one i w) := by
  obtain ⟨s, hR, hC, hM, hg, h0, h40, h61⟩ := Inv_now h
  have g0 := hg.1
  have g6 := hg.2.1
  have c4 := hC.1
  have m4 := hM.1
  by_cases a : 0 ≤ i ∧ i < s 0 0
  · by_cases b : 0 ≤ w ∧ w ≤ 5
    · obtain ⟨i, rfl⟩ : ∃ k : Nat, i = k := ⟨i.toNat, by omega⟩
      refine same_of (v := 1) (μ1 := wr μ 0 11 (tolS s i w)) (μ2 := wr (wr μ 0 11 (tolS s i w)) 60 7 (tolS s i w)) ?_ ?_ (Inv_tell h)
      · unfold fX1_one
        simp (disch := omega) only [e_has, e_within, e_told hC hg a.2, e_tell, bnd2_some, bd_some, b01_t, b01_f, if_pos, if_neg, mlet_e, grd, ite_true, ite_false, not_true_eq_false, not_false_eq_true, ite_self, tn_c, w32_i]
      · have hM2 : MB 0 (wr μ 0 11 (tolS s i w)) s := MB_congr hM g6 (fun c k hk => wr_ne (by omega))
        have m5 := hM2.1
        unfold fX2_one
        simp (disch := omega) only [e_isOne, e_in, e_toldOf hM2 hg a.2, e_tell2, bnd2_some, bd_some, b01_t, b01_f, if_pos, if_neg, mlet_e, grd, ite_true, ite_false, not_true_eq_false, not_false_eq_true, ite_self, tn_c, w32_i]
    · refine same_of (v := -1) (μ1 := μ) (μ2 := μ) ?_ ?_ h
      · unfold fX1_one
        simp (disch := omega) only [e_has, e_within, bnd2_some, bd_some, b01_t, b01_f, if_pos, if_neg, mlet_e, grd, ite_true, ite_false, not_true_eq_false, not_false_eq_true, ite_self, tn_c, w32_i]
      · unfold fX2_one
        simp (disch := omega) only [e_isOne, e_in, bnd2_some, bd_some, b01_t, b01_f, if_pos, if_neg, mlet_e, grd, ite_true, ite_false, not_true_eq_false, not_false_eq_true, ite_self, tn_c, w32_i]
  · refine same_of (v := -1) (μ1 := μ) (μ2 := μ) ?_ ?_ h
    · unfold fX1_one
      simp (disch := omega) only [e_has, e_within, bnd2_some, bd_some, b01_t, b01_f, if_pos, if_neg, mlet_e, grd, ite_true, ite_false, not_true_eq_false, not_false_eq_true, ite_self, tn_c, w32_i]
    · unfold fX2_one
      simp (disch := omega) only [e_isOne, e_in, bnd2_some, bd_some, b01_t, b01_f, if_pos, if_neg, mlet_e, grd, ite_true, ite_false, not_true_eq_false, not_false_eq_true, ite_self, tn_c, w32_i]
def blwR (s : Mem) (d : Int) : Nat → Int
  | 0 => 0
  | k + 1 => blwR s d k + (if s 3 k < d then 1 else 0)
theorem blwR_rng (s : Mem) (d : Int) : ∀ k : Nat, 0 ≤ blwR s d k ∧ blwR s d k ≤ k
  | 0 => by unfold blwR; omega
  | k + 1 => by
    have := blwR_rng s d k
    unfold blwR
    split <;> omega
theorem e_below {b : Nat} {d : Int} {μ s : Mem} (hc : CB b μ s) (hg : GB s) : fX0_howManyBelow b d μ = some (blwR s d (s 0 0).toNat) := by
  have g0 := hg.1
  have g6 := hg.2.1
  have hL : ∀ (m k N : Nat), k + m = (s 0 0).toNat → m < N → fX0_howManyBelow_L4 μ b d N (blwR s d k) (k : Int) = some (blwR s d (s 0 0).toNat) := by
    intro m
    induction m with
    | zero =>
      intro k N h1 h2
      obtain ⟨N, rfl⟩ : ∃ j, N = j + 1 := ⟨N - 1, by omega⟩
      obtain rfl : k = (s 0 0).toNat := by omega
      rw [fX0_howManyBelow_L4, hc.1, if_pos (by omega)]
    | succ m ih =>
      intro k N h1 h2
      obtain ⟨N, rfl⟩ : ∃ j, N = j + 1 := ⟨N - 1, by omega⟩
      have ih' := ih (k + 1) N (by omega) (by omega)
      rw [blwR] at ih'
      have hr := blwR_rng s d k
      obtain ⟨c1, c2, c3, c4⟩ := hc.2.2.2 k (by omega)
      rw [fX0_howManyBelow_L4, hc.1, if_neg (by omega)]
      by_cases q : s 3 k < d
      · rw [if_pos q] at ih'
        simp (disch := omega) only [grd, if_pos, if_neg, tn_c, c3, mlet_e, w32_s, w32_i]
        exact ih'
      · rw [if_neg q, Int.add_zero] at ih'
        simp (disch := omega) only [grd, if_pos, if_neg, tn_c, c3, mlet_e, w32_s, w32_i]
        exact ih'
  unfold fX0_howManyBelow
  have hf := fuel_lt
  generalize fuel = N at hf ⊢
  exact hL (s 0 0).toNat 0 N (by omega) (by omega)
theorem e_lesser {d : Int} {μ s : Mem} (hc : MB 0 μ s) (hg : GB s) : fX2_lesserThan d μ = some (blwR s d (s 0 0).toNat) := by
  have g0 := hg.1
  have g6 := hg.2.1
  have hL : ∀ (m k N : Nat), k + m = (s 0 0).toNat → m < N → fX2_lesserThan_L4 μ d N (blwR s d k) (k : Int) = some (blwR s d (s 0 0).toNat) := by
    intro m
    induction m with
    | zero =>
      intro k N h1 h2
      obtain ⟨N, rfl⟩ : ∃ j, N = j + 1 := ⟨N - 1, by omega⟩
      obtain rfl : k = (s 0 0).toNat := by omega
      rw [fX2_lesserThan_L4, hc.1, if_pos (by omega)]
    | succ m ih =>
      intro k N h1 h2
      obtain ⟨N, rfl⟩ : ∃ j, N = j + 1 := ⟨N - 1, by omega⟩
      have ih' := ih (k + 1) N (by omega) (by omega)
      rw [blwR] at ih'
      have hr := blwR_rng s d k
      obtain ⟨c1, c2, c3, c4⟩ := (MB_0 hc).2.2 k (by omega)
      rw [fX2_lesserThan_L4, hc.1, if_neg (by omega)]
      by_cases q : s 3 k < d
      · rw [if_pos q] at ih'
        simp (disch := omega) only [grd, if_pos, if_neg, tn_9, c3, mlet_e, w32_s, w32_i]
        exact ih'
      · rw [if_neg q] at ih'
        simp (disch := omega) only [grd, if_pos, if_neg, tn_9, c3, mlet_e, w32_s, w32_i]
        exact ih'
  unfold fX2_lesserThan
  have hf := fuel_lt
  generalize fuel = N at hf ⊢
  exact hL (s 0 0).toNat 0 N (by omega) (by omega)
theorem e_isOf2 {i : Nat} {o : Int} {μ s : Mem} (hc : MB 0 μ s) (hg : GB s) (hi : (i : Int) < s 0 0) : fX2_isOf (i : Int) o μ = some (b01 (s 1 i = o ∨ (s 1 i = 4 ∧ o = 3) ∨ (s 1 i = 5 ∧ o = 2))) := by
  have g6 := hg.2.1
  have c1 := (hc.2.2.2 i hi).1
  unfold fX2_isOf
  rw [tn_c, c1]
  generalize s 1 i = k
  simp (disch := omega) only [mlet_e, grd, if_pos]
  by_cases h1 : k = o
  · simp (disch := omega) only [bnd2_some, bd_some, b01_t, b01_f, if_pos, if_neg, mlet_e, grd, ite_true, ite_false, not_true_eq_false, not_false_eq_true, ite_self, tn_c, w32_i]
  · by_cases h3 : k = 4
    · by_cases h4 : o = 3
      · simp (disch := omega) only [bnd2_some, bd_some, b01_t, b01_f, if_pos, if_neg, mlet_e, grd, ite_true, ite_false, not_true_eq_false, not_false_eq_true, ite_self, tn_c, w32_i]
      · simp (disch := omega) only [bnd2_some, bd_some, b01_t, b01_f, if_pos, if_neg, mlet_e, grd, ite_true, ite_false, not_true_eq_false, not_false_eq_true, ite_self, tn_c, w32_i]
    · by_cases h4 : k = 5
      · by_cases h5 : o = 2
        · simp (disch := omega) only [bnd2_some, bd_some, b01_t, b01_f, if_pos, if_neg, mlet_e, grd, ite_true, ite_false, not_true_eq_false, not_false_eq_true, ite_self, tn_c, w32_i]
        · simp (disch := omega) only [bnd2_some, bd_some, b01_t, b01_f, if_pos, if_neg, mlet_e, grd, ite_true, ite_false, not_true_eq_false, not_false_eq_true, ite_self, tn_c, w32_i]
      · by_cases h5 : o = 3
        · simp (disch := omega) only [bnd2_some, bd_some, b01_t, b01_f, if_pos, if_neg, mlet_e, grd, ite_true, ite_false, not_true_eq_false, not_false_eq_true, ite_self, tn_c, w32_i]
        · simp (disch := omega) only [bnd2_some, bd_some, b01_t, b01_f, if_pos, if_neg, mlet_e, grd, ite_true, ite_false, not_true_eq_false, not_false_eq_true, ite_self, tn_c, w32_i]
def mrkS (s : Mem) (i : Nat) (o : Int) : Int := if o = 1 then dar 1 (s 3 i) (w32 (s 0 2 + 1)) (far s i) else if o = 2 then (if s 3 i < 5 then 5 - s 3 i else 0) else if o = 3 then blwR s (s 3 i) (s 0 0).toNat else if o = 4 then be (far s i) else fe (s 3 i)
theorem e_markOf {b i : Nat} {o : Int} {μ s : Mem} (hc : CB b μ s) (hg : GB s) (hi : (i : Int) < s 0 0) : fX0_markOf b (i : Int) o μ = some (mrkS s i o) := by
  have g6 := hg.2.1
  obtain ⟨c1, c2, c3, c4⟩ := hc.2.2.2 i hi
  obtain ⟨-, -, g3⟩ := hg.2.2.2.2 i hi
  have hf := far_rng hg hi
  unfold fX0_markOf mrkS
  rw [e_farOf hc hg hi]
  simp (disch := omega) only [grd, if_pos, tn_c, c3, e_below hc hg, bd_some, hc.2.2.1, e_bold, e_be, e_fe]
  by_cases h1 : o = 1
  · simp (disch := omega) only [bnd2_some, bd_some, b01_t, b01_f, if_pos, if_neg, mlet_e, grd, ite_true, ite_false, not_true_eq_false, not_false_eq_true, ite_self, tn_c, w32_i]
  · by_cases h2 : o = 2
    · unfold mmax
      by_cases q : s 3 i < 5
      · simp (disch := omega) only [bnd2_some, bd_some, b01_t, b01_f, if_pos, if_neg, mlet_e, grd, ite_true, ite_false, not_true_eq_false, not_false_eq_true, ite_self, tn_c, w32_i]
      · by_cases q2 : 0 < 5 - s 3 i
        · omega
        · simp (disch := omega) only [bnd2_some, bd_some, b01_t, b01_f, if_pos, if_neg, mlet_e, grd, ite_true, ite_false, not_true_eq_false, not_false_eq_true, ite_self, tn_c, w32_i]
    · by_cases h3 : o = 3
      · simp (disch := omega) only [bnd2_some, bd_some, b01_t, b01_f, if_pos, if_neg, mlet_e, grd, ite_true, ite_false, not_true_eq_false, not_false_eq_true, ite_self, tn_c, w32_i]
      · by_cases h4 : o = 4
        · simp (disch := omega) only [bnd2_some, bd_some, b01_t, b01_f, if_pos, if_neg, mlet_e, grd, ite_true, ite_false, not_true_eq_false, not_false_eq_true, ite_self, tn_c, w32_i]
        · simp (disch := omega) only [bnd2_some, bd_some, b01_t, b01_f, if_pos, if_neg, mlet_e, grd, ite_true, ite_false, not_true_eq_false, not_false_eq_true, ite_self, tn_c, w32_i]
theorem P_mark {i o : Int} {μ : Mem} (h : Inv μ) : Same (fX1_mark i o μ) (fX2_mark i o) := by
  obtain ⟨s, hR, hC, hM, hg, h0, h40, h61⟩ := Inv_now h
  have g0 := hg.1
  have g6 := hg.2.1
  have c4 := hC.1
  have m4 := hM.1
  by_cases a : 0 ≤ i ∧ i < s 0 0
  · by_cases b : 1 ≤ o ∧ o ≤ 5
    · obtain ⟨i, rfl⟩ : ∃ k : Nat, i = k := ⟨i.toNat, by omega⟩
      obtain ⟨p1, p2, p3, p4⟩ := hC.2.2.2 i a.2
      obtain ⟨q1, q2, q3, q4⟩ := (MB_0 hM).2.2 i a.2
      obtain ⟨-, -, g3⟩ := hg.2.2.2.2 i a.2
      have hf := far_rng hg a.2
      by_cases e : s 1 i = o ∨ (s 1 i = 4 ∧ o = 3) ∨ (s 1 i = 5 ∧ o = 2)
      · refine same_of (v := mrkS s i o) (μ1 := μ) (μ2 := μ) ?_ ?_ h
        · unfold fX1_mark
          simp (disch := omega) only [e_has, e_within, e_isOf, p1, e_markOf hC hg a.2, bnd2_some, bd_some, b01_t, b01_f, if_pos, if_neg, mlet_e, grd, ite_true, ite_false, not_true_eq_false, not_false_eq_true, ite_self, tn_c, w32_i]
        · have ef := e_farOf2 (x := 0) (a := 0) rfl (by omega) hM hg a.2
          have e4 : dar 4 0 0 (far s i) = be (far s i) := by
            unfold dar
            simp (disch := omega) only [bnd2_some, bd_some, b01_t, b01_f, if_pos, if_neg, mlet_e, grd, ite_true, ite_false, not_true_eq_false, not_false_eq_true, ite_self, tn_c, w32_i]
            omega
          have e2 : dar 2 (s 3 i) 0 0 = fe (s 3 i) := by
            unfold dar
            simp (disch := omega) only [bnd2_some, bd_some, b01_t, b01_f, if_pos, if_neg, mlet_e, grd, ite_true, ite_false, not_true_eq_false, not_false_eq_true, ite_self, tn_c, w32_i]
          have e1 : dar 1 (s 3 i) (w32 (s 0 2 + 1)) 0 = dar 1 (s 3 i) (w32 (s 0 2 + 1)) (far s i) := by
            unfold dar
            simp (disch := omega) only [bnd2_some, bd_some, b01_t, b01_f, if_pos, if_neg, mlet_e, grd, ite_true, ite_false, not_true_eq_false, not_false_eq_true, ite_self, tn_c, w32_i]
          unfold fX2_mark mrkS
          rw [e_isOne (by omega), e_in, e_isOf2 hM hg a.2]
          simp (disch := omega) only [bd_some, b01_t, if_neg, if_pos, grd, mlet_e, w32_i, tn_9, q3, ef, e_daresBy, e_lesser hM hg, (MB_0 hM).2.1, e1, e2, e4]
          by_cases h1 : o = 1
          · simp (disch := omega) only [bnd2_some, bd_some, b01_t, b01_f, if_pos, if_neg, mlet_e, grd, ite_true, ite_false, not_true_eq_false, not_false_eq_true, ite_self, tn_c, w32_i]
          · by_cases h2 : o = 2
            · by_cases q : s 3 i < 5
              · simp (disch := omega) only [bnd2_some, bd_some, b01_t, b01_f, if_pos, if_neg, mlet_e, grd, ite_true, ite_false, not_true_eq_false, not_false_eq_true, ite_self, tn_c, w32_i]
              · simp (disch := omega) only [bnd2_some, bd_some, b01_t, b01_f, if_pos, if_neg, mlet_e, grd, ite_true, ite_false, not_true_eq_false, not_false_eq_true, ite_self, tn_c, w32_i]
            · by_cases h3 : o = 3
              · simp (disch := omega) only [bnd2_some, bd_some, b01_t, b01_f, if_pos, if_neg, mlet_e, grd, ite_true, ite_false, not_true_eq_false, not_false_eq_true, ite_self, tn_c, w32_i]
              · by_cases h4 : o = 4
                · simp (disch := omega) only [bnd2_some, bd_some, b01_t, b01_f, if_pos, if_neg, mlet_e, grd, ite_true, ite_false, not_true_eq_false, not_false_eq_true, ite_self, tn_c, w32_i]
                · simp (disch := omega) only [bnd2_some, bd_some, b01_t, b01_f, if_pos, if_neg, mlet_e, grd, ite_true, ite_false, not_true_eq_false, not_false_eq_true, ite_self, tn_c, w32_i]
      · refine same_of (v := -3) (μ1 := fndM μ 3) (μ2 := fndM2 (fndM μ 3) 3) ?_ ?_ (Inv_find h (by omega))
        · unfold fX1_mark
          simp (disch := omega) only [e_has, e_within, e_isOf, p1, fn3, bnd2_some, bd_some, b01_t, b01_f, if_pos, if_neg, mlet_e, grd, ite_true, ite_false, not_true_eq_false, not_false_eq_true, ite_self, tn_c, w32_i]
        · have hM2 : MB 0 (fndM μ 3) s := MB_congr hM g6 (fun c k hk => fndM_ne (by omega))
          have m5 := hM2.1
          unfold fX2_mark
          simp (disch := omega) only [e_isOne, e_in, e_isOf2 hM2 hg a.2, gn3, bnd2_some, bd_some, b01_t, b01_f, if_pos, if_neg, mlet_e, grd, ite_true, ite_false, not_true_eq_false, not_false_eq_true, ite_self, tn_c, w32_i]
    · refine same_of (v := -1) (μ1 := μ) (μ2 := μ) ?_ ?_ h
      · unfold fX1_mark
        simp (disch := omega) only [e_has, e_within, bnd2_some, bd_some, b01_t, b01_f, if_pos, if_neg, mlet_e, grd, ite_true, ite_false, not_true_eq_false, not_false_eq_true, ite_self, tn_c, w32_i]
      · unfold fX2_mark
        simp (disch := omega) only [e_isOne, e_in, bnd2_some, bd_some, b01_t, b01_f, if_pos, if_neg, mlet_e, grd, ite_true, ite_false, not_true_eq_false, not_false_eq_true, ite_self, tn_c, w32_i]
  · refine same_of (v := -1) (μ1 := μ) (μ2 := μ) ?_ ?_ h
    · unfold fX1_mark
      simp (disch := omega) only [e_has, e_within, bnd2_some, bd_some, b01_t, b01_f, if_pos, if_neg, mlet_e, grd, ite_true, ite_false, not_true_eq_false, not_false_eq_true, ite_self, tn_c, w32_i]
    · unfold fX2_mark
      simp (disch := omega) only [e_isOne, e_in, bnd2_some, bd_some, b01_t, b01_f, if_pos, if_neg, mlet_e, grd, ite_true, ite_false, not_true_eq_false, not_false_eq_true, ite_self, tn_c, w32_i]
/-- answers alone, both sides -/
def Same0 (o1 o2 : Option Int) : Prop := ∃ v, o1 = some v ∧ o2 = some v
theorem P_dares {i d n f : Int} {μ : Mem} (h : Inv μ) : Same0 (fX1_dares i d n f μ) (fX2_dares i d n f μ) := by
  obtain ⟨s, hR, hC, hM, hg, h0, h40, h61⟩ := Inv_now h
  have g0 := hg.1
  have g6 := hg.2.1
  have c4 := hC.1
  have m4 := hM.1
  by_cases a : (0 ≤ i ∧ i < s 0 0) ∧ (0 ≤ d ∧ d ≤ 20) ∧ (0 ≤ n ∧ n ≤ 99) ∧ 0 ≤ f ∧ f ≤ 9
  · obtain ⟨i, rfl⟩ : ∃ k : Nat, i = k := ⟨i.toNat, by omega⟩
    obtain ⟨p1, p2, p3, p4⟩ := hC.2.2.2 i (by omega)
    obtain ⟨q1, q2, q3, q4⟩ := (MB_0 hM).2.2 i (by omega)
    refine ⟨dar (s 1 i) d n f, ?_, ?_⟩
    · unfold fX1_dares
      simp (disch := omega) only [e_has, e_within, p1, e_bold, bnd2_some, bd_some, b01_t, b01_f, if_pos, if_neg, mlet_e, grd, ite_true, ite_false, not_true_eq_false, not_false_eq_true, ite_self, tn_c, w32_i]
    · unfold fX2_dares
      simp (disch := omega) only [e_isOne, e_in, q1, e_daresBy, bnd2_some, bd_some, b01_t, b01_f, if_pos, if_neg, mlet_e, grd, ite_true, ite_false, not_true_eq_false, not_false_eq_true, ite_self, tn_c, w32_i]
  · refine ⟨-1, ?_, ?_⟩
    · unfold fX1_dares
      by_cases a1 : 0 ≤ i ∧ i < s 0 0
      · by_cases a2 : 0 ≤ d ∧ d ≤ 20
        · by_cases a3 : 0 ≤ n ∧ n ≤ 99
          · simp (disch := omega) only [e_has, e_within, bnd2_some, bd_some, b01_t, b01_f, if_pos, if_neg, mlet_e, grd, ite_true, ite_false, not_true_eq_false, not_false_eq_true, ite_self, tn_c, w32_i]
          · simp (disch := omega) only [e_has, e_within, bnd2_some, bd_some, b01_t, b01_f, if_pos, if_neg, mlet_e, grd, ite_true, ite_false, not_true_eq_false, not_false_eq_true, ite_self, tn_c, w32_i]
        · simp (disch := omega) only [e_has, e_within, bnd2_some, bd_some, b01_t, b01_f, if_pos, if_neg, mlet_e, grd, ite_true, ite_false, not_true_eq_false, not_false_eq_true, ite_self, tn_c, w32_i]
      · simp (disch := omega) only [e_has, e_within, bnd2_some, bd_some, b01_t, b01_f, if_pos, if_neg, mlet_e, grd, ite_true, ite_false, not_true_eq_false, not_false_eq_true, ite_self, tn_c, w32_i]
    · unfold fX2_dares
      by_cases a1 : 0 ≤ i ∧ i < s 0 0
      · by_cases a2 : 0 ≤ d ∧ d ≤ 20
        · by_cases a3 : 0 ≤ n ∧ n ≤ 99
          · simp (disch := omega) only [e_isOne, e_in, bnd2_some, bd_some, b01_t, b01_f, if_pos, if_neg, mlet_e, grd, ite_true, ite_false, not_true_eq_false, not_false_eq_true, ite_self, tn_c, w32_i]
          · simp (disch := omega) only [e_isOne, e_in, bnd2_some, bd_some, b01_t, b01_f, if_pos, if_neg, mlet_e, grd, ite_true, ite_false, not_true_eq_false, not_false_eq_true, ite_self, tn_c, w32_i]
        · simp (disch := omega) only [e_isOne, e_in, bnd2_some, bd_some, b01_t, b01_f, if_pos, if_neg, mlet_e, grd, ite_true, ite_false, not_true_eq_false, not_false_eq_true, ite_self, tn_c, w32_i]
      · simp (disch := omega) only [e_isOne, e_in, bnd2_some, bd_some, b01_t, b01_f, if_pos, if_neg, mlet_e, grd, ite_true, ite_false, not_true_eq_false, not_false_eq_true, ite_self, tn_c, w32_i]
