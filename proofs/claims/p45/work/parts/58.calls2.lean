/-! QUESTIONS: what comes; rows; by at whose door it was -/
theorem C_where {n m : Nat} {s μ : Mem} (h : Nw n s μ) (hm : m ≤ 40) (h0 : 1 ≤ s 0 0) : ∃ ν, fX1_where (m : Int) μ = some (nitS s m 0 1, ν) ∧ ν 0 11 = whoS s m ∧ Fq μ ν := by
  obtain ⟨h8, hC, hg⟩ := h
  have c4 := hC.1
  obtain ⟨μa, a1, a2, a3⟩ := e_become (b := 25) (b' := 20) (by omega) hC hg
  obtain ⟨⟨v, μb⟩, b1, b2, b3, b4⟩ := e_aside (n := m) hm hg a2
  dsimp only at b2 b3 b4
  subst b2
  refine ⟨wr μb 0 11 (whoS s m), ?_, wr_at (by omega), fun c k q1 q2 q3 => by rw [wr_ne (by omega), b4 _ _ (by omega), a3 _ _ (by omega)]⟩
  have e5 : wr μb 0 11 (whoS s m) 25 5 = nitS s m 0 1 := by rw [wr_ne (by omega)]; exact b3.2.1
  unfold fX1_where
  simp (disch := omega) only [e_within, a1, b1, e_tell, e5, bnd2_some, bd_some, b01_t, b01_f, if_pos, if_neg, mlet_e, grd, ite_true, ite_false, not_true_eq_false, not_false_eq_true, ite_self, tn_c, w32_i]
theorem C_crosses {n m i : Nat} {s μ : Mem} (h : Nw n s μ) (hm : m ≤ 40) (hi : (i : Int) < s 0 0) : ∃ ν, fX1_crosses (i : Int) (m : Int) μ = some (w32 (nitS s m 4 i - s 4 i), ν) ∧ Fq μ ν := by
  obtain ⟨h8, hC, hg⟩ := h
  have c4 := hC.1
  have g6 := hg.2.1
  obtain ⟨μa, a1, a2, a3⟩ := e_become (b := 25) (b' := 20) (by omega) hC hg
  obtain ⟨⟨v, μb⟩, b1, b2, b3, b4⟩ := e_aside (n := m) hm hg a2
  dsimp only at b2 b3 b4
  subst b2
  have e1 : μb 29 i = nitS s m 4 i := (b3.2.2.2 i (by rw [nit_0]; exact hi)).2.2.2
  have e2 : μb 24 i = s 4 i := by rw [b4 _ _ (by omega), a3 _ _ (by omega)]; exact (hC.2.2.2 i hi).2.2.2
  refine ⟨μb, ?_, fun c k q1 q2 q3 => by rw [b4 _ _ (by omega), a3 _ _ (by omega)]⟩
  unfold fX1_crosses
  simp (disch := omega) only [e_has, e_within, a1, b1, e1, e2, bnd2_some, bd_some, b01_t, if_pos, if_neg, grd, not_true_eq_false, not_false_eq_true, tn_c]
theorem C_first {n i : Nat} {s μ : Mem} (h : Nw n s μ) (hi : (i : Int) < s 0 0) : ∃ ν, fX1_first (i : Int) μ = some (fstS s (i : Int) 40 0, ν) ∧ Fq μ ν := by
  obtain ⟨h8, hC, hg⟩ := h
  have c4 := hC.1
  have g6 := hg.2.1
  obtain ⟨μa, a1, a2, a3⟩ := e_become (b := 25) (b' := 20) (by omega) hC hg
  have hf := fuel_lt
  obtain ⟨⟨v, μb⟩, b1, b2, b3⟩ := e_first_L (s := s) (i := (i : Int)) hg 40 0 fuel μa (by omega) (by omega) a2
  dsimp only at b2 b3
  subst b2
  refine ⟨μb, ?_, fun c k q1 q2 q3 => by rw [b3 _ _ (by omega), a3 _ _ (by omega)]⟩
  unfold fX1_first
  simp (disch := omega) only [e_has, a1, bnd2_some, bd_some, b01_t, b01_f, if_pos, if_neg, mlet_e, grd, ite_true, ite_false, not_true_eq_false, not_false_eq_true, ite_self, tn_c, w32_i]
  exact b1
theorem C_lift {n m i : Nat} {s μ : Mem} (h : Nw n s μ) (hm : 1 ≤ m ∧ m ≤ 20) (hi : (i : Int) < s 0 0) : ∃ ν, fX1_lift (i : Int) (m : Int) μ = some (lftS s i m (21 - s 3 i).toNat 0, ν) ∧ Fq μ ν := by
  obtain ⟨h8, hC, hg⟩ := h
  have c4 := hC.1
  have g6 := hg.2.1
  obtain ⟨-, -, g3⟩ := tol_rng hg hi
  have hf := fuel_lt
  obtain ⟨⟨v, μb⟩, b1, b2, b3⟩ := e_lift_L (s := s) (i := i) (n := m) (by omega) hg hi (21 - s 3 i).toNat 0 fuel μ (by omega) (by omega) hC
  dsimp only at b2 b3
  subst b2
  refine ⟨μb, ?_, fun c k q1 q2 q3 => by rw [b3 _ _ (by omega)]⟩
  unfold fX1_lift
  simp (disch := omega) only [e_has, e_within, bnd2_some, bd_some, b01_t, b01_f, if_pos, if_neg, mlet_e, grd, ite_true, ite_false, not_true_eq_false, not_false_eq_true, ite_self, tn_c, w32_i]
  exact b1
theorem C_layAnew {r : Nat} {v : Int} {μ : Mem} (hr : r < 6) : fX1_layAnew (r : Int) v μ = some (filM (wr μ 8 r v) (2 + r) 40 0) := by
  unfold fX1_layAnew
  simp (disch := omega) only [bnd2_some, bd_some, b01_t, b01_f, if_pos, if_neg, mlet_e, grd, ite_true, ite_false, not_true_eq_false, not_false_eq_true, ite_self, tn_c, w32_i]
/-- a row with n places, all 0 -/
theorem C_row {r n : Nat} {μ : Mem} (hr : r < 6) (hn : n ≤ 40) : fX1_row (r : Int) (n : Int) μ = some ((n : Int), filM (wr μ 8 r (n : Int)) (2 + r) 40 0) := by
  unfold fX1_row
  simp (disch := omega) only [e_isRow, C_layAnew, bnd2_some, bd_some, b01_t, b01_f, if_pos, if_neg, mlet_e, grd, ite_true, ite_false, not_true_eq_false, not_false_eq_true, ite_self, tn_c, w32_i]
theorem C_refused {r n i : Nat} {μ : Mem} (hr : r < 6) (h : μ 8 r = (n : Int)) : fX1_refusalOfPlace (r : Int) (i : Int) μ = (if i < n then some (0, μ) else some (-3, fndM μ 2)) := by
  unfold fX1_refusalOfPlace
  by_cases q : i < n
  · rw [if_pos q]
    simp (disch := omega) only [e_isRow, h, bnd2_some, bd_some, b01_t, b01_f, if_pos, if_neg, mlet_e, grd, ite_true, ite_false, not_true_eq_false, not_false_eq_true, ite_self, tn_c, w32_i]
  · rw [if_neg q]
    simp (disch := omega) only [e_isRow, h, fn2, bnd2_some, bd_some, b01_t, b01_f, if_pos, if_neg, mlet_e, grd, ite_true, ite_false, not_true_eq_false, not_false_eq_true, ite_self, tn_c, w32_i]
theorem C_lay {r n i : Nat} {v : Int} {μ : Mem} (hr : r < 6) (h : μ 8 r = (n : Int)) (hn : n ≤ 40) (hi : i < n) : fX1_lay (r : Int) (i : Int) v μ = some (1, wr (wr μ (2 + r) i v) 0 11 (μ (2 + r) i)) := by
  unfold fX1_lay
  rw [C_refused hr h, if_pos hi]
  simp (disch := omega) only [e_tell, bnd2_some, bd_some, b01_t, b01_f, if_pos, if_neg, mlet_e, grd, ite_true, ite_false, not_true_eq_false, not_false_eq_true, ite_self, tn_c, w32_i]
theorem C_at {r n i : Nat} {μ : Mem} (hr : r < 6) (h : μ 8 r = (n : Int)) (hn : n ≤ 40) (hi : i < n) : fX1_at (r : Int) (i : Int) μ = some (1, wr μ 0 11 (μ (2 + r) i)) := by
  unfold fX1_at
  rw [C_refused hr h, if_pos hi]
  simp (disch := omega) only [e_tell, bnd2_some, bd_some, b01_t, b01_f, if_pos, if_neg, mlet_e, grd, ite_true, ite_false, not_true_eq_false, not_false_eq_true, ite_self, tn_c, w32_i]
theorem C_at_no {r n i : Nat} {μ : Mem} (hr : r < 6) (h : μ 8 r = (n : Int)) (hi : n ≤ i) : fX1_at (r : Int) (i : Int) μ = some (-3, fndM μ 2) := by
  unfold fX1_at
  rw [C_refused hr h, if_neg (by omega)]
  simp (disch := omega) only [bnd2_some, bd_some, b01_t, b01_f, if_pos, if_neg, mlet_e, grd, ite_true, ite_false, not_true_eq_false, not_false_eq_true, ite_self, tn_c, w32_i]
theorem C_tear {r : Nat} {μ : Mem} (hr : r < 6) : fX1_tear (r : Int) μ = (if 0 ≤ μ 8 r then some (1, wr μ 8 r (-1)) else some (-3, fndM μ 1)) := by
  unfold fX1_tear
  by_cases q : 0 ≤ μ 8 r
  · simp (disch := omega) only [e_isRow, fn1, bnd2_some, bd_some, b01_t, b01_f, if_pos, if_neg, mlet_e, grd, ite_true, ite_false, not_true_eq_false, not_false_eq_true, ite_self, tn_c, w32_i]
  · simp (disch := omega) only [e_isRow, fn1, bnd2_some, bd_some, b01_t, b01_f, if_pos, if_neg, mlet_e, grd, ite_true, ite_false, not_true_eq_false, not_false_eq_true, ite_self, tn_c, w32_i]
/-- a row of holders: all are some, or one is none -/
theorem C_holders {n i r m : Nat} {s μ : Mem} (h : Nw n s μ) (hi : (i : Int) < s 0 0) (hr : r < 6) (h8 : μ 8 r = (m : Int)) (hm : 1 ≤ m ∧ m ≤ 10) : fX1_refusalOfHolders (i : Int) (r : Int) μ = (if ∀ j, j < m → 0 ≤ μ (2 + r) j ∧ μ (2 + r) j < s 0 0 then some (0, μ) else some (-3, fndM μ 3)) := by
  have c4 := h.2.1.1
  unfold fX1_refusalOfHolders
  have hf := fuel_lt
  generalize fuel = N at hf ⊢
  by_cases q : ∀ j, j < m → 0 ≤ μ (2 + r) j ∧ μ (2 + r) j < s 0 0
  · rw [if_pos q]
    simp (disch := omega) only [e_has, e_isRow, e_within, h8, bnd2_some, bd_some, b01_t, b01_f, if_pos, if_neg, mlet_e, grd, ite_true, ite_false, not_true_eq_false, not_false_eq_true, ite_self, tn_c, w32_i]
    rw [show (0 : Int) = ((0 : Nat) : Int) from rfl]
    exact e_hold_ok hr hm.2 (fun j hj => by rw [c4]; exact q j hj) m 0 N (by omega) (by omega)
  · rw [if_neg q]
    simp (disch := omega) only [e_has, e_isRow, e_within, h8, bnd2_some, bd_some, b01_t, b01_f, if_pos, if_neg, mlet_e, grd, ite_true, ite_false, not_true_eq_false, not_false_eq_true, ite_self, tn_c, w32_i]
    have hex : ∃ j, j < m ∧ ¬ (0 ≤ μ (2 + r) j ∧ μ (2 + r) j < s 0 0) := by
      refine Classical.byContradiction fun z => q fun j hj => Classical.byContradiction fun z2 => z ⟨j, hj, z2⟩
    obtain ⟨j0, hj, hk⟩ := hex
    rw [show (0 : Int) = ((0 : Nat) : Int) from rfl]
    refine (e_hold_no hr hm.2 hj (by rw [c4]; exact hk) j0 0 N (by omega) (by omega)).trans ?_
    rw [fn3, bnd2_some]
def dbS (s : Mem) (i : Nat) (ρ : Nat → Int) (m : Nat) : Int := setR (fun d => gosS (wr s 3 i (d : Int)) ρ m 0) 21
def kbS (s : Mem) (i : Nat) (ρ : Nat → Int) (m : Nat) : Int := setR (fun d => gosS (wr s 1 i (d : Int)) ρ m 0) 6
theorem C_darings {n i r m : Nat} {s μ : Mem} (h : Nw n s μ) (hi : (i : Int) < s 0 0) (hr : r < 6) (h8 : μ 8 r = (m : Int)) (hm : 1 ≤ m ∧ m ≤ 10) (hh : ∀ j, j < m → 0 ≤ μ (2 + r) j ∧ μ (2 + r) j < s 0 0) : ∃ ν, fX1_darings (i : Int) (r : Int) μ = some (dbS s i (fun j => μ (2 + r) j) m, ν) ∧ Fq μ ν := by
  have e1 := C_holders h hi hr h8 hm
  rw [if_pos hh] at e1
  obtain ⟨⟨v, ν⟩, b1, b2, b3⟩ := e_darBy (s := s) (μ := μ) (i := i) (r := r) (n := m) (ρ := fun j => μ (2 + r) j) hr (by omega) h.2.2 hi h.2.1 h8 (fun _ _ => rfl)
  dsimp only at b2 b3
  subst b2
  refine ⟨ν, ?_, fun c k q1 q2 q3 => b3 _ _ (by omega)⟩
  unfold fX1_darings
  rw [e1, bnd2_some, if_pos rfl, b1, bnd2_some]
  rfl
theorem C_kinds {n i r m : Nat} {s μ : Mem} (h : Nw n s μ) (hi : (i : Int) < s 0 0) (hr : r < 6) (h8 : μ 8 r = (m : Int)) (hm : 1 ≤ m ∧ m ≤ 10) (hh : ∀ j, j < m → 0 ≤ μ (2 + r) j ∧ μ (2 + r) j < s 0 0) : ∃ ν, fX1_kinds (i : Int) (r : Int) μ = some (kbS s i (fun j => μ (2 + r) j) m, ν) ∧ Fq μ ν := by
  have e1 := C_holders h hi hr h8 hm
  rw [if_pos hh] at e1
  have hf := fuel_lt
  obtain ⟨⟨v, ν⟩, b1, b2, b3⟩ := e_kinds_L (s := s) (i := i) (r := r) (n := m) (ρ := fun j => μ (2 + r) j) hr (by omega) h.2.2 hi 6 0 fuel μ (by omega) (by omega) h.2.1 h8 (fun _ _ => rfl)
  dsimp only at b2 b3
  subst b2
  refine ⟨ν, ?_, fun c k q1 q2 q3 => b3 _ _ (by omega)⟩
  unfold fX1_kinds
  rw [e1, bnd2_some, if_pos rfl]
  exact b1
theorem C_look {n i r m : Nat} {s μ : Mem} (h : Nw n s μ) (hi : (i : Int) < s 0 0) (hr : r < 6) (h8 : μ 8 r = (m : Int)) (hm : 1 ≤ m ∧ m ≤ 10) (hh : ∀ j, j < m → 0 ≤ μ (2 + r) j ∧ μ (2 + r) j < s 0 0) (hz : ¬ dbS s i (fun j => μ (2 + r) j) m = 0) : ∃ ν B, fX1_look (i : Int) (r : Int) μ = some (((B + 1 : Nat) : Int), ν) ∧ B ≤ 19 ∧ ν 0 11 = mS s i (dbS s i (fun j => μ (2 + r) j) m) B ∧ Fq μ ν := by
  have e1 := C_holders h hi hr h8 hm
  rw [if_pos hh] at e1
  have hC := h.2.1
  have hg := h.2.2
  obtain ⟨⟨v, μ1⟩, b1, b2, b3⟩ := e_darBy (s := s) (μ := μ) (i := i) (r := r) (n := m) (ρ := fun j => μ (2 + r) j) hr (by omega) hg hi hC h8 (fun _ _ => rfl)
  dsimp only at b2 b3
  have b2 : v = dbS s i (fun j => μ (2 + r) j) m := b2
  rw [← b2] at hz
  rw [← b2]
  obtain ⟨μp, p1, p2, p3⟩ := e_countParts (s := s) (i := i) (bits := v) hg hi (CB_congr hC (fun c k hk => b3 _ _ (by omega)))
  have hb := bst_le (mS s i v) 19
  generalize hB : bst (mS s i v) 19 = B at hb
  refine ⟨wr μp 0 11 (mS s i v B), B, ?_, hb, wr_at (by omega), fun c k q1 q2 q3 => by rw [wr_ne (by omega), p3 _ _ (by omega) (by omega), b3 _ _ (by omega)]⟩
  unfold fX1_look
  have hf := fuel_lt
  generalize fuel = N at hf ⊢
  simp (disch := omega) only [e1, bnd2_some, if_pos, if_neg, b1, ite_true, p1, bd_some, mlet_e]
  refine (e_look_L (s := s) (i := i) (bits := v) p2 19 0 N (by omega) (by omega)).trans ?_
  rw [hB, e_gp (by omega) p2, bd_some, e_tell, bnd2_some, w32_s (by omega)]
/-- a row in which somebody is missing -/
theorem C_no {n i r m : Nat} {s μ : Mem} (h : Nw n s μ) (hi : (i : Int) < s 0 0) (hr : r < 6) (h8 : μ 8 r = (m : Int)) (hm : 1 ≤ m ∧ m ≤ 10) (hh : ¬ ∀ j, j < m → 0 ≤ μ (2 + r) j ∧ μ (2 + r) j < s 0 0) : fX1_darings (i : Int) (r : Int) μ = some (-3, fndM μ 3) ∧ fX1_kinds (i : Int) (r : Int) μ = some (-3, fndM μ 3) ∧ fX1_look (i : Int) (r : Int) μ = some (-3, fndM μ 3) := by
  have e1 := C_holders h hi hr h8 hm
  rw [if_neg hh] at e1
  refine ⟨?_, ?_, ?_⟩
  · unfold fX1_darings
    rw [e1, bnd2_some, if_neg (by omega)]
  · unfold fX1_kinds
    rw [e1, bnd2_some, if_neg (by omega)]
  · unfold fX1_look
    rw [e1, bnd2_some, if_neg (by omega)]
