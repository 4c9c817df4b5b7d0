/-! CALLS: what a call of the class does, by the spec: n deeds, s the river as it is -/
def Nw (n : Nat) (s μ : Mem) : Prop := μ 0 8 = (n : Int) ∧ CB 20 μ s ∧ GB s
/-- what a question leaves as it is -/
def Fq (μ ν : Mem) : Prop := ∀ c k, ¬ (c = 0 ∧ ¬ k = 8) → ¬ (25 ≤ c ∧ c ≤ 29) → ¬ (36 ≤ c ∧ c ≤ 59) → ν c k = μ c k
/-- what a deed behind n others leaves as it is -/
def Fdd (n : Nat) (μ ν : Mem) : Prop := ∀ c k, ¬ c = 0 → ¬ (20 ≤ c ∧ c ≤ 29) → ¬ (c = 30 ∧ n ≤ k) → ¬ (36 ≤ c ∧ c ≤ 59) → ν c k = μ c k
theorem Fq_r (μ : Mem) : Fq μ μ := fun _ _ _ _ _ => rfl
theorem Fdd_r (n : Nat) (μ : Mem) : Fdd n μ μ := fun _ _ _ _ _ _ => rfl
theorem Fq_t {μ ν ρ : Mem} (h : Fq μ ν) (h2 : Fq ν ρ) : Fq μ ρ := fun c k a b d => by rw [h2 c k a b d, h c k a b d]
theorem Fdd_t {n m : Nat} {μ ν ρ : Mem} (h : Fdd n μ ν) (hm : n ≤ m) (h2 : Fdd m ν ρ) : Fdd n μ ρ := fun c k a b d e => by rw [h2 c k a b (by omega) e, h c k a b d e]
theorem Fq_d {n : Nat} {μ ν : Mem} (h : Fq μ ν) : Fdd n μ ν := fun c k a b _ e => h c k (by omega) (by omega) e
theorem Fdd_w {n m : Nat} {μ ν : Mem} (h : Fdd n μ ν) (hm : m ≤ n) : Fdd m μ ν := fun c k a b d e => h c k a b (by omega) e
theorem Nw_q {n : Nat} {s μ ν : Mem} (h : Nw n s μ) (hq : Fq μ ν) : Nw n s ν := ⟨by rw [hq _ _ (by omega) (by omega) (by omega)]; exact h.1, CB_congr h.2.1 (fun c k hk => hq _ _ (by omega) (by omega) (by omega)), h.2.2⟩
theorem Fq_11 {μ : Mem} {k : Nat} {v : Int} (h : ¬ k = 8) : Fq μ (wr μ 0 k v) := fun c k' a _ _ => wr_ne (by omega)
theorem Fq_fnd {μ : Mem} {f : Nat} : Fq μ (fndM μ f) := fun c k a b d => fndM_ne (by omega)
/-- the river behind the first deeds -/
def rn (s0 : Mem) (d : Nat → Int) : Nat → Mem
  | 0 => s0
  | k + 1 => und (rn s0 d k) (d k)
theorem rn_congr {s0 : Mem} {d d' : Nat → Int} : ∀ n, (∀ k, k < n → d k = d' k) → rn s0 d n = rn s0 d' n
  | 0, _ => rfl
  | n + 1, h => by rw [rn, rn, rn_congr n (fun k hk => h k (by omega)), h n (by omega)]
theorem tol_rng {s : Mem} {i : Nat} (hg : GB s) (hi : (i : Int) < s 0 0) : (0 ≤ s 1 i ∧ s 1 i ≤ 5) ∧ (0 ≤ s 2 i ∧ s 2 i ≤ 9) ∧ 0 ≤ s 3 i ∧ s 3 i ≤ 20 := hg.2.2.2.2 i hi
theorem C_one {n i : Nat} {w : Int} {s μ : Mem} (h : Nw n s μ) (hi : (i : Int) < s 0 0) (hw : 0 ≤ w ∧ w ≤ 5) : fX1_one (i : Int) w μ = some (1, wr μ 0 11 (tolS s i w)) := by
  obtain ⟨h8, hC, hg⟩ := h
  have c4 := hC.1
  have g6 := hg.2.1
  unfold fX1_one
  simp (disch := omega) only [e_has, e_within, e_told hC hg hi, e_tell, bnd2_some, bd_some, b01_t, b01_f, if_pos, if_neg, mlet_e, grd, ite_true, ite_false, not_true_eq_false, not_false_eq_true, ite_self, tn_c, w32_i]
theorem C_told {n i : Nat} {w : Int} {s μ : Mem} (h : Nw n s μ) (hi : (i : Int) < s 0 0) (hw : 0 ≤ w ∧ w ≤ 5) : fL_told (i : Int) w μ = some (tolS s i w, wr μ 0 11 (tolS s i w)) := by
  unfold fL_told
  rw [C_one h hi hw, bnd2_some, if_neg (by omega)]
  show some _ = _
  rw [wr_at (by omega)]
theorem C_people {n : Nat} {s μ : Mem} (h : Nw n s μ) : μ 20 4 = s 0 0 := h.2.1.1
theorem C_cnt1 {n : Nat} {s μ : Mem} (h : Nw n s μ) : fX1_count 1 μ = some (s 0 2) := by
  unfold fX1_count
  simp (disch := omega) only [h.2.1.2.2.1, bnd2_some, bd_some, b01_t, b01_f, if_pos, if_neg, mlet_e, grd, ite_true, ite_false, not_true_eq_false, not_false_eq_true, ite_self, tn_c, w32_i]
theorem C_cnt2 {n : Nat} {s μ : Mem} (h : Nw n s μ) : fX1_count 2 μ = some (n : Int) := by
  unfold fX1_count
  simp (disch := omega) only [h.1, bnd2_some, bd_some, b01_t, b01_f, if_pos, if_neg, mlet_e, grd, ite_true, ite_false, not_true_eq_false, not_false_eq_true, ite_self, tn_c, w32_i]
theorem C_cnt3 {n : Nat} {s μ : Mem} (h : Nw n s μ) : fX1_count 3 μ = some (s 0 1) := by
  unfold fX1_count
  simp (disch := omega) only [h.2.1.2.1, bnd2_some, bd_some, b01_t, b01_f, if_pos, if_neg, mlet_e, grd, ite_true, ite_false, not_true_eq_false, not_false_eq_true, ite_self, tn_c, w32_i]
def bitS (x : Int) : Int := if x < 0 then 0 else bshl 1 x
theorem C_cnt4 {n : Nat} {s μ : Mem} (h : Nw n s μ) : fX1_count 4 μ = some (bitS (hold s 0)) := by
  obtain ⟨h8, hC, hg⟩ := h
  unfold fX1_count fX1_bitOf bitS
  by_cases q : hold s 0 < 0
  · simp (disch := omega) only [e_holder hC hg, bnd2_some, bd_some, b01_t, b01_f, if_pos, if_neg, mlet_e, grd, ite_true, ite_false, not_true_eq_false, not_false_eq_true, ite_self, tn_c, w32_i]
  · simp (disch := omega) only [e_holder hC hg, bnd2_some, bd_some, b01_t, b01_f, if_pos, if_neg, mlet_e, grd, ite_true, ite_false, not_true_eq_false, not_false_eq_true, ite_self, tn_c, w32_i]
/-- all daring together -/
def alS (s : Mem) : Int := dsS s (bshl 1 (s 0 0) - 1)
theorem C_cnt5 {n : Nat} {s μ : Mem} (h : Nw n s μ) : fX1_count 5 μ = some (alS s) := by
  obtain ⟨h8, hC, hg⟩ := h
  have g0 := hg.1
  have g6 := hg.2.1
  have hp := pow_64 (n := (s 0 0).toNat) (by omega)
  have e : w32 (bshl 1 (s 0 0) - 1) = bshl 1 (s 0 0) - 1 := w32_i (by rw [bshl_p (by omega)]; omega)
  unfold fX1_count alS
  simp (disch := omega) only [hC.1, e, e_dOf hC hg, bnd2_some, bd_some, b01_t, b01_f, if_pos, if_neg, mlet_e, grd, ite_true, ite_false, not_true_eq_false, not_false_eq_true, ite_self, tn_c, w32_i]
theorem C_cnt6 {n : Nat} {s μ : Mem} (h : Nw n s μ) : fX1_count 6 μ = some (acR s (s 0 0).toNat) := by
  obtain ⟨h8, hC, hg⟩ := h
  unfold fX1_count
  simp (disch := omega) only [e_allX hC hg, bnd2_some, bd_some, b01_t, b01_f, if_pos, if_neg, mlet_e, grd, ite_true, ite_false, not_true_eq_false, not_false_eq_true, ite_self, tn_c, w32_i]
theorem C_dares {n i : Nat} {d m f : Int} {s μ : Mem} (h : Nw n s μ) (hi : (i : Int) < s 0 0) (hd : 0 ≤ d ∧ d ≤ 20) (hm : 0 ≤ m ∧ m ≤ 99) (hf : 0 ≤ f ∧ f ≤ 9) : fX1_dares (i : Int) d m f μ = some (dar (s 1 i) d m f) := by
  obtain ⟨h8, hC, hg⟩ := h
  have c4 := hC.1
  have g6 := hg.2.1
  obtain ⟨p1, p2, p3, p4⟩ := hC.2.2.2 i hi
  unfold fX1_dares
  simp (disch := omega) only [e_has, e_within, p1, e_bold, bnd2_some, bd_some, b01_t, b01_f, if_pos, if_neg, mlet_e, grd, ite_true, ite_false, not_true_eq_false, not_false_eq_true, ite_self, tn_c, w32_i]
theorem C_perform {n : Nat} {d : Int} {s μ : Mem} (h : Nw n s μ) (hn : n < 40) (hg : GB (und s d)) : ∃ ν, fX1_perform d μ = some ν ∧ Nw (n + 1) (und s d) ν ∧ ν 30 n = d ∧ Fdd n μ ν := by
  obtain ⟨h8, hC, hg0⟩ := h
  obtain ⟨ν, e, q1, q2, q3, q4⟩ := e_perform (d := d) h8 hn hC hg0
  exact ⟨ν, e, ⟨q2, q1, hg⟩, q3, fun c k a b d e => q4 c k (by omega) (by omega) (by omega)⟩
theorem C_night {n : Nat} {s μ : Mem} (h : Nw n s μ) (hn : n < 40) (h0 : 1 ≤ s 0 0) : ∃ ν, fX1_night μ = some (hold s 0, ν) ∧ Nw (n + 1) (nightS s) ν ∧ ν 30 n = dd 0 0 0 ∧ Fdd n μ ν := by
  have h' := h
  obtain ⟨h8, hC, hg⟩ := h
  have c4 := hC.1
  obtain ⟨ν, e1, b1, b2, b3⟩ := C_perform (d := dd 0 0 0) h' hn (by rw [und_night]; exact GB_night hg)
  rw [und_night] at b1
  refine ⟨ν, ?_, b1, b2, b3⟩
  unfold fX1_night
  rw [e_holder hC hg, show fX1_deedOf 0 0 0 μ = some (dd 0 0 0) from rfl]
  simp (disch := omega) only [e1, bnd2_some, bd_some, b01_t, b01_f, if_pos, if_neg, mlet_e, grd, ite_true, ite_false, not_true_eq_false, not_false_eq_true, ite_self, tn_c, w32_i]
theorem C_raise {n i y : Nat} {s μ : Mem} (h : Nw n s μ) (hn : n < 40) (hi : (i : Int) < s 0 0) (hy : 1 ≤ y ∧ y ≤ 9) (hd : s 3 i + (y : Int) ≤ 20) : ∃ ν, fX1_raise (i : Int) (y : Int) μ = some (s 3 i + (y : Int), ν) ∧ Nw (n + 1) (wr s 3 i (s 3 i + (y : Int))) ν ∧ ν 30 n = dd 1 (i : Int) (y : Int) ∧ Fdd n μ ν := by
  have h' := h
  obtain ⟨h8, hC, hg⟩ := h
  have c4 := hC.1
  have g6 := hg.2.1
  obtain ⟨p1, p2, p3, p4⟩ := hC.2.2.2 i hi
  obtain ⟨-, -, g3⟩ := tol_rng hg hi
  have eu : und s (dd 1 (i : Int) (y : Int)) = wr s 3 i (s 3 i + (y : Int)) := by
    rw [und_raise hg hi (by omega)]
    unfold mmin
    by_cases z : s 3 i + (y : Int) = 20
    · rw [if_neg (by omega), z]
    · rw [if_pos (by omega)]
  obtain ⟨ν, e1, b1, b2, b3⟩ := C_perform (d := dd 1 (i : Int) (y : Int)) h' hn (by rw [eu]; exact GB_wr3 hg (by omega))
  rw [eu] at b1
  have p5 : ν 23 i = s 3 i + (y : Int) := by
    have := (b1.2.1.2.2.2 i (by rw [wr_ne (by omega)]; exact hi)).2.2.1
    rw [wr_at (by omega)] at this
    exact this
  refine ⟨ν, ?_, b1, b2, b3⟩
  unfold fX1_raise
  rw [show fX1_deedOf 1 (i : Int) (y : Int) μ = some (dd 1 (i : Int) (y : Int)) from rfl]
  simp (disch := omega) only [e_has, e_within, p3, e1, p5, bnd2_some, bd_some, b01_t, b01_f, if_pos, if_neg, mlet_e, grd, ite_true, ite_false, not_true_eq_false, not_false_eq_true, ite_self, tn_c, w32_i]
theorem C_shame {n i y : Nat} {s μ : Mem} (h : Nw n s μ) (hn : n < 40) (hi : (i : Int) < s 0 0) (hy : 1 ≤ y ∧ y ≤ 9) (hd : (y : Int) ≤ s 3 i) : ∃ ν, fX1_shame (i : Int) (y : Int) μ = some (s 3 i - (y : Int), ν) ∧ Nw (n + 1) (wr s 3 i (s 3 i - (y : Int))) ν ∧ ν 30 n = dd 2 (i : Int) (y : Int) ∧ Fdd n μ ν := by
  have h' := h
  obtain ⟨h8, hC, hg⟩ := h
  have c4 := hC.1
  have g6 := hg.2.1
  obtain ⟨p1, p2, p3, p4⟩ := hC.2.2.2 i hi
  obtain ⟨-, -, g3⟩ := tol_rng hg hi
  have eu : und s (dd 2 (i : Int) (y : Int)) = wr s 3 i (s 3 i - (y : Int)) := by
    rw [und_shame hg hi (by omega)]
    unfold mmax
    by_cases z : s 3 i = (y : Int)
    · rw [if_neg (by omega)]
      congr 1
      omega
    · rw [if_pos (by omega)]
  obtain ⟨ν, e1, b1, b2, b3⟩ := C_perform (d := dd 2 (i : Int) (y : Int)) h' hn (by rw [eu]; exact GB_wr3 hg (by omega))
  rw [eu] at b1
  have p5 : ν 23 i = s 3 i - (y : Int) := by
    have := (b1.2.1.2.2.2 i (by rw [wr_ne (by omega)]; exact hi)).2.2.1
    rw [wr_at (by omega)] at this
    exact this
  refine ⟨ν, ?_, b1, b2, b3⟩
  unfold fX1_shame
  rw [show fX1_deedOf 2 (i : Int) (y : Int) μ = some (dd 2 (i : Int) (y : Int)) from rfl]
  simp (disch := omega) only [e_has, e_within, p3, e1, p5, bnd2_some, bd_some, b01_t, b01_f, if_pos, if_neg, mlet_e, grd, ite_true, ite_false, not_true_eq_false, not_false_eq_true, ite_self, tn_c, w32_i]
theorem C_door {n i y : Nat} {s μ : Mem} (h : Nw n s μ) (hn : n < 40) (hi : (i : Int) < s 0 0) (hy : y ≤ 9) (hd : ¬ s 2 i = (y : Int)) : ∃ ν, fX1_door (i : Int) (y : Int) μ = some (s 2 i, ν) ∧ Nw (n + 1) (wr s 2 i (y : Int)) ν ∧ ν 30 n = dd 3 (i : Int) (y : Int) ∧ Fdd n μ ν := by
  have h' := h
  obtain ⟨h8, hC, hg⟩ := h
  have c4 := hC.1
  have g6 := hg.2.1
  obtain ⟨p1, p2, p3, p4⟩ := hC.2.2.2 i hi
  have eu : und s (dd 3 (i : Int) (y : Int)) = wr s 2 i (y : Int) := und_door hg hi (by omega)
  obtain ⟨ν, e1, b1, b2, b3⟩ := C_perform (d := dd 3 (i : Int) (y : Int)) h' hn (by rw [eu]; exact GB_wr2 hg (by omega))
  rw [eu] at b1
  refine ⟨ν, ?_, b1, b2, b3⟩
  unfold fX1_door
  rw [show fX1_deedOf 3 (i : Int) (y : Int) μ = some (dd 3 (i : Int) (y : Int)) from rfl]
  simp (disch := omega) only [e_has, e_isPlace, p2, e1, bnd2_some, bd_some, b01_t, b01_f, if_pos, if_neg, mlet_e, grd, ite_true, ite_false, not_true_eq_false, not_false_eq_true, ite_self, tn_c, w32_i]
theorem C_undo {n m : Nat} {s s0 μ : Mem} {d : Nat → Int} (h : Nw n s μ) (hn : n ≤ 40) (hm : m ≤ n) (h0 : CB 15 μ s0) (hd : ∀ k, k < m → μ 30 k = d k) (hg : ∀ k, k ≤ m → GB (rn s0 d k)) : ∃ ν, fX1_undo (m : Int) μ = some ((n : Int) - m, ν) ∧ Nw m (rn s0 d m) ν ∧ Fdd 40 μ ν := by
  obtain ⟨h8, hC, hg0⟩ := h
  obtain ⟨μ1, e1, b1, b4⟩ := e_again (μ := wr μ 0 8 (m : Int)) (n := m) (h := rn s0 d) (by omega) hg (wr_at (by omega)) (fun k hk => by rw [wr_ne (by omega), hd k hk]; rfl) (CB_congr h0 (fun c' k hk => wr_ne (by omega)))
  refine ⟨μ1, ?_, ⟨by rw [b4 _ _ (by omega), wr_at (by omega)], b1, hg m (by omega)⟩, fun c k q1 q2 q3 q4 => by rw [b4 _ _ (by omega), wr_ne (by omega)]⟩
  unfold fX1_undo
  simp (disch := omega) only [e_within, h8, e1, bnd2_some, bd_some, b01_t, b01_f, if_pos, if_neg, mlet_e, grd, ite_true, ite_false, not_true_eq_false, not_false_eq_true, ite_self, tn_c, w32_i]
theorem C_keep {n k : Nat} {s μ : Mem} (h : Nw n s μ) (hn : n ≤ 40) (h0 : 1 ≤ s 0 0) (hk : k < 3) : fX1_keep (k : Int) μ = some ((n : Int), wr (cpy μ 30 0 (32 + k) 0 n) 35 k (n : Int)) := by
  obtain ⟨h8, hC, hg⟩ := h
  have c4 := hC.1
  unfold fX1_keep
  simp (disch := omega) only [e_isKept, h8, tn_i0, wr_ne, cpy_ne, bnd2_some, bd_some, b01_t, b01_f, if_pos, if_neg, mlet_e, grd, ite_true, ite_false, not_true_eq_false, not_false_eq_true, ite_self, tn_c, w32_i]
theorem C_on {n m k : Nat} {s s0 μ : Mem} {d : Nat → Int} (h : Nw n s μ) (hk : k < 3) (hm : m ≤ 40) (hk2 : μ 35 k = (m : Int)) (h0 : CB 15 μ s0) (hd : ∀ j, j < m → μ (32 + k) j = d j) (hg : ∀ j, j ≤ m → GB (rn s0 d j)) : ∃ ν, fX1_on (k : Int) μ = some ((m : Int), ν) ∧ Nw m (rn s0 d m) ν ∧ (∀ j, j < m → ν 30 j = d j) ∧ Fdd 0 μ ν := by
  obtain ⟨h8, hC, hg0⟩ := h
  have f30 : ∀ j, j < m → cpy (wr μ 0 8 (m : Int)) (32 + k) 0 30 0 m 30 j = d j := fun j hj => by
    rw [cpy_at (by omega), wr_ne (by omega), show 0 + (j - 0) = j by omega, hd j hj]
  obtain ⟨μ1, e1, b1, b4⟩ := e_again (μ := cpy (wr μ 0 8 (m : Int)) (32 + k) 0 30 0 m) (n := m) (h := rn s0 d) (by omega) hg (by rw [cpy_ne (by omega), wr_at (by omega)]) (fun j hj => by rw [f30 j hj]; rfl) (CB_congr h0 (fun c' k hk => by rw [cpy_ne (by omega), wr_ne (by omega)]))
  have e18 : μ1 0 8 = (m : Int) := by rw [b4 _ _ (by omega), cpy_ne (by omega), wr_at (by omega)]
  refine ⟨μ1, ?_, ⟨e18, b1, hg m (by omega)⟩, fun j hj => by rw [b4 _ _ (by omega), f30 j hj], fun c k q1 q2 q3 q4 => by rw [b4 _ _ (by omega), cpy_ne (by omega), wr_ne (by omega)]⟩
  unfold fX1_on
  simp (disch := omega) only [e_isKept, hk2, wr_at, tn_i0, e1, e18, bnd2_some, bd_some, b01_t, b01_f, if_pos, if_neg, mlet_e, grd, ite_true, ite_false, not_true_eq_false, not_false_eq_true, ite_self, tn_c, w32_i]
