/-! reading a text: the spec -/
def skS (f : Nat → Int) (n : Nat) : Nat → Nat → Nat
  | 0, k => k
  | m + 1, k => if f k = 32 then skS f n m (k + 1) else k
def sk (f : Nat → Int) (n k : Nat) : Nat := skS f n (n - k) k
theorem skS_le (f : Nat → Int) (n : Nat) : ∀ m k, k ≤ skS f n m k ∧ skS f n m k ≤ k + m
  | 0, k => by unfold skS; omega
  | m + 1, k => by
    have := skS_le f n m (k + 1)
    unfold skS
    split <;> omega
abbrev dgt (f : Nat → Int) (n k : Nat) : Prop := k < n ∧ 48 ≤ f k ∧ f k ≤ 57
def kof (x : Int) : Int := if x = 112 then 0 else if x = 100 then 1 else if x = 101 then 2 else if x = 98 then 3 else if x = 116 then 4 else if x = 113 then 5 else -9
theorem kof_rng (x : Int) : kof x = -9 ∨ (0 ≤ kof x ∧ kof x ≤ 5) := by
  unfold kof
  repeat' split
  all_goals omega
theorem e_kindOf {x : Int} {μ : Mem} : fX1_kindOf x μ = some (kof x) := by
  unfold fX1_kindOf kof
  by_cases h1 : x = 98
  · simp (disch := omega) only [bnd2_some, bd_some, b01_t, b01_f, if_pos, if_neg, mlet_e, grd, ite_true, ite_false, not_true_eq_false, not_false_eq_true, ite_self, tn_c, w32_i]
  · by_cases h2 : x = 100
    · simp (disch := omega) only [bnd2_some, bd_some, b01_t, b01_f, if_pos, if_neg, mlet_e, grd, ite_true, ite_false, not_true_eq_false, not_false_eq_true, ite_self, tn_c, w32_i]
    · by_cases h3 : x = 101
      · simp (disch := omega) only [bnd2_some, bd_some, b01_t, b01_f, if_pos, if_neg, mlet_e, grd, ite_true, ite_false, not_true_eq_false, not_false_eq_true, ite_self, tn_c, w32_i]
      · by_cases h4 : x = 112
        · simp (disch := omega) only [bnd2_some, bd_some, b01_t, b01_f, if_pos, if_neg, mlet_e, grd, ite_true, ite_false, not_true_eq_false, not_false_eq_true, ite_self, tn_c, w32_i]
        · by_cases h5 : x = 113
          · simp (disch := omega) only [bnd2_some, bd_some, b01_t, b01_f, if_pos, if_neg, mlet_e, grd, ite_true, ite_false, not_true_eq_false, not_false_eq_true, ite_self, tn_c, w32_i]
          · by_cases h6 : x = 116
            · simp (disch := omega) only [bnd2_some, bd_some, b01_t, b01_f, if_pos, if_neg, mlet_e, grd, ite_true, ite_false, not_true_eq_false, not_false_eq_true, ite_self, tn_c, w32_i]
            · simp (disch := omega) only [bnd2_some, bd_some, b01_t, b01_f, if_pos, if_neg, mlet_e, grd, ite_true, ite_false, not_true_eq_false, not_false_eq_true, ite_self, tn_c, w32_i]
theorem e_pb {c n k : Nat} {μ : Mem} (hn : n ≤ 60) (hk : k ≤ 100) : fX1_pastBlanks c (n : Int) (k : Int) μ = some ((sk (fun j => μ c j) n k : Nat) : Int) := by
  have hL : ∀ (m k N : Nat), k ≤ 100 → m = n - k → m < N → fX1_pastBlanks_L2 (n : Int) μ c N (k : Int) = some ((skS (fun j => μ c j) n m k : Nat) : Int) := by
    intro m
    induction m with
    | zero =>
      intro k N h0 h1 h2
      obtain ⟨N, rfl⟩ : ∃ j, N = j + 1 := ⟨N - 1, by omega⟩
      rw [fX1_pastBlanks_L2, if_pos (by omega)]
      rfl
    | succ m ih =>
      intro k N h0 h1 h2
      obtain ⟨N, rfl⟩ : ∃ j, N = j + 1 := ⟨N - 1, by omega⟩
      rw [fX1_pastBlanks_L2, if_neg (by omega)]
      simp (disch := omega) only [grd, if_pos, tn_c, mlet_e, w32_s]
      rw [skS]
      by_cases z : μ c k = 32
      · rw [if_neg (fun w => w z), if_pos z]
        exact ih (k + 1) N (by omega) (by omega) (by omega)
      · rw [if_pos z, if_neg z]
  unfold fX1_pastBlanks
  have hf := fuel_lt
  generalize fuel = N at hf ⊢
  exact hL (n - k) k N hk rfl (by omega)
theorem e_nfs {c n a x e N : Nat} {μ : Mem} (hn : n ≤ 60) (ha : a + e ≤ 1000) (hx : x < a + e) (hd : dgt (fun j => μ c j) n x) : fX1_firstNoFigure_L3 (a : Int) (e : Int) (n : Int) μ c (N + 1) (x : Int) = fX1_firstNoFigure_L3 (a : Int) (e : Int) (n : Int) μ c N ((x + 1 : Nat) : Int) := by
  obtain ⟨d1, d2, d3⟩ := hd
  dsimp only at d2 d3
  rw [fX1_firstNoFigure_L3, w32_i (z := (a : Int) + (e : Int)) (by omega)]
  simp (disch := omega) only [grd, if_pos, if_neg, tn_c, mlet_e, w32_s]
theorem e_nfn {c n a x e N : Nat} {μ : Mem} (hn : n ≤ 60) (ha : a + e ≤ 1000) (hx : x < a + e) (hd : ¬ dgt (fun j => μ c j) n x) : fX1_firstNoFigure_L3 (a : Int) (e : Int) (n : Int) μ c (N + 1) (x : Int) = some (x : Int) := by
  unfold dgt at hd
  dsimp only at hd
  rw [fX1_firstNoFigure_L3, w32_i (z := (a : Int) + (e : Int)) (by omega), if_neg (by omega)]
  by_cases z1 : n ≤ x
  · rw [if_pos (by omega)]
  · rw [if_neg (by omega)]
    simp (disch := omega) only [grd, if_pos, tn_c]
    by_cases z2 : μ c x < 48
    · rw [if_pos z2]
    · rw [if_neg z2, if_neg (by omega)]
theorem e_nfe {c n a e N : Nat} {μ : Mem} (ha : a + e ≤ 1000) : fX1_firstNoFigure_L3 (a : Int) (e : Int) (n : Int) μ c (N + 1) ((a + e : Nat) : Int) = some (-9) := by
  rw [fX1_firstNoFigure_L3, w32_i (z := (a : Int) + (e : Int)) (by omega), if_pos (by omega)]
/-- what a letter at a place is refused for (its place), -9: nothing -/
def fl3 (f : Nat → Int) (n a : Nat) : Int :=
  if ¬ dgt f n a then (a : Int) else if ¬ dgt f n (a + 1) then ((a + 1 : Nat) : Int) else if ¬ dgt f n (a + 2) then ((a + 2 : Nat) : Int) else -9
theorem fl3_eq (f : Nat → Int) (n a : Nat) : (¬ dgt f n a → fl3 f n a = (a : Int)) ∧ (dgt f n a → ¬ dgt f n (a + 1) → fl3 f n a = ((a + 1 : Nat) : Int)) ∧ (dgt f n a → dgt f n (a + 1) → ¬ dgt f n (a + 2) → fl3 f n a = ((a + 2 : Nat) : Int)) ∧ (dgt f n a → dgt f n (a + 1) → dgt f n (a + 2) → fl3 f n a = -9) := by
  unfold fl3
  refine ⟨fun h => ?_, fun h1 h2 => ?_, fun h1 h2 h3 => ?_, fun h1 h2 h3 => ?_⟩
  · rw [if_pos h]
  · rw [if_neg (fun w => w h1), if_pos h2]
  · rw [if_neg (fun w => w h1), if_neg (fun w => w h2), if_pos h3]
  · rw [if_neg (fun w => w h1), if_neg (fun w => w h2), if_neg (fun w => w h3)]
theorem e_nf3 {c n a : Nat} {μ : Mem} (hn : n ≤ 60) (ha : a ≤ 100) : fX1_firstNoFigure c (n : Int) (a : Int) 3 μ = some (fl3 (fun j => μ c j) n a) := by
  obtain ⟨f1, f2, f3, f4⟩ := fl3_eq (fun j => μ c j) n a
  unfold fX1_firstNoFigure
  have hf := fuel_lt
  generalize fuel = N at hf ⊢
  obtain ⟨N, rfl⟩ : ∃ j, N = j + 4 := ⟨N - 4, by omega⟩
  rw [show (3 : Int) = ((3 : Nat) : Int) from rfl]
  by_cases z1 : dgt (fun j => μ c j) n a
  · rw [e_nfs hn (by omega) (by omega) z1]
    by_cases z2 : dgt (fun j => μ c j) n (a + 1)
    · rw [e_nfs hn (by omega) (by omega) z2]
      by_cases z3 : dgt (fun j => μ c j) n (a + 2)
      · rw [e_nfs hn (by omega) (by omega) z3, f4 z1 z2 z3]
        exact e_nfe (by omega)
      · rw [e_nfn hn (by omega) (by omega) z3, f3 z1 z2 z3]
    · rw [e_nfn hn (by omega) (by omega) z2, f2 z1 z2]
  · rw [e_nfn hn (by omega) (by omega) z1, f1 z1]
theorem e_nf1 {c n a : Nat} {μ : Mem} (hn : n ≤ 60) (ha : a ≤ 100) : (dgt (fun j => μ c j) n a → fX1_firstNoFigure c (n : Int) (a : Int) 1 μ = some (-9)) ∧ (¬ dgt (fun j => μ c j) n a → fX1_firstNoFigure c (n : Int) (a : Int) 1 μ = some (a : Int)) := by
  unfold fX1_firstNoFigure
  have hf := fuel_lt
  generalize fuel = N at hf ⊢
  obtain ⟨N, rfl⟩ : ∃ j, N = j + 2 := ⟨N - 2, by omega⟩
  rw [show (1 : Int) = ((1 : Nat) : Int) from rfl]
  refine ⟨fun z => ?_, fun z => ?_⟩
  · rw [e_nfs hn (by omega) (by omega) z]
    exact e_nfe (by omega)
  · rw [e_nfn hn (by omega) (by omega) z]
/-- one more of people -/
def adS (s : Mem) (k d v : Int) : Mem := fun r j => if r = 0 then (if j = 0 then s 0 0 + 1 else s 0 j) else if (j : Int) = s 0 0 then (if r = 1 then k else if r = 2 then d else if r = 3 then v else 0) else s r j
theorem adS_00 (s : Mem) (k d v : Int) : adS s k d v 0 0 = s 0 0 + 1 := by unfold adS; rw [if_pos rfl, if_pos rfl]
theorem adS_01 (s : Mem) (k d v : Int) : adS s k d v 0 1 = s 0 1 := by unfold adS; rw [if_pos rfl, if_neg (by omega)]
theorem adS_02 (s : Mem) (k d v : Int) : adS s k d v 0 2 = s 0 2 := by unfold adS; rw [if_pos rfl, if_neg (by omega)]
theorem adS_n (s : Mem) (k d v : Int) {j : Nat} (h : (j : Int) = s 0 0) : adS s k d v 1 j = k ∧ adS s k d v 2 j = d ∧ adS s k d v 3 j = v ∧ adS s k d v 4 j = 0 := by
  unfold adS
  simp only [h, if_true]
  exact ⟨rfl, rfl, rfl, rfl⟩
theorem adS_o (s : Mem) (k d v : Int) {r j : Nat} (hr : ¬ r = 0) (h : ¬ (j : Int) = s 0 0) : adS s k d v r j = s r j := by
  unfold adS
  rw [if_neg hr, if_neg h]
theorem GB_ad {s : Mem} {k d v : Int} (hg : GB s) (h5 : s 0 0 ≤ 5) (hk : 0 ≤ k ∧ k ≤ 5) (hd : 0 ≤ d ∧ d ≤ 9) (hv : 0 ≤ v ∧ v ≤ 20) : GB (adS s k d v) := by
  obtain ⟨g1, g2, g3, g4, g5⟩ := hg
  refine ⟨by rw [adS_00]; omega, by rw [adS_00]; omega, by rw [adS_01]; exact g3, by rw [adS_01]; exact g4, fun i hi => ?_⟩
  rw [adS_00] at hi
  by_cases e : (i : Int) = s 0 0
  · obtain ⟨a1, a2, a3, -⟩ := adS_n s k d v e
    rw [a1, a2, a3]
    exact ⟨hk, hd, hv⟩
  · rw [adS_o _ _ _ _ (by omega) e, adS_o _ _ _ _ (by omega) e, adS_o _ _ _ _ (by omega) e]
    exact g5 i (by omega)
theorem e_add {b : Nat} {μ s : Mem} {k d v : Int} (hc : CB b μ s) (hg : GB s) (h5 : s 0 0 ≤ 5) : Ev (fX0_add b k d v μ) fun ν => CB b ν (adS s k d v) ∧ ∀ c j, c < b ∨ b + 4 < c → ν c j = μ c j := by
  have g0 := hg.1
  obtain ⟨n, hn⟩ : ∃ n : Nat, s 0 0 = (n : Int) := ⟨(s 0 0).toNat, by omega⟩
  have e4 : μ b 4 = (n : Int) := by rw [hc.1, hn]
  unfold fX0_add
  simp (disch := omega) only [e4, if_neg, if_pos, grd, tn_c, mlet_e, wr_ne, w32_s]
  refine ev_eq rfl ⟨⟨?_, ?_, ?_, fun i hi => ?_⟩, fun c j hcj => ?_⟩
  · rw [adS_00, wr_at (by omega)]
    omega
  · rw [adS_01, wr_ne (by omega), wr_ne (by omega), wr_ne (by omega), wr_ne (by omega), wr_ne (by omega), hc.2.1]
  · rw [adS_02, wr_ne (by omega), wr_ne (by omega), wr_ne (by omega), wr_ne (by omega), wr_ne (by omega), hc.2.2.1]
  · rw [adS_00] at hi
    by_cases e : (i : Int) = s 0 0
    · obtain ⟨a1, a2, a3, a4⟩ := adS_n s k d v e
      rw [a1, a2, a3, a4]
      obtain rfl : i = n := by omega
      simp (disch := omega) only [wr_ne, wr_at]
      exact ⟨trivial, trivial, trivial, trivial⟩
    · rw [adS_o _ _ _ _ (by omega) e, adS_o _ _ _ _ (by omega) e, adS_o _ _ _ _ (by omega) e, adS_o _ _ _ _ (by omega) e]
      simp (disch := omega) only [wr_ne]
      exact hc.2.2.2 i (by omega)
  · simp (disch := omega) only [wr_ne]
/-- what a person's four places are refused for -/
def fltS (f : Nat → Int) (n : Nat) (cnt : Int) (a : Nat) : Int := if kof (f a) = -9 ∨ cnt = 6 then (a : Int) else if fl3 f n (a + 1) = -9 then (if 20 < 10 * (f (a + 2) - 48) + (f (a + 3) - 48) then ((a + 2 : Nat) : Int) else -9) else fl3 f n (a + 1)
def nxS (f : Nat → Int) (s : Mem) (a : Nat) : Mem := adS s (kof (f a)) (f (a + 1) - 48) (10 * (f (a + 2) - 48) + (f (a + 3) - 48))
theorem fl3_9 {f : Nat → Int} {n a : Nat} (h : fl3 f n a = -9) : dgt f n a ∧ dgt f n (a + 1) ∧ dgt f n (a + 2) := by
  obtain ⟨f1, f2, f3, f4⟩ := fl3_eq f n a
  by_cases z1 : dgt f n a
  · by_cases z2 : dgt f n (a + 1)
    · by_cases z3 : dgt f n (a + 2)
      · exact ⟨z1, z2, z3⟩
      · have := f3 z1 z2 z3
        omega
    · have := f2 z1 z2
      omega
  · have := f1 z1
    omega
theorem GB_nx {f : Nat → Int} {n a : Nat} {s : Mem} (hg : GB s) (h : fltS f n (s 0 0) a = -9) : GB (nxS f s a) ∧ s 0 0 ≤ 5 ∧ a + 3 < n := by
  have g6 := hg.2.1
  have hk := kof_rng (f a)
  unfold fltS at h
  by_cases z1 : kof (f a) = -9 ∨ s 0 0 = 6
  · rw [if_pos z1] at h
    omega
  · rw [if_neg z1] at h
    by_cases z2 : fl3 f n (a + 1) = -9
    · rw [if_pos z2] at h
      obtain ⟨d1, d2, d3⟩ := fl3_9 z2
      unfold dgt at d1 d2 d3
      rw [show a + 1 + 1 = a + 2 from rfl] at d2
      rw [show a + 1 + 2 = a + 3 from rfl] at d3
      by_cases z3 : 20 < 10 * (f (a + 2) - 48) + (f (a + 3) - 48)
      · rw [if_pos z3] at h
        omega
      · exact ⟨GB_ad hg (by omega) (by omega) (by omega) (by omega), by omega, by omega⟩
    · rw [if_neg z2] at h
      exact absurd h z2
theorem e_person {c n a : Nat} {μ s : Mem} (hn : n ≤ 60) (ha : a < n) (hc : CB 25 μ s) (hg : GB s) (hcell : c < 25) : Ev (fX1_readPersonAside c (n : Int) (a : Int) μ) fun q => q.1 = fltS (fun j => μ c j) n (s 0 0) a ∧ (q.1 = -9 → CB 25 q.2 (nxS (fun j => μ c j) s a)) ∧ ∀ c k, c < 25 ∨ 29 < c → q.2 c k = μ c k := by
  have g6 := hg.2.1
  unfold fX1_readPersonAside fltS
  rw [e_kindOf]
  simp (disch := omega) only [grd, if_pos, tn_c, bd_some, hc.1]
  by_cases z1 : kof (μ c a) = -9
  · rw [if_pos z1, if_pos (Or.inl z1)]
    exact ev_some.mpr ⟨rfl, fun w => by dsimp only at w; omega, fun _ _ _ => rfl⟩
  · rw [if_neg z1]
    by_cases z2 : s 0 0 = 6
    · rw [if_neg (by omega), if_pos (Or.inr z2)]
      exact ev_some.mpr ⟨rfl, fun w => by dsimp only at w; omega, fun _ _ _ => rfl⟩
    · rw [if_pos (show s 0 0 < 6 by omega), if_neg (show ¬ (kof (μ c a) = -9 ∨ s 0 0 = 6) from fun w => by rcases w with w | w; exact z1 w; exact z2 w)]
      have p1 : w32 ((a : Int) + 1) = ((a + 1 : Nat) : Int) := w32_s (by omega)
      have p2 : w32 ((a : Int) + 2) = ((a + 2 : Nat) : Int) := by rw [w32_i (by omega)]; omega
      have p3 : w32 ((a : Int) + 3) = ((a + 3 : Nat) : Int) := by rw [w32_i (by omega)]; omega
      rw [p1, p2, p3, e_nf3 hn (by omega), bd_some]
      clear p1 p2 p3
      by_cases z3 : fl3 (fun j => μ c j) n (a + 1) = -9
      · rw [if_pos z3, if_pos z3]
        obtain ⟨d1, d2, d3⟩ := fl3_9 z3
        unfold dgt at d1 d2 d3
        rw [show a + 1 + 1 = a + 2 from rfl] at d2
        rw [show a + 1 + 2 = a + 3 from rfl] at d3
        dsimp only at d1 d2 d3 ⊢
        have cb2 : 0 ≤ ((a + 2 : Nat) : Int) ∧ ((a + 2 : Nat) : Int) < 60 := by omega
        have cb3 : 0 ≤ ((a + 3 : Nat) : Int) ∧ ((a + 3 : Nat) : Int) < 60 := by omega
        have cb1 : 0 ≤ ((a + 1 : Nat) : Int) ∧ ((a + 1 : Nat) : Int) < 60 := by omega
        simp only [grd, if_pos cb1, if_pos cb2, if_pos cb3, tn_c, mlet_e]
        have ev : w32 (w32 (w32 (10 * w32 (μ c (a + 2) - 48)) + μ c (a + 3)) - 48) = 10 * (μ c (a + 2) - 48) + (μ c (a + 3) - 48) := by
          rw [w32_i (z := μ c (a + 2) - 48) (by omega), w32_i (z := 10 * (μ c (a + 2) - 48)) (by omega), w32_i (z := 10 * (μ c (a + 2) - 48) + μ c (a + 3)) (by omega), w32_i (by omega)]
          omega
        have e1 : w32 (μ c (a + 1) - 48) = μ c (a + 1) - 48 := w32_i (by omega)
        rw [ev, e1]
        clear ev e1
        by_cases z4 : 20 < 10 * (μ c (a + 2) - 48) + (μ c (a + 3) - 48)
        · rw [if_neg (by omega), if_pos z4]
          exact ev_some.mpr ⟨rfl, fun w => by dsimp only at w; omega, fun _ _ _ => rfl⟩
        · rw [if_pos (by omega), if_neg z4, ev_bind]
          refine ev_mono (e_add hc hg (by omega)) (fun ν hν => ev_some.mpr ⟨rfl, fun _ => hν.1, hν.2⟩)
      · rw [if_neg z3, if_neg z3]
        exact ev_some.mpr ⟨rfl, fun w => absurd w z3, fun _ _ _ => rfl⟩
/-- people from a place on: what it is refused for, who they are -/
def paS (f : Nat → Int) (n : Nat) : Nat → Nat → Mem → Int × Mem
  | 0, _, s => (0, s)
  | m + 1, a, s => if n ≤ a then (if s 0 0 = 0 then (n : Int) else -9, s) else if fltS f n (s 0 0) a = -9 then paS f n m (sk f n (a + 4)) (nxS f s a) else (fltS f n (s 0 0) a, s)
theorem GB_pa (f : Nat → Int) (n : Nat) : ∀ (m a : Nat) (s : Mem), GB s → GB (paS f n m a s).2
  | 0, _, _, h => h
  | m + 1, a, s, h => by
    unfold paS
    split
    · exact h
    · split
      · next z => exact GB_pa f n m _ _ (GB_nx h z).1
      · exact h
theorem e_rd71 {c n : Nat} (f : Nat → Int) (hn : n ≤ 60) (hcell : c < 25) : ∀ (m a N : Nat) (μ s : Mem), s 0 0 + m = 7 → 0 < m → m < N → a ≤ 100 → (∀ j, μ c j = f j) → CB 25 μ s → GB s → Ev (fX1_readAside_L71 (fun μ5 => if ¬ μ5 25 4 = 0 then some (-9, μ5) else some ((n : Int), μ5)) (n : Int) c N (a : Int) (s 0 0) μ) fun q => q.1 = (paS f n m a s).1 ∧ (q.1 = -9 → CB 25 q.2 (paS f n m a s).2) ∧ ∀ c k, c < 25 ∨ 29 < c → q.2 c k = μ c k := by
  intro m
  induction m with
  | zero => intro a N μ s h1 h2; omega
  | succ m ih =>
    intro a N μ s h1 h2 h3 h4 h5 hc hg
    obtain ⟨N, rfl⟩ : ∃ j, N = j + 1 := ⟨N - 1, by omega⟩
    have g0 := hg.1
    have g6 := hg.2.1
    have hff : (fun j => μ c j) = f := funext h5
    rw [fX1_readAside_L71, if_neg (by omega), paS]
    by_cases z : n ≤ a
    · rw [if_pos (by omega), if_pos z, hc.1]
      by_cases z2 : s 0 0 = 0
      · rw [if_neg (fun w => w z2), if_pos z2]
        exact ev_some.mpr ⟨rfl, fun w => by dsimp only at w; omega, fun _ _ _ => rfl⟩
      · rw [if_pos z2, if_neg z2]
        exact ev_some.mpr ⟨rfl, fun _ => hc, fun _ _ _ => rfl⟩
    · rw [if_neg (by omega), if_neg z, ev_bnd2]
      refine ev_mono (e_person (s := s) hn (by omega) hc hg hcell) (fun q hq => ?_)
      rw [hff] at hq
      obtain ⟨q1, q2, q3⟩ := hq
      by_cases z2 : fltS f n (s 0 0) a = -9
      · obtain ⟨hg', hs5, han⟩ := GB_nx hg z2
        have q2' := q2 (by rw [q1, z2])
        have ht : ∀ j, q.2 c j = f j := fun j => by rw [q3 _ _ (by omega), h5]
        have e00 : nxS f s a 0 0 = s 0 0 + 1 := adS_00 _ _ _ _
        have hsk := skS_le f n (n - (a + 4)) (a + 4)
        have ih' := ih (sk f n (a + 4)) N q.2 (nxS f s a) (by rw [e00]; omega) (by omega) (by omega) (by unfold sk; omega) ht q2' hg'
        rw [if_pos (by rw [q1, z2]), if_pos z2]
        have p4 : w32 ((a : Int) + 4) = ((a + 4 : Nat) : Int) := by rw [w32_i (by omega)]; omega
        rw [p4]
        clear p4
        rw [e_pb hn (by omega), bd_some, mlet_e, w32_i (z := s 0 0 + 1) (by omega), ← e00, show (fun j => q.2 c j) = f from funext ht]
        refine ev_mono ih' (fun t ht => ⟨ht.1, ht.2.1, fun c k hc => ?_⟩)
        rw [ht.2.2 _ _ hc, q3 _ _ hc]
      · rw [if_neg (by rw [q1]; exact z2), if_neg z2]
        exact ev_some.mpr ⟨q1, fun w => absurd (q1.symm.trans w) z2, q3⟩
def ini (v : Int) : Mem := fun r k => if r = 0 ∧ k = 1 then v else 0
theorem ini_1 {v : Int} : ini v 0 1 = v := if_pos ⟨rfl, rfl⟩
theorem ini_o {v : Int} {r k : Nat} (h : ¬ (r = 0 ∧ k = 1)) : ini v r k = 0 := if_neg h
/-- a whole text -/
def rdS (f : Nat → Int) (n : Nat) : Int × Mem :=
  if n ≤ sk f n 0 then ((sk f n 0 : Nat), fun _ _ => 0) else if ¬ f (sk f n 0) = 102 then ((sk f n 0 : Nat), fun _ _ => 0) else if ¬ dgt f n (sk f n 0 + 1) then ((sk f n 0 + 1 : Nat), fun _ _ => 0) else paS f n 7 (sk f n (sk f n 0 + 2)) (ini (f (sk f n 0 + 1) - 48))
theorem GB_st {v : Int} (h : 0 ≤ v ∧ v ≤ 9) : GB (ini v) := by
  have e0 : ini v 0 0 = 0 := ini_o (by omega)
  refine ⟨by rw [e0]; omega, by rw [e0]; omega, by rw [ini_1]; exact h.1, by rw [ini_1]; exact h.2, fun i hi => ?_⟩
  rw [e0] at hi
  omega
theorem e_read {c n : Nat} {μ : Mem} (hn : n ≤ 60) (hcell : c < 25) : Ev (fX1_readAside c (n : Int) μ) fun q => q.1 = (rdS (fun j => μ c j) n).1 ∧ (q.1 = -9 → CB 25 q.2 (rdS (fun j => μ c j) n).2 ∧ GB (rdS (fun j => μ c j) n).2) ∧ ∀ c k, c < 25 ∨ 29 < c → q.2 c k = μ c k := by
  have hsk := skS_le (fun j => μ c j) n (n - 0) 0
  have hsk' : sk (fun j => μ c j) n 0 ≤ n := by unfold sk; omega
  unfold rdS fX1_readAside
  have hf := fuel_lt
  generalize fuel = N at hf ⊢
  have e0 := e_pb (c := c) (n := n) (k := 0) (μ := μ) hn (by omega)
  rw [show ((0 : Nat) : Int) = 0 from rfl] at e0
  rw [e0, bd_some]
  generalize hb : sk (fun j => μ c j) n 0 = b at *
  by_cases z1 : n ≤ b
  · rw [if_pos (by omega), if_pos z1]
    exact ev_some.mpr ⟨rfl, fun w => by dsimp only at w; omega, fun _ _ _ => rfl⟩
  · rw [if_neg (by omega), if_neg z1]
    simp (disch := omega) only [grd, if_pos, tn_c]
    by_cases z2 : μ c b = 102
    · rw [if_pos z2, if_neg (show ¬ ¬ μ c b = 102 from fun w => w z2)]
      have p1 : w32 ((b : Int) + 1) = ((b + 1 : Nat) : Int) := w32_s (by omega)
      have p2 : w32 ((b : Int) + 2) = ((b + 2 : Nat) : Int) := by rw [w32_i (by omega)]; omega
      rw [p1, p2]
      clear p1 p2
      obtain ⟨n1, n2⟩ := e_nf1 (c := c) (n := n) (a := b + 1) (μ := μ) hn (by omega)
      by_cases z3 : dgt (fun j => μ c j) n (b + 1)
      · rw [n1 z3, bd_some, if_pos rfl, if_neg (show ¬ ¬ dgt (fun j => μ c j) n (b + 1) from fun w => w z3)]
        unfold dgt at z3
        dsimp only at z3
        have cb1 : 0 ≤ ((b + 1 : Nat) : Int) ∧ ((b + 1 : Nat) : Int) < 60 := by omega
        simp only [if_pos cb1, tn_c]
        have e1 : w32 (μ c (b + 1) - 48) = μ c (b + 1) - 48 := w32_i (by omega)
        rw [e1]
        clear e1
        unfold fX0_settle
        simp only [mlet_e, bd_some]
        generalize hν : wr (wr (wr μ 25 4 0) 25 5 (μ c (b + 1) - 48)) 25 6 0 = ν
        have f1 : ∀ c k, c < 25 ∨ 29 < c → ν c k = μ c k := fun c k hc => by
          rw [← hν, wr_ne (by omega), wr_ne (by omega), wr_ne (by omega)]
        have ht : ∀ j, ν c j = μ c j := fun j => f1 _ _ (by omega)
        have hCB : CB 25 ν (ini (μ c (b + 1) - 48)) := by
          refine ⟨?_, ?_, ?_, fun i hi => ?_⟩
          · rw [ini_o (by omega), ← hν, wr_ne (by omega), wr_ne (by omega), wr_at (by omega)]
          · rw [ini_1, ← hν, wr_ne (by omega), wr_at (by omega)]
          · rw [ini_o (by omega), ← hν, wr_at (by omega)]
          · rw [ini_o (by omega)] at hi
            omega
        have hGB := GB_st (v := μ c (b + 1) - 48) (by omega)
        rw [e_pb hn (by omega), bd_some, show (fun j => ν c j) = (fun j => μ c j) from funext ht]
        have hs2 := skS_le (fun j => μ c j) n (n - (b + 2)) (b + 2)
        have hpa := GB_pa (fun j => μ c j) n 7 (sk (fun j => μ c j) n (b + 2)) _ hGB
        refine ev_mono (e_rd71 (fun j => μ c j) hn hcell 7 (sk (fun j => μ c j) n (b + 2)) N ν (ini (μ c (b + 1) - 48)) (by rw [ini_o (by omega)]; omega) (by omega) (by omega) (by unfold sk; omega) ht hCB hGB) (fun q hq => ⟨hq.1, fun w => ⟨hq.2.1 w, hpa⟩, fun c k hc => ?_⟩)
        rw [hq.2.2 _ _ hc, f1 _ _ hc]
      · rw [n2 z3, bd_some, if_neg (by omega), if_pos z3]
        exact ev_some.mpr ⟨rfl, fun w => by dsimp only at w; omega, fun _ _ _ => rfl⟩
    · rw [if_neg z2, if_pos z2]
      exact ev_some.mpr ⟨rfl, fun w => by dsimp only at w; omega, fun _ _ _ => rfl⟩
