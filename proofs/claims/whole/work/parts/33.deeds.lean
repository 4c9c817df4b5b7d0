/-! DEEDS: what both sides do with a bank, a river's row -/
theorem tn_1 {k : Nat} : (1 + (k : Int)).toNat = 1 + k := by omega
theorem tn_3284 {k : Nat} : (3284 + (k : Int)).toNat = 3284 + k := by omega
theorem tn_20 {d k : Nat} : (21 + 20 * (d : Int) + (k : Int)).toNat = 21 + 20 * d + k := by omega
theorem tn_ak {a k : Nat} : ((a : Int) + (k : Int)).toNat = a + k := by omega
theorem tn_9 {k : Nat} : (9 + (k : Int)).toNat = 9 + k := by omega
theorem tn_k3 {k : Nat} : (3 + (k : Int)).toNat = 3 + k := by omega
theorem tn_15 {k : Nat} : (15 + (k : Int)).toNat = 15 + k := by omega
theorem tn_3293 {k : Nat} : (3293 + (k : Int)).toNat = 3293 + k := by omega
theorem cpy_s {μ : Mem} {a d t k1 k2 : Nat} (h : a + t < d ∨ d + t < a ∨ t = 0) (h1 : k1 = d + t) (h2 : k2 = a + t) (h3 : d ≤ a + t → a + t < d + t → False) : wr (cpy μ 61 a 61 d t) 61 k1 (cpy μ 61 a 61 d t 61 k2) = cpy μ 61 a 61 d (t + 1) := by
  subst h1 h2
  funext c k
  by_cases a1 : c = 61 ∧ k = d + t
  · obtain ⟨rfl, rfl⟩ := a1
    rw [wr_at (by omega), cpy_ne (fun q => h3 q.2.1 q.2.2), cpy_at (by omega)]
    congr 1
    omega
  · rw [wr_ne a1]
    by_cases a2 : c = 61 ∧ d ≤ k ∧ k < d + t
    · rw [cpy_at a2, cpy_at (by omega)]
    · rw [cpy_ne a2, cpy_ne (by omega)]
theorem e_become {b b' : Nat} {μ s : Mem} (hd : b + 4 < b' ∨ b' + 4 < b) (hc : CB b' μ s) (hg : GB s) : Ev (fX0_become b b' μ) fun μ' => CB b μ' s ∧ ∀ c k, c < b ∨ b + 4 < c → μ' c k = μ c k := by
  have g6 := hg.2.1
  unfold fX0_become
  simp only [mlet_e]
  refine ev_eq rfl ⟨⟨?_, ?_, ?_, ?_⟩, ?_⟩
  · simp (disch := omega) only [wr_ne, wr_at, cpy_ne, hc.1]
  · simp (disch := omega) only [wr_ne, wr_at, cpy_ne, hc.2.1]
  · simp (disch := omega) only [wr_ne, wr_at, cpy_ne, hc.2.2.1]
  · intro i hi
    obtain ⟨c1, c2, c3, c4⟩ := hc.2.2.2 i hi
    simp (disch := omega) only [wr_ne, wr_at, cpy_ne, cpy_at, Nat.zero_add, Nat.sub_zero, c1, c2, c3, c4]
    exact ⟨trivial, trivial, trivial, trivial⟩
  · intro c k hck
    simp (disch := omega) only [wr_ne, cpy_ne]
theorem MB_of {a a' : Nat} {μ μ' s : Mem} (h : MB a μ s) (hg : GB s) (e : ∀ k, 1 ≤ k ∧ k ≤ 20 → μ' 61 (a' + k) = μ 61 (a + k)) (e1 : μ' 60 1 = μ 60 1) (e2 : ∀ i, μ' 62 i = μ 62 i) : MB a' μ' s := by
  have g6 := hg.2.1
  obtain ⟨h1, h2, h3, h4⟩ := h
  refine ⟨by rw [e1]; exact h1, by rw [e _ (by omega)]; exact h2, by rw [e _ (by omega)]; exact h3, fun i hi => ?_⟩
  have e3 := e (3 + i) (by omega)
  have e4 := e (9 + i) (by omega)
  have e5 := e (15 + i) (by omega)
  simp only [← Nat.add_assoc] at e3 e4 e5
  rw [e2, e3, e4, e5]
  exact h4 i hi
theorem e_layTried {μ : Mem} : fX2_layTried μ = some (cpy μ 61 0 61 3284 21) := by
  have hL : ∀ (m k N : Nat), k + m = 21 → m < N → fX2_layTried_L2 N (k : Int) (cpy μ 61 0 61 3284 k) = some (cpy μ 61 0 61 3284 21) := by
    intro m
    induction m with
    | zero =>
      intro k N h1 h2
      obtain ⟨N, rfl⟩ : ∃ j, N = j + 1 := ⟨N - 1, by omega⟩
      obtain rfl : k = 21 := by omega
      rw [fX2_layTried_L2, if_pos (by omega)]
    | succ m ih =>
      intro k N h1 h2
      obtain ⟨N, rfl⟩ : ∃ j, N = j + 1 := ⟨N - 1, by omega⟩
      rw [fX2_layTried_L2]
      simp (disch := omega) only [w32_s, tn_3284, bnd2_some, bd_some, b01_t, b01_f, if_pos, if_neg, mlet_e, grd, ite_true, ite_false, not_true_eq_false, not_false_eq_true, tn_c, w32_i]
      rw [cpy_s (t := k) (by omega) rfl (by omega) (by omega)]
      exact ih (k + 1) N (by omega) (by omega)
  unfold fX2_layTried
  have hf := fuel_lt
  generalize fuel = N at hf ⊢
  have e := hL 21 0 N (by omega) (by omega)
  rw [cpy_0] at e
  exact e
theorem MB_tried {μ s : Mem} (hc : MB 0 μ s) (hg : GB s) : MB 3284 (cpy μ 61 0 61 3284 21) s := by
  refine MB_of hc hg (fun k hk => ?_) ?_ (fun i => ?_)
  · rw [cpy_at (by omega), show 0 + (3284 + k - 3284) = 0 + k by omega]
  · exact cpy_ne (by omega)
  · exact cpy_ne (by omega)
theorem e_keepPast {μ : Mem} {d : Nat} (hd : μ 61 0 = (d : Int)) (h40 : d < 40) : fX2_keepPast μ = some (wr (cpy μ 61 1 61 (21 + 20 * d) 20) 61 0 ((d + 1 : Nat) : Int)) := by
  have hL : ∀ (K : Mem → Option Mem) (m k N : Nat), k + m = 20 → m < N → fX2_keepPast_L2 K N (k : Int) (cpy μ 61 1 61 (21 + 20 * d) k) = K (cpy μ 61 1 61 (21 + 20 * d) 20) := by
    intro K m
    induction m with
    | zero =>
      intro k N h1 h2
      obtain ⟨N, rfl⟩ : ∃ j, N = j + 1 := ⟨N - 1, by omega⟩
      obtain rfl : k = 20 := by omega
      rw [fX2_keepPast_L2, if_pos (by omega)]
    | succ m ih =>
      intro k N h1 h2
      obtain ⟨N, rfl⟩ : ∃ j, N = j + 1 := ⟨N - 1, by omega⟩
      rw [fX2_keepPast_L2]
      have e0 : cpy μ 61 1 61 (21 + 20 * d) k 61 0 = (d : Int) := by rw [cpy_ne (by omega), hd]
      simp (disch := omega) only [e0, w32_s, w32_i, tn_1, tn_20, if_neg, if_pos, grd, mlet_e]
      rw [cpy_s (t := k) (by omega) rfl (by omega) (by omega)]
      exact ih (k + 1) N (by omega) (by omega)
  unfold fX2_keepPast
  have hf := fuel_lt
  generalize fuel = N at hf ⊢
  simp only [mlet_e]
  have e := hL (fun μ1 => some (wr μ1 61 0 (w32 (μ1 61 0 + 1)))) 20 0 N (by omega) (by omega)
  rw [cpy_0] at e
  refine e.trans ?_
  rw [cpy_ne (by omega), hd, w32_s (by omega)]
theorem e_copyRiver {μ : Mem} {x y : Int} {a b : Nat} (hx : x = (a : Int)) (hy : y = (b : Int)) (ha : a + 821 ≤ 3305) (hb : b + 821 ≤ 3305) (hab : a + 821 ≤ b ∨ b + 821 ≤ a) : fX2_copyRiver x y μ = some (cpy μ 61 a 61 b 821) := by
  subst hx hy
  have hL : ∀ (m k N : Nat), k + m = 821 → m < N → fX2_copyRiver_L2 (a : Int) (b : Int) N (k : Int) (cpy μ 61 a 61 b k) = some (cpy μ 61 a 61 b 821) := by
    intro m
    induction m with
    | zero =>
      intro k N h1 h2
      obtain ⟨N, rfl⟩ : ∃ j, N = j + 1 := ⟨N - 1, by omega⟩
      obtain rfl : k = 821 := by omega
      rw [fX2_copyRiver_L2, if_pos (by omega)]
    | succ m ih =>
      intro k N h1 h2
      obtain ⟨N, rfl⟩ : ∃ j, N = j + 1 := ⟨N - 1, by omega⟩
      rw [fX2_copyRiver_L2]
      simp (disch := omega) only [w32_s, w32_i, tn_ak, if_neg, if_pos, grd, mlet_e]
      rw [cpy_s (t := k) (by omega) rfl rfl (by omega)]
      exact ih (k + 1) N (by omega) (by omega)
  unfold fX2_copyRiver
  have hf := fuel_lt
  generalize fuel = N at hf ⊢
  have e := hL 821 0 N (by omega) (by omega)
  rw [cpy_0] at e
  exact e
/-! a deed's number -/
def dd (w i y : Int) : Int := bor (bor w (bshl i 2)) (bshl y 5)
theorem dd_bits : ∀ (w : Fin 4) (i : Fin 8) (y : Fin 32), band (dd (w.val : Int) (i.val : Int) (y.val : Int)) 3 = (w.val : Int) ∧ band (bshr (dd (w.val : Int) (i.val : Int) (y.val : Int)) 2) 7 = (i.val : Int) ∧ bshr (dd (w.val : Int) (i.val : Int) (y.val : Int)) 5 = (y.val : Int) := by decide +kernel
theorem dd_b {w i y : Nat} (hw : w < 4) (hi : i < 8) (hy : y < 32) : band (dd (w : Int) (i : Int) (y : Int)) 3 = (w : Int) ∧ band (bshr (dd (w : Int) (i : Int) (y : Int)) 2) 7 = (i : Int) ∧ bshr (dd (w : Int) (i : Int) (y : Int)) 5 = (y : Int) := dd_bits ⟨w, hw⟩ ⟨i, hi⟩ ⟨y, hy⟩
theorem und_night {s : Mem} : und s (dd 0 0 0) = nightS s := by
  have h := dd_b (w := 0) (i := 0) (y := 0) (by omega) (by omega) (by omega)
  unfold und
  rw [if_pos]
  exact h.1
theorem und_raise {s : Mem} {i y : Nat} (hg : GB s) (hi : (i : Int) < s 0 0) (hy : y < 32) : und s (dd 1 (i : Int) (y : Int)) = wr s 3 i (mmin 20 (s 3 i + y)) := by
  have g6 := hg.2.1
  obtain ⟨-, -, g3⟩ := hg.2.2.2.2 i hi
  obtain ⟨h1, h2, h3⟩ : band (dd 1 (i : Int) (y : Int)) 3 = 1 ∧ band (bshr (dd 1 (i : Int) (y : Int)) 2) 7 = (i : Int) ∧ bshr (dd 1 (i : Int) (y : Int)) 5 = (y : Int) := dd_b (w := 1) (i := i) (y := y) (by omega) (by omega) hy
  unfold und
  rw [h1, h2, h3, if_neg (by omega), if_pos (by omega), if_pos rfl, tn_c, w32_i (by omega)]
theorem und_shame {s : Mem} {i y : Nat} (hg : GB s) (hi : (i : Int) < s 0 0) (hy : y < 32) : und s (dd 2 (i : Int) (y : Int)) = wr s 3 i (mmax 0 (s 3 i - y)) := by
  have g6 := hg.2.1
  obtain ⟨-, -, g3⟩ := hg.2.2.2.2 i hi
  obtain ⟨h1, h2, h3⟩ : band (dd 2 (i : Int) (y : Int)) 3 = 2 ∧ band (bshr (dd 2 (i : Int) (y : Int)) 2) 7 = (i : Int) ∧ bshr (dd 2 (i : Int) (y : Int)) 5 = (y : Int) := dd_b (w := 2) (i := i) (y := y) (by omega) (by omega) hy
  unfold und
  rw [h1, h2, h3, if_neg (by omega), if_pos (by omega), if_neg (by omega), if_pos rfl, tn_c, w32_i (by omega)]
theorem und_door {s : Mem} {i y : Nat} (hg : GB s) (hi : (i : Int) < s 0 0) (hy : y < 32) : und s (dd 3 (i : Int) (y : Int)) = wr s 2 i (y : Int) := by
  have g6 := hg.2.1
  obtain ⟨h1, h2, h3⟩ : band (dd 3 (i : Int) (y : Int)) 3 = 3 ∧ band (bshr (dd 3 (i : Int) (y : Int)) 2) 7 = (i : Int) ∧ bshr (dd 3 (i : Int) (y : Int)) 5 = (y : Int) := dd_b (w := 3) (i := i) (y := y) (by omega) (by omega) hy
  unfold und
  rw [h1, h2, h3, if_neg (by omega), if_pos (by omega), if_neg (by omega), if_neg (by omega), tn_c]
theorem GB_wr3 {s : Mem} {i : Nat} {v : Int} (hg : GB s) (hv : 0 ≤ v ∧ v ≤ 20) : GB (wr s 3 i v) := by
  obtain ⟨g1, g2, g3, g4, g5⟩ := hg
  have e0 : ∀ k, wr s 3 i v 0 k = s 0 k := fun k => wr_ne (by omega)
  refine ⟨by rw [e0]; exact g1, by rw [e0]; exact g2, by rw [e0]; exact g3, by rw [e0]; exact g4, fun j hj => ?_⟩
  rw [e0] at hj
  obtain ⟨m1, m2, m3⟩ := g5 j hj
  rw [wr_ne (by omega), wr_ne (by omega)]
  refine ⟨m1, m2, ?_⟩
  by_cases e : j = i
  · rw [wr_at (by omega)]
    exact hv
  · rw [wr_ne (by omega)]
    exact m3
theorem GB_wr2 {s : Mem} {i : Nat} {v : Int} (hg : GB s) (hv : 0 ≤ v ∧ v ≤ 9) : GB (wr s 2 i v) := by
  obtain ⟨g1, g2, g3, g4, g5⟩ := hg
  have e0 : ∀ k, wr s 2 i v 0 k = s 0 k := fun k => wr_ne (by omega)
  refine ⟨by rw [e0]; exact g1, by rw [e0]; exact g2, by rw [e0]; exact g3, by rw [e0]; exact g4, fun j hj => ?_⟩
  rw [e0] at hj
  obtain ⟨m1, m2, m3⟩ := g5 j hj
  rw [wr_ne (c := 2) (c' := 1) (by omega), wr_ne (c := 2) (c' := 3) (by omega)]
  refine ⟨m1, ?_, m3⟩
  by_cases e : j = i
  · rw [wr_at (by omega)]
    exact hv
  · rw [wr_ne (by omega)]
    exact m2
theorem CB_wr3 {b i : Nat} {μ s : Mem} {v : Int} (h : CB b μ s) : CB b (wr μ (b + 3) i v) (wr s 3 i v) := by
  obtain ⟨h1, h2, h3, h4⟩ := h
  have e0 : ∀ k, wr s 3 i v 0 k = s 0 k := fun k => wr_ne (by omega)
  refine ⟨by rw [e0, wr_ne (by omega)]; exact h1, by rw [e0, wr_ne (by omega)]; exact h2, by rw [e0, wr_ne (by omega)]; exact h3, fun j hj => ?_⟩
  rw [e0] at hj
  obtain ⟨m1, m2, m3, m4⟩ := h4 j hj
  by_cases e : j = i
  · subst e
    simp (disch := omega) only [wr_ne, wr_at]
    exact ⟨m1, m2, trivial, m4⟩
  · simp (disch := omega) only [wr_ne]
    exact ⟨m1, m2, m3, m4⟩
theorem CB_wr2 {b i : Nat} {μ s : Mem} {v : Int} (h : CB b μ s) : CB b (wr μ (b + 2) i v) (wr s 2 i v) := by
  obtain ⟨h1, h2, h3, h4⟩ := h
  have e0 : ∀ k, wr s 2 i v 0 k = s 0 k := fun k => wr_ne (by omega)
  refine ⟨by rw [e0, wr_ne (by omega)]; exact h1, by rw [e0, wr_ne (by omega)]; exact h2, by rw [e0, wr_ne (by omega)]; exact h3, fun j hj => ?_⟩
  rw [e0] at hj
  obtain ⟨m1, m2, m3, m4⟩ := h4 j hj
  by_cases e : j = i
  · subst e
    simp (disch := omega) only [wr_ne, wr_at]
    exact ⟨m1, trivial, m3, m4⟩
  · simp (disch := omega) only [wr_ne]
    exact ⟨m1, m2, m3, m4⟩
theorem MB_wr3 {a i : Nat} {μ s : Mem} {v : Int} (h : MB a μ s) (hg : GB s) (hi : i < 6) : MB a (wr μ 61 (a + 9 + i) v) (wr s 3 i v) := by
  have g6 := hg.2.1
  obtain ⟨h1, h2, h3, h4⟩ := h
  have e0 : ∀ k, wr s 3 i v 0 k = s 0 k := fun k => wr_ne (by omega)
  refine ⟨by rw [e0, wr_ne (by omega)]; exact h1, by rw [e0, wr_ne (by omega)]; exact h2, by rw [e0, wr_ne (by omega)]; exact h3, fun j hj => ?_⟩
  rw [e0] at hj
  obtain ⟨m1, m2, m3, m4⟩ := h4 j hj
  by_cases e : j = i
  · subst e
    simp (disch := omega) only [wr_ne, wr_at]
    exact ⟨m1, m2, trivial, m4⟩
  · simp (disch := omega) only [wr_ne]
    exact ⟨m1, m2, m3, m4⟩
theorem MB_wr2 {a i : Nat} {μ s : Mem} {v : Int} (h : MB a μ s) (hg : GB s) (hi : i < 6) : MB a (wr μ 61 (a + 3 + i) v) (wr s 2 i v) := by
  have g6 := hg.2.1
  obtain ⟨h1, h2, h3, h4⟩ := h
  have e0 : ∀ k, wr s 2 i v 0 k = s 0 k := fun k => wr_ne (by omega)
  refine ⟨by rw [e0, wr_ne (by omega)]; exact h1, by rw [e0, wr_ne (by omega)]; exact h2, by rw [e0, wr_ne (by omega)]; exact h3, fun j hj => ?_⟩
  rw [e0] at hj
  obtain ⟨m1, m2, m3, m4⟩ := h4 j hj
  by_cases e : j = i
  · subst e
    simp (disch := omega) only [wr_ne, wr_at]
    exact ⟨m1, trivial, m3, m4⟩
  · simp (disch := omega) only [wr_ne]
    exact ⟨m1, m2, m3, m4⟩
theorem e_undergo {b : Nat} {μ s : Mem} {d : Int} (hc : CB b μ s) (hg : GB s) : Ev (fX0_undergo b d μ) fun μ' => CB b μ' (und s d) ∧ ∀ c k, c < b ∨ b + 4 < c → μ' c k = μ c k := by
  have g6 := hg.2.1
  unfold fX0_undergo und
  simp only [mlet_e, e_has, bd_some, b01_0, hc.1]
  by_cases h1 : band d 3 = 0
  · rw [if_neg (by omega), if_pos h1, ev_bnd2]
    refine ev_mono (e_passNight hc hg) (fun q hq => ev_some.mpr hq.2)
  · rw [if_pos h1, if_neg h1]
    by_cases h2 : 0 ≤ band (bshr d 2) 7 ∧ band (bshr d 2) 7 < s 0 0
    · rw [if_neg (by omega), if_pos h2]
      obtain ⟨i, hi⟩ : ∃ i : Nat, band (bshr d 2) 7 = (i : Int) := ⟨(band (bshr d 2) 7).toNat, by omega⟩
      rw [hi] at h2 ⊢
      obtain ⟨c1, c2, c3, c4⟩ := hc.2.2.2 i h2.2
      by_cases h3 : band d 3 = 1
      · simp (disch := omega) only [if_neg, if_pos, grd, tn_c, c3]
        exact ev_eq rfl ⟨CB_wr3 hc, fun c k hck => wr_ne (by omega)⟩
      · by_cases h4 : band d 3 = 2
        · simp (disch := omega) only [if_neg, if_pos, grd, tn_c, c3]
          exact ev_eq rfl ⟨CB_wr3 hc, fun c k hck => wr_ne (by omega)⟩
        · simp (disch := omega) only [if_neg, if_pos, grd, tn_c]
          exact ev_eq rfl ⟨CB_wr2 hc, fun c k hck => wr_ne (by omega)⟩
    · rw [if_pos h2, if_neg h2]
      exact ev_eq rfl ⟨hc, fun c k hck => rfl⟩
