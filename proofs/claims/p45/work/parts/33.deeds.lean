/-! DEEDS: what both sides do with a bank, a river's row -/
theorem tn_1 {k : Nat} : (1 + (k : Int)).toNat = 1 + k := by omega
theorem tn_3284 {k : Nat} : (3284 + (k : Int)).toNat = 3284 + k := by omega
theorem tn_20 {d k : Nat} : (21 + 20 * (d : Int) + (k : Int)).toNat = 21 + 20 * d + k := by omega
theorem tn_ak {a k : Nat} : ((a : Int) + (k : Int)).toNat = a + k := by omega
theorem tn_9 {k : Nat} : (9 + (k : Int)).toNat = 9 + k := by omega
theorem tn_k3 {k : Nat} : (3 + (k : Int)).toNat = 3 + k := by omega
theorem tn_15 {k : Nat} : (15 + (k : Int)).toNat = 15 + k := by omega
theorem tn_3293 {k : Nat} : (3293 + (k : Int)).toNat = 3293 + k := by omega
theorem cpy_s {μ : Mem} {a d t k1 k2 : Nat} (h : a + t < d ∨ d + t < a ∨ t = 0) (h1 : k1 = d + t) (h2 : k2 = a + t) (h3 : d ≤ a + t → a + t < d + t → False) : wr (cpy μ 61 a 61 d t) 61 k1 (cpy μ 61 a 61 d t 61 k2) = cpy μ 61 a 61 d (t + 1) := by
  subst h1 h2
  funext c k
  by_cases a1 : c = 61 ∧ k = d + t
  · obtain ⟨rfl, rfl⟩ := a1
    rw [wr_at (by omega), cpy_ne (fun q => h3 q.2.1 q.2.2), cpy_at (by omega)]
    congr 1
    omega
  · rw [wr_ne a1]
    by_cases a2 : c = 61 ∧ d ≤ k ∧ k < d + t
    · rw [cpy_at a2, cpy_at (by omega)]
    · rw [cpy_ne a2, cpy_ne (by omega)]
theorem e_become {b b' : Nat} {μ s : Mem} (hd : b + 4 < b' ∨ b' + 4 < b) (hc : CB b' μ s) (hg : GB s) : Ev (fX0_become b b' μ) fun μ' => CB b μ' s ∧ ∀ c k, c < b ∨ b + 4 < c → μ' c k = μ c k := by
  have g6 := hg.2.1
  unfold fX0_become
  simp only [mlet_e]
  refine ev_eq rfl ⟨⟨?_, ?_, ?_, ?_⟩, ?_⟩
  · simp (disch := omega) only [wr_ne, wr_at, cpy_ne, hc.1]
  · simp (disch := omega) only [wr_ne, wr_at, cpy_ne, hc.2.1]
  · simp (disch := omega) only [wr_ne, wr_at, cpy_ne, hc.2.2.1]
  · intro i hi
    obtain ⟨c1, c2, c3, c4⟩ := hc.2.2.2 i hi
    simp (disch := omega) only [wr_ne, wr_at, cpy_ne, cpy_at, Nat.zero_add, Nat.sub_zero, c1, c2, c3, c4]
    exact ⟨trivial, trivial, trivial, trivial⟩
  · intro c k hck
    simp (disch := omega) only [wr_ne, cpy_ne]
/-! a deed's number -/
def dd (w i y : Int) : Int := bor (bor w (bshl i 2)) (bshl y 5)
theorem dd_bits : ∀ (w : Fin 4) (i : Fin 8) (y : Fin 32), band (dd (w.val : Int) (i.val : Int) (y.val : Int)) 3 = (w.val : Int) ∧ band (bshr (dd (w.val : Int) (i.val : Int) (y.val : Int)) 2) 7 = (i.val : Int) ∧ bshr (dd (w.val : Int) (i.val : Int) (y.val : Int)) 5 = (y.val : Int) := by decide +kernel
theorem dd_b {w i y : Nat} (hw : w < 4) (hi : i < 8) (hy : y < 32) : band (dd (w : Int) (i : Int) (y : Int)) 3 = (w : Int) ∧ band (bshr (dd (w : Int) (i : Int) (y : Int)) 2) 7 = (i : Int) ∧ bshr (dd (w : Int) (i : Int) (y : Int)) 5 = (y : Int) := dd_bits ⟨w, hw⟩ ⟨i, hi⟩ ⟨y, hy⟩
theorem und_night {s : Mem} : und s (dd 0 0 0) = nightS s := by
  have h := dd_b (w := 0) (i := 0) (y := 0) (by omega) (by omega) (by omega)
  unfold und
  rw [if_pos]
  exact h.1
theorem und_raise {s : Mem} {i y : Nat} (hg : GB s) (hi : (i : Int) < s 0 0) (hy : y < 32) : und s (dd 1 (i : Int) (y : Int)) = wr s 3 i (mmin 20 (s 3 i + y)) := by
  have g6 := hg.2.1
  obtain ⟨-, -, g3⟩ := hg.2.2.2.2 i hi
  obtain ⟨h1, h2, h3⟩ : band (dd 1 (i : Int) (y : Int)) 3 = 1 ∧ band (bshr (dd 1 (i : Int) (y : Int)) 2) 7 = (i : Int) ∧ bshr (dd 1 (i : Int) (y : Int)) 5 = (y : Int) := dd_b (w := 1) (i := i) (y := y) (by omega) (by omega) hy
  unfold und
  rw [h1, h2, h3, if_neg (by omega), if_pos (by omega), if_pos rfl, tn_c, w32_i (by omega)]
theorem und_shame {s : Mem} {i y : Nat} (hg : GB s) (hi : (i : Int) < s 0 0) (hy : y < 32) : und s (dd 2 (i : Int) (y : Int)) = wr s 3 i (mmax 0 (s 3 i - y)) := by
  have g6 := hg.2.1
  obtain ⟨-, -, g3⟩ := hg.2.2.2.2 i hi
  obtain ⟨h1, h2, h3⟩ : band (dd 2 (i : Int) (y : Int)) 3 = 2 ∧ band (bshr (dd 2 (i : Int) (y : Int)) 2) 7 = (i : Int) ∧ bshr (dd 2 (i : Int) (y : Int)) 5 = (y : Int) := dd_b (w := 2) (i := i) (y := y) (by omega) (by omega) hy
  unfold und
  rw [h1, h2, h3, if_neg (by omega), if_pos (by omega), if_neg (by omega), if_pos rfl, tn_c, w32_i (by omega)]
theorem und_door {s : Mem} {i y : Nat} (hg : GB s) (hi : (i : Int) < s 0 0) (hy : y < 32) : und s (dd 3 (i : Int) (y : Int)) = wr s 2 i (y : Int) := by
  have g6 := hg.2.1
  obtain ⟨h1, h2, h3⟩ : band (dd 3 (i : Int) (y : Int)) 3 = 3 ∧ band (bshr (dd 3 (i : Int) (y : Int)) 2) 7 = (i : Int) ∧ bshr (dd 3 (i : Int) (y : Int)) 5 = (y : Int) := dd_b (w := 3) (i := i) (y := y) (by omega) (by omega) hy
  unfold und
  rw [h1, h2, h3, if_neg (by omega), if_pos (by omega), if_neg (by omega), if_neg (by omega), tn_c]
theorem GB_wr3 {s : Mem} {i : Nat} {v : Int} (hg : GB s) (hv : 0 ≤ v ∧ v ≤ 20) : GB (wr s 3 i v) := by
  obtain ⟨g1, g2, g3, g4, g5⟩ := hg
  have e0 : ∀ k, wr s 3 i v 0 k = s 0 k := fun k => wr_ne (by omega)
  refine ⟨by rw [e0]; exact g1, by rw [e0]; exact g2, by rw [e0]; exact g3, by rw [e0]; exact g4, fun j hj => ?_⟩
  rw [e0] at hj
  obtain ⟨m1, m2, m3⟩ := g5 j hj
  rw [wr_ne (by omega), wr_ne (by omega)]
  refine ⟨m1, m2, ?_⟩
  by_cases e : j = i
  · rw [wr_at (by omega)]
    exact hv
  · rw [wr_ne (by omega)]
    exact m3
theorem GB_wr2 {s : Mem} {i : Nat} {v : Int} (hg : GB s) (hv : 0 ≤ v ∧ v ≤ 9) : GB (wr s 2 i v) := by
  obtain ⟨g1, g2, g3, g4, g5⟩ := hg
  have e0 : ∀ k, wr s 2 i v 0 k = s 0 k := fun k => wr_ne (by omega)
  refine ⟨by rw [e0]; exact g1, by rw [e0]; exact g2, by rw [e0]; exact g3, by rw [e0]; exact g4, fun j hj => ?_⟩
  rw [e0] at hj
  obtain ⟨m1, m2, m3⟩ := g5 j hj
  rw [wr_ne (c := 2) (c' := 1) (by omega), wr_ne (c := 2) (c' := 3) (by omega)]
  refine ⟨m1, ?_, m3⟩
  by_cases e : j = i
  · rw [wr_at (by omega)]
    exact hv
  · rw [wr_ne (by omega)]
    exact m2
theorem CB_wr3 {b i : Nat} {μ s : Mem} {v : Int} (h : CB b μ s) : CB b (wr μ (b + 3) i v) (wr s 3 i v) := by
  obtain ⟨h1, h2, h3, h4⟩ := h
  have e0 : ∀ k, wr s 3 i v 0 k = s 0 k := fun k => wr_ne (by omega)
  refine ⟨by rw [e0, wr_ne (by omega)]; exact h1, by rw [e0, wr_ne (by omega)]; exact h2, by rw [e0, wr_ne (by omega)]; exact h3, fun j hj => ?_⟩
  rw [e0] at hj
  obtain ⟨m1, m2, m3, m4⟩ := h4 j hj
  by_cases e : j = i
  · subst e
    simp (disch := omega) only [wr_ne, wr_at]
    exact ⟨m1, m2, trivial, m4⟩
  · simp (disch := omega) only [wr_ne]
    exact ⟨m1, m2, m3, m4⟩
theorem CB_wr2 {b i : Nat} {μ s : Mem} {v : Int} (h : CB b μ s) : CB b (wr μ (b + 2) i v) (wr s 2 i v) := by
  obtain ⟨h1, h2, h3, h4⟩ := h
  have e0 : ∀ k, wr s 2 i v 0 k = s 0 k := fun k => wr_ne (by omega)
  refine ⟨by rw [e0, wr_ne (by omega)]; exact h1, by rw [e0, wr_ne (by omega)]; exact h2, by rw [e0, wr_ne (by omega)]; exact h3, fun j hj => ?_⟩
  rw [e0] at hj
  obtain ⟨m1, m2, m3, m4⟩ := h4 j hj
  by_cases e : j = i
  · subst e
    simp (disch := omega) only [wr_ne, wr_at]
    exact ⟨m1, trivial, m3, m4⟩
  · simp (disch := omega) only [wr_ne]
    exact ⟨m1, m2, m3, m4⟩
theorem e_undergo {b : Nat} {μ s : Mem} {d : Int} (hc : CB b μ s) (hg : GB s) : Ev (fX0_undergo b d μ) fun μ' => CB b μ' (und s d) ∧ ∀ c k, c < b ∨ b + 4 < c → μ' c k = μ c k := by
  have g6 := hg.2.1
  unfold fX0_undergo und
  simp only [mlet_e, e_has, bd_some, b01_0, hc.1]
  by_cases h1 : band d 3 = 0
  · rw [if_neg (by omega), if_pos h1, ev_bnd2]
    refine ev_mono (e_passNight hc hg) (fun q hq => ev_some.mpr hq.2)
  · rw [if_pos h1, if_neg h1]
    by_cases h2 : 0 ≤ band (bshr d 2) 7 ∧ band (bshr d 2) 7 < s 0 0
    · rw [if_neg (by omega), if_pos h2]
      obtain ⟨i, hi⟩ : ∃ i : Nat, band (bshr d 2) 7 = (i : Int) := ⟨(band (bshr d 2) 7).toNat, by omega⟩
      rw [hi] at h2 ⊢
      obtain ⟨c1, c2, c3, c4⟩ := hc.2.2.2 i h2.2
      by_cases h3 : band d 3 = 1
      · simp (disch := omega) only [if_neg, if_pos, grd, tn_c, c3]
        exact ev_eq rfl ⟨CB_wr3 hc, fun c k hck => wr_ne (by omega)⟩
      · by_cases h4 : band d 3 = 2
        · simp (disch := omega) only [if_neg, if_pos, grd, tn_c, c3]
          exact ev_eq rfl ⟨CB_wr3 hc, fun c k hck => wr_ne (by omega)⟩
        · simp (disch := omega) only [if_neg, if_pos, grd, tn_c]
          exact ev_eq rfl ⟨CB_wr2 hc, fun c k hck => wr_ne (by omega)⟩
    · rw [if_pos h2, if_neg h2]
      exact ev_eq rfl ⟨hc, fun c k hck => rfl⟩
