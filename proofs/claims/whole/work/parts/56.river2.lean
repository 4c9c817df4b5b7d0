/-! fault, river -/
theorem RD_fr {f : Nat → Int} {n b0 p : Nat} {μ ν : Mem} (h : RD f n b0 p μ) (e : ∀ c k, ¬ (c = 60 ∧ 15 ≤ k) → ¬ c = 68 → ν c k = μ c k) : RD f n b0 p ν := by
  obtain ⟨h1, h2, h3, h4⟩ := h
  exact ⟨by rw [e _ _ (by omega) (by omega)]; exact h1, by rw [e _ _ (by omega) (by omega)]; exact h2, by rw [e _ _ (by omega) (by omega)]; exact h3, fun j hj => by rw [e _ _ (by omega) (by omega)]; exact h4 j hj⟩
theorem RP_p {s μ : Mem} {v : Int} {k : Nat} (h : RP s μ) (hk : k ≤ 14) : RP s (wr μ 60 k v) := by
  obtain ⟨h1, h2, h3⟩ := h
  refine ⟨by rw [wr_ne (by omega)]; exact h1, by rw [wr_ne (by omega)]; exact h2, fun i hi => ?_⟩
  rw [wr_ne (by omega), wr_ne (by omega), wr_ne (by omega)]
  exact h3 i hi
def K11f : Int → Mem → Option (Int × Mem) := fun x9 μ10 => if x9 = 0 then some (μ10 60 13, μ10) else if μ10 60 17 ≤ 0 then some (μ10 60 13, μ10) else some (-9, μ10)
theorem e_fl41 {f : Nat → Int} {n b0 : Nat} (hb : b0 ≤ 180) (hn : n ≤ 60) : ∀ (m a N : Nat) (μ s : Mem), s 0 0 + m = 7 → 0 < m → m + 2 < N → a ≤ n → RD f n b0 a μ → RP s μ → GB s → Ev (fX2_faultOf_L41 K11f N 1 μ) fun q => q.1 = (paS f n m a s).1 ∧ (q.1 = -9 → RP (paS f n m a s).2 q.2) ∧ ∀ c k, ¬ rdc c k → q.2 c k = μ c k := by
  intro m
  induction m with
  | zero => intro a N μ s h1 h2; omega
  | succ m ih =>
    intro a N μ s h1 h2 h3 h4 hD hP hg
    obtain ⟨N, rfl⟩ : ∃ j, N = j + 2 := ⟨N - 2, by omega⟩
    have g0 := hg.1
    have g6 := hg.2.1
    rw [fX2_faultOf_L41, if_neg (by omega), hD.2.2.1, hD.2.1, paS]
    by_cases z : n ≤ a
    · rw [if_pos (by omega), if_pos z]
      unfold K11f
      rw [if_neg (by omega), hP.1, hD.2.1]
      by_cases z2 : s 0 0 = 0
      · rw [if_pos (by omega), if_pos z2]
        refine ev_some.mpr ⟨by dsimp only; omega, fun w => by dsimp only at w; omega, fun _ _ _ => rfl⟩
      · rw [if_neg (by omega), if_neg z2]
        exact ev_some.mpr ⟨rfl, fun _ => hP, fun _ _ _ => rfl⟩
    · rw [if_neg (by omega), if_neg z, ev_bnd2]
      refine ev_mono (e_readsOne (s := s) hD hb hn (by omega) hP hg) (fun q hq => ?_)
      obtain ⟨q1, q2, q3⟩ := hq
      by_cases z2 : fltS f n (s 0 0) a = -9
      · obtain ⟨y1, y2, y3⟩ := q1 z2
        obtain ⟨hg', hs5, han⟩ := GB_nx hg z2
        have e00 : nxS f s a 0 0 = s 0 0 + 1 := adS_00 _ _ _ _
        have hsk := skS_le f n (n - (a + 4)) (a + 4)
        rw [y1, if_neg (by omega), if_pos z2, e_skip hb hn (by omega) y2, bd_some]
        refine ev_mono (ih (sk f n (a + 4)) (N + 1) _ (nxS f s a) (by rw [e00]; omega) (by omega) (by omega) (by unfold sk; omega) (RD_p y2) (RP_p y3 (by omega)) hg') (fun t ht => ⟨ht.1, ht.2.1, fun c k hk => ?_⟩)
        rw [ht.2.2 _ _ hk]
        unfold rdc at hk
        rw [wr_ne (by omega), q3 _ _ (by unfold rdc; omega)]
      · obtain ⟨y1, y2⟩ := q2 z2
        rw [y1, if_pos rfl, if_neg z2, fX2_faultOf_L41, if_pos rfl]
        unfold K11f
        rw [if_pos rfl]
        exact ev_some.mpr ⟨y2, fun w => absurd (y2.symm.trans w) z2, q3⟩
theorem e_faultOf {f : Nat → Int} {n t : Nat} {μ : Mem} (ht : t < 4) (hn : n ≤ 60) (h65 : μ 65 t = (n : Int)) (htx : ∀ j, j < n → μ 66 (60 * t + j) = f j) : Ev (fX2_faultOf (t : Int) μ) fun q => q.1 = (rdS f n).1 ∧ (q.1 = -9 → RP (rdS f n).2 q.2) ∧ ∀ c k, ¬ rdc c k → q.2 c k = μ c k := by
  have hsk := skS_le f n (n - 0) 0
  have hsk' : sk f n 0 ≤ n := by unfold sk; omega
  have e60 : w32 (60 * (t : Int)) = ((60 * t : Nat) : Int) := by rw [w32_i (by omega)]; omega
  have hct : 0 ≤ (t : Int) ∧ (t : Int) < 4 := by omega
  unfold fX2_faultOf
  have hf := fuel_lt
  generalize fuel = N at hf ⊢
  rw [e60]
  clear e60
  simp only [mlet_e, grd, if_pos hct, tn_c]
  rw [show wr (wr μ 60 12 ((60 * t : Nat) : Int)) 60 13 0 65 t = (n : Int) from by rw [wr_ne (by omega), wr_ne (by omega), h65]]
  generalize hν : wr (wr (wr (wr μ 60 12 ((60 * t : Nat) : Int)) 60 13 0) 60 14 (n : Int)) 60 17 0 = ν
  have fν : ∀ c k, ¬ rdc c k → ν c k = μ c k := fun c k hk => by
    unfold rdc at hk
    rw [← hν, wr_ne (by omega), wr_ne (by omega), wr_ne (by omega), wr_ne (by omega)]
  have hD : RD f n (60 * t) 0 ν := by
    refine ⟨?_, ?_, ?_, fun j hj => ?_⟩
    · rw [← hν, wr_ne (by omega), wr_ne (by omega), wr_ne (by omega), wr_at (by omega)]
    · rw [← hν, wr_ne (by omega), wr_ne (by omega), wr_at (by omega)]
      rfl
    · rw [← hν, wr_ne (by omega), wr_at (by omega)]
    · rw [fν _ _ (by unfold rdc; omega)]
      exact htx j hj
  have e17 : ν 60 17 = 0 := by rw [← hν, wr_at (by omega)]
  unfold fX2_readsFord rdS
  rw [e_skip (by omega) hn (by omega) hD, bd_some, wr_at (by omega), wr_ne (show ¬ ((60 : Nat) = 60 ∧ (14 : Nat) = 13) by omega), hD.2.2.1]
  have hD1 := RD_p (q := sk f n 0) hD
  generalize hb : sk f n 0 = b at *
  have frw : ∀ (q : Nat) (c k : Nat), ¬ rdc c k → wr ν 60 13 (q : Int) c k = μ c k := fun q c k hk => by
    rw [wr_ne (by unfold rdc at hk; omega), fν _ _ hk]
  have stop : ∀ (μ6 : Mem), (∀ c k, ¬ rdc c k → μ6 c k = μ c k) → Ev (fX2_faultOf_L41 (fun x9 μ10 => if x9 = 0 then some (μ10 60 13, μ10) else if μ10 60 17 ≤ 0 then some (μ10 60 13, μ10) else some (-9, μ10)) N 0 μ6) fun q => q.1 = μ6 60 13 ∧ ∀ c k, ¬ rdc c k → q.2 c k = μ c k := fun μ6 hf6 => by
    obtain ⟨N, rfl⟩ : ∃ j, N = j + 1 := ⟨N - 1, by omega⟩
    rw [fX2_faultOf_L41, if_pos rfl, if_pos rfl]
    exact ev_some.mpr ⟨rfl, hf6⟩
  by_cases z1 : n ≤ b
  · rw [if_pos (by omega), if_pos z1, bnd2_some, if_pos rfl]
    refine ev_mono (stop _ (frw b)) (fun q hq => ⟨by rw [hq.1, wr_at (by omega)], fun w => ?_, hq.2⟩)
    rw [hq.1, wr_at (by omega)] at w
    omega
  · rw [if_neg (by omega), if_neg z1, e_here hD1 (by omega) hn (by omega), bd_some]
    by_cases z2 : f b = 102
    · rw [if_pos z2, if_neg (show ¬ ¬ f b = 102 from fun w => w z2), wr_wr, w32_s (by omega)]
      have hD2 := RD_p (q := b + 1) hD
      obtain ⟨a1, a2⟩ := e_figure hD2 (by omega) hn (by omega)
      by_cases z3 : dgt f n (b + 1)
      · rw [mlet_e, a1 z3, wr_wr, bnd2_some, mlet_e, wr_at (by omega), if_neg (show ¬ ¬ dgt f n (b + 1) from fun w => w z3)]
        obtain ⟨d1, d2, d3⟩ := id z3
        rw [if_neg (show ¬ f (b + 1) - 48 = -9 by omega), bnd2_some, if_neg (by omega)]
        have hD3 : RD f n (60 * t) (b + 2) (wr (wr ν 60 13 ((b + 1 + 1 : Nat) : Int)) 60 15 (f (b + 1) - 48)) := RD_fr (RD_p (q := b + 2) hD) (fun c k h1 h2 => wr_ne (by omega))
        have hs2 := skS_le f n (n - (b + 2)) (b + 2)
        rw [e_skip (by omega) hn (by omega) hD3, bd_some]
        have hGB := GB_st (v := f (b + 1) - 48) (by omega)
        have hRP : RP (ini (f (b + 1) - 48)) (wr (wr (wr ν 60 13 ((b + 1 + 1 : Nat) : Int)) 60 15 (f (b + 1) - 48)) 60 13 ((sk f n (b + 2) : Nat) : Int)) := by
          refine ⟨?_, ?_, fun i hi => ?_⟩
          · rw [ini_o (by omega), wr_ne (by omega), wr_ne (by omega), wr_ne (by omega), e17]
          · rw [ini_1, wr_ne (by omega), wr_at (by omega)]
          · rw [ini_o (by omega)] at hi
            omega
        refine ev_mono (e_fl41 (b0 := 60 * t) (by omega) hn 7 (sk f n (b + 2)) N _ (ini (f (b + 1) - 48)) (by rw [ini_o (by omega)]; omega) (by omega) (by omega) (by unfold sk; omega) (RD_p hD3) hRP hGB) (fun q hq => ⟨hq.1, hq.2.1, fun c k hk => ?_⟩)
        rw [hq.2.2 _ _ hk, wr_ne (by unfold rdc at hk; omega), wr_ne (by unfold rdc at hk; omega), wr_ne (by unfold rdc at hk; omega), fν _ _ hk]
      · rw [mlet_e, a2 z3, bnd2_some, mlet_e, wr_at (by omega), if_pos rfl, if_pos z3, bnd2_some, if_pos rfl]
        refine ev_mono (stop _ (fun c k hk => by rw [wr_ne (by unfold rdc at hk; omega), frw _ _ _ hk])) (fun q hq => ⟨by rw [hq.1, wr_ne (by omega), wr_at (by omega)], fun w => ?_, hq.2⟩)
        rw [hq.1, wr_ne (by omega), wr_at (by omega)] at w
        omega
    · rw [if_neg z2, if_pos z2, bnd2_some, if_pos rfl]
      refine ev_mono (stop _ (frw b)) (fun q hq => ⟨by rw [hq.1, wr_at (by omega)], fun w => ?_, hq.2⟩)
      rw [hq.1, wr_at (by omega)] at w
      omega
theorem P_fault {t : Int} {μ : Mem} (h : Inv μ) : Same (fX1_fault t μ) (fX2_fault t) := by
  by_cases a : 0 ≤ t ∧ t ≤ 3
  · obtain ⟨t, rfl⟩ : ∃ k : Nat, t = k := ⟨t.toNat, by omega⟩
    obtain ⟨k1, k2, k3, k4⟩ := h.2.1 t (by omega)
    by_cases b : 0 ≤ μ 14 t
    · obtain ⟨n, hn⟩ : ∃ n : Nat, μ 14 t = (n : Int) := ⟨(μ 14 t).toNat, by omega⟩
      obtain ⟨⟨v, μ1⟩, a1, a2, a3, a4⟩ := e_read (c := 10 + t) (n := n) (μ := μ) (by omega) (by omega)
      dsimp only at a2 a3 a4
      obtain ⟨⟨v2, μ2⟩, b1, b2, b3, b4⟩ := e_faultOf (f := fun j => μ (10 + t) j) (n := n) (t := t) (μ := μ1) (by omega) (by omega) (by rw [a4 _ _ (by omega)]; omega) (fun j hj => by rw [a4 _ _ (by omega)]; exact k4 j (by omega))
      dsimp only at b2 b3 b4
      rw [← a2] at b2
      subst b2
      refine same_of (v := v2) (μ1 := μ1) (μ2 := μ2) ?_ ?_ (Inv_free h (fun c k hf => by
        unfold fre at hf
        rw [b4 _ _ (by unfold rdc; omega), a4 _ _ (by omega)]))
      · unfold fX1_fault
        simp (disch := omega) only [e_isText, hn, a1, bnd2_some, bd_some, b01_t, b01_f, if_pos, if_neg, mlet_e, grd, ite_true, ite_false, not_true_eq_false, not_false_eq_true, ite_self, tn_c, w32_i]
      · have e65 : μ1 65 t = (n : Int) := by rw [a4 _ _ (by omega)]; omega
        unfold fX2_fault
        simp (disch := omega) only [e_isText2, e65, b1, bnd2_some, bd_some, b01_t, b01_f, if_pos, if_neg, mlet_e, grd, ite_true, ite_false, not_true_eq_false, not_false_eq_true, ite_self, tn_c, w32_i]
    · refine same_of (v := -3) (μ1 := fndM μ 1) (μ2 := fndM2 (fndM μ 1) 1) ?_ ?_ (Inv_find h (by omega))
      · unfold fX1_fault
        simp (disch := omega) only [e_isText, fn1, bnd2_some, bd_some, b01_t, b01_f, if_pos, if_neg, mlet_e, grd, ite_true, ite_false, not_true_eq_false, not_false_eq_true, ite_self, tn_c, w32_i]
      · unfold fX2_fault
        simp (disch := omega) only [e_isText2, gn1, fndM_ne, bnd2_some, bd_some, b01_t, b01_f, if_pos, if_neg, mlet_e, grd, ite_true, ite_false, not_true_eq_false, not_false_eq_true, ite_self, tn_c, w32_i]
  · refine same_of (v := -1) (μ1 := μ) (μ2 := μ) ?_ ?_ h
    · unfold fX1_fault
      simp (disch := omega) only [e_isText, bnd2_some, bd_some, b01_t, b01_f, if_pos, if_neg, mlet_e, grd, ite_true, ite_false, not_true_eq_false, not_false_eq_true, ite_self, tn_c, w32_i]
    · unfold fX2_fault
      simp (disch := omega) only [e_isText2, bnd2_some, bd_some, b01_t, b01_f, if_pos, if_neg, mlet_e, grd, ite_true, ite_false, not_true_eq_false, not_false_eq_true, ite_self, tn_c, w32_i]
/-! a river anew -/
def ZS (s : Mem) : Prop := s 0 2 = 0 ∧ ∀ i : Nat, (i : Int) < s 0 0 → s 4 i = 0
theorem Z_ad {s : Mem} {k d v : Int} (h : ZS s) : ZS (adS s k d v) := by
  refine ⟨by rw [adS_02]; exact h.1, fun i hi => ?_⟩
  rw [adS_00] at hi
  by_cases e : (i : Int) = s 0 0
  · exact (adS_n s k d v e).2.2.2
  · rw [adS_o _ _ _ _ (by omega) e]
    exact h.2 i (by omega)
theorem Z_pa (f : Nat → Int) (n : Nat) : ∀ (m a : Nat) (s : Mem), ZS s → ZS (paS f n m a s).2
  | 0, _, _, h => h
  | m + 1, a, s, h => by
    unfold paS
    split
    · exact h
    · split
      · exact Z_pa f n m _ _ (Z_ad h)
      · exact h
theorem Z_rd (f : Nat → Int) (n : Nat) : ZS (rdS f n).2 := by
  unfold rdS
  split
  · exact ⟨rfl, fun _ _ => rfl⟩
  · split
    · exact ⟨rfl, fun _ _ => rfl⟩
    · split
      · exact ⟨rfl, fun _ _ => rfl⟩
      · exact Z_pa f n 7 _ _ ⟨ini_o (by omega), fun _ _ => ini_o (by omega)⟩
theorem e_rv39 {K : Mem → Option (Int × Mem)} {μ : Mem} : ∀ (m k N : Nat), k + m = 821 → m < N → fX2_river_L39 K N (k : Int) (filR μ 61 0 k 0) = K (filR μ 61 0 821 0) := by
  intro m
  induction m with
  | zero =>
    intro k N h1 h2
    obtain ⟨N, rfl⟩ : ∃ j, N = j + 1 := ⟨N - 1, by omega⟩
    obtain rfl : k = 821 := by omega
    rw [fX2_river_L39, if_pos (by omega)]
  | succ m ih =>
    intro k N h1 h2
    obtain ⟨N, rfl⟩ : ∃ j, N = j + 1 := ⟨N - 1, by omega⟩
    rw [fX2_river_L39]
    simp (disch := omega) only [grd, if_pos, if_neg, mlet_e, w32_s, tn_c]
    rw [filR_s (by omega)]
    exact ih (k + 1) N (by omega) (by omega)
theorem tn_3a {k : Nat} : (3 * (k : Int)).toNat = 3 * k := by omega
theorem tn_3b {k : Nat} : (3 * (k : Int) + 1).toNat = 3 * k + 1 := by omega
theorem tn_3c {k : Nat} : (3 * (k : Int) + 2).toNat = 3 * k + 2 := by omega
theorem e_rv79 {K : Mem → Option (Int × Mem)} {Q : Int × Mem → Prop} {μ s : Mem} (h4 : μ 60 1 = s 0 0) (hg : GB s) (hP : ∀ i : Nat, (i : Int) < s 0 0 → μ 68 (3 * i) = s 1 i ∧ μ 68 (3 * i + 1) = s 2 i ∧ μ 68 (3 * i + 2) = s 3 i)
    (hK : ∀ ν, (∀ i : Nat, (i : Int) < s 0 0 → ν 62 i = s 1 i ∧ ν 61 (3 + i) = s 2 i ∧ ν 61 (9 + i) = s 3 i) → (∀ c k, ¬ c = 62 → ¬ (c = 61 ∧ 3 ≤ k ∧ k < 15) → ν c k = μ c k) → Ev (K ν) Q) : ∀ (m k N : Nat) (ν : Mem), k + m = (s 0 0).toNat → m < N → (∀ i : Nat, i < k → ν 62 i = s 1 i ∧ ν 61 (3 + i) = s 2 i ∧ ν 61 (9 + i) = s 3 i) → (∀ c k, ¬ c = 62 → ¬ (c = 61 ∧ 3 ≤ k ∧ k < 15) → ν c k = μ c k) → Ev (fX2_river_L79 K N (k : Int) ν) Q := by
  have g0 := hg.1
  have g6 := hg.2.1
  intro m
  induction m with
  | zero =>
    intro k N ν h1 h2 h3 h5
    obtain ⟨N, rfl⟩ : ∃ j, N = j + 1 := ⟨N - 1, by omega⟩
    rw [fX2_river_L79, h5 _ _ (by omega) (by omega), h4, if_pos (by omega)]
    exact hK ν (fun i hi => h3 i (by omega)) h5
  | succ m ih =>
    intro k N ν h1 h2 h3 h5
    obtain ⟨N, rfl⟩ : ∃ j, N = j + 1 := ⟨N - 1, by omega⟩
    obtain ⟨p1, p2, p3⟩ := hP k (by omega)
    rw [fX2_river_L79, h5 60 1 (by omega) (by omega), h4, if_neg (by omega), w32_i (z := 3 * (k : Int)) (by omega), w32_i (z := 3 * (k : Int) + 1) (by omega), w32_i (z := 3 * (k : Int) + 2) (by omega), w32_i (z := 3 + (k : Int)) (by omega), w32_i (z := 9 + (k : Int)) (by omega)]
    simp (disch := omega) only [grd, if_pos, mlet_e, w32_s, tn_c, tn_3a, tn_3b, tn_3c, tn_k3, tn_9, wr_ne]
    rw [h5 68 _ (by omega) (by omega), h5 68 _ (by omega) (by omega), h5 68 _ (by omega) (by omega), p1, p2, p3]
    refine ih (k + 1) N _ (by omega) (by omega) (fun i hi => ?_) (fun c k' c1 c2 => by rw [wr_ne (by omega), wr_ne (by omega), wr_ne (by omega), h5 _ _ c1 c2])
    by_cases e : i = k
    · subst e
      refine ⟨?_, ?_, ?_⟩
      · rw [wr_ne (by omega), wr_ne (by omega), wr_at (by omega)]
      · rw [wr_ne (by omega), wr_at (by omega)]
      · rw [wr_at (by omega)]
    · obtain ⟨y1, y2, y3⟩ := h3 i (by omega)
      refine ⟨?_, ?_, ?_⟩
      · rw [wr_ne (by omega), wr_ne (by omega), wr_ne (by omega)]; exact y1
      · rw [wr_ne (by omega), wr_ne (by omega), wr_ne (by omega)]; exact y2
      · rw [wr_ne (by omega), wr_ne (by omega), wr_ne (by omega)]; exact y3
theorem e_rv146 {N : Nat} {ν : Mem} (hN : 5 < N) : fX2_river_L146 N 1 ν = some (ν 60 1, wr (wr (wr ν 61 821 (-1)) 61 1642 (-1)) 61 2463 (-1)) := by
  obtain ⟨N, rfl⟩ : ∃ j, N = j + 4 := ⟨N - 4, by omega⟩
  have a1 : w32 (w32 (821 * 1) + 0) = 821 := by decide
  have a2 : w32 (w32 (821 * 2) + 0) = 1642 := by decide
  have a3 : w32 (w32 (821 * 3) + 0) = 2463 := by decide
  have b1 : w32 (1 + 1) = 2 := by decide
  have b2 : w32 (2 + 1) = 3 := by decide
  have b3 : w32 (3 + 1) = 4 := by decide
  rw [fX2_river_L146, if_neg (by omega), a1, b1]
  simp (disch := omega) only [grd, if_pos, mlet_e]
  rw [fX2_river_L146, if_neg (by omega), a2, b2]
  simp (disch := omega) only [grd, if_pos, mlet_e]
  rw [fX2_river_L146, if_neg (by omega), a3, b3]
  simp (disch := omega) only [grd, if_pos, mlet_e]
  rw [fX2_river_L146, if_pos (by omega), wr_ne (by omega), wr_ne (by omega), wr_ne (by omega)]
  rfl
theorem P_river {t : Int} {μ : Mem} (h : Inv μ) : Same (fX1_river t μ) (fX2_river t) := by
  by_cases a : 0 ≤ t ∧ t ≤ 3
  · obtain ⟨t, rfl⟩ : ∃ k : Nat, t = k := ⟨t.toNat, by omega⟩
    obtain ⟨k1, k2, k3, k4⟩ := h.2.1 t (by omega)
    by_cases b : 0 ≤ μ 14 t
    · obtain ⟨n, hn⟩ : ∃ n : Nat, μ 14 t = (n : Int) := ⟨(μ 14 t).toNat, by omega⟩
      obtain ⟨⟨v, μ1⟩, a1, a2, a3, a4⟩ := e_read (c := 10 + t) (n := n) (μ := μ) (by omega) (by omega)
      dsimp only at a2 a3 a4
      by_cases z : v = -9
      · obtain ⟨hC, hg⟩ := a3 z
        have hZ := Z_rd (fun j => μ (10 + t) j) n
        generalize hs : (rdS (fun j => μ (10 + t) j) n).2 = s at hC hg hZ
        have g0 := hg.1
        have g6 := hg.2.1
        obtain ⟨μa, d1, d2, d3⟩ := e_become (b := 15) (b' := 25) (by omega) hC hg
        obtain ⟨μb, d4, d5, d6⟩ := e_become (b := 20) (b' := 25) (μ := μa) (by omega) (CB_congr hC (fun c k hk => d3 _ _ (by omega))) hg
        have E1 : fX1_river (t : Int) μ = some (s 0 0, filM (wr μb 0 8 0) 35 3 (-1)) := by
          have e20 : filM (wr μb 0 8 0) 35 3 (-1) 20 4 = s 0 0 := by rw [filM_ne (by omega), wr_ne (by omega), d5.1]
          unfold fX1_river
          simp (disch := omega) only [e_isText, hn, a1, d1, d4, bnd2_some, bd_some, b01_t, b01_f, if_pos, if_neg, mlet_e, grd, ite_true, ite_false, not_true_eq_false, not_false_eq_true, ite_self, tn_c, w32_i]
          rw [e20]
        refine ⟨_, E1, ?_⟩
        dsimp only
        generalize hμ1 : filM (wr μb 0 8 0) 35 3 (-1) = ν1
        have f1 : ∀ c k, ¬ (c = 0 ∧ k = 8) → ¬ (15 ≤ c ∧ c ≤ 29) → ¬ c = 35 → ν1 c k = μ c k := fun c k c1 c2 c3 => by
          rw [← hμ1, filM_ne (by omega), wr_ne (by omega), d6 _ _ (by omega), d3 _ _ (by omega), a4 _ _ (by omega)]
        have e08 : ν1 0 8 = 0 := by rw [← hμ1, filM_ne (by omega), wr_at (by omega)]
        have e35 : ∀ k, k < 3 → ν1 35 k = -1 := fun k hk => by rw [← hμ1, filM_at (by omega)]
        have c15 : CB 15 ν1 s := CB_congr d2 (fun c k hk => by rw [← hμ1, filM_ne (by omega), wr_ne (by omega), d6 _ _ (by omega)])
        have c20 : CB 20 ν1 s := CB_congr d5 (fun c k hk => by rw [← hμ1, filM_ne (by omega), wr_ne (by omega)])
        have e65 : ν1 65 t = (n : Int) := by rw [f1 _ _ (by omega) (by omega) (by omega)]; omega
        obtain ⟨⟨v2, μ2⟩, b1, b2, b3, b4⟩ := e_faultOf (f := fun j => μ (10 + t) j) (n := n) (t := t) (μ := ν1) (by omega) (by omega) e65 (fun j hj => by rw [f1 _ _ (by omega) (by omega) (by omega)]; exact k4 j (by omega))
        dsimp only at b2 b3 b4
        rw [← a2, z] at b2
        subst b2
        have hRP := b3 rfl
        rw [hs] at hRP
        unfold fX2_river
        have hf := fuel_lt
        generalize fuel = N at hf ⊢
        simp (disch := omega) only [e_isText2, e65, b1, bnd2_some, bd_some, b01_t, b01_f, if_pos, if_neg, mlet_e, grd, ite_true, ite_false, not_true_eq_false, not_false_eq_true, ite_self, tn_c, w32_i]
        have e9 := fun K => e_rv39 (K := K) (μ := μ2) 821 0 N (by omega) (by omega)
        rw [filR_0] at e9
        have key : ∀ o, o = fX2_river_L39 (fun μ4 => fX2_river_L79 (fun μ8 => fX2_river_L146 N 1 μ8) N 0 (wr (wr μ4 61 2 (μ4 60 15)) 60 1 (wr μ4 61 2 (μ4 60 15) 60 17))) N 0 μ2 → Ev o fun q' => q'.1 = s 0 0 ∧ Inv q'.2 := by
          rintro o rfl
          rw [show (0 : Int) = ((0 : Nat) : Int) from rfl, e9]
          generalize hμ4 : filR μ2 61 0 821 0 = μ4
          have f4 : ∀ c k, ¬ (c = 61 ∧ k < 821) → μ4 c k = μ2 c k := fun c k hk => by rw [← hμ4, filR_ne (by omega)]
          have f40 : ∀ k, k < 821 → μ4 61 k = 0 := fun k hk => by rw [← hμ4, filR_at (by omega)]
          have e15 : μ4 60 15 = s 0 1 := by rw [f4 _ _ (by omega)]; exact hRP.2.1
          have e17 : wr μ4 61 2 (s 0 1) 60 17 = s 0 0 := by rw [wr_ne (by omega), f4 _ _ (by omega)]; exact hRP.1
          rw [e15, e17]
          refine e_rv79 (s := s) (μ := wr (wr μ4 61 2 (s 0 1)) 60 1 (s 0 0)) (wr_at (by omega)) hg (fun i hi => by
            rw [wr_ne (by omega), wr_ne (by omega), wr_ne (by omega), wr_ne (by omega), wr_ne (by omega), wr_ne (by omega), f4 _ _ (by omega), f4 _ _ (by omega), f4 _ _ (by omega)]
            exact hRP.2.2 i hi) (fun ν2 r1 r2 => ?_) (s 0 0).toNat 0 N _ (by omega) (by omega) (fun i hi => absurd hi (by omega)) (fun _ _ _ _ => rfl)
          have e601 : ν2 60 1 = s 0 0 := by rw [r2 _ _ (by omega) (by omega), wr_at (by omega)]
          rw [e_rv146 (by omega), e601]
          refine ev_some.mpr ⟨rfl, ?_⟩
          dsimp only
          generalize hν3 : wr (wr (wr ν2 61 821 (-1)) 61 1642 (-1)) 61 2463 (-1) = ν3
          have f5 : ∀ c k, ¬ c = 62 → ¬ (c = 61 ∧ k < 3284) → ¬ (c = 60 ∧ k = 1) → ν3 c k = μ2 c k := fun c k c1 c2 c3 => by
            rw [← hν3, wr_ne (by omega), wr_ne (by omega), wr_ne (by omega), r2 _ _ c1 (by omega), wr_ne c3, wr_ne (by omega), f4 _ _ (by omega)]
          have f6 : ∀ c k, ¬ c = 61 → ν3 c k = ν2 c k := fun c k hc => by rw [← hν3, wr_ne (by omega), wr_ne (by omega), wr_ne (by omega)]
          have f7 : ∀ k, k < 821 → ν3 61 k = ν2 61 k := fun k hk => by rw [← hν3, wr_ne (by omega), wr_ne (by omega), wr_ne (by omega)]
          have f8 : ∀ c k, ¬ c = 62 → ¬ (c = 61 ∧ k < 3284) → ¬ (c = 60 ∧ k = 1) → ¬ rdc c k → ν3 c k = ν1 c k := fun c k c1 c2 c3 c4 => by rw [f5 _ _ c1 c2 c3, b4 _ _ c4]
          have nr : ∀ c k, c < 60 ∨ (61 ≤ c ∧ c ≤ 67) ∨ (c = 60 ∧ k < 12) → ¬ rdc c k := fun c k hc => by unfold rdc; omega
          have hMB : MB 0 ν3 s := by
            refine ⟨by rw [f6 _ _ (by omega)]; exact e601, ?_, ?_, fun i hi => ?_⟩
            · rw [f7 _ (by omega), r2 _ _ (by omega) (by omega), wr_ne (by omega), wr_at (by omega)]
            · rw [f7 _ (by omega), r2 _ _ (by omega) (by omega), wr_ne (by omega), wr_ne (by omega), f40 _ (by omega)]
              exact hZ.1.symm
            · obtain ⟨y1, y2, y3⟩ := r1 i hi
              refine ⟨by rw [f6 _ _ (by omega)]; exact y1, ?_, ?_, ?_⟩
              · rw [f7 _ (by omega), show 0 + 3 + i = 3 + i by omega]; exact y2
              · rw [f7 _ (by omega), show 0 + 9 + i = 9 + i by omega]; exact y3
              · rw [f7 _ (by omega), r2 _ _ (by omega) (by omega), wr_ne (by omega), wr_ne (by omega), f40 _ (by omega)]
                exact (hZ.2 i hi).symm
          refine ⟨RowsI_congr h.1 (fun c k hc => by rw [f8 _ _ (by omega) (by omega) (by omega) (nr _ _ (by omega)), f1 _ _ (by omega) (by omega) (by omega)]), TextsI_congr h.2.1 (fun c k hc => by rw [f8 _ _ (by omega) (by omega) (by omega) (nr _ _ (by omega)), f1 _ _ (by omega) (by omega) (by omega)]), ToldI_congr h.2.2.1 (fun c k hc => by rw [f8 _ _ (by omega) (by omega) (by omega) (nr _ _ (by omega)), f1 _ _ (by omega) (by omega) (by omega)]), ?_⟩
          have e08' : ν3 0 8 = 0 := by rw [f8 _ _ (by omega) (by omega) (by omega) (nr _ _ (by omega))]; exact e08
          refine ⟨by rw [e08']; omega, s, fun _ _ => s, CB_congr c15 (fun c k hc => f8 _ _ (by omega) (by omega) (by omega) (nr _ _ (by omega))), CB_congr c20 (fun c k hc => f8 _ _ (by omega) (by omega) (by omega) (nr _ _ (by omega))), fun j hj => ?_⟩
          by_cases ej : j = 0
          · subst ej
            have ec : cnt ν3 0 = 0 := e08'
            rw [ec]
            refine ⟨by omega, by omega, ?_, fun _ => ?_⟩
            · rw [f7 _ (by omega), r2 _ _ (by omega) (by omega), wr_ne (by omega), wr_ne (by omega), f40 _ (by omega)]
            · unfold SlotI
              rw [ec]
              exact ⟨rfl, fun d hd => absurd hd (by omega), hMB, fun d hd => hg⟩
          · have ec : cnt ν3 j = -1 := by
              unfold cnt
              rw [if_neg ej, f8 _ _ (by omega) (by omega) (by omega) (nr _ _ (by omega)), e35 _ (by omega)]
            rw [ec]
            refine ⟨by omega, by omega, ?_, fun w => absurd w (by omega)⟩
            have : j = 1 ∨ j = 2 ∨ j = 3 := by omega
            rw [← hν3]
            rcases this with rfl | rfl | rfl
            · rw [wr_ne (by omega), wr_ne (by omega), wr_at (by omega)]
            · rw [wr_ne (by omega), wr_at (by omega)]
            · rw [wr_at (by omega)]
        exact key _ rfl
      · obtain ⟨⟨v2, μ2⟩, b1, b2, b3, b4⟩ := e_faultOf (f := fun j => μ (10 + t) j) (n := n) (t := t) (μ := μ1) (by omega) (by omega) (by rw [a4 _ _ (by omega)]; omega) (fun j hj => by rw [a4 _ _ (by omega)]; exact k4 j (by omega))
        dsimp only at b2 b3 b4
        rw [← a2] at b2
        subst b2
        refine same_of (v := -4) (μ1 := μ1) (μ2 := μ2) ?_ ?_ (Inv_free h (fun c k hf => by
          unfold fre at hf
          rw [b4 _ _ (by unfold rdc; omega), a4 _ _ (by omega)]))
        · unfold fX1_river
          simp (disch := omega) only [e_isText, hn, a1, bnd2_some, bd_some, b01_t, b01_f, if_pos, if_neg, mlet_e, grd, ite_true, ite_false, not_true_eq_false, not_false_eq_true, ite_self, tn_c, w32_i]
        · have e65 : μ1 65 t = (n : Int) := by rw [a4 _ _ (by omega)]; omega
          unfold fX2_river
          have hf := fuel_lt
          generalize fuel = N at hf ⊢
          simp (disch := omega) only [e_isText2, e65, b1, bnd2_some, bd_some, b01_t, b01_f, if_pos, if_neg, mlet_e, grd, ite_true, ite_false, not_true_eq_false, not_false_eq_true, ite_self, tn_c, w32_i]
    · refine same_of (v := -3) (μ1 := fndM μ 1) (μ2 := fndM2 (fndM μ 1) 1) ?_ ?_ (Inv_find h (by omega))
      · unfold fX1_river
        simp (disch := omega) only [e_isText, fn1, bnd2_some, bd_some, b01_t, b01_f, if_pos, if_neg, mlet_e, grd, ite_true, ite_false, not_true_eq_false, not_false_eq_true, ite_self, tn_c, w32_i]
      · unfold fX2_river
        have hf := fuel_lt
        generalize fuel = N at hf ⊢
        simp (disch := omega) only [e_isText2, gn1, fndM_ne, bnd2_some, bd_some, b01_t, b01_f, if_pos, if_neg, mlet_e, grd, ite_true, ite_false, not_true_eq_false, not_false_eq_true, ite_self, tn_c, w32_i]
  · refine same_of (v := -1) (μ1 := μ) (μ2 := μ) ?_ ?_ h
    · unfold fX1_river
      simp (disch := omega) only [e_isText, bnd2_some, bd_some, b01_t, b01_f, if_pos, if_neg, mlet_e, grd, ite_true, ite_false, not_true_eq_false, not_false_eq_true, ite_self, tn_c, w32_i]
    · unfold fX2_river
      have hf := fuel_lt
      generalize fuel = N at hf ⊢
      simp (disch := omega) only [e_isText2, bnd2_some, bd_some, b01_t, b01_f, if_pos, if_neg, mlet_e, grd, ite_true, ite_false, not_true_eq_false, not_false_eq_true, ite_self, tn_c, w32_i]
