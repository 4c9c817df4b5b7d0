/-! QUESTIONS: cheap, sets, sure, duel, chances; lots; texts, rivers; the digest -/
abbrev tS' (s : Mem) (i : Nat) : Nat := (21 - s 3 i).toNat
theorem C_cheap {n i r : Nat} {s μ : Mem} (h : Nw n s μ) (hi : (i : Int) < s 0 0) (hr : r < 6) :
    ((chR s i (tS' s i)).1 = -9 → ∃ ν, fX1_cheap (i : Int) (r : Int) μ = some (-9, ν) ∧ Fq μ ν) ∧
    (¬ (chR s i (tS' s i)).1 = -9 → ∃ ν, fX1_cheap (i : Int) (r : Int) μ = some ((chR s i (tS' s i)).1, ν) ∧ ν 8 r = s 0 0 ∧ (∀ j : Nat, (j : Int) < s 0 0 → ν (2 + r) j = shr s i (chR s i (tS' s i)).2 j) ∧ ∀ c k, ¬ (c = 8 ∧ k = r) → ¬ c = 2 + r → ¬ (36 ≤ c ∧ c ≤ 59) → ν c k = μ c k) := by
  obtain ⟨h8, hC, hg⟩ := h
  have g0 := hg.1
  have g6 := hg.2.1
  have c4 := hC.1
  obtain ⟨-, -, g3⟩ := tol_rng hg hi
  unfold tS'
  obtain ⟨T, hT⟩ : ∃ T : Nat, (21 - s 3 i).toNat = T := ⟨_, rfl⟩
  rw [hT]
  have hT' : (T : Int) = 21 - s 3 i := by omega
  have hch := chR_ok (i := i) hg T (by omega)
  have hf := fuel_lt
  constructor
  · intro z
    obtain ⟨⟨v, ν⟩, e1, e2, e3⟩ : Ev (fX1_cheap (i : Int) (r : Int) μ) (fun q => q.1 = -9 ∧ ∀ c k, ¬ c = 37 → q.2 c k = μ c k) := by
      unfold fX1_cheap
      generalize fuel = N at hf ⊢
      simp (disch := omega) only [e_has, e_isRow, bd_some, b01_t, if_neg, if_pos, mlet_e]
      refine e_cheap_L hC hg hi hT' (fun ν r1 => ?_) T 0 N μ (by omega) (by omega) (fun _ _ _ => rfl)
      rw [if_neg (fun w => w z)]
      exact ev_some.mpr ⟨rfl, r1⟩
    dsimp only at e2 e3
    subst e2
    exact ⟨ν, e1, fun c k a b d => e3 c k (by omega)⟩
  · intro z
    rcases hch with hch | ⟨hc1, hc2, hc3, hc4⟩
    · exact absurd hch z
    obtain ⟨⟨v, ν⟩, e1, e2, e3, e4, e5⟩ : Ev (fX1_cheap (i : Int) (r : Int) μ) (fun q => q.1 = (chR s i T).1 ∧ q.2 8 r = s 0 0 ∧ (∀ j : Nat, (j : Int) < s 0 0 → q.2 (2 + r) j = shr s i (chR s i T).2 j) ∧ ∀ c k, ¬ (c = 8 ∧ k = r) → ¬ c = 2 + r → ¬ (36 ≤ c ∧ c ≤ 59) → q.2 c k = μ c k) := by
      unfold fX1_cheap
      generalize fuel = N at hf ⊢
      simp (disch := omega) only [e_has, e_isRow, bd_some, b01_t, if_neg, if_pos, mlet_e]
      refine e_cheap_L hC hg hi hT' (fun ν r1 => ?_) T 0 N μ (by omega) (by omega) (fun _ _ _ => rfl)
      generalize hL0 : (chR s i T).1 = least at *
      generalize hU : (chR s i T).2 = u at *
      obtain ⟨⟨v, μp⟩, p1, p2, p3, p4⟩ := e_price (s := s) (μ := ν) (i := i) (u := u) (CB_congr hC (fun c k hk => r1 _ _ (by omega))) hg hi (by omega)
      dsimp only at p2 p3 p4
      have p5 := p3 (by omega)
      have ep4 : μp 20 4 = s 0 0 := by rw [p4 _ _ (by omega), r1 _ _ (by omega), c4]
      have f1 : ∀ c k, ¬ c = 37 → μp c k = μ c k := fun c k hk => by rw [p4 _ _ hk, r1 _ _ hk]
      rw [if_pos z, p1, bnd2_some, C_layAnew hr, ep4]
      have e20' : filM (wr μp 8 r (s 0 0)) (2 + r) 40 0 20 4 = s 0 0 := by rw [filM_ne (by omega), wr_ne (by omega), ep4]
      simp (disch := omega) only [grd, if_pos, tn_c, mlet_e, bd_some, e20', tn_i0]
      refine ev_some.mpr ⟨rfl, ?_, fun j hj => ?_, fun c k a1 a2 a3 => ?_⟩
      · dsimp only
        rw [cpy_ne (by omega), filM_ne (by omega), wr_at (by omega)]
      · dsimp only
        rw [cpy_at (by omega), show 0 + (j - 0) = j by omega, filM_ne (by omega), wr_ne (by omega), p5 j hj]
      · dsimp only
        rw [cpy_ne (by omega), filM_ne (by omega), wr_ne a1, f1 _ _ (by omega)]
    dsimp only at e2 e3 e4 e5
    subst e2
    exact ⟨ν, e1, e3, e4, e5⟩
abbrev nS (s : Mem) : Nat := (s 0 0).toNat
theorem C_sets {n : Nat} {v : Int} {s μ : Mem} (h : Nw n s μ) (hv : 0 ≤ v ∧ v ≤ 120) (h0 : 1 ≤ s 0 0) : ∃ ν, fX1_sets v μ = some (1, ν) ∧ ν 0 12 = ((cN (tS s v) (2 ^ nS s) : Nat) : Int) ∧ ν 0 11 = lst (tS s v) (2 ^ nS s) ∧ Fq μ ν := by
  obtain ⟨h8, hC, hg⟩ := h
  have c4 := hC.1
  have g6 := hg.2.1
  have hp := pow_64 (n := (s 0 0).toNat) (by omega)
  unfold nS
  generalize hT : 2 ^ (s 0 0).toNat = T at hp
  have hle := cN_le (tS s v) T
  have eU : rU (cN (tS s v) T) 1 = ((cN (tS s v) T : Nat) : Int) := by
    unfold rU
    rw [Nat.gcd_one_right, show ((1 : Nat) : Int) = 1 from rfl, Int.tdiv_one, w64_i (by omega)]
  refine ⟨wr (wr (wr μ 0 12 (rU (cN (tS s v) T) 1)) 0 13 (rL' (cN (tS s v) T) 1)) 0 11 (lst (tS s v) T), ?_, ?_, wr_at (by omega), fun c k a b d => ?_⟩
  · unfold fX1_sets
    have hf := fuel_lt
    generalize fuel = N at hf ⊢
    simp (disch := omega) only [e_within, bnd2_some, bd_some, b01_t, b01_f, if_pos, if_neg, mlet_e, grd, ite_true, ite_false, not_true_eq_false, not_false_eq_true, ite_self, tn_c, w32_i]
    have e9 := e_sets_L (v := v) (K := fun x2 x3 => (fX1_tellRatio x2 1 μ).bind fun μ5 => bnd2 (fX1_tell x3 μ5) fun x6 μ7 => some (x6, μ7)) hC hg (2 ^ (s 0 0).toNat) 0 N (by omega) (by omega)
    refine Eq.trans e9 ?_
    rw [hT, show (1 : Int) = ((1 : Nat) : Int) from rfl, e_ratio (b := 1) (by omega) (by omega) (by omega), bd_some, e_tell, bnd2_some]
    rfl
  · rw [wr_ne (by omega), wr_ne (by omega), wr_at (by omega), eU]
  · rw [wr_ne (by omega), wr_ne (by omega), wr_ne (by omega)]
abbrev xS (s : Mem) : Int := ((2 ^ nS s : Nat) : Int) - 1
theorem C_sure {n : Nat} {v : Int} {s μ : Mem} (h : Nw n s μ) (hv : 0 ≤ v ∧ v ≤ 120) (h0 : 1 ≤ s 0 0) : fX1_sure v μ = (if (suR (tS s v) (xS s) (2 ^ nS s)).2.2 = true then some ((suR (tS s v) (xS s) (2 ^ nS s)).1, wr μ 0 11 (band (xS s) (bxor (suR (tS s v) (xS s) (2 ^ nS s)).2.1 (-1)))) else some (-3, fndM μ 4)) := by
  obtain ⟨h8, hC, hg⟩ := h
  have c4 := hC.1
  have g6 := hg.2.1
  have hp := pow_64 (n := (s 0 0).toNat) (by omega)
  unfold xS nS
  generalize hT : 2 ^ (s 0 0).toNat = T at hp
  have hx : w32 (bshl 1 (s 0 0) - 1) = (T : Int) - 1 := by
    rw [bshl_p (by omega), hT, w32_i (by omega)]
  generalize hX : (T : Int) - 1 = x at hx
  have E1 : fX1_sure v μ = (if (if (suR (tS s v) x T).2.2 then (0 : Int) else 1) = 0 then some ((suR (tS s v) x T).1, wr μ 0 11 (band x (bxor (suR (tS s v) x T).2.1 (-1)))) else some (-3, fndM μ 4)) := by
    unfold fX1_sure
    have hf := fuel_lt
    generalize fuel = N at hf ⊢
    simp (disch := omega) only [e_within, bd_some, b01_t, if_neg, if_pos, mlet_e, c4, hx]
    refine (e_sure_L (s := s) (v := v) (x := x) hC hg hp.2 hX.symm T 0 N (by omega) (by omega)).trans ?_
    rw [e_tell, bnd2_some, fn4, bnd2_some]
  rw [E1]
  by_cases z : (suR (tS s v) x T).2.2 = true
  · rw [if_pos z, if_pos z, if_pos rfl]
  · rw [if_neg z, if_neg z, if_neg (by omega)]
theorem C_duel {n i j m : Nat} {s μ : Mem} (h : Nw n s μ) (hi : (i : Int) < s 0 0) (hj : (j : Int) < s 0 0) (hij : ¬ i = j) (hm : m ≤ 3) : ∃ ν, fX1_duel (i : Int) (j : Int) (m : Int) μ = some (1, ν) ∧ ν 0 11 = vS i j (2 * m) s ∧ Fq μ ν := by
  obtain ⟨h8, hC, hg⟩ := h
  have c4 := hC.1
  have g6 := hg.2.1
  obtain ⟨μa, a1, a2, a3⟩ := e_become (b := 25) (b' := 20) (by omega) hC hg
  have e2n : w32 (2 * (m : Int)) = ((2 * m : Nat) : Int) := by
    rw [w32_i (by omega)]
    omega
  have eo := e_outcome (b := 25) (i := i) (j := j) (2 * m) 8 μa s (by omega) (by omega) a2 hg hi hj
  refine ⟨wr μa 0 11 (vS i j (2 * m) s), ?_, wr_at (by omega), fun c k a b d => by rw [wr_ne (by omega), a3 _ _ (by omega)]⟩
  unfold fX1_duel fX1_outcome
  simp (disch := omega) only [e_has, e_within, bd_some, b01_t, if_neg, if_pos, a1, e2n, eo, bnd2_some, e_tell]
/-- all chances' parts -/
abbrev bS (s : Mem) : Nat := 12 ^ nS s
theorem C_odds {n i : Nat} {p : Int} {s μ : Mem} (h : Nw n s μ) (hi : (i : Int) < s 0 0) (hp : 0 ≤ p ∧ p ≤ 12) : ∃ ν A, fX1_odds (i : Int) p μ = some (1, ν) ∧ WS s p i (2 ^ nS s) = ((A : Nat) : Int) ∧ ν 0 12 = rU A (bS s) ∧ ν 0 13 = rL' A (bS s) ∧ Fq μ ν := by
  obtain ⟨h8, hC, hg⟩ := h
  have g0 := hg.1
  have g6 := hg.2.1
  have c4 := hC.1
  have hpw := pow_64 (n := (s 0 0).toNat) (by omega)
  have h12 := pow12 (s 0 0).toNat (by omega)
  unfold bS nS
  generalize hT : 2 ^ (s 0 0).toNat = T at hpw
  obtain ⟨μa, a1, a2, a3⟩ := e_weigh (p := p) hC hg hp hT
  have hw := WS_rng hg hp i T
  obtain ⟨A, hA⟩ : ∃ A : Nat, WS s p i T = (A : Int) := ⟨(WS s p i T).toNat, by omega⟩
  generalize hB : 12 ^ (s 0 0).toNat = B at h12
  have eA : μa 38 i = (A : Int) := by rw [a2 i (by omega), hA]
  have eall := e_allW (s := s) (μ := μa) (by rw [a3 _ _ (by omega)]; exact c4) hg
  rw [hB] at eall
  refine ⟨wr (wr μa 0 12 (rU A B)) 0 13 (rL' A B), A, ?_, hA, by rw [wr_ne (by omega), wr_at (by omega)], wr_at (by omega), fun c k a b d => by rw [wr_ne (by omega), wr_ne (by omega), a3 _ _ (by omega)]⟩
  unfold fX1_odds
  simp (disch := omega) only [e_has, e_within, a1, eA, eall, bnd2_some, bd_some, b01_t, b01_f, if_pos, if_neg, mlet_e, grd, ite_true, ite_false, not_true_eq_false, not_false_eq_true, ite_self, tn_c, w32_i]
  rw [e_ratio (by omega) (by omega) (by omega), bd_some]
theorem C_mid {n : Nat} {x p : Int} {s μ : Mem} (h : Nw n s μ) (h0 : 1 ≤ s 0 0) (hx : 0 ≤ x ∧ x ≤ 9) (hp : 0 ≤ p ∧ p ≤ 12) : ∃ ν A, fX1_mid x p μ = some (1, ν) ∧ FA s p x (2 ^ nS s) = ((A : Nat) : Int) ∧ ν 0 12 = rU A (bS s) ∧ ν 0 13 = rL' A (bS s) ∧ Fq μ ν := by
  obtain ⟨h8, hC, hg⟩ := h
  have g0 := hg.1
  have g6 := hg.2.1
  have c4 := hC.1
  have hpw := pow_64 (n := (s 0 0).toNat) (by omega)
  have h12 := pow12 (s 0 0).toNat (by omega)
  unfold bS nS
  generalize hT : 2 ^ (s 0 0).toNat = T at hpw
  obtain ⟨μa, a1, a2, a3⟩ := e_weigh (p := p) hC hg hp hT
  have hFA := FA_rng hg hp hx T
  obtain ⟨A, hA⟩ : ∃ A : Nat, FA s p x T = (A : Int) := ⟨(FA s p x T).toNat, by omega⟩
  generalize hB : 12 ^ (s 0 0).toNat = B at h12
  have hCa : CB 20 μa s := CB_congr hC (fun c k hk => a3 _ _ (by omega))
  have ew := e_wFar hCa hg hp hx hpw.2 a2
  have eall := e_allW (s := s) (μ := μa) hCa.1 hg
  rw [hB] at eall
  rw [hA] at ew
  refine ⟨wr (wr μa 0 12 (rU A B)) 0 13 (rL' A B), A, ?_, hA, by rw [wr_ne (by omega), wr_at (by omega)], wr_at (by omega), fun c k a b d => by rw [wr_ne (by omega), wr_ne (by omega), a3 _ _ (by omega)]⟩
  unfold fX1_mid
  simp (disch := omega) only [e_isPlace, e_within, a1, ew, eall, bnd2_some, bd_some, b01_t, b01_f, if_pos, if_neg, mlet_e, grd, ite_true, ite_false, not_true_eq_false, not_false_eq_true, ite_self, tn_c, w32_i]
  rw [e_ratio (by omega) (by omega) (by omega), bd_some]
theorem C_fair {n : Nat} {p : Int} {s μ : Mem} (h : Nw n s μ) (h0 : 1 ≤ s 0 0) (hp : 0 ≤ p ∧ p ≤ 12) : ∃ ν x A, fX1_fair p μ = some (((x : Nat) : Int), ν) ∧ bst (fun x => FA s p (x : Int) (2 ^ nS s)) 9 = x ∧ FA s p (x : Int) (2 ^ nS s) = ((A : Nat) : Int) ∧ ν 0 12 = rU A (bS s) ∧ ν 0 13 = rL' A (bS s) ∧ Fq μ ν := by
  obtain ⟨h8, hC, hg⟩ := h
  have g0 := hg.1
  have g6 := hg.2.1
  have c4 := hC.1
  have hpw := pow_64 (n := (s 0 0).toNat) (by omega)
  have h12 := pow12 (s 0 0).toNat (by omega)
  unfold bS nS
  generalize hT : 2 ^ (s 0 0).toNat = T at hpw
  obtain ⟨μa, a1, a2, a3⟩ := e_weigh (p := p) hC hg hp hT
  have hb := bst_le (fun x => FA s p (x : Int) T) 9
  generalize hX : bst (fun x => FA s p (x : Int) T) 9 = x at hb
  have hFA := FA_rng (x := (x : Int)) hg hp (by omega) T
  obtain ⟨A, hA⟩ : ∃ A : Nat, FA s p (x : Int) T = (A : Int) := ⟨(FA s p (x : Int) T).toNat, by omega⟩
  generalize hB : 12 ^ (s 0 0).toNat = B at h12
  have hCa : CB 20 μa s := CB_congr hC (fun c k hk => a3 _ _ (by omega))
  have ew := e_wFar (x := (x : Int)) hCa hg hp (by omega) hpw.2 a2
  have eall := e_allW (s := s) (μ := μa) hCa.1 hg
  rw [hB] at eall
  rw [hA] at ew
  refine ⟨wr (wr μa 0 12 (rU A B)) 0 13 (rL' A B), x, A, ?_, rfl, hA, by rw [wr_ne (by omega), wr_at (by omega)], wr_at (by omega), fun c k a b d => by rw [wr_ne (by omega), wr_ne (by omega), a3 _ _ (by omega)]⟩
  unfold fX1_fair
  have hf := fuel_lt
  generalize fuel = N at hf ⊢
  simp (disch := omega) only [e_within, bd_some, b01_t, if_neg, if_pos, a1, mlet_e]
  refine (e_fair_L hCa hg hp hpw.2 a2 9 0 N (by omega) (by omega)).trans ?_
  rw [hX, ew, bd_some, eall, bd_some, e_ratio (by omega) (by omega) (by omega), bd_some]
theorem C_lots {n m seed : Nat} {s μ : Mem} (h : Nw n s μ) (h0 : 1 ≤ s 0 0) (hm : 1 ≤ m ∧ m ≤ 20) (hs : 1 ≤ seed ∧ seed ≤ 2147483646) (hn : n + m ≤ 40) : ∃ ν, fX1_lots (m : Int) (seed : Int) μ = some (lotSt s seed m 0 1, ν) ∧ Nw (n + m) (lotSt s seed m) ν ∧ Fdd n μ ν := by
  obtain ⟨h8, hC, hg⟩ := h
  have c4 := hC.1
  have hf := fuel_lt
  obtain ⟨⟨v, ν⟩, b1, b2, b3, b4, b5, b6⟩ := e_lots_L (s := s) (seed := seed) (c := n) (n := m) hg h0 (by omega) hn m 0 fuel μ (by omega) (by omega) hC (by rw [h8]; rfl)
  dsimp only at b2 b3 b4 b5 b6
  subst b2
  refine ⟨ν, ?_, ⟨b4, b3, GB_lot hg h0 m⟩, fun c k q1 q2 q3 q4 => b6 _ _ (by omega) (by omega) (by omega)⟩
  unfold fX1_lots
  simp (disch := omega) only [e_within, bnd2_some, bd_some, b01_t, b01_f, if_pos, if_neg, mlet_e, grd, ite_true, ite_false, not_true_eq_false, not_false_eq_true, ite_self, tn_c, w32_i]
  exact b1
theorem C_text {n : Nat} {μ : Mem} (hn : n ≤ 60) : fX1_text 0 (n : Int) μ = some ((n : Int), filM (wr μ 14 0 (n : Int)) 10 60 32) := by
  unfold fX1_text
  simp (disch := omega) only [e_isText, w8_32, bnd2_some, bd_some, b01_t, b01_f, if_pos, if_neg, mlet_e, grd, ite_true, ite_false, not_true_eq_false, not_false_eq_true, ite_self, tn_c, w32_i]
  rfl
theorem C_put {n i : Nat} {v : Int} {μ : Mem} (h : μ 14 0 = (n : Int)) (hn : n ≤ 60) (hi : i < n) (hv : 0 ≤ v ∧ v ≤ 127) (ho : -128 ≤ μ 10 i ∧ μ 10 i ≤ 127) : fX1_put 0 (i : Int) v μ = some (μ 10 i + 1000, wr μ 10 i v) := by
  have e : w8 v = v := w8_id (by unfold okB; omega)
  have t0 : ((0 : Int)).toNat = 0 := rfl
  unfold fX1_put
  simp (disch := omega) only [e_isText, t0, h, e, Nat.add_zero, bd_some, b01_t, if_neg, if_pos, grd, mlet_e, tn_c, w32_i]
theorem C_fault {n : Nat} {μ : Mem} (h : μ 14 0 = (n : Int)) (hn : n ≤ 60) : ∃ ν, fX1_fault 0 μ = some ((rdS (fun j => μ 10 j) n).1, ν) ∧ Fq μ ν := by
  obtain ⟨⟨v, μ1⟩, a1, a2, a3, a4⟩ := e_read (c := 10) (n := n) (μ := μ) hn (by omega)
  dsimp only at a2 a3 a4
  subst a2
  have t0 : ((0 : Int)).toNat = 0 := rfl
  refine ⟨μ1, ?_, fun c k a b d => a4 _ _ (by omega)⟩
  unfold fX1_fault
  simp (disch := omega) only [e_isText, t0, h, Nat.add_zero, a1, bnd2_some, bd_some, b01_t, if_neg, if_pos, grd, mlet_e]
theorem C_river {n : Nat} {μ : Mem} (h : μ 14 0 = (n : Int)) (hn : n ≤ 60) (h9 : (rdS (fun j => μ 10 j) n).1 = -9) : ∃ ν, fX1_river 0 μ = some ((rdS (fun j => μ 10 j) n).2 0 0, ν) ∧ CB 15 ν (rdS (fun j => μ 10 j) n).2 ∧ Nw 0 (rdS (fun j => μ 10 j) n).2 ν ∧ (∀ k, k < 3 → ν 35 k = -1) ∧ ∀ c k, ¬ c = 0 → ¬ (15 ≤ c ∧ c ≤ 29) → ¬ c = 35 → ν c k = μ c k := by
  obtain ⟨⟨v, μ1⟩, a1, a2, a3, a4⟩ := e_read (c := 10) (n := n) (μ := μ) hn (by omega)
  dsimp only at a2 a3 a4
  rw [h9] at a2
  subst a2
  obtain ⟨hC, hg⟩ := a3 rfl
  generalize hs : (rdS (fun j => μ 10 j) n).2 = s at hC hg
  obtain ⟨μa, d1, d2, d3⟩ := e_become (b := 15) (b' := 25) (by omega) hC hg
  obtain ⟨μb, d4, d5, d6⟩ := e_become (b := 20) (b' := 25) (μ := μa) (by omega) (CB_congr hC (fun c k hk => d3 _ _ (by omega))) hg
  have t0 : ((0 : Int)).toNat = 0 := rfl
  have e20 : filM (wr μb 0 8 0) 35 3 (-1) 20 4 = s 0 0 := by rw [filM_ne (by omega), wr_ne (by omega), d5.1]
  refine ⟨filM (wr μb 0 8 0) 35 3 (-1), ?_, CB_congr d2 (fun c k hk => by rw [filM_ne (by omega), wr_ne (by omega), d6 _ _ (by omega)]), ⟨by rw [filM_ne (by omega), wr_at (by omega)]; rfl, CB_congr d5 (fun c k hk => by rw [filM_ne (by omega), wr_ne (by omega)]), hg⟩, fun k hk => filM_at (by omega), fun c k c1 c2 c3 => by rw [filM_ne (by omega), wr_ne (by omega), d6 _ _ (by omega), d3 _ _ (by omega), a4 _ _ (by omega)]⟩
  unfold fX1_river
  simp (disch := omega) only [e_isText, t0, h, Nat.add_zero, a1, d1, d4, bnd2_some, bd_some, b01_t, if_neg, if_pos, ite_true, grd, mlet_e]
  rw [e20]
theorem e_dg113 {μ : Mem} {h : Int} {K : Int → Option Int} (hI : ∀ r : Nat, r < 6 → μ 8 r ≤ 40) : ∀ (m r N : Nat), r + m = 6 → m < N → fX1_digest_L113 K μ N (rwR μ 8 2 h r) (r : Int) = K (rwR μ 8 2 h 6) := by
  intro m
  induction m with
  | zero =>
    intro r N h1 h2
    obtain ⟨N, rfl⟩ : ∃ j, N = j + 1 := ⟨N - 1, by omega⟩
    obtain rfl : r = 6 := by omega
    rw [fX1_digest_L113, if_pos (by omega)]
  | succ m ih =>
    intro r N h1 h2
    obtain ⟨N, rfl⟩ : ∃ j, N = j + 1 := ⟨N - 1, by omega⟩
    have k3 := hI r (by omega)
    rw [fX1_digest_L113, if_neg (by omega)]
    have hf := fuel_lt
    generalize fuel = F at hf ⊢
    simp (disch := omega) only [grd, if_pos, tn_c, mlet_e]
    refine (e_dg136 (r := r) (n := (μ 8 r).toNat) (by omega) (by omega) le_tn (μ 8 r).toNat 0 F (by omega) (by omega)).trans ?_
    rw [w32_s (by omega)]
    exact ih (r + 1) N (by omega) (by omega)
theorem e_dg178 {μ : Mem} {h : Int} (hI : ∀ r : Nat, r < 4 → μ 14 r ≤ 60) : ∀ (m r N : Nat), r + m = 4 → m < N → fX1_digest_L178 μ N (rwR μ 14 10 h r) (r : Int) = some (rwR μ 14 10 h 4) := by
  intro m
  induction m with
  | zero =>
    intro r N h1 h2
    obtain ⟨N, rfl⟩ : ∃ j, N = j + 1 := ⟨N - 1, by omega⟩
    obtain rfl : r = 4 := by omega
    rw [fX1_digest_L178, if_pos (by omega)]
  | succ m ih =>
    intro r N h1 h2
    obtain ⟨N, rfl⟩ : ∃ j, N = j + 1 := ⟨N - 1, by omega⟩
    have k3 := hI r (by omega)
    rw [fX1_digest_L178, if_neg (by omega)]
    have hf := fuel_lt
    generalize fuel = F at hf ⊢
    simp (disch := omega) only [grd, if_pos, tn_c, mlet_e]
    refine (e_dg200 (r := r) (n := (μ 14 r).toNat) (by omega) (by omega) le_tn (μ 14 r).toNat 0 F (by omega) (by omega)).trans ?_
    rw [w32_s (by omega)]
    exact ih (r + 1) N (by omega) (by omega)
def cvS (s μ : Mem) (k : Nat) : Int :=
  if k = 0 then s 0 0 else if k = 1 then s 0 2 else if k = 2 then μ 0 8 else if k = 3 then s 0 1 else if k = 4 then bitS (hold s 0) else if k = 5 then alS s else if k = 6 then acR s (s 0 0).toNat
  else if k = 7 then hmR s 2 (s 0 0).toNat else if k = 8 then hmR s 3 (s 0 0).toNat else if k = 9 then trS (fun k => μ 8 k) 6 else if k = 10 then trS (fun k => μ 14 k) 4 else trS (fun k => μ 35 k) 3
theorem C_cnt {n : Nat} {s μ : Mem} (h : Nw n s μ) : ∀ k : Nat, k < 12 → fX1_count (k : Int) μ = some (cvS s μ k) := by
  intro k hk
  have hC := h.2.1
  have hg := h.2.2
  have hh : k = 0 ∨ k = 1 ∨ k = 2 ∨ k = 3 ∨ k = 4 ∨ k = 5 ∨ k = 6 ∨ k = 7 ∨ k = 8 ∨ k = 9 ∨ k = 10 ∨ k = 11 := by omega
  unfold cvS
  rcases hh with rfl | rfl | rfl | rfl | rfl | rfl | rfl | rfl | rfl | rfl | rfl | rfl
  · unfold fX1_count
    simp (disch := omega) only [hC.1, bnd2_some, bd_some, b01_t, b01_f, if_pos, if_neg, mlet_e, grd, ite_true, ite_false, not_true_eq_false, not_false_eq_true, ite_self, tn_c, w32_i]
  · simp (disch := omega) only [if_neg, if_pos, ite_true]
    exact C_cnt1 h
  · simp (disch := omega) only [if_neg, if_pos, ite_true]
    unfold fX1_count
    simp (disch := omega) only [bnd2_some, bd_some, b01_t, b01_f, if_pos, if_neg, mlet_e, grd, ite_true, ite_false, not_true_eq_false, not_false_eq_true, ite_self, tn_c, w32_i]
  · simp (disch := omega) only [if_neg, if_pos, ite_true]
    exact C_cnt3 h
  · simp (disch := omega) only [if_neg, if_pos, ite_true]
    exact C_cnt4 h
  · simp (disch := omega) only [if_neg, if_pos, ite_true]
    exact C_cnt5 h
  · simp (disch := omega) only [if_neg, if_pos, ite_true]
    exact C_cnt6 h
  · simp (disch := omega) only [if_neg, if_pos, ite_true]
    unfold fX1_count
    simp (disch := omega) only [if_neg, if_pos, ite_true, e_hmOf (o := 2) (by decide) hC hg, e_hmOf (o := 3) (by decide) hC hg, bd_some]
  · simp (disch := omega) only [if_neg, if_pos, ite_true]
    unfold fX1_count
    simp (disch := omega) only [if_neg, if_pos, ite_true, e_hmOf (o := 2) (by decide) hC hg, e_hmOf (o := 3) (by decide) hC hg, bd_some]
  · simp (disch := omega) only [if_neg, if_pos, ite_true]
    unfold fX1_count
    simp (disch := omega) only [if_neg, if_pos, ite_true, e_there, bd_some]
  · simp (disch := omega) only [if_neg, if_pos, ite_true]
    unfold fX1_count
    simp (disch := omega) only [if_neg, if_pos, ite_true, e_there, bd_some]
  · simp (disch := omega) only [if_neg, if_pos, ite_true]
    unfold fX1_count
    simp (disch := omega) only [if_neg, if_pos, ite_true, e_there, bd_some]
def dgS (s μ : Mem) : Int := rwR μ 14 10 (rwR μ 8 2 (hR (fun k => μ 35 k) (hR (tvS s) (hR (cvS s μ) 17 12) (6 * (s 0 0).toNat)) 3) 6) 4
theorem C_digest {n : Nat} {s μ : Mem} (h : Nw n s μ) (h8 : ∀ r : Nat, r < 6 → μ 8 r ≤ 40) (h14 : ∀ r : Nat, r < 4 → μ 14 r ≤ 60) : fX1_digest μ = some (dgS s μ) := by
  have g0 := h.2.2.1
  have g6 := h.2.2.2.1
  unfold fX1_digest dgS
  have hf := fuel_lt
  generalize fuel = N at hf ⊢
  simp only [mlet_e]
  refine (e_dg6 (h := 17) (C_cnt h) 12 0 N (by omega) (by omega)).trans ?_
  refine (e_dg33 h.2.1 h.2.2 (s 0 0).toNat 0 N (by omega) (by omega)).trans ?_
  refine (e_dg86 3 0 N (by omega) (by omega)).trans ?_
  refine (e_dg113 h8 6 0 N (by omega) (by omega)).trans ?_
  exact e_dg178 h14 4 0 N (by omega) (by omega)
theorem rwR_congr {μ ν : Mem} {a b : Nat} {h : Int} : ∀ n : Nat, (∀ r, r < n → ν a r = μ a r) → (∀ r, r < n → ∀ i, i < (μ a r).toNat → ν (b + r) i = μ (b + r) i) → rwR ν a b h n = rwR μ a b h n
  | 0, _, _ => rfl
  | n + 1, h1, h2 => by
    rw [rwR, rwR, rwR_congr n (fun r hr => h1 r (by omega)) (fun r hr => h2 r (by omega)), h1 n (by omega)]
    exact hR_eq (fun k hk => h2 n (by omega) k hk)
theorem dgS_congr {s μ ν : Mem} (e0 : ν 0 8 = μ 0 8) (e8 : ∀ r, r < 6 → ν 8 r = μ 8 r) (e8' : ∀ r, r < 6 → ∀ i, i < (μ 8 r).toNat → ν (2 + r) i = μ (2 + r) i) (e14 : ∀ r, r < 4 → ν 14 r = μ 14 r) (e14' : ∀ r, r < 4 → ∀ i, i < (μ 14 r).toNat → ν (10 + r) i = μ (10 + r) i) (e35 : ∀ r, r < 3 → ν 35 r = μ 35 r) : dgS s ν = dgS s μ := by
  unfold dgS
  have ec : ∀ k, k < 12 → cvS s ν k = cvS s μ k := fun k _ => by
    unfold cvS
    rw [e0, trS_eq (f := fun k => ν 8 k) (g := fun k => μ 8 k) e8, trS_eq (f := fun k => ν 14 k) (g := fun k => μ 14 k) e14, trS_eq (f := fun k => ν 35 k) (g := fun k => μ 35 k) e35]
  rw [hR_eq (v := cvS s ν) (u := cvS s μ) ec, hR_eq (v := fun k => ν 35 k) (u := fun k => μ 35 k) e35, rwR_congr (μ := μ) (ν := ν) 6 e8 e8', rwR_congr (μ := μ) (ν := ν) 4 e14 e14']
