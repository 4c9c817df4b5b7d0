/-! A TURN: who has it next, by what people tell -/
theorem mx_sp (f : Nat → Int) : ∀ k, 0 ≤ mxR f k ∧ (∀ j, j < k → f j ≤ mxR f k) ∧ (mxR f k = 0 ∨ ∃ j, j < k ∧ mxR f k = f j)
  | 0 => ⟨Int.le_refl _, fun j hj => absurd hj (by omega), Or.inl rfl⟩
  | k + 1 => by
    obtain ⟨h1, h2, h3⟩ := mx_sp f k
    have e : mxR f (k + 1) = mmax (mxR f k) (f k) := rfl
    unfold mmax at e
    by_cases q : f k ≤ mxR f k
    · have e2 : mxR f (k + 1) = mxR f k := by
        rw [e]
        split <;> omega
      rw [e2]
      refine ⟨h1, fun j hj => ?_, ?_⟩
      · by_cases z : j = k
        · rw [z]; exact q
        · exact h2 j (by omega)
      · rcases h3 with h3 | ⟨j, a, b⟩
        · exact Or.inl h3
        · exact Or.inr ⟨j, by omega, b⟩
    · have e2 : mxR f (k + 1) = f k := by
        rw [e]
        split <;> omega
      rw [e2]
      refine ⟨by omega, fun j hj => ?_, Or.inr ⟨k, by omega, rfl⟩⟩
      by_cases z : j = k
      · rw [z]; exact Int.le_refl _
      · have := h2 j (by omega)
        omega
theorem mx_s (f : Nat → Int) (k : Nat) : mxR f (k + 1) = if f k ≤ mxR f k then mxR f k else f k := by
  have e : mxR f (k + 1) = mmax (mxR f k) (f k) := rfl
  rw [e]
  unfold mmax
  split <;> split <;> omega
theorem mx_hold {s : Mem} (hg : GB s) : (hold s 0 = -9 → mxR (byS s) (nS s) = 0) ∧ ∀ w : Nat, (w : Int) < s 0 0 → hold s 0 = (w : Int) → mxR (byS s) (nS s) = byS s w ∧ 0 < byS s w := by
  have g0 := hg.1
  have hn : (nS s : Int) = s 0 0 := by unfold nS; omega
  obtain ⟨h1, h2, h3⟩ := mx_sp (byS s) (nS s)
  refine ⟨fun h => ?_, fun w hw h => ?_⟩
  · rcases h3 with h3 | ⟨j, a, b⟩
    · exact h3
    · rw [b]
      exact (hold0_none hg).mp h j (by omega)
  · obtain ⟨a1, a2⟩ := (hold0_iff hg hw).mp h
    have a3 := h2 w (by omega)
    refine ⟨?_, a1⟩
    rcases h3 with h3 | ⟨j, a, b⟩
    · omega
    · by_cases e : j = w
      · rw [b, e]
      · have := a2 j (by omega) e
        unfold BtS at this
        omega
/-- all daring of the first k -/
def smD (s : Mem) : Nat → Int
  | 0 => 0
  | k + 1 => smD s k + s 3 k
theorem smD_al {s : Mem} (hg : GB s) : smD s (nS s) = alS s := by
  have g0 := hg.1
  have g6 := hg.2.1
  have h : ∀ k, k ≤ nS s → dsR s ((2 ^ nS s - 1 : Nat) : Int) k = smD s k := by
    intro k
    induction k with
    | zero => intro _; rfl
    | succ k ih =>
      intro hk
      have h1 := allf_dec ⟨nS s, by unfold nS; omega⟩ ⟨k, by unfold nS at hk; omega⟩ (by dsimp only; omega)
      dsimp only at h1
      rw [dsR, smD, ih (by omega), h1, if_neg (by omega)]
  rw [alS_T hg]
  exact (h (nS s) (Nat.le_refl _)).symm
theorem smD_rng {s : Mem} (hg : GB s) : ∀ k : Nat, (k : Int) ≤ s 0 0 → 0 ≤ smD s k ∧ smD s k ≤ 20 * k
  | 0, _ => by
    unfold smD
    omega
  | k + 1, hk => by
    have h1 := smD_rng hg k (by omega)
    have h2 := (tol_rng hg (i := k) (by omega)).2.2
    rw [smD]
    omega
section TURN
variable {σ : Scr} {self66 : Int → Mem → Option (Int × Mem)} {s0 s β μ : Mem} {m : Nat} {x61 x62 x63 : Int}
theorem q_L424 (hB : BF s0 m s β) (hS : Nx self66 x62 m s β) {w : Nat} (hw : (w : Int) < s 0 0) (h : hold s 0 = (w : Int)) : ∀ (j k N : Nat) (μ : Mem), k + j = nS s → j < N → Nw m s μ → St m β μ → LD s μ →
    Ok (fL_law_L424 (s 0 0) σ self66 x61 x62 x63 (m : Int) (s 0 2) (s 0 1) (alS s) (cr s) (hold s 0) (byS s w) N (k : Int) μ) := by
  obtain ⟨hg, g1, g6⟩ := BF_g hB
  have hn : (nS s : Int) = s 0 0 := by unfold nS; omega
  obtain ⟨w1, w2⟩ := (hold0_iff hg hw).mp h
  intro j
  induction j with
  | zero =>
    intro k N μ e1 e2 hN hT hD
    obtain ⟨N, rfl⟩ : ∃ j, N = j + 1 := ⟨N - 1, by omega⟩
    rw [fL_law_L424, if_pos (by omega)]
    exact q_c497 hB hS hN hT hD
  | succ j ih =>
    intro k N μ e1 e2 hN hT hD
    obtain ⟨N, rfl⟩ : ∃ j, N = j + 1 := ⟨N - 1, by omega⟩
    have hk : (k : Int) < s 0 0 := by omega
    have next : ∀ ν, Fq μ ν → Ok (fL_law_L424 (s 0 0) σ self66 x61 x62 x63 (m : Int) (s 0 2) (s 0 1) (alS s) (cr s) (hold s 0) (byS s w) N (w32 ((k : Int) + 1)) ν) := fun ν hq => by
      rw [w32_s (by omega)]
      exact ih (k + 1) N ν (by omega) (by omega) (Nw_q hN hq) (St_q hT hq) (LD_q hD hq)
    clear ih
    have hwk : ¬ k = w → BtS s w k := fun e => w2 k hk e
    obtain ⟨ν1, a1, a2⟩ := T_told (w := 3) hN hk (by omega)
    obtain ⟨ν2, b1, b2⟩ := T_told (w := 5) (Nw_q hN a2) hk (by omega)
    have q2 := Fq_t a2 b2
    obtain ⟨ν3, c1, c2⟩ := T_told (w := 5) (Nw_q hN q2) hw (by omega)
    have q3 := Fq_t q2 c2
    obtain ⟨ν4, d1, d2⟩ := T_told (w := 5) (Nw_q hN q3) hk (by omega)
    have q4 := Fq_t q3 d2
    obtain ⟨ν5, f1, f2⟩ := T_told (w := 5) (Nw_q hN q4) hw (by omega)
    have q5 := Fq_t q4 f2
    have t3 : tolS s k 3 = byS s k := rfl
    have t5 : tolS s k 5 = far s k := rfl
    have t5w : tolS s w 5 = far s w := rfl
    rw [t3] at a1
    rw [t5] at b1 d1
    rw [t5w, ← h] at c1 f1
    rw [fL_law_L424, if_neg (by omega), if_neg (by omega), a1, bnd2_some]
    simp only [mlet_e]
    by_cases q : byS s k = byS s w
    · have hwk' : ¬ k = w → far s w < far s k ∨ (far s w = far s k ∧ w < k) := fun e => by
        have := hwk e
        unfold BtS at this
        omega
      have hwe : k = w → far s k = far s w := fun e => by rw [e]
      rw [if_neg (fun w => w q), b1, bnd2_some, c1, bnd2_some, if_neg (by by_cases e : k = w; · have := hwe e; omega
                                                                          · have := hwk' e; omega), d1, bnd2_some, f1, bnd2_some]
      by_cases z : far s k = far s w
      · rw [if_neg (fun w => w z), if_pos (by by_cases e : k = w; · omega
                                              · have := hwk' e; omega)]
        exact next ν5 q5
      · rw [if_pos z]
        exact next ν5 q5
    · rw [if_pos q]
      exact next ν1 a2
theorem q_c421 (hB : BF s0 m s β) (hS : Nx self66 x62 m s β) (hN : Nw m s μ) (hT : St m β μ) (hD : LD s μ) :
    Ok (fL_law_c421 σ self66 (s 0 0) x61 x62 x63 (m : Int) (s 0 2) (s 0 1) (alS s) (cr s) (hold s 0) (mxR (byS s) (nS s)) μ) := by
  obtain ⟨hg, g1, g6⟩ := BF_g hB
  have hf := fuel_lt
  obtain ⟨h1, h2⟩ := mx_hold hg
  have hn : (nS s : Int) = s 0 0 := by unfold nS; omega
  unfold fL_law_c421
  rcases hold_rng (p := 0) hg with h | ⟨w, h, hw⟩
  · generalize fuel = N at hf ⊢
    obtain ⟨N, rfl⟩ : ∃ j, N = j + 1 := ⟨N - 1, by omega⟩
    rw [fL_law_L424, if_neg (by omega), if_pos (by omega)]
    exact q_c497 hB hS hN hT hD
  · rw [(h2 w hw h).1]
    exact q_L424 hB hS hw h (nS s) 0 fuel μ (by omega) (by unfold nS; omega) hN hT hD
theorem q_c342 (hB : BF s0 m s β) (hS : Nx self66 x62 m s β) (hN : Nw m s μ) (hT : St m β μ) (hD : LD s μ) :
    Ok (fL_law_c342 σ self66 (s 0 0) x61 x62 x63 (m : Int) (s 0 2) (s 0 1) (alS s) (cr s) (bitS (hold s 0)) (hold s 0) (mxR (byS s) (nS s)) (smD s (nS s)) μ) := by
  obtain ⟨hg, g1, g6⟩ := BF_g hB
  obtain ⟨h1, h2⟩ := mx_hold hg
  have gf := hg.2.2
  unfold fL_law_c342
  rw [smD_al hg, if_neg (fun w => w rfl)]
  simp only [mlet_e]
  have fin : ∀ ν, Fq μ ν → Ok (if s 0 1 < 0 then some (0, ν) else if s 0 1 ≤ 9 then fL_law_c421 σ self66 (s 0 0) x61 x62 x63 (m : Int) (s 0 2) (s 0 1) (alS s) (cr s) (hold s 0) (mxR (byS s) (nS s)) ν else some (0, ν)) := fun ν hq => by
    rw [if_neg (by omega), if_pos (by omega)]
    exact q_c421 hB hS (Nw_q hN hq) (St_q hT hq) (LD_q hD hq)
  rcases hold_rng (p := 0) hg with h | ⟨w, h, hw⟩
  · have e0 := h1 h
    have eb : bitS (hold s 0) = 0 := by
      unfold bitS
      rw [if_pos (by omega)]
    rw [if_neg (by omega), if_neg (fun w => w e0), if_neg (fun w => w trivial), if_neg (by omega), eb, if_neg (fun w => w rfl), if_pos (by omega)]
    exact fin μ (Fq_r μ)
  · obtain ⟨e0, e1⟩ := h2 w hw h
    have eb : bitS (hold s 0) = bshl 1 (hold s 0) := by
      unfold bitS
      rw [if_neg (by omega)]
    obtain ⟨ν, a1, a2⟩ := T_told (w := 3) hN hw (by omega)
    have t3 : tolS s w 3 = byS s w := rfl
    rw [t3, ← h, ← e0] at a1
    rw [if_pos (by omega), if_pos (by omega), if_neg (fun w => w trivial), if_pos (by omega), eb, if_neg (fun w => w rfl), if_neg (by omega), a1, bnd2_some, if_neg (fun w => w rfl)]
    exact fin ν a2
/-- who has it next, if among the first k -/
def whK (s : Mem) (k : Nat) : Int := if 0 ≤ hold s 0 ∧ hold s 0 < (k : Int) then hold s 0 else -9
theorem St_62 {k : Nat} {v : Int} (h : St m β μ) : St m β (wr μ 62 k v) := ⟨fun c j hc => by
  unfold stc at hc
  rw [wr_ne (by omega)]
  exact h.1 c j (by unfold stc; exact hc), fun r hr => by
  rw [wr_ne (by omega)]
  exact h.2 r hr⟩
theorem q_L160 (hB : BF s0 m s β) (hS : Nx self66 x62 m s β) : ∀ (j k N : Nat) (μ : Mem), k + j = nS s → j < N → Nw m s μ → St m β μ → (∀ l : Nat, l < k → μ 62 l = s 3 l) →
    Ok (fL_law_L160 (s 0 0) σ self66 x61 x62 x63 (m : Int) (s 0 2) (s 0 1) (alS s) (cr s) (bitS (hold s 0)) N (whK s k) (mxR (byS s) k) (smD s k) (k : Int) μ) := by
  obtain ⟨hg, g1, g6⟩ := BF_g hB
  have m12 : m ≤ 12 := hB.2.1.2
  have hb : bnd m s := hB.1.2.2.2.1
  have hn : (nS s : Int) = s 0 0 := by unfold nS; omega
  have hnum := hb.1
  intro j
  induction j with
  | zero =>
    intro k N μ e1 e2 hN hT hD
    obtain ⟨N, rfl⟩ : ∃ j, N = j + 1 := ⟨N - 1, by omega⟩
    obtain rfl : k = nS s := by omega
    have ew : whK s (nS s) = hold s 0 := by
      unfold whK
      rcases hold_rng (p := 0) hg with h | ⟨w, h, hw⟩
      · rw [if_neg (by omega), h]
      · rw [if_pos (by omega)]
    rw [fL_law_L160, if_pos (by omega), ew]
    exact q_c342 hB hS hN hT (fun l hl => hD l (by omega))
  | succ j ih =>
    intro k N μ e1 e2 hN hT hD
    obtain ⟨N, rfl⟩ : ∃ j, N = j + 1 := ⟨N - 1, by omega⟩
    have hk : (k : Int) < s 0 0 := by omega
    have k6 : k < 6 := by omega
    have htr := tol_rng hg hk
    have hsm := smD_rng hg k (by omega)
    have hby := byS_rng hg hk
    have hfr := far_rng hg hk
    have gf := hg.2.2
    obtain ⟨ν1, a1, a2⟩ := T_told (w := 2) hN hk (by omega)
    have t2 : tolS s k 2 = s 3 k := rfl
    rw [t2] at a1
    generalize hρ : wr ν1 62 k (s 3 k) = ρ
    have hNρ : Nw m s ρ := by
      rw [← hρ]
      exact Nw_far (Nw_q hN a2) (fun c j hc => wr_ne (by omega))
    have hTρ : St m β ρ := by
      rw [← hρ]
      exact St_62 (St_q hT a2)
    have hDρ : ∀ l : Nat, l < k + 1 → ρ 62 l = s 3 l := fun l hl => by
      rw [← hρ]
      by_cases e : l = k
      · rw [e, wr_at (by omega)]
      · rw [wr_ne (by omega), a2 _ _ (by omega) (by omega) (by omega)]
        exact hD l (by omega)
    obtain ⟨ν2, b1, b2⟩ := T_told (w := 3) hNρ hk (by omega)
    obtain ⟨ν3, c1, c2⟩ := T_told (w := 1) (Nw_q hNρ b2) hk (by omega)
    have q3 := Fq_t b2 c2
    obtain ⟨ν4, d1, d2⟩ := T_told (w := 5) (Nw_q hNρ q3) hk (by omega)
    have q4 := Fq_t q3 d2
    obtain ⟨ν5, f1, f2⟩ := T_told (w := 5) (Nw_q hNρ q4) hk (by omega)
    have q5 := Fq_t q4 f2
    have t3 : tolS s k 3 = byS s k := rfl
    have t1 : tolS s k 1 = s 2 k := rfl
    have t5 : tolS s k 5 = far s k := rfl
    rw [t3] at b1
    rw [t1] at c1
    rw [t5] at d1 f1
    have e62 : ∀ ν, Fq ρ ν → ν 62 k = s 3 k := fun ν hq => by
      rw [hq _ _ (by omega) (by omega) (by omega)]
      exact hDρ k (by omega)
    have next : ∀ X Y Z, X = whK s (k + 1) → Y = mxR (byS s) (k + 1) → Z = smD s (k + 1) → Ok (fL_law_L160 (s 0 0) σ self66 x61 x62 x63 (m : Int) (s 0 2) (s 0 1) (alS s) (cr s) (bitS (hold s 0)) N X Y Z (w32 ((k : Int) + 1)) ν5) := fun X Y Z e1 e2 e3 => by
      rw [e1, e2, e3, w32_s (by omega)]
      exact ih (k + 1) N ν5 (by omega) (by omega) (Nw_q hNρ q5) (St_q hTρ q5) (fun l hl => by rw [q5 _ _ (by omega) (by omega) (by omega)]; exact hDρ l hl)
    clear ih
    have edar : (fX1_dares (k : Int) (s 3 k) ((s 0 2).tmod 100) (far s k) ν5) = some (byS s k) := by
      have et : (s 0 2).tmod 100 = s 0 2 := by
        rw [Int.tmod_eq_emod_of_nonneg (by omega)]
        omega
      rw [et]
      exact C_dares (Nw_q hNρ q5) hk (by omega) (by omega) (by omega)
    have ebit : bitS (hold s 0) = bshl 1 (k : Int) ↔ hold s 0 = (k : Int) := bit_inj k6 (hold_6 hg)
    have hr : 0 ≤ (k : Int) ∧ (k : Int) < 6 := by omega
    have ef1 : s 0 1 ≤ s 2 k → w32 (s 2 k - s 0 1) = far s k := fun z => by
      unfold far
      rw [if_pos z, w32_i (by omega)]
    have ef2 : ¬ s 0 1 ≤ s 2 k → w32 (s 0 1 - s 2 k) = far s k := fun z => by
      unfold far
      rw [if_neg z, w32_i (by omega)]
    have rest : ∀ X Y Z, X = whK s (k + 1) → Y = mxR (byS s) (k + 1) → Z = smD s (k + 1) → Ok (bnd2 (fL_told (k : Int) 1 ν2) fun x932 μ933 =>
          grd (0 ≤ (k : Int) ∧ (k : Int) < 6) <|
          if (μ933 62 ((k : Int)).toNat) < 0 then some (0, μ933)
          else
            grd (0 ≤ (k : Int) ∧ (k : Int) < 6) <|
            if 20 < (μ933 62 ((k : Int)).toNat) then some (0, μ933)
            else
              if byS s k < 0 then some (0, μ933)
              else
                if x932 < 0 then some (0, μ933)
                else
                  if 9 < x932 then some (0, μ933)
                  else
                    bnd2 (fL_told (k : Int) 5 μ933) fun x934 μ935 =>
                    mlet (fun (x936 : Int) =>
                      if ¬ x934 = x936 then some (0, μ935)
                      else
                        grd (0 ≤ (k : Int) ∧ (k : Int) < 6) <|
                        bnd2 (fL_told (k : Int) 5 μ935) fun x938 μ939 =>
                        (fX1_dares (k : Int) (μ935 62 ((k : Int)).toNat) ((s 0 2).tmod 100) x938 μ939).bind fun x940 =>
                        if x940 = byS s k then
                          mlet (w32 ((k : Int) + 1)) fun x941 =>
                          fL_law_L160 (s 0 0) σ self66 x61 x62 x63 (m : Int) (s 0 2) (s 0 1) (alS s) (cr s) (bitS (hold s 0)) N X Y Z x941 μ939
                        else some (0, μ939)
                      ) fun (K937 : Int → Option (Int × Mem)) =>
                    if s 0 1 ≤ x932 then K937 (w32 (x932 - s 0 1)) else K937 (w32 (s 0 1 - x932))) := by
      intro X Y Z h1 h2 h3
      have e3 := e62 ν3 q3
      have e4 := e62 ν4 q4
      rw [c1, bnd2_some]
      simp only [grd, if_pos hr, tn_c, e3]
      rw [if_neg (by omega), if_neg (by omega), if_neg (by omega), if_neg (by omega), if_neg (by omega), d1, bnd2_some, mlet_e]
      by_cases z : s 0 1 ≤ s 2 k
      · rw [if_pos z, ef1 z]
        dsimp only
        rw [if_neg (fun w => w rfl), f1, bnd2_some, e4, edar, bd_some, if_pos rfl, mlet_e]
        exact next X Y Z h1 h2 h3
      · rw [if_neg z, ef2 z]
        dsimp only
        rw [if_neg (fun w => w rfl), f1, bnd2_some, e4, edar, bd_some, if_pos rfl, mlet_e]
        exact next X Y Z h1 h2 h3
    clear next edar ef1 ef2
    have e2' := e62 ν2 b2
    have esm : w32 (smD s k + s 3 k) = smD s (k + 1) := w32_i (by omega)
    have hwh : (¬ bitS (hold s 0) = bshl 1 (k : Int) → whK s k = whK s (k + 1)) ∧ (bitS (hold s 0) = bshl 1 (k : Int) → (k : Int) = whK s (k + 1)) := by
      constructor
      · intro w
        have w' : ¬ hold s 0 = (k : Int) := fun z => w (ebit.mpr z)
        unfold whK
        split <;> split <;> omega
      · intro w
        have w' := ebit.mp w
        unfold whK
        split <;> omega
    have hmx := mx_s (byS s) k
    rw [fL_law_L160, if_neg (by omega), a1, bnd2_some, grd, if_pos hr, tn_c, mlet_e, hρ, b1, bnd2_some, mlet_e]
    have fin : ∀ Y, Y = mxR (byS s) (k + 1) → Ok (grd (0 ≤ (k : Int) ∧ (k : Int) < 6) <|
        mlet ((w32 (smD s k + (ν2 62 ((k : Int)).toNat)))) fun x929 =>
        mlet (fun (x930 : Int) =>
          bnd2 (fL_told (k : Int) 1 ν2) fun x932 μ933 =>
          grd (0 ≤ (k : Int) ∧ (k : Int) < 6) <|
          if (μ933 62 ((k : Int)).toNat) < 0 then some (0, μ933)
          else
            grd (0 ≤ (k : Int) ∧ (k : Int) < 6) <|
            if 20 < (μ933 62 ((k : Int)).toNat) then some (0, μ933)
            else
              if byS s k < 0 then some (0, μ933)
              else
                if x932 < 0 then some (0, μ933)
                else
                  if 9 < x932 then some (0, μ933)
                  else
                    bnd2 (fL_told (k : Int) 5 μ933) fun x934 μ935 =>
                    mlet (fun (x936 : Int) =>
                      if ¬ x934 = x936 then some (0, μ935)
                      else
                        grd (0 ≤ (k : Int) ∧ (k : Int) < 6) <|
                        bnd2 (fL_told (k : Int) 5 μ935) fun x938 μ939 =>
                        (fX1_dares (k : Int) (μ935 62 ((k : Int)).toNat) ((s 0 2).tmod 100) x938 μ939).bind fun x940 =>
                        if x940 = byS s k then
                          mlet (w32 ((k : Int) + 1)) fun x941 =>
                          fL_law_L160 (s 0 0) σ self66 x61 x62 x63 (m : Int) (s 0 2) (s 0 1) (alS s) (cr s) (bitS (hold s 0)) N x930 Y x929 x941 μ939
                        else some (0, μ939)
                      ) fun (K937 : Int → Option (Int × Mem)) =>
                    if s 0 1 ≤ x932 then K937 (w32 (x932 - s 0 1)) else K937 (w32 (s 0 1 - x932))
          ) fun (K931 : Int → Option (Int × Mem)) =>
        if ¬ bitS (hold s 0) = (bshl 1 (k : Int)) then K931 (whK s k) else K931 (k : Int)) := by
      intro Y hY
      rw [grd, if_pos hr, tn_c, e2', mlet_e, mlet_e]
      by_cases q : bitS (hold s 0) = bshl 1 (k : Int)
      · rw [if_neg (fun w => w q)]
        exact rest _ _ _ (hwh.2 q) hY esm
      · rw [if_pos q]
        exact rest _ _ _ (hwh.1 q) hY esm
    by_cases q : byS s k ≤ mxR (byS s) k
    · rw [if_pos q] at hmx
      rw [if_pos q]
      exact fin _ hmx.symm
    · rw [if_neg q] at hmx
      rw [if_neg q]
      exact fin _ hmx.symm
theorem q_c104 (hB : BF s0 m s β) (hS : Nx self66 x62 m s β) (hN : Nw m s μ) (hT : St m β μ) :
    Ok (fL_law_c104 σ self66 (s 0 0) x61 x62 x63 μ) := by
  obtain ⟨hg, g1, g6⟩ := BF_g hB
  have hf := fuel_lt
  have e0 : whK s 0 = -9 := by
    unfold whK
    rw [if_neg (by omega)]
  have main := q_L160 (σ := σ) (x61 := x61) (x63 := x63) hB hS (nS s) 0 fuel μ (by omega) (by unfold nS; omega) hN hT (fun l hl => absurd hl (by omega))
  rw [e0] at main
  unfold fL_law_c104
  rw [C_cnt2 hN, bd_some, C_cnt1 hN, bd_some, C_cnt3 hN, bd_some, C_cnt5 hN, bd_some, C_cnt6 hN, bd_some, C_cnt4 hN, bd_some]
  exact main
end TURN
