/-! A TURN: the cheapest, the lift -/
section TURN
variable {σ : Scr} {self66 : Int → Mem → Option (Int × Mem)} {s0 s β μ : Mem} {m : Nat} {x61 x62 x63 : Int}
theorem q_c1211_no (hB : BF s0 m s β) (hS : Nx self66 x62 m s β) (hN : Nw m s μ) (hT : St m β μ) (hD : LD s μ) {i : Nat} (hi : (i : Int) < s 0 0) :
    Ok (fL_law_c1211 σ self66 (s 0 0) x61 x62 x63 (m : Int) (s 0 2) (s 0 1) (alS s) (cr s) (hold s 0) (i : Int) (-9) μ) := by
  obtain ⟨hg, g1, g6⟩ := BF_g hB
  have hf := fuel_lt
  unfold fL_law_c1211
  generalize fuel = N at hf ⊢
  obtain ⟨N, rfl⟩ : ∃ j, N = j + 1 := ⟨N - 1, by omega⟩
  rw [fL_law_L1220, if_neg (by omega), if_pos (by omega)]
  exact q_c1398_no hB hS hN hT hD hi
theorem q_c1211 (hB : BF s0 m s β) (hS : Nx self66 x62 m s β) (hN : Nw m s μ) (hT : St m β μ) (hD : LD s μ) {i : Nat} (hi : (i : Int) < s 0 0) {u c : Int} (hu : 0 ≤ u ∧ s 3 i + u ≤ 20) (hp : ¬ pcS s i u = -9) (hsh : ∀ j : Nat, (j : Int) < s 0 0 → ¬ shr s i u j = -9) (hc0 : 0 ≤ c) (hc : c = rsS s i u (nS s)) (h8 : μ 8 1 = s 0 0) (h3 : ∀ l : Nat, (l : Int) < s 0 0 → μ 3 l = shr s i u l) :
    Ok (fL_law_c1211 σ self66 (s 0 0) x61 x62 x63 (m : Int) (s 0 2) (s 0 1) (alS s) (cr s) (hold s 0) (i : Int) c μ) := by
  obtain ⟨hg, g1, g6⟩ := BF_g hB
  have hf := fuel_lt
  unfold fL_law_c1211
  generalize fuel = N at hf ⊢
  exact q_L1220 hB hS hi hu hp hsh hc0 hc (nS s) 0 N 0 μ (by omega) (by unfold nS; omega) (by omega) (by rw [md_0]; exact hN) hT hD h8 h3
theorem q_c1122 (hB : BF s0 m s β) (hS : Nx self66 x62 m s β) (hN : Nw m s μ) (hT : St m β μ) (hD : LD s μ) {i : Nat} (hi : (i : Int) < s 0 0) :
    Ok (fL_law_c1122 σ self66 (s 0 0) x61 x62 x63 (m : Int) (s 0 2) (s 0 1) (alS s) (cr s) (hold s 0) (i : Int) (lftS s i 1 (tS' s i) 0) μ) := by
  obtain ⟨hg, g1, g6⟩ := BF_g hB
  have hi20 := (tol_rng hg hi).2.2
  have hn : (nS s : Int) = s 0 0 := by unfold nS; omega
  have hT' : ((tS' s i : Nat) : Int) = 21 - s 3 i := by unfold tS'; omega
  have hw0 : wr s 3 i (s 3 i + 0) = s := wr_id (by omega)
  have hself : hold s 0 = (i : Int) → pcS s i 0 = 0 := fun h => pc_lift hg hi (by omega) (by omega) (by rw [hw0]; exact h)
  have hlift : lftS s i 1 (tS' s i) 0 = -9 ∨ (0 ≤ lftS s i 1 (tS' s i) 0 ∧ s 3 i + lftS s i 1 (tS' s i) 0 ≤ 20 ∧ pcS s i (lftS s i 1 (tS' s i) 0) = lftS s i 1 (tS' s i) 0) := by
    rcases lft_spec (s := s) (i := i) (tS' s i) 0 with ⟨h1, -⟩ | ⟨u, h1, h2, h3, h4, -⟩
    · exact Or.inl h1
    · rw [h1]
      exact Or.inr ⟨by omega, by omega, pc_lift hg hi (by omega) (by omega) h4⟩
  generalize lftS s i 1 (tS' s i) 0 = lf at *
  obtain ⟨k1, k2⟩ := C_cheap (r := 1) hN hi (by omega)
  rcases ch_spec (i := i) hg hi with ⟨h1, h2⟩ | ⟨u, h1, h2, h3, h4, h5, h6⟩
  · obtain ⟨ν, a1, a2⟩ := k1 h1
    have a1' : fX1_cheap (i : Int) 1 μ = some (-9, ν) := a1
    have hwho : ¬ hold s 0 = (i : Int) := fun w => by
      have := hself w
      rw [h2 0 (by omega) (by omega)] at this
      omega
    have hl9 : lf < 0 := by
      rcases hlift with w | ⟨w1, w2, w3⟩
      · omega
      · rw [h2 lf w1 w2] at w3
        omega
    unfold fL_law_c1122
    rw [a1', bnd2_some]
    simp only [mlet_e]
    rw [if_neg (by omega), if_pos (by omega), if_pos (by omega), if_pos hwho, if_neg (fun w => w trivial), if_pos hl9, if_pos (by omega)]
    exact q_c1211_no hB hS (Nw_q hN a2) (St_q hT a2) (LD_q hD a2) hi
  · have hc9 : ¬ (chR s i (tS' s i)).1 = -9 := by
      have := (smO_pos (i := i) (u := u) hg ⟨h1.1, by omega⟩ (nS s) (by omega) (fun j hj => h5 j (by omega))).1
      unfold nS at this
      omega
    obtain ⟨ν, a1, a2, a3, a4⟩ := k2 hc9
    have hsp := smO_pos (i := i) (u := u) hg ⟨h1.1, by omega⟩ (nS s) (by omega) (fun j hj => h5 j (by omega))
    have hrs := rsS_sm s i u (nS s)
    rw [if_pos (by omega)] at hrs
    rw [h2] at a3
    have h3' : (chR s i (tS' s i)).1 = u + smO s i u (nS s) := h3
    generalize (chR s i (tS' s i)).1 = C at *
    have a1' : fX1_cheap (i : Int) 1 μ = some (C, ν) := a1
    have hC0 : 0 ≤ C := by omega
    have hiff : C = 0 ↔ hold s 0 = (i : Int) := by
      constructor
      · intro w
        refine paid (t := s) (u := u) hg hg hi h1.1 h1.2 (fun _ _ _ => rfl) h4 (by omega) (fun j hj hne => ?_)
        have q1 := hsp.2 j (by omega) hne
        rcases shr_rng (i := i) (j := j) (u := u) hg hj ⟨h1.1, by omega⟩ with q2 | q2
        · exact absurd q2 (h5 j hj)
        · omega
      · intro w
        have q1 := hself w
        have q2 := h6 0 (by omega) (by omega) (by omega)
        omega
    have hlc : 0 ≤ lf → C ≤ lf := fun w => by
      rcases hlift with w1 | ⟨w1, w2, w3⟩
      · omega
      · have := h6 lf w1 w2 (by omega)
        omega
    have hN1 : Nw m s ν := ⟨by rw [a4 _ _ (by omega) (by omega) (by omega)]; exact hN.1, CB_congr hN.2.1 (fun c k hc => a4 _ _ (by omega) (by omega) (by omega)), hg⟩
    have hT1 : St m β ν := ⟨fun c k hc => by
      unfold stc at hc
      rw [a4 _ _ (by omega) (by omega) (by omega)]
      exact hT.1 c k (by unfold stc; exact hc), fun r hr => by
      by_cases e : r = 1
      · rw [e, a2]
        omega
      · rw [a4 _ _ (by omega) (by omega) (by omega)]
        exact hT.2 r hr⟩
    have hD1 : LD s ν := fun l hl => by rw [a4 _ _ (by omega) (by omega) (by omega)]; exact hD l hl
    obtain ⟨n, hn2⟩ : ∃ n : Nat, s 0 0 = (n : Int) := ⟨(s 0 0).toNat, by omega⟩
    have c1 := C_at_no (r := 1) (n := n) (i := n) (μ := ν) (by omega) (by rw [a2, hn2]) (by omega)
    have c1' : fX1_at 1 (s 0 0) ν = some (-3, fndM ν 2) := by
      rw [hn2]
      exact c1
    have hq : Fq ν (fndM ν 2) := Fq_fnd
    have last : Ok (bnd2 (fX1_at 1 (s 0 0) ν) fun x790 μ791 => if x790 = (-3) then fL_law_c1211 σ self66 (s 0 0) x61 x62 x63 (m : Int) (s 0 2) (s 0 1) (alS s) (cr s) (hold s 0) (i : Int) C μ791 else some (0, μ791)) := by
      rw [c1', bnd2_some, if_pos rfl]
      exact q_c1211 hB hS (Nw_q hN1 hq) (St_q hT1 hq) (LD_q hD1 hq) hi h1 h4 h5 hC0 (by omega) (by rw [hq _ _ (by omega) (by omega) (by omega)]; exact a2) (fun l hl => by rw [hq _ _ (by omega) (by omega) (by omega)]; exact a3 l hl)
    unfold fL_law_c1122
    rw [a1', bnd2_some]
    simp only [mlet_e]
    rw [if_neg (by omega), if_neg (by omega), if_neg (by omega)]
    have tail : Ok (if lf < 0 then (if C < 0 then fL_law_c1211 σ self66 (s 0 0) x61 x62 x63 (m : Int) (s 0 2) (s 0 1) (alS s) (cr s) (hold s 0) (i : Int) C ν else bnd2 (fX1_at 1 (s 0 0) ν) fun x790 μ791 => if x790 = (-3) then fL_law_c1211 σ self66 (s 0 0) x61 x62 x63 (m : Int) (s 0 2) (s 0 1) (alS s) (cr s) (hold s 0) (i : Int) C μ791 else some (0, μ791)) else if C < 0 then some (0, ν) else if lf < C then some (0, ν) else if C < 0 then fL_law_c1211 σ self66 (s 0 0) x61 x62 x63 (m : Int) (s 0 2) (s 0 1) (alS s) (cr s) (hold s 0) (i : Int) C ν else bnd2 (fX1_at 1 (s 0 0) ν) fun x790 μ791 => if x790 = (-3) then fL_law_c1211 σ self66 (s 0 0) x61 x62 x63 (m : Int) (s 0 2) (s 0 1) (alS s) (cr s) (hold s 0) (i : Int) C μ791 else some (0, μ791)) := by
      by_cases q : lf < 0
      · rw [if_pos q, if_neg (by omega)]
        exact last
      · rw [if_neg q, if_neg (by omega), if_neg (by have := hlc (by omega); omega), if_neg (by omega)]
        exact last
    by_cases q : C = 0
    · rw [if_neg (fun w => w q), if_neg (fun w => w (hiff.mp q)), if_neg (fun w => w trivial)]
      exact tail
    · rw [if_pos q, if_pos (fun w => q (hiff.mpr w)), if_neg (fun w => w trivial)]
      exact tail
theorem q_c1068_0 (hB : BF s0 m s β) (hS : Nx self66 x62 m s β) (hN : Nw m s μ) (hT : St m β μ) (hD : LD s μ) {i : Nat} (hi : (i : Int) < s 0 0) (h : lftS s i 1 (tS' s i) 0 ≤ 0) {a : Int} :
    Ok (fL_law_c1068 σ self66 (s 0 0) x61 x62 x63 (m : Int) (s 0 2) (s 0 1) (alS s) (cr s) (hold s 0) (i : Int) (lftS s i 1 (tS' s i) 0) a μ) := by
  unfold fL_law_c1068
  rw [if_pos h]
  exact q_c1122 hB hS hN hT hD hi
theorem q_c1068_1 (hB : BF s0 m s β) (hS : Nx self66 x62 m s β) {i a u : Nat} (hi : (i : Int) < s 0 0) (hu : lftS s i 1 (tS' s i) 0 = (u : Int)) (hu1 : 1 ≤ u) (ha : a ≤ 3) (hN : Nw (m + a) (wr s 3 i (s 3 i + (u : Int))) μ) (hT : St m β μ) (hD : LD s μ) :
    Ok (fL_law_c1068 σ self66 (s 0 0) x61 x62 x63 (m : Int) (s 0 2) (s 0 1) (alS s) (cr s) (hold s 0) (i : Int) (lftS s i 1 (tS' s i) 0) (a : Int) μ) := by
  obtain ⟨hg, g1, g6⟩ := BF_g hB
  have m12 : m ≤ 12 := hB.2.1.2
  have hi20 := (tol_rng hg hi).2.2
  have i6 : i < 6 := by omega
  rcases lft_spec (s := s) (i := i) (tS' s i) 0 with ⟨h1, -⟩ | ⟨u', h1, h2, h3, h4, h5⟩
  · omega
  have huu : u' = u := by omega
  subst huu
  have e0 : wr s 3 i (s 3 i + (u' : Int)) 0 0 = s 0 0 := wr_ne (by omega)
  have e3 : wr s 3 i (s 3 i + (u' : Int)) 3 i = s 3 i + (u' : Int) := wr_at (by omega)
  obtain ⟨ν, a1, a2, a3, a4⟩ := C_shame (y := 1) hN (by omega) (by rw [e0]; exact hi) (by omega) (by rw [e3]; omega)
  rw [e3] at a1 a2
  rw [wr_wr] at a2
  have ex : s 3 i + (u' : Int) - ((1 : Nat) : Int) = s 3 i + ((u' - 1 : Nat) : Int) := by omega
  rw [ex] at a1 a2
  have hno := h5 (u' - 1) (by omega) (by omega)
  have a1' : fX1_shame (i : Int) 1 μ = some (s 3 i + ((u' - 1 : Nat) : Int), ν) := a1
  obtain ⟨ν2, b1, b2, b3, b4⟩ := B_undo hB a2 (by omega) (by omega) (St_d hT (by omega) a4)
  have eb1 : bitS (hold (wr s 3 i (s 3 i + (u' : Int))) 0) = bshl 1 (i : Int) := (bit_inj i6 (hold_6 hN.2.2)).mpr h4
  have eb2 : ¬ bitS (hold (wr s 3 i (s 3 i + ((u' - 1 : Nat) : Int))) 0) = bshl 1 (i : Int) := fun w => hno ((bit_inj i6 (hold_6 a2.2.2)).mp w)
  unfold fL_law_c1068
  rw [if_neg (by omega), C_cnt4 hN, bd_some, eb1, if_neg (fun w => w rfl), a1', bnd2_some, if_neg (by omega), C_cnt4 a2, bd_some, if_neg eb2, b1, bnd2_some, w32_s (by omega), if_pos (by omega)]
  exact q_c1122 hB hS b2 b3 (LD_d (LD_d hD a4) b4) hi
theorem q_L1021 (hB : BF s0 m s β) (hS : Nx self66 x62 m s β) {i u : Nat} (hi : (i : Int) < s 0 0) (hu : lftS s i 1 (tS' s i) 0 = (u : Int)) (hu1 : 1 ≤ u) (hu2 : s 3 i + (u : Int) ≤ 20) :
    ∀ (N r a : Nat) (v : Int) (μ : Mem), r < N → v + (r : Int) = s 3 i + (u : Int) → 9 * a + r ≤ 27 → Nw (m + a) (wr s 3 i v) μ → St m β μ → LD s μ →
    Ok (fL_law_L1021 σ self66 (s 0 0) x61 x62 x63 (m : Int) (s 0 2) (s 0 1) (alS s) (cr s) (hold s 0) (i : Int) (lftS s i 1 (tS' s i) 0) N (r : Int) (a : Int) μ) := by
  obtain ⟨hg, g1, g6⟩ := BF_g hB
  have m12 : m ≤ 12 := hB.2.1.2
  intro N
  induction N with
  | zero => intro r a v ν h; omega
  | succ N ih =>
    intro r a v μ h1 h2 h3 hN hT hD
    rw [fL_law_L1021]
    by_cases q : (r : Int) ≤ 0
    · rw [if_pos q]
      have ev : v = s 3 i + (u : Int) := by omega
      subst ev
      exact q_c1068_1 hB hS hi hu hu1 (by omega) hN hT hD
    · rw [if_neg q]
      have e3 : wr s 3 i v 3 i = v := wr_at (by omega)
      have e0 : wr s 3 i v 0 0 = s 0 0 := wr_ne (by omega)
      have step : ∀ y : Nat, 1 ≤ y → y ≤ 9 → y ≤ r → 9 * (a + 1) + (r - y) ≤ 27 → Ok (bnd2 (fX1_raise (i : Int) (y : Int) μ) fun x816 μ817 => if 0 ≤ x816 then fL_law_L1021 σ self66 (s 0 0) x61 x62 x63 (m : Int) (s 0 2) (s 0 1) (alS s) (cr s) (hold s 0) (i : Int) (lftS s i 1 (tS' s i) 0) N (w32 ((r : Int) - (y : Int))) (w32 ((a : Int) + 1)) μ817 else some (0, μ817)) := by
        intro y y1 y2 y3 y4
        have g3 := (tol_rng hN.2.2 (i := i) (by rw [e0]; exact hi)).2.2
        rw [e3] at g3
        obtain ⟨ν1, a1, a2, a3, a4⟩ := C_raise (y := y) hN (by omega) (by rw [e0]; exact hi) ⟨y1, y2⟩ (by rw [e3]; omega)
        rw [e3] at a1 a2
        rw [wr_wr] at a2
        have ew : w32 ((r : Int) - (y : Int)) = ((r - y : Nat) : Int) := by
          rw [w32_i (by omega)]
          omega
        rw [a1, bnd2_some, if_pos (by omega), w32_s (by omega), ew]
        clear ew
        exact ih (r - y) (a + 1) (v + (y : Int)) ν1 (by omega) (by omega) y4 a2 (St_d hT (by omega) a4) (LD_d hD a4)
      simp only [mlet_e]
      by_cases q9 : (r : Int) ≤ 9
      · rw [if_pos q9]
        exact step r (by omega) (by omega) (by omega) (by omega)
      · rw [if_neg q9]
        exact step 9 (by omega) (by omega) (by omega) (by omega)
theorem q_c1014 (hB : BF s0 m s β) (hS : Nx self66 x62 m s β) (hN : Nw m s μ) (hT : St m β μ) (hD : LD s μ) {i : Nat} (hi : (i : Int) < s 0 0) :
    Ok (fL_law_c1014 σ self66 (s 0 0) x61 x62 x63 (m : Int) (s 0 2) (s 0 1) (alS s) (cr s) (hold s 0) (i : Int) (lftS s i 1 (tS' s i) 0) μ) := by
  obtain ⟨hg, g1, g6⟩ := BF_g hB
  have hi20 := (tol_rng hg hi).2.2
  have hf := fuel_lt
  unfold fL_law_c1014
  generalize fuel = N at hf ⊢
  by_cases q : lftS s i 1 (tS' s i) 0 ≤ 0
  · obtain ⟨N, rfl⟩ : ∃ j, N = j + 1 := ⟨N - 1, by omega⟩
    rw [fL_law_L1021, if_pos q]
    exact q_c1068_0 hB hS hN hT hD hi q
  · rcases lft_spec (s := s) (i := i) (tS' s i) 0 with ⟨h1, -⟩ | ⟨u, h1, h2, h3, h4, h5⟩
    · omega
    · have hT' : ((tS' s i : Nat) : Int) = 21 - s 3 i := by unfold tS'; omega
      have := q_L1021 (σ := σ) (x61 := x61) (x63 := x63) hB hS hi h1 (by omega) (by omega) N u 0 (s 3 i) μ (by omega) rfl (by omega) (by rw [wr_id rfl]; exact hN) hT hD
      rw [← h1] at this
      exact this
theorem q_c946 (hB : BF s0 m s β) (hS : Nx self66 x62 m s β) (hN : Nw m s μ) (hT : St m β μ) (hD : LD s μ) {i : Nat} (hi : (i : Int) < s 0 0) :
    Ok (fL_law_c946 σ self66 (s 0 0) x61 x62 x63 (m : Int) (s 0 2) (s 0 1) (alS s) (cr s) (hold s 0) (i : Int) μ) := by
  obtain ⟨hg, g1, g6⟩ := BF_g hB
  have hi20 := (tol_rng hg hi).2.2
  obtain ⟨ν, a1, a2⟩ := C_lift (m := 1) hN (by omega) hi
  have a1' : fX1_lift (i : Int) 1 μ = some (lftS s i 1 (tS' s i) 0, ν) := a1
  have hN1 := Nw_q hN a2
  have hT1 := St_q hT a2
  have hD1 := LD_q hD a2
  have hT' : ((tS' s i : Nat) : Int) = 21 - s 3 i := by unfold tS'; omega
  have last := q_c1014 (σ := σ) (x61 := x61) (x63 := x63) hB hS hN1 hT1 hD1 hi
  have hw0 : wr s 3 i (s 3 i + ((0 : Nat) : Int)) = s := wr_id (by omega)
  have hsp := lft_spec (s := s) (i := i) (tS' s i) 0
  have hiff : lftS s i 1 (tS' s i) 0 = 0 ↔ hold s 0 = (i : Int) := by
    rcases hsp with ⟨h1, h2⟩ | ⟨u, h1, h2, h3, h4, h5⟩
    · constructor
      · intro w
        omega
      · intro w
        exact absurd (by rw [hw0]; exact w) (h2 0 (by omega) (by omega))
    · constructor
      · intro w
        have : u = 0 := by omega
        subst this
        rw [hw0] at h4
        exact h4
      · intro w
        by_cases e : u = 0
        · omega
        · exact absurd (by rw [hw0]; exact w) (h5 0 (by omega) (by omega))
  have hrng : lftS s i 1 (tS' s i) 0 = -9 ∨ (0 ≤ lftS s i 1 (tS' s i) 0 ∧ lftS s i 1 (tS' s i) 0 ≤ 20 - s 3 i) := by
    rcases hsp with ⟨h1, h2⟩ | ⟨u, h1, h2, h3, h4, h5⟩ <;> omega
  generalize lftS s i 1 (tS' s i) 0 = lf at *
  have tail : Ok (if ¬ lf = 0 then (if ¬ hold s 0 = (i : Int) then (if (0 : Int) = 0 then fL_law_c1014 σ self66 (s 0 0) x61 x62 x63 (m : Int) (s 0 2) (s 0 1) (alS s) (cr s) (hold s 0) (i : Int) lf ν else some (0, ν)) else (if (0 : Int) = 1 then fL_law_c1014 σ self66 (s 0 0) x61 x62 x63 (m : Int) (s 0 2) (s 0 1) (alS s) (cr s) (hold s 0) (i : Int) lf ν else some (0, ν))) else (if ¬ hold s 0 = (i : Int) then (if (1 : Int) = 0 then fL_law_c1014 σ self66 (s 0 0) x61 x62 x63 (m : Int) (s 0 2) (s 0 1) (alS s) (cr s) (hold s 0) (i : Int) lf ν else some (0, ν)) else (if (1 : Int) = 1 then fL_law_c1014 σ self66 (s 0 0) x61 x62 x63 (m : Int) (s 0 2) (s 0 1) (alS s) (cr s) (hold s 0) (i : Int) lf ν else some (0, ν)))) := by
    by_cases q : lf = 0
    · rw [if_neg (fun w => w q), if_neg (fun w => w (hiff.mp q)), if_pos rfl]
      exact last
    · rw [if_pos q, if_pos (fun w => q (hiff.mpr w)), if_pos rfl]
      exact last
  unfold fL_law_c946
  rw [a1', bnd2_some]
  have e62 : ν 62 i = s 3 i := hD1 i hi
  rw [if_neg (by omega), grd, if_pos (by omega), tn_c, e62, w32_i (by omega), if_neg (by omega)]
  rw [mlet_e, mlet_e]
  by_cases q : lf ≤ -9
  · rw [if_pos q]
    exact tail
  · rw [if_neg q, if_neg (by omega)]
    exact tail
end TURN
