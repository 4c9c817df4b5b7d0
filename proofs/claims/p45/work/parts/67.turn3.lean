/-! BY AT WHOSE DOOR IT WAS: a row of holders laid, asked about -/
theorem smod_dec : ∀ j : Fin 32, ((Int32.ofInt (j.val : Int) &&& 31).toBitVec.smod 32).toNat = j.val := by decide +kernel
theorem ofInt_nI (a : Nat) : Int32.ofInt (a : Int) = nI a := rfl
theorem bshr_nn {a j : Nat} (ha : a < 2147483648) (hj : j < 32) : bshr (a : Int) (j : Int) = ((a / 2 ^ j : Nat) : Int) := by
  have h := pk_shrN (n := a) (by omega) (Int32.ofInt (j : Int) &&& 31) j (smod_dec ⟨j, hj⟩)
  have h2 := Nat.div_le_self a (2 ^ j)
  unfold bshr
  rw [ofInt_nI a, h, nI_toInt (by omega)]
theorem bit_nn {a j : Nat} (ha : a < 2147483648) (hj : j < 32) : band (bshr (a : Int) (j : Int)) 1 = if a.testBit j then 1 else 0 := by
  have h2 := Nat.div_le_self a (2 ^ j)
  rw [bshr_nn ha hj, show (1 : Int) = ((1 : Nat) : Int) from rfl, band_nn (by omega) (by omega), Nat.and_one_is_mod, Nat.testBit_eq_decide_div_mod_eq]
  rcases Nat.mod_two_eq_zero_or_one (a / 2 ^ j) with h | h
  · rw [h]
    rfl
  · rw [h]
    rfl
theorem bor_n2 {a b : Nat} (ha : a < 1073741824) (hb : b < 1073741824) : bor (a : Int) (b : Int) = ((a ||| b : Nat) : Int) := by
  have hl : a ||| b < 2 ^ 30 := Nat.or_lt_two_pow (by omega) (by omega)
  have e : (Int32.ofInt (a : Int) ||| Int32.ofInt (b : Int)) = Int32.ofInt ((a ||| b : Nat) : Int) := by
    apply Int32.toBitVec_inj.mp
    apply BitVec.eq_of_toNat_eq
    rw [Int32.toBitVec_or, BitVec.toNat_or, ofInt_tn (by omega), ofInt_tn (by omega), ofInt_tn (by omega)]
  unfold bor
  rw [e]
  generalize a ||| b = q at *
  exact tiK (by unfold okI; omega)
def sb (t : Nat → Int) : Nat → Nat
  | 0 => 0
  | k + 1 => if t k = 0 then sb t k else sb t k ||| 2 ^ k
theorem sb_lt (t : Nat → Int) : ∀ k, sb t k < 2 ^ k
  | 0 => by unfold sb; omega
  | k + 1 => by
    have h := sb_lt t k
    have h2 : 2 ^ k < 2 ^ (k + 1) := Nat.pow_lt_pow_right (by omega) (by omega)
    unfold sb
    by_cases q : t k = 0
    · rw [if_pos q]
      omega
    · rw [if_neg q]
      exact Nat.or_lt_two_pow (by omega) h2
theorem sb_bit (t : Nat → Int) (j : Nat) : ∀ k, (sb t k).testBit j = (decide (j < k) && !decide (t j = 0))
  | 0 => by
    unfold sb
    simp
  | k + 1 => by
    have ih := sb_bit t j k
    unfold sb
    by_cases q : t k = 0
    · rw [if_pos q, ih]
      by_cases e : j = k
      · subst e
        simp [q]
      · have : (decide (j < k)) = (decide (j < k + 1)) := decide_eq_decide.mpr (by omega)
        rw [this]
    · rw [if_neg q, Nat.testBit_or, ih, Nat.testBit_two_pow]
      by_cases e : j = k
      · subst e
        simp [q]
      · have : (decide (j < k)) = (decide (j < k + 1)) := decide_eq_decide.mpr (by omega)
        rw [this, decide_eq_false (show ¬ k = j from fun w => e w.symm), Bool.or_false]
theorem setR_sb (t : Nat → Int) : ∀ k, k ≤ 21 → setR t k = ((sb t k : Nat) : Int)
  | 0, _ => rfl
  | k + 1, h => by
    have h1 := sb_lt t k
    have h2 : 2 ^ k ≤ 2 ^ 20 := Nat.pow_le_pow_right (by omega) (by omega)
    rw [setR, sb, setR_sb t k (by omega)]
    by_cases q : t k = 0
    · rw [if_pos q, if_pos q]
    · rw [if_neg q, if_neg q, bshl_p (by omega), tn_c, bor_n2 (by omega) (by omega)]
theorem gos_1 {s : Mem} {ρ : Nat → Int} : ∀ m k, (∀ j, k ≤ j → j < k + m → ρ j = hold (nitS s j) 0) → gosS s ρ m k = 1
  | 0, _, _ => rfl
  | m + 1, k, h => by
    rw [gosS, if_pos (h k (by omega) (by omega)).symm]
    exact gos_1 m (k + 1) (fun j h1 h2 => h j (by omega) (by omega))
/-- how many bits a number has -/
def pcR (b : Int) : Nat → Int
  | 0 => 0
  | k + 1 => pcR b k + band (bshr b (k : Int)) 1
theorem pcR_rng (b : Int) : ∀ k : Nat, 0 ≤ pcR b k ∧ pcR b k ≤ k
  | 0 => by unfold pcR; omega
  | k + 1 => by
    have h := pcR_rng b k
    have h2 := band_1 (bshr b (k : Int))
    unfold pcR
    omega
theorem cnt_pc {s : Mem} {i : Nat} {bits : Int} {n k : Nat} : ∀ d, cntS s i bits n k d ≤ pcR bits d
  | 0 => by unfold cntS pcR; omega
  | d + 1 => by
    have h := cnt_pc (s := s) (i := i) (bits := bits) (n := n) (k := k) d
    rw [cntS, pcR]
    rcases band_1 (bshr bits (d : Int)) with z | z
    · rw [if_pos z, z]
      omega
    · rw [if_neg (by omega), z]
      split <;> omega
theorem cnt_mono {s : Mem} {i : Nat} {bits : Int} {n k d : Nat} : ∀ e, cntS s i bits n k d ≤ cntS s i bits n k (d + e)
  | 0 => Int.le_refl _
  | e + 1 => by
    have h := cnt_mono (s := s) (i := i) (bits := bits) (n := n) (k := k) (d := d) e
    rw [show d + (e + 1) = (d + e) + 1 by omega, cntS]
    split
    · omega
    · split <;> omega
theorem mS_pc {s : Mem} {i : Nat} {bits : Int} {n : Nat} : mS s i bits n ≤ pcR bits 21 := by
  unfold mS
  rcases mx_ex (fun k => cntS s i bits n k 21) 7 with h | ⟨k, hk, h⟩
  · rw [h]
    exact (pcR_rng bits 21).1
  · rw [h]
    exact cnt_pc 21
theorem mS_1 {s : Mem} {i : Nat} {bits : Int} {n d : Nat} (hg : GB (wr s 3 i (d : Int))) (hd : d ≤ 20) (hb : ¬ band (bshr bits (d : Int)) 1 = 0) : 1 ≤ mS s i bits n := by
  obtain ⟨k0, h1, h2, h3⟩ := wOf_hold (GB_nit hg n)
  have e1 : 1 ≤ cntS s i bits n k0 (d + 1) := by
    have h := (cntS_rng s i bits n k0 d).1
    rw [cntS, if_neg hb, if_pos h2]
    omega
  have e2 := cnt_mono (s := s) (i := i) (bits := bits) (n := n) (k := k0) (d := d + 1) (20 - d)
  rw [show d + 1 + (20 - d) = 21 by omega] at e2
  have e3 := mx_le (fun k => cntS s i bits n k 21) 7 k0 h1
  unfold mS
  omega
/-- was somebody there in each of the first nights -/
def flg (s : Mem) : Nat → Int
  | 0 => 1
  | k + 1 => if flg s k = 0 then 0 else if hold (nitS s k) 0 < 0 then 0 else 1
theorem flg_iff (s : Mem) : ∀ k, (flg s k = 1 ∧ ∀ j, j < k → 0 ≤ hold (nitS s j) 0) ∨ (flg s k = 0 ∧ ¬ ∀ j, j < k → 0 ≤ hold (nitS s j) 0)
  | 0 => Or.inl ⟨rfl, fun j hj => absurd hj (by omega)⟩
  | k + 1 => by
    rw [flg]
    rcases flg_iff s k with ⟨h1, h2⟩ | ⟨h1, h2⟩
    · rw [if_neg (by omega)]
      by_cases q : hold (nitS s k) 0 < 0
      · rw [if_pos q]
        exact Or.inr ⟨rfl, fun w => absurd (w k (by omega)) (by omega)⟩
      · rw [if_neg q]
        refine Or.inl ⟨rfl, fun j hj => ?_⟩
        by_cases e : j = k
        · rw [e]; omega
        · exact h2 j (by omega)
    · rw [if_pos h1]
      exact Or.inr ⟨rfl, fun w => h2 fun j hj => w j (by omega)⟩
section TURN
variable {σ : Scr} {self66 : Int → Mem → Option (Int × Mem)} {s0 s β μ : Mem} {m : Nat} {x61 x62 x63 : Int}
theorem q_c1622_no (hB : BF s0 m s β) (hS : Nx self66 x62 m s β) (hN : Nw m s μ) (hT : St m β μ) (hD : LD s μ) {i : Nat} (hi : (i : Int) < s 0 0) {F F2 : Int} (h14 : μ 0 14 = 3) :
    Ok (fL_law_c1622 σ self66 (s 0 0) x61 x62 x63 (m : Int) (s 0 2) (s 0 1) (alS s) (cr s) (hold s 0) (i : Int) 0 (-3) (-3) (-3) F F2 μ) := by
  unfold fL_law_c1622 fX1_finding
  rw [if_pos rfl, if_neg (fun w => w rfl), if_neg (fun w => w rfl), if_neg (fun w => w rfl), bd_some, if_pos h14]
  exact q_c1737 hB hS hN hT hD hi
theorem q_c1622_yes (hB : BF s0 m s β) (hS : Nx self66 x62 m s β) (hN : Nw m s μ) (hT : St m β μ) (hD : LD s μ) {i : Nat} (hi : (i : Int) < s 0 0) {D K B : Nat} {P F : Int} (d1 : D < 2 ^ 21) (d2 : D.testBit (s 3 i).toNat = true) (k1 : K < 2 ^ 6) (k2 : K.testBit (s 1 i).toNat = true) (b1 : B ≤ 19) (p1 : 1 ≤ P) (p2 : P ≤ F) :
    Ok (fL_law_c1622 σ self66 (s 0 0) x61 x62 x63 (m : Int) (s 0 2) (s 0 1) (alS s) (cr s) (hold s 0) (i : Int) 1 (D : Int) (K : Int) ((B + 1 : Nat) : Int) P F μ) := by
  obtain ⟨hg, g1, g6⟩ := BF_g hB
  obtain ⟨t1, t2, t3⟩ := tol_rng hg hi
  have i6 : i < 6 := by omega
  have e62 : μ 62 i = (((s 3 i).toNat : Nat) : Int) := by
    rw [hD i hi]
    omega
  have e60 : μ 60 (1 + i) = (((s 1 i).toNat : Nat) : Int) := by
    rw [hT.1 60 (1 + i) (by unfold stc; omega), (hB.2.2.2.2.2 i hi).1]
    omega
  have D1 : 1 ≤ D := by
    rcases Nat.eq_zero_or_pos D with h | h
    · rw [h, Nat.zero_testBit] at d2
      cases d2
    · exact h
  have e21 : bshr (D : Int) 21 = 0 := by
    have := bshr_nn (a := D) (j := 21) (by omega) (by omega)
    rw [Nat.div_eq_of_lt d1] at this
    exact this
  have f1 : band (bshr (D : Int) (((s 3 i).toNat : Nat) : Int)) 1 = 1 := by
    rw [bit_nn (by omega) (by omega), d2]
    rfl
  have f2 : band (bshr (K : Int) (((s 1 i).toNat : Nat) : Int)) 1 = 1 := by
    rw [bit_nn (by omega) (by omega), k2]
    rfl
  unfold fL_law_c1622
  rw [if_neg (by omega), if_neg (by omega), e21, if_neg (fun w => w rfl), grd, if_pos (by omega), tn_c, e62, f1, if_neg (fun w => w rfl), w32_1i i6, tn_1i, grd, if_pos (by omega), e60, f2, if_neg (fun w => w rfl), if_neg (by omega), if_neg (by omega), if_neg (by omega), if_neg (by omega), if_pos p2]
  exact q_c1737 hB hS hN hT hD hi
theorem q_L1592 (hB : BF s0 m s β) (hS : Nx self66 x62 m s β) (hN : Nw m s μ) (hT : St m β μ) (hD : LD s μ) {i : Nat} (hi : (i : Int) < s 0 0) {D K B : Nat} {P : Int} (d1 : D < 2 ^ 21) (d2 : D.testBit (s 3 i).toNat = true) (k1 : K < 2 ^ 6) (k2 : K.testBit (s 1 i).toNat = true) (b1 : B ≤ 19) (p1 : 1 ≤ P) (p2 : P ≤ pcR (D : Int) 21) :
    ∀ (j k N : Nat), k + j = 21 → j < N → Ok (fL_law_L1592 σ self66 (s 0 0) x61 x62 x63 (m : Int) (s 0 2) (s 0 1) (alS s) (cr s) (hold s 0) (i : Int) 1 (D : Int) (K : Int) ((B + 1 : Nat) : Int) P μ N (pcR (D : Int) k) (k : Int)) := by
  intro j
  induction j with
  | zero =>
    intro k N e1 e2
    obtain ⟨N, rfl⟩ : ∃ j, N = j + 1 := ⟨N - 1, by omega⟩
    obtain rfl : k = 21 := by omega
    rw [fL_law_L1592, if_pos (by omega)]
    exact q_c1622_yes hB hS hN hT hD hi d1 d2 k1 k2 b1 p1 p2
  | succ j ih =>
    intro k N e1 e2
    obtain ⟨N, rfl⟩ : ∃ j, N = j + 1 := ⟨N - 1, by omega⟩
    have hr := pcR_rng (D : Int) k
    have hb := band_1 (bshr (D : Int) (k : Int))
    have ih' := ih (k + 1) N (by omega) (by omega)
    rw [pcR] at ih'
    rw [fL_law_L1592, if_neg (by omega), if_neg (by omega)]
    simp only [mlet_e, w32_s (show k ≤ 2000000000 by omega)]
    rw [w32_i (by omega)]
    exact ih'
theorem q_c1553 (hB : BF s0 m s β) (hS : Nx self66 x62 m s β) (hN : Nw m s μ) (hT : St m β μ) (hD : LD s μ) {i z : Nat} (hi : (i : Int) < s 0 0) (hz : 1 ≤ z ∧ z ≤ 8) (h8 : μ 8 2 = (z : Int)) (h4 : ∀ j, j < z → μ 4 j = hold (nitS s j) 0) :
    Ok (fL_law_c1553 σ self66 (s 0 0) x61 x62 x63 (m : Int) (s 0 2) (s 0 1) (alS s) (cr s) (hold s 0) (i : Int) (flg s z) μ) := by
  obtain ⟨hg, g1, g6⟩ := BF_g hB
  obtain ⟨t1, t2, t3⟩ := tol_rng hg hi
  have hf := fuel_lt
  have hh : ∀ j, j < z → 0 ≤ hold (nitS s j) 0 → hold (nitS s j) 0 < s 0 0 := fun j hj h => by
    rcases hold_rng (p := 0) (GB_nit hg j) with w | ⟨q, w1, w2⟩
    · omega
    · rw [nit_0] at w2
      omega
  unfold fL_law_c1553 fX1_asked
  rcases flg_iff s z with ⟨f1, f2⟩ | ⟨f1, f2⟩
  · have hq : ∀ j, j < z → 0 ≤ μ (2 + 2) j ∧ μ (2 + 2) j < s 0 0 := fun j hj => by
      rw [h4 j hj]
      exact ⟨f2 j hj, hh j hj (f2 j hj)⟩
    have hgos : ∀ t : Mem, t = s → gosS t (fun j => μ (2 + 2) j) z 0 = 1 := fun t ht => by
      rw [ht]
      exact gos_1 z 0 (fun j _ hj => h4 j (by omega))
    obtain ⟨ν1, a1, a2⟩ := C_darings hN hi (by omega) h8 (by omega) hq
    have hN1 := Nw_q hN a2
    have r4 : ∀ ν, Fq μ ν → (∀ k, ν (2 + 2) k = μ (2 + 2) k) ∧ ν 8 2 = μ 8 2 := fun ν h => ⟨fun k => h _ _ (by omega) (by omega) (by omega), h _ _ (by omega) (by omega) (by omega)⟩
    obtain ⟨ν2, b1, b2⟩ := C_kinds hN1 hi (by omega) ((r4 ν1 a2).2.trans h8) (by omega) (fun j hj => by rw [(r4 ν1 a2).1 j]; exact hq j hj)
    have e1 : (fun j => ν1 (2 + 2) j) = fun j => μ (2 + 2) j := funext (r4 ν1 a2).1
    rw [e1] at b1
    have q2 := Fq_t a2 b2
    have hN2 := Nw_q hN q2
    have e2 : (fun j => ν2 (2 + 2) j) = fun j => μ (2 + 2) j := funext (r4 ν2 q2).1
    -- the two sets
    have eD : dbS s i (fun j => μ (2 + 2) j) z = ((sb (fun d => gosS (wr s 3 i (d : Int)) (fun j => μ (2 + 2) j) z 0) 21 : Nat) : Int) := setR_sb _ 21 (by omega)
    have eK : kbS s i (fun j => μ (2 + 2) j) z = ((sb (fun d => gosS (wr s 1 i (d : Int)) (fun j => μ (2 + 2) j) z 0) 6 : Nat) : Int) := setR_sb _ 6 (by omega)
    have dl := sb_lt (fun d => gosS (wr s 3 i (d : Int)) (fun j => μ (2 + 2) j) z 0) 21
    have kl := sb_lt (fun d => gosS (wr s 1 i (d : Int)) (fun j => μ (2 + 2) j) z 0) 6
    have db : (sb (fun d => gosS (wr s 3 i (d : Int)) (fun j => μ (2 + 2) j) z 0) 21).testBit (s 3 i).toNat = true := by
      rw [sb_bit]
      have : gosS (wr s 3 i (((s 3 i).toNat : Nat) : Int)) (fun j => μ (2 + 2) j) z 0 = 1 := hgos _ (wr_id (by omega))
      rw [this]
      simp
      omega
    have kb : (sb (fun d => gosS (wr s 1 i (d : Int)) (fun j => μ (2 + 2) j) z 0) 6).testBit (s 1 i).toNat = true := by
      rw [sb_bit]
      have : gosS (wr s 1 i (((s 1 i).toNat : Nat) : Int)) (fun j => μ (2 + 2) j) z 0 = 1 := hgos _ (wr_id (by omega))
      rw [this]
      simp
      omega
    have hbit : ¬ band (bshr (dbS s i (fun j => μ (2 + 2) j) z) (((s 3 i).toNat : Nat) : Int)) 1 = 0 := by
      rw [eD, bit_nn (by omega) (by omega), db]
      decide
    have hnz : ¬ dbS s i (fun j => ν2 (2 + 2) j) z = 0 := by
      rw [e2]
      intro w
      rw [w] at hbit
      exact hbit (band_0 _)
    obtain ⟨ν3, B, c1, c2, c3, c4⟩ := C_look hN2 hi (by omega) ((r4 ν2 q2).2.trans h8) (by omega) (fun j hj => by rw [(r4 ν2 q2).1 j]; exact hq j hj) hnz
    rw [e2] at c3
    have q3 := Fq_t q2 c4
    have p1 : 1 ≤ mS s i (dbS s i (fun j => μ (2 + 2) j) z) B := mS_1 (d := (s 3 i).toNat) (GB_wr3 hg (by omega)) (by omega) hbit
    have p2 : mS s i (dbS s i (fun j => μ (2 + 2) j) z) B ≤ pcR (dbS s i (fun j => μ (2 + 2) j) z) 21 := mS_pc
    have a1' : fX1_darings (i : Int) 2 μ = some (dbS s i (fun j => μ (2 + 2) j) z, ν1) := a1
    have b1' : fX1_kinds (i : Int) 2 ν1 = some (kbS s i (fun j => μ (2 + 2) j) z, ν2) := b1
    have c1' : fX1_look (i : Int) 2 ν2 = some (((B + 1 : Nat) : Int), ν3) := c1
    rw [a1', bnd2_some, b1', bnd2_some, c1', bnd2_some, bd_some, c3, f1]
    rw [eD] at p1 p2 ⊢
    rw [eK]
    exact q_L1592 hB hS (Nw_q hN q3) (St_q hT q3) (LD_q hD q3) hi dl db kl kb c2 p1 p2 21 0 fuel (by omega) (by omega)
  · have hq : ¬ ∀ j, j < z → 0 ≤ μ (2 + 2) j ∧ μ (2 + 2) j < s 0 0 := fun w => f2 fun j hj => by
      have := (w j hj).1
      rw [h4 j hj] at this
      exact this
    have q1 : Fq μ (fndM μ 3) := Fq_fnd
    have q2 : Fq μ (fndM (fndM μ 3) 3) := Fq_t q1 Fq_fnd
    have q3 : Fq μ (fndM (fndM (fndM μ 3) 3) 3) := Fq_t q2 Fq_fnd
    have n0 := C_no hN hi (show 2 < 6 by omega) h8 (by omega) hq
    have tr : ∀ ν, Fq μ ν → ¬ ∀ j, j < z → 0 ≤ ν (2 + 2) j ∧ ν (2 + 2) j < s 0 0 := fun ν h w => hq fun j hj => by
      have := w j hj
      rw [h _ _ (by omega) (by omega) (by omega)] at this
      exact this
    have n1 := C_no (Nw_q hN q1) hi (show 2 < 6 by omega) (by rw [q1 _ _ (by omega) (by omega) (by omega)]; exact h8) (by omega) (tr _ q1)
    have n2 := C_no (Nw_q hN q2) hi (show 2 < 6 by omega) (by rw [q2 _ _ (by omega) (by omega) (by omega)]; exact h8) (by omega) (tr _ q2)
    have a1 : fX1_darings (i : Int) 2 μ = some (-3, fndM μ 3) := n0.1
    have a2 : fX1_kinds (i : Int) 2 (fndM μ 3) = some (-3, fndM (fndM μ 3) 3) := n1.2.1
    have a3 : fX1_look (i : Int) 2 (fndM (fndM μ 3) 3) = some (-3, fndM (fndM (fndM μ 3) 3) 3) := n2.2.2
    have e14 : fndM (fndM (fndM μ 3) 3) 3 0 14 = 3 := by
      generalize fndM (fndM μ 3) 3 = τ
      unfold fndM
      rw [wr_ne (by omega), wr_at (by omega)]
      rfl
    rw [a1, bnd2_some, a2, bnd2_some, a3, bnd2_some, bd_some, f1]
    obtain ⟨N, hN9⟩ : ∃ N, fuel = N + 1 := ⟨fuel - 1, by omega⟩
    rw [hN9, fL_law_L1592, if_neg (by omega), if_pos rfl]
    exact q_c1622_no hB hS (Nw_q hN q3) (St_q hT q3) (LD_q hD q3) hi e14
theorem q_c1530 (hB : BF s0 m s β) (hS : Nx self66 x62 m s β) {i z : Nat} (hi : (i : Int) < s 0 0) (hz : 1 ≤ z ∧ z ≤ 8) (hN : Nw (m + z) (nitS s z) μ) (hT : St m β μ) (hD : LD s μ) (h8 : μ 8 2 = (z : Int)) (h4 : ∀ j, j < z → μ 4 j = hold (nitS s j) 0) :
    Ok (fL_law_c1530 σ self66 (s 0 0) x61 x62 x63 (m : Int) (s 0 2) (s 0 1) (alS s) (cr s) (hold s 0) (i : Int) (z : Int) (flg s z) μ) := by
  have m12 : m ≤ 12 := hB.2.1.2
  obtain ⟨ν, a1, a2, a3, a4⟩ := B_undo hB hN (by omega) (by omega) hT
  unfold fL_law_c1530
  rw [a1, bnd2_some, if_neg (by omega), C_cnt5 a2, bd_some, if_pos rfl]
  exact q_c1553 hB hS a2 a3 (LD_d hD a4) hi hz (by rw [a4 _ _ (by omega) (by omega) (by omega) (by omega)]; exact h8) (fun j hj => by rw [a4 _ _ (by omega) (by omega) (by omega) (by omega)]; exact h4 j hj)
theorem q_L1479 (hB : BF s0 m s β) (hS : Nx self66 x62 m s β) {i z : Nat} (hi : (i : Int) < s 0 0) (hz : 1 ≤ z ∧ z ≤ 8) :
    ∀ (j k N : Nat) (μ : Mem), k + j = z → j < N → Nw (m + k) (nitS s k) μ → St m β μ → LD s μ → μ 8 2 = (z : Int) → (∀ l, l < k → μ 4 l = hold (nitS s l) 0) →
    Ok (fL_law_L1479 (z : Int) σ self66 (s 0 0) x61 x62 x63 (m : Int) (s 0 2) (s 0 1) (alS s) (cr s) (hold s 0) (i : Int) N (flg s k) (k : Int) μ) := by
  obtain ⟨hg, g1, g6⟩ := BF_g hB
  have m12 : m ≤ 12 := hB.2.1.2
  intro j
  induction j with
  | zero =>
    intro k N μ e1 e2 hN hT hD h8 h4
    obtain ⟨N, rfl⟩ : ∃ j, N = j + 1 := ⟨N - 1, by omega⟩
    obtain rfl : k = z := by omega
    rw [fL_law_L1479, if_pos (by omega)]
    exact q_c1530 hB hS hi hz hN hT hD h8 h4
  | succ j ih =>
    intro k N μ e1 e2 hN hT hD h8 h4
    obtain ⟨N, rfl⟩ : ∃ j, N = j + 1 := ⟨N - 1, by omega⟩
    obtain ⟨ν, a1, a2, a3, a4⟩ := C_night hN (by omega) (by rw [nit_0]; omega)
    have e8 : ν 8 2 = (z : Int) := by rw [a4 _ _ (by omega) (by omega) (by omega) (by omega)]; exact h8
    have c1 := C_lay (r := 2) (i := k) (v := hold (nitS s k) 0) (by omega) e8 (by omega) (by omega)
    have c1' : fX1_lay 2 (k : Int) (hold (nitS s k) 0) ν = some (1, wr (wr ν 4 k (hold (nitS s k) 0)) 0 11 (ν 4 k)) := c1
    generalize hρ : wr (wr ν 4 k (hold (nitS s k) 0)) 0 11 (ν 4 k) = ρ at c1'
    have f1 : ∀ c l, ¬ c = 4 → ¬ (c = 0 ∧ l = 11) → ρ c l = ν c l := fun c l q1 q2 => by rw [← hρ, wr_ne (by omega), wr_ne (by omega)]
    have hN1 : Nw (m + (k + 1)) (nitS s (k + 1)) ρ := by
      obtain ⟨n1, n2, n3⟩ := a2
      exact ⟨by rw [f1 _ _ (by omega) (by omega)]; exact n1, CB_congr n2 (fun c l hc => f1 _ _ (by omega) (by omega)), n3⟩
    have hT0 := St_d hT (by omega) a4
    have hT1 : St m β ρ := ⟨fun c l hc => by unfold stc at hc; rw [f1 _ _ (by omega) (by omega)]; exact hT0.1 c l (by unfold stc; exact hc), fun r hr => by rw [f1 _ _ (by omega) (by omega)]; exact hT0.2 r hr⟩
    have hD1 : LD s ρ := fun l hl => by rw [f1 _ _ (by omega) (by omega)]; exact LD_d hD a4 l hl
    have next := ih (k + 1) N ρ (by omega) (by omega) hN1 hT1 hD1 (by rw [f1 _ _ (by omega) (by omega)]; exact e8) (fun l hl => by
      by_cases e : l = k
      · rw [← hρ, wr_ne (by omega), wr_at (by omega), e]
      · rw [← hρ, wr_ne (by omega), wr_ne (by omega), a4 _ _ (by omega) (by omega) (by omega) (by omega)]
        exact h4 l (by omega))
    rw [flg] at next
    rw [fL_law_L1479, if_neg (by omega), a1, bnd2_some]
    simp only [mlet_e, c1', bnd2_some, if_true, w32_s (show k ≤ 2000000000 by omega)]
    by_cases q : flg s k = 0
    · rw [if_pos q] at next ⊢
      exact next
    · rw [if_neg q] at next ⊢
      by_cases q2 : hold (nitS s k) 0 < 0
      · rw [if_pos q2] at next ⊢
        exact next
      · rw [if_neg q2] at next ⊢
        exact next
theorem q_c1445 (hB : BF s0 m s β) (hS : Nx self66 x62 m s β) (hN : Nw m s μ) (hT : St m β μ) (hD : LD s μ) {i : Nat} (hi : (i : Int) < s 0 0) :
    Ok (fL_law_c1445 σ self66 (s 0 0) x61 x62 x63 (m : Int) (s 0 2) (s 0 1) (alS s) (cr s) (hold s 0) (i : Int) μ) := by
  have hf := fuel_lt
  obtain ⟨r, a1, a2⟩ := L_low (x := bshr x63 8) (n := 8) (μ := μ) (by omega)
  have a1' : fL_low (bshr x63 8) 8 μ = some (r : Int) := a1
  have er : w32 (1 + (r : Int)) = ((1 + r : Nat) : Int) := by
    rw [w32_i (by omega)]
    omega
  have c1 := C_row (r := 2) (n := 1 + r) (μ := μ) (by omega) (by omega)
  have c1' : fX1_row 2 ((1 + r : Nat) : Int) μ = some (((1 + r : Nat) : Int), filM (wr μ 8 2 ((1 + r : Nat) : Int)) 4 40 0) := c1
  generalize hρ : filM (wr μ 8 2 ((1 + r : Nat) : Int)) 4 40 0 = ρ at c1'
  have f1 : ∀ c l, ¬ c = 4 → ¬ (c = 8 ∧ l = 2) → ρ c l = μ c l := fun c l q1 q2 => by rw [← hρ, filM_ne (by omega), wr_ne (by omega)]
  have f2 : ρ 8 2 = ((1 + r : Nat) : Int) := by rw [← hρ, filM_ne (by omega), wr_at (by omega)]
  have hN1 : Nw m s ρ := by
    obtain ⟨n1, n2, n3⟩ := hN
    exact ⟨by rw [f1 _ _ (by omega) (by omega)]; exact n1, CB_congr n2 (fun c l hc => f1 _ _ (by omega) (by omega)), n3⟩
  have hT1 : St m β ρ := ⟨fun c l hc => by unfold stc at hc; rw [f1 _ _ (by omega) (by omega)]; exact hT.1 c l (by unfold stc; exact hc), fun r' hr => by
    by_cases e : r' = 2
    · rw [e, f2]
      omega
    · rw [f1 _ _ (by omega) (by omega)]
      exact hT.2 r' hr⟩
  have hD1 : LD s ρ := fun l hl => by rw [f1 _ _ (by omega) (by omega)]; exact hD l hl
  unfold fL_law_c1445 fL_law_c1476
  rw [a1', bd_some, er, mlet_e, c1', bnd2_some, if_pos rfl]
  clear er
  exact q_L1479 hB hS hi (by omega) (1 + r) 0 fuel ρ (by omega) (by omega) hN1 hT1 hD1 f2 (fun l hl => absurd hl (by omega))
end TURN
