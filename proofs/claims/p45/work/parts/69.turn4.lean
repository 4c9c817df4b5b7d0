/-! A TURN, raising and shaming as told -/
/-- the river behind the first k people's parts -/
def mdS (s : Mem) (i : Nat) (u : Int) (k : Nat) : Mem := fun r c => if r = 3 ∧ c < k then (if c = i then s 3 c + u else s 3 c - shr s i u c) else s r c
def tgt (s : Mem) (i : Nat) (u : Int) (k : Nat) : Int := if k = i then s 3 k + u else s 3 k - shr s i u k
theorem md_0 (s : Mem) (i : Nat) (u : Int) : mdS s i u 0 = s := by
  funext r c
  unfold mdS
  rw [if_neg (by omega)]
theorem md_s (s : Mem) (i : Nat) (u : Int) (k : Nat) : wr (mdS s i u k) 3 k (tgt s i u k) = mdS s i u (k + 1) := by
  funext r c
  by_cases e : r = 3 ∧ c = k
  · obtain ⟨rfl, rfl⟩ := e
    rw [wr_at (by omega)]
    unfold mdS tgt
    rw [if_pos (show 3 = 3 ∧ c < c + 1 by omega)]
  · rw [wr_ne e]
    unfold mdS
    by_cases q : r = 3 ∧ c < k
    · rw [if_pos q, if_pos (show r = 3 ∧ c < k + 1 by omega)]
    · rw [if_neg q, if_neg (show ¬ (r = 3 ∧ c < k + 1) by omega)]
theorem md_k (s : Mem) (i : Nat) (u : Int) (k : Nat) : mdS s i u k 3 k = s 3 k := by
  unfold mdS
  rw [if_neg (by omega)]
theorem md_E (s : Mem) (i : Nat) (u : Int) (k : Nat) : E3 s (mdS s i u k) := fun r c h => by
  unfold mdS
  rw [if_neg (by omega)]
/-- all parts of the row together -/
def rsS (s : Mem) (i : Nat) (u : Int) : Nat → Int
  | 0 => 0
  | k + 1 => rsS s i u k + shr s i u k
theorem rsS_sm (s : Mem) (i : Nat) (u : Int) : ∀ k, rsS s i u k = smO s i u k + (if i < k then u else 0)
  | 0 => by
    unfold rsS smO
    rw [if_neg (by omega)]
    rfl
  | k + 1 => by
    rw [rsS, smO, rsS_sm s i u k]
    by_cases e : k = i
    · subst e
      have : shr s k u k = u := by
        unfold shr
        rw [if_pos rfl]
      rw [this, if_neg (by omega), if_pos rfl, if_pos (by omega)]
    · rw [if_neg e]
      by_cases q : i < k
      · rw [if_pos q, if_pos (by omega)]
        omega
      · rw [if_neg q, if_neg (by omega)]
        omega
theorem Nw_63 {n k : Nat} {s μ : Mem} {v : Int} (h : Nw n s μ) : Nw n s (wr μ 63 k v) := Nw_far h (fun c k' hc => wr_ne (by omega))
theorem q_raise {K : Int → Mem → Option (Int × Mem)} {i k m : Nat} {t μ0 : Mem} {T : Int} (hk : (k : Int) < t 0 0) (hki : k = i) (k6 : k < 6) (hm : m ≤ 12) (hT : T ≤ 20) (hK : ∀ (ν : Mem) (a : Nat), 9 * a ≤ 27 * (k + 1) → Nw (m + a) (wr t 3 k T) ν → Fdd m μ0 ν → Ok (K (a : Int) ν)) :
    ∀ (N r a : Nat) (v : Int) (ν : Mem), r < N → v + (r : Int) = T → 9 * a + r ≤ 27 * (k + 1) → Nw (m + a) (wr t 3 k v) ν → Fdd m μ0 ν → Ok (fL_law_L1327 K (k : Int) (i : Int) N (a : Int) (r : Int) ν) := by
  intro N
  induction N with
  | zero => intro r a v ν h; omega
  | succ N ih =>
    intro r a v ν h1 h2 h3 hN hF
    rw [fL_law_L1327]
    by_cases q : (r : Int) ≤ 0
    · rw [if_pos q]
      have ev : v = T := by omega
      subst ev
      exact hK ν a (by omega) hN hF
    · rw [if_neg q]
      have e3 : wr t 3 k v 3 k = v := wr_at (by omega)
      have e0 : wr t 3 k v 0 0 = t 0 0 := wr_ne (by omega)
      have step : ∀ y : Nat, 1 ≤ y → y ≤ 9 → y ≤ r → 9 * (a + 1) + (r - y) ≤ 27 * (k + 1) → Ok (bnd2 (fX1_raise (k : Int) (y : Int) ν) fun x776 μ777 => if 0 ≤ x776 then fL_law_L1327 K (k : Int) (i : Int) N (w32 ((a : Int) + 1)) (w32 ((r : Int) - (y : Int))) μ777 else some (0, μ777)) := by
        intro y y1 y2 y3 y4
        have g3 := (tol_rng hN.2.2 (i := k) (by rw [e0]; exact hk)).2.2
        rw [e3] at g3
        obtain ⟨ν1, a1, a2, a3, a4⟩ := C_raise (y := y) hN (by omega) (by rw [e0]; exact hk) ⟨y1, y2⟩ (by rw [e3]; omega)
        rw [e3] at a1 a2
        rw [wr_wr] at a2
        have ew : w32 ((r : Int) - (y : Int)) = ((r - y : Nat) : Int) := by
          rw [w32_i (by omega)]
          omega
        rw [a1, bnd2_some, if_pos (by omega), w32_s (by omega), ew]
        clear ew
        exact ih (r - y) (a + 1) (v + (y : Int)) ν1 (by omega) (by omega) y4 a2 (Fdd_t hF (by omega) a4)
      simp only [mlet_e]
      have eki : ¬ ¬ (k : Int) = (i : Int) := by omega
      by_cases q9 : (r : Int) ≤ 9
      · rw [if_pos q9, if_neg eki]
        exact step r (by omega) (by omega) (by omega) (by omega)
      · rw [if_neg q9, if_neg eki]
        exact step 9 (by omega) (by omega) (by omega) (by omega)
theorem q_shame {K : Int → Mem → Option (Int × Mem)} {i k m : Nat} {t μ0 : Mem} {T : Int} (hk : (k : Int) < t 0 0) (hki : ¬ k = i) (k6 : k < 6) (hm : m ≤ 12) (hT : 0 ≤ T) (hK : ∀ (ν : Mem) (a : Nat), 9 * a ≤ 27 * (k + 1) → Nw (m + a) (wr t 3 k T) ν → Fdd m μ0 ν → Ok (K (a : Int) ν)) :
    ∀ (N r a : Nat) (v : Int) (ν : Mem), r < N → v - (r : Int) = T → 9 * a + r ≤ 27 * (k + 1) → Nw (m + a) (wr t 3 k v) ν → Fdd m μ0 ν → Ok (fL_law_L1327 K (k : Int) (i : Int) N (a : Int) (r : Int) ν) := by
  intro N
  induction N with
  | zero => intro r a v ν h; omega
  | succ N ih =>
    intro r a v ν h1 h2 h3 hN hF
    rw [fL_law_L1327]
    by_cases q : (r : Int) ≤ 0
    · rw [if_pos q]
      have ev : v = T := by omega
      subst ev
      exact hK ν a (by omega) hN hF
    · rw [if_neg q]
      have e3 : wr t 3 k v 3 k = v := wr_at (by omega)
      have e0 : wr t 3 k v 0 0 = t 0 0 := wr_ne (by omega)
      have step : ∀ y : Nat, 1 ≤ y → y ≤ 9 → y ≤ r → 9 * (a + 1) + (r - y) ≤ 27 * (k + 1) → Ok (bnd2 (fX1_shame (k : Int) (y : Int) ν) fun x776 μ777 => if 0 ≤ x776 then fL_law_L1327 K (k : Int) (i : Int) N (w32 ((a : Int) + 1)) (w32 ((r : Int) - (y : Int))) μ777 else some (0, μ777)) := by
        intro y y1 y2 y3 y4
        obtain ⟨ν1, a1, a2, a3, a4⟩ := C_shame (y := y) hN (by omega) (by rw [e0]; exact hk) ⟨y1, y2⟩ (by rw [e3]; omega)
        rw [e3] at a1 a2
        rw [wr_wr] at a2
        have ew : w32 ((r : Int) - (y : Int)) = ((r - y : Nat) : Int) := by
          rw [w32_i (by omega)]
          omega
        rw [a1, bnd2_some, if_pos (by omega), w32_s (by omega), ew]
        clear ew
        exact ih (r - y) (a + 1) (v - (y : Int)) ν1 (by omega) (by omega) y4 a2 (Fdd_t hF (by omega) a4)
      simp only [mlet_e]
      have eki : ¬ (k : Int) = (i : Int) := by omega
      by_cases q9 : (r : Int) ≤ 9
      · rw [if_pos q9, if_pos eki]
        exact step r (by omega) (by omega) (by omega) (by omega)
      · rw [if_neg q9, if_pos eki]
        exact step 9 (by omega) (by omega) (by omega) (by omega)
section TURN
variable {σ : Scr} {self66 : Int → Mem → Option (Int × Mem)} {s0 s β μ : Mem} {m : Nat} {x61 x62 x63 : Int}
theorem q_c1398_no (hB : BF s0 m s β) (hS : Nx self66 x62 m s β) (hN : Nw m s μ) (hT : St m β μ) (hD : LD s μ) {i : Nat} (hi : (i : Int) < s 0 0) {a g : Int} :
    Ok (fL_law_c1398 σ self66 (s 0 0) x61 x62 x63 (m : Int) (s 0 2) (s 0 1) (alS s) (cr s) (hold s 0) (i : Int) a (-9) g μ) := by
  unfold fL_law_c1398
  rw [if_pos (by omega)]
  exact q_c1445 hB hS hN hT hD hi
theorem q_c1398 (hB : BF s0 m s β) (hS : Nx self66 x62 m s β) {t : Mem} {a : Nat} (ha : a ≤ 18) (hN : Nw (m + a) t μ) (hT : St m β μ) (hD : LD s μ) {i : Nat} (hi : (i : Int) < s 0 0) (ht : t 0 0 = s 0 0) (hh : hold t 0 = (i : Int)) {c : Int} (hc : 0 ≤ c) :
    Ok (fL_law_c1398 σ self66 (s 0 0) x61 x62 x63 (m : Int) (s 0 2) (s 0 1) (alS s) (cr s) (hold s 0) (i : Int) (a : Int) c c μ) := by
  obtain ⟨hg, g1, g6⟩ := BF_g hB
  have m12 : m ≤ 12 := hB.2.1.2
  obtain ⟨ν, a1, a2, a3, a4⟩ := B_undo hB hN (by omega) (by omega) hT
  have eb : bitS (hold t 0) = bshl 1 (i : Int) := by
    rw [hh]
    unfold bitS
    rw [if_neg (by omega)]
  unfold fL_law_c1398
  rw [if_neg (by omega), if_neg (fun w => w rfl), C_cnt4 hN, bd_some, eb, if_neg (fun w => w rfl), a1, bnd2_some, if_neg (by omega), C_cnt5 a2, bd_some, if_pos rfl]
  exact q_c1445 hB hS a2 a3 (LD_d hD a4) hi
theorem q_L1220 (hB : BF s0 m s β) (hS : Nx self66 x62 m s β) {i : Nat} (hi : (i : Int) < s 0 0) {u c : Int} (hu : 0 ≤ u ∧ s 3 i + u ≤ 20) (hp : ¬ pcS s i u = -9) (hsh : ∀ j : Nat, (j : Int) < s 0 0 → ¬ shr s i u j = -9) (hc0 : 0 ≤ c) (hc : c = rsS s i u (nS s)) :
    ∀ (j k N : Nat) (a : Nat) (μ : Mem), k + j = nS s → j < N → a ≤ 3 * k → Nw (m + a) (mdS s i u k) μ → St m β μ → LD s μ → μ 8 1 = s 0 0 → (∀ l : Nat, (l : Int) < s 0 0 → μ 3 l = shr s i u l) →
    Ok (fL_law_L1220 (s 0 0) σ self66 x61 x62 x63 (m : Int) (s 0 2) (s 0 1) (alS s) (cr s) (hold s 0) (i : Int) c N (a : Int) (rsS s i u k) (k : Int) μ) := by
  obtain ⟨hg, g1, g6⟩ := BF_g hB
  have m12 : m ≤ 12 := hB.2.1.2
  have hi20 := (tol_rng hg hi).2.2
  have hn : (nS s : Int) = s 0 0 := by unfold nS; omega
  have hf := fuel_lt
  intro j
  induction j with
  | zero =>
    intro k N a μ e1 e2 ha hN hT hD h8 h3
    obtain ⟨N, rfl⟩ : ∃ j, N = j + 1 := ⟨N - 1, by omega⟩
    obtain rfl : k = nS s := by omega
    rw [fL_law_L1220, if_pos (by omega), ← hc]
    refine q_c1398 hB hS (by omega) hN hT hD hi (md_E s i u _ 0 0 (by omega)) (paid hg hN.2.2 hi hu.1 hu.2 (md_E s i u _) hp ?_ (fun l hl hne => ?_)) hc0
    · unfold mdS
      rw [if_pos (show 3 = 3 ∧ i < nS s by omega), if_pos rfl]
    · unfold mdS
      rw [if_pos (show 3 = 3 ∧ l < nS s by omega), if_neg hne]
  | succ j ih =>
    intro k N a μ e1 e2 ha hN hT hD h8 h3
    obtain ⟨N, rfl⟩ : ∃ j, N = j + 1 := ⟨N - 1, by omega⟩
    have hk : (k : Int) < s 0 0 := by omega
    have k6 : k < 6 := by omega
    have hk20 := (tol_rng hg hk).2.2
    obtain ⟨n, hn2⟩ : ∃ n : Nat, s 0 0 = (n : Int) := ⟨(s 0 0).toNat, by omega⟩
    have c1 := C_at (r := 1) (i := k) (n := n) (μ := μ) (by omega) (by rw [h8, hn2]) (by omega) (by omega)
    have c1' : fX1_at 1 (k : Int) μ = some (1, wr μ 0 11 (shr s i u k)) := by
      rw [← h3 k hk]
      exact c1
    rcases shr_rng (i := i) (j := k) (u := u) hg hk ⟨hu.1, by omega⟩ with q | q
    · exact absurd q (hsh k hk)
    obtain ⟨R, hR⟩ : ∃ R : Nat, shr s i u k = (R : Int) := ⟨(shr s i u k).toNat, by omega⟩
    have hrs : 0 ≤ rsS s i u k ∧ rsS s i u k ≤ 200 := by
      have : ∀ l : Nat, (l : Int) ≤ s 0 0 → 0 ≤ rsS s i u l ∧ rsS s i u l ≤ 20 * l := by
        intro l
        induction l with
        | zero => intro _; unfold rsS; omega
        | succ l ih2 =>
          intro hl
          have h5 := ih2 (by omega)
          rcases shr_rng (i := i) (j := l) (u := u) hg (by omega) ⟨hu.1, by omega⟩ with q2 | q2
          · exact absurd q2 (hsh l (by omega))
          · rw [rsS]
            omega
      have := this k (by omega)
      omega
    generalize hρ : wr (wr μ 0 11 (shr s i u k)) 63 k (shr s i u k) = ρ
    have f1 : ∀ c l, ¬ c = 63 → ¬ (c = 0 ∧ l = 11) → ρ c l = μ c l := fun c l q1 q2 => by rw [← hρ, wr_ne (by omega), wr_ne (by omega)]
    have f63 : ρ 63 k = (R : Int) := by rw [← hρ, wr_at (by omega), hR]
    have f62 : ρ 62 k = s 3 k := by rw [f1 _ _ (by omega) (by omega)]; exact hD k hk
    have hN1 : Nw (m + a) (wr (mdS s i u k) 3 k (s 3 k)) ρ := by
      rw [wr_id (by rw [md_k])]
      obtain ⟨n1, n2, n3⟩ := hN
      exact ⟨by rw [f1 _ _ (by omega) (by omega)]; exact n1, CB_congr n2 (fun c l hc => f1 _ _ (by omega) (by omega)), n3⟩
    have e00 : mdS s i u k 0 0 = s 0 0 := md_E s i u k 0 0 (by omega)
    -- behind the inner loop
    have next : ∀ (ν : Mem) (a' : Nat), 9 * a' ≤ 27 * (k + 1) → Nw (m + a') (wr (mdS s i u k) 3 k (tgt s i u k)) ν → Fdd m ρ ν → Ok (fL_law_L1220 (s 0 0) σ self66 x61 x62 x63 (m : Int) (s 0 2) (s 0 1) (alS s) (cr s) (hold s 0) (i : Int) c N (a' : Int) (w32 (rsS s i u k + (R : Int))) (w32 ((k : Int) + 1)) ν) := by
      intro ν a' h1 h2 h4
      rw [md_s] at h2
      have f2 : ∀ c l, ¬ c = 63 → ¬ c = 0 → ¬ (20 ≤ c ∧ c ≤ 29) → ¬ (c = 30 ∧ m ≤ l) → ¬ (36 ≤ c ∧ c ≤ 59) → ν c l = μ c l := fun c l q1 q2 q3 q4 q5 => by rw [h4 _ _ q2 q3 q4 q5, f1 _ _ q1 (by omega)]
      have ih' := ih (k + 1) N a' ν (by omega) (by omega) (by omega) h2 ⟨fun c l hc => by unfold stc at hc; rw [f2 _ _ (by omega) (by omega) (by omega) (by omega) (by omega)]; exact hT.1 c l (by unfold stc; exact hc), fun r hr => by rw [f2 _ _ (by omega) (by omega) (by omega) (by omega) (by omega)]; exact hT.2 r hr⟩ (fun l hl => by rw [f2 _ _ (by omega) (by omega) (by omega) (by omega) (by omega)]; exact hD l hl) (by rw [f2 _ _ (by omega) (by omega) (by omega) (by omega) (by omega)]; exact h8) (fun l hl => by rw [f2 _ _ (by omega) (by omega) (by omega) (by omega) (by omega)]; exact h3 l hl)
      rw [rsS, hR] at ih'
      rw [w32_s (by omega), w32_i (by omega)]
      exact ih'
    have inner : ∀ (K : Int → Mem → Option (Int × Mem)), (∀ (ν : Mem) (a' : Nat), K (a' : Int) ν = fL_law_L1220 (s 0 0) σ self66 x61 x62 x63 (m : Int) (s 0 2) (s 0 1) (alS s) (cr s) (hold s 0) (i : Int) c N (a' : Int) (w32 (rsS s i u k + (R : Int))) (w32 ((k : Int) + 1)) ν) → ∀ M, 30 < M → Ok (fL_law_L1327 K (k : Int) (i : Int) M (a : Int) (R : Int) ρ) := by
      intro K hK M hM
      have next' : ∀ (ν : Mem) (a' : Nat), 9 * a' ≤ 27 * (k + 1) → Nw (m + a') (wr (mdS s i u k) 3 k (tgt s i u k)) ν → Fdd m ρ ν → Ok (K (a' : Int) ν) := fun ν a' h1 h2 h4 => by
        rw [hK]
        exact next ν a' h1 h2 h4
      clear next hK
      by_cases e : k = i
      · refine q_raise (m := m) (t := mdS s i u k) (μ0 := ρ) (T := tgt s i u k) (by rw [e00]; exact hk) e k6 m12 ?_ next' M R a (s 3 k) ρ (by omega) ?_ (by omega) hN1 (Fdd_r m ρ)
        · unfold tgt
          rw [if_pos e, e]
          exact hu.2
        · unfold tgt
          rw [if_pos e, ← hR]
          unfold shr
          rw [if_pos e]
      · have hsp := shr_spec (i := i) (u := u) hg hk e
        refine q_shame (m := m) (t := mdS s i u k) (μ0 := ρ) (T := tgt s i u k) (by rw [e00]; exact hk) e k6 m12 ?_ next' M R a (s 3 k) ρ (by omega) ?_ (by omega) hN1 (Fdd_r m ρ)
        · unfold tgt
          rw [if_neg e]
          rcases hsp with h5 | ⟨x, h5, h6, -⟩
          · exact absurd h5 (hsh k hk)
          · rw [h5]
            omega
        · unfold tgt
          rw [if_neg e, ← hR]
    rw [fL_law_L1220, if_neg (by omega), if_neg (by omega), c1', bnd2_some, mlet_e, if_neg (fun w => w rfl)]
    unfold fX1_asked
    have r6 : 0 ≤ (k : Int) ∧ (k : Int) < 6 := by omega
    rw [bd_some, wr_at (by omega)]
    simp only [mlet_e, grd, if_pos r6, tn_c, hρ, f63, f62]
    rw [if_neg (show ¬ (R : Int) < 0 by omega)]
    by_cases e : k = i
    · have eR : (R : Int) = u := by
        rw [← hR]
        unfold shr
        rw [if_pos e]
      have e9 : ¬ 20 < w32 (s 3 k + (R : Int)) := by
        rw [w32_i (by omega), eR, e]
        omega
      rw [if_neg (by omega), if_neg e9, if_pos (by omega)]
      refine inner _ ?_ fuel (by omega)
      exact fun _ _ => rfl
    · have hsp := shr_spec (i := i) (u := u) hg hk e
      rw [if_pos (by omega), if_neg (by omega)]
      rcases hsp with h5 | ⟨x, h5, h6, -⟩
      · exact absurd h5 (hsh k hk)
      · rw [if_pos (by omega)]
        refine inner _ ?_ fuel (by omega)
        exact fun _ _ => rfl
end TURN
