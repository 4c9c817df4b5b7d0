/-! RAISING, SHAMING: what is told is enough, and no more than enough -/
theorem lft_spec {s : Mem} {i : Nat} : ∀ M k : Nat, (lftS s i 1 M k = -9 ∧ ∀ x : Nat, k ≤ x → x < k + M → ¬ hold (wr s 3 i (s 3 i + (x : Int))) 0 = (i : Int)) ∨ ∃ u : Nat, lftS s i 1 M k = (u : Int) ∧ k ≤ u ∧ u < k + M ∧ hold (wr s 3 i (s 3 i + (u : Int))) 0 = (i : Int) ∧ ∀ x : Nat, k ≤ x → x < u → ¬ hold (wr s 3 i (s 3 i + (x : Int))) 0 = (i : Int)
  | 0, k => Or.inl ⟨rfl, fun x h1 h2 => absurd h2 (by omega)⟩
  | M + 1, k => by
    have ew : whoS (wr s 3 i (s 3 i + (k : Int))) 1 = hold (wr s 3 i (s 3 i + (k : Int))) 0 := rfl
    rw [lftS, ew]
    by_cases q : hold (wr s 3 i (s 3 i + (k : Int))) 0 = (i : Int)
    · rw [if_pos q]
      exact Or.inr ⟨k, rfl, by omega, by omega, q, fun x h1 h2 => absurd h2 (by omega)⟩
    · rw [if_neg q]
      rcases lft_spec (s := s) (i := i) M (k + 1) with ⟨h1, h2⟩ | ⟨u, h1, h2, h3, h4, h5⟩
      · refine Or.inl ⟨h1, fun x h3 h4 => ?_⟩
        by_cases e : x = k
        · rw [e]; exact q
        · exact h2 x (by omega) (by omega)
      · refine Or.inr ⟨u, h1, by omega, by omega, h4, fun x h6 h7 => ?_⟩
        by_cases e : x = k
        · rw [e]; exact q
        · exact h5 x (by omega) h7
/-- what one would dare with another daring -/
def d3 (s : Mem) (d : Int) (j : Nat) : Int := dar (s 1 j) d (s 0 2) (far s j)
/-- the same river but for daring -/
def E3 (s t : Mem) : Prop := ∀ r k, ¬ r = 3 → t r k = s r k
theorem E3_by {s t : Mem} (h : E3 s t) (j : Nat) : byS t j = d3 s (t 3 j) j ∧ far t j = far s j := by
  have e1 : far t j = far s j := by
    unfold far
    rw [h 0 1 (by omega), h 2 j (by omega)]
  unfold byS d3
  rw [h 1 j (by omega), h 0 2 (by omega), e1]
  exact ⟨rfl, rfl⟩
theorem E3_wr {s : Mem} {i : Nat} {v : Int} : E3 s (wr s 3 i v) := fun r k h => wr_ne (by omega)
/-- yields j, with daring d, to one who dares so much -/
def yS (s : Mem) (i : Nat) (most : Int) (j : Nat) (d : Int) : Prop := d3 s d j < most ∨ (d3 s d j = most ∧ (far s i < far s j ∨ (far s i = far s j ∧ i < j)))
theorem sh_spec {s : Mem} {i j : Nat} {most : Int} : ∀ M k : Nat, shL s i most j M k = -9 ∨ ∃ x : Nat, shL s i most j M k = (x : Int) ∧ k ≤ x ∧ x < k + M ∧ yS s i most j (s 3 j - (x : Int))
  | 0, k => Or.inl rfl
  | M + 1, k => by
    rw [shL]
    by_cases q : yS s i most j (s 3 j - (k : Int))
    · rw [if_pos (by unfold yS d3 at q; exact q)]
      exact Or.inr ⟨k, rfl, by omega, by omega, q⟩
    · rw [if_neg (by unfold yS d3 at q; exact q)]
      rcases sh_spec (s := s) (i := i) (j := j) (most := most) M (k + 1) with h | ⟨x, h1, h2, h3, h4⟩
      · exact Or.inl h
      · exact Or.inr ⟨x, h1, by omega, by omega, h4⟩
theorem shr_spec {s : Mem} {i j : Nat} {u : Int} (hg : GB s) (hj : (j : Int) < s 0 0) (hne : ¬ j = i) : shr s i u j = -9 ∨ ∃ x : Nat, shr s i u j = (x : Int) ∧ (x : Int) ≤ s 3 j ∧ yS s i (mstS s i u) j (s 3 j - (x : Int)) := by
  have h3 := (tol_rng hg hj).2.2
  unfold shr
  rw [if_neg hne]
  rcases sh_spec (s := s) (i := i) (j := j) (most := mstS s i u) (s 3 j + 1).toNat 0 with h | ⟨x, h1, h2, h4, h5⟩
  · exact Or.inl h
  · exact Or.inr ⟨x, h1, by omega, h5⟩
theorem shr_0 {s : Mem} {i j : Nat} {u : Int} (hg : GB s) (hj : (j : Int) < s 0 0) (hne : ¬ j = i) (h : yS s i (mstS s i u) j (s 3 j)) : shr s i u j = 0 := by
  have h3 := (tol_rng hg hj).2.2
  unfold shr
  rw [if_neg hne]
  obtain ⟨M, hM⟩ : ∃ M, (s 3 j + 1).toNat = M + 1 := ⟨(s 3 j).toNat, by omega⟩
  rw [hM, shL]
  have h' : yS s i (mstS s i u) j (s 3 j - ((0 : Nat) : Int)) := by
    rw [show s 3 j - ((0 : Nat) : Int) = s 3 j by omega]
    exact h
  rw [if_pos (by unfold yS d3 at h'; exact h')]
  rfl
/-- the others' parts together -/
def smO (s : Mem) (i : Nat) (u : Int) : Nat → Int
  | 0 => 0
  | k + 1 => smO s i u k + (if k = i then 0 else shr s i u k)
theorem smO_pos {s : Mem} {i : Nat} {u : Int} (hg : GB s) (hu : 0 ≤ u ∧ u ≤ 20) : ∀ k : Nat, (k : Int) ≤ s 0 0 → (∀ j, j < k → ¬ shr s i u j = -9) → 0 ≤ smO s i u k ∧ ∀ j, j < k → ¬ j = i → shr s i u j ≤ smO s i u k
  | 0, _, _ => ⟨by unfold smO; omega, fun j hj => absurd hj (by omega)⟩
  | k + 1, hk, h => by
    obtain ⟨h1, h2⟩ := smO_pos (i := i) hg hu k (by omega) (fun j hj => h j (by omega))
    rcases shr_rng (i := i) (j := k) hg (by omega) hu with q | q
    · exact absurd q (h k (by omega))
    · rw [smO]
      refine ⟨by split <;> omega, fun j hj hne => ?_⟩
      by_cases e : j = k
      · subst e
        rw [if_neg hne]
        omega
      · have := h2 j (by omega) hne
        split <;> omega
theorem pcL_all {s : Mem} {i : Nat} {u : Int} (hg : GB s) (hu : 0 ≤ u ∧ u ≤ 20) : ∀ k : Nat, (k : Int) ≤ s 0 0 → (pcL s i u k = -9 ∧ ∃ j, j < k ∧ shr s i u j = -9) ∨ (pcL s i u k = u + smO s i u k ∧ ∀ j, j < k → ¬ shr s i u j = -9)
  | 0, _ => Or.inr ⟨by unfold pcL smO; omega, fun j hj => absurd hj (by omega)⟩
  | k + 1, hk => by
    rw [pcL, smO]
    rcases pcL_all (i := i) hg hu k (by omega) with ⟨h1, j, h2, h3⟩ | ⟨h1, h2⟩
    · rw [if_pos h1]
      exact Or.inl ⟨rfl, j, by omega, h3⟩
    · have hp := (smO_pos (i := i) hg hu k (by omega) h2).1
      rw [if_neg (by omega)]
      by_cases q : shr s i u k = -9
      · rw [if_pos q]
        exact Or.inl ⟨rfl, k, by omega, q⟩
      · rw [if_neg q]
        refine Or.inr ⟨by omega, fun j hj => ?_⟩
        by_cases e : j = k
        · rw [e]; exact q
        · exact h2 j (by omega)
/-- a price is paid: then one has the ford -/
theorem paid {s t : Mem} {i : Nat} {u : Int} (hg : GB s) (hgt : GB t) (hi : (i : Int) < s 0 0) (hu : 0 ≤ u) (hi3 : s 3 i + u ≤ 20) (hE : E3 s t) (hp : ¬ pcS s i u = -9) (h1 : t 3 i = s 3 i + u) (h2 : ∀ j : Nat, (j : Int) < s 0 0 → ¬ j = i → t 3 j = s 3 j - shr s i u j) : hold t 0 = (i : Int) := by
  have g0 := hg.1
  have hi20 := (tol_rng hg hi).2.2
  have e00 : t 0 0 = s 0 0 := hE 0 0 (by omega)
  unfold pcS at hp
  by_cases q : mstS s i u = 0
  · rw [if_pos q] at hp
    exact absurd rfl hp
  · rw [if_neg q] at hp
    rcases pcL_all (i := i) (u := u) hg ⟨hu, by omega⟩ (s 0 0).toNat (by omega) with ⟨h3, -⟩ | ⟨-, h4⟩
    · exact absurd h3 hp
    · refine (hold0_iff hgt (by rw [e00]; exact hi)).mpr ⟨?_, fun j hj hne => ?_⟩
      · have hb := byS_rng hgt (i := i) (by rw [e00]; exact hi)
        have eb : byS t i = mstS s i u := by
          rw [(E3_by hE i).1, h1]
          rfl
        rw [eb] at hb ⊢
        omega
      · rw [e00] at hj
        rcases shr_spec (i := i) (u := u) hg hj hne with h5 | ⟨x, h5, h6, h7⟩
        · exact absurd h5 (h4 j (by omega))
        · unfold BtS
          rw [(E3_by hE i).1, (E3_by hE i).2, (E3_by hE j).1, (E3_by hE j).2, h1, h2 j hj hne, h5]
          exact h7
/-- who is raised so that one has the ford: no other need be shamed -/
theorem pc_lift {s : Mem} {i : Nat} {u : Int} (hg : GB s) (hi : (i : Int) < s 0 0) (hu : 0 ≤ u) (hi3 : s 3 i + u ≤ 20) (h : hold (wr s 3 i (s 3 i + u)) 0 = (i : Int)) : pcS s i u = u := by
  have g0 := hg.1
  have hi20 := (tol_rng hg hi).2.2
  have hgt : GB (wr s 3 i (s 3 i + u)) := GB_wr3 hg (by omega)
  have hE : E3 s (wr s 3 i (s 3 i + u)) := E3_wr
  have e00 : wr s 3 i (s 3 i + u) 0 0 = s 0 0 := wr_ne (by omega)
  obtain ⟨h1, h2⟩ := (hold0_iff hgt (by rw [e00]; exact hi)).mp h
  have eb : byS (wr s 3 i (s 3 i + u)) i = mstS s i u := by
    rw [(E3_by hE i).1, wr_at (by omega)]
    rfl
  have hz : ∀ j : Nat, (j : Int) < s 0 0 → ¬ j = i → shr s i u j = 0 := fun j hj hne => by
    have h3 := h2 j (by rw [e00]; exact hj) hne
    unfold BtS at h3
    rw [eb, (E3_by hE i).2, (E3_by hE j).1, (E3_by hE j).2, wr_ne (by omega)] at h3
    exact shr_0 hg hj hne h3
  have hs : ∀ k : Nat, (k : Int) ≤ s 0 0 → smO s i u k = 0 := by
    intro k
    induction k with
    | zero => intro _; rfl
    | succ k ih =>
      intro hk
      rw [smO, ih (by omega)]
      by_cases e : k = i
      · rw [if_pos e]
        rfl
      · rw [if_neg e, hz k (by omega) e]
        rfl
  unfold pcS
  rw [if_neg (by omega)]
  rcases pcL_all (i := i) (u := u) hg ⟨hu, by omega⟩ (s 0 0).toNat (by omega) with ⟨h3, j, h4, h5⟩ | ⟨h3, -⟩
  · by_cases e : j = i
    · subst e
      unfold shr at h5
      rw [if_pos rfl] at h5
      omega
    · rw [hz j (by omega) e] at h5
      omega
  · rw [h3, hs _ (by omega)]
    omega
theorem ch_min {s : Mem} {i : Nat} : ∀ T k : Nat, k < T → ¬ pcS s i (k : Int) = -9 → ¬ (chR s i T).1 = -9 ∧ (chR s i T).1 ≤ pcS s i (k : Int)
  | 0, k, h, _ => absurd h (by omega)
  | T + 1, k, h, hp => by
    rw [chR]
    by_cases q : ¬ pcS s i (T : Int) = -9 ∧ ((chR s i T).1 = -9 ∨ pcS s i (T : Int) < (chR s i T).1)
    · rw [if_pos q]
      dsimp only
      refine ⟨q.1, ?_⟩
      by_cases e : k = T
      · rw [e]; exact Int.le_refl _
      · have h2 := ch_min T k (by omega) hp
        omega
    · rw [if_neg q]
      by_cases e : k = T
      · subst e
        omega
      · exact ch_min T k (by omega) hp
/-- the cheapest: none; or what it is -/
theorem ch_spec {s : Mem} {i : Nat} (hg : GB s) (hi : (i : Int) < s 0 0) : ((chR s i (tS' s i)).1 = -9 ∧ ∀ u : Int, 0 ≤ u → s 3 i + u ≤ 20 → pcS s i u = -9) ∨ ∃ u : Int, (0 ≤ u ∧ s 3 i + u ≤ 20) ∧ (chR s i (tS' s i)).2 = u ∧ (chR s i (tS' s i)).1 = u + smO s i u (s 0 0).toNat ∧ ¬ pcS s i u = -9 ∧ (∀ j : Nat, (j : Int) < s 0 0 → ¬ shr s i u j = -9) ∧ ∀ v : Int, 0 ≤ v → s 3 i + v ≤ 20 → ¬ pcS s i v = -9 → (chR s i (tS' s i)).1 ≤ pcS s i v := by
  have g0 := hg.1
  have hi20 := (tol_rng hg hi).2.2
  unfold tS'
  obtain ⟨T, hT⟩ : ∃ T : Nat, (21 - s 3 i).toNat = T := ⟨_, rfl⟩
  rw [hT]
  have hmin : ∀ v : Int, 0 ≤ v → s 3 i + v ≤ 20 → ¬ pcS s i v = -9 → ¬ (chR s i T).1 = -9 ∧ (chR s i T).1 ≤ pcS s i v := fun v h1 h2 h3 => by
    obtain ⟨k, rfl⟩ : ∃ k : Nat, v = (k : Int) := ⟨v.toNat, by omega⟩
    exact ch_min T k (by omega) h3
  rcases chR_ok (i := i) hg T (by omega) with h | ⟨h1, h2, h3, h4⟩
  · refine Or.inl ⟨h, fun u h1 h2 => ?_⟩
    by_cases q : pcS s i u = -9
    · exact q
    · exact absurd h (hmin u h1 h2 q).1
  · refine Or.inr ⟨(chR s i T).2, by omega, rfl, ?_, by omega, ?_, fun v a b c => (hmin v a b c).2⟩
    · have hp : ¬ pcS s i (chR s i T).2 = -9 := by omega
      have h5 := h4
      unfold pcS at h5 hp
      by_cases q : mstS s i (chR s i T).2 = 0
      · rw [if_pos q] at hp
        exact absurd rfl hp
      · rw [if_neg q] at h5 hp
        rcases pcL_all (i := i) (u := (chR s i T).2) hg ⟨h2, by omega⟩ (s 0 0).toNat (by omega) with ⟨h6, -⟩ | ⟨h6, -⟩
        · exact absurd h6 hp
        · omega
    · have hp : ¬ pcS s i (chR s i T).2 = -9 := by omega
      unfold pcS at hp
      by_cases q : mstS s i (chR s i T).2 = 0
      · rw [if_pos q] at hp
        exact absurd rfl hp
      · rw [if_neg q] at hp
        rcases pcL_all (i := i) (u := (chR s i T).2) hg ⟨h2, by omega⟩ (s 0 0).toNat (by omega) with ⟨h6, -⟩ | ⟨-, h7⟩
        · exact absurd h6 hp
        · exact fun j hj => h7 j (by omega)
theorem pow2_dec : ∀ a b : Fin 6, 2 ^ a.val = 2 ^ b.val → a = b := by decide
theorem bit_inj {x : Int} {i : Nat} (hi : i < 6) (hx : x = -9 ∨ ∃ j : Nat, x = (j : Int) ∧ j < 6) : bitS x = bshl 1 (i : Int) ↔ x = (i : Int) := by
  unfold bitS
  have ei : bshl 1 (i : Int) = ((2 ^ i : Nat) : Int) := bshl_p (by omega)
  constructor
  · intro h
    rcases hx with rfl | ⟨j, rfl, hj⟩
    · rw [if_pos (by omega), ei] at h
      have : 0 < 2 ^ i := Nat.pow_pos (by omega)
      omega
    · rw [if_neg (by omega), ei, bshl_p (by omega), tn_c] at h
      have := pow2_dec ⟨j, hj⟩ ⟨i, hi⟩ (by dsimp only; omega)
      have := Fin.mk.inj this
      omega
  · rintro rfl
    rw [if_neg (by omega)]
theorem hold_6 {s : Mem} (hg : GB s) : hold s 0 = -9 ∨ ∃ j : Nat, hold s 0 = (j : Int) ∧ j < 6 := by
  have g6 := hg.2.1
  rcases hold_rng (p := 0) hg with h | ⟨j, h1, h2⟩
  · exact Or.inl h
  · exact Or.inr ⟨j, h1, by omega⟩
