/-! reading a text: the model's side. The text f of n places lies in the cell 66 from b0 on; the reader's own: 60 12 from, 60 13 place, 60 14 end -/
def RD (f : Nat → Int) (n b0 p : Nat) (μ : Mem) : Prop := μ 60 12 = (b0 : Int) ∧ μ 60 13 = (p : Int) ∧ μ 60 14 = (n : Int) ∧ ∀ j, j < n → μ 66 (b0 + j) = f j
theorem RD_p {f : Nat → Int} {n b0 p q : Nat} {μ : Mem} (h : RD f n b0 p μ) : RD f n b0 q (wr μ 60 13 (q : Int)) := by
  obtain ⟨h1, h2, h3, h4⟩ := h
  exact ⟨by rw [wr_ne (by omega)]; exact h1, wr_at (by omega), by rw [wr_ne (by omega)]; exact h3, fun j hj => by rw [wr_ne (by omega)]; exact h4 j hj⟩
theorem e_here {f : Nat → Int} {n b0 p : Nat} {μ : Mem} (h : RD f n b0 p μ) (hb : b0 ≤ 180) (hn : n ≤ 60) (hp : p < n) : fX2_here μ = some (f p) := by
  obtain ⟨h1, h2, h3, h4⟩ := h
  have e : w32 (μ 60 12 + μ 60 13) = ((b0 + p : Nat) : Int) := by
    rw [h1, h2, w32_i (by omega)]
    omega
  have hc : 0 ≤ ((b0 + p : Nat) : Int) ∧ ((b0 + p : Nat) : Int) < 240 := by omega
  unfold fX2_here
  rw [e]
  simp only [grd, if_pos hc, tn_c]
  rw [h4 p hp]
theorem e_skip {f : Nat → Int} {n b0 : Nat} (hb : b0 ≤ 180) (hn : n ≤ 60) {p : Nat} {μ : Mem} (hp : p ≤ n) (h : RD f n b0 p μ) : fX2_skip μ = some (wr μ 60 13 ((sk f n p : Nat) : Int)) := by
  have hL : ∀ (m p N : Nat) (ν : Mem), m = n - p → p ≤ n → m < N → RD f n b0 p ν → fX2_skip_L0 N ν = some (wr ν 60 13 ((skS f n m p : Nat) : Int)) := by
    intro m
    induction m with
    | zero =>
      intro p N ν h1 h2 h3 h4
      obtain ⟨N, rfl⟩ : ∃ j, N = j + 1 := ⟨N - 1, by omega⟩
      rw [fX2_skip_L0, h4.2.1, h4.2.2.1, if_pos (by omega), skS, wr_id h4.2.1.symm]
    | succ m ih =>
      intro p N ν h1 h2 h3 h4
      obtain ⟨N, rfl⟩ : ∃ j, N = j + 1 := ⟨N - 1, by omega⟩
      rw [fX2_skip_L0, h4.2.1, h4.2.2.1, if_neg (by omega), e_here h4 hb hn (by omega), bd_some, skS]
      by_cases z : f p = 32
      · rw [if_neg (fun w => w z), if_pos z, mlet_e, w32_s (by omega), ih (p + 1) N _ (by omega) (by omega) (by omega) (RD_p h4), wr_wr]
      · rw [if_pos z, if_neg z, wr_id h4.2.1.symm]
  unfold fX2_skip
  have hf := fuel_lt
  generalize fuel = N at hf ⊢
  exact hL (n - p) p N μ rfl hp (by omega) h
theorem e_figure {f : Nat → Int} {n b0 p : Nat} {μ : Mem} (h : RD f n b0 p μ) (hb : b0 ≤ 180) (hn : n ≤ 60) (hp : p ≤ n) : (dgt f n p → fX2_figure μ = some (f p - 48, wr μ 60 13 ((p + 1 : Nat) : Int))) ∧ (¬ dgt f n p → fX2_figure μ = some (-9, μ)) := by
  refine ⟨fun z => ?_, fun z => ?_⟩
  · obtain ⟨d1, d2, d3⟩ := z
    have h' := RD_p (q := p + 1) h
    have e : w32 (w32 ((wr μ 60 13 ((p + 1 : Nat) : Int)) 60 12 + (wr μ 60 13 ((p + 1 : Nat) : Int)) 60 13) - 1) = ((b0 + p : Nat) : Int) := by
      rw [h'.1, h'.2.1, w32_i (z := (b0 : Int) + ((p + 1 : Nat) : Int)) (by omega), w32_i (by omega)]
      omega
    have hc : 0 ≤ ((b0 + p : Nat) : Int) ∧ ((b0 + p : Nat) : Int) < 240 := by omega
    have e2 : w32 (f p - 48) = f p - 48 := w32_i (by omega)
    have e3 : (wr μ 60 13 ((p + 1 : Nat) : Int)) 66 (b0 + p) = f p := h'.2.2.2 p d1
    unfold fX2_figure
    rw [h.2.1, h.2.2.1, if_neg (by omega), e_here h hb hn d1, bd_some, e_in, bd_some, if_pos (by rw [b01_t ⟨d2, d3⟩]; omega), mlet_e, w32_s (by omega), e]
    simp only [grd, if_pos hc, tn_c]
    rw [e3, e2]
  · unfold fX2_figure
    rw [h.2.1, h.2.2.1]
    by_cases z1 : p = n
    · rw [if_pos (by omega)]
    · rw [if_neg (by omega), e_here h hb hn (by omega), bd_some, e_in, bd_some, if_neg (by
        rw [b01_f (fun w => z ⟨by omega, w.1, w.2⟩)]
        omega)]
/-- people as the model's reader has them -/
def RP (s : Mem) (μ : Mem) : Prop := μ 60 17 = s 0 0 ∧ μ 60 15 = s 0 1 ∧ ∀ i : Nat, (i : Int) < s 0 0 → μ 68 (3 * i) = s 1 i ∧ μ 68 (3 * i + 1) = s 2 i ∧ μ 68 (3 * i + 2) = s 3 i
def rdc (c k : Nat) : Prop := c = 68 ∨ (c = 60 ∧ 12 ≤ k ∧ k ≤ 17)
theorem e_readsOne {f : Nat → Int} {n b0 p : Nat} {μ s : Mem} (h : RD f n b0 p μ) (hb : b0 ≤ 180) (hn : n ≤ 60) (hp : p < n) (hP : RP s μ) (hg : GB s) : Ev (fX2_readsOne μ) fun q => (fltS f n (s 0 0) p = -9 → q.1 = 1 ∧ RD f n b0 (p + 4) q.2 ∧ RP (nxS f s p) q.2) ∧ (¬ fltS f n (s 0 0) p = -9 → q.1 = 0 ∧ q.2 60 13 = fltS f n (s 0 0) p) ∧ ∀ c k, ¬ rdc c k → q.2 c k = μ c k := by
  have g0 := hg.1
  have g6 := hg.2.1
  obtain ⟨r, hr⟩ : ∃ r : Nat, s 0 0 = (r : Int) := ⟨(s 0 0).toNat, by omega⟩
  have hr6 : r ≤ 6 := by omega
  have e17 : μ 60 17 = (r : Int) := by rw [hP.1, hr]
  have e3r : w32 (3 * (r : Int)) = ((3 * r : Nat) : Int) := by rw [w32_i (by omega)]; omega
  have fr0 : ∀ (ν : Mem) (q : Nat) (c k : Nat), ¬ rdc c k → wr ν 60 13 (q : Int) c k = ν c k := fun ν q c k hk => by
    unfold rdc at hk
    exact wr_ne (by omega)
  unfold fX2_readsOne fltS
  rw [e17, e3r, mlet_e, e_here h hb hn hp, bd_some, e_kindL, bd_some, hr]
  clear e3r
  by_cases z1 : kof (f p) = -9
  · rw [if_pos z1, if_pos (Or.inl z1)]
    refine ev_some.mpr ?_
    dsimp only
    exact ⟨fun w => absurd w (by omega), fun _ => ⟨rfl, h.2.1⟩, fun _ _ _ => rfl⟩
  · rw [if_neg z1]
    by_cases z2 : r = 6
    · rw [if_neg (by omega), if_pos (Or.inr (by omega))]
      refine ev_some.mpr ?_
      dsimp only
      exact ⟨fun w => absurd w (by omega), fun _ => ⟨rfl, h.2.1⟩, fun _ _ _ => rfl⟩
    · rw [if_pos (by omega), if_neg (show ¬ (kof (f p) = -9 ∨ (r : Int) = 6) from fun w => by rcases w with w | w; exact z1 w; omega), mlet_e, h.2.1, w32_s (by omega)]
      have h1 := RD_p (q := p + 1) h
      obtain ⟨a1, a2⟩ := e_figure h1 hb hn (by omega)
      obtain ⟨f1, f2, f3, f4⟩ := fl3_eq f n (p + 1)
      by_cases y1 : dgt f n (p + 1)
      · rw [a1 y1, wr_wr, bnd2_some]
        have d1 := y1
        obtain ⟨d11, d12, d13⟩ := d1
        have h2 := RD_p (q := p + 1 + 1) h
        obtain ⟨a3, a4⟩ := e_figure h2 hb hn (by omega)
        have hten : ¬ f (p + 1) - 48 = -9 := by omega
        rw [mlet_e, if_pos hten]
        unfold fX2_twoFigures
        rw [wr_at (by omega)]
        simp only [mlet_e]
        by_cases y2 : dgt f n (p + 2)
        · rw [a3 y2, wr_wr, bnd2_some]
          obtain ⟨d21, d22, d23⟩ := id y2
          have h3 := RD_p (q := p + 1 + 1 + 1) h
          obtain ⟨a5, a6⟩ := e_figure h3 hb hn (by omega)
          have h10 : ¬ f (p + 1 + 1) - 48 = -9 := by
            rw [show p + 1 + 1 = p + 2 from rfl]
            omega
          rw [if_pos h10]
          by_cases y3 : dgt f n (p + 3)
          · have ef : fl3 f n (p + 1) = -9 := f4 y1 y2 y3
            rw [if_pos ef]
            obtain ⟨d31, d32, d33⟩ := id y3
            rw [a5 y3, wr_wr, bnd2_some]
            rw [show p + 1 + 1 + 1 = p + 3 from rfl, show p + 1 + 1 = p + 2 from rfl]
            have hon : ¬ f (p + 3) - 48 = -9 := by omega
            have ev : w32 (w32 (10 * (f (p + 2) - 48)) + (f (p + 3) - 48)) = 10 * (f (p + 2) - 48) + (f (p + 3) - 48) := by
              rw [w32_i (z := 10 * (f (p + 2) - 48)) (by omega), w32_i (by omega)]
            rw [if_pos hon, ev]
            clear ev
            by_cases y4 : 20 < 10 * (f (p + 2) - 48) + (f (p + 3) - 48)
            · rw [if_neg (by omega), if_pos y4, wr_wr, bnd2_some, if_neg (by omega)]
              refine ev_some.mpr ?_
              dsimp only
              exact ⟨fun w => absurd w (by omega), fun _ => ⟨rfl, wr_at ⟨rfl, rfl⟩⟩, fr0 _ _⟩
            · rw [if_pos (by omega), if_neg y4, bnd2_some, if_pos (by omega)]
              have c0 : 0 ≤ ((3 * r : Nat) : Int) ∧ ((3 * r : Nat) : Int) < 18 := by omega
              have c1 : 0 ≤ ((3 * r + 1 : Nat) : Int) ∧ ((3 * r + 1 : Nat) : Int) < 18 := by omega
              have c2 : 0 ≤ ((3 * r + 2 : Nat) : Int) ∧ ((3 * r + 2 : Nat) : Int) < 18 := by omega
              have x1 : w32 (((3 * r : Nat) : Int) + 1) = ((3 * r + 1 : Nat) : Int) := w32_s (by omega)
              have x2 : w32 (((3 * r : Nat) : Int) + 2) = ((3 * r + 2 : Nat) : Int) := by rw [w32_i (by omega)]; omega
              rw [x1, x2]
              clear x1 x2
              simp only [grd, if_pos c0, if_pos c1, if_pos c2, tn_c]
              have e17' : wr (wr (wr (wr μ 60 13 ((p + 1 + 1 + 1 + 1 : Nat) : Int)) 68 (3 * r) (kof (f p))) 68 (3 * r + 1) (f (p + 1) - 48)) 68 (3 * r + 2) (10 * (f (p + 2) - 48) + (f (p + 3) - 48)) 60 17 = (r : Int) := by
                rw [wr_ne (by omega), wr_ne (by omega), wr_ne (by omega), wr_ne (by omega), e17]
              rw [show p + 3 + 1 = p + 1 + 1 + 1 + 1 from rfl, e17', w32_s (by omega)]
              refine ev_some.mpr ?_
              dsimp only
              refine ⟨fun _ => ⟨rfl, ?_, ?_⟩, fun w => absurd trivial w, fun c k hk => ?_⟩
              · obtain ⟨t1, t2, t3, t4⟩ := RD_p (q := p + 4) h
                refine ⟨?_, ?_, ?_, fun j hj => ?_⟩
                · rw [wr_ne (by omega), wr_ne (by omega), wr_ne (by omega), wr_ne (by omega)]; exact t1
                · rw [wr_ne (by omega), wr_ne (by omega), wr_ne (by omega), wr_ne (by omega)]; exact t2
                · rw [wr_ne (by omega), wr_ne (by omega), wr_ne (by omega), wr_ne (by omega)]; exact t3
                · rw [wr_ne (by omega), wr_ne (by omega), wr_ne (by omega), wr_ne (by omega)]; exact t4 j hj
              · unfold nxS
                refine ⟨?_, ?_, fun i hi => ?_⟩
                · rw [adS_00, wr_at (by omega), hr]
                  omega
                · rw [adS_01, wr_ne (by omega), wr_ne (by omega), wr_ne (by omega), wr_ne (by omega), wr_ne (by omega)]
                  exact hP.2.1
                · rw [adS_00] at hi
                  by_cases ei : (i : Int) = s 0 0
                  · obtain ⟨b1, b2, b3, -⟩ := adS_n s (kof (f p)) (f (p + 1) - 48) (10 * (f (p + 2) - 48) + (f (p + 3) - 48)) ei
                    rw [b1, b2, b3]
                    obtain rfl : i = r := by omega
                    refine ⟨?_, ?_, ?_⟩
                    · rw [wr_ne (by omega), wr_ne (by omega), wr_ne (by omega), wr_at (by omega)]
                    · rw [wr_ne (by omega), wr_ne (by omega), wr_at (by omega)]
                    · rw [wr_ne (by omega), wr_at (by omega)]
                  · obtain ⟨b1, b2, b3⟩ := hP.2.2 i (by omega)
                    rw [adS_o _ _ _ _ (by omega) ei, adS_o _ _ _ _ (by omega) ei, adS_o _ _ _ _ (by omega) ei]
                    refine ⟨?_, ?_, ?_⟩
                    · rw [wr_ne (by omega), wr_ne (by omega), wr_ne (by omega), wr_ne (by omega), wr_ne (by omega)]; exact b1
                    · rw [wr_ne (by omega), wr_ne (by omega), wr_ne (by omega), wr_ne (by omega), wr_ne (by omega)]; exact b2
                    · rw [wr_ne (by omega), wr_ne (by omega), wr_ne (by omega), wr_ne (by omega), wr_ne (by omega)]; exact b3
              · unfold rdc at hk
                rw [wr_ne (by omega), wr_ne (by omega), wr_ne (by omega), wr_ne (by omega), wr_ne (by omega)]
          · have ef : fl3 f n (p + 1) = ((p + 3 : Nat) : Int) := f3 y1 y2 y3
            rw [if_neg (show ¬ fl3 f n (p + 1) = -9 by omega), ef, a6 y3]
            simp only [bnd2_some, not_true_eq_false, if_false]
            refine ev_some.mpr ?_
            dsimp only
            exact ⟨fun w => absurd w (by omega), fun _ => ⟨rfl, wr_at ⟨rfl, rfl⟩⟩, fr0 _ _⟩
        · have ef : fl3 f n (p + 1) = ((p + 2 : Nat) : Int) := f2 y1 y2
          rw [if_neg (show ¬ fl3 f n (p + 1) = -9 by omega), ef, a4 y2]
          simp only [bnd2_some, not_true_eq_false, if_false]
          refine ev_some.mpr ?_
          dsimp only
          exact ⟨fun w => absurd w (by omega), fun _ => ⟨rfl, wr_at ⟨rfl, rfl⟩⟩, fr0 _ _⟩
      · have ef : fl3 f n (p + 1) = ((p + 1 : Nat) : Int) := f1 y1
        rw [if_neg (show ¬ fl3 f n (p + 1) = -9 by omega), ef, a2 y1]
        simp only [bnd2_some, mlet_e, not_true_eq_false, if_false]
        refine ev_some.mpr ?_
        dsimp only
        exact ⟨fun w => absurd w (by omega), fun _ => ⟨rfl, wr_at ⟨rfl, rfl⟩⟩, fr0 _ _⟩
