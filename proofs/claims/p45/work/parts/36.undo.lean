/-! undo, keep, on -/
theorem e_again_L {n : Nat} {h : Nat → Mem} (hn : n ≤ 40) (hg : ∀ d, d ≤ n → GB (h d)) : ∀ (m k N : Nat) (μ : Mem), k + m = n → m < N → μ 0 8 = (n : Int) → (∀ d, d < n → h (d + 1) = und (h d) (μ 30 d)) → CB 20 μ (h k) → Ev (fX1_performAgain_L13 N (k : Int) μ) fun μ' => CB 20 μ' (h n) ∧ ∀ c k, c < 20 ∨ 24 < c → μ' c k = μ c k := by
  intro m
  induction m with
  | zero =>
    intro k N μ h1 h2 h3 h4 h5
    obtain ⟨N, rfl⟩ : ∃ j, N = j + 1 := ⟨N - 1, by omega⟩
    obtain rfl : k = n := by omega
    rw [fX1_performAgain_L13, if_pos (by omega)]
    exact ev_some.mpr ⟨h5, fun _ _ _ => rfl⟩
  | succ m ih =>
    intro k N μ h1 h2 h3 h4 h5
    obtain ⟨N, rfl⟩ : ∃ j, N = j + 1 := ⟨N - 1, by omega⟩
    rw [fX1_performAgain_L13, if_neg (by omega)]
    simp (disch := omega) only [grd, if_pos, tn_c, ev_bind, mlet_e, w32_s]
    refine ev_mono (e_undergo (d := μ 30 k) h5 (hg k (by omega))) (fun μ1 q => ?_)
    rw [← h4 k (by omega)] at q
    refine ev_mono (ih (k + 1) N μ1 (by omega) (by omega) (by rw [q.2 _ _ (by omega)]; exact h3) (fun d hd => by rw [q.2 _ _ (by omega)]; exact h4 d hd) q.1) (fun μ2 r => ⟨r.1, fun c k hc => ?_⟩)
    rw [r.2 _ _ hc, q.2 _ _ (by omega)]
theorem e_again {n : Nat} {h : Nat → Mem} {μ : Mem} (hn : n ≤ 40) (hg : ∀ d, d ≤ n → GB (h d)) (h3 : μ 0 8 = (n : Int)) (h4 : ∀ d, d < n → h (d + 1) = und (h d) (μ 30 d)) (h5 : CB 15 μ (h 0)) : Ev (fX1_performAgain μ) fun μ' => CB 20 μ' (h n) ∧ ∀ c k, c < 20 ∨ 24 < c → μ' c k = μ c k := by
  unfold fX1_performAgain
  have hf := fuel_lt
  generalize fuel = N at hf ⊢
  rw [ev_bind]
  refine ev_mono (e_become (b := 20) (b' := 15) (by omega) h5 (hg 0 (by omega))) (fun μ1 q => ?_)
  refine ev_mono (e_again_L hn hg n 0 N μ1 (by omega) (by omega) (by rw [q.2 _ _ (by omega)]; exact h3) (fun d hd => by rw [q.2 _ _ (by omega)]; exact h4 d hd) q.1) (fun μ2 r => ⟨r.1, fun c k hc => ?_⟩)
  rw [r.2 _ _ hc, q.2 _ _ (by omega)]
