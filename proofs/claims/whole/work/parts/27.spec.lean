/-! SPEC: a river's people as numbers: s 0: how many, where the ford is, the night's number; s 1 kinds, s 2 doors, s 3 darings, s 4 crossings -/
def fe (d : Int) : Int := if d < 5 then 0 else d
def be (f : Int) : Int := if f < 3 then f else 3
def dar (k d num f : Int) : Int :=
  if k = 1 then (if num.tmod 2 = 0 then 2 * d else d) else if k = 2 then fe d else if k = 4 then d + be f else if k = 5 then (if fe d < 10 then 10 - fe d else 0) else d
def far (s : Mem) (i : Nat) : Int := if s 0 1 ≤ s 2 i then s 2 i - s 0 1 else s 0 1 - s 2 i
def byS (s : Mem) (i : Nat) : Int := dar (s 1 i) (s 3 i) (s 0 2) (far s i)
def byP (s : Mem) (p : Int) (k : Nat) : Int := if band (bshr p (k : Int)) 1 = 0 then byS s k else 0
def hstep (s : Mem) (p : Int) (k : Nat) (q : Int × Int) : Int × Int :=
  if q.2 < byP s p k ∨ (byP s p k = q.2 ∧ ¬ q.1 = -9 ∧ far s k < far s q.1.toNat) then ((k : Int), byP s p k) else q
def holdR (s : Mem) (p : Int) : Nat → Int × Int
  | 0 => (-9, 0)
  | k + 1 => hstep s p k (holdR s p k)
def hold (s : Mem) (p : Int) : Int := (holdR s p (s 0 0).toNat).1
def fad (k : Int) : Int := if k = 3 ∨ k = 4 then 0 else if k = 2 ∨ k = 5 then 2 else 1
def nightS (s : Mem) : Mem := fun r k =>
  if r = 0 then (if k = 1 then (if hold s 0 = -9 then s 0 1 else s 2 (hold s 0).toNat) else if k = 2 then w32 (s 0 2 + 1) else s 0 k)
  else if r = 3 then mmax 0 (s 3 k - (if (k : Int) = hold s 0 then 2 else fad (s 1 k)))
  else if r = 4 ∧ (k : Int) = hold s 0 then w32 (s 4 k + 1) else s r k
def und (s : Mem) (d : Int) : Mem :=
  if band d 3 = 0 then nightS s
  else if 0 ≤ band (bshr d 2) 7 ∧ band (bshr d 2) 7 < s 0 0 then
    (if band d 3 = 1 then wr s 3 (band (bshr d 2) 7).toNat (mmin 20 (w32 (s 3 (band (bshr d 2) 7).toNat + bshr d 5)))
     else if band d 3 = 2 then wr s 3 (band (bshr d 2) 7).toNat (mmax 0 (w32 (s 3 (band (bshr d 2) 7).toNat - bshr d 5)))
     else wr s 2 (band (bshr d 2) 7).toNat (bshr d 5))
  else s
/-! what the class's bank, what the model's row holds -/
def CB (b : Nat) (μ s : Mem) : Prop := μ b 4 = s 0 0 ∧ μ b 5 = s 0 1 ∧ μ b 6 = s 0 2 ∧ ∀ i : Nat, (i : Int) < s 0 0 → μ (b + 1) i = s 1 i ∧ μ (b + 2) i = s 2 i ∧ μ (b + 3) i = s 3 i ∧ μ (b + 4) i = s 4 i
def MB (a : Nat) (μ s : Mem) : Prop := μ 60 1 = s 0 0 ∧ μ 61 (a + 2) = s 0 1 ∧ μ 61 (a + 1) = s 0 2 ∧ ∀ i : Nat, (i : Int) < s 0 0 → μ 62 i = s 1 i ∧ μ 61 (a + 3 + i) = s 2 i ∧ μ 61 (a + 9 + i) = s 3 i ∧ μ 61 (a + 15 + i) = s 4 i
def GB (s : Mem) : Prop := 0 ≤ s 0 0 ∧ s 0 0 ≤ 6 ∧ 0 ≤ s 0 1 ∧ s 0 1 ≤ 9 ∧ ∀ i : Nat, (i : Int) < s 0 0 → (0 ≤ s 1 i ∧ s 1 i ≤ 5) ∧ (0 ≤ s 2 i ∧ s 2 i ≤ 9) ∧ 0 ≤ s 3 i ∧ s 3 i ≤ 20
def dcl (j : Nat) : Nat := if j = 0 then 30 else 31 + j
def cnt (μ : Mem) (j : Nat) : Int := if j = 0 then μ 0 8 else μ 35 (j - 1)
/-- one river with all that can be undone: the deeds in the class's cell, the rivers ahead of each of them in the model's row -/
def SlotI (μ : Mem) (s0 : Mem) (j : Nat) (h : Nat → Mem) : Prop :=
  h 0 = s0 ∧ (∀ d : Nat, (d : Int) < cnt μ j → h (d + 1) = und (h d) (μ (dcl j) d) ∧ MB (821 * j + 20 + 20 * d) μ (h d)) ∧ MB (821 * j) μ (h (cnt μ j).toNat) ∧ ∀ d : Nat, (d : Int) ≤ cnt μ j → GB (h d)
def RivI (μ : Mem) : Prop := 0 ≤ μ 0 8 ∧ ∃ (s0 : Mem) (h : Nat → Nat → Mem), CB 15 μ s0 ∧ CB 20 μ (h 0 (μ 0 8).toNat) ∧ ∀ j : Nat, j < 4 → -1 ≤ cnt μ j ∧ cnt μ j ≤ 40 ∧ μ 61 (821 * j) = cnt μ j ∧ (0 ≤ cnt μ j → SlotI μ s0 j (h j))
def RowsI (μ : Mem) : Prop := ∀ r : Nat, r < 6 → μ 63 r = μ 8 r ∧ -1 ≤ μ 8 r ∧ μ 8 r ≤ 40 ∧ ∀ i : Nat, i < 40 → μ 64 (40 * r + i) = μ (2 + r) i
def TextsI (μ : Mem) : Prop := ∀ t : Nat, t < 4 → μ 65 t = μ 14 t ∧ -1 ≤ μ 14 t ∧ μ 14 t ≤ 60 ∧ ∀ i : Nat, i < 60 → μ 66 (60 * t + i) = μ (10 + t) i
def ToldI (μ : Mem) : Prop := μ 60 7 = μ 0 11 ∧ μ 60 8 = μ 0 12 ∧ μ 60 9 = μ 0 13 ∧ μ 60 10 = μ 0 14 ∧ ∀ f : Nat, f < 6 → μ 67 f = μ 36 f
def Inv (μ : Mem) : Prop := RowsI μ ∧ TextsI μ ∧ ToldI μ ∧ RivI μ
/-- what the rivers stand on -/
def rvc (c k : Nat) : Prop := (c = 0 ∧ k = 8) ∨ (15 ≤ c ∧ c < 25) ∨ c = 30 ∨ (32 ≤ c ∧ c ≤ 35) ∨ (c = 60 ∧ k = 1) ∨ (c = 61 ∧ k < 3284) ∨ c = 62
theorem CB_congr {b : Nat} {μ μ' s : Mem} (h : CB b μ s) (e : ∀ c k, b ≤ c ∧ c ≤ b + 4 → μ' c k = μ c k) : CB b μ' s := by
  obtain ⟨h1, h2, h3, h4⟩ := h
  refine ⟨by rw [e _ _ (by omega)]; exact h1, by rw [e _ _ (by omega)]; exact h2, by rw [e _ _ (by omega)]; exact h3, fun i hi => ?_⟩
  rw [e _ _ (by omega), e _ _ (by omega), e _ _ (by omega), e _ _ (by omega)]
  exact h4 i hi
theorem MB_congr {a : Nat} {μ μ' s : Mem} (h : MB a μ s) (hg : s 0 0 ≤ 6) (e : ∀ c k, (c = 60 ∧ k = 1) ∨ (c = 61 ∧ a < k ∧ k ≤ a + 20) ∨ c = 62 → μ' c k = μ c k) : MB a μ' s := by
  obtain ⟨h1, h2, h3, h4⟩ := h
  refine ⟨by rw [e _ _ (by omega)]; exact h1, by rw [e _ _ (by omega)]; exact h2, by rw [e _ _ (by omega)]; exact h3, fun i hi => ?_⟩
  rw [e _ _ (by omega), e _ _ (by omega), e _ _ (by omega), e _ _ (by omega)]
  exact h4 i hi
theorem RivI_congr {μ μ' : Mem} (h : RivI μ) (e : ∀ c k, rvc c k → μ' c k = μ c k) : RivI μ' := by
  unfold rvc at e
  obtain ⟨h0, s0, hh, h1, h2, h3⟩ := h
  have e8 : μ' 0 8 = μ 0 8 := e _ _ (by omega)
  have ec : ∀ j, j < 4 → cnt μ' j = cnt μ j := fun j hj => by
    unfold cnt
    split
    · exact e8
    · exact e _ _ (by omega)
  refine ⟨by rw [e8]; exact h0, s0, hh, CB_congr h1 (fun c k hc => e _ _ (by omega)), by rw [e8]; exact CB_congr h2 (fun c k hc => e _ _ (by omega)), fun j hj => ?_⟩
  obtain ⟨k1, k2, k3, k4⟩ := h3 j hj
  rw [ec j hj]
  refine ⟨k1, k2, by rw [e _ _ (by omega)]; exact k3, fun k5 => ?_⟩
  obtain ⟨m1, m2, m3, m4⟩ := k4 k5
  have g : ∀ d : Nat, (d : Int) ≤ cnt μ j → hh j d 0 0 ≤ 6 := fun d hd => (m4 d hd).2.1
  unfold SlotI
  rw [ec j hj]
  refine ⟨m1, fun d hd => ⟨?_, ?_⟩, ?_, m4⟩
  · rw [e _ _ (by unfold dcl; split <;> omega)]
    exact (m2 d hd).1
  · exact MB_congr (m2 d hd).2 (g d (by omega)) (fun c k hc => e _ _ (by omega))
  · exact MB_congr m3 (g _ (by omega)) (fun c k hc => e _ _ (by omega))
theorem RivI_now {μ : Mem} (h : RivI μ) : ∃ s : Mem, CB 20 μ s ∧ MB 0 μ s ∧ GB s := by
  obtain ⟨h0, s0, hh, h1, h2, h3⟩ := h
  obtain ⟨k1, k2, k3, k4⟩ := h3 0 (by omega)
  have e : cnt μ 0 = μ 0 8 := rfl
  obtain ⟨m1, m2, m3, m4⟩ := k4 (by rw [e]; exact h0)
  exact ⟨_, h2, m3, m4 _ (by rw [e]; omega)⟩
theorem RowsI_congr {μ μ' : Mem} (h : RowsI μ) (e : ∀ c k, (2 ≤ c ∧ c ≤ 8) ∨ c = 63 ∨ c = 64 → μ' c k = μ c k) : RowsI μ' := by
  intro r hr
  obtain ⟨h1, h2, h3, h4⟩ := h r hr
  rw [e 8 r (by omega), e 63 r (by omega)]
  refine ⟨h1, h2, h3, fun i hi => ?_⟩
  rw [e _ _ (by omega), e _ _ (by omega)]
  exact h4 i hi
theorem TextsI_congr {μ μ' : Mem} (h : TextsI μ) (e : ∀ c k, (10 ≤ c ∧ c ≤ 14) ∨ c = 65 ∨ c = 66 → μ' c k = μ c k) : TextsI μ' := by
  intro r hr
  obtain ⟨h1, h2, h3, h4⟩ := h r hr
  rw [e 14 r (by omega), e 65 r (by omega)]
  refine ⟨h1, h2, h3, fun i hi => ?_⟩
  rw [e _ _ (by omega), e _ _ (by omega)]
  exact h4 i hi
theorem ToldI_congr {μ μ' : Mem} (h : ToldI μ) (e : ∀ c k, (c = 0 ∧ 11 ≤ k ∧ k ≤ 14) ∨ (c = 60 ∧ 7 ≤ k ∧ k ≤ 10) ∨ c = 36 ∨ c = 67 → μ' c k = μ c k) : ToldI μ' := by
  obtain ⟨h1, h2, h3, h4, h5⟩ := h
  unfold ToldI
  rw [e 60 7 (by omega), e 0 11 (by omega), e 60 8 (by omega), e 0 12 (by omega), e 60 9 (by omega), e 0 13 (by omega), e 60 10 (by omega), e 0 14 (by omega)]
  refine ⟨h1, h2, h3, h4, fun f hf => ?_⟩
  rw [e _ _ (by omega), e _ _ (by omega)]
  exact h5 f hf
/-- a finding, told by both -/
theorem Inv_find {μ : Mem} (h : Inv μ) {f : Nat} (hf : f ≤ 5) : Inv (fndM2 (fndM μ f) f) := by
  obtain ⟨h1, h2, h3, h4⟩ := h
  have e : ∀ c k, ¬ (c = 0 ∧ k = 14) → ¬ (c = 60 ∧ k = 10) → ¬ c = 36 → ¬ c = 67 → fndM2 (fndM μ f) f c k = μ c k := fun c k a1 a2 a3 a4 => by
    unfold fndM2 fndM
    rw [wr_ne (by omega), wr_ne (by omega), wr_ne (by omega), wr_ne (by omega)]
  refine ⟨RowsI_congr h1 (fun c k hc => e c k (by omega) (by omega) (by omega) (by omega)), TextsI_congr h2 (fun c k hc => e c k (by omega) (by omega) (by omega) (by omega)), ?_, RivI_congr h4 (fun c k hc => by unfold rvc at hc; exact e c k (by omega) (by omega) (by omega) (by omega))⟩
  obtain ⟨k1, k2, k3, k4, k5⟩ := h3
  unfold ToldI fndM2 fndM
  simp (disch := omega) only [wr_ne, wr_at]
  refine ⟨k1, k2, k3, trivial, fun g hg => ?_⟩
  by_cases e2 : g = f
  · subst e2
    simp (disch := omega) only [wr_ne, wr_at]
    rw [k5 g hg]
  · simp (disch := omega) only [wr_ne]
    exact k5 g hg
/-- what is asked, told by both -/
theorem Inv_tell {μ : Mem} (h : Inv μ) {v : Int} : Inv (wr (wr μ 0 11 v) 60 7 v) := by
  obtain ⟨h1, h2, h3, h4⟩ := h
  have e : ∀ c k, ¬ (c = 0 ∧ k = 11) → ¬ (c = 60 ∧ k = 7) → wr (wr μ 0 11 v) 60 7 v c k = μ c k := fun c k a1 a2 => by
    rw [wr_ne (by omega), wr_ne (by omega)]
  refine ⟨RowsI_congr h1 (fun c k hc => e c k (by omega) (by omega)), TextsI_congr h2 (fun c k hc => e c k (by omega) (by omega)), ?_, RivI_congr h4 (fun c k hc => by unfold rvc at hc; exact e c k (by omega) (by omega))⟩
  obtain ⟨k1, k2, k3, k4, k5⟩ := h3
  unfold ToldI
  simp (disch := omega) only [wr_ne, wr_at]
  exact ⟨trivial, k2, k3, k4, fun g hg => k5 g hg⟩
