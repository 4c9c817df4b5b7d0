/-! SPEC: a river's people as numbers: s 0: how many, where the ford is, the night's number; s 1 kinds, s 2 doors, s 3 darings, s 4 crossings -/
def fe (d : Int) : Int := if d < 5 then 0 else d
def be (f : Int) : Int := if f < 3 then f else 3
def dar (k d num f : Int) : Int :=
  if k = 1 then (if num.tmod 2 = 0 then 2 * d else d) else if k = 2 then fe d else if k = 4 then d + be f else if k = 5 then (if fe d < 10 then 10 - fe d else 0) else d
def far (s : Mem) (i : Nat) : Int := if s 0 1 ≤ s 2 i then s 2 i - s 0 1 else s 0 1 - s 2 i
def byS (s : Mem) (i : Nat) : Int := dar (s 1 i) (s 3 i) (s 0 2) (far s i)
def byP (s : Mem) (p : Int) (k : Nat) : Int := if band (bshr p (k : Int)) 1 = 0 then byS s k else 0
def hstep (s : Mem) (p : Int) (k : Nat) (q : Int × Int) : Int × Int :=
  if q.2 < byP s p k ∨ (byP s p k = q.2 ∧ ¬ q.1 = -9 ∧ far s k < far s q.1.toNat) then ((k : Int), byP s p k) else q
def holdR (s : Mem) (p : Int) : Nat → Int × Int
  | 0 => (-9, 0)
  | k + 1 => hstep s p k (holdR s p k)
def hold (s : Mem) (p : Int) : Int := (holdR s p (s 0 0).toNat).1
def fad (k : Int) : Int := if k = 3 ∨ k = 4 then 0 else if k = 2 ∨ k = 5 then 2 else 1
def nightS (s : Mem) : Mem := fun r k =>
  if r = 0 then (if k = 1 then (if hold s 0 = -9 then s 0 1 else s 2 (hold s 0).toNat) else if k = 2 then w32 (s 0 2 + 1) else s 0 k)
  else if r = 3 then mmax 0 (s 3 k - (if (k : Int) = hold s 0 then 2 else fad (s 1 k)))
  else if r = 4 ∧ (k : Int) = hold s 0 then w32 (s 4 k + 1) else s r k
def und (s : Mem) (d : Int) : Mem :=
  if band d 3 = 0 then nightS s
  else if 0 ≤ band (bshr d 2) 7 ∧ band (bshr d 2) 7 < s 0 0 then
    (if band d 3 = 1 then wr s 3 (band (bshr d 2) 7).toNat (mmin 20 (w32 (s 3 (band (bshr d 2) 7).toNat + bshr d 5)))
     else if band d 3 = 2 then wr s 3 (band (bshr d 2) 7).toNat (mmax 0 (w32 (s 3 (band (bshr d 2) 7).toNat - bshr d 5)))
     else wr s 2 (band (bshr d 2) 7).toNat (bshr d 5))
  else s
/-! what the class's bank, what the model's row holds -/
def CB (b : Nat) (μ s : Mem) : Prop := μ b 4 = s 0 0 ∧ μ b 5 = s 0 1 ∧ μ b 6 = s 0 2 ∧ ∀ i : Nat, (i : Int) < s 0 0 → μ (b + 1) i = s 1 i ∧ μ (b + 2) i = s 2 i ∧ μ (b + 3) i = s 3 i ∧ μ (b + 4) i = s 4 i
def GB (s : Mem) : Prop := 0 ≤ s 0 0 ∧ s 0 0 ≤ 6 ∧ 0 ≤ s 0 1 ∧ s 0 1 ≤ 9 ∧ ∀ i : Nat, (i : Int) < s 0 0 → (0 ≤ s 1 i ∧ s 1 i ≤ 5) ∧ (0 ≤ s 2 i ∧ s 2 i ≤ 9) ∧ 0 ≤ s 3 i ∧ s 3 i ≤ 20
def dcl (j : Nat) : Nat := if j = 0 then 30 else 31 + j
def cnt (μ : Mem) (j : Nat) : Int := if j = 0 then μ 0 8 else μ 35 (j - 1)
/-- what the rivers stand on -/
def rvc (c k : Nat) : Prop := (c = 0 ∧ k = 8) ∨ (15 ≤ c ∧ c < 25) ∨ c = 30 ∨ (32 ≤ c ∧ c ≤ 35) ∨ (c = 60 ∧ k = 1) ∨ (c = 61 ∧ k < 3284) ∨ c = 62
theorem CB_congr {b : Nat} {μ μ' s : Mem} (h : CB b μ s) (e : ∀ c k, b ≤ c ∧ c ≤ b + 4 → μ' c k = μ c k) : CB b μ' s := by
  obtain ⟨h1, h2, h3, h4⟩ := h
  refine ⟨by rw [e _ _ (by omega)]; exact h1, by rw [e _ _ (by omega)]; exact h2, by rw [e _ _ (by omega)]; exact h3, fun i hi => ?_⟩
  rw [e _ _ (by omega), e _ _ (by omega), e _ _ (by omega), e _ _ (by omega)]
  exact h4 i hi
