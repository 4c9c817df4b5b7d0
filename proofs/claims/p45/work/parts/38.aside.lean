/-! ONE, MARK, DARES; what comes, aside -/
def fre (c k : Nat) : Prop := (25 ≤ c ∧ c ≤ 29) ∨ (37 ≤ c ∧ c ≤ 59) ∨ (c = 61 ∧ 3284 ≤ k) ∨ 68 ≤ c ∨ (c = 60 ∧ 12 ≤ k)
def tolS (s : Mem) (i : Nat) (w : Int) : Int := if w = 0 then s 1 i else if w = 1 then s 2 i else if w = 2 then s 3 i else if w = 3 then byS s i else if w = 4 then s 4 i else far s i
theorem e_told {b i : Nat} {w : Int} {μ s : Mem} (hc : CB b μ s) (hg : GB s) (hi : (i : Int) < s 0 0) : fX0_told b (i : Int) w μ = some (tolS s i w) := by
  have g6 := hg.2.1
  obtain ⟨c1, c2, c3, c4⟩ := hc.2.2.2 i hi
  obtain ⟨-, -, g3⟩ := hg.2.2.2.2 i hi
  unfold fX0_told tolS byS
  rw [e_farOf hc hg hi]
  simp (disch := omega) only [grd, if_pos, tn_c, c1, c2, c3, c4]
  rw [e_boldAt hc hg hi (by omega)]
  simp only [bd_some]
  repeat' (first | rfl | split)
def blwR (s : Mem) (d : Int) : Nat → Int
  | 0 => 0
  | k + 1 => blwR s d k + (if s 3 k < d then 1 else 0)
theorem blwR_rng (s : Mem) (d : Int) : ∀ k : Nat, 0 ≤ blwR s d k ∧ blwR s d k ≤ k
  | 0 => by unfold blwR; omega
  | k + 1 => by
    have := blwR_rng s d k
    unfold blwR
    split <;> omega
def mrkS (s : Mem) (i : Nat) (o : Int) : Int := if o = 1 then dar 1 (s 3 i) (w32 (s 0 2 + 1)) (far s i) else if o = 2 then (if s 3 i < 5 then 5 - s 3 i else 0) else if o = 3 then blwR s (s 3 i) (s 0 0).toNat else if o = 4 then be (far s i) else fe (s 3 i)
/-- answers alone, both sides -/
def Same0 (o1 o2 : Option Int) : Prop := ∃ v, o1 = some v ∧ o2 = some v
