/-! reading a text: the model's side. The text f of n places lies in the cell 66 from b0 on; the reader's own: 60 12 from, 60 13 place, 60 14 end -/
def RD (f : Nat → Int) (n b0 p : Nat) (μ : Mem) : Prop := μ 60 12 = (b0 : Int) ∧ μ 60 13 = (p : Int) ∧ μ 60 14 = (n : Int) ∧ ∀ j, j < n → μ 66 (b0 + j) = f j
theorem RD_p {f : Nat → Int} {n b0 p q : Nat} {μ : Mem} (h : RD f n b0 p μ) : RD f n b0 q (wr μ 60 13 (q : Int)) := by
  obtain ⟨h1, h2, h3, h4⟩ := h
  exact ⟨by rw [wr_ne (by omega)]; exact h1, wr_at (by omega), by rw [wr_ne (by omega)]; exact h3, fun j hj => by rw [wr_ne (by omega)]; exact h4 j hj⟩
/-- people as the model's reader has them -/
def RP (s : Mem) (μ : Mem) : Prop := μ 60 17 = s 0 0 ∧ μ 60 15 = s 0 1 ∧ ∀ i : Nat, (i : Int) < s 0 0 → μ 68 (3 * i) = s 1 i ∧ μ 68 (3 * i + 1) = s 2 i ∧ μ 68 (3 * i + 2) = s 3 i
def rdc (c k : Nat) : Prop := c = 68 ∨ (c = 60 ∧ 12 ≤ k ∧ k ≤ 17)
