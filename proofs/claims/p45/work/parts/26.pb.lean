/-! PURE BASE: what a function that may fail gives; memories -/
def Ev {α : Type} (o : Option α) (Q : α → Prop) : Prop := ∃ a, o = some a ∧ Q a
theorem ev_some {α : Type} {a : α} {Q : α → Prop} : Ev (some a) Q ↔ Q a := ⟨fun ⟨b, h, q⟩ => by cases h; exact q, fun h => ⟨a, rfl, h⟩⟩
theorem ev_none {α : Type} {Q : α → Prop} : Ev (none : Option α) Q ↔ False := ⟨fun ⟨b, h, q⟩ => (by cases h), False.elim⟩
theorem ev_bind {α β : Type} {o : Option α} {f : α → Option β} {Q : β → Prop} : Ev (o.bind f) Q ↔ Ev o (fun a => Ev (f a) Q) := by
  constructor
  · rintro ⟨b, h, q⟩
    obtain ⟨a, h1, h2⟩ := Option.bind_eq_some_iff.mp h
    exact ⟨a, h1, b, h2, q⟩
  · rintro ⟨a, h1, b, h2, q⟩
    exact ⟨b, Option.bind_eq_some_iff.mpr ⟨a, h1, h2⟩, q⟩
theorem ev_bnd2 {α : Type} {o : Option (Int × Mem)} {F : Int → Mem → Option α} {Q : α → Prop} : Ev (bnd2 o F) Q ↔ Ev o (fun q => Ev (F q.1 q.2) Q) := by
  unfold bnd2
  exact ev_bind
theorem ev_mono {α : Type} {o : Option α} {P Q : α → Prop} (h : Ev o P) (hq : ∀ a, P a → Q a) : Ev o Q := by
  obtain ⟨a, h1, h2⟩ := h
  exact ⟨a, h1, hq a h2⟩
theorem ev_ite {α : Type} {c : Prop} [inst : Decidable c] {a b : Option α} {Q : α → Prop} : Ev (if c then a else b) Q ↔ (c → Ev a Q) ∧ (¬ c → Ev b Q) := by
  by_cases h : c
  · rw [if_pos h]; exact ⟨fun q => ⟨fun _ => q, fun n => absurd h n⟩, fun q => q.1 h⟩
  · rw [if_neg h]; exact ⟨fun q => ⟨fun n => absurd n h, fun _ => q⟩, fun q => q.2 h⟩
theorem ev_eq {α : Type} {o : Option α} {a : α} {Q : α → Prop} (h : o = some a) (q : Q a) : Ev o Q := ⟨a, h, q⟩
/-- a loop: what is known at its head, what falls -/
theorem ev_loop {σ α : Type} (L : Nat → σ → Option α) (Q : α → Prop) (I : σ → Prop) (m : σ → Nat) (hs : ∀ n q, I q → (∀ q', I q' → m q' < m q → Ev (L n q') Q) → Ev (L (n + 1) q) Q) : ∀ n q, I q → m q < n → Ev (L n q) Q := by
  intro n
  induction n with
  | zero => intro q _ h; omega
  | succ n ih => intro q hI h; exact hs n q hI (fun q' h1 h2 => ih q' h1 (by omega))
theorem bnd2_some {α : Type} {x : Int} {μ : Mem} {F : Int → Mem → Option α} : bnd2 (some (x, μ)) F = F x μ := of_eq_true (eq_self _)
theorem bd_some {α β : Type} {a : α} {F : α → Option β} : (some a).bind F = F a := of_eq_true (eq_self _)
theorem mlet_e {α β : Type} {v : α} {f : α → β} : mlet v f = f v := of_eq_true (eq_self _)
theorem wr_at {μ : Mem} {c k c' k' : Nat} {v : Int} (h : c' = c ∧ k' = k) : wr μ c k v c' k' = v := if_pos h
theorem wr_ne {μ : Mem} {c k c' k' : Nat} {v : Int} (h : ¬ (c' = c ∧ k' = k)) : wr μ c k v c' k' = μ c' k' := if_neg h
theorem filM_at {μ : Mem} {c n c' k' : Nat} {v : Int} (h : c' = c ∧ k' < n) : filM μ c n v c' k' = v := if_pos h
theorem filM_ne {μ : Mem} {c n c' k' : Nat} {v : Int} (h : ¬ (c' = c ∧ k' < n)) : filM μ c n v c' k' = μ c' k' := if_neg h
theorem cpy_at {μ : Mem} {c0 s c1 d n c' k' : Nat} (h : c' = c1 ∧ d ≤ k' ∧ k' < d + n) : cpy μ c0 s c1 d n c' k' = μ c0 (s + (k' - d)) := if_pos h
theorem cpy_ne {μ : Mem} {c0 s c1 d n c' k' : Nat} (h : ¬ (c' = c1 ∧ d ≤ k' ∧ k' < d + n)) : cpy μ c0 s c1 d n c' k' = μ c' k' := if_neg h
def filR (μ : Mem) (c a n : Nat) (v : Int) : Mem := fun c' k' => if c' = c ∧ a ≤ k' ∧ k' < a + n then v else μ c' k'
theorem filR_at {μ : Mem} {c a n c' k' : Nat} {v : Int} (h : c' = c ∧ a ≤ k' ∧ k' < a + n) : filR μ c a n v c' k' = v := if_pos h
theorem filR_ne {μ : Mem} {c a n c' k' : Nat} {v : Int} (h : ¬ (c' = c ∧ a ≤ k' ∧ k' < a + n)) : filR μ c a n v c' k' = μ c' k' := if_neg h
theorem filR_0 {μ : Mem} {c a : Nat} {v : Int} : filR μ c a 0 v = μ := by
  funext c' k'
  exact filR_ne (by omega)
theorem filR_s {μ : Mem} {c a n k : Nat} {v : Int} (h : k = a + n) : wr (filR μ c a n v) c k v = filR μ c a (n + 1) v := by
  funext c' k'
  subst h
  by_cases h1 : c' = c ∧ k' = a + n
  · rw [wr_at h1, filR_at (by omega)]
  · rw [wr_ne h1]
    by_cases h2 : c' = c ∧ a ≤ k' ∧ k' < a + n
    · rw [filR_at h2, filR_at (by omega)]
    · rw [filR_ne h2, filR_ne (by omega)]
theorem w32_i {z : Int} (h : -2147483648 ≤ z ∧ z ≤ 2147483647) : w32 z = z := w32_id h
theorem w64_i {z : Int} (h : -9223372036854775808 ≤ z ∧ z ≤ 9223372036854775807) : w64 z = z := w64_id h
theorem w32_s {k : Nat} (h : k ≤ 2000000000) : w32 ((k : Int) + 1) = ((k + 1 : Nat) : Int) := by
  rw [w32_i (by omega)]
  omega
theorem w8w8 {z : Int} : w8 (w8 z) = w8 z := w8_id (w8_ok z)
theorem tn_c {n : Nat} : ((n : Int)).toNat = n := rfl
theorem tn_40 {a b : Nat} : (40 * (a : Int) + (b : Int)).toNat = 40 * a + b := by omega
theorem tn_60 {a b : Nat} : (60 * (a : Int) + (b : Int)).toNat = 60 * a + b := by omega
theorem tn_3 {a : Nat} {b : Int} {c : Nat} (h : b = (c : Int)) : (b + (a : Int)).toNat = c + a := by omega
theorem lc_lt {x y : Int} : lcmpZ x y < 0 ↔ x < y := by
  unfold lcmpZ
  split
  · omega
  · split <;> omega
theorem lc_gt {x y : Int} : 0 < lcmpZ x y ↔ y < x := by
  unfold lcmpZ
  split
  · omega
  · split <;> omega
theorem lc_eq {x y : Int} : lcmpZ x y = 0 ↔ x = y := by
  unfold lcmpZ
  split
  · omega
  · split <;> omega
theorem lc_le {x y : Int} : lcmpZ x y ≤ 0 ↔ x ≤ y := by
  unfold lcmpZ
  split
  · omega
  · split <;> omega
theorem lc_ge {x y : Int} : 0 ≤ lcmpZ x y ↔ y ≤ x := by
  unfold lcmpZ
  split
  · omega
  · split <;> omega
def b01 (c : Prop) [inst : Decidable c] : Int := if c then 1 else 0
theorem b01_t {c : Prop} [inst : Decidable c] (h : c) : b01 c = 1 := if_pos h
theorem b01_f {c : Prop} [inst : Decidable c] (h : ¬ c) : b01 c = 0 := if_neg h
theorem b01_0 {c : Prop} [inst : Decidable c] : b01 c = 0 ↔ ¬ c := by
  unfold b01
  split <;> simp_all
theorem b01_1 {c : Prop} [inst : Decidable c] : b01 c = 1 ↔ c := by
  unfold b01
  split <;> simp_all
theorem e_within {a b c : Int} {μ : Mem} : fX1_isWithin a b c μ = some (b01 (b ≤ a ∧ a ≤ c)) := by
  unfold fX1_isWithin
  simp only [mlet_e]
  by_cases h1 : a < b
  · rw [if_pos h1, b01_f (by omega)]
  · by_cases h2 : c < a
    · rw [if_neg h1, if_pos h2, b01_f (by omega)]
    · rw [if_neg h1, if_neg h2, b01_t (by omega)]
theorem e_isRow {a : Int} {μ : Mem} : fX1_isRow a μ = some (b01 (0 ≤ a ∧ a ≤ 5)) := by
  unfold fX1_isRow
  simp only [mlet_e]
  by_cases h1 : a < 0
  · rw [if_pos h1, b01_f (by omega)]
  · by_cases h2 : 6 ≤ a
    · rw [if_neg h1, if_pos h2, b01_f (by omega)]
    · rw [if_neg h1, if_neg h2, b01_t (by omega)]
theorem e_isText {a : Int} {μ : Mem} : fX1_isText a μ = some (b01 (0 ≤ a ∧ a ≤ 3)) := by
  unfold fX1_isText
  simp only [mlet_e]
  by_cases h1 : a < 0
  · rw [if_pos h1, b01_f (by omega)]
  · by_cases h2 : 4 ≤ a
    · rw [if_neg h1, if_pos h2, b01_f (by omega)]
    · rw [if_neg h1, if_neg h2, b01_t (by omega)]
theorem e_isKept {a : Int} {μ : Mem} : fX1_isKept a μ = some (b01 (0 ≤ a ∧ a ≤ 2)) := by
  unfold fX1_isKept
  simp only [mlet_e]
  by_cases h1 : a < 0
  · rw [if_pos h1, b01_f (by omega)]
  · by_cases h2 : 3 ≤ a
    · rw [if_neg h1, if_pos h2, b01_f (by omega)]
    · rw [if_neg h1, if_neg h2, b01_t (by omega)]
theorem e_isPlace {a : Int} {μ : Mem} : fX1_isPlace a μ = some (b01 (0 ≤ a ∧ a ≤ 9)) := by
  unfold fX1_isPlace
  simp only [mlet_e]
  by_cases h1 : a < 0
  · rw [if_pos h1, b01_f (by omega)]
  · by_cases h2 : 9 < a
    · rw [if_neg h1, if_pos h2, b01_f (by omega)]
    · rw [if_neg h1, if_neg h2, b01_t (by omega)]
theorem e_has {b : Nat} {a : Int} {μ : Mem} : fX0_has b a μ = some (b01 (0 ≤ a ∧ a < μ b 4)) := by
  unfold fX0_has
  simp only [mlet_e]
  by_cases h1 : a < 0
  · rw [if_pos h1, b01_f (by omega)]
  · by_cases h2 : μ b 4 ≤ a
    · rw [if_neg h1, if_pos h2, b01_f (by omega)]
    · rw [if_neg h1, if_neg h2, b01_t (by omega)]
theorem b01_or {c : Prop} [inst : Decidable c] : b01 c = 0 ∨ b01 c = 1 := by
  unfold b01
  split
  · exact Or.inr rfl
  · exact Or.inl rfl
def fndM (μ : Mem) (f : Nat) : Mem := wr (wr μ 0 14 (f : Int)) 36 f (w32 (μ 36 f + 1))
def fndM2 (μ : Mem) (f : Nat) : Mem := wr (wr μ 60 10 (f : Int)) 67 f (w32 (μ 67 f + 1))
theorem e_found {f : Nat} {μ : Mem} (h : 1 ≤ f ∧ f ≤ 5) : fX1_found (f : Int) μ = some (-3, fndM μ f) := by
  unfold fX1_found
  simp (disch := omega) only [mlet_e, e_within, bd_some, b01_t, if_neg, if_pos, grd, tn_c, wr_ne]
  rfl
