/-! NUMBERS: machine ints and longs as Ints in range; a memory of ints; cells by number -/
abbrev mV : Type := Int ⊕ (Int ⊕ Nat)
abbrev Mem : Type := Nat → Nat → Int
abbrev wC : Type := va_G × (Nat → ClassId) × (Nat → Nat)
def okI (z : Int) : Prop := -2147483648 ≤ z ∧ z ≤ 2147483647
def okL (z : Int) : Prop := -9223372036854775808 ≤ z ∧ z ≤ 9223372036854775807
def okB (z : Int) : Prop := -128 ≤ z ∧ z ≤ 127
def okV : mV → Prop
  | .inl z => okI z
  | .inr (.inl z) => okL z
  | .inr (.inr _) => True
def cv (G : wC) : mV → Value
  | .inl z => .int (Int32.ofInt z)
  | .inr (.inl z) => .long (Int64.ofInt z)
  | .inr (.inr c) => .ref (G.2.2 c)
def mlet {α β : Type} (v : α) (f : α → β) : β := f v
def w32 (z : Int) : Int := z.bmod 4294967296
def w64 (z : Int) : Int := z.bmod 18446744073709551616
def w8 (z : Int) : Int := z.bmod 256
theorem w32_ok (z : Int) : okI (w32 z) := by unfold okI w32 Int.bmod; dsimp only; split <;> omega
theorem w64_ok (z : Int) : okL (w64 z) := by unfold okL w64 Int.bmod; dsimp only; split <;> omega
theorem w8_ok (z : Int) : okB (w8 z) := by unfold okB w8 Int.bmod; dsimp only; split <;> omega
theorem w32_id {z : Int} (h : okI z) : w32 z = z := by unfold okI at h; unfold w32 Int.bmod; dsimp only; split <;> omega
theorem w64_id {z : Int} (h : okL z) : w64 z = z := by unfold okL at h; unfold w64 Int.bmod; dsimp only; split <;> omega
theorem w8_id {z : Int} (h : okB z) : w8 z = z := by unfold okB at h; unfold w8 Int.bmod; dsimp only; split <;> omega
theorem okB_I {z : Int} (h : okB z) : okI z := by unfold okB at h; unfold okI; omega
theorem okI_L {z : Int} (h : okI z) : okL z := by unfold okI at h; unfold okL; omega
theorem ti (z : Int) : (Int32.ofInt z).toInt = w32 z := Int32.toInt_ofInt
theorem tl (z : Int) : (Int64.ofInt z).toInt = w64 z := Int64.toInt_ofInt
theorem tiK {z : Int} (h : okI z) : (Int32.ofInt z).toInt = z := (ti z).trans (w32_id h)
theorem tlK {z : Int} (h : okL z) : (Int64.ofInt z).toInt = z := (tl z).trans (w64_id h)
theorem i32_of {a : Int32} {z : Int} (h : a.toInt = w32 z) : a = Int32.ofInt z := Int32.toInt_inj.mp (h.trans (ti z).symm)
theorem i64_of {a : Int64} {z : Int} (h : a.toInt = w64 z) : a = Int64.ofInt z := Int64.toInt_inj.mp (h.trans (tl z).symm)
theorem toI_ok (a : Int32) : okI a.toInt := by
  have h1 := Int32.le_toInt a
  have h2 := Int32.toInt_lt a
  unfold okI; omega
theorem toL_ok (a : Int64) : okL a.toInt := by
  have h1 := Int64.le_toInt a
  have h2 := Int64.toInt_lt a
  unfold okL; omega
theorem w32_w32 (z : Int) : w32 (w32 z) = w32 z := w32_id (w32_ok z)
theorem w64_w64 (z : Int) : w64 (w64 z) = w64 z := w64_id (w64_ok z)
theorem n_add {x y : Int} (hx : okI x) (hy : okI y) : Int32.ofInt x + Int32.ofInt y = Int32.ofInt (w32 (x + y)) := i32_of (by rw [Int32.toInt_add, tiK hx, tiK hy, w32_w32]; rfl)
theorem n_sub {x y : Int} (hx : okI x) (hy : okI y) : Int32.ofInt x - Int32.ofInt y = Int32.ofInt (w32 (x - y)) := i32_of (by rw [Int32.toInt_sub, tiK hx, tiK hy, w32_w32]; rfl)
theorem n_mul {x y : Int} (hx : okI x) (hy : okI y) : Int32.ofInt x * Int32.ofInt y = Int32.ofInt (w32 (x * y)) := i32_of (by rw [Int32.toInt_mul, tiK hx, tiK hy, w32_w32]; rfl)
theorem n_div {x y : Int} (hx : okI x) (hy : okI y) : Int32.ofInt x / Int32.ofInt y = Int32.ofInt (w32 (x.tdiv y)) := i32_of (by rw [Int32.toInt_div, tiK hx, tiK hy, w32_w32]; rfl)
theorem n_ladd {x y : Int} (hx : okL x) (hy : okL y) : Int64.ofInt x + Int64.ofInt y = Int64.ofInt (w64 (x + y)) := i64_of (by rw [Int64.toInt_add, tlK hx, tlK hy, w64_w64]; rfl)
theorem n_lmul {x y : Int} (hx : okL x) (hy : okL y) : Int64.ofInt x * Int64.ofInt y = Int64.ofInt (w64 (x * y)) := i64_of (by rw [Int64.toInt_mul, tlK hx, tlK hy, w64_w64]; rfl)
theorem n_ldiv {x y : Int} (hx : okL x) (hy : okL y) : Int64.ofInt x / Int64.ofInt y = Int64.ofInt (w64 (x.tdiv y)) := i64_of (by rw [Int64.toInt_div, tlK hx, tlK hy, w64_w64]; rfl)
theorem tmod_okI {x y : Int} (hx : okI x) : okI (x.tmod y) := by
  unfold okI at *
  have h1 := Int.natAbs_tmod x y
  have h2 := Nat.mod_le x.natAbs y.natAbs
  rcases Int.le_total 0 x with h | h
  · have := Int.tmod_nonneg y h
    omega
  · have h4 : (x.tmod y) ≤ 0 := by
      have := Int.tmod_nonneg y (show 0 ≤ -x by omega)
      rw [Int.neg_tmod] at this
      omega
    omega
theorem tmod_okL {x y : Int} (hx : okL x) : okL (x.tmod y) := by
  unfold okL at *
  have h1 := Int.natAbs_tmod x y
  have h2 := Nat.mod_le x.natAbs y.natAbs
  rcases Int.le_total 0 x with h | h
  · have := Int.tmod_nonneg y h
    omega
  · have h4 : (x.tmod y) ≤ 0 := by
      have := Int.tmod_nonneg y (show 0 ≤ -x by omega)
      rw [Int.neg_tmod] at this
      omega
    omega
theorem w32_cong {a b : Int} (h : ∃ k : Int, a = b + 4294967296 * k) : w32 a = w32 b := by
  obtain ⟨k, rfl⟩ := h
  unfold w32 Int.bmod
  rw [show (b + 4294967296 * k) % ((4294967296 : Nat) : Int) = b % ((4294967296 : Nat) : Int) by omega]
theorem w64_cong {a b : Int} (h : ∃ k : Int, a = b + 18446744073709551616 * k) : w64 a = w64 b := by
  obtain ⟨k, rfl⟩ := h
  unfold w64 Int.bmod
  rw [show (b + 18446744073709551616 * k) % ((18446744073709551616 : Nat) : Int) = b % ((18446744073709551616 : Nat) : Int) by omega]
theorem w32_ex (z : Int) : ∃ k : Int, w32 z = z + 4294967296 * k := by
  unfold w32 Int.bmod
  dsimp only
  split
  · exact ⟨-(z / 4294967296), by omega⟩
  · exact ⟨-(z / 4294967296) - 1, by omega⟩
theorem w64_ex (z : Int) : ∃ k : Int, w64 z = z + 18446744073709551616 * k := by
  unfold w64 Int.bmod
  dsimp only
  split
  · exact ⟨-(z / 18446744073709551616), by omega⟩
  · exact ⟨-(z / 18446744073709551616) - 1, by omega⟩
theorem n_rem {x y : Int} (hx : okI x) (hy : okI y) : Int32.ofInt x - Int32.ofInt x / Int32.ofInt y * Int32.ofInt y = Int32.ofInt (x.tmod y) := i32_of (by
  rw [n_div hx hy, n_mul (w32_ok _) hy, n_sub hx (w32_ok _), ti, w32_w32]
  obtain ⟨k1, h1⟩ := w32_ex (x.tdiv y)
  obtain ⟨k2, h2⟩ := w32_ex (w32 (x.tdiv y) * y)
  apply w32_cong
  refine ⟨-(k1 * y) - k2, ?_⟩
  rw [h2, h1, Int.add_mul]
  have h := Int.tmod_def x y
  rw [Int.mul_comm y] at h
  have e : 4294967296 * (-(k1 * y) - k2) = -(4294967296 * (k1 * y)) - 4294967296 * k2 := by rw [Int.mul_sub, Int.mul_neg]
  rw [e, Int.mul_assoc]
  omega)
theorem n_lrem {x y : Int} (hx : okL x) (hy : okL y) : Int64.ofInt x - Int64.ofInt x / Int64.ofInt y * Int64.ofInt y = Int64.ofInt (x.tmod y) := i64_of (by
  rw [n_ldiv hx hy, n_lmul (w64_ok _) hy]
  rw [show Int64.ofInt x - Int64.ofInt (w64 (w64 (x.tdiv y) * y)) = Int64.ofInt (w64 (x - w64 (w64 (x.tdiv y) * y))) from i64_of (by rw [Int64.toInt_sub, tlK hx, tlK (w64_ok _), w64_w64]; rfl)]
  rw [tl, w64_w64]
  obtain ⟨k1, h1⟩ := w64_ex (x.tdiv y)
  obtain ⟨k2, h2⟩ := w64_ex (w64 (x.tdiv y) * y)
  apply w64_cong
  refine ⟨-(k1 * y) - k2, ?_⟩
  rw [h2, h1, Int.add_mul]
  have h := Int.tmod_def x y
  rw [Int.mul_comm y] at h
  have e : 18446744073709551616 * (-(k1 * y) - k2) = -(18446744073709551616 * (k1 * y)) - 18446744073709551616 * k2 := by rw [Int.mul_sub, Int.mul_neg]
  rw [e, Int.mul_assoc]
  omega)
theorem n_i2l {x : Int} (hx : okI x) : (Int32.ofInt x).toInt64 = Int64.ofInt x := i64_of (by rw [Int32.toInt_toInt64, tiK hx, w64_id (okI_L hx)])
theorem n_l2i {x : Int} (hx : okL x) : (Int64.ofInt x).toInt32 = Int32.ofInt (w32 x) := i32_of (by rw [Int64.toInt_toInt32, tlK hx, w32_w32]; rfl)
theorem n_i2b {x : Int} (hx : okI x) : (Int32.ofInt x).toInt8.toInt32 = Int32.ofInt (w8 x) := i32_of (by rw [Int8.toInt_toInt32, Int32.toInt_toInt8, tiK hx, w32_id (okB_I (w8_ok x))]; rfl)
theorem n_eq {x y : Int} (hx : okI x) (hy : okI y) : Int32.ofInt x = Int32.ofInt y ↔ x = y := ⟨fun h => by rw [← tiK hx, h, tiK hy], fun h => by rw [h]⟩
theorem n_le {x y : Int} (hx : okI x) (hy : okI y) : Int32.ofInt x ≤ Int32.ofInt y ↔ x ≤ y := by rw [Int32.le_iff_toInt_le, tiK hx, tiK hy]
theorem n_lt {x y : Int} (hx : okI x) (hy : okI y) : Int32.ofInt x < Int32.ofInt y ↔ x < y := by rw [Int32.lt_iff_toInt_lt, tiK hx, tiK hy]
theorem n_leq {x y : Int} (hx : okL x) (hy : okL y) : Int64.ofInt x = Int64.ofInt y ↔ x = y := ⟨fun h => by rw [← tlK hx, h, tlK hy], fun h => by rw [h]⟩
theorem n_llt {x y : Int} (hx : okL x) (hy : okL y) : Int64.ofInt x < Int64.ofInt y ↔ x < y := by rw [Int64.lt_iff_toInt_lt, tlK hx, tlK hy]
theorem ok0 : okI 0 := by unfold okI; omega
theorem n0 : (0 : Int32) = Int32.ofInt 0 := by decide
theorem n0L : (0 : Int64) = Int64.ofInt 0 := by decide
theorem n_clamp {x : Int} (hx : okI x) (h0 : 0 ≤ x) : (Int32.ofInt x).toNatClampNeg = x.toNat := by
  show (Int32.ofInt x).toInt.toNat = x.toNat
  rw [tiK hx]
theorem n_in {x : Int} {n : Nat} (hx : okI x) (h0 : 0 ≤ x) (h1 : x < (n : Int)) : vp_in (Int32.ofInt x) n := by
  unfold vp_in
  rw [n_clamp hx h0, n0, n_lt hx ok0]
  omega
/-! bits, by the machine's own -/
def band (x y : Int) : Int := (Int32.ofInt x &&& Int32.ofInt y).toInt
def bor (x y : Int) : Int := (Int32.ofInt x ||| Int32.ofInt y).toInt
def bxor (x y : Int) : Int := (Int32.ofInt x ^^^ Int32.ofInt y).toInt
def bshl (x y : Int) : Int := (Int32.ofInt x <<< (Int32.ofInt y &&& 31)).toInt
def bshr (x y : Int) : Int := (Int32.ofInt x >>> (Int32.ofInt y &&& 31)).toInt
def lcmpZ (x y : Int) : Int := if y < x then 1 else if x = y then 0 else -1
def mabs (x : Int) : Int := if 0 ≤ x then x else w32 (0 - x)
def mmax (x y : Int) : Int := if x < y then y else x
def mmin (x y : Int) : Int := if y < x then y else x
theorem n_toI (a : Int32) : a = Int32.ofInt a.toInt := i32_of (w32_id (toI_ok a)).symm
theorem n_lcmp {x y : Int} (hx : okL x) (hy : okL y) : lg_cmp (Int64.ofInt x) (Int64.ofInt y) = Int32.ofInt (lcmpZ x y) := by
  unfold lg_cmp lcmpZ
  simp only [gt_iff_lt, n_llt hy hx, n_leq hx hy]
  split
  · decide
  · split <;> decide
theorem lcmp_ok (x y : Int) : okI (lcmpZ x y) := by unfold lcmpZ okI; split <;> (try split) <;> omega
theorem mabs_ok {x : Int} (h : okI x) : okI (mabs x) := by unfold mabs; split; exact h; exact w32_ok _
theorem mmax_ok {x y : Int} (h : okI x) (h2 : okI y) : okI (mmax x y) := by unfold mmax; split; exact h2; exact h
theorem mmin_ok {x y : Int} (h : okI x) (h2 : okI y) : okI (mmin x y) := by unfold mmin; split; exact h2; exact h
/-! THE CELLS: 0 the class; 15, 20, 25 its banks (arrays behind them); 60 to 63 the law's arrays g, v, daring, row; 64 the script, which is no cell of the world -/
def kd (c : Nat) : (Nat × Nat) ⊕ Nat :=
  if c = 0 then .inr 1 else if c = 1 then .inl (2, 6) else if c < 8 then .inl (0, 40) else if c = 8 then .inl (0, 6) else if c = 9 then .inl (3, 4) else if c < 14 then .inl (1, 60) else if c = 14 then .inl (0, 4)
  else if c = 15 then .inr 0 else if c < 20 then .inl (0, 6) else if c = 20 then .inr 0 else if c < 25 then .inl (0, 6) else if c = 25 then .inr 0 else if c < 30 then .inl (0, 6) else if c = 30 then .inl (0, 40)
  else if c = 31 then .inl (2, 3) else if c < 35 then .inl (0, 40) else if c = 35 then .inl (0, 3) else if c = 36 then .inl (0, 6) else if c = 37 then .inl (0, 6) else if c = 38 then .inl (0, 7) else if c = 39 then .inl (2, 20)
  else if c < 60 then .inl (0, 7) else if c = 60 then .inl (0, 7) else if c = 61 then .inl (0, 20) else .inl (0, 6)
/-- a field's kind: 0 int, 1 long, 2 a cell -/
def fk (ci k : Nat) : Nat :=
  if ci = 0 then (if k < 4 then 2 else 0)
  else (if k = 8 then 0 else if k = 11 then 0 else if k = 12 then 1 else if k = 13 then 1 else if k = 14 then 0 else 2)
/-- which cell a field is -/
def rfc (c ci k : Nat) : Nat :=
  if ci = 0 then c + 1 + k
  else (if k = 0 then 1 else if k = 1 then 8 else if k = 2 then 9 else if k = 3 then 14 else if k = 4 then 15 else if k = 5 then 20 else if k = 6 then 25 else if k = 7 then 30 else if k = 9 then 31 else if k = 10 then 35 else if k = 15 then 36 else if k = 16 then 37 else if k = 17 then 38 else 39)
def nF (ci : Nat) : Nat := if ci = 0 then 7 else 19
def clR (ci : Nat) : String := if ci = 0 then RX0 else RX1
def clT (ci : Nat) : u_T := if ci = 0 then TX0 else TX1
def cls3 : List vw_C := [(RX0, TX0, 7), (RX1, TX1, 19)]
def tys (G : wC) : List (ClassId × FieldType) := [(G.2.1 0, .int), (G.2.1 1, .byte), (G.2.1 2, .array .int), (G.2.1 3, .array .byte)]
def fV (G : wC) (μ : Mem) (c ci k : Nat) : Value := if fk ci k = 0 then .int (Int32.ofInt (μ c k)) else if fk ci k = 1 then .long (Int64.ofInt (μ c k)) else .ref (G.2.2 (rfc c ci k))
def aC (G : wC) (μ : Mem) (c t : Nat) : (Nat → Int32) ⊕ (Nat → Int64) ⊕ (Nat → UInt32) ⊕ (Nat → UInt64) ⊕ (Nat → Option Nat) := if t < 2 then .inl (fun k => Int32.ofInt (μ c k)) else .inr (.inr (.inr (.inr (fun k => some (G.2.2 (c + 1 + k))))))
def cE (G : wC) (μ : Mem) (c : Nat) : va_E := match kd c with
  | .inl q => .inl (G.2.1 q.1, q.2, aC G μ c q.1)
  | .inr ci => .inr (ci, (List.range (nF ci)).map (fV G μ c ci))
def ws (G : wC) (μ : Mem) : va_W := (List.range 64).map (fun c => (G.2.2 c, cE G μ c))
def mk (c k : Nat) : Nat := match kd c with
  | .inl q => if q.1 = 1 then 2 else 0
  | .inr ci => if fk ci k = 1 then 1 else 0
def okK (n : Nat) (z : Int) : Prop := if n = 0 then okI z else if n = 1 then okL z else okB z
def okM (μ : Mem) : Prop := ∀ c k, okK (mk c k) (μ c k)
def wr (μ : Mem) (c k : Nat) (v : Int) : Mem := fun c' k' => if c' = c ∧ k' = k then v else μ c' k'
def cpy (μ : Mem) (c0 s c1 d n : Nat) : Mem := fun c' k' => if c' = c1 ∧ d ≤ k' ∧ k' < d + n then μ c0 (s + (k' - d)) else μ c' k'
def filM (μ : Mem) (c n : Nat) (v : Int) : Mem := fun c' k' => if c' = c ∧ k' < n then v else μ c' k'
theorem ws_at (G : wC) (μ : Mem) {c : Nat} (h : c < 64) : (ws G μ)[c]? = some (G.2.2 c, cE G μ c) := by
  unfold ws
  rw [List.getElem?_map, List.getElem?_range h]
  rfl
theorem ws_len (G : wC) (μ : Mem) : (ws G μ).length = 64 := by unfold ws; simp
theorem ws_set {G : wC} {μ μ' : Mem} {c : Nat} (h : c < 64) {x : Nat × va_E} (hx : x = (G.2.2 c, cE G μ' c)) (ho : ∀ c', c' ≠ c → cE G μ c' = cE G μ' c') : (ws G μ).set c x = ws G μ' := by
  apply List.ext_getElem?
  intro i
  rw [List.getElem?_set, ws_len]
  by_cases hi : i < 64
  · rw [ws_at G μ' hi]
    by_cases e : c = i
    · subst e
      rw [if_pos rfl, if_pos h, hx]
    · rw [if_neg e, ws_at G μ hi, ho i (fun q => e q.symm)]
  · have e1 : ¬ c = i := by omega
    rw [if_neg e1, List.getElem?_eq_none (by rw [ws_len]; omega), List.getElem?_eq_none (by rw [ws_len]; omega)]
theorem cE_congr {G : wC} {μ μ' : Mem} {c : Nat} (h : ∀ k, μ c k = μ' c k) : cE G μ c = cE G μ' c := by
  unfold cE
  have e : μ c = μ' c := funext h
  cases kd c with
  | inl q => simp only [aC, e]
  | inr ci =>
    have e2 : fV G μ c ci = fV G μ' c ci := funext fun k => by simp only [fV, e]
    simp only [e2]
theorem cE_arr {G : wC} {μ : Mem} {c t n : Nat} (h : kd c = .inl (t, n)) : cE G μ c = .inl (G.2.1 t, n, aC G μ c t) := by unfold cE; rw [h]
theorem cE_obj {G : wC} {μ : Mem} {c ci : Nat} (h : kd c = .inr ci) : cE G μ c = .inr (ci, (List.range (nF ci)).map (fV G μ c ci)) := by unfold cE; rw [h]
theorem kd_lt {c ci : Nat} (h : kd c = .inr ci) : c < 64 := by
  rcases Nat.lt_or_ge c 64 with h1 | h1
  · exact h1
  · exfalso
    unfold kd at h
    repeat (rw [if_neg (by omega)] at h)
    cases h
def kd_t (c : Nat) : Bool := match kd c with
  | .inl _ => true
  | .inr ci => decide (ci < 2)
theorem kd_ci0 : ∀ c, c < 64 → kd_t c = true := by decide
theorem kd_ci {c ci : Nat} (h : kd c = .inr ci) : ci < 2 := by
  have h1 := kd_ci0 c (kd_lt h)
  unfold kd_t at h1
  rw [h] at h1
  exact of_decide_eq_true h1
def isBk (b : Nat) : Prop := b = 15 ∨ b = 20 ∨ b = 25
def isTx (c : Nat) : Prop := 10 ≤ c ∧ c < 14
theorem kd_bk {b : Nat} (h : isBk b) : kd b = .inr 0 := by rcases h with rfl | rfl | rfl <;> rfl
theorem kd_ba {b c k : Nat} (h : isBk b) (hc : c = b + 1 + k) (hk : k < 4) : kd c = .inl (0, 6) := by
  subst hc
  match k, hk with
  | 0, _ => rcases h with rfl | rfl | rfl <;> rfl
  | 1, _ => rcases h with rfl | rfl | rfl <;> rfl
  | 2, _ => rcases h with rfl | rfl | rfl <;> rfl
  | 3, _ => rcases h with rfl | rfl | rfl <;> rfl
theorem bk_lt {b k : Nat} (h : isBk b) (hk : k < 5) : b + k < 64 := by rcases h with rfl | rfl | rfl <;> omega
theorem kd_row {c : Nat} (h : 2 ≤ c ∧ c < 8) : kd c = .inl (0, 40) := by
  have : c = 2 ∨ c = 3 ∨ c = 4 ∨ c = 5 ∨ c = 6 ∨ c = 7 := by omega
  rcases this with rfl | rfl | rfl | rfl | rfl | rfl <;> rfl
theorem kd_text {c : Nat} (h : 10 ≤ c ∧ c < 14) : kd c = .inl (1, 60) := by
  have : c = 10 ∨ c = 11 ∨ c = 12 ∨ c = 13 := by omega
  rcases this with rfl | rfl | rfl | rfl <;> rfl
theorem kd_kept {c : Nat} (h : 32 ≤ c ∧ c < 35) : kd c = .inl (0, 40) := by
  have : c = 32 ∨ c = 33 ∨ c = 34 := by omega
  rcases this with rfl | rfl | rfl <;> rfl
theorem kd_part {c : Nat} (h : 40 ≤ c ∧ c < 60) : kd c = .inl (0, 7) := by
  unfold kd
  repeat (first | rw [if_neg (by omega)] | rw [if_pos (by omega)])
/-! the script: how long, what stands in it -/
abbrev Scr : Type := Nat × (Nat → Int32)
def SC (σ : Scr) (G : wC) (A : Nat → Prop) (s : State) : Prop := va_X (G.2.2 64) σ.1 σ.2 s s.heap ∧ G.2.2 64 < s.heap.size ∧ ¬ A (G.2.2 64) ∧ σ.1 ≤ 260
