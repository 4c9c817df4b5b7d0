/-! THE LAW'S OWN FRAME: the script behind local 0, the two behind 1 and 2, the place in 3 -/
def LC : Type := Program × Launch × Env × State × MethodId × List Frame × Method × Code × Nat × Nat × (Nat → Int32) × wC × Nat × Nat × (State → Prop)
abbrev LC.p (X : LC) : Program := X.1
abbrev LC.l (X : LC) : Launch := X.2.1
abbrev LC.e (X : LC) : Env := X.2.2.1
abbrev LC.s (X : LC) : State := X.2.2.2.1
abbrev LC.m (X : LC) : MethodId := X.2.2.2.2.1
abbrev LC.below (X : LC) : List Frame := X.2.2.2.2.2.1
abbrev LC.meth (X : LC) : Method := X.2.2.2.2.2.2.1
abbrev LC.c (X : LC) : Code := X.2.2.2.2.2.2.2.1
abbrev LC.b (X : LC) : Nat := X.2.2.2.2.2.2.2.2.1
abbrev LC.L (X : LC) : Nat := X.2.2.2.2.2.2.2.2.2.1
abbrev LC.xs (X : LC) : Nat → Int32 := X.2.2.2.2.2.2.2.2.2.2.1
abbrev LC.G (X : LC) : wC := X.2.2.2.2.2.2.2.2.2.2.2.1
abbrev LC.k (X : LC) : Nat := X.2.2.2.2.2.2.2.2.2.2.2.2.1
abbrev LC.n (X : LC) : Nat := X.2.2.2.2.2.2.2.2.2.2.2.2.2.1
abbrev LC.Q (X : LC) : State → Prop := X.2.2.2.2.2.2.2.2.2.2.2.2.2.2
abbrev lA (s : State) : Nat → Prop := fun q => s.heap.size ≤ q
def LFx (X : LC) : Prop := X.p.tables.exec = Jvm.exec ∧ X.c.code = code ∧ X.c.maxLocals = 4 ∧ X.s.vm.findClass RL = some X.m.cls ∧ (∀ w ∈ gd_tbl, w.before #[Value.ref X.b] X.s = true) ∧ va_K X.G.1 cls3 (tys X.G) X.s ∧ va_X X.b X.L X.xs X.s X.s.heap ∧ X.b < X.s.heap.size ∧ (∀ w ∈ ns_tbl, va_Nw w X.s) ∧ X.k ≤ 600000 ∧ X.n ≤ 7302250
def LAt (X : LC) (μ : Mem) (pc : Nat) (ls : Array Slot) (st : List Value) : Prop :=
  ∀ (H : Heap) (locs : List Loc), va_P X.G.1 cls3 (ws X.G μ) H → va_D (lA X.s) (ws X.G μ) → va_S (lA X.s) X.s.heap H locs → W X.p X.l X.e room_1 X.s X.m #[Value.ref X.b] X.below X.meth X.c H locs X.k X.n X.Q (F0 X.m pc ls st)
def lvs (X : LC) (i : Nat) : List (Nat × Value) := [(0, .ref X.b), (1, .ref (X.G.2.2 0)), (2, .ref (X.G.2.2 60)), (3, .int (nI i))]
section LAWROWS
variable {X : LC} {μ : Mem} {pc i : Nat} {ls : Array Slot} {st : List Value}
theorem L_x1 (hF : LFx X) (hl : lv_has ls 4 (lvs X i)) (hd : decode code pc = .ok (.aload_n 1, 1)) (kk : LAt X μ (pc + 1) ls (.ref (X.G.2.2 0) :: st)) : LAt X μ pc ls st := fun H locs hP hD hS => lv_aload_n hF.1 hF.2.1 hd rfl (lv_at hl 1 rfl) (kk H locs hP hD hS)
theorem L_x2 (hF : LFx X) (hl : lv_has ls 4 (lvs X i)) (hd : decode code pc = .ok (.aload_n 2, 1)) (kk : LAt X μ (pc + 1) ls (.ref (X.G.2.2 60) :: st)) : LAt X μ pc ls st := fun H locs hP hD hS => lv_aload_n hF.1 hF.2.1 hd rfl (lv_at hl 2 rfl) (kk H locs hP hD hS)
theorem L_arg {j : Int} (hF : LFx X) (hl : lv_has ls 4 (lvs X i)) (hi : i + 6 ≤ X.L) (hL : X.L ≤ 3072) (d0 : decode code pc = .ok (.aload_n 0, 1)) (d1 : decode code (pc + 1) = .ok (.iload_n 3, 1)) (d2 : decode code (pc + 2) = .ok (.iconst j, 1)) (d3 : decode code (pc + 3) = .ok (.iadd, 1)) (d4 : decode code (pc + 4) = .ok (.iaload, 1)) (hj : 0 ≤ j ∧ j < 6) (hjv : Int32.ofInt j = nI j.toNat)
    (kk : LAt X μ (pc + 5) ls (cv X.G (.inl (X.xs (i + j.toNat)).toInt) :: st)) : LAt X μ pc ls st := by
  intro H locs hP hD hS
  obtain ⟨hx, hb, hml, ho, hg, hK, hX, hbl, hn0, hk, hn⟩ := hF
  have k2 := kk H locs hP hD hS
  rw [show cv X.G (.inl (X.xs (i + j.toNat)).toInt) = .int (X.xs (i + j.toNat)) from congrArg Value.int (n_toI _).symm] at k2
  refine lv_aload_n hx hb d0 rfl (lv_at hl 0 rfl) ?_
  refine lv_iload_n hx hb d1 rfl (lv_at hl 3 rfl) ?_
  refine lv_iconst (v := nI j.toNat) hx hb d2 hjv ?_
  refine lv_iadd hx hb d3 ?_
  rw [nI_add]
  have h_in : vp_in (nI (i + j.toNat)) X.L := vp_in_nI (by omega) (by omega)
  refine va_sld hx hb hX hbl (Nat.not_le.mpr hbl) hS h_in d4 ?_
  rw [nI_clamp (by omega)]
  exact k2
theorem L_call {α : Type} {idx b0 ci d' nL' : Nat} {y : MethodName} {cc' : ByteArray} {rt' : Option FieldType} {us : List mV} {o : Option α} {a : α} {w' : α → Option mV × Mem} {rest : List Value} (hF : LFx X) (hl : lv_has ls 4 (lvs X i)) (hd : decode code pc = .ok (.invokevirtual idx, 3)) (hc : Con y cc' nL' rt' d' (.inr (.inr b0) :: us) μ o w') (ho : o = some a) (hus : okS us) (hM : okM μ) (hm : mlV RL idx y cc' nL' rt') (hy : yOk y us.length) (hkd : kd b0 = .inr ci) (hcl : y.cls = clR ci) (hdd : dOk 2047 d' nL' = true) (hst : st = (us.map (cv X.G)).reverse ++ .ref (X.G.2.2 b0) :: rest) (hcat : (rest.map fun v => v.category).sum ≤ 8)
    (kk : okM (w' a).2 → LAt X (w' a).2 (pc + 3) ls (((w' a).1.map (cv X.G)).toList ++ rest)) : LAt X μ pc ls st := by
  intro H locs hP hD hS9
  obtain ⟨hx, hb, hml, hown, hg, hK, hX, hbl, hn0, hk, hn⟩ := hF
  have h1 := dOk_ok hdd
  have hrec := va_recv hK hP (ci_cls (kd_ci hkd)) ((ws_at X.G μ (kd_lt hkd)).trans (by rw [cE_obj hkd]))
  have hf : ∀ q : Nat, va_A (ws X.G μ) H.size q → lA X.s q := by
    intro q hq
    rcases hq with ⟨k, e9, h⟩ | h
    · exact hD.2 k _ h
    · exact Nat.le_trans hS9.1 h
  have hr := va_runV (p := X.p) (l := X.l) (e := X.e) (R := room_1) (below := X.below) (meth := X.meth) (H := H) (locs := locs) (cells := X.k) (slots := X.n) (C := y.cls) (As := us.map (cv X.G)) (rest := rest) (index := idx) (n := us.length) (b := X.G.2.2 b0) (g := F0 X.m pc ls st) ⟨hx, hb, hml, hown, hg⟩ (hc a ho (okS_c (v := .inr (.inr b0)) trivial hus) hM X.l X.G H.size) ⟨callB_of us.length hg (gd_cons hm.2.2.2) rfl rfl rfl (hg _ hm.2.2.1) (hg _ hm.1) hy ⟨by show d' + 1 ≤ 2048; omega, by show 8 + (nL' + 11) + 40 * d' ≤ 84000; omega⟩, hg _ hm.2.1.1, hg _ hm.2.1.2⟩ ⟨PreC_blind X.G _ μ H.size, by rw [hcl]; exact hrec, fun U hU hWm => ⟨rfl, by rw [hU], by rw [hU]; exact hP, va_K.moved hWm.alike hK, hD.weaken (fun _ _ _ _ => trivial), fun u hu => ns_warm hu hWm (hn0 u hu)⟩⟩ rfl (by simp) hl.1 hst (lv_room hcat) hd ⟨by show X.k + 0 ≤ 600000; omega, by show X.n + 0 ≤ 7302250; omega⟩
  intro T hT Y
  obtain ⟨v, st₀, t, T', L1, h0, Y', hLo, e1, e2, ⟨⟨hv, hP1, hK1, hD1, hM1, hR1⟩, hz, hk9⟩, stp⟩ := hr T hT Y
  cases hv
  rw [h0] at hz hk9
  have k9 := kk hM1 T'.heap (locs ++ L1) (by rw [e1]; exact hP1) (ws_D hD) ⟨Nat.le_trans hS9.1 (by rw [e1]; exact hz), fun q h1 h2 => by rw [e1, hk9 q (Nat.lt_of_lt_of_le h1 hS9.1) (fun z => h2 (hf q z))]; exact hS9.2.1 q h1 h2, fun q hq => by
      rcases List.mem_append.mp hq with h | h
      · exact hS9.2.2 q h
      · exact hf _ (hLo q h)⟩
  obtain ⟨t2, a1, b1⟩ := k9 T' rfl Y'
  exact ⟨t2, stp t2 a1, b1⟩
theorem L_eqI {z : Int} {off : Int} {tgt : Nat} (hF : LFx X) (hd : decode code pc = .ok (.if_icmp .eq off, 3)) (ht : (pc : Int) + off = (tgt : Int)) (kk : LAt X μ tgt ls []) : LAt X μ pc ls [cv X.G (.inl z), cv X.G (.inl z)] := fun H locs hP hD hS => lv_icmp_eq hF.1 hF.2.1 hd ht (fun _ => kk H locs hP hD hS) (fun h => absurd rfl h)
theorem L_eqL {z : Int} {off : Int} {tgt : Nat} (hF : LFx X) (hd0 : decode code pc = .ok (.lcmp, 1)) (hd : decode code (pc + 1) = .ok (.ifCond .eq off, 3)) (ht : ((pc + 1 : Nat) : Int) + off = (tgt : Int)) (kk : LAt X μ tgt ls []) : LAt X μ pc ls [cv X.G (.inr (.inl z)), cv X.G (.inr (.inl z))] := fun H locs hP hD hS => W.lcmp hF.1 hF.2.1 hd0 (lv_if_eq hF.1 hF.2.1 hd ht (fun _ => kk H locs hP hD hS) (fun h => absurd (by simp [lg_cmp]) h))
end LAWROWS
