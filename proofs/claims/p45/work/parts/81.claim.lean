/-! THE CLAIM OUT OF ONE WALK OF THE LAW'S BODY. Your part is whole_start (and what it stands on); all else here is the same for every law, but numbers. -/
def R_law : String := "DareFordLaw"
def lw_P (b : Addr) (xs : List Int32) (args : Array Value) (s : State) : Prop := args = #[.ref b] ∧ s.IntsAt b xs ∧ xs.length ≤ 260 ∧ (Jvm.Cond.and given_1 narrow_1).before args s = true
def lw_Q (_ : Array Value) (s : State) (o : Outcome) (t : State) : Prop := o = .returned (some (.int 1)) ∧ Framed s o t [] 600000 7302250
def lw_Z (below : List Frame) (a : Array Value) (s : State) : State → Prop := fun t => ∃ o, t.status = .running ∧ Ended t below o ∧ lw_Q a s o t
/-- the law's own end, with 1 on the stack, nothing written that was there before, its room as the claim has it -/
theorem lw_ret {p : Program} {l : Launch} {e : Env} {s : State} {m : MethodId} {below : List Frame} {meth : Method} {c : Code} {b : Nat} (hx : p.tables.exec = Jvm.exec) (hb : c.code = code) (hr : meth.sig.returnType = ret) (hlocks : meth.locks = false) {pc : Nat} {H : Heap} {ls : Array Slot} (hdg : decode code pc = .ok (.ireturn, 1)) : W p l e room_1 s m #[Value.ref b] below meth c H [] 600000 7302250 (lw_Z below #[Value.ref b] s) (F0 m pc ls [.int 1]) := by
  intro T hT X
  obtain ⟨fs, hret, hrun, hended, hW, hframe⟩ := X.leave (v := some (.int 1)) (hlocks := hlocks) (fun h => by rw [hr] at h; cases h)
  have hmeth' : T.vm.method? m = some meth := X.method'
  refine ⟨T.setFrames fs, ?_, .returned (some (.int 1)), hrun, hended, rfl, ⟨_, rfl⟩, hW, hframe⟩
  jvm_step X.here [X.here.top, hx, hb, hdg, hmeth', hr, ret, narrow_b1]
  (try refine ⟨rfl, ?_⟩); (try refine ⟨rfl, ?_⟩)
  first | (intro acts; rw [hret _ acts rfl rfl rfl]) | rw [hret _ _ rfl rfl rfl]
  exact Steps.refl _
/-- what holds at the law's entry: the machine, the code, the tables' words (any of lw_tbl by 'hts w (by decide +kernel)'), the script of L ints xs at the cell b, what the Statement gives of the start (any of its parts by flat_of_before) -/
def lw_At (p : Program) (s : State) (m : MethodId) (meth : Method) (c : Code) (b L : Nat) (xs : Nat → Int32) : Prop :=
  p.tables.exec = Jvm.exec ∧ c.code = code ∧ meth.sig.returnType = ret ∧ c.maxLocals = 60 ∧ s.vm.findClass R_law = some m.cls ∧ (∀ w ∈ lw_tbl, w.before #[Value.ref b] s = true) ∧ va_X b L xs s s.heap ∧ b < s.heap.size ∧ meth.locks = false ∧ (Jvm.Cond.and given_1 narrow_1).before #[Value.ref b] s = true
-- ===== YOUR PART BEGINS =====
abbrev lA (s : State) : Nat → Prop := fun q => s.heap.size ≤ q
theorem law_lv : okE [(0, .inr (.inr 64)), (1, .inr (.inr 0)), (2, .inr (.inr 60)), (3, .inr (.inr 61)), (4, .inr (.inr 62)), (5, .inr (.inr 63))] := by
  intro q hq
  simp only [List.mem_cons, List.not_mem_nil, or_false] at hq
  rcases hq with rfl | rfl | rfl | rfl | rfl | rfl <;> trivial
/- YOUR PART: from the entry, for every script of at most 260 ints, the law comes to its end with true ('hflags': the launch's flags, for a law that throws: no stack traces) -/
set_option maxHeartbeats 40000000 in
set_option maxRecDepth 100000 in
theorem whole_start {p : Program} {e : Env} {s : State} {m : MethodId} {below : List Frame} {meth : Method} {c : Code} (l : Launch) (hflags : l.flags = flags0) {b L : Nat} {xs : Nat → Int32} (hL : L ≤ 260) (C0 : lw_At p s m meth c b L xs) : W p l e room_1 s m #[Value.ref b] below meth c s.heap [] 0 0 (lw_Z below #[Value.ref b] s) (entryFrame m ([Value.ref b] : List Value).toArray 60) := by
  obtain ⟨hx, hb, hr, hml, hown, hts, hX, hbl, hlocks, hgv⟩ := C0
  have hown : s.vm.findClass RL = some m.cls := hown
  have hg : ∀ w ∈ gd_tbl, w.before #[Value.ref b] s = true := fun w hw => hts w (List.mem_filter.mp hw).1
  have hn0 : ∀ w ∈ ns_tbl, va_Nw w s := fun w hw => va_Nw.of (ns_on hw) (hts w (List.mem_filter.mp hw).1)
  have hAI : va_AOA .int s := va_AOA.of (hts (Cond.arrayOver (.array .int)) (List.mem_of_getElem? (i := 50) (by decide +kernel)))
  have hAB : va_AOA .byte s := va_AOA.of (hts (Cond.arrayOver (.array .byte)) (List.mem_of_getElem? (i := 52) (by decide +kernel)))
  obtain ⟨c0, i0, k0⟩ := u_known (C := RX0) (T := TX0) (N := 7) hg inG0 (hg _ lk1_in0)
  obtain ⟨c1, i1, k1⟩ := u_known (C := RX1) (T := TX1) (N := 19) hg inG1 (hg _ lw_in1)
  obtain ⟨D, d1, d2, d4, d5⟩ : ∃ D : va_G, D.1 0 = c0 ∧ D.1 1 = c1 ∧ D.2 0 = i0 ∧ D.2 1 = i1 := ⟨(fun k => if k = 0 then c0 else c1, fun k => if k = 0 then i0 else i1), rfl, rfl, rfl, rfl⟩
  have hK : va_K D cls3 [] s := by
    refine ⟨fun c q hq => ?_, fun k q hq => absurd hq (by simp)⟩
    match c, hq with
    | 0, hq => cases hq; rw [d1, d4]; exact k0
    | 1, hq => cases hq; rw [d2, d5]; exact k1
    | n + 2, hq => exact absurd hq (by simp [cls3])
  have hA : ∀ q : Nat, s.heap.size ≤ q → lA s q := fun q h => h
  have hS : va_S (lA s) s.heap s.heap [] := va_S.rf
  have hP : va_P D cls3 [] s.heap := fun k q h => absurd h (by simp)
  have hD : va_D (lA s) [] := ⟨fun i j p q h => absurd h (by simp), fun k q h => absurd h (by simp)⟩
  have hl := lv_entry ([.ref b]) (n := 60) (Nat.le_of_ble_eq_true rfl)
  rw [lg_entry_eq]
  generalize (lg_sl ([.ref b]) ++ List.replicate (60 - (lg_sl ([.ref b])).length) Slot.unset).toArray = ls at hl ⊢
  have hl : lv_has ls 60 [(0, .ref b)] := hl
  refine va_new (C := RX1) (T := TX1) (N := 19) (ci := 1) (fs := [.null, .null, .null, .null, .null, .null, .null, .null, .int 0, .null, .null, .int 0, .long 0, .long 0, .int 0, .null, .null, .null, .null]) hx hb hg inG1 tyX1 tyX1_ok hown (hg _ lw_c1) (hg _ lw_in1) (hg _ lw_i1) hK hP hD hS hA rfl z_1 (Nat.le_of_ble_eq_true rfl) (Nat.le_of_ble_eq_true rfl) dL_law_0 (fun h1 H hP hD hS => ?_)
  have hP : va_P D cls3 [(h1, .inr (1, [.null, .null, .null, .null, .null, .null, .null, .null, .int 0, .null, .null, .int 0, .long 0, .long 0, .int 0, .null, .null, .null, .null]))] H := hP
  have hD : va_D (lA s) [(h1, .inr (1, [.null, .null, .null, .null, .null, .null, .null, .null, .int 0, .null, .null, .int 0, .long 0, .long 0, .int 0, .null, .null, .null, .null]))] := hD
  have hF1 := va_free (wc := [(h1, .inr (1, [.null, .null, .null, .null, .null, .null, .null, .null, .int 0, .null, .null, .int 0, .long 0, .long 0, .int 0, .null, .null, .null, .null]))]) hD hS hA [0] rfl
  refine lv_dup hx hb dL_law_3 rfl ?_
  refine va_callv (va_runI (As := []) (rest := [.ref h1]) (b := h1) (n := 0) ⟨hx, hb, hml, hown, hg⟩ (K_X1_init l D h1 H.size) ⟨callB_of 0 hg (gd_cons lw_cd1) rfl rfl rfl (hg _ lw_i1) (hg _ lw_m1) yo1_init ⟨(Nat.le_of_ble_eq_true rfl), (Nat.le_of_ble_eq_true rfl)⟩, rfl, hg _ lw_im1⟩ ⟨b_1 _ _ _ _, fun U hU hW => ⟨rfl, by rw [hU], by rw [hU]; exact hP, va_K.moved hW.alike hK, hD.weaken (fun _ _ _ _ => trivial), fun w hw => ns_warm hw hW (hn0 w hw), AOA_moved hW.alike hAI, AOA_moved hW.alike hAB⟩⟩ rfl rfl hl.1 rfl (lv_room (Nat.le_of_ble_eq_true rfl)) dL_law_4 ⟨(Nat.le_of_ble_eq_true rfl), (Nat.le_of_ble_eq_true rfl)⟩) hS (fun q _ h => hF1 q h) hF1 (fun u t H1 locs ht hvm hw hB hz1 hk1 hS => ?_)
  obtain ⟨cA, cB, cC, cE9, ad, F, had, hK1, hP1, hD1, hG⟩ := hB
  rw [ht] at hP1
  have hK := va_K.moved hvm.symm hK1
  have hP := hP1
  have hD := hD1.weaken (fun _ q _ h => hF1 q.1 h)
  generalize H1 = H at hP hS ⊢
  refine lv_astore_n (lv' := [(1, .ref h1), (0, .ref b)]) hx hb dL_law_7 rfl hl (by decide) rfl (fun ls hl => ?_)
  refine lv_bipush (v := 7) hx hb dL_law_8 (by decide) ?_
  refine va_newa (atype := .int) hx hb (hg _ gd_aI) (ty := .int) rfl hK hP hD hS hA (N' := 7) (a0 := (7, .inl fun _ => 0)) (fun _ => rfl) (by decide) (by decide) (by decide) (Nat.le_of_ble_eq_true rfl) (Nat.le_of_ble_eq_true rfl) dL_law_10 (fun q1 cN H hK hP hD hS => ?_)
  obtain rfl : cN = cA := K_same hK (i := 0) (j := 4) rfl rfl
  have hK := hK.sub (tys' := [(cN, .int), (cB, .byte), (cC, .array .int), (cE9, .array .byte)]) [0, 1, 2, 3] rfl
  obtain ⟨cA, rfl⟩ : ∃ z, z = cN := ⟨_, rfl⟩
  have hP : va_P D cls3 (F ++ [(q1, .inl (cA, 7, .inl fun _ => 0))]) H := hP
  have hD : va_D (lA s) (F ++ [(q1, .inl (cA, 7, .inl fun _ => 0))]) := hD
  refine lv_astore_n (lv' := [(2, .ref q1), (1, .ref h1), (0, .ref b)]) hx hb dL_law_12 rfl hl (by decide) rfl (fun ls hl => ?_)
  refine lv_bipush (v := 20) hx hb dL_law_13 (by decide) ?_
  refine va_newa (atype := .int) hx hb (hg _ gd_aI) (ty := .int) rfl hK hP hD hS hA (N' := 20) (a0 := (20, .inl fun _ => 0)) (fun _ => rfl) (by decide) (by decide) (by decide) (Nat.le_of_ble_eq_true rfl) (Nat.le_of_ble_eq_true rfl) dL_law_15 (fun q2 cN H hK hP hD hS => ?_)
  obtain rfl : cN = cA := K_same hK (i := 0) (j := 4) rfl rfl
  have hK := hK.sub (tys' := [(cN, .int), (cB, .byte), (cC, .array .int), (cE9, .array .byte)]) [0, 1, 2, 3] rfl
  obtain ⟨cA, rfl⟩ : ∃ z, z = cN := ⟨_, rfl⟩
  obtain ⟨hP, hD⟩ := S_more hP hD
  have hP : va_P D cls3 (F ++ [(q1, .inl (cA, 7, .inl fun _ => 0)), (q2, .inl (cA, 20, .inl fun _ => 0))]) H := hP
  have hD : va_D (lA s) (F ++ [(q1, .inl (cA, 7, .inl fun _ => 0)), (q2, .inl (cA, 20, .inl fun _ => 0))]) := hD
  refine lv_astore_n (lv' := [(3, .ref q2), (2, .ref q1), (1, .ref h1), (0, .ref b)]) hx hb dL_law_17 rfl hl (by decide) rfl (fun ls hl => ?_)
  refine lv_bipush (v := 6) hx hb dL_law_18 (by decide) ?_
  refine va_newa (atype := .int) hx hb (hg _ gd_aI) (ty := .int) rfl hK hP hD hS hA (N' := 6) (a0 := (6, .inl fun _ => 0)) (fun _ => rfl) (by decide) (by decide) (by decide) (Nat.le_of_ble_eq_true rfl) (Nat.le_of_ble_eq_true rfl) dL_law_20 (fun q3 cN H hK hP hD hS => ?_)
  obtain rfl : cN = cA := K_same hK (i := 0) (j := 4) rfl rfl
  have hK := hK.sub (tys' := [(cN, .int), (cB, .byte), (cC, .array .int), (cE9, .array .byte)]) [0, 1, 2, 3] rfl
  obtain ⟨cA, rfl⟩ : ∃ z, z = cN := ⟨_, rfl⟩
  obtain ⟨hP, hD⟩ := S_more hP hD
  have hP : va_P D cls3 (F ++ [(q1, .inl (cA, 7, .inl fun _ => 0)), (q2, .inl (cA, 20, .inl fun _ => 0)), (q3, .inl (cA, 6, .inl fun _ => 0))]) H := hP
  have hD : va_D (lA s) (F ++ [(q1, .inl (cA, 7, .inl fun _ => 0)), (q2, .inl (cA, 20, .inl fun _ => 0)), (q3, .inl (cA, 6, .inl fun _ => 0))]) := hD
  refine lv_astore (lv' := [(4, .ref q3), (3, .ref q2), (2, .ref q1), (1, .ref h1), (0, .ref b)]) hx hb dL_law_22 hl (by decide) rfl (fun ls hl => ?_)
  refine lv_bipush (v := 6) hx hb dL_law_24 (by decide) ?_
  refine va_newa (atype := .int) hx hb (hg _ gd_aI) (ty := .int) rfl hK hP hD hS hA (N' := 6) (a0 := (6, .inl fun _ => 0)) (fun _ => rfl) (by decide) (by decide) (by decide) (Nat.le_of_ble_eq_true rfl) (Nat.le_of_ble_eq_true rfl) dL_law_26 (fun q4 cN H hK hP hD hS => ?_)
  obtain rfl : cN = cA := K_same hK (i := 0) (j := 4) rfl rfl
  have hK := hK.sub (tys' := [(cN, .int), (cB, .byte), (cC, .array .int), (cE9, .array .byte)]) [0, 1, 2, 3] rfl
  obtain ⟨hP, hD⟩ := S_more hP hD
  have hP : va_P D cls3 (F ++ [(q1, .inl (cN, 7, .inl fun _ => 0)), (q2, .inl (cN, 20, .inl fun _ => 0)), (q3, .inl (cN, 6, .inl fun _ => 0)), (q4, .inl (cN, 6, .inl fun _ => 0))]) H := hP
  have hD : va_D (lA s) (F ++ [(q1, .inl (cN, 7, .inl fun _ => 0)), (q2, .inl (cN, 20, .inl fun _ => 0)), (q3, .inl (cN, 6, .inl fun _ => 0)), (q4, .inl (cN, 6, .inl fun _ => 0))]) := hD
  refine lv_astore (lv' := [(5, .ref q4), (4, .ref q3), (3, .ref q2), (2, .ref q1), (1, .ref h1), (0, .ref b)]) hx hb dL_law_28 hl (by decide) rfl (fun ls hl => ?_)
  obtain ⟨G, g0, gA, gB, gC, gE, gad, gm, gs⟩ : ∃ G : wC, G.1 = D ∧ G.2.1 0 = cN ∧ G.2.1 1 = cB ∧ G.2.1 2 = cC ∧ G.2.1 3 = cE9 ∧ (∀ c, c < 60 → G.2.2 c = ad c) ∧ (∀ c, c < 4 → G.2.2 (60 + c) = [q1, q2, q3, q4].getD c 0) ∧ G.2.2 64 = b :=
    ⟨(D, fun t => if t = 0 then cN else if t = 1 then cB else if t = 2 then cC else cE9, fun c => if c < 60 then ad c else if c = 64 then b else [q1, q2, q3, q4].getD (c - 60) 0), rfl, rfl, rfl, rfl, rfl, fun c hc => if_pos hc, fun c hc => by
      show (if 60 + c < 60 then _ else if 60 + c = 64 then _ else _) = _
      rw [if_neg (by omega), if_neg (by omega), show 60 + c - 60 = c by omega], rfl⟩
  obtain ⟨hP, hD⟩ := ws_join (G := G) (ad := ad) hP hD (fun A1 p1 d1 => hG _ A1 G gA gB gC gE gad p1 d1) (fun p2 d2 => arr_end p2 d2 G gA gm) (fun j q hj => by
    have hl : j < 4 := by
      have := (List.getElem?_eq_some_iff.mp hj).1
      rw [List.length_map, List.length_range] at this
      exact this
    rw [List.getElem?_map, List.getElem?_range hl] at hj
    obtain rfl := Option.some.inj hj
    show ∃ e, _ = some (G.2.2 (60 + j), e)
    rw [gm j hl]
    exact ad_of (w := [(q1, .inl (cN, 7, .inl fun _ => 0)), (q2, .inl (cN, 20, .inl fun _ => 0)), (q3, .inl (cN, 6, .inl fun _ => 0)), (q4, .inl (cN, 6, .inl fun _ => 0))]) hl)
  have hKG : va_K G.1 cls3 (tys G) s := by
    unfold tys
    rw [g0, gA, gB, gC, gE]
    exact hK
  rw [← g0] at hP
  have a0 : G.2.2 0 = h1 := (gad 0 (by decide)).trans had
  have a60 : G.2.2 60 = q1 := gm 0 (by decide)
  have a61 : G.2.2 61 = q2 := gm 1 (by decide)
  have a62 : G.2.2 62 = q3 := gm 2 (by decide)
  have a63 : G.2.2 63 = q4 := gm 3 (by decide)
  have hl := lv_sub (l' := [(0, .ref b), (1, .ref h1), (2, .ref q1), (3, .ref q2), (4, .ref q3), (5, .ref q4)]) hl [5, 4, 3, 2, 1, 0] rfl
  obtain ⟨⟨v, ν⟩, hv1, hv2⟩ := law_z (L, xs)
  have hv2 : v = 1 := hv2
  subst hv2
  refine S_law (σ := (L, xs)) μz (1, ν) hv1 ?_ okS_n mz_ok p l e room_1 s m #[Value.ref b] below meth c G (lA s) _ _ ls ⟨hx, hb, hml, hown, hg, hn0, hlocks, hr, hKG, hA, (Nat.le_of_ble_eq_true rfl), (Nat.le_of_ble_eq_true rfl), ⟨?_, ?_, ?_, hL⟩, (Nat.le_of_ble_eq_true rfl), (Nat.le_of_ble_eq_true rfl), ?_⟩ ?_ ⟨hP, hD, hS⟩
  · exact law_lv
  · show va_X (G.2.2 64) L xs s s.heap
    rw [gs]
    exact hX
  · rw [gs]
    exact hbl
  · rw [gs]
    exact fun h => absurd hbl (Nat.not_lt.mpr h)
  · intro H2 locs2 pc2 ls2 vst2 hP2 hD2 hS2 hM2 hR2 hI2
    refine va_forget hS2.2.2 ?_
    refine W.widen (k := 600000) (n := 7302250) (Nat.le_of_ble_eq_true rfl) (Nat.le_of_ble_eq_true rfl) ?_
    rcases hI2 with ⟨z, j1, j2, rfl, j4⟩ | ⟨z, j1, j2, rfl, j4⟩ | ⟨j1, j2, rfl, j4⟩
    · have hz : z = 1 := (Sum.inl.inj (Option.some.inj j2)).symm
      subst hz
      exact lw_ret hx hb hr hlocks j1
    · cases j2
    · cases j2
  · have e : cvL G [(0, .inr (.inr 64)), (1, .inr (.inr 0)), (2, .inr (.inr 60)), (3, .inr (.inr 61)), (4, .inr (.inr 62)), (5, .inr (.inr 63))] = [(0, .ref (G.2.2 64)), (1, .ref (G.2.2 0)), (2, .ref (G.2.2 60)), (3, .ref (G.2.2 61)), (4, .ref (G.2.2 62)), (5, .ref (G.2.2 63))] := rfl
    rw [e, gs, a0, a60, a61, a62, a63]
    exact hl
-- ===== YOUR PART ENDS =====
set_option maxHeartbeats 4000000 in
theorem lw_walk (l : Launch) (hflags : l.flags = flags0) (b : Addr) (xs : List Int32) : MetFree l x (headSpec (Jvm.Cond.code x code maxLocals ret :: tables_1) room_1) (lw_P b xs) (fun _ _ _ _ _ => True) lw_Q := by
  refine MetFree.of_bodyS (code := code) (maxLocals := maxLocals) (ret := ret) (by decide) ?_ ?_
  · intro args s m h hn
    obtain ⟨meth, c, h1, h2, h3, h4, h5, h6, -, -⟩ := Cond.code_spec hn (atoms_spec (ws := Jvm.Cond.code x code maxLocals ret :: tables_1) h _ List.mem_cons_self)
    exact ⟨meth, c, h1, h2, h3, h4, h5, h6⟩
  · intro p e s m args below meth c s₁ B hml0 hP _
    obtain ⟨rfl, hx, hbd, hgv⟩ := hP
    obtain ⟨scr, harrAt, hlist, hof, hsmall⟩ := hx
    obtain ⟨hcb, hkn, -, -⟩ := State.arrayAt?_spec harrAt
    have hown : s.vm.findClass R_law = some m.cls := findClass_of_methodNamed B.named
    have hts0 : ∀ c ∈ (Jvm.Cond.code x code maxLocals ret :: tables_1), c.before #[Value.ref b] s = true := atoms_spec (ws := Jvm.Cond.code x code maxLocals ret :: tables_1) B.pre
    have hts : ∀ w ∈ lw_tbl, w.before #[Value.ref b] s = true := k2_hts_sels lw_privs (fun w hw => hts0 w (List.mem_cons_of_mem _ hw)) lw_privs_ok
    have hml : c.maxLocals = 60 := B.maxLocals_eq (hts0 _ List.mem_cons_self)
    have X₀ : Stand p l e room_1 s m #[Value.ref b] below meth c s₁ [] 0 0 := Stand.of_body B
    have hh0 : s₁.heap = s.heap := by rw [B.state]; rfl
    have hsz : scr.slots.size = xs.length := by rw [← Array.length_toList, hlist, List.length_map]
    have hval : ∀ j : Nat, j < xs.length → scr.slots[j]? = some (.int (xs.getD j 0)) := fun j hj => by
      rw [← Array.getElem?_toList, hlist]
      simp [hj]
    have hbl : b < s.heap.size := (Array.getElem?_eq_some_iff.mp hcb).1
    have hX : va_X b xs.length (fun j => xs.getD j 0) s s.heap := ⟨scr, hcb, hof, hkn, hsz, hval⟩
    have K : W p l e room_1 s m #[Value.ref b] below meth c s₁.heap [] 0 0 (lw_Z below #[Value.ref b] s) (entryFrame m ([Value.ref b] : List Value).toArray 60) := by
      rw [hh0]
      exact whole_start l hflags hbd ⟨B.exec, B.bytes, B.returns, hml, hown, hts, hX, hbl, B.notSynchronized, hgv⟩
    obtain ⟨t, a1, o, b1, b2, b3⟩ := K s₁ rfl X₀
    exact ⟨t, o, a1, b1, b2, b3⟩
theorem lw_pre_spec {args : Array Value} {s : State} (h : (Jvm.Cond.and given_1 narrow_1).before args s = true) (hr : rest_1_c.before args s = true) : ∃ (b : Addr) (xs : List Int32), lw_P b xs args s := by
  have hs := flat_of_before _ h
  have hq := flat_of_before _ hr
  have hc : (Cond.count 1).before args s = true := hs _ (by decide +kernel)
  have harr : (Cond.arrayOf (.arg 0) .int).before args s = true := hs _ (by decide +kernel)
  have hle : (Cond.le (.length (.arg 0)) (.int 260)).before args s = true := hs _ (by decide +kernel)
  have hlen : (Cond.isInt (.length (.arg 0))).before args s = true := hq _ (by decide +kernel)
  have hall : (Cond.all (.arg 0) (.isInt (.elem (.arg 0) (.index 0)))).before args s = true := hq _ (by decide +kernel)
  obtain ⟨b, xs, hb, hx⟩ := State.ints_of_pre rfl harr hlen hall
  have hsm : xs.length < 2 ^ 31 := hx.choose_spec.2.2.2
  have hev : (Term.length (.arg 0)).eval args s none [] s = some (.int xs.length.toInt32) := hx.length_eval hb
  have hv := Cond.le_ints hev (show (Term.int 260).eval args s none [] s = some (.int 260) from rfl)
  have hd : xs.length.toInt32 ≤ 260 := by
    simpa [Cond.before, Cond.holds, hv] using hle
  have hN : xs.length ≤ 260 := (Int32.ofNat_le_ofNat hsm (by decide)).mp (show Int32.ofNat xs.length ≤ Int32.ofNat 260 from hd)
  exact ⟨b, xs, Cond.one_arg hc (show args[0]? = some (.ref b) from hb), hx, hN, h⟩
theorem lw_comes (l : Launch) (hflags : l.flags = flags0) : Comes l x (Jvm.Cond.code x code maxLocals ret :: tables_1) room_1 (fun tb e args s => Calls_1 tb e args s ∧ rest_1 tb e args s ∧ Pre_1 tb e args s)
    (fun _ _ args s o t => lw_Q args s o t) := by
  intro p e ha hc hk s m args below hf hfit hheap happ hpre
  obtain ⟨b, xs, hP⟩ := lw_pre_spec hpre.2.2 hpre.2.1
  obtain ⟨k, o, h1, h2, h3, hQ⟩ := lw_walk l hflags b xs p e ha hc hk s m args below hf ((Spec.applies_iff_loose hf).mp happ).1 hP trivial
  exact ⟨k, o, h1, h2, h3, hQ⟩
theorem lw_frame {s t : State} {o : Outcome} {args : Array Value} (h : Framed s o t [] 600000 7302250) :
    Framed s o t (fieldLocs frame_1_writes args s ++ arrayLocs frame_1_arrays args s ++ staticLocs frame_1_statics s) 600000 7302250 := h
theorem lw_limb (L : Cond) (hL : ∀ (args : Array Value) (s t : State), L.after args s (.returned (some (.int 1))) t = true) :
    ArmFor flags0 classFile x code maxLocals ret World_1 tables_1 room_1 Calls_1 rest_1 Pre_1
      (fun tb e a s o t => postC L tb e a s o t ∧ Framed s o t (fieldLocs frame_1_writes a s ++ arrayLocs frame_1_arrays a s ++ staticLocs frame_1_statics s) 600000 7302250) := by
  intro l hflags _ _ p e ha hc hk s m args below hf hfit hheap happ hpre
  obtain ⟨k, o, h1, h2, h3, rfl, hF⟩ := lw_comes l hflags p e ha hc hk s m args below hf hfit hheap happ hpre
  exact ⟨k, _, h1, h2, h3, hL args s _, lw_frame hF⟩
theorem i_vc : Claimed_1_1 ∧ Claimed_1_2 := ⟨lw_limb limb_1_1 (fun args s t => by simp [limb_1_1, Cond.after, Cond.holds, Cond.value]), lw_limb limb_1_2 (fun args s t => Cond.after_iff.mpr (by
  first | (rw [show limb_1_2 = Cond.eq .result (.int 1) from rfl, Cond.eq_ints (x := 1) (y := 1) rfl rfl]; simp; done) | (simp [limb_1_2, Cond.value, Term.eval]; done)))⟩
