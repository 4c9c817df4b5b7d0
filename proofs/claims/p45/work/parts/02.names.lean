def va_AOA (ty : FieldType) (U : State) : Prop := (Cond.arrayOver (.array ty)).before #[] U = true
theorem va_AOA.of {ty : FieldType} {A : Array Value} {U : State} (h : (Cond.arrayOver (.array ty)).before A U = true) : va_AOA ty U := h
theorem va_AOA.use {ty : FieldType} {A : Array Value} {U : State} (h : va_AOA ty U) : (Cond.arrayOver (.array ty)).before A U = true := h
/-! ===== BEGIN words of one list among another's, by their places ===== -/
theorem goodIn_r {big : List Cond} (ws : List Cond) (ps : List Nat) (hp : ws = ps.filterMap (fun i => big[i]?)) (h : ws.all goodWord = true) : GoodIn big ws := by
  intro w hw
  have h1 := List.all_eq_true.mp h w hw
  rw [hp] at hw
  obtain ⟨i, -, hi⟩ := List.mem_filterMap.mp hw
  have hm : w ∈ big := by first | exact List.mem_of_getElem? hi | exact List.getElem?_mem hi
  exact ⟨hm, good_of_word h1⟩
theorem goodIn_app {big a b : List Cond} (ha : GoodIn big a) (hb : GoodIn big b) : GoodIn big (a ++ b) := fun w h => (List.mem_append.mp h).elim (ha w) (hb w)
theorem goodIn_ca {big a b : List Cond} {c : Cond} (ha : GoodIn big (c :: a)) (hb : GoodIn big b) : GoodIn big (c :: (a ++ b)) := fun w h => (List.mem_cons.mp h).elim (fun e => ha w (List.mem_cons.mpr (Or.inl e))) (fun h => (List.mem_append.mp h).elim (fun h => ha w (List.mem_cons.mpr (Or.inr h))) (hb w))
theorem goodIn_sub {big ws : List Cond} (hm : ∀ w ∈ ws, w ∈ big) (h : ws.all goodWord = true) : GoodIn big ws := fun w hw => ⟨hm w hw, good_of_word (List.all_eq_true.mp h w hw)⟩
/-! ===== END ===== -/

/-! ===== BEGIN new T[n][m]: the outer array a place, the inner ones among the pooled ===== -/
/-- f, but v at every address of l -/
def vr_up {α : Type} (f : Nat → α) (l : List Nat) (v : α) : Nat → α := fun a => if a ∈ l then v else f a
theorem vr_up_in {α : Type} {f : Nat → α} {l : List Nat} {v : α} {a : Nat} (h : a ∈ l) : vr_up f l v a = v := if_pos h
theorem vr_up_ne {α : Type} {f : Nat → α} {l : List Nat} {v : α} {a : Nat} (h : a ∉ l) : vr_up f l v a = f a := if_neg h
theorem vr_rows {L l : List Nat} {f : Nat → va_E} {e : va_E} (h : ∀ a, a ∈ l → a ∉ L) : va_pl L f ++ l.map (fun a => (a, e)) = va_pl (L ++ l) (vr_up f l e) := by
  unfold va_pl
  rw [List.map_append]
  congr 1
  · apply List.map_congr_left
    intro a ha
    rw [vr_up_ne (fun q => h a q ha)]
  · apply List.map_congr_left
    intro a ha
    rw [vr_up_in ha]
theorem vr_lay {X rows : va_W} {x : Nat × va_E} {pl : va_W} {D : va_G} {cl : List vw_C} {H : Heap} (hP : va_P D cl (((X ++ pl) ++ [x]) ++ rows) H) : va_P D cl ((X ++ [x]) ++ (pl ++ rows)) H := by
  rw [List.append_assoc (X ++ pl)] at hP
  have h := va_P.swap hP
  rw [← List.append_assoc X] at h
  have h2 := va_P.swap h
  rw [List.append_assoc (X ++ [x])] at h2
  exact h2
theorem vr_layD {X rows : va_W} {x : Nat × va_E} {pl : va_W} {A : Nat → Prop} (hD : va_D A (((X ++ pl) ++ [x]) ++ rows)) : va_D A ((X ++ [x]) ++ (pl ++ rows)) := by
  rw [List.append_assoc (X ++ pl)] at hD
  have h := va_D.swap hD
  rw [← List.append_assoc X] at h
  have h2 := va_D.swap h
  rw [List.append_assoc (X ++ [x])] at h2
  exact h2
theorem vr_outer (c : ClassId) (N h0 : Nat) : ∀ i : Nat, Jvm.Free.Multi.outerC c N h0 i = arrV c N (fun j => va_rf (if j < i then some (h0 + 1 + j) else none))
  | 0 => by
    show ({ cls := c, slots := Array.replicate N .null, vm := .none } : Cell) = _
    rw [arrV_new]
    refine congrArg (arrV c N) (funext fun j => ?_)
    simp [va_rf]
  | i + 1 => by
    show (Jvm.Free.Multi.outerC c N h0 i).setSlot i (.ref (h0 + 1 + i)) = _
    rw [vr_outer c N h0 i, arrV_store]
    refine congrArg (arrV c N) (funext fun j => ?_)
    by_cases e : j = i
    · subst e
      simp [updV, va_rf]
    · by_cases h : j < i
      · simp [updV, e, h, Nat.lt_succ_of_lt h]
      · simp [updV, e, h, show ¬ j < i + 1 by omega]
section VGM
variable {p : Program} {l : Launch} {e : Env} {R : Room} {s : State} {m : MethodId} {args : Array Value} {below : List Frame} {meth : Method} {c : Code} {H : Heap} {locs : List Loc} {cells slots : Nat} {Q : State → Prop}
variable {cc : ByteArray} {pc : Nat} {ls : Array Slot} {rest : List Value} {D : va_G} {cl : List vw_C} {A : Nat → Prop} {a : Nat} {tys : List (ClassId × FieldType)} {ws : va_W} {H0 : Heap}
theorem va_mna {X : va_W} {L : List Nat} {f : Nat → va_E} {cc : ByteArray} (hexec : p.tables.exec = Jvm.exec) (hb : c.code = cc) {own : String} {index : Nat} {ty : FieldType} {cy : ClassId} (hown : s.vm.findClass own = some m.cls) (hclink : (Cond.classLink own index ("[" ++ (FieldType.array ty).toString)).before args s = true) (hover : va_AOA ty s) (harr : (Cond.arrayClass ty).before args s = true) (hcy : s.vm.findClass (FieldType.array ty).toString = some cy)
    (hK : va_K D cl tys s) (hP : va_P D cl (X ++ va_pl L f) H) (hD : va_D A (X ++ va_pl L f)) (hS : va_S A H0 H locs) (hA : ∀ q, H0.size ≤ q → A q) {n k : Int32} {N' K' : Nat} {z : vp_A} (hn : ¬ n < 0) (hk : ¬ k < 0) (hN : n.toNatClampNeg = N') (hM : k.toNatClampNeg = K')
    (hb1 : N' * 4 ≤ 536870912) (hb2 : K' * componentBytes ty ≤ 536870912) (hb3 : K' ≤ 536870912) (hdf : fits ty (defaultValue ty) = true) (hdd : (defaultValue ty).isDefault = true) (hcells : cells + (1 + N') ≤ R.cells) (hslots : slots + (N' + N' * K') ≤ R.slots) (hz : ∀ c : ClassId, Jvm.Free.Multi.innerC c K' (defaultValue ty) = vp_cell c z) (hdg : decode cc pc = .ok (.multianewarray index 2, 4))
    (kk : ∀ (q : Nat) (r : Nat → Nat) (cA : ClassId) (H1 : Heap), (∀ i j : Nat, i < N' → j < N' → r i = r j → i = j) → (∀ i : Nat, i < N' → r i ∉ L) → va_K D cl (tys ++ [(cA, .array ty)]) s →
      va_P D cl ((X ++ [(q, .inl (cA, N', .inr (.inr (.inr (.inr (fun i => if i < N' then some (r i) else none))))))]) ++ va_pl (L ++ (List.range N').map r) (vr_up f ((List.range N').map r) (.inl (cy, z)))) H1 → va_D A ((X ++ [(q, .inl (cA, N', .inr (.inr (.inr (.inr (fun i => if i < N' then some (r i) else none))))))]) ++ va_pl (L ++ (List.range N').map r) (vr_up f ((List.range N').map r) (.inl (cy, z)))) → va_S A H0 H1 locs →
      W p l e R s m args below meth c H1 locs (cells + 1 + N') (slots + N' + N' * K') Q (F0 m (pc + 4) ls (.ref q :: rest))) : W p l e R s m args below meth c H locs cells slots Q (F0 m pc ls (.int k :: .int n :: rest)) := by
  subst hN
  subst hM
  intro T hT Xs
  obtain ⟨vm₁, cA, comp, -, fA, fC, hO, -, X', step⟩ := Xs.multianewarray2F hexec hown hclink (va_AOA.use hover) harr (g := F0 m pc ls (.int k :: .int n :: rest)) rfl (by rw [hb]; exact hdg) rfl hn hk hb1 hb2 hb3 hdf hdd hcells hslots
  have ec : some cy = some comp := hcy.symm.trans fC
  cases ec
  generalize hF : Jvm.Free.Multi.fill (T.setVm vm₁) cA cy n.toNatClampNeg k.toNatClampNeg (defaultValue ty) n.toNatClampNeg = F at X' step
  have hTh : (T.setVm vm₁).heap = H := hT
  obtain ⟨f1, f2, -, -⟩ := Jvm.Free.Multi.fill_facts (T.setVm vm₁) cA cy n.toNatClampNeg k.toNatClampNeg (defaultValue ty) n.toNatClampNeg
  rw [hF, hTh] at f1 f2
  have hold : ∀ x : Nat, x < H.size → F.heap[x]? = H[x]? := fun x hx => by
    have := Jvm.Free.Multi.fill_old (T.setVm vm₁) cA cy n.toNatClampNeg k.toNatClampNeg (defaultValue ty) (a := x) (by rw [hTh]; exact hx) n.toNatClampNeg
    rw [hF, hTh] at this
    exact this
  have hrow : ∀ j : Nat, j < n.toNatClampNeg → F.heap[H.size + 1 + j]? = some (vp_cell cy z) := fun j hj => by
    have := Jvm.Free.Multi.fill_inner (T.setVm vm₁) cA cy n.toNatClampNeg k.toNatClampNeg (defaultValue ty) n.toNatClampNeg j hj
    rw [hF, hTh, hz] at this
    exact this
  have hout : Jvm.Free.Multi.outerC cA n.toNatClampNeg H.size n.toNatClampNeg = vp_cell cA (n.toNatClampNeg, .inr (.inr (.inr (.inr (fun i => if i < n.toNatClampNeg then some (H.size + 1 + i) else none))))) := by
    rw [vp_cell_q]
    exact vr_outer cA n.toNatClampNeg H.size n.toNatClampNeg
  rw [hout] at f2
  have hlt : ∀ a, a ∈ L → a < H.size := fun a ha => by
    obtain ⟨k9, hk9⟩ := va_pl_get (X := X) (f := f) ha
    exact (hP k9 _ hk9).lt
  have hnl : ∀ i : Nat, i < n.toNatClampNeg → H.size + 1 + i ∉ L := fun i _ h => by
    have := hlt _ h
    omega
  have hnm : ∀ a, a ∈ (List.range n.toNatClampNeg).map (fun i => H.size + 1 + i) → a ∉ L := fun a ha h => by
    obtain ⟨i, -, rfl⟩ := List.mem_map.mp ha
    have := hlt _ h
    omega
  have hP0 : va_P D cl (X ++ va_pl L f) F.heap := hP.kept (fun k9 x hx => hold x.1 ((hP k9 x hx).lt))
  have hP1 : va_P D cl ((X ++ va_pl L f) ++ [(H.size, .inl (cA, n.toNatClampNeg, .inr (.inr (.inr (.inr (fun i => if i < n.toNatClampNeg then some (H.size + 1 + i) else none))))))]) F.heap := hP0.app (fun k9 x hx => by
    have h0 : k9 < 1 := (List.getElem?_eq_some_iff.mp hx).1
    rw [show k9 = 0 by omega] at hx
    cases hx
    exact f2)
  have hP2 : va_P D cl (((X ++ va_pl L f) ++ [(H.size, .inl (cA, n.toNatClampNeg, .inr (.inr (.inr (.inr (fun i => if i < n.toNatClampNeg then some (H.size + 1 + i) else none))))))]) ++ ((List.range n.toNatClampNeg).map (fun i => H.size + 1 + i)).map (fun a => (a, .inl (cy, z)))) F.heap := hP1.app (fun k9 x hx => by
    obtain ⟨a, ha, rfl⟩ := List.mem_map.mp (List.mem_of_getElem? hx)
    obtain ⟨i, hi, rfl⟩ := List.mem_map.mp ha
    exact hrow i (List.mem_range.mp hi))
  have hD2 : va_D A (((X ++ va_pl L f) ++ [(H.size, .inl (cA, n.toNatClampNeg, .inr (.inr (.inr (.inr (fun i => if i < n.toNatClampNeg then some (H.size + 1 + i) else none))))))]) ++ ((List.range n.toNatClampNeg).map (fun i => H.size + 1 + i)).map (fun a => (a, .inl (cy, z)))) := by
    have hD1 := hD.push (e := .inl (cA, n.toNatClampNeg, .inr (.inr (.inr (.inr (fun i => if i < n.toNatClampNeg then some (H.size + 1 + i) else none)))))) hP rfl (hA _ hS.1)
    generalize hW1 : (X ++ va_pl L f) ++ [(H.size, .inl (cA, n.toNatClampNeg, .inr (.inr (.inr (.inr (fun i => if i < n.toNatClampNeg then some (H.size + 1 + i) else none))))))] = W1 at hD1 hP1 ⊢
    have hle : ∀ (k9 : Nat) (x : Nat × va_E), W1[k9]? = some x → x.1 ≤ H.size := fun k9 x hx => by
      rw [← hW1] at hx
      by_cases hl : k9 < (X ++ va_pl L f).length
      · rw [List.getElem?_append_left hl] at hx
        exact Nat.le_of_lt ((hP k9 x hx).lt)
      · rw [List.getElem?_append_right (by omega)] at hx
        have h0 : k9 - (X ++ va_pl L f).length < 1 := (List.getElem?_eq_some_iff.mp hx).1
        rw [show k9 - (X ++ va_pl L f).length = 0 by omega] at hx
        cases hx
        exact Nat.le_refl _
    have hr : ∀ (k9 : Nat) (x : Nat × va_E), (((List.range n.toNatClampNeg).map (fun i => H.size + 1 + i)).map (fun a => ((a, .inl (cy, z)) : Nat × va_E)))[k9]? = some x → x.1 = H.size + 1 + k9 := fun k9 x hx => by
      rw [List.getElem?_map, List.getElem?_map] at hx
      by_cases h9 : k9 < n.toNatClampNeg
      · rw [List.getElem?_range h9] at hx
        cases hx
        rfl
      · have hn0 : (List.range n.toNatClampNeg)[k9]? = none := List.getElem?_eq_none (by rw [List.length_range]; omega)
        rw [hn0] at hx
        cases hx
    refine ⟨fun i j x y hi hj hxy => ?_, fun k9 x hx => ?_⟩
    · by_cases h1 : i < W1.length <;> by_cases h2 : j < W1.length
      · rw [List.getElem?_append_left h1] at hi
        rw [List.getElem?_append_left h2] at hj
        exact hD1.1 i j x y hi hj hxy
      · rw [List.getElem?_append_left h1] at hi
        rw [List.getElem?_append_right (by omega)] at hj
        have := hle _ _ hi
        have := hr _ _ hj
        omega
      · rw [List.getElem?_append_right (by omega)] at hi
        rw [List.getElem?_append_left h2] at hj
        have := hle _ _ hj
        have := hr _ _ hi
        omega
      · rw [List.getElem?_append_right (by omega)] at hi hj
        have := hr _ _ hi
        have := hr _ _ hj
        omega
    · by_cases h1 : k9 < W1.length
      · rw [List.getElem?_append_left h1] at hx
        exact hD1.2 k9 x hx
      · rw [List.getElem?_append_right (by omega)] at hx
        have := hr _ _ hx
        exact hA _ (by have := hS.1; omega)
  have hAr : ArrOfT s cA (.array ty) := fun N9 z9 => by
    obtain ⟨-, k9, hk9, cm9, hkk9⟩ := (hO 0 0 0).1
    exact ⟨(fun q hq => by cases hq), k9, hk9, cm9, hkk9⟩
  have hK2 : va_K D cl (tys ++ [(cA, .array ty)]) s := ⟨hK.1, fun k9 x hx => by
    by_cases hl : k9 < tys.length
    · rw [List.getElem?_append_left hl] at hx
      exact hK.2 k9 x hx
    · rw [List.getElem?_append_right (by omega)] at hx
      have h0 : k9 - tys.length < 1 := (List.getElem?_eq_some_iff.mp hx).1
      rw [show k9 - tys.length = 0 by omega] at hx
      cases hx
      exact ⟨hAr, fA⟩⟩
  obtain ⟨t, a1, b1⟩ := kk H.size (fun i => H.size + 1 + i) cA F.heap (fun i j _ _ h => by have h9 : H.size + 1 + i = H.size + 1 + j := h; omega) hnl hK2 (by rw [← vr_rows hnm]; exact vr_lay hP2) (by rw [← vr_rows hnm]; exact vr_layD hD2) ⟨by rw [f1]; have := hS.1; omega, fun x h1 h2 => (hold x (Nat.lt_of_lt_of_le h1 hS.1)).trans (hS.2.1 x h1 h2), hS.2.2⟩ F rfl X'
  refine ⟨t, step t ?_, b1⟩
  have e : T.heap.size = H.size := by rw [hT]
  rw [e]
  exact a1
end VGM
/-! ===== END ===== -/

/-! ===== BEGIN printed: names, fields, word lists, decode rows ===== -/
def RX0 : String := "DareFord$Bank"
def TX0 : u_T := fun k => match k with
  | 0 => ("DareFord$Bank", "kinds", "[I", true)
  | 1 => ("DareFord$Bank", "doors", "[I", true)
  | 2 => ("DareFord$Bank", "darings", "[I", true)
  | 3 => ("DareFord$Bank", "crossings", "[I", true)
  | 4 => ("DareFord$Bank", "people", "I", false)
  | 5 => ("DareFord$Bank", "ford", "I", false)
  | _ => ("DareFord$Bank", "number", "I", false)
def tyX0 : Nat → FieldType := fun k => match k with
  | 0 => .array .int
  | 1 => .array .int
  | 2 => .array .int
  | 3 => .array .int
  | 4 => .int
  | 5 => .int
  | _ => .int
abbrev wsX00 : List Cond := u_ws RX0 TX0 7
theorem nmX0 : ∀ a, a < 7 → ∀ b, b < 7 → a ≠ b → (TX0 a).2.1 ≠ (TX0 b).2.1 := by decide +kernel
theorem tyX0_ok : ∀ k, k < 7 → parseFieldDescriptor (TX0 k).2.2.1 = some (tyX0 k) := by decide +kernel
abbrev cX0_init : ByteArray := prog_2_method_1_code
def yX0_init : MethodName := ⟨RX0, "<init>", "()V"⟩
abbrev cX0_become : ByteArray := prog_2_method_2_code
def yX0_become : MethodName := ⟨RX0, "become", "(LDareFord$Bank;)V"⟩
abbrev cX0_settle : ByteArray := prog_2_method_3_code
def yX0_settle : MethodName := ⟨RX0, "settle", "(I)V"⟩
abbrev cX0_add : ByteArray := prog_2_method_4_code
def yX0_add : MethodName := ⟨RX0, "add", "(III)V"⟩
abbrev cX0_has : ByteArray := prog_2_method_5_code
def yX0_has : MethodName := ⟨RX0, "has", "(I)Z"⟩
abbrev cX0_farOf : ByteArray := prog_2_method_6_code
def yX0_farOf : MethodName := ⟨RX0, "farOf", "(I)I"⟩
abbrev cX0_boldnessAt : ByteArray := prog_2_method_7_code
def yX0_boldnessAt : MethodName := ⟨RX0, "boldnessAt", "(II)I"⟩
abbrev cX0_isBehind : ByteArray := prog_2_method_8_code
def yX0_isBehind : MethodName := ⟨RX0, "isBehind", "(II)Z"⟩
abbrev cX0_holder : ByteArray := prog_2_method_9_code
def yX0_holder : MethodName := ⟨RX0, "holder", "(I)I"⟩
abbrev cX0_passNight : ByteArray := prog_2_method_10_code
def yX0_passNight : MethodName := ⟨RX0, "passNight", "()I"⟩
abbrev cX0_undergo : ByteArray := prog_2_method_11_code
def yX0_undergo : MethodName := ⟨RX0, "undergo", "(I)V"⟩
abbrev cX0_told : ByteArray := prog_2_method_12_code
def yX0_told : MethodName := ⟨RX0, "told", "(II)I"⟩
abbrev cX0_howManyOf : ByteArray := prog_2_method_15_code
def yX0_howManyOf : MethodName := ⟨RX0, "howManyOf", "(I)I"⟩
abbrev cX0_daringOf : ByteArray := prog_2_method_16_code
def yX0_daringOf : MethodName := ⟨RX0, "daringOf", "(I)I"⟩
abbrev cX0_allCrossings : ByteArray := prog_2_method_17_code
def yX0_allCrossings : MethodName := ⟨RX0, "allCrossings", "()I"⟩
def RX1 : String := "DareFord"
def TX1 : u_T := fun k => match k with
  | 0 => ("DareFord", "rows", "[[I", true)
  | 1 => ("DareFord", "rowSizes", "[I", true)
  | 2 => ("DareFord", "texts", "[[B", true)
  | 3 => ("DareFord", "textSizes", "[I", true)
  | 4 => ("DareFord", "start", "LDareFord$Bank;", true)
  | 5 => ("DareFord", "now", "LDareFord$Bank;", true)
  | 6 => ("DareFord", "aside", "LDareFord$Bank;", true)
  | 7 => ("DareFord", "deeds", "[I", true)
  | 8 => ("DareFord", "deedCount", "I", false)
  | 9 => ("DareFord", "keptDeeds", "[[I", true)
  | 10 => ("DareFord", "keptCounts", "[I", true)
  | 11 => ("DareFord", "askedTold", "I", false)
  | 12 => ("DareFord", "upperTold", "J", false)
  | 13 => ("DareFord", "lowerTold", "J", false)
  | 14 => ("DareFord", "latestFinding", "I", false)
  | 15 => ("DareFord", "findingCounts", "[I", true)
  | 16 => ("DareFord", "shares", "[I", true)
  | 17 => ("DareFord", "weights", "[I", true)
  | _ => ("DareFord", "parts", "[[I", true)
def tyX1 : Nat → FieldType := fun k => match k with
  | 0 => .array (.array .int)
  | 1 => .array .int
  | 2 => .array (.array .byte)
  | 3 => .array .int
  | 4 => .object "DareFord$Bank"
  | 5 => .object "DareFord$Bank"
  | 6 => .object "DareFord$Bank"
  | 7 => .array .int
  | 8 => .int
  | 9 => .array (.array .int)
  | 10 => .array .int
  | 11 => .int
  | 12 => .long
  | 13 => .long
  | 14 => .int
  | 15 => .array .int
  | 16 => .array .int
  | 17 => .array .int
  | _ => .array (.array .int)
abbrev wsX10 : List Cond := u_ws RX1 TX1 19
theorem nmX1 : ∀ a, a < 19 → ∀ b, b < 19 → a ≠ b → (TX1 a).2.1 ≠ (TX1 b).2.1 := by decide +kernel
theorem tyX1_ok : ∀ k, k < 19 → parseFieldDescriptor (TX1 k).2.2.1 = some (tyX1 k) := by decide +kernel
abbrev cX1_init : ByteArray := prog_1_method_1_code
def yX1_init : MethodName := ⟨RX1, "<init>", "()V"⟩
abbrev cX1_row : ByteArray := prog_1_method_2_code
def yX1_row : MethodName := ⟨RX1, "row", "(II)I"⟩
abbrev cX1_lay : ByteArray := prog_1_method_3_code
def yX1_lay : MethodName := ⟨RX1, "lay", "(III)I"⟩
abbrev cX1_at : ByteArray := prog_1_method_4_code
def yX1_at : MethodName := ⟨RX1, "at", "(II)I"⟩
abbrev cX1_tear : ByteArray := prog_1_method_5_code
def yX1_tear : MethodName := ⟨RX1, "tear", "(I)I"⟩
abbrev cX1_text : ByteArray := prog_1_method_8_code
def yX1_text : MethodName := ⟨RX1, "text", "(II)I"⟩
abbrev cX1_put : ByteArray := prog_1_method_9_code
def yX1_put : MethodName := ⟨RX1, "put", "(III)I"⟩
abbrev cX1_fault : ByteArray := prog_1_method_10_code
def yX1_fault : MethodName := ⟨RX1, "fault", "(I)I"⟩
abbrev cX1_river : ByteArray := prog_1_method_11_code
def yX1_river : MethodName := ⟨RX1, "river", "(I)I"⟩
abbrev cX1_one : ByteArray := prog_1_method_12_code
def yX1_one : MethodName := ⟨RX1, "one", "(II)I"⟩
abbrev cX1_night : ByteArray := prog_1_method_14_code
def yX1_night : MethodName := ⟨RX1, "night", "()I"⟩
abbrev cX1_raise : ByteArray := prog_1_method_15_code
def yX1_raise : MethodName := ⟨RX1, "raise", "(II)I"⟩
abbrev cX1_shame : ByteArray := prog_1_method_16_code
def yX1_shame : MethodName := ⟨RX1, "shame", "(II)I"⟩
abbrev cX1_door : ByteArray := prog_1_method_17_code
def yX1_door : MethodName := ⟨RX1, "door", "(II)I"⟩
abbrev cX1_undo : ByteArray := prog_1_method_18_code
def yX1_undo : MethodName := ⟨RX1, "undo", "(I)I"⟩
abbrev cX1_keep : ByteArray := prog_1_method_19_code
def yX1_keep : MethodName := ⟨RX1, "keep", "(I)I"⟩
abbrev cX1_on : ByteArray := prog_1_method_20_code
def yX1_on : MethodName := ⟨RX1, "on", "(I)I"⟩
abbrev cX1_dares : ByteArray := prog_1_method_21_code
def yX1_dares : MethodName := ⟨RX1, "dares", "(IIII)I"⟩
abbrev cX1_where : ByteArray := prog_1_method_22_code
def yX1_where : MethodName := ⟨RX1, "where", "(I)I"⟩
abbrev cX1_crosses : ByteArray := prog_1_method_23_code
def yX1_crosses : MethodName := ⟨RX1, "crosses", "(II)I"⟩
abbrev cX1_first : ByteArray := prog_1_method_24_code
def yX1_first : MethodName := ⟨RX1, "first", "(I)I"⟩
abbrev cX1_lift : ByteArray := prog_1_method_25_code
def yX1_lift : MethodName := ⟨RX1, "lift", "(II)I"⟩
abbrev cX1_cheap : ByteArray := prog_1_method_26_code
def yX1_cheap : MethodName := ⟨RX1, "cheap", "(II)I"⟩
abbrev cX1_darings : ByteArray := prog_1_method_27_code
def yX1_darings : MethodName := ⟨RX1, "darings", "(II)I"⟩
abbrev cX1_kinds : ByteArray := prog_1_method_28_code
def yX1_kinds : MethodName := ⟨RX1, "kinds", "(II)I"⟩
abbrev cX1_look : ByteArray := prog_1_method_29_code
def yX1_look : MethodName := ⟨RX1, "look", "(II)I"⟩
abbrev cX1_sets : ByteArray := prog_1_method_30_code
def yX1_sets : MethodName := ⟨RX1, "sets", "(I)I"⟩
abbrev cX1_sure : ByteArray := prog_1_method_31_code
def yX1_sure : MethodName := ⟨RX1, "sure", "(I)I"⟩
abbrev cX1_duel : ByteArray := prog_1_method_32_code
def yX1_duel : MethodName := ⟨RX1, "duel", "(III)I"⟩
abbrev cX1_odds : ByteArray := prog_1_method_33_code
def yX1_odds : MethodName := ⟨RX1, "odds", "(II)I"⟩
abbrev cX1_mid : ByteArray := prog_1_method_34_code
def yX1_mid : MethodName := ⟨RX1, "mid", "(II)I"⟩
abbrev cX1_fair : ByteArray := prog_1_method_35_code
def yX1_fair : MethodName := ⟨RX1, "fair", "(I)I"⟩
abbrev cX1_lots : ByteArray := prog_1_method_36_code
def yX1_lots : MethodName := ⟨RX1, "lots", "(II)I"⟩
abbrev cX1_asked : ByteArray := prog_1_method_37_code
def yX1_asked : MethodName := ⟨RX1, "asked", "()I"⟩
abbrev cX1_upper : ByteArray := prog_1_method_38_code
def yX1_upper : MethodName := ⟨RX1, "upper", "()J"⟩
abbrev cX1_lower : ByteArray := prog_1_method_39_code
def yX1_lower : MethodName := ⟨RX1, "lower", "()J"⟩
abbrev cX1_count : ByteArray := prog_1_method_40_code
def yX1_count : MethodName := ⟨RX1, "count", "(I)I"⟩
abbrev cX1_finding : ByteArray := prog_1_method_41_code
def yX1_finding : MethodName := ⟨RX1, "finding", "()I"⟩
abbrev cX1_digest : ByteArray := prog_1_method_43_code
def yX1_digest : MethodName := ⟨RX1, "digest", "()J"⟩
abbrev cX1_tell : ByteArray := prog_1_method_44_code
def yX1_tell : MethodName := ⟨RX1, "tell", "(I)I"⟩
abbrev cX1_tellRatio : ByteArray := prog_1_method_45_code
def yX1_tellRatio : MethodName := ⟨RX1, "tellRatio", "(JJ)V"⟩
abbrev cX1_greatestDivisor : ByteArray := prog_1_method_46_code
def yX1_greatestDivisor : MethodName := ⟨RX1, "greatestDivisor", "(JJ)J"⟩
abbrev cX1_found : ByteArray := prog_1_method_47_code
def yX1_found : MethodName := ⟨RX1, "found", "(I)I"⟩
abbrev cX1_howManyThere : ByteArray := prog_1_method_48_code
def yX1_howManyThere : MethodName := ⟨RX1, "howManyThere", "([I)I"⟩
abbrev cX1_bitOf : ByteArray := prog_1_method_49_code
def yX1_bitOf : MethodName := ⟨RX1, "bitOf", "(I)I"⟩
abbrev cX1_isWithin : ByteArray := prog_1_method_50_code
def yX1_isWithin : MethodName := ⟨RX1, "isWithin", "(III)Z"⟩
abbrev cX1_isRow : ByteArray := prog_1_method_51_code
def yX1_isRow : MethodName := ⟨RX1, "isRow", "(I)Z"⟩
abbrev cX1_isText : ByteArray := prog_1_method_52_code
def yX1_isText : MethodName := ⟨RX1, "isText", "(I)Z"⟩
abbrev cX1_isKept : ByteArray := prog_1_method_53_code
def yX1_isKept : MethodName := ⟨RX1, "isKept", "(I)Z"⟩
abbrev cX1_isPlace : ByteArray := prog_1_method_54_code
def yX1_isPlace : MethodName := ⟨RX1, "isPlace", "(I)Z"⟩
abbrev cX1_refusalOfPlace : ByteArray := prog_1_method_55_code
def yX1_refusalOfPlace : MethodName := ⟨RX1, "refusalOfPlace", "(II)I"⟩
abbrev cX1_refusalOfHolders : ByteArray := prog_1_method_56_code
def yX1_refusalOfHolders : MethodName := ⟨RX1, "refusalOfHolders", "(II)I"⟩
abbrev cX1_layAnew : ByteArray := prog_1_method_57_code
def yX1_layAnew : MethodName := ⟨RX1, "layAnew", "(II)V"⟩
abbrev cX1_readAside : ByteArray := prog_1_method_58_code
def yX1_readAside : MethodName := ⟨RX1, "readAside", "([BI)I"⟩
abbrev cX1_readPersonAside : ByteArray := prog_1_method_59_code
def yX1_readPersonAside : MethodName := ⟨RX1, "readPersonAside", "([BII)I"⟩
abbrev cX1_pastBlanks : ByteArray := prog_1_method_60_code
def yX1_pastBlanks : MethodName := ⟨RX1, "pastBlanks", "([BII)I"⟩
abbrev cX1_firstNoFigure : ByteArray := prog_1_method_61_code
def yX1_firstNoFigure : MethodName := ⟨RX1, "firstNoFigure", "([BIII)I"⟩
abbrev cX1_kindOf : ByteArray := prog_1_method_62_code
def yX1_kindOf : MethodName := ⟨RX1, "kindOf", "(I)I"⟩
abbrev cX1_isOf : ByteArray := prog_1_method_63_code
def yX1_isOf : MethodName := ⟨RX1, "isOf", "(II)Z"⟩
abbrev cX1_boldness : ByteArray := prog_1_method_64_code
def yX1_boldness : MethodName := ⟨RX1, "boldness", "(IIII)I"⟩
abbrev cX1_fearfulBoldness : ByteArray := prog_1_method_65_code
def yX1_fearfulBoldness : MethodName := ⟨RX1, "fearfulBoldness", "(I)I"⟩
abbrev cX1_betBoldness : ByteArray := prog_1_method_66_code
def yX1_betBoldness : MethodName := ⟨RX1, "betBoldness", "(I)I"⟩
abbrev cX1_fading : ByteArray := prog_1_method_67_code
def yX1_fading : MethodName := ⟨RX1, "fading", "(I)I"⟩
abbrev cX1_deedOf : ByteArray := prog_1_method_68_code
def yX1_deedOf : MethodName := ⟨RX1, "deedOf", "(III)I"⟩
abbrev cX1_deedByLot : ByteArray := prog_1_method_69_code
def yX1_deedByLot : MethodName := ⟨RX1, "deedByLot", "(I)I"⟩
abbrev cX1_perform : ByteArray := prog_1_method_70_code
def yX1_perform : MethodName := ⟨RX1, "perform", "(I)V"⟩
abbrev cX1_performAgain : ByteArray := prog_1_method_71_code
def yX1_performAgain : MethodName := ⟨RX1, "performAgain", "()V"⟩
abbrev cX1_holderAside : ByteArray := prog_1_method_72_code
def yX1_holderAside : MethodName := ⟨RX1, "holderAside", "(I)I"⟩
abbrev cX1_goesAsideBy : ByteArray := prog_1_method_73_code
def yX1_goesAsideBy : MethodName := ⟨RX1, "goesAsideBy", "(I)Z"⟩
abbrev cX1_daringsBy : ByteArray := prog_1_method_74_code
def yX1_daringsBy : MethodName := ⟨RX1, "daringsBy", "(II)I"⟩
abbrev cX1_countParts : ByteArray := prog_1_method_75_code
def yX1_countParts : MethodName := ⟨RX1, "countParts", "(II)V"⟩
abbrev cX1_greatestPart : ByteArray := prog_1_method_76_code
def yX1_greatestPart : MethodName := ⟨RX1, "greatestPart", "(I)I"⟩
abbrev cX1_placeOf : ByteArray := prog_1_method_77_code
def yX1_placeOf : MethodName := ⟨RX1, "placeOf", "(I)I"⟩
abbrev cX1_priceByShares : ByteArray := prog_1_method_78_code
def yX1_priceByShares : MethodName := ⟨RX1, "priceByShares", "(II)I"⟩
abbrev cX1_leastShame : ByteArray := prog_1_method_79_code
def yX1_leastShame : MethodName := ⟨RX1, "leastShame", "(III)I"⟩
abbrev cX1_outcome : ByteArray := prog_1_method_80_code
def yX1_outcome : MethodName := ⟨RX1, "outcome", "(LDareFord$Bank;III)I"⟩
abbrev cX1_weigh : ByteArray := prog_1_method_81_code
def yX1_weigh : MethodName := ⟨RX1, "weigh", "(I)V"⟩
abbrev cX1_allWeight : ByteArray := prog_1_method_82_code
def yX1_allWeight : MethodName := ⟨RX1, "allWeight", "()I"⟩
abbrev cX1_weighedFar : ByteArray := prog_1_method_83_code
def yX1_weighedFar : MethodName := ⟨RX1, "weighedFar", "(I)I"⟩
def RX2 : String := "DareFordModel"
def TX2 : u_T := fun k => match k with
  | _ => ("", "", "", false)
def tyX2 : Nat → FieldType := fun k => match k with
  | _ => .int
abbrev wsX20 : List Cond := u_ws RX2 TX2 0
theorem nmX2 : ∀ a, a < 0 → ∀ b, b < 0 → a ≠ b → (TX2 a).2.1 ≠ (TX2 b).2.1 := by decide +kernel
theorem tyX2_ok : ∀ k, k < 0 → parseFieldDescriptor (TX2 k).2.2.1 = some (tyX2 k) := by decide +kernel
def RJ9 : String := "java/lang/Math"
def TJ9 : u_T := fun k => match k with
  | _ => ("", "", "", false)
def tyJ9 : Nat → FieldType := fun k => match k with
  | _ => .int
abbrev wsJ90 : List Cond := u_ws RJ9 TJ9 0
theorem nmJ9 : ∀ a, a < 0 → ∀ b, b < 0 → a ≠ b → (TJ9 a).2.1 ≠ (TJ9 b).2.1 := by decide +kernel
theorem tyJ9_ok : ∀ k, k < 0 → parseFieldDescriptor (TJ9 k).2.2.1 = some (tyJ9 k) := by decide +kernel
abbrev cJ9_abs_0f7a4 : ByteArray := prog_5_method_59_code
def yJ9_abs_0f7a4 : MethodName := ⟨RJ9, "abs", "(I)I"⟩
abbrev cJ9_max_7cf53 : ByteArray := prog_5_method_65_code
def yJ9_max_7cf53 : MethodName := ⟨RJ9, "max", "(II)I"⟩
abbrev cJ9_min_7cf53 : ByteArray := prog_5_method_69_code
def yJ9_min_7cf53 : MethodName := ⟨RJ9, "min", "(II)I"⟩
def RJ10 : String := "java/lang/System"
def TJ10 : u_T := fun k => match k with
  | _ => ("", "", "", false)
def tyJ10 : Nat → FieldType := fun k => match k with
  | _ => .int
abbrev wsJ100 : List Cond := u_ws RJ10 TJ10 0
theorem nmJ10 : ∀ a, a < 0 → ∀ b, b < 0 → a ≠ b → (TJ10 a).2.1 ≠ (TJ10 b).2.1 := by decide +kernel
theorem tyJ10_ok : ∀ k, k < 0 → parseFieldDescriptor (TJ10 k).2.2.1 = some (tyJ10 k) := by decide +kernel
def RJ7 : String := "java/util/Arrays"
def TJ7 : u_T := fun k => match k with
  | _ => ("", "", "", false)
def tyJ7 : Nat → FieldType := fun k => match k with
  | _ => .int
abbrev wsJ70 : List Cond := u_ws RJ7 TJ7 0
theorem nmJ7 : ∀ a, a < 0 → ∀ b, b < 0 → a ≠ b → (TJ7 a).2.1 ≠ (TJ7 b).2.1 := by decide +kernel
theorem tyJ7_ok : ∀ k, k < 0 → parseFieldDescriptor (TJ7 k).2.2.1 = some (tyJ7 k) := by decide +kernel
abbrev cJ7_fill_53178 : ByteArray := prog_7_method_103_code
def yJ7_fill_53178 : MethodName := ⟨RJ7, "fill", "([II)V"⟩
abbrev cJ7_fill_031fb : ByteArray := prog_7_method_109_code
def yJ7_fill_031fb : MethodName := ⟨RJ7, "fill", "([BB)V"⟩
def RL : String := "DareFordLaw"
abbrev cL_cell : ByteArray := method_2_code
def yL_cell : MethodName := ⟨RL, "cell", "([II)I"⟩
abbrev cL_low : ByteArray := method_3_code
def yL_low : MethodName := ⟨RL, "low", "(II)I"⟩
abbrev cL_letter : ByteArray := method_4_code
def yL_letter : MethodName := ⟨RL, "letter", "(I)I"⟩
abbrev cL_river : ByteArray := method_5_code
def yL_river : MethodName := ⟨RL, "river", "(LDareFord;[I[I[I)Z"⟩
abbrev cL_far : ByteArray := method_6_code
def yL_far : MethodName := ⟨RL, "far", "(II)I"⟩
abbrev cL_dares : ByteArray := method_7_code
def yL_dares : MethodName := ⟨RL, "dares", "(IIII)I"⟩
abbrev cL_daresNow : ByteArray := method_8_code
def yL_daresNow : MethodName := ⟨RL, "daresNow", "([I[II)I"⟩
abbrev cL_most : ByteArray := method_9_code
def yL_most : MethodName := ⟨RL, "most", "([I[II)I"⟩
abbrev cL_fades : ByteArray := method_10_code
def yL_fades : MethodName := ⟨RL, "fades", "(I)I"⟩
abbrev cL_night : ByteArray := method_11_code
def yL_night : MethodName := ⟨RL, "night", "([I[I)I"⟩
abbrev cL_stir : ByteArray := method_13_code
def yL_stir : MethodName := ⟨RL, "stir", "(LDareFord;[I[III)Z"⟩
abbrev cL_told : ByteArray := method_14_code
def yL_told : MethodName := ⟨RL, "told", "(LDareFord;II)I"⟩
abbrev cL_law : ByteArray := code
def yL_law : MethodName := ⟨RL, "law", "([I)Z"⟩
