/-! THE CLASS'S CONSTRUCTOR: a world of a few places, and the rest behind them -/
theorem AOA_spec {ty : FieldType} {U : State} (h : va_AOA ty U) : ∃ comp c k, U.vm.findClass (FieldType.array ty).toString = some comp ∧ (U.vm.classes.findIdx? fun (x : Class) => match x.kind with | .array component _ => component == comp | _ => false) = some c ∧ U.vm.classes[c]? = some k ∧ k.kind = .array comp (.array ty) ∧ U.vm.findClass ("[" ++ (FieldType.array ty).toString) = some c := by
  unfold va_AOA Cond.before at h
  simp only [Cond.holds, Cond.value, beq_iff_eq] at h
  cases hc : U.vm.findClass (FieldType.array ty).toString with
  | none => simp [hc] at h
  | some comp =>
    simp only [hc, Option.bind_some, Option.bind_eq_some_iff, Option.map_eq_some_iff] at h
    obtain ⟨c, hi, k, hk, hb⟩ := h
    obtain ⟨hlt, hp, -⟩ := Array.findIdx?_eq_some_iff_getElem.mp hi
    have hkk : U.vm.classes[c] = k := (Array.getElem?_eq_some_iff.mp hk).2
    rw [hkk] at hp
    cases hkind : k.kind with
    | array component t =>
      rw [hkind] at hb hp
      simp at hb hp
      exact ⟨comp, c, k, rfl, hi, hk, by rw [hkind, hp, hb.1], hb.2⟩
    | _ => rw [hkind] at hb; simp at hb
theorem AOA_moved {ty : FieldType} {u U : State} (hvm : u.vm.Alike U.vm) (h : va_AOA ty u) : va_AOA ty U := by
  obtain ⟨comp, c, k, h1, h2, h3, h4, h5⟩ := AOA_spec h
  obtain ⟨k', hk', he⟩ := hvm.2.2 _ _ h3
  have hi : (U.vm.classes.findIdx? fun (x : Class) => match x.kind with | .array component _ => component == comp | _ => false) = some c := by
    have e1 := va_idx_bare U.vm comp
    have e2 := va_idx_bare u.vm comp
    have e3 : U.vm.bare = u.vm.bare := by first | exact hvm.bare_eq | exact hvm.bare_eq.symm
    rw [e3] at e1
    exact e1.symm.trans (e2.trans h2)
  have hkind : k'.kind = .array comp (.array ty) := by rw [he]; exact h4
  have f1 : U.vm.findClass (FieldType.array ty).toString = some comp := by rw [hvm.findClass]; exact h1
  have f2 : U.vm.findClass ("[" ++ (FieldType.array ty).toString) = some c := by rw [hvm.findClass]; exact h5
  unfold va_AOA Cond.before Cond.holds
  simp only [Cond.value]
  rw [f1, Option.bind_some]
  refine (congrArg (fun o : Option Nat => (o.bind (fun c => (U.vm.classes[c]?).map fun (k : Class) => match k.kind with | .array _ t => decide (t = FieldType.array ty) && decide (U.vm.findClass ("[" ++ (FieldType.array ty).toString) = some c) | _ => false) == some true)) hi).trans ?_
  simp [hk', hkind, f2]
theorem wret {A : Nat → Prop} {D : va_G} {cl : List vw_C} {X R Y : va_W} {H : Heap} (hP : va_P D cl ((X ++ R) ++ Y) H) (hD : va_D A ((X ++ R) ++ Y)) : ∃ R' : va_W, R' = R ++ Y ∧ va_P D cl (X ++ R') H ∧ va_D A (X ++ R') :=
  ⟨R ++ Y, rfl, by rw [← List.append_assoc]; exact hP, by rw [← List.append_assoc]; exact hD⟩
theorem wswp {A : Nat → Prop} {D : va_G} {cl : List vw_C} {X R Y : va_W} {H : Heap} (hP : va_P D cl ((X ++ R) ++ Y) H) (hD : va_D A ((X ++ R) ++ Y)) : va_P D cl ((X ++ Y) ++ R) H ∧ va_D A ((X ++ Y) ++ R) := ⟨hP.swap, hD.swap⟩
section VMR
variable {p : Program} {l : Launch} {e : Env} {R : Room} {s : State} {m : MethodId} {args : Array Value} {below : List Frame} {meth : Method} {c : Code} {H : Heap} {locs : List Loc} {cells slots : Nat} {Q : State → Prop}
variable {cc : ByteArray} {pc : Nat} {ls : Array Slot} {rest : List Value} {D : va_G} {cl : List vw_C} {A : Nat → Prop} {a : Nat} {tys : List (ClassId × FieldType)} {ws : va_W} {H0 : Heap}
theorem mnaR (hexec : p.tables.exec = Jvm.exec) (hb : c.code = cc) {own : String} {index : Nat} {ty : FieldType} {cy : ClassId} (hown : s.vm.findClass own = some m.cls) (hclink : (Cond.classLink own index ("[" ++ (FieldType.array ty).toString)).before args s = true) (hover : va_AOA ty s) (harr : (Cond.arrayClass ty).before args s = true) (hcy : s.vm.findClass (FieldType.array ty).toString = some cy)
    (hK : va_K D cl tys s) (hP : va_P D cl ws H) (hD : va_D A ws) (hS : va_S A H0 H locs) (hA : ∀ q, H0.size ≤ q → A q) {n k : Int32} {N' K' : Nat} {z : vp_A} (hn : ¬ n < 0) (hk : ¬ k < 0) (hN : n.toNatClampNeg = N') (hM : k.toNatClampNeg = K')
    (hb1 : N' * 4 ≤ 536870912) (hb2 : K' * componentBytes ty ≤ 536870912) (hb3 : K' ≤ 536870912) (hdf : fits ty (defaultValue ty) = true) (hdd : (defaultValue ty).isDefault = true) (hcells : cells + (1 + N') ≤ R.cells) (hslots : slots + (N' + N' * K') ≤ R.slots) (hz : ∀ c : ClassId, Jvm.Free.Multi.innerC c K' (defaultValue ty) = vp_cell c z) (hdg : decode cc pc = .ok (.multianewarray index 2, 4))
    (kk : ∀ (q : Nat) (r : Nat → Nat) (cA : ClassId) (H1 : Heap), va_K D cl (tys ++ [(cA, .array ty)]) s →
      va_P D cl (ws ++ ([(q, .inl (cA, N', .inr (.inr (.inr (.inr (fun i => if i < N' then some (r i) else none))))))] ++ (List.range N').map (fun i => (r i, .inl (cy, z))))) H1 →
      va_D A (ws ++ ([(q, .inl (cA, N', .inr (.inr (.inr (.inr (fun i => if i < N' then some (r i) else none))))))] ++ (List.range N').map (fun i => (r i, .inl (cy, z))))) → va_S A H0 H1 locs →
      W p l e R s m args below meth c H1 locs (cells + 1 + N') (slots + N' + N' * K') Q (F0 m (pc + 4) ls (.ref q :: rest))) : W p l e R s m args below meth c H locs cells slots Q (F0 m pc ls (.int k :: .int n :: rest)) := by
  have e0 : ws ++ va_pl [] (fun _ => .inr (0, [])) = ws := List.append_nil ws
  refine va_mna (X := ws) (L := []) (f := fun _ => .inr (0, [])) hexec hb hown hclink hover harr hcy hK (by rw [e0]; exact hP) (by rw [e0]; exact hD) hS hA hn hk hN hM hb1 hb2 hb3 hdf hdd hcells hslots hz hdg (fun q r cA H1 hr hnl hK hP hD hS => ?_)
  rw [← vr_rows (fun _ _ => List.not_mem_nil)] at hP hD
  have e1 : ∀ o : Nat × va_E, (ws ++ [o]) ++ (va_pl [] (fun _ => .inr (0, [])) ++ ((List.range N').map r).map (fun a => (a, (.inl (cy, z) : va_E)))) = ws ++ ([o] ++ (List.range N').map (fun i => (r i, (.inl (cy, z) : va_E)))) := by
    intro o
    rw [List.append_assoc, List.map_map]
    rfl
  rw [e1] at hP hD
  exact kk q r cA H1 hK hP hD hS
end VMR
/-! the class's sixty cells, as the constructor leaves them -/
abbrev ws60 (G : wC) : va_W := (List.range 60).map (fun c => (G.2.2 c, cE G μz c))
theorem wd_by {A : Nat → Prop} {F : va_W} (h : va_D A F) (n : Nat) (g ad : Nat → Nat) (E : Nat → va_E) (hg : ∀ c, c < n → ∃ e, F[g c]? = some (ad c, e)) (hi : ∀ i, i < n → ∀ j, j < n → g i = g j → i = j) : va_D A ((List.range n).map (fun c => (ad c, E c))) := by
  have at' : ∀ (i : Nat) (q : Nat × va_E), ((List.range n).map (fun c => (ad c, E c)))[i]? = some q → i < n ∧ q.1 = ad i := fun i q hq => by
    have hl : i < n := by
      have := (List.getElem?_eq_some_iff.mp hq).1
      rw [List.length_map, List.length_range] at this
      exact this
    rw [List.getElem?_map, List.getElem?_range hl] at hq
    obtain rfl := Option.some.inj hq
    exact ⟨hl, rfl⟩
  refine ⟨fun i j p q hp hq e => ?_, fun k q hq => ?_⟩
  · obtain ⟨h1, e1⟩ := at' i p hp
    obtain ⟨h2, e2⟩ := at' j q hq
    obtain ⟨x, hx⟩ := hg i h1
    obtain ⟨y, hy⟩ := hg j h2
    exact hi i h1 j h2 (h.1 _ _ _ _ hx hy (by show ad i = ad j; rw [← e1, ← e2, e]))
  · obtain ⟨h1, e1⟩ := at' k q hq
    obtain ⟨x, hx⟩ := hg k h1
    rw [e1]
    exact h.2 _ _ hx
theorem wp_by {D : va_G} {cl : List vw_C} {H : Heap} (n : Nat) (ad : Nat → Nat) (E : Nat → va_E) (h : ∀ c, c < n → va_at D cl (ad c, E c) H) : va_P D cl ((List.range n).map (fun c => (ad c, E c))) H := by
  intro i q hq
  have hl : i < n := by
    have := (List.getElem?_eq_some_iff.mp hq).1
    rw [List.length_map, List.length_range] at this
    exact this
  rw [List.getElem?_map, List.getElem?_range hl] at hq
  obtain rfl := Option.some.inj hq
  exact h i hl
theorem at_f {D : va_G} {G : wC} {H : Heap} {c t n a : Nat} {cA : ClassId} {f : Nat → Int32} (hk : kd c = .inl (t, n)) (ht : t < 2) (hc : G.2.1 t = cA) (ha : G.2.2 c = a) (hf : f = fun k => Int32.ofInt (μz c k)) (h : va_at D cls3 (a, .inl (cA, n, .inl f)) H) : va_at D cls3 (G.2.2 c, cE G μz c) H := by
  rw [cE_arr hk, ha, hc]
  unfold aC
  rw [if_pos ht, ← hf]
  exact h
theorem at_r {D : va_G} {G : wC} {H : Heap} {c t n a : Nat} {cA : ClassId} {f : Nat → Option Nat} (hk : kd c = .inl (t, n)) (ht : ¬ t < 2) (hc : G.2.1 t = cA) (ha : G.2.2 c = a) (hf : ∀ i, i < n → f i = some (G.2.2 (c + 1 + i))) (h : va_at D cls3 (a, .inl (cA, n, .inr (.inr (.inr (.inr f))))) H) : va_at D cls3 (G.2.2 c, cE G μz c) H := by
  rw [cE_arr hk, ha, hc]
  unfold aC
  rw [if_neg ht]
  have e1 : vp_cell cA (n, .inr (.inr (.inr (.inr f)))) = vp_cell cA (n, .inr (.inr (.inr (.inr (fun k => some (G.2.2 (c + 1 + k))))))) := by
    rw [vp_cell_q, vp_cell_q]
    unfold arrV
    congr 1
    apply Array.ext
    · simp
    · intro i h1 h2
      simp at h1
      simp [hf i h1]
  have h2 : H[a]? = some (vp_cell cA (n, .inr (.inr (.inr (.inr f))))) := h
  show H[a]? = some (vp_cell cA (n, .inr (.inr (.inr (.inr (fun k => some (G.2.2 (c + 1 + k))))))))
  rw [← e1]
  exact h2
theorem at_o {D : va_G} {G : wC} {H : Heap} {c ci a : Nat} {fs : List Value} (hk : kd c = .inr ci) (ha : G.2.2 c = a) (hf : (List.range (nF ci)).map (fV G μz c ci) = fs) (h : va_at D cls3 (a, .inr (ci, fs)) H) : va_at D cls3 (G.2.2 c, cE G μz c) H := by
  rw [cE_obj hk, ha, hf]
  exact h
theorem f_z {c : Nat} (h : c ≠ 0 ∧ c ≠ 8 ∧ c ≠ 14 ∧ c ≠ 35 ∧ c < 60) : (fun _ => 0 : Nat → Int32) = fun k => Int32.ofInt (μz c k) := by
  funext k
  rw [mz_0 (by omega) (by omega)]
  rfl
theorem f_m {c n : Nat} (h : (c = 8 ∧ n = 6) ∨ (c = 14 ∧ n = 4) ∨ (c = 35 ∧ n = 3)) : fl (fun _ => 0) (-1) n = fun k => Int32.ofInt (μz c k) := by
  funext k
  unfold fl
  by_cases hk : k < n
  · rw [if_pos hk, mz_m (by omega)]
    rfl
  · rw [if_neg hk, mz_0 (by omega) (by omega)]
    rfl
