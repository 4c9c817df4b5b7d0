section ROWS2
variable {σ : Scr} {α : Type} {cc : ByteArray} {nL : Nat} {own : String} {d : Nat} {rt : Option FieldType} {w : α → Option mV × Mem} {pc : Nat} {lv : List (Nat × mV)} {st : List mV} {μ : Mem} {o X Y : Option α}
/-! branches -/
theorem S_if_eq {x : Int} {off : Int} {tgt : Nat} (hd : decode cc pc = .ok (.ifCond .eq off, 3)) (ht : (pc : Int) + off = (tgt : Int)) (kt : x = 0 → Sim σ cc nL own d rt w tgt lv st μ X) (kf : ¬ (x = 0) → Sim σ cc nL own d rt w (pc + 3) lv st μ Y) : Sim σ cc nL own d rt w pc lv (.inl x :: st) μ (if x = 0 then X else Y) := by
  intro a ha hE hS hM kc nc Qe p l e R s m args below meth c G A H locs ls hF hL hW
  have iff := (n_eq (okS_h hS) ok0)
  rw [← n0] at iff
  refine lv_if_eq hF.1 hF.2.1 hd ht (fun h => ?_) (fun h => ?_)
  · rw [iff] at h
    rw [if_pos h] at ha
    exact kt h a ha hE (okS_t hS) hM p l e R s m args below meth c G A H locs ls hF hL hW
  · rw [iff] at h
    rw [if_neg h] at ha
    exact kf h a ha hE (okS_t hS) hM p l e R s m args below meth c G A H locs ls hF hL hW
theorem S_if_ne {x : Int} {off : Int} {tgt : Nat} (hd : decode cc pc = .ok (.ifCond .ne off, 3)) (ht : (pc : Int) + off = (tgt : Int)) (kt : ¬ x = 0 → Sim σ cc nL own d rt w tgt lv st μ X) (kf : ¬ (¬ x = 0) → Sim σ cc nL own d rt w (pc + 3) lv st μ Y) : Sim σ cc nL own d rt w pc lv (.inl x :: st) μ (if ¬ x = 0 then X else Y) := by
  intro a ha hE hS hM kc nc Qe p l e R s m args below meth c G A H locs ls hF hL hW
  have iff := (n_eq (okS_h hS) ok0)
  rw [← n0] at iff
  refine lv_if_ne hF.1 hF.2.1 hd ht (fun h => ?_) (fun h => ?_)
  · rw [iff] at h
    rw [if_pos h] at ha
    exact kt h a ha hE (okS_t hS) hM p l e R s m args below meth c G A H locs ls hF hL hW
  · have h : ¬ ¬ _ := fun q => q (iff.mp h)
    rw [if_neg h] at ha
    exact kf h a ha hE (okS_t hS) hM p l e R s m args below meth c G A H locs ls hF hL hW
theorem S_if_lt {x : Int} {off : Int} {tgt : Nat} (hd : decode cc pc = .ok (.ifCond .lt off, 3)) (ht : (pc : Int) + off = (tgt : Int)) (kt : x < 0 → Sim σ cc nL own d rt w tgt lv st μ X) (kf : ¬ (x < 0) → Sim σ cc nL own d rt w (pc + 3) lv st μ Y) : Sim σ cc nL own d rt w pc lv (.inl x :: st) μ (if x < 0 then X else Y) := by
  intro a ha hE hS hM kc nc Qe p l e R s m args below meth c G A H locs ls hF hL hW
  have iff := (n_lt (okS_h hS) ok0)
  rw [← n0] at iff
  refine lv_if_lt hF.1 hF.2.1 hd ht (fun h => ?_) (fun h => ?_)
  · rw [iff] at h
    rw [if_pos h] at ha
    exact kt h a ha hE (okS_t hS) hM p l e R s m args below meth c G A H locs ls hF hL hW
  · rw [iff] at h
    rw [if_neg h] at ha
    exact kf h a ha hE (okS_t hS) hM p l e R s m args below meth c G A H locs ls hF hL hW
theorem S_if_ge {x : Int} {off : Int} {tgt : Nat} (hd : decode cc pc = .ok (.ifCond .ge off, 3)) (ht : (pc : Int) + off = (tgt : Int)) (kt : 0 ≤ x → Sim σ cc nL own d rt w tgt lv st μ X) (kf : ¬ (0 ≤ x) → Sim σ cc nL own d rt w (pc + 3) lv st μ Y) : Sim σ cc nL own d rt w pc lv (.inl x :: st) μ (if 0 ≤ x then X else Y) := by
  intro a ha hE hS hM kc nc Qe p l e R s m args below meth c G A H locs ls hF hL hW
  have iff := (n_le ok0 (okS_h hS))
  rw [← n0] at iff
  refine lv_if_ge hF.1 hF.2.1 hd ht (fun h => ?_) (fun h => ?_)
  · rw [iff] at h
    rw [if_pos h] at ha
    exact kt h a ha hE (okS_t hS) hM p l e R s m args below meth c G A H locs ls hF hL hW
  · rw [iff] at h
    rw [if_neg h] at ha
    exact kf h a ha hE (okS_t hS) hM p l e R s m args below meth c G A H locs ls hF hL hW
theorem S_if_gt {x : Int} {off : Int} {tgt : Nat} (hd : decode cc pc = .ok (.ifCond .gt off, 3)) (ht : (pc : Int) + off = (tgt : Int)) (kt : 0 < x → Sim σ cc nL own d rt w tgt lv st μ X) (kf : ¬ (0 < x) → Sim σ cc nL own d rt w (pc + 3) lv st μ Y) : Sim σ cc nL own d rt w pc lv (.inl x :: st) μ (if 0 < x then X else Y) := by
  intro a ha hE hS hM kc nc Qe p l e R s m args below meth c G A H locs ls hF hL hW
  have iff := (n_lt ok0 (okS_h hS))
  rw [← n0] at iff
  refine lv_if_gt hF.1 hF.2.1 hd ht (fun h => ?_) (fun h => ?_)
  · rw [iff] at h
    rw [if_pos h] at ha
    exact kt h a ha hE (okS_t hS) hM p l e R s m args below meth c G A H locs ls hF hL hW
  · rw [iff] at h
    rw [if_neg h] at ha
    exact kf h a ha hE (okS_t hS) hM p l e R s m args below meth c G A H locs ls hF hL hW
theorem S_if_le {x : Int} {off : Int} {tgt : Nat} (hd : decode cc pc = .ok (.ifCond .le off, 3)) (ht : (pc : Int) + off = (tgt : Int)) (kt : x ≤ 0 → Sim σ cc nL own d rt w tgt lv st μ X) (kf : ¬ (x ≤ 0) → Sim σ cc nL own d rt w (pc + 3) lv st μ Y) : Sim σ cc nL own d rt w pc lv (.inl x :: st) μ (if x ≤ 0 then X else Y) := by
  intro a ha hE hS hM kc nc Qe p l e R s m args below meth c G A H locs ls hF hL hW
  have iff := (n_le (okS_h hS) ok0)
  rw [← n0] at iff
  refine lv_if_le hF.1 hF.2.1 hd ht (fun h => ?_) (fun h => ?_)
  · rw [iff] at h
    rw [if_pos h] at ha
    exact kt h a ha hE (okS_t hS) hM p l e R s m args below meth c G A H locs ls hF hL hW
  · rw [iff] at h
    rw [if_neg h] at ha
    exact kf h a ha hE (okS_t hS) hM p l e R s m args below meth c G A H locs ls hF hL hW
theorem S_ic_eq {x y : Int} {off : Int} {tgt : Nat} (hd : decode cc pc = .ok (.if_icmp .eq off, 3)) (ht : (pc : Int) + off = (tgt : Int)) (kt : x = y → Sim σ cc nL own d rt w tgt lv st μ X) (kf : ¬ (x = y) → Sim σ cc nL own d rt w (pc + 3) lv st μ Y) : Sim σ cc nL own d rt w pc lv (.inl y :: .inl x :: st) μ (if x = y then X else Y) := by
  intro a ha hE hS hM kc nc Qe p l e R s m args below meth c G A H locs ls hF hL hW
  have iff := (n_eq (okS_h (okS_t hS)) (okS_h hS))
  skip
  refine lv_icmp_eq hF.1 hF.2.1 hd ht (fun h => ?_) (fun h => ?_)
  · rw [iff] at h
    rw [if_pos h] at ha
    exact kt h a ha hE (okS_t (okS_t hS)) hM p l e R s m args below meth c G A H locs ls hF hL hW
  · rw [iff] at h
    rw [if_neg h] at ha
    exact kf h a ha hE (okS_t (okS_t hS)) hM p l e R s m args below meth c G A H locs ls hF hL hW
theorem S_ic_ne {x y : Int} {off : Int} {tgt : Nat} (hd : decode cc pc = .ok (.if_icmp .ne off, 3)) (ht : (pc : Int) + off = (tgt : Int)) (kt : ¬ x = y → Sim σ cc nL own d rt w tgt lv st μ X) (kf : ¬ (¬ x = y) → Sim σ cc nL own d rt w (pc + 3) lv st μ Y) : Sim σ cc nL own d rt w pc lv (.inl y :: .inl x :: st) μ (if ¬ x = y then X else Y) := by
  intro a ha hE hS hM kc nc Qe p l e R s m args below meth c G A H locs ls hF hL hW
  have iff := (n_eq (okS_h (okS_t hS)) (okS_h hS))
  skip
  refine lv_icmp_ne hF.1 hF.2.1 hd ht (fun h => ?_) (fun h => ?_)
  · rw [iff] at h
    rw [if_pos h] at ha
    exact kt h a ha hE (okS_t (okS_t hS)) hM p l e R s m args below meth c G A H locs ls hF hL hW
  · have h : ¬ ¬ _ := fun q => q (iff.mp h)
    rw [if_neg h] at ha
    exact kf h a ha hE (okS_t (okS_t hS)) hM p l e R s m args below meth c G A H locs ls hF hL hW
theorem S_ic_lt {x y : Int} {off : Int} {tgt : Nat} (hd : decode cc pc = .ok (.if_icmp .lt off, 3)) (ht : (pc : Int) + off = (tgt : Int)) (kt : x < y → Sim σ cc nL own d rt w tgt lv st μ X) (kf : ¬ (x < y) → Sim σ cc nL own d rt w (pc + 3) lv st μ Y) : Sim σ cc nL own d rt w pc lv (.inl y :: .inl x :: st) μ (if x < y then X else Y) := by
  intro a ha hE hS hM kc nc Qe p l e R s m args below meth c G A H locs ls hF hL hW
  have iff := (n_lt (okS_h (okS_t hS)) (okS_h hS))
  skip
  refine lv_icmp_lt hF.1 hF.2.1 hd ht (fun h => ?_) (fun h => ?_)
  · rw [iff] at h
    rw [if_pos h] at ha
    exact kt h a ha hE (okS_t (okS_t hS)) hM p l e R s m args below meth c G A H locs ls hF hL hW
  · rw [iff] at h
    rw [if_neg h] at ha
    exact kf h a ha hE (okS_t (okS_t hS)) hM p l e R s m args below meth c G A H locs ls hF hL hW
theorem S_ic_ge {x y : Int} {off : Int} {tgt : Nat} (hd : decode cc pc = .ok (.if_icmp .ge off, 3)) (ht : (pc : Int) + off = (tgt : Int)) (kt : y ≤ x → Sim σ cc nL own d rt w tgt lv st μ X) (kf : ¬ (y ≤ x) → Sim σ cc nL own d rt w (pc + 3) lv st μ Y) : Sim σ cc nL own d rt w pc lv (.inl y :: .inl x :: st) μ (if y ≤ x then X else Y) := by
  intro a ha hE hS hM kc nc Qe p l e R s m args below meth c G A H locs ls hF hL hW
  have iff := (n_le (okS_h hS) (okS_h (okS_t hS)))
  skip
  refine lv_icmp_ge hF.1 hF.2.1 hd ht (fun h => ?_) (fun h => ?_)
  · rw [iff] at h
    rw [if_pos h] at ha
    exact kt h a ha hE (okS_t (okS_t hS)) hM p l e R s m args below meth c G A H locs ls hF hL hW
  · rw [iff] at h
    rw [if_neg h] at ha
    exact kf h a ha hE (okS_t (okS_t hS)) hM p l e R s m args below meth c G A H locs ls hF hL hW
theorem S_ic_gt {x y : Int} {off : Int} {tgt : Nat} (hd : decode cc pc = .ok (.if_icmp .gt off, 3)) (ht : (pc : Int) + off = (tgt : Int)) (kt : y < x → Sim σ cc nL own d rt w tgt lv st μ X) (kf : ¬ (y < x) → Sim σ cc nL own d rt w (pc + 3) lv st μ Y) : Sim σ cc nL own d rt w pc lv (.inl y :: .inl x :: st) μ (if y < x then X else Y) := by
  intro a ha hE hS hM kc nc Qe p l e R s m args below meth c G A H locs ls hF hL hW
  have iff := (n_lt (okS_h hS) (okS_h (okS_t hS)))
  skip
  refine lv_icmp_gt hF.1 hF.2.1 hd ht (fun h => ?_) (fun h => ?_)
  · rw [iff] at h
    rw [if_pos h] at ha
    exact kt h a ha hE (okS_t (okS_t hS)) hM p l e R s m args below meth c G A H locs ls hF hL hW
  · rw [iff] at h
    rw [if_neg h] at ha
    exact kf h a ha hE (okS_t (okS_t hS)) hM p l e R s m args below meth c G A H locs ls hF hL hW
theorem S_ic_le {x y : Int} {off : Int} {tgt : Nat} (hd : decode cc pc = .ok (.if_icmp .le off, 3)) (ht : (pc : Int) + off = (tgt : Int)) (kt : x ≤ y → Sim σ cc nL own d rt w tgt lv st μ X) (kf : ¬ (x ≤ y) → Sim σ cc nL own d rt w (pc + 3) lv st μ Y) : Sim σ cc nL own d rt w pc lv (.inl y :: .inl x :: st) μ (if x ≤ y then X else Y) := by
  intro a ha hE hS hM kc nc Qe p l e R s m args below meth c G A H locs ls hF hL hW
  have iff := (n_le (okS_h (okS_t hS)) (okS_h hS))
  skip
  refine lv_icmp_le hF.1 hF.2.1 hd ht (fun h => ?_) (fun h => ?_)
  · rw [iff] at h
    rw [if_pos h] at ha
    exact kt h a ha hE (okS_t (okS_t hS)) hM p l e R s m args below meth c G A H locs ls hF hL hW
  · rw [iff] at h
    rw [if_neg h] at ha
    exact kf h a ha hE (okS_t (okS_t hS)) hM p l e R s m args below meth c G A H locs ls hF hL hW
/-! switches -/
theorem S_tsIn {x n : Int} {dflt lo hi off : Int} {offs : Array Int} {len tgt : Nat} (hd : decode cc pc = .ok (.tableswitch dflt lo hi offs, len)) (hx : x = n) (h1 : ¬ n < lo) (h2 : ¬ hi < n) (ho : offs[(n - lo).toNat]? = some off) (ht : (pc : Int) + off = (tgt : Int)) (k : Sim σ cc nL own d rt w tgt lv st μ o) : Sim σ cc nL own d rt w pc lv (.inl x :: st) μ o :=
  S_go (fun _ hS _ => okS_t hS) (fun _ _ _ _ _ _ _ _ _ _ _ _ _ _ _ _ _ hS _ hF _ _ kk => by subst hx; exact lv_tableIn hF.1 hF.2.1 hd (by rw [tiK (okS_h hS)]; exact h1) (by rw [tiK (okS_h hS)]; exact h2) (by rw [tiK (okS_h hS)]; exact ho) ht kk) k
theorem S_tsOut {x : Int} {dflt lo hi : Int} {offs : Array Int} {len tgt : Nat} (hd : decode cc pc = .ok (.tableswitch dflt lo hi offs, len)) (hx : x < lo ∨ hi < x) (ht : (pc : Int) + dflt = (tgt : Int)) (k : Sim σ cc nL own d rt w tgt lv st μ o) : Sim σ cc nL own d rt w pc lv (.inl x :: st) μ o :=
  S_go (fun _ hS _ => okS_t hS) (fun _ _ _ _ _ _ _ _ _ _ _ _ _ _ _ _ _ hS _ hF _ _ kk => lv_tableOut hF.1 hF.2.1 hd (by rw [tiK (okS_h hS)]; exact hx) ht kk) k
theorem S_lks {x : Int} {dflt off : Int} {ps : Array (Int × Int)} {len tgt : Nat} (hd : decode cc pc = .ok (.lookupswitch dflt ps, len)) (hp : (ps.toList.zip (ps.toList.drop 1)).all (fun (a, next) => a.1 < next.1) = true) (ho : Op.lookupswitch.offset ps.toList dflt x = off) (ht : (pc : Int) + off = (tgt : Int)) (k : Sim σ cc nL own d rt w tgt lv st μ o) : Sim σ cc nL own d rt w pc lv (.inl x :: st) μ o :=
  S_go (fun _ hS _ => okS_t hS) (fun _ _ _ _ _ _ _ _ _ _ _ _ _ _ _ _ _ hS _ hF _ _ kk => lv_lookup hF.1 hF.2.1 hd hp (by rw [tiK (okS_h hS)]; exact ho) ht kk) k
/-! ends -/
theorem locs_in {G : wC} {A : Nat → Prop} {H0 H : Heap} {locs : List Loc} (h : Wd G μ A H0 H locs) : ∀ q ∈ locs, A q.base := h.2.2.2.2
theorem S_iret {a : α} {z : Int} (hd : decode cc pc = .ok (.ireturn, 1)) (hr : rt = some .int) (hw : w a = (some (.inl z), μ)) : Sim σ cc nL own d rt w pc lv [.inl z] μ (some a) := by
  intro a' ha hE hS hM kc nc Qe p l e R s m args below meth c G A H locs ls hF hL hW
  cases ha
  obtain ⟨hx, hb, hml, ho, hg, hn, hlk, hrt, hK, hA, hf, hlo, hsc, hkc, hnc, hend⟩ := hF
  rw [hw] at hend
  exact hend H locs pc ls _ hW.1 hW.2.1 hW.2.2 hM (okS_h hS) (Or.inl ⟨z, hd, rfl, rfl, Or.inl hr⟩)
theorem S_zret {a : α} {z : Int} (hd : decode cc pc = .ok (.ireturn, 1)) (hr : rt = some .boolean) (hz : z = 0 ∨ z = 1) (hw : w a = (some (.inl z), μ)) : Sim σ cc nL own d rt w pc lv [.inl z] μ (some a) := by
  intro a' ha hE hS hM kc nc Qe p l e R s m args below meth c G A H locs ls hF hL hW
  cases ha
  obtain ⟨hx, hb, hml, ho, hg, hn, hlk, hrt, hK, hA, hf, hlo, hsc, hkc, hnc, hend⟩ := hF
  rw [hw] at hend
  exact hend H locs pc ls _ hW.1 hW.2.1 hW.2.2 hM (okS_h hS) (Or.inl ⟨z, hd, rfl, rfl, Or.inr ⟨hr, hz⟩⟩)
theorem S_lret {a : α} {z : Int} (hd : decode cc pc = .ok (.lreturn, 1)) (hr : rt = some .long) (hw : w a = (some (.inr (.inl z)), μ)) : Sim σ cc nL own d rt w pc lv [.inr (.inl z)] μ (some a) := by
  intro a' ha hE hS hM kc nc Qe p l e R s m args below meth c G A H locs ls hF hL hW
  cases ha
  obtain ⟨hx, hb, hml, ho, hg, hn, hlk, hrt, hK, hA, hf, hlo, hsc, hkc, hnc, hend⟩ := hF
  rw [hw] at hend
  exact hend H locs pc ls _ hW.1 hW.2.1 hW.2.2 hM (okS_h hS) (Or.inr (Or.inl ⟨z, hd, rfl, rfl, hr⟩))
theorem S_vret {a : α} (hd : decode cc pc = .ok (.return_, 1)) (hr : rt = none) (hw : w a = (none, μ)) : Sim σ cc nL own d rt w pc lv [] μ (some a) := by
  intro a' ha hE hS hM kc nc Qe p l e R s m args below meth c G A H locs ls hF hL hW
  cases ha
  obtain ⟨hx, hb, hml, ho, hg, hn, hlk, hrt, hK, hA, hf, hlo, hsc, hkc, hnc, hend⟩ := hF
  rw [hw] at hend
  exact hend H locs pc ls _ hW.1 hW.2.1 hW.2.2 hM trivial (Or.inr (Or.inr ⟨hd, rfl, rfl, hr⟩))
/-! fields -/
def FLk (own : String) (idx ci k : Nat) : Prop := (Cond.fieldLink own idx (clT ci k).1 (clT ci k).2.1 (clT ci k).2.2.1 ∈ gd_tbl) ∨ (∃ host, Cond.fieldLinkNest own idx (clT ci k).1 (clT ci k).2.1 (clT ci k).2.2.1 host ∈ ns_tbl)
theorem ci_cls {ci : Nat} (h : ci < 2) : cls3[ci]? = some (clR ci, clT ci, nF ci) := by
  match ci, h with
  | 0, _ => rfl
  | 1, _ => rfl
theorem inX0' : ∀ w ∈ wsX00, w ∈ lw_tbl := by decide +kernel
theorem inX1' : ∀ w ∈ wsX10, w ∈ lw_tbl := by decide +kernel
theorem ws_in0 : (wsX00.all fun w => goodWord w) = true := by decide +kernel
theorem ws_in1 : (wsX10.all fun w => goodWord w) = true := by decide +kernel
theorem inG0 : ∀ w ∈ wsX00, w ∈ gd_tbl := fun w h => List.mem_filter.mpr ⟨inX0' w h, List.all_eq_true.mp ws_in0 w h⟩
theorem inG1 : ∀ w ∈ wsX10, w ∈ gd_tbl := fun w h => List.mem_filter.mpr ⟨inX1' w h, List.all_eq_true.mp ws_in1 w h⟩
theorem ci_ws {ci : Nat} (h : ci < 2) : ∀ w ∈ u_ws (clR ci) (clT ci) (nF ci), w ∈ gd_tbl := by
  match ci, h with
  | 0, _ => exact inG0
  | 1, _ => exact inG1
theorem fV_at {G : wC} {c ci k : Nat} (hk : k < nF ci) : ((List.range (nF ci)).map (fV G μ c ci))[k]? = some (fV G μ c ci k) := by
  rw [List.getElem?_map, List.getElem?_range hk]
  rfl
theorem W_get {ci k idx c0 : Nat} {rest : List Value} (hd : decode cc pc = .ok (.getfield idx, 3)) (hkd : kd c0 = .inr ci) (hk : k < nF ci) (hf : FLk own idx ci k)
    {kc nc : Nat} {Qe : State → Prop} {oe : Option mV × Mem} {p : Program} {l : Launch} {e : Env} {R : Room} {s : State} {m : MethodId} {args : Array Value} {below : List Frame} {meth : Method} {c : Code} {G : wC} {A : Nat → Prop} {H : Heap} {locs : List Loc} {ls : Array Slot} {Q : State → Prop}
    (hF : Fx σ cc nL own d rt oe G A kc nc Qe p l e R s m args below meth c) (hW : Wd G μ A s.heap H locs) (kk : W p l e R s m args below meth c H locs kc nc Q (F0 m (pc + 3) ls (fV G μ c0 ci k :: rest))) : W p l e R s m args below meth c H locs kc nc Q (F0 m pc ls (.ref (G.2.2 c0) :: rest)) := by
  obtain ⟨hx, hb, hml, ho, hg, hn, hlk, hrt, hK, hA, hfr, hlo, hsc, hkc, hnc, hend⟩ := hF
  have hci := kd_ci hkd
  have he := (ws_at G μ (kd_lt hkd)).trans (by rw [cE_obj hkd])
  rcases hf with hf | ⟨host, hf⟩
  · exact va_get hx hb hg (ci_ws hci) ho hK hW.1 c0 he (ci_cls hci) k hk (hg _ hf) (fun x h => h) (fV_at hk) hd kk
  · exact va_getN hx hb hg (ci_ws hci) ho hK hW.1 c0 he (ci_cls hci) k hk (va_Nw.use (ns_on hf) (hn _ hf)) (fun x h => h) (fV_at hk) hd kk
theorem okM_I {c k ci : Nat} (hM : okM μ) (hkd : kd c = .inr ci) (h : fk ci k = 0) : okI (μ c k) := by
  have h1 := hM c k
  unfold mk at h1
  rw [hkd] at h1
  simp only [h] at h1
  exact h1
theorem okM_L {c k ci : Nat} (hM : okM μ) (hkd : kd c = .inr ci) (h : fk ci k = 1) : okL (μ c k) := by
  have h1 := hM c k
  unfold mk at h1
  rw [hkd] at h1
  simp only [h] at h1
  exact h1
theorem okM_A {c k n : Nat} (hM : okM μ) (hkd : kd c = .inl (0, n)) : okI (μ c k) := by
  have h1 := hM c k
  unfold mk at h1
  rw [hkd] at h1
  exact h1
theorem okM_B {c k n : Nat} (hM : okM μ) (hkd : kd c = .inl (1, n)) : okB (μ c k) := by
  have h1 := hM c k
  unfold mk at h1
  rw [hkd] at h1
  exact h1
theorem S_getI {ci k idx c0 : Nat} (hd : decode cc pc = .ok (.getfield idx, 3)) (hkd : kd c0 = .inr ci) (hf : FLk own idx ci k) (hk : Nat.blt k (nF ci) = true) (hfk : fk ci k = 0) (kk : Sim σ cc nL own d rt w (pc + 3) lv (.inl (μ c0 k) :: st) μ o) : Sim σ cc nL own d rt w pc lv (.inr (.inr c0) :: st) μ o :=
  S_go (fun _ hS hM => okS_i (okM_I hM hkd hfk) (okS_t hS)) (fun _ _ _ _ _ _ _ _ _ _ _ _ _ _ _ _ _ _ _ hF _ hW k9 => W_get hd hkd (Nat.le_of_ble_eq_true hk) hf hF hW (by unfold fV; rw [if_pos hfk]; exact k9)) kk
theorem S_getL {ci k idx c0 : Nat} (hd : decode cc pc = .ok (.getfield idx, 3)) (hkd : kd c0 = .inr ci) (hf : FLk own idx ci k) (hk : Nat.blt k (nF ci) = true) (hfk : fk ci k = 1) (kk : Sim σ cc nL own d rt w (pc + 3) lv (.inr (.inl (μ c0 k)) :: st) μ o) : Sim σ cc nL own d rt w pc lv (.inr (.inr c0) :: st) μ o :=
  S_go (fun _ hS hM => okS_c (v := .inr (.inl _)) (okM_L hM hkd hfk) (okS_t hS)) (fun _ _ _ _ _ _ _ _ _ _ _ _ _ _ _ _ _ _ _ hF _ hW k9 => W_get hd hkd (Nat.le_of_ble_eq_true hk) hf hF hW (by unfold fV; rw [if_neg (by omega), if_pos hfk]; exact k9)) kk
theorem S_getR {ci k idx c0 c1 : Nat} (hd : decode cc pc = .ok (.getfield idx, 3)) (hkd : kd c0 = .inr ci) (hf : FLk own idx ci k) (hk : Nat.blt k (nF ci) = true) (hfk : fk ci k = 2) (hr : rfc c0 ci k = c1) (kk : Sim σ cc nL own d rt w (pc + 3) lv (.inr (.inr c1) :: st) μ o) : Sim σ cc nL own d rt w pc lv (.inr (.inr c0) :: st) μ o :=
  S_go (fun _ hS hM => okS_c (v := .inr (.inr _)) trivial (okS_t hS)) (fun _ _ _ _ _ _ _ _ _ _ _ _ _ _ _ _ _ _ _ hF _ hW k9 => W_get hd hkd (Nat.le_of_ble_eq_true hk) hf hF hW (by unfold fV; rw [if_neg (by omega), if_neg (by omega), hr]; exact k9)) kk
theorem okM_wr {c k : Nat} {v : Int} (hM : okM μ) (hv : okK (mk c k) v) : okM (wr μ c k v) := by
  intro c' k'
  unfold wr
  by_cases h : c' = c ∧ k' = k
  · rw [if_pos h, h.1, h.2]; exact hv
  · rw [if_neg h]; exact hM c' k'
theorem cE_wr {G : wC} {c c' k : Nat} {v : Int} (h : c' ≠ c) : cE G μ c' = cE G (wr μ c k v) c' := cE_congr fun k' => by
  unfold wr
  rw [if_neg (fun q => h q.1)]
theorem fV_set {G : wC} {c ci k : Nat} {v : Int} (hf : fk ci k = 0 ∨ fk ci k = 1) : ((List.range (nF ci)).map (fV G μ c ci)).set k (if fk ci k = 0 then .int (Int32.ofInt v) else .long (Int64.ofInt v)) = (List.range (nF ci)).map (fV G (wr μ c k v) c ci) := by
  apply List.ext_getElem?
  intro i
  rw [List.getElem?_set, List.length_map, List.length_range]
  by_cases e : k = i
  · subst e
    rw [if_pos rfl]
    by_cases hk : k < nF ci
    · rw [if_pos hk, fV_at hk]
      unfold fV
      by_cases h0 : fk ci k = 0
      · rw [if_pos h0, if_pos h0]; unfold wr; rw [if_pos ⟨rfl, rfl⟩]
      · have h1 : fk ci k = 1 := hf.resolve_left h0
        rw [if_neg h0, if_neg h0, if_pos h1]; unfold wr; rw [if_pos ⟨rfl, rfl⟩]
    · rw [if_neg hk, List.getElem?_eq_none (by simp; omega)]
  · rw [if_neg e]
    by_cases hi : i < nF ci
    · rw [fV_at hi, fV_at hi]
      have e2 : wr μ c k v c i = μ c i := by unfold wr; exact if_neg (fun q => e q.2.symm)
      unfold fV
      rw [e2]
    · rw [List.getElem?_eq_none (by simp; omega), List.getElem?_eq_none (by simp; omega)]
end ROWS2
