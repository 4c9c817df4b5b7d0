theorem sub6 {L : Nat} (hL : L ≤ 3072) : (nI L - 6).toInt = (L : Int) - 6 := by
  rw [Int32.toInt_sub, nI_toInt (by omega), show (6 : Int32).toInt = 6 by decide]
  show w32 ((L : Int) - 6) = (L : Int) - 6
  exact w32_id (by unfold okI; omega)
/-- THE LAW'S LOOP: at its head the two are alike -/
theorem law_loop {X : LC} (hF : LFx X) (hL : X.L ≤ 3072) (hend : ∀ (μ : Mem) (ls : Array Slot), LAt X μ 1431 ls []) :
    ∀ (t i : Nat), i ≤ X.L → X.L + 1 ≤ i + t → ∀ (μ : Mem) (ls : Array Slot), Inv μ → okM μ → lv_has ls 4 (lvs X i) → LAt X μ 18 ls [] := by
  intro t
  induction t with
  | zero =>
    intro i h1 h2
    exact absurd h2 (by omega)
  | succ t ih =>
    intro i h1 h2 μ ls h hM hl H locs hP hD hS
    obtain ⟨hx, hb, hml, ho, hg, hK, hX, hbl, hn0, hk, hn⟩ := hF
    have hF : LFx X := ⟨hx, hb, hml, ho, hg, hK, hX, hbl, hn0, hk, hn⟩
    refine lv_iload_n hx hb dL_law_18 rfl (lv_at hl 3 rfl) ?_
    refine lv_aload_n hx hb dL_law_19 rfl (lv_at hl 0 rfl) ?_
    refine va_slen hx hb hX hbl (Nat.not_le.mpr hbl) hS dL_law_20 ?_
    refine lv_bipush (v := 6) hx hb dL_law_21 (by decide) ?_
    refine lv_isub hx hb dL_law_23 ?_
    refine lv_icmp_gt (tgt := 1431) hx hb dL_law_24 (by decide) (fun _ => hend μ ls H locs hP hD hS) (fun c1 => ?_)
    have hi : i + 6 ≤ X.L := by
      rw [Int32.lt_iff_toInt_lt, nI_toInt (by omega), show Int32.ofNat X.L - 6 = nI X.L - 6 from rfl, sub6 hL] at c1
      omega
    refine lv_aload_n hx hb dL_law_27 rfl (lv_at hl 0 rfl) ?_
    refine lv_iload_n hx hb dL_law_28 rfl (lv_at hl 3 rfl) ?_
    refine va_sld hx hb hX hbl (Nat.not_le.mpr hbl) hS (vp_in_nI (by omega) (by omega)) dL_law_29 ?_
    refine lv_bipush (v := 63) hx hb dL_law_30 (by decide) ?_
    refine lv_iand hx hb dL_law_32 ?_
    have back : ∀ ν : Mem, Inv ν → okM ν → LAt X ν 1425 ls [] := by
      intro ν hI hMν H1 locs1 hP1 hD1 hS1
      refine lv_iinc (v := nI (i + 6)) (lv' := [(3, .int (nI (i + 6))), (0, .ref X.b), (1, .ref (X.G.2.2 0)), (2, .ref (X.G.2.2 60))]) hx hb dL_law_1425 hl (k := 3) rfl ?_ (by decide) rfl (fun ls' hl' => ?_)
      · rw [← nI_add]
        rfl
      refine lv_goto (tgt := 18) hx hb dL_law_1428 (by decide) ?_
      exact ih (i + 6) hi (by omega) ν ls' hI hMν (lv_sub hl' [1, 2, 3, 0] rfl) H1 locs1 hP1 hD1 hS1
    generalize X.xs (nI i).toNatClampNeg &&& 63 = v
    by_cases hv : v.toInt < 0 ∨ 41 < v.toInt
    · exact lv_tableOut (tgt := 1425) hx hb dL_law_33 hv (by decide) (back μ h hM H locs hP hD hS)
    · obtain ⟨off, tgt, e1, e2, k9⟩ := case_all hF hl hi hL h hM back v.toInt.toNat (by omega)
      refine lv_tableIn (off := off) (tgt := tgt) hx hb dL_law_33 (by omega) (by omega) ?_ e2 (k9 H locs hP hD hS)
      rw [Int.sub_zero]
      exact e1
