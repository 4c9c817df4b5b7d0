def fL_law_c2648 (σ : Scr) (x34 : Int) (x35 : Int) (μ36 : Mem) : Option (Int × Mem) :=
  bnd2 (fX1_river 0 μ36) fun x37 μ38 =>
  mlet (
    some (0, μ38)
    : Option (Int × Mem)) fun (K39 : Option (Int × Mem)) =>
  if ¬ x37 = x34 then
    K39
  else
    (fX1_digest μ38).bind fun x40 =>
    if ¬ (lcmpZ x40 x35) = 0 then
      K39
    else
      some (1, μ38)
theorem dL_law_2648 : decode cL_law 2648 = .ok (.aload_n 1, 1) := by decide +kernel
theorem dL_law_2649 : decode cL_law 2649 = .ok (.iconst 0, 1) := by decide +kernel
theorem dL_law_2650 : decode cL_law 2650 = .ok (.invokevirtual 35, 3) := by decide +kernel
theorem dL_law_2653 : decode cL_law 2653 = .ok (.iload 6, 2) := by decide +kernel
theorem dL_law_2655 : decode cL_law 2655 = .ok (.if_icmp .ne 17, 3) := by decide +kernel
theorem dL_law_2658 : decode cL_law 2658 = .ok (.aload_n 1, 1) := by decide +kernel
theorem dL_law_2659 : decode cL_law 2659 = .ok (.invokevirtual 81, 3) := by decide +kernel
theorem dL_law_2662 : decode cL_law 2662 = .ok (.lload 7, 2) := by decide +kernel
theorem dL_law_2664 : decode cL_law 2664 = .ok (.lcmp, 1) := by decide +kernel
theorem dL_law_2665 : decode cL_law 2665 = .ok (.ifCond .ne 7, 3) := by decide +kernel
theorem dL_law_2668 : decode cL_law 2668 = .ok (.iconst 1, 1) := by decide +kernel
theorem dL_law_2669 : decode cL_law 2669 = .ok (.goto 4, 3) := by decide +kernel
theorem dL_law_2672 : decode cL_law 2672 = .ok (.iconst 0, 1) := by decide +kernel
theorem dL_law_2673 : decode cL_law 2673 = .ok (.ireturn, 1) := by decide +kernel
theorem KL_law_c2648 {σ : Scr} (x34 : Int) (x35 : Int) (μ36 : Mem)  : Sim σ cL_law 60 RL (2000) (some .boolean) wI 2648 [(1, .inr (.inr 0)), (6, .inl x34), (7, .inr (.inl x35))] [] μ36 (fL_law_c2648 σ x34 x35 μ36) := by
  unfold fL_law_c2648
  refine S_aload_n dL_law_2648 rfl ?_
  refine S_iconst dL_law_2649 rfl ?_
  refine S_callV_M2 dL_law_2650 [.inl 0] (K_X1_river 0 μ36) l_L_35 yo_X1_river rfl rfl rfl rfl rfl (fun x37 μ38 => ?_)
  refine S_iload dL_law_2653 rfl ?_
  refine S_jn (fun (K39 : Option (Int × Mem)) => Sim σ cL_law 60 RL (2000) (some .boolean) wI 2672 [] [] μ38 K39) ?_ (fun K39 hK39 => ?_)
  · skip
    refine S_iconst dL_law_2672 rfl ?_
    exact S_zret dL_law_2673 rfl (by decide) rfl
  refine S_ic_ne (tgt := 2672) dL_law_2655 (by decide) (fun h42 => ?_) (fun h42 => ?_)
  · exact S_sub [] rfl (hK39)
  · refine S_aload_n dL_law_2658 rfl ?_
    refine S_callV_L dL_law_2659 [] (K_X1_digest μ38) l_L_81 yo_X1_digest rfl rfl rfl rfl rfl (fun x40 => ?_)
    refine S_lload dL_law_2662 rfl ?_
    refine S_lcmp dL_law_2664 ?_
    refine S_if_ne (tgt := 2672) dL_law_2665 (by decide) (fun h41 => ?_) (fun h41 => ?_)
    · exact S_sub [] rfl (hK39)
    · refine S_iconst dL_law_2668 rfl ?_
      refine S_goto (tgt := 2673) dL_law_2669 (by decide) ?_
      exact S_zret dL_law_2673 rfl (by decide) rfl
def fL_law_L2612 (σ : Scr) (x28 : Int) (x29 : Int) : Nat → Int → Mem → Option (Int × Mem)
  | 0, _, _ => none
  | n33 + 1, x31, μ32 =>
    if 6 ≤ x31 then
      fL_law_c2648 σ x28 x29 μ32
    else
      bnd2 (fX1_tear x31 μ32) fun x43 μ44 =>
      mlet (
        mlet (w32 (x31 + 1)) fun x46 =>
        fL_law_L2612 σ x28 x29 n33 x46 μ44
        : Option (Int × Mem)) fun (K45 : Option (Int × Mem)) =>
      if x43 = 1 then
        K45
      else
        if x43 = (-3) then
          K45
        else
          some (0, μ44)
def fL_law_c2609 (σ : Scr) (x28 : Int) (x29 : Int) (μ30 : Mem) : Option (Int × Mem) :=
  fL_law_L2612 σ x28 x29 fuel 0 μ30
theorem dL_law_2609 : decode cL_law 2609 = .ok (.iconst 0, 1) := by decide +kernel
theorem dL_law_2610 : decode cL_law 2610 = .ok (.istore 10, 2) := by decide +kernel
theorem dL_law_2612 : decode cL_law 2612 = .ok (.iload 10, 2) := by decide +kernel
theorem dL_law_2614 : decode cL_law 2614 = .ok (.bipush 6, 2) := by decide +kernel
theorem dL_law_2616 : decode cL_law 2616 = .ok (.if_icmp .ge 32, 3) := by decide +kernel
theorem dL_law_2619 : decode cL_law 2619 = .ok (.aload_n 1, 1) := by decide +kernel
theorem dL_law_2620 : decode cL_law 2620 = .ok (.iload 10, 2) := by decide +kernel
theorem dL_law_2622 : decode cL_law 2622 = .ok (.invokevirtual 174, 3) := by decide +kernel
theorem dL_law_2625 : decode cL_law 2625 = .ok (.istore 11, 2) := by decide +kernel
theorem dL_law_2627 : decode cL_law 2627 = .ok (.iload 11, 2) := by decide +kernel
theorem dL_law_2629 : decode cL_law 2629 = .ok (.iconst 1, 1) := by decide +kernel
theorem dL_law_2630 : decode cL_law 2630 = .ok (.if_icmp .eq 12, 3) := by decide +kernel
theorem dL_law_2633 : decode cL_law 2633 = .ok (.iload 11, 2) := by decide +kernel
theorem dL_law_2635 : decode cL_law 2635 = .ok (.bipush (-3), 2) := by decide +kernel
theorem dL_law_2637 : decode cL_law 2637 = .ok (.if_icmp .eq 5, 3) := by decide +kernel
theorem dL_law_2640 : decode cL_law 2640 = .ok (.iconst 0, 1) := by decide +kernel
theorem dL_law_2641 : decode cL_law 2641 = .ok (.ireturn, 1) := by decide +kernel
theorem dL_law_2642 : decode cL_law 2642 = .ok (.iinc 10 1, 3) := by decide +kernel
theorem dL_law_2645 : decode cL_law 2645 = .ok (.goto (-33), 3) := by decide +kernel
theorem KL_law_c2609 {σ : Scr} (x28 : Int) (x29 : Int) (μ30 : Mem)  : Sim σ cL_law 60 RL (2000) (some .boolean) wI 2609 [(1, .inr (.inr 0)), (6, .inl x28), (7, .inr (.inl x29))] [] μ30 (fL_law_c2609 σ x28 x29 μ30) := by
  unfold fL_law_c2609
  refine S_iconst dL_law_2609 rfl ?_
  refine S_istore (lv' := [(10, .inl 0), (1, .inr (.inr 0)), (6, .inl x28), (7, .inr (.inl x29))]) dL_law_2610 rfl rfl ?_
  have hL2612 : ∀ (n33 : Nat) (x31 : Int) (μ32 : Mem), Sim σ cL_law 60 RL (2000) (some .boolean) wI 2612 [(1, .inr (.inr 0)), (6, .inl x28), (7, .inr (.inl x29)), (10, .inl x31)] [] μ32 (fL_law_L2612 σ x28 x29 n33 x31 μ32) := by
    intro n33
    induction n33 with
    | zero =>
      intro x31 μ32
      exact S_none rfl
    | succ n33 ih =>
      intro x31 μ32
      rw [fL_law_L2612]
      refine S_iload dL_law_2612 rfl ?_
      refine S_bipush dL_law_2614 rfl (by decide) ?_
      refine S_ic_ge (tgt := 2648) dL_law_2616 (by decide) (fun h49 => ?_) (fun h49 => ?_)
      · exact S_sub [0, 1, 2] rfl (KL_law_c2648 x28 x29 μ32)
      · refine S_aload_n dL_law_2619 rfl ?_
        refine S_iload dL_law_2620 rfl ?_
        refine S_callV_M2 dL_law_2622 [.inl x31] (K_X1_tear x31 μ32) l_L_174 yo_X1_tear rfl rfl rfl rfl rfl (fun x43 μ44 => ?_)
        refine S_istore (lv' := [(11, .inl x43), (1, .inr (.inr 0)), (6, .inl x28), (7, .inr (.inl x29)), (10, .inl x31)]) dL_law_2625 rfl rfl ?_
        refine S_iload dL_law_2627 rfl ?_
        refine S_iconst dL_law_2629 rfl ?_
        refine S_jn (fun (K45 : Option (Int × Mem)) => Sim σ cL_law 60 RL (2000) (some .boolean) wI 2642 [(1, .inr (.inr 0)), (6, .inl x28), (7, .inr (.inl x29)), (10, .inl x31)] [] μ44 K45) ?_ (fun K45 hK45 => ?_)
        · skip
          refine S_iinc (lv' := fun x46 => [(10, .inl x46), (1, .inr (.inr 0)), (6, .inl x28), (7, .inr (.inl x29))]) dL_law_2642 rfl rfl rfl (fun _ => rfl) (fun x46 => ?_)
          refine S_goto (tgt := 2612) dL_law_2645 (by decide) ?_
          exact S_sub [1, 2, 3, 0] rfl (ih x46 μ44)
        refine S_ic_eq (tgt := 2642) dL_law_2630 (by decide) (fun h48 => ?_) (fun h48 => ?_)
        · exact S_sub [1, 2, 3, 4] rfl (hK45)
        · refine S_iload dL_law_2633 rfl ?_
          refine S_bipush dL_law_2635 rfl (by decide) ?_
          refine S_ic_eq (tgt := 2642) dL_law_2637 (by decide) (fun h47 => ?_) (fun h47 => ?_)
          · exact S_sub [1, 2, 3, 4] rfl (hK45)
          · refine S_iconst dL_law_2640 rfl ?_
            exact S_zret dL_law_2641 rfl (by decide) rfl
  exact S_sub [1, 2, 3, 0] rfl (hL2612 fuel 0 μ30)
def fL_law_c2545 (σ : Scr) (x14 : Int) (x15 : Int) (μ16 : Mem) : Option (Int × Mem) :=
  (fX1_count 2 μ16).bind fun x17 =>
  bnd2 (fX1_keep 1 μ16) fun x18 μ19 =>
  if ¬ x18 = x17 then
    some (0, μ19)
  else
    bnd2 (fX1_on 0 μ19) fun x20 μ21 =>
    if ¬ x20 = 0 then
      some (0, μ21)
    else
      (fX1_count 1 μ21).bind fun x22 =>
      if ¬ x22 = 0 then
        some (0, μ21)
      else
        bnd2 (fX1_on 1 μ21) fun x23 μ24 =>
        if ¬ x23 = x17 then
          some (0, μ24)
        else
          bnd2 (fX1_undo 0 μ24) fun x25 μ26 =>
          if ¬ x25 = x17 then
            some (0, μ26)
          else
            (fX1_count 6 μ26).bind fun x27 =>
            if x27 = 0 then
              fL_law_c2609 σ x14 x15 μ26
            else
              some (0, μ26)
theorem dL_law_2545 : decode cL_law 2545 = .ok (.aload_n 1, 1) := by decide +kernel
theorem dL_law_2546 : decode cL_law 2546 = .ok (.iconst 2, 1) := by decide +kernel
theorem dL_law_2547 : decode cL_law 2547 = .ok (.invokevirtual 92, 3) := by decide +kernel
theorem dL_law_2550 : decode cL_law 2550 = .ok (.istore 9, 2) := by decide +kernel
theorem dL_law_2552 : decode cL_law 2552 = .ok (.aload_n 1, 1) := by decide +kernel
theorem dL_law_2553 : decode cL_law 2553 = .ok (.iconst 1, 1) := by decide +kernel
theorem dL_law_2554 : decode cL_law 2554 = .ok (.invokevirtual 85, 3) := by decide +kernel
theorem dL_law_2557 : decode cL_law 2557 = .ok (.iload 9, 2) := by decide +kernel
theorem dL_law_2559 : decode cL_law 2559 = .ok (.if_icmp .ne 48, 3) := by decide +kernel
theorem dL_law_2562 : decode cL_law 2562 = .ok (.aload_n 1, 1) := by decide +kernel
theorem dL_law_2563 : decode cL_law 2563 = .ok (.iconst 0, 1) := by decide +kernel
theorem dL_law_2564 : decode cL_law 2564 = .ok (.invokevirtual 171, 3) := by decide +kernel
theorem dL_law_2567 : decode cL_law 2567 = .ok (.ifCond .ne 40, 3) := by decide +kernel
theorem dL_law_2570 : decode cL_law 2570 = .ok (.aload_n 1, 1) := by decide +kernel
theorem dL_law_2571 : decode cL_law 2571 = .ok (.iconst 1, 1) := by decide +kernel
theorem dL_law_2572 : decode cL_law 2572 = .ok (.invokevirtual 92, 3) := by decide +kernel
theorem dL_law_2575 : decode cL_law 2575 = .ok (.ifCond .ne 32, 3) := by decide +kernel
theorem dL_law_2578 : decode cL_law 2578 = .ok (.aload_n 1, 1) := by decide +kernel
theorem dL_law_2579 : decode cL_law 2579 = .ok (.iconst 1, 1) := by decide +kernel
theorem dL_law_2580 : decode cL_law 2580 = .ok (.invokevirtual 171, 3) := by decide +kernel
theorem dL_law_2583 : decode cL_law 2583 = .ok (.iload 9, 2) := by decide +kernel
theorem dL_law_2585 : decode cL_law 2585 = .ok (.if_icmp .ne 22, 3) := by decide +kernel
theorem dL_law_2588 : decode cL_law 2588 = .ok (.aload_n 1, 1) := by decide +kernel
theorem dL_law_2589 : decode cL_law 2589 = .ok (.iconst 0, 1) := by decide +kernel
theorem dL_law_2590 : decode cL_law 2590 = .ok (.invokevirtual 100, 3) := by decide +kernel
theorem dL_law_2593 : decode cL_law 2593 = .ok (.iload 9, 2) := by decide +kernel
theorem dL_law_2595 : decode cL_law 2595 = .ok (.if_icmp .ne 12, 3) := by decide +kernel
theorem dL_law_2598 : decode cL_law 2598 = .ok (.aload_n 1, 1) := by decide +kernel
theorem dL_law_2599 : decode cL_law 2599 = .ok (.bipush 6, 2) := by decide +kernel
theorem dL_law_2601 : decode cL_law 2601 = .ok (.invokevirtual 92, 3) := by decide +kernel
theorem dL_law_2604 : decode cL_law 2604 = .ok (.ifCond .eq 5, 3) := by decide +kernel
theorem dL_law_2607 : decode cL_law 2607 = .ok (.iconst 0, 1) := by decide +kernel
theorem dL_law_2608 : decode cL_law 2608 = .ok (.ireturn, 1) := by decide +kernel
theorem KL_law_c2545 {σ : Scr} (x14 : Int) (x15 : Int) (μ16 : Mem)  : Sim σ cL_law 60 RL (2000) (some .boolean) wI 2545 [(1, .inr (.inr 0)), (6, .inl x14), (7, .inr (.inl x15))] [] μ16 (fL_law_c2545 σ x14 x15 μ16) := by
  unfold fL_law_c2545
  refine S_aload_n dL_law_2545 rfl ?_
  refine S_iconst dL_law_2546 rfl ?_
  refine S_callV_I dL_law_2547 [.inl 2] (K_X1_count 2 μ16) l_L_92 yo_X1_count rfl rfl rfl rfl rfl (fun x17 => ?_)
  refine S_istore (lv' := [(9, .inl x17), (1, .inr (.inr 0)), (6, .inl x14), (7, .inr (.inl x15))]) dL_law_2550 rfl rfl ?_
  refine S_aload_n dL_law_2552 rfl ?_
  refine S_iconst dL_law_2553 rfl ?_
  refine S_callV_M2 dL_law_2554 [.inl 1] (K_X1_keep 1 μ16) l_L_85 yo_X1_keep rfl rfl rfl rfl rfl (fun x18 μ19 => ?_)
  refine S_iload dL_law_2557 rfl ?_
  refine S_ic_ne (tgt := 2607) dL_law_2559 (by decide) (fun h55 => ?_) (fun h55 => ?_)
  · refine S_iconst dL_law_2607 rfl ?_
    exact S_zret dL_law_2608 rfl (by decide) rfl
  · refine S_aload_n dL_law_2562 rfl ?_
    refine S_iconst dL_law_2563 rfl ?_
    refine S_callV_M2 dL_law_2564 [.inl 0] (K_X1_on 0 μ19) l_L_171 yo_X1_on rfl rfl rfl rfl rfl (fun x20 μ21 => ?_)
    refine S_if_ne (tgt := 2607) dL_law_2567 (by decide) (fun h54 => ?_) (fun h54 => ?_)
    · refine S_iconst dL_law_2607 rfl ?_
      exact S_zret dL_law_2608 rfl (by decide) rfl
    · refine S_aload_n dL_law_2570 rfl ?_
      refine S_iconst dL_law_2571 rfl ?_
      refine S_callV_I dL_law_2572 [.inl 1] (K_X1_count 1 μ21) l_L_92 yo_X1_count rfl rfl rfl rfl rfl (fun x22 => ?_)
      refine S_if_ne (tgt := 2607) dL_law_2575 (by decide) (fun h53 => ?_) (fun h53 => ?_)
      · refine S_iconst dL_law_2607 rfl ?_
        exact S_zret dL_law_2608 rfl (by decide) rfl
      · refine S_aload_n dL_law_2578 rfl ?_
        refine S_iconst dL_law_2579 rfl ?_
        refine S_callV_M2 dL_law_2580 [.inl 1] (K_X1_on 1 μ21) l_L_171 yo_X1_on rfl rfl rfl rfl rfl (fun x23 μ24 => ?_)
        refine S_iload dL_law_2583 rfl ?_
        refine S_ic_ne (tgt := 2607) dL_law_2585 (by decide) (fun h52 => ?_) (fun h52 => ?_)
        · refine S_iconst dL_law_2607 rfl ?_
          exact S_zret dL_law_2608 rfl (by decide) rfl
        · refine S_aload_n dL_law_2588 rfl ?_
          refine S_iconst dL_law_2589 rfl ?_
          refine S_callV_M2 dL_law_2590 [.inl 0] (K_X1_undo 0 μ24) l_L_100 yo_X1_undo rfl rfl rfl rfl rfl (fun x25 μ26 => ?_)
          refine S_iload dL_law_2593 rfl ?_
          refine S_ic_ne (tgt := 2607) dL_law_2595 (by decide) (fun h51 => ?_) (fun h51 => ?_)
          · refine S_iconst dL_law_2607 rfl ?_
            exact S_zret dL_law_2608 rfl (by decide) rfl
          · refine S_aload_n dL_law_2598 rfl ?_
            refine S_bipush dL_law_2599 rfl (by decide) ?_
            refine S_callV_I dL_law_2601 [.inl 6] (K_X1_count 6 μ26) l_L_92 yo_X1_count rfl rfl rfl rfl rfl (fun x27 => ?_)
            refine S_if_eq (tgt := 2609) dL_law_2604 (by decide) (fun h50 => ?_) (fun h50 => ?_)
            · exact S_sub [1, 2, 3] rfl (KL_law_c2609 x14 x15 μ26)
            · refine S_iconst dL_law_2607 rfl ?_
              exact S_zret dL_law_2608 rfl (by decide) rfl
def fL_law_c2539 (σ : Scr) (self66 : Int → Mem → Option (Int × Mem)) (x595 : Int) (x596 : Int) (x597 : Int) (μ598 : Mem) : Option (Int × Mem) :=
  mlet (w32 (x597 + 1)) fun x599 =>
  self66 x599 μ598
theorem dL_law_2539 : decode cL_law 2539 = .ok (.iinc 9 1, 3) := by decide +kernel
theorem dL_law_2542 : decode cL_law 2542 = .ok (.goto (-2476), 3) := by decide +kernel
theorem KL_law_c2539 {σ : Scr} {self66 : Int → Mem → Option (Int × Mem)} (x595 : Int) (x596 : Int) (x597 : Int) (μ598 : Mem) (hself66 : ∀ (x11 : Int) (μ12 : Mem), Sim σ cL_law 60 RL (2000) (some .boolean) wI 66 [(0, .inr (.inr 64)), (1, .inr (.inr 0)), (2, .inr (.inr 60)), (3, .inr (.inr 61)), (4, .inr (.inr 62)), (5, .inr (.inr 63)), (6, .inl x595), (7, .inr (.inl x596)), (9, .inl x11)] [] μ12 (self66 x11 μ12)) : Sim σ cL_law 60 RL (2000) (some .boolean) wI 2539 [(0, .inr (.inr 64)), (1, .inr (.inr 0)), (2, .inr (.inr 60)), (3, .inr (.inr 61)), (4, .inr (.inr 62)), (5, .inr (.inr 63)), (6, .inl x595), (7, .inr (.inl x596)), (9, .inl x597)] [] μ598 (fL_law_c2539 σ self66 x595 x596 x597 μ598) := by
  unfold fL_law_c2539
  refine S_iinc (lv' := fun x599 => [(9, .inl x599), (0, .inr (.inr 64)), (1, .inr (.inr 0)), (2, .inr (.inr 60)), (3, .inr (.inr 61)), (4, .inr (.inr 62)), (5, .inr (.inr 63)), (6, .inl x595), (7, .inr (.inl x596))]) dL_law_2539 rfl rfl rfl (fun _ => rfl) (fun x599 => ?_)
  refine S_goto (tgt := 66) dL_law_2542 (by decide) ?_
  exact S_sub [1, 2, 3, 4, 5, 6, 7, 8, 0] rfl (hself66 x599 μ598)
def fL_law_c2438 (σ : Scr) (self66 : Int → Mem → Option (Int × Mem)) (x575 : Int) (x576 : Int) (x577 : Int) (x578 : Int) (x579 : Int) (x580 : Int) (x581 : Int) (x582 : Int) (x583 : Int) (μ584 : Mem) : Option (Int × Mem) :=
  bnd2 (fX1_lots 4 (w32 (1 + (band x578 16777215))) μ584) fun x585 μ586 =>
  if x585 < 0 then
    some (0, μ586)
  else
    if 9 < x585 then
      some (0, μ586)
    else
      (fX1_count 3 μ586).bind fun x587 =>
      if ¬ x587 = x585 then
        some (0, μ586)
      else
        (fX1_count 2 μ586).bind fun x588 =>
        if ¬ x588 = (w32 (x579 + 4)) then
          some (0, μ586)
        else
          bnd2 (fX1_undo x579 μ586) fun x589 μ590 =>
          if ¬ x589 = 4 then
            some (0, μ590)
          else
            (fX1_count 1 μ590).bind fun x591 =>
            if ¬ x591 = x580 then
              some (0, μ590)
            else
              (fX1_count 3 μ590).bind fun x592 =>
              if ¬ x592 = x581 then
                some (0, μ590)
              else
                (fX1_count 5 μ590).bind fun x593 =>
                if ¬ x593 = x582 then
                  some (0, μ590)
                else
                  (fX1_count 6 μ590).bind fun x594 =>
                  if x594 = x583 then
                    fL_law_c2539 σ self66 x575 x576 x577 μ590
                  else
                    some (0, μ590)
theorem dL_law_2438 : decode cL_law 2438 = .ok (.aload_n 1, 1) := by decide +kernel
theorem dL_law_2439 : decode cL_law 2439 = .ok (.iconst 4, 1) := by decide +kernel
theorem dL_law_2440 : decode cL_law 2440 = .ok (.iconst 1, 1) := by decide +kernel
theorem dL_law_2441 : decode cL_law 2441 = .ok (.iload 10, 2) := by decide +kernel
theorem dL_law_2443 : decode cL_law 2443 = .ok (.ldc 167, 2) := by decide +kernel
theorem dL_law_2445 : decode cL_law 2445 = .ok (.iand, 1) := by decide +kernel
theorem dL_law_2446 : decode cL_law 2446 = .ok (.iadd, 1) := by decide +kernel
theorem dL_law_2447 : decode cL_law 2447 = .ok (.invokevirtual 168, 3) := by decide +kernel
theorem dL_law_2450 : decode cL_law 2450 = .ok (.istore 59, 2) := by decide +kernel
theorem dL_law_2452 : decode cL_law 2452 = .ok (.iload 59, 2) := by decide +kernel
theorem dL_law_2454 : decode cL_law 2454 = .ok (.ifCond .lt 83, 3) := by decide +kernel
theorem dL_law_2457 : decode cL_law 2457 = .ok (.iload 59, 2) := by decide +kernel
theorem dL_law_2459 : decode cL_law 2459 = .ok (.bipush 9, 2) := by decide +kernel
theorem dL_law_2461 : decode cL_law 2461 = .ok (.if_icmp .gt 76, 3) := by decide +kernel
theorem dL_law_2464 : decode cL_law 2464 = .ok (.aload_n 1, 1) := by decide +kernel
theorem dL_law_2465 : decode cL_law 2465 = .ok (.iconst 3, 1) := by decide +kernel
theorem dL_law_2466 : decode cL_law 2466 = .ok (.invokevirtual 92, 3) := by decide +kernel
theorem dL_law_2469 : decode cL_law 2469 = .ok (.iload 59, 2) := by decide +kernel
theorem dL_law_2471 : decode cL_law 2471 = .ok (.if_icmp .ne 66, 3) := by decide +kernel
theorem dL_law_2474 : decode cL_law 2474 = .ok (.aload_n 1, 1) := by decide +kernel
theorem dL_law_2475 : decode cL_law 2475 = .ok (.iconst 2, 1) := by decide +kernel
theorem dL_law_2476 : decode cL_law 2476 = .ok (.invokevirtual 92, 3) := by decide +kernel
theorem dL_law_2479 : decode cL_law 2479 = .ok (.iload 11, 2) := by decide +kernel
theorem dL_law_2481 : decode cL_law 2481 = .ok (.iconst 4, 1) := by decide +kernel
theorem dL_law_2482 : decode cL_law 2482 = .ok (.iadd, 1) := by decide +kernel
theorem dL_law_2483 : decode cL_law 2483 = .ok (.if_icmp .ne 54, 3) := by decide +kernel
theorem dL_law_2486 : decode cL_law 2486 = .ok (.aload_n 1, 1) := by decide +kernel
theorem dL_law_2487 : decode cL_law 2487 = .ok (.iload 11, 2) := by decide +kernel
theorem dL_law_2489 : decode cL_law 2489 = .ok (.invokevirtual 100, 3) := by decide +kernel
theorem dL_law_2492 : decode cL_law 2492 = .ok (.iconst 4, 1) := by decide +kernel
theorem dL_law_2493 : decode cL_law 2493 = .ok (.if_icmp .ne 44, 3) := by decide +kernel
theorem dL_law_2496 : decode cL_law 2496 = .ok (.aload_n 1, 1) := by decide +kernel
theorem dL_law_2497 : decode cL_law 2497 = .ok (.iconst 1, 1) := by decide +kernel
theorem dL_law_2498 : decode cL_law 2498 = .ok (.invokevirtual 92, 3) := by decide +kernel
theorem dL_law_2501 : decode cL_law 2501 = .ok (.iload 12, 2) := by decide +kernel
theorem dL_law_2503 : decode cL_law 2503 = .ok (.if_icmp .ne 34, 3) := by decide +kernel
theorem dL_law_2506 : decode cL_law 2506 = .ok (.aload_n 1, 1) := by decide +kernel
theorem dL_law_2507 : decode cL_law 2507 = .ok (.iconst 3, 1) := by decide +kernel
theorem dL_law_2508 : decode cL_law 2508 = .ok (.invokevirtual 92, 3) := by decide +kernel
theorem dL_law_2511 : decode cL_law 2511 = .ok (.iload 13, 2) := by decide +kernel
theorem dL_law_2513 : decode cL_law 2513 = .ok (.if_icmp .ne 24, 3) := by decide +kernel
theorem dL_law_2516 : decode cL_law 2516 = .ok (.aload_n 1, 1) := by decide +kernel
theorem dL_law_2517 : decode cL_law 2517 = .ok (.iconst 5, 1) := by decide +kernel
theorem dL_law_2518 : decode cL_law 2518 = .ok (.invokevirtual 92, 3) := by decide +kernel
theorem dL_law_2521 : decode cL_law 2521 = .ok (.iload 14, 2) := by decide +kernel
theorem dL_law_2523 : decode cL_law 2523 = .ok (.if_icmp .ne 14, 3) := by decide +kernel
theorem dL_law_2526 : decode cL_law 2526 = .ok (.aload_n 1, 1) := by decide +kernel
theorem dL_law_2527 : decode cL_law 2527 = .ok (.bipush 6, 2) := by decide +kernel
theorem dL_law_2529 : decode cL_law 2529 = .ok (.invokevirtual 92, 3) := by decide +kernel
theorem dL_law_2532 : decode cL_law 2532 = .ok (.iload 15, 2) := by decide +kernel
theorem dL_law_2534 : decode cL_law 2534 = .ok (.if_icmp .eq 5, 3) := by decide +kernel
theorem dL_law_2537 : decode cL_law 2537 = .ok (.iconst 0, 1) := by decide +kernel
theorem dL_law_2538 : decode cL_law 2538 = .ok (.ireturn, 1) := by decide +kernel
theorem KL_law_c2438 {σ : Scr} {self66 : Int → Mem → Option (Int × Mem)} (x575 : Int) (x576 : Int) (x577 : Int) (x578 : Int) (x579 : Int) (x580 : Int) (x581 : Int) (x582 : Int) (x583 : Int) (μ584 : Mem) (hself66 : ∀ (x11 : Int) (μ12 : Mem), Sim σ cL_law 60 RL (2000) (some .boolean) wI 66 [(0, .inr (.inr 64)), (1, .inr (.inr 0)), (2, .inr (.inr 60)), (3, .inr (.inr 61)), (4, .inr (.inr 62)), (5, .inr (.inr 63)), (6, .inl x575), (7, .inr (.inl x576)), (9, .inl x11)] [] μ12 (self66 x11 μ12)) : Sim σ cL_law 60 RL (2000) (some .boolean) wI 2438 [(0, .inr (.inr 64)), (1, .inr (.inr 0)), (2, .inr (.inr 60)), (3, .inr (.inr 61)), (4, .inr (.inr 62)), (5, .inr (.inr 63)), (6, .inl x575), (7, .inr (.inl x576)), (9, .inl x577), (10, .inl x578), (11, .inl x579), (12, .inl x580), (13, .inl x581), (14, .inl x582), (15, .inl x583)] [] μ584 (fL_law_c2438 σ self66 x575 x576 x577 x578 x579 x580 x581 x582 x583 μ584) := by
  unfold fL_law_c2438
  refine S_aload_n dL_law_2438 rfl ?_
  refine S_iconst dL_law_2439 rfl ?_
  refine S_iconst dL_law_2440 rfl ?_
  refine S_iload dL_law_2441 rfl ?_
  refine S_ldc dL_law_2443 rfl k_L_167 ?_
  refine S_iand dL_law_2445 ?_
  refine S_iadd dL_law_2446 ?_
  refine S_callV_M2 dL_law_2447 [.inl 4, .inl (w32 (1 + (band x578 16777215)))] (K_X1_lots 4 (w32 (1 + (band x578 16777215))) μ584) l_L_168 yo_X1_lots rfl rfl rfl rfl rfl (fun x585 μ586 => ?_)
  refine S_istore (lv' := [(59, .inl x585), (0, .inr (.inr 64)), (1, .inr (.inr 0)), (2, .inr (.inr 60)), (3, .inr (.inr 61)), (4, .inr (.inr 62)), (5, .inr (.inr 63)), (6, .inl x575), (7, .inr (.inl x576)), (9, .inl x577), (10, .inl x578), (11, .inl x579), (12, .inl x580), (13, .inl x581), (14, .inl x582), (15, .inl x583)]) dL_law_2450 rfl rfl ?_
  refine S_iload dL_law_2452 rfl ?_
  refine S_if_lt (tgt := 2537) dL_law_2454 (by decide) (fun h608 => ?_) (fun h608 => ?_)
  · refine S_iconst dL_law_2537 rfl ?_
    exact S_zret dL_law_2538 rfl (by decide) rfl
  · refine S_iload dL_law_2457 rfl ?_
    refine S_bipush dL_law_2459 rfl (by decide) ?_
    refine S_ic_gt (tgt := 2537) dL_law_2461 (by decide) (fun h607 => ?_) (fun h607 => ?_)
    · refine S_iconst dL_law_2537 rfl ?_
      exact S_zret dL_law_2538 rfl (by decide) rfl
    · refine S_aload_n dL_law_2464 rfl ?_
      refine S_iconst dL_law_2465 rfl ?_
      refine S_callV_I dL_law_2466 [.inl 3] (K_X1_count 3 μ586) l_L_92 yo_X1_count rfl rfl rfl rfl rfl (fun x587 => ?_)
      refine S_iload dL_law_2469 rfl ?_
      refine S_ic_ne (tgt := 2537) dL_law_2471 (by decide) (fun h606 => ?_) (fun h606 => ?_)
      · refine S_iconst dL_law_2537 rfl ?_
        exact S_zret dL_law_2538 rfl (by decide) rfl
      · refine S_aload_n dL_law_2474 rfl ?_
        refine S_iconst dL_law_2475 rfl ?_
        refine S_callV_I dL_law_2476 [.inl 2] (K_X1_count 2 μ586) l_L_92 yo_X1_count rfl rfl rfl rfl rfl (fun x588 => ?_)
        refine S_iload dL_law_2479 rfl ?_
        refine S_iconst dL_law_2481 rfl ?_
        refine S_iadd dL_law_2482 ?_
        refine S_ic_ne (tgt := 2537) dL_law_2483 (by decide) (fun h605 => ?_) (fun h605 => ?_)
        · refine S_iconst dL_law_2537 rfl ?_
          exact S_zret dL_law_2538 rfl (by decide) rfl
        · refine S_aload_n dL_law_2486 rfl ?_
          refine S_iload dL_law_2487 rfl ?_
          refine S_callV_M2 dL_law_2489 [.inl x579] (K_X1_undo x579 μ586) l_L_100 yo_X1_undo rfl rfl rfl rfl rfl (fun x589 μ590 => ?_)
          refine S_iconst dL_law_2492 rfl ?_
          refine S_ic_ne (tgt := 2537) dL_law_2493 (by decide) (fun h604 => ?_) (fun h604 => ?_)
          · refine S_iconst dL_law_2537 rfl ?_
            exact S_zret dL_law_2538 rfl (by decide) rfl
          · refine S_aload_n dL_law_2496 rfl ?_
            refine S_iconst dL_law_2497 rfl ?_
            refine S_callV_I dL_law_2498 [.inl 1] (K_X1_count 1 μ590) l_L_92 yo_X1_count rfl rfl rfl rfl rfl (fun x591 => ?_)
            refine S_iload dL_law_2501 rfl ?_
            refine S_ic_ne (tgt := 2537) dL_law_2503 (by decide) (fun h603 => ?_) (fun h603 => ?_)
            · refine S_iconst dL_law_2537 rfl ?_
              exact S_zret dL_law_2538 rfl (by decide) rfl
            · refine S_aload_n dL_law_2506 rfl ?_
              refine S_iconst dL_law_2507 rfl ?_
              refine S_callV_I dL_law_2508 [.inl 3] (K_X1_count 3 μ590) l_L_92 yo_X1_count rfl rfl rfl rfl rfl (fun x592 => ?_)
              refine S_iload dL_law_2511 rfl ?_
              refine S_ic_ne (tgt := 2537) dL_law_2513 (by decide) (fun h602 => ?_) (fun h602 => ?_)
              · refine S_iconst dL_law_2537 rfl ?_
                exact S_zret dL_law_2538 rfl (by decide) rfl
              · refine S_aload_n dL_law_2516 rfl ?_
                refine S_iconst dL_law_2517 rfl ?_
                refine S_callV_I dL_law_2518 [.inl 5] (K_X1_count 5 μ590) l_L_92 yo_X1_count rfl rfl rfl rfl rfl (fun x593 => ?_)
                refine S_iload dL_law_2521 rfl ?_
                refine S_ic_ne (tgt := 2537) dL_law_2523 (by decide) (fun h601 => ?_) (fun h601 => ?_)
                · refine S_iconst dL_law_2537 rfl ?_
                  exact S_zret dL_law_2538 rfl (by decide) rfl
                · refine S_aload_n dL_law_2526 rfl ?_
                  refine S_bipush dL_law_2527 rfl (by decide) ?_
                  refine S_callV_I dL_law_2529 [.inl 6] (K_X1_count 6 μ590) l_L_92 yo_X1_count rfl rfl rfl rfl rfl (fun x594 => ?_)
                  refine S_iload dL_law_2532 rfl ?_
                  refine S_ic_eq (tgt := 2539) dL_law_2534 (by decide) (fun h600 => ?_) (fun h600 => ?_)
                  · exact S_sub [1, 2, 3, 4, 5, 6, 7, 8, 9] rfl (KL_law_c2539 x575 x576 x577 μ590 hself66)
                  · refine S_iconst dL_law_2537 rfl ?_
                    exact S_zret dL_law_2538 rfl (by decide) rfl
def fL_law_L2352 (σ : Scr) (self66 : Int → Mem → Option (Int × Mem)) (x558 : Int) (x559 : Int) (x560 : Int) (x561 : Int) (x562 : Int) (x563 : Int) (x564 : Int) (x565 : Int) (x566 : Int) (x567 : Int) (x570 : Int) (x569 : Int) (x568 : Int) : Nat → Int → Mem → Option (Int × Mem)
  | 0, _, _ => none
  | n574 + 1, x572, μ573 =>
    if 10 ≤ x572 then
      fL_law_c2438 σ self66 x558 x559 x560 x561 x562 x563 x564 x565 x566 μ573
    else
      bnd2 (fX1_mid x572 x567 μ573) fun x609 μ610 =>
      if ¬ x609 = 1 then
        some (0, μ610)
      else
        (fX1_upper μ610).bind fun x611 =>
        (fX1_lower μ610).bind fun x612 =>
        if (lcmpZ (w64 (x611 * x570)) (w64 (x569 * x612))) < 0 then
          some (0, μ610)
        else
          mlet (
            (fX1_upper μ610).bind fun x614 =>
            (fX1_lower μ610).bind fun x615 =>
            if (lcmpZ x614 (w64 (9 * x615))) ≤ 0 then
              mlet (w32 (x572 + 1)) fun x616 =>
              fL_law_L2352 σ self66 x558 x559 x560 x561 x562 x563 x564 x565 x566 x567 x570 x569 x568 n574 x616 μ610
            else
              some (0, μ610)
            : Option (Int × Mem)) fun (K613 : Option (Int × Mem)) =>
          if x568 ≤ x572 then
            K613
          else
            (fX1_upper μ610).bind fun x618 =>
            (fX1_lower μ610).bind fun x619 =>
            if (lcmpZ (w64 (x618 * x570)) (w64 (x569 * x619))) = 0 then
              some (0, μ610)
            else
              K613
def fL_law_c2349 (σ : Scr) (self66 : Int → Mem → Option (Int × Mem)) (x558 : Int) (x559 : Int) (x560 : Int) (x561 : Int) (x562 : Int) (x563 : Int) (x564 : Int) (x565 : Int) (x566 : Int) (x567 : Int) (x568 : Int) (x569 : Int) (x570 : Int) (μ571 : Mem) : Option (Int × Mem) :=
  fL_law_L2352 σ self66 x558 x559 x560 x561 x562 x563 x564 x565 x566 x567 x570 x569 x568 fuel 0 μ571
theorem dL_law_2349 : decode cL_law 2349 = .ok (.iconst 0, 1) := by decide +kernel
theorem dL_law_2350 : decode cL_law 2350 = .ok (.istore 59, 2) := by decide +kernel
theorem dL_law_2352 : decode cL_law 2352 = .ok (.iload 59, 2) := by decide +kernel
theorem dL_law_2354 : decode cL_law 2354 = .ok (.bipush 10, 2) := by decide +kernel
theorem dL_law_2356 : decode cL_law 2356 = .ok (.if_icmp .ge 82, 3) := by decide +kernel
theorem dL_law_2359 : decode cL_law 2359 = .ok (.aload_n 1, 1) := by decide +kernel
theorem dL_law_2360 : decode cL_law 2360 = .ok (.iload 59, 2) := by decide +kernel
theorem dL_law_2362 : decode cL_law 2362 = .ok (.iload 49, 2) := by decide +kernel
theorem dL_law_2364 : decode cL_law 2364 = .ok (.invokevirtual 162, 3) := by decide +kernel
theorem dL_law_2367 : decode cL_law 2367 = .ok (.iconst 1, 1) := by decide +kernel
theorem dL_law_2368 : decode cL_law 2368 = .ok (.if_icmp .ne 62, 3) := by decide +kernel
theorem dL_law_2371 : decode cL_law 2371 = .ok (.aload_n 1, 1) := by decide +kernel
theorem dL_law_2372 : decode cL_law 2372 = .ok (.invokevirtual 142, 3) := by decide +kernel
theorem dL_law_2375 : decode cL_law 2375 = .ok (.lload 57, 2) := by decide +kernel
theorem dL_law_2377 : decode cL_law 2377 = .ok (.lmul, 1) := by decide +kernel
theorem dL_law_2378 : decode cL_law 2378 = .ok (.lload 55, 2) := by decide +kernel
theorem dL_law_2380 : decode cL_law 2380 = .ok (.aload_n 1, 1) := by decide +kernel
theorem dL_law_2381 : decode cL_law 2381 = .ok (.invokevirtual 156, 3) := by decide +kernel
theorem dL_law_2384 : decode cL_law 2384 = .ok (.lmul, 1) := by decide +kernel
theorem dL_law_2385 : decode cL_law 2385 = .ok (.lcmp, 1) := by decide +kernel
theorem dL_law_2386 : decode cL_law 2386 = .ok (.ifCond .lt 44, 3) := by decide +kernel
theorem dL_law_2389 : decode cL_law 2389 = .ok (.iload 59, 2) := by decide +kernel
theorem dL_law_2391 : decode cL_law 2391 = .ok (.iload 54, 2) := by decide +kernel
theorem dL_law_2393 : decode cL_law 2393 = .ok (.if_icmp .ge 21, 3) := by decide +kernel
theorem dL_law_2396 : decode cL_law 2396 = .ok (.aload_n 1, 1) := by decide +kernel
theorem dL_law_2397 : decode cL_law 2397 = .ok (.invokevirtual 142, 3) := by decide +kernel
theorem dL_law_2400 : decode cL_law 2400 = .ok (.lload 57, 2) := by decide +kernel
theorem dL_law_2402 : decode cL_law 2402 = .ok (.lmul, 1) := by decide +kernel
theorem dL_law_2403 : decode cL_law 2403 = .ok (.lload 55, 2) := by decide +kernel
theorem dL_law_2405 : decode cL_law 2405 = .ok (.aload_n 1, 1) := by decide +kernel
theorem dL_law_2406 : decode cL_law 2406 = .ok (.invokevirtual 156, 3) := by decide +kernel
theorem dL_law_2409 : decode cL_law 2409 = .ok (.lmul, 1) := by decide +kernel
theorem dL_law_2410 : decode cL_law 2410 = .ok (.lcmp, 1) := by decide +kernel
theorem dL_law_2411 : decode cL_law 2411 = .ok (.ifCond .eq 19, 3) := by decide +kernel
theorem dL_law_2414 : decode cL_law 2414 = .ok (.aload_n 1, 1) := by decide +kernel
theorem dL_law_2415 : decode cL_law 2415 = .ok (.invokevirtual 142, 3) := by decide +kernel
theorem dL_law_2418 : decode cL_law 2418 = .ok (.ldc2_w 165, 3) := by decide +kernel
theorem dL_law_2421 : decode cL_law 2421 = .ok (.aload_n 1, 1) := by decide +kernel
theorem dL_law_2422 : decode cL_law 2422 = .ok (.invokevirtual 156, 3) := by decide +kernel
theorem dL_law_2425 : decode cL_law 2425 = .ok (.lmul, 1) := by decide +kernel
theorem dL_law_2426 : decode cL_law 2426 = .ok (.lcmp, 1) := by decide +kernel
theorem dL_law_2427 : decode cL_law 2427 = .ok (.ifCond .le 5, 3) := by decide +kernel
theorem dL_law_2430 : decode cL_law 2430 = .ok (.iconst 0, 1) := by decide +kernel
theorem dL_law_2431 : decode cL_law 2431 = .ok (.ireturn, 1) := by decide +kernel
theorem dL_law_2432 : decode cL_law 2432 = .ok (.iinc 59 1, 3) := by decide +kernel
theorem dL_law_2435 : decode cL_law 2435 = .ok (.goto (-83), 3) := by decide +kernel
theorem KL_law_c2349 {σ : Scr} {self66 : Int → Mem → Option (Int × Mem)} (x558 : Int) (x559 : Int) (x560 : Int) (x561 : Int) (x562 : Int) (x563 : Int) (x564 : Int) (x565 : Int) (x566 : Int) (x567 : Int) (x568 : Int) (x569 : Int) (x570 : Int) (μ571 : Mem) (hself66 : ∀ (x11 : Int) (μ12 : Mem), Sim σ cL_law 60 RL (2000) (some .boolean) wI 66 [(0, .inr (.inr 64)), (1, .inr (.inr 0)), (2, .inr (.inr 60)), (3, .inr (.inr 61)), (4, .inr (.inr 62)), (5, .inr (.inr 63)), (6, .inl x558), (7, .inr (.inl x559)), (9, .inl x11)] [] μ12 (self66 x11 μ12)) : Sim σ cL_law 60 RL (2000) (some .boolean) wI 2349 [(0, .inr (.inr 64)), (1, .inr (.inr 0)), (2, .inr (.inr 60)), (3, .inr (.inr 61)), (4, .inr (.inr 62)), (5, .inr (.inr 63)), (6, .inl x558), (7, .inr (.inl x559)), (9, .inl x560), (10, .inl x561), (11, .inl x562), (12, .inl x563), (13, .inl x564), (14, .inl x565), (15, .inl x566), (49, .inl x567), (54, .inl x568), (55, .inr (.inl x569)), (57, .inr (.inl x570))] [] μ571 (fL_law_c2349 σ self66 x558 x559 x560 x561 x562 x563 x564 x565 x566 x567 x568 x569 x570 μ571) := by
  unfold fL_law_c2349
  refine S_iconst dL_law_2349 rfl ?_
  refine S_istore (lv' := [(59, .inl 0), (0, .inr (.inr 64)), (1, .inr (.inr 0)), (2, .inr (.inr 60)), (3, .inr (.inr 61)), (4, .inr (.inr 62)), (5, .inr (.inr 63)), (6, .inl x558), (7, .inr (.inl x559)), (9, .inl x560), (10, .inl x561), (11, .inl x562), (12, .inl x563), (13, .inl x564), (14, .inl x565), (15, .inl x566), (49, .inl x567), (54, .inl x568), (55, .inr (.inl x569)), (57, .inr (.inl x570))]) dL_law_2350 rfl rfl ?_
  have hL2352 : ∀ (n574 : Nat) (x572 : Int) (μ573 : Mem), Sim σ cL_law 60 RL (2000) (some .boolean) wI 2352 [(0, .inr (.inr 64)), (1, .inr (.inr 0)), (2, .inr (.inr 60)), (3, .inr (.inr 61)), (4, .inr (.inr 62)), (5, .inr (.inr 63)), (6, .inl x558), (7, .inr (.inl x559)), (9, .inl x560), (10, .inl x561), (11, .inl x562), (12, .inl x563), (13, .inl x564), (14, .inl x565), (15, .inl x566), (49, .inl x567), (54, .inl x568), (55, .inr (.inl x569)), (57, .inr (.inl x570)), (59, .inl x572)] [] μ573 (fL_law_L2352 σ self66 x558 x559 x560 x561 x562 x563 x564 x565 x566 x567 x570 x569 x568 n574 x572 μ573) := by
    intro n574
    induction n574 with
    | zero =>
      intro x572 μ573
      exact S_none rfl
    | succ n574 ih =>
      intro x572 μ573
      rw [fL_law_L2352]
      refine S_iload dL_law_2352 rfl ?_
      refine S_bipush dL_law_2354 rfl (by decide) ?_
      refine S_ic_ge (tgt := 2438) dL_law_2356 (by decide) (fun h624 => ?_) (fun h624 => ?_)
      · exact S_sub [0, 1, 2, 3, 4, 5, 6, 7, 8, 9, 10, 11, 12, 13, 14] rfl (KL_law_c2438 x558 x559 x560 x561 x562 x563 x564 x565 x566 μ573 hself66)
      · refine S_aload_n dL_law_2359 rfl ?_
        refine S_iload dL_law_2360 rfl ?_
        refine S_iload dL_law_2362 rfl ?_
        refine S_callV_M2 dL_law_2364 [.inl x572, .inl x567] (K_X1_mid x572 x567 μ573) l_L_162 yo_X1_mid rfl rfl rfl rfl rfl (fun x609 μ610 => ?_)
        refine S_iconst dL_law_2367 rfl ?_
        refine S_ic_ne (tgt := 2430) dL_law_2368 (by decide) (fun h623 => ?_) (fun h623 => ?_)
        · refine S_iconst dL_law_2430 rfl ?_
          exact S_zret dL_law_2431 rfl (by decide) rfl
        · refine S_aload_n dL_law_2371 rfl ?_
          refine S_callV_L dL_law_2372 [] (K_X1_upper μ610) l_L_142 yo_X1_upper rfl rfl rfl rfl rfl (fun x611 => ?_)
          refine S_lload dL_law_2375 rfl ?_
          refine S_lmul dL_law_2377 ?_
          refine S_lload dL_law_2378 rfl ?_
          refine S_aload_n dL_law_2380 rfl ?_
          refine S_callV_L dL_law_2381 [] (K_X1_lower μ610) l_L_156 yo_X1_lower rfl rfl rfl rfl rfl (fun x612 => ?_)
          refine S_lmul dL_law_2384 ?_
          refine S_lcmp dL_law_2385 ?_
          refine S_if_lt (tgt := 2430) dL_law_2386 (by decide) (fun h622 => ?_) (fun h622 => ?_)
          · refine S_iconst dL_law_2430 rfl ?_
            exact S_zret dL_law_2431 rfl (by decide) rfl
          · refine S_iload dL_law_2389 rfl ?_
            refine S_iload dL_law_2391 rfl ?_
            refine S_jn (fun (K613 : Option (Int × Mem)) => Sim σ cL_law 60 RL (2000) (some .boolean) wI 2414 [(0, .inr (.inr 64)), (1, .inr (.inr 0)), (2, .inr (.inr 60)), (3, .inr (.inr 61)), (4, .inr (.inr 62)), (5, .inr (.inr 63)), (6, .inl x558), (7, .inr (.inl x559)), (9, .inl x560), (10, .inl x561), (11, .inl x562), (12, .inl x563), (13, .inl x564), (14, .inl x565), (15, .inl x566), (49, .inl x567), (54, .inl x568), (55, .inr (.inl x569)), (57, .inr (.inl x570)), (59, .inl x572)] [] μ610 K613) ?_ (fun K613 hK613 => ?_)
            · skip
              refine S_aload_n dL_law_2414 rfl ?_
              refine S_callV_L dL_law_2415 [] (K_X1_upper μ610) l_L_142 yo_X1_upper rfl rfl rfl rfl rfl (fun x614 => ?_)
              refine S_ldc2 dL_law_2418 rfl k_L_165 ?_
              refine S_aload_n dL_law_2421 rfl ?_
              refine S_callV_L dL_law_2422 [] (K_X1_lower μ610) l_L_156 yo_X1_lower rfl rfl rfl rfl rfl (fun x615 => ?_)
              refine S_lmul dL_law_2425 ?_
              refine S_lcmp dL_law_2426 ?_
              refine S_if_le (tgt := 2432) dL_law_2427 (by decide) (fun h617 => ?_) (fun h617 => ?_)
              · refine S_iinc (lv' := fun x616 => [(59, .inl x616), (0, .inr (.inr 64)), (1, .inr (.inr 0)), (2, .inr (.inr 60)), (3, .inr (.inr 61)), (4, .inr (.inr 62)), (5, .inr (.inr 63)), (6, .inl x558), (7, .inr (.inl x559)), (9, .inl x560), (10, .inl x561), (11, .inl x562), (12, .inl x563), (13, .inl x564), (14, .inl x565), (15, .inl x566), (49, .inl x567), (54, .inl x568), (55, .inr (.inl x569)), (57, .inr (.inl x570))]) dL_law_2432 rfl rfl rfl (fun _ => rfl) (fun x616 => ?_)
                refine S_goto (tgt := 2352) dL_law_2435 (by decide) ?_
                exact S_sub [1, 2, 3, 4, 5, 6, 7, 8, 9, 10, 11, 12, 13, 14, 15, 16, 17, 18, 19, 0] rfl (ih x616 μ610)
              · refine S_iconst dL_law_2430 rfl ?_
                exact S_zret dL_law_2431 rfl (by decide) rfl
            refine S_ic_ge (tgt := 2414) dL_law_2393 (by decide) (fun h621 => ?_) (fun h621 => ?_)
            · exact S_sub [0, 1, 2, 3, 4, 5, 6, 7, 8, 9, 10, 11, 12, 13, 14, 15, 16, 17, 18, 19] rfl (hK613)
            · refine S_aload_n dL_law_2396 rfl ?_
              refine S_callV_L dL_law_2397 [] (K_X1_upper μ610) l_L_142 yo_X1_upper rfl rfl rfl rfl rfl (fun x618 => ?_)
              refine S_lload dL_law_2400 rfl ?_
              refine S_lmul dL_law_2402 ?_
              refine S_lload dL_law_2403 rfl ?_
              refine S_aload_n dL_law_2405 rfl ?_
              refine S_callV_L dL_law_2406 [] (K_X1_lower μ610) l_L_156 yo_X1_lower rfl rfl rfl rfl rfl (fun x619 => ?_)
              refine S_lmul dL_law_2409 ?_
              refine S_lcmp dL_law_2410 ?_
              refine S_if_eq (tgt := 2430) dL_law_2411 (by decide) (fun h620 => ?_) (fun h620 => ?_)
              · refine S_iconst dL_law_2430 rfl ?_
                exact S_zret dL_law_2431 rfl (by decide) rfl
              · exact S_sub [0, 1, 2, 3, 4, 5, 6, 7, 8, 9, 10, 11, 12, 13, 14, 15, 16, 17, 18, 19] rfl (hK613)
  exact S_sub [1, 2, 3, 4, 5, 6, 7, 8, 9, 10, 11, 12, 13, 14, 15, 16, 17, 18, 19, 0] rfl (hL2352 fuel 0 μ571)
def fL_law_c2283 (σ : Scr) (self66 : Int → Mem → Option (Int × Mem)) (x539 : Int) (x540 : Int) (x541 : Int) (x542 : Int) (x543 : Int) (x544 : Int) (x545 : Int) (x546 : Int) (x547 : Int) (x548 : Int) (μ549 : Mem) : Option (Int × Mem) :=
  bnd2 (fX1_fair x548 μ549) fun x550 μ551 =>
  (fX1_upper μ551).bind fun x552 =>
  (fX1_lower μ551).bind fun x553 =>
  if x550 < 0 then
    some (0, μ551)
  else
    if 9 < x550 then
      some (0, μ551)
    else
      bnd2 (fX1_mid x550 x548 μ551) fun x554 μ555 =>
      if ¬ x554 = 1 then
        some (0, μ555)
      else
        (fX1_upper μ555).bind fun x556 =>
        if ¬ (lcmpZ x556 x552) = 0 then
          some (0, μ555)
        else
          (fX1_lower μ555).bind fun x557 =>
          if (lcmpZ x557 x553) = 0 then
            fL_law_c2349 σ self66 x539 x540 x541 x542 x543 x544 x545 x546 x547 x548 x550 x552 x553 μ555
          else
            some (0, μ555)
theorem dL_law_2283 : decode cL_law 2283 = .ok (.aload_n 1, 1) := by decide +kernel
theorem dL_law_2284 : decode cL_law 2284 = .ok (.iload 49, 2) := by decide +kernel
theorem dL_law_2286 : decode cL_law 2286 = .ok (.invokevirtual 159, 3) := by decide +kernel
theorem dL_law_2289 : decode cL_law 2289 = .ok (.istore 54, 2) := by decide +kernel
theorem dL_law_2291 : decode cL_law 2291 = .ok (.aload_n 1, 1) := by decide +kernel
theorem dL_law_2292 : decode cL_law 2292 = .ok (.invokevirtual 142, 3) := by decide +kernel
theorem dL_law_2295 : decode cL_law 2295 = .ok (.lstore 55, 2) := by decide +kernel
theorem dL_law_2297 : decode cL_law 2297 = .ok (.aload_n 1, 1) := by decide +kernel
theorem dL_law_2298 : decode cL_law 2298 = .ok (.invokevirtual 156, 3) := by decide +kernel
theorem dL_law_2301 : decode cL_law 2301 = .ok (.lstore 57, 2) := by decide +kernel
theorem dL_law_2303 : decode cL_law 2303 = .ok (.iload 54, 2) := by decide +kernel
theorem dL_law_2305 : decode cL_law 2305 = .ok (.ifCond .lt 42, 3) := by decide +kernel
theorem dL_law_2308 : decode cL_law 2308 = .ok (.iload 54, 2) := by decide +kernel
theorem dL_law_2310 : decode cL_law 2310 = .ok (.bipush 9, 2) := by decide +kernel
theorem dL_law_2312 : decode cL_law 2312 = .ok (.if_icmp .gt 35, 3) := by decide +kernel
theorem dL_law_2315 : decode cL_law 2315 = .ok (.aload_n 1, 1) := by decide +kernel
theorem dL_law_2316 : decode cL_law 2316 = .ok (.iload 54, 2) := by decide +kernel
theorem dL_law_2318 : decode cL_law 2318 = .ok (.iload 49, 2) := by decide +kernel
theorem dL_law_2320 : decode cL_law 2320 = .ok (.invokevirtual 162, 3) := by decide +kernel
theorem dL_law_2323 : decode cL_law 2323 = .ok (.iconst 1, 1) := by decide +kernel
theorem dL_law_2324 : decode cL_law 2324 = .ok (.if_icmp .ne 23, 3) := by decide +kernel
theorem dL_law_2327 : decode cL_law 2327 = .ok (.aload_n 1, 1) := by decide +kernel
theorem dL_law_2328 : decode cL_law 2328 = .ok (.invokevirtual 142, 3) := by decide +kernel
theorem dL_law_2331 : decode cL_law 2331 = .ok (.lload 55, 2) := by decide +kernel
theorem dL_law_2333 : decode cL_law 2333 = .ok (.lcmp, 1) := by decide +kernel
theorem dL_law_2334 : decode cL_law 2334 = .ok (.ifCond .ne 13, 3) := by decide +kernel
theorem dL_law_2337 : decode cL_law 2337 = .ok (.aload_n 1, 1) := by decide +kernel
theorem dL_law_2338 : decode cL_law 2338 = .ok (.invokevirtual 156, 3) := by decide +kernel
theorem dL_law_2341 : decode cL_law 2341 = .ok (.lload 57, 2) := by decide +kernel
theorem dL_law_2343 : decode cL_law 2343 = .ok (.lcmp, 1) := by decide +kernel
theorem dL_law_2344 : decode cL_law 2344 = .ok (.ifCond .eq 5, 3) := by decide +kernel
theorem dL_law_2347 : decode cL_law 2347 = .ok (.iconst 0, 1) := by decide +kernel
theorem dL_law_2348 : decode cL_law 2348 = .ok (.ireturn, 1) := by decide +kernel
theorem KL_law_c2283 {σ : Scr} {self66 : Int → Mem → Option (Int × Mem)} (x539 : Int) (x540 : Int) (x541 : Int) (x542 : Int) (x543 : Int) (x544 : Int) (x545 : Int) (x546 : Int) (x547 : Int) (x548 : Int) (μ549 : Mem) (hself66 : ∀ (x11 : Int) (μ12 : Mem), Sim σ cL_law 60 RL (2000) (some .boolean) wI 66 [(0, .inr (.inr 64)), (1, .inr (.inr 0)), (2, .inr (.inr 60)), (3, .inr (.inr 61)), (4, .inr (.inr 62)), (5, .inr (.inr 63)), (6, .inl x539), (7, .inr (.inl x540)), (9, .inl x11)] [] μ12 (self66 x11 μ12)) : Sim σ cL_law 60 RL (2000) (some .boolean) wI 2283 [(0, .inr (.inr 64)), (1, .inr (.inr 0)), (2, .inr (.inr 60)), (3, .inr (.inr 61)), (4, .inr (.inr 62)), (5, .inr (.inr 63)), (6, .inl x539), (7, .inr (.inl x540)), (9, .inl x541), (10, .inl x542), (11, .inl x543), (12, .inl x544), (13, .inl x545), (14, .inl x546), (15, .inl x547), (49, .inl x548)] [] μ549 (fL_law_c2283 σ self66 x539 x540 x541 x542 x543 x544 x545 x546 x547 x548 μ549) := by
  unfold fL_law_c2283
  refine S_aload_n dL_law_2283 rfl ?_
  refine S_iload dL_law_2284 rfl ?_
  refine S_callV_M2 dL_law_2286 [.inl x548] (K_X1_fair x548 μ549) l_L_159 yo_X1_fair rfl rfl rfl rfl rfl (fun x550 μ551 => ?_)
  refine S_istore (lv' := [(54, .inl x550), (0, .inr (.inr 64)), (1, .inr (.inr 0)), (2, .inr (.inr 60)), (3, .inr (.inr 61)), (4, .inr (.inr 62)), (5, .inr (.inr 63)), (6, .inl x539), (7, .inr (.inl x540)), (9, .inl x541), (10, .inl x542), (11, .inl x543), (12, .inl x544), (13, .inl x545), (14, .inl x546), (15, .inl x547), (49, .inl x548)]) dL_law_2289 rfl rfl ?_
  refine S_aload_n dL_law_2291 rfl ?_
  refine S_callV_L dL_law_2292 [] (K_X1_upper μ551) l_L_142 yo_X1_upper rfl rfl rfl rfl rfl (fun x552 => ?_)
  refine S_lstore (lv' := [(55, .inr (.inl x552)), (54, .inl x550), (0, .inr (.inr 64)), (1, .inr (.inr 0)), (2, .inr (.inr 60)), (3, .inr (.inr 61)), (4, .inr (.inr 62)), (5, .inr (.inr 63)), (6, .inl x539), (7, .inr (.inl x540)), (9, .inl x541), (10, .inl x542), (11, .inl x543), (12, .inl x544), (13, .inl x545), (14, .inl x546), (15, .inl x547), (49, .inl x548)]) dL_law_2295 rfl rfl ?_
  refine S_aload_n dL_law_2297 rfl ?_
  refine S_callV_L dL_law_2298 [] (K_X1_lower μ551) l_L_156 yo_X1_lower rfl rfl rfl rfl rfl (fun x553 => ?_)
  refine S_lstore (lv' := [(57, .inr (.inl x553)), (55, .inr (.inl x552)), (54, .inl x550), (0, .inr (.inr 64)), (1, .inr (.inr 0)), (2, .inr (.inr 60)), (3, .inr (.inr 61)), (4, .inr (.inr 62)), (5, .inr (.inr 63)), (6, .inl x539), (7, .inr (.inl x540)), (9, .inl x541), (10, .inl x542), (11, .inl x543), (12, .inl x544), (13, .inl x545), (14, .inl x546), (15, .inl x547), (49, .inl x548)]) dL_law_2301 rfl rfl ?_
  refine S_iload dL_law_2303 rfl ?_
  refine S_if_lt (tgt := 2347) dL_law_2305 (by decide) (fun h629 => ?_) (fun h629 => ?_)
  · refine S_iconst dL_law_2347 rfl ?_
    exact S_zret dL_law_2348 rfl (by decide) rfl
  · refine S_iload dL_law_2308 rfl ?_
    refine S_bipush dL_law_2310 rfl (by decide) ?_
    refine S_ic_gt (tgt := 2347) dL_law_2312 (by decide) (fun h628 => ?_) (fun h628 => ?_)
    · refine S_iconst dL_law_2347 rfl ?_
      exact S_zret dL_law_2348 rfl (by decide) rfl
    · refine S_aload_n dL_law_2315 rfl ?_
      refine S_iload dL_law_2316 rfl ?_
      refine S_iload dL_law_2318 rfl ?_
      refine S_callV_M2 dL_law_2320 [.inl x550, .inl x548] (K_X1_mid x550 x548 μ551) l_L_162 yo_X1_mid rfl rfl rfl rfl rfl (fun x554 μ555 => ?_)
      refine S_iconst dL_law_2323 rfl ?_
      refine S_ic_ne (tgt := 2347) dL_law_2324 (by decide) (fun h627 => ?_) (fun h627 => ?_)
      · refine S_iconst dL_law_2347 rfl ?_
        exact S_zret dL_law_2348 rfl (by decide) rfl
      · refine S_aload_n dL_law_2327 rfl ?_
        refine S_callV_L dL_law_2328 [] (K_X1_upper μ555) l_L_142 yo_X1_upper rfl rfl rfl rfl rfl (fun x556 => ?_)
        refine S_lload dL_law_2331 rfl ?_
        refine S_lcmp dL_law_2333 ?_
        refine S_if_ne (tgt := 2347) dL_law_2334 (by decide) (fun h626 => ?_) (fun h626 => ?_)
        · refine S_iconst dL_law_2347 rfl ?_
          exact S_zret dL_law_2348 rfl (by decide) rfl
        · refine S_aload_n dL_law_2337 rfl ?_
          refine S_callV_L dL_law_2338 [] (K_X1_lower μ555) l_L_156 yo_X1_lower rfl rfl rfl rfl rfl (fun x557 => ?_)
          refine S_lload dL_law_2341 rfl ?_
          refine S_lcmp dL_law_2343 ?_
          refine S_if_eq (tgt := 2349) dL_law_2344 (by decide) (fun h625 => ?_) (fun h625 => ?_)
          · exact S_sub [3, 4, 5, 6, 7, 8, 9, 10, 11, 12, 13, 14, 15, 16, 17, 18, 2, 1, 0] rfl (KL_law_c2349 x539 x540 x541 x542 x543 x544 x545 x546 x547 x548 x550 x552 x553 μ555 hself66)
          · refine S_iconst dL_law_2347 rfl ?_
            exact S_zret dL_law_2348 rfl (by decide) rfl
def fL_law_c2244 (σ : Scr) (self66 : Int → Mem → Option (Int × Mem)) (x525 : Int) (x526 : Int) (x527 : Int) (x528 : Int) (x529 : Int) (x530 : Int) (x531 : Int) (x532 : Int) (x533 : Int) (x534 : Int) (x535 : Int) (x536 : Int) (x537 : Int) (μ538 : Mem) : Option (Int × Mem) :=
  if 0 < (lcmpZ x536 x537) then
    some (0, μ538)
  else
    if (lcmpZ x536 0) < 0 then
      some (0, μ538)
    else
      if ¬ x535 = 0 then
        fL_law_c2283 σ self66 x525 x526 x527 x528 x529 x530 x531 x532 x533 x535 μ538
      else
        mlet (fun (x630 : Int) =>
          if (lcmpZ x536 x630) = 0 then
            fL_law_c2283 σ self66 x525 x526 x527 x528 x529 x530 x531 x532 x533 x535 μ538
          else
            some (0, μ538)
          ) fun (K631 : Int → Option (Int × Mem)) =>
        if 0 ≤ x534 then
          K631 x537
        else
          K631 0
theorem dL_law_2244 : decode cL_law 2244 = .ok (.lload 50, 2) := by decide +kernel
theorem dL_law_2246 : decode cL_law 2246 = .ok (.lload 52, 2) := by decide +kernel
theorem dL_law_2248 : decode cL_law 2248 = .ok (.lcmp, 1) := by decide +kernel
theorem dL_law_2249 : decode cL_law 2249 = .ok (.ifCond .gt 32, 3) := by decide +kernel
theorem dL_law_2252 : decode cL_law 2252 = .ok (.lload 50, 2) := by decide +kernel
theorem dL_law_2254 : decode cL_law 2254 = .ok (.lconst 0, 1) := by decide +kernel
theorem dL_law_2255 : decode cL_law 2255 = .ok (.lcmp, 1) := by decide +kernel
theorem dL_law_2256 : decode cL_law 2256 = .ok (.ifCond .lt 25, 3) := by decide +kernel
theorem dL_law_2259 : decode cL_law 2259 = .ok (.iload 49, 2) := by decide +kernel
theorem dL_law_2261 : decode cL_law 2261 = .ok (.ifCond .ne 22, 3) := by decide +kernel
theorem dL_law_2264 : decode cL_law 2264 = .ok (.lload 50, 2) := by decide +kernel
theorem dL_law_2266 : decode cL_law 2266 = .ok (.iload 17, 2) := by decide +kernel
theorem dL_law_2268 : decode cL_law 2268 = .ok (.ifCond .ge 7, 3) := by decide +kernel
theorem dL_law_2271 : decode cL_law 2271 = .ok (.lconst 0, 1) := by decide +kernel
theorem dL_law_2272 : decode cL_law 2272 = .ok (.goto 5, 3) := by decide +kernel
theorem dL_law_2275 : decode cL_law 2275 = .ok (.lload 52, 2) := by decide +kernel
theorem dL_law_2277 : decode cL_law 2277 = .ok (.lcmp, 1) := by decide +kernel
theorem dL_law_2278 : decode cL_law 2278 = .ok (.ifCond .eq 5, 3) := by decide +kernel
theorem dL_law_2281 : decode cL_law 2281 = .ok (.iconst 0, 1) := by decide +kernel
theorem dL_law_2282 : decode cL_law 2282 = .ok (.ireturn, 1) := by decide +kernel
theorem KL_law_c2244 {σ : Scr} {self66 : Int → Mem → Option (Int × Mem)} (x525 : Int) (x526 : Int) (x527 : Int) (x528 : Int) (x529 : Int) (x530 : Int) (x531 : Int) (x532 : Int) (x533 : Int) (x534 : Int) (x535 : Int) (x536 : Int) (x537 : Int) (μ538 : Mem) (hself66 : ∀ (x11 : Int) (μ12 : Mem), Sim σ cL_law 60 RL (2000) (some .boolean) wI 66 [(0, .inr (.inr 64)), (1, .inr (.inr 0)), (2, .inr (.inr 60)), (3, .inr (.inr 61)), (4, .inr (.inr 62)), (5, .inr (.inr 63)), (6, .inl x525), (7, .inr (.inl x526)), (9, .inl x11)] [] μ12 (self66 x11 μ12)) : Sim σ cL_law 60 RL (2000) (some .boolean) wI 2244 [(0, .inr (.inr 64)), (1, .inr (.inr 0)), (2, .inr (.inr 60)), (3, .inr (.inr 61)), (4, .inr (.inr 62)), (5, .inr (.inr 63)), (6, .inl x525), (7, .inr (.inl x526)), (9, .inl x527), (10, .inl x528), (11, .inl x529), (12, .inl x530), (13, .inl x531), (14, .inl x532), (15, .inl x533), (17, .inl x534), (49, .inl x535), (50, .inr (.inl x536)), (52, .inr (.inl x537))] [] μ538 (fL_law_c2244 σ self66 x525 x526 x527 x528 x529 x530 x531 x532 x533 x534 x535 x536 x537 μ538) := by
  unfold fL_law_c2244
  refine S_lload dL_law_2244 rfl ?_
  refine S_lload dL_law_2246 rfl ?_
  refine S_lcmp dL_law_2248 ?_
  refine S_if_gt (tgt := 2281) dL_law_2249 (by decide) (fun h636 => ?_) (fun h636 => ?_)
  · refine S_iconst dL_law_2281 rfl ?_
    exact S_zret dL_law_2282 rfl (by decide) rfl
  · refine S_lload dL_law_2252 rfl ?_
    refine S_lconst (n := 0) dL_law_2254 (by decide) rfl ?_
    refine S_lcmp dL_law_2255 ?_
    refine S_if_lt (tgt := 2281) dL_law_2256 (by decide) (fun h635 => ?_) (fun h635 => ?_)
    · refine S_iconst dL_law_2281 rfl ?_
      exact S_zret dL_law_2282 rfl (by decide) rfl
    · refine S_iload dL_law_2259 rfl ?_
      refine S_if_ne (tgt := 2283) dL_law_2261 (by decide) (fun h634 => ?_) (fun h634 => ?_)
      · exact S_sub [0, 1, 2, 3, 4, 5, 6, 7, 8, 9, 10, 11, 12, 13, 14, 16] rfl (KL_law_c2283 x525 x526 x527 x528 x529 x530 x531 x532 x533 x535 μ538 hself66)
      · refine S_lload dL_law_2264 rfl ?_
        refine S_iload dL_law_2266 rfl ?_
        refine S_jn (fun (K631 : Int → Option (Int × Mem)) => ∀ (x630 : Int), Sim σ cL_law 60 RL (2000) (some .boolean) wI 2277 [(0, .inr (.inr 64)), (1, .inr (.inr 0)), (2, .inr (.inr 60)), (3, .inr (.inr 61)), (4, .inr (.inr 62)), (5, .inr (.inr 63)), (6, .inl x525), (7, .inr (.inl x526)), (9, .inl x527), (10, .inl x528), (11, .inl x529), (12, .inl x530), (13, .inl x531), (14, .inl x532), (15, .inl x533), (49, .inl x535)] [.inr (.inl x630), .inr (.inl x536)] μ538 (K631 x630)) ?_ (fun K631 hK631 => ?_)
        · intro x630
          refine S_lcmp dL_law_2277 ?_
          refine S_if_eq (tgt := 2283) dL_law_2278 (by decide) (fun h632 => ?_) (fun h632 => ?_)
          · exact S_sub [0, 1, 2, 3, 4, 5, 6, 7, 8, 9, 10, 11, 12, 13, 14, 15] rfl (KL_law_c2283 x525 x526 x527 x528 x529 x530 x531 x532 x533 x535 μ538 hself66)
          · refine S_iconst dL_law_2281 rfl ?_
            exact S_zret dL_law_2282 rfl (by decide) rfl
        refine S_if_ge (tgt := 2275) dL_law_2268 (by decide) (fun h633 => ?_) (fun h633 => ?_)
        · refine S_lload dL_law_2275 rfl ?_
          exact S_sub [0, 1, 2, 3, 4, 5, 6, 7, 8, 9, 10, 11, 12, 13, 14, 16] rfl (hK631 x537)
        · refine S_lconst (n := 0) dL_law_2271 (by decide) rfl ?_
          refine S_goto (tgt := 2277) dL_law_2272 (by decide) ?_
          exact S_sub [0, 1, 2, 3, 4, 5, 6, 7, 8, 9, 10, 11, 12, 13, 14, 16] rfl (hK631 0)
def fL_law_L2125 (x507 : Int) (σ : Scr) (self66 : Int → Mem → Option (Int × Mem)) (x508 : Int) (x509 : Int) (x510 : Int) (x511 : Int) (x512 : Int) (x513 : Int) (x514 : Int) (x515 : Int) (x516 : Int) (x517 : Int) (x519 : Int) : Nat → Int → Int → Mem → Option (Int × Mem)
  | 0, _, _, _ => none
  | n524 + 1, x521, x522, μ523 =>
    if x507 ≤ x522 then
      fL_law_c2244 σ self66 x507 x508 x509 x510 x511 x512 x513 x514 x515 x516 x517 x521 x519 μ523
    else
      bnd2 (fX1_odds x522 x517 μ523) fun x637 μ638 =>
      if ¬ x637 = 1 then
        some (0, μ638)
      else
        (fX1_upper μ638).bind fun x639 =>
        if (lcmpZ x639 0) < 0 then
          some (0, μ638)
        else
          (fX1_lower μ638).bind fun x640 =>
          grd (¬ x640 = 0) <|
          if (lcmpZ (x519.tmod x640) 0) = 0 then
            (fX1_upper μ638).bind fun x641 =>
            (fX1_lower μ638).bind fun x642 =>
            grd (¬ x642 = 0) <|
            mlet ((w64 (x521 + (w64 (x641 * (w64 (x519.tdiv x642))))))) fun x643 =>
            bnd2 (fX1_odds x522 0 μ638) fun x644 μ645 =>
            if ¬ x644 = 1 then
              some (0, μ645)
            else
              (fX1_upper μ645).bind fun x646 =>
              mlet (fun (x647 : Int) =>
                if ¬ (lcmpZ x646 x647) = 0 then
                  some (0, μ645)
                else
                  bnd2 (fX1_odds x522 12 μ645) fun x649 μ650 =>
                  if ¬ x649 = 1 then
                    some (0, μ650)
                  else
                    (fX1_upper μ650).bind fun x651 =>
                    if (lcmpZ x651 0) = 0 then
                      mlet (w32 (x522 + 1)) fun x652 =>
                      fL_law_L2125 x507 σ self66 x508 x509 x510 x511 x512 x513 x514 x515 x516 x517 x519 n524 x643 x652 μ650
                    else
                      some (0, μ650)
                ) fun (K648 : Int → Option (Int × Mem)) =>
              if ¬ x516 = x522 then
                K648 0
              else
                K648 1
          else
            some (0, μ638)
def fL_law_c2122 (σ : Scr) (self66 : Int → Mem → Option (Int × Mem)) (x507 : Int) (x508 : Int) (x509 : Int) (x510 : Int) (x511 : Int) (x512 : Int) (x513 : Int) (x514 : Int) (x515 : Int) (x516 : Int) (x517 : Int) (x518 : Int) (x519 : Int) (μ520 : Mem) : Option (Int × Mem) :=
  fL_law_L2125 x507 σ self66 x508 x509 x510 x511 x512 x513 x514 x515 x516 x517 x519 fuel x518 0 μ520
theorem dL_law_2122 : decode cL_law 2122 = .ok (.iconst 0, 1) := by decide +kernel
theorem dL_law_2123 : decode cL_law 2123 = .ok (.istore 54, 2) := by decide +kernel
theorem dL_law_2125 : decode cL_law 2125 = .ok (.iload 54, 2) := by decide +kernel
theorem dL_law_2127 : decode cL_law 2127 = .ok (.iload 6, 2) := by decide +kernel
theorem dL_law_2129 : decode cL_law 2129 = .ok (.if_icmp .ge 115, 3) := by decide +kernel
theorem dL_law_2132 : decode cL_law 2132 = .ok (.aload_n 1, 1) := by decide +kernel
theorem dL_law_2133 : decode cL_law 2133 = .ok (.iload 54, 2) := by decide +kernel
theorem dL_law_2135 : decode cL_law 2135 = .ok (.iload 49, 2) := by decide +kernel
theorem dL_law_2137 : decode cL_law 2137 = .ok (.invokevirtual 153, 3) := by decide +kernel
theorem dL_law_2140 : decode cL_law 2140 = .ok (.iconst 1, 1) := by decide +kernel
theorem dL_law_2141 : decode cL_law 2141 = .ok (.if_icmp .ne 24, 3) := by decide +kernel
theorem dL_law_2144 : decode cL_law 2144 = .ok (.aload_n 1, 1) := by decide +kernel
theorem dL_law_2145 : decode cL_law 2145 = .ok (.invokevirtual 142, 3) := by decide +kernel
theorem dL_law_2148 : decode cL_law 2148 = .ok (.lconst 0, 1) := by decide +kernel
theorem dL_law_2149 : decode cL_law 2149 = .ok (.lcmp, 1) := by decide +kernel
theorem dL_law_2150 : decode cL_law 2150 = .ok (.ifCond .lt 15, 3) := by decide +kernel
theorem dL_law_2153 : decode cL_law 2153 = .ok (.lload 52, 2) := by decide +kernel
theorem dL_law_2155 : decode cL_law 2155 = .ok (.aload_n 1, 1) := by decide +kernel
theorem dL_law_2156 : decode cL_law 2156 = .ok (.invokevirtual 156, 3) := by decide +kernel
theorem dL_law_2159 : decode cL_law 2159 = .ok (.lrem, 1) := by decide +kernel
theorem dL_law_2160 : decode cL_law 2160 = .ok (.lconst 0, 1) := by decide +kernel
theorem dL_law_2161 : decode cL_law 2161 = .ok (.lcmp, 1) := by decide +kernel
theorem dL_law_2162 : decode cL_law 2162 = .ok (.ifCond .eq 5, 3) := by decide +kernel
theorem dL_law_2165 : decode cL_law 2165 = .ok (.iconst 0, 1) := by decide +kernel
theorem dL_law_2166 : decode cL_law 2166 = .ok (.ireturn, 1) := by decide +kernel
theorem dL_law_2167 : decode cL_law 2167 = .ok (.lload 50, 2) := by decide +kernel
theorem dL_law_2169 : decode cL_law 2169 = .ok (.aload_n 1, 1) := by decide +kernel
theorem dL_law_2170 : decode cL_law 2170 = .ok (.invokevirtual 142, 3) := by decide +kernel
theorem dL_law_2173 : decode cL_law 2173 = .ok (.lload 52, 2) := by decide +kernel
theorem dL_law_2175 : decode cL_law 2175 = .ok (.aload_n 1, 1) := by decide +kernel
theorem dL_law_2176 : decode cL_law 2176 = .ok (.invokevirtual 156, 3) := by decide +kernel
theorem dL_law_2179 : decode cL_law 2179 = .ok (.ldiv, 1) := by decide +kernel
theorem dL_law_2180 : decode cL_law 2180 = .ok (.lmul, 1) := by decide +kernel
theorem dL_law_2181 : decode cL_law 2181 = .ok (.ladd, 1) := by decide +kernel
theorem dL_law_2182 : decode cL_law 2182 = .ok (.lstore 50, 2) := by decide +kernel
theorem dL_law_2184 : decode cL_law 2184 = .ok (.aload_n 1, 1) := by decide +kernel
theorem dL_law_2185 : decode cL_law 2185 = .ok (.iload 54, 2) := by decide +kernel
theorem dL_law_2187 : decode cL_law 2187 = .ok (.iconst 0, 1) := by decide +kernel
theorem dL_law_2188 : decode cL_law 2188 = .ok (.invokevirtual 153, 3) := by decide +kernel
theorem dL_law_2191 : decode cL_law 2191 = .ok (.iconst 1, 1) := by decide +kernel
theorem dL_law_2192 : decode cL_law 2192 = .ok (.if_icmp .ne 44, 3) := by decide +kernel
theorem dL_law_2195 : decode cL_law 2195 = .ok (.aload_n 1, 1) := by decide +kernel
theorem dL_law_2196 : decode cL_law 2196 = .ok (.invokevirtual 142, 3) := by decide +kernel
theorem dL_law_2199 : decode cL_law 2199 = .ok (.iload 17, 2) := by decide +kernel
theorem dL_law_2201 : decode cL_law 2201 = .ok (.iload 54, 2) := by decide +kernel
theorem dL_law_2203 : decode cL_law 2203 = .ok (.if_icmp .ne 7, 3) := by decide +kernel
theorem dL_law_2206 : decode cL_law 2206 = .ok (.lconst 1, 1) := by decide +kernel
theorem dL_law_2207 : decode cL_law 2207 = .ok (.goto 4, 3) := by decide +kernel
theorem dL_law_2210 : decode cL_law 2210 = .ok (.lconst 0, 1) := by decide +kernel
theorem dL_law_2211 : decode cL_law 2211 = .ok (.lcmp, 1) := by decide +kernel
theorem dL_law_2212 : decode cL_law 2212 = .ok (.ifCond .ne 24, 3) := by decide +kernel
theorem dL_law_2215 : decode cL_law 2215 = .ok (.aload_n 1, 1) := by decide +kernel
theorem dL_law_2216 : decode cL_law 2216 = .ok (.iload 54, 2) := by decide +kernel
theorem dL_law_2218 : decode cL_law 2218 = .ok (.bipush 12, 2) := by decide +kernel
theorem dL_law_2220 : decode cL_law 2220 = .ok (.invokevirtual 153, 3) := by decide +kernel
theorem dL_law_2223 : decode cL_law 2223 = .ok (.iconst 1, 1) := by decide +kernel
theorem dL_law_2224 : decode cL_law 2224 = .ok (.if_icmp .ne 12, 3) := by decide +kernel
theorem dL_law_2227 : decode cL_law 2227 = .ok (.aload_n 1, 1) := by decide +kernel
theorem dL_law_2228 : decode cL_law 2228 = .ok (.invokevirtual 142, 3) := by decide +kernel
theorem dL_law_2231 : decode cL_law 2231 = .ok (.lconst 0, 1) := by decide +kernel
theorem dL_law_2232 : decode cL_law 2232 = .ok (.lcmp, 1) := by decide +kernel
theorem dL_law_2233 : decode cL_law 2233 = .ok (.ifCond .eq 5, 3) := by decide +kernel
theorem dL_law_2236 : decode cL_law 2236 = .ok (.iconst 0, 1) := by decide +kernel
theorem dL_law_2237 : decode cL_law 2237 = .ok (.ireturn, 1) := by decide +kernel
theorem dL_law_2238 : decode cL_law 2238 = .ok (.iinc 54 1, 3) := by decide +kernel
theorem dL_law_2241 : decode cL_law 2241 = .ok (.goto (-116), 3) := by decide +kernel
theorem KL_law_c2122 {σ : Scr} {self66 : Int → Mem → Option (Int × Mem)} (x507 : Int) (x508 : Int) (x509 : Int) (x510 : Int) (x511 : Int) (x512 : Int) (x513 : Int) (x514 : Int) (x515 : Int) (x516 : Int) (x517 : Int) (x518 : Int) (x519 : Int) (μ520 : Mem) (hself66 : ∀ (x11 : Int) (μ12 : Mem), Sim σ cL_law 60 RL (2000) (some .boolean) wI 66 [(0, .inr (.inr 64)), (1, .inr (.inr 0)), (2, .inr (.inr 60)), (3, .inr (.inr 61)), (4, .inr (.inr 62)), (5, .inr (.inr 63)), (6, .inl x507), (7, .inr (.inl x508)), (9, .inl x11)] [] μ12 (self66 x11 μ12)) : Sim σ cL_law 60 RL (2000) (some .boolean) wI 2122 [(0, .inr (.inr 64)), (1, .inr (.inr 0)), (2, .inr (.inr 60)), (3, .inr (.inr 61)), (4, .inr (.inr 62)), (5, .inr (.inr 63)), (6, .inl x507), (7, .inr (.inl x508)), (9, .inl x509), (10, .inl x510), (11, .inl x511), (12, .inl x512), (13, .inl x513), (14, .inl x514), (15, .inl x515), (17, .inl x516), (49, .inl x517), (50, .inr (.inl x518)), (52, .inr (.inl x519))] [] μ520 (fL_law_c2122 σ self66 x507 x508 x509 x510 x511 x512 x513 x514 x515 x516 x517 x518 x519 μ520) := by
  unfold fL_law_c2122
  refine S_iconst dL_law_2122 rfl ?_
  refine S_istore (lv' := [(54, .inl 0), (0, .inr (.inr 64)), (1, .inr (.inr 0)), (2, .inr (.inr 60)), (3, .inr (.inr 61)), (4, .inr (.inr 62)), (5, .inr (.inr 63)), (6, .inl x507), (7, .inr (.inl x508)), (9, .inl x509), (10, .inl x510), (11, .inl x511), (12, .inl x512), (13, .inl x513), (14, .inl x514), (15, .inl x515), (17, .inl x516), (49, .inl x517), (50, .inr (.inl x518)), (52, .inr (.inl x519))]) dL_law_2123 rfl rfl ?_
  have hL2125 : ∀ (n524 : Nat) (x521 : Int) (x522 : Int) (μ523 : Mem), Sim σ cL_law 60 RL (2000) (some .boolean) wI 2125 [(0, .inr (.inr 64)), (1, .inr (.inr 0)), (2, .inr (.inr 60)), (3, .inr (.inr 61)), (4, .inr (.inr 62)), (5, .inr (.inr 63)), (6, .inl x507), (7, .inr (.inl x508)), (9, .inl x509), (10, .inl x510), (11, .inl x511), (12, .inl x512), (13, .inl x513), (14, .inl x514), (15, .inl x515), (17, .inl x516), (49, .inl x517), (50, .inr (.inl x521)), (52, .inr (.inl x519)), (54, .inl x522)] [] μ523 (fL_law_L2125 x507 σ self66 x508 x509 x510 x511 x512 x513 x514 x515 x516 x517 x519 n524 x521 x522 μ523) := by
    intro n524
    induction n524 with
    | zero =>
      intro x521 x522 μ523
      exact S_none rfl
    | succ n524 ih =>
      intro x521 x522 μ523
      rw [fL_law_L2125]
      refine S_iload dL_law_2125 rfl ?_
      refine S_iload dL_law_2127 rfl ?_
      refine S_ic_ge (tgt := 2244) dL_law_2129 (by decide) (fun h661 => ?_) (fun h661 => ?_)
      · exact S_sub [0, 1, 2, 3, 4, 5, 6, 7, 8, 9, 10, 11, 12, 13, 14, 15, 16, 17, 18] rfl (KL_law_c2244 x507 x508 x509 x510 x511 x512 x513 x514 x515 x516 x517 x521 x519 μ523 hself66)
      · refine S_aload_n dL_law_2132 rfl ?_
        refine S_iload dL_law_2133 rfl ?_
        refine S_iload dL_law_2135 rfl ?_
        refine S_callV_M2 dL_law_2137 [.inl x522, .inl x517] (K_X1_odds x522 x517 μ523) l_L_153 yo_X1_odds rfl rfl rfl rfl rfl (fun x637 μ638 => ?_)
        refine S_iconst dL_law_2140 rfl ?_
        refine S_ic_ne (tgt := 2165) dL_law_2141 (by decide) (fun h660 => ?_) (fun h660 => ?_)
        · refine S_iconst dL_law_2165 rfl ?_
          exact S_zret dL_law_2166 rfl (by decide) rfl
        · refine S_aload_n dL_law_2144 rfl ?_
          refine S_callV_L dL_law_2145 [] (K_X1_upper μ638) l_L_142 yo_X1_upper rfl rfl rfl rfl rfl (fun x639 => ?_)
          refine S_lconst (n := 0) dL_law_2148 (by decide) rfl ?_
          refine S_lcmp dL_law_2149 ?_
          refine S_if_lt (tgt := 2165) dL_law_2150 (by decide) (fun h659 => ?_) (fun h659 => ?_)
          · refine S_iconst dL_law_2165 rfl ?_
            exact S_zret dL_law_2166 rfl (by decide) rfl
          · refine S_lload dL_law_2153 rfl ?_
            refine S_aload_n dL_law_2155 rfl ?_
            refine S_callV_L dL_law_2156 [] (K_X1_lower μ638) l_L_156 yo_X1_lower rfl rfl rfl rfl rfl (fun x640 => ?_)
            refine S_lrem dL_law_2159 ?_
            refine S_lconst (n := 0) dL_law_2160 (by decide) rfl ?_
            refine S_lcmp dL_law_2161 ?_
            refine S_if_eq (tgt := 2167) dL_law_2162 (by decide) (fun h658 => ?_) (fun h658 => ?_)
            · refine S_lload dL_law_2167 rfl ?_
              refine S_aload_n dL_law_2169 rfl ?_
              refine S_callV_L dL_law_2170 [] (K_X1_upper μ638) l_L_142 yo_X1_upper rfl rfl rfl rfl rfl (fun x641 => ?_)
              refine S_lload dL_law_2173 rfl ?_
              refine S_aload_n dL_law_2175 rfl ?_
              refine S_callV_L dL_law_2176 [] (K_X1_lower μ638) l_L_156 yo_X1_lower rfl rfl rfl rfl rfl (fun x642 => ?_)
              refine S_ldiv dL_law_2179 ?_
              refine S_lmul dL_law_2180 ?_
              refine S_ladd dL_law_2181 ?_
              refine S_letL (fun x643 => ?_)
              refine S_lstore (lv' := [(50, .inr (.inl x643)), (0, .inr (.inr 64)), (1, .inr (.inr 0)), (2, .inr (.inr 60)), (3, .inr (.inr 61)), (4, .inr (.inr 62)), (5, .inr (.inr 63)), (6, .inl x507), (7, .inr (.inl x508)), (9, .inl x509), (10, .inl x510), (11, .inl x511), (12, .inl x512), (13, .inl x513), (14, .inl x514), (15, .inl x515), (17, .inl x516), (49, .inl x517), (52, .inr (.inl x519)), (54, .inl x522)]) dL_law_2182 rfl rfl ?_
              refine S_aload_n dL_law_2184 rfl ?_
              refine S_iload dL_law_2185 rfl ?_
              refine S_iconst dL_law_2187 rfl ?_
              refine S_callV_M2 dL_law_2188 [.inl x522, .inl 0] (K_X1_odds x522 0 μ638) l_L_153 yo_X1_odds rfl rfl rfl rfl rfl (fun x644 μ645 => ?_)
              refine S_iconst dL_law_2191 rfl ?_
              refine S_ic_ne (tgt := 2236) dL_law_2192 (by decide) (fun h657 => ?_) (fun h657 => ?_)
              · refine S_iconst dL_law_2236 rfl ?_
                exact S_zret dL_law_2237 rfl (by decide) rfl
              · refine S_aload_n dL_law_2195 rfl ?_
                refine S_callV_L dL_law_2196 [] (K_X1_upper μ645) l_L_142 yo_X1_upper rfl rfl rfl rfl rfl (fun x646 => ?_)
                refine S_iload dL_law_2199 rfl ?_
                refine S_iload dL_law_2201 rfl ?_
                refine S_jn (fun (K648 : Int → Option (Int × Mem)) => ∀ (x647 : Int), Sim σ cL_law 60 RL (2000) (some .boolean) wI 2211 [(0, .inr (.inr 64)), (1, .inr (.inr 0)), (2, .inr (.inr 60)), (3, .inr (.inr 61)), (4, .inr (.inr 62)), (5, .inr (.inr 63)), (6, .inl x507), (7, .inr (.inl x508)), (9, .inl x509), (10, .inl x510), (11, .inl x511), (12, .inl x512), (13, .inl x513), (14, .inl x514), (15, .inl x515), (17, .inl x516), (49, .inl x517), (50, .inr (.inl x643)), (52, .inr (.inl x519)), (54, .inl x522)] [.inr (.inl x647), .inr (.inl x646)] μ645 (K648 x647)) ?_ (fun K648 hK648 => ?_)
                · intro x647
                  refine S_lcmp dL_law_2211 ?_
                  refine S_if_ne (tgt := 2236) dL_law_2212 (by decide) (fun h655 => ?_) (fun h655 => ?_)
                  · refine S_iconst dL_law_2236 rfl ?_
                    exact S_zret dL_law_2237 rfl (by decide) rfl
                  · refine S_aload_n dL_law_2215 rfl ?_
                    refine S_iload dL_law_2216 rfl ?_
                    refine S_bipush dL_law_2218 rfl (by decide) ?_
                    refine S_callV_M2 dL_law_2220 [.inl x522, .inl 12] (K_X1_odds x522 12 μ645) l_L_153 yo_X1_odds rfl rfl rfl rfl rfl (fun x649 μ650 => ?_)
                    refine S_iconst dL_law_2223 rfl ?_
                    refine S_ic_ne (tgt := 2236) dL_law_2224 (by decide) (fun h654 => ?_) (fun h654 => ?_)
                    · refine S_iconst dL_law_2236 rfl ?_
                      exact S_zret dL_law_2237 rfl (by decide) rfl
                    · refine S_aload_n dL_law_2227 rfl ?_
                      refine S_callV_L dL_law_2228 [] (K_X1_upper μ650) l_L_142 yo_X1_upper rfl rfl rfl rfl rfl (fun x651 => ?_)
                      refine S_lconst (n := 0) dL_law_2231 (by decide) rfl ?_
                      refine S_lcmp dL_law_2232 ?_
                      refine S_if_eq (tgt := 2238) dL_law_2233 (by decide) (fun h653 => ?_) (fun h653 => ?_)
                      · refine S_iinc (lv' := fun x652 => [(54, .inl x652), (0, .inr (.inr 64)), (1, .inr (.inr 0)), (2, .inr (.inr 60)), (3, .inr (.inr 61)), (4, .inr (.inr 62)), (5, .inr (.inr 63)), (6, .inl x507), (7, .inr (.inl x508)), (9, .inl x509), (10, .inl x510), (11, .inl x511), (12, .inl x512), (13, .inl x513), (14, .inl x514), (15, .inl x515), (17, .inl x516), (49, .inl x517), (50, .inr (.inl x643)), (52, .inr (.inl x519))]) dL_law_2238 rfl rfl rfl (fun _ => rfl) (fun x652 => ?_)
                        refine S_goto (tgt := 2125) dL_law_2241 (by decide) ?_
                        exact S_sub [1, 2, 3, 4, 5, 6, 7, 8, 9, 10, 11, 12, 13, 14, 15, 16, 17, 18, 19, 0] rfl (ih x643 x652 μ650)
                      · refine S_iconst dL_law_2236 rfl ?_
                        exact S_zret dL_law_2237 rfl (by decide) rfl
                refine S_ic_ne (tgt := 2210) dL_law_2203 (by decide) (fun h656 => ?_) (fun h656 => ?_)
                · refine S_lconst (n := 0) dL_law_2210 (by decide) rfl ?_
                  exact S_sub [1, 2, 3, 4, 5, 6, 7, 8, 9, 10, 11, 12, 13, 14, 15, 16, 17, 0, 18, 19] rfl (hK648 0)
                · refine S_lconst (n := 1) dL_law_2206 (by decide) rfl ?_
                  refine S_goto (tgt := 2211) dL_law_2207 (by decide) ?_
                  exact S_sub [1, 2, 3, 4, 5, 6, 7, 8, 9, 10, 11, 12, 13, 14, 15, 16, 17, 0, 18, 19] rfl (hK648 1)
            · refine S_iconst dL_law_2165 rfl ?_
              exact S_zret dL_law_2166 rfl (by decide) rfl
  exact S_sub [1, 2, 3, 4, 5, 6, 7, 8, 9, 10, 11, 12, 13, 14, 15, 16, 17, 18, 19, 0] rfl (hL2125 fuel x518 0 μ520)
def fL_law_L2101 (x492 : Int) (σ : Scr) (self66 : Int → Mem → Option (Int × Mem)) (x493 : Int) (x494 : Int) (x495 : Int) (x496 : Int) (x497 : Int) (x498 : Int) (x499 : Int) (x500 : Int) (x501 : Int) (x503 : Int) (μ502 : Mem) : Nat → Int → Int → Option (Int × Mem)
  | 0, _, _ => none
  | n506 + 1, x504, x505 =>
    if x492 ≤ x505 then
      fL_law_c2122 σ self66 x492 x493 x494 x495 x496 x497 x498 x499 x500 x501 x503 0 x504 μ502
    else
      mlet ((w64 (x504 * 12))) fun x662 =>
      mlet (w32 (x505 + 1)) fun x663 =>
      fL_law_L2101 x492 σ self66 x493 x494 x495 x496 x497 x498 x499 x500 x501 x503 μ502 n506 x662 x663
def fL_law_c2080 (σ : Scr) (self66 : Int → Mem → Option (Int × Mem)) (x492 : Int) (x493 : Int) (x494 : Int) (x495 : Int) (x496 : Int) (x497 : Int) (x498 : Int) (x499 : Int) (x500 : Int) (x501 : Int) (μ502 : Mem) : Option (Int × Mem) :=
  (fL_low (bshr x495 18) 13 μ502).bind fun x503 =>
  fL_law_L2101 x492 σ self66 x493 x494 x495 x496 x497 x498 x499 x500 x501 x503 μ502 fuel 1 0
theorem dL_law_2080 : decode cL_law 2080 = .ok (.iload 10, 2) := by decide +kernel
theorem dL_law_2082 : decode cL_law 2082 = .ok (.bipush 18, 2) := by decide +kernel
theorem dL_law_2084 : decode cL_law 2084 = .ok (.ishr, 1) := by decide +kernel
theorem dL_law_2085 : decode cL_law 2085 = .ok (.bipush 13, 2) := by decide +kernel
theorem dL_law_2087 : decode cL_law 2087 = .ok (.invokestatic 15, 3) := by decide +kernel
theorem dL_law_2090 : decode cL_law 2090 = .ok (.istore 49, 2) := by decide +kernel
theorem dL_law_2092 : decode cL_law 2092 = .ok (.lconst 0, 1) := by decide +kernel
theorem dL_law_2093 : decode cL_law 2093 = .ok (.lstore 50, 2) := by decide +kernel
theorem dL_law_2095 : decode cL_law 2095 = .ok (.lconst 1, 1) := by decide +kernel
theorem dL_law_2096 : decode cL_law 2096 = .ok (.lstore 52, 2) := by decide +kernel
theorem dL_law_2098 : decode cL_law 2098 = .ok (.iconst 0, 1) := by decide +kernel
theorem dL_law_2099 : decode cL_law 2099 = .ok (.istore 54, 2) := by decide +kernel
theorem dL_law_2101 : decode cL_law 2101 = .ok (.iload 54, 2) := by decide +kernel
theorem dL_law_2103 : decode cL_law 2103 = .ok (.iload 6, 2) := by decide +kernel
theorem dL_law_2105 : decode cL_law 2105 = .ok (.if_icmp .ge 17, 3) := by decide +kernel
theorem dL_law_2108 : decode cL_law 2108 = .ok (.lload 52, 2) := by decide +kernel
theorem dL_law_2110 : decode cL_law 2110 = .ok (.ldc2_w 151, 3) := by decide +kernel
theorem dL_law_2113 : decode cL_law 2113 = .ok (.lmul, 1) := by decide +kernel
theorem dL_law_2114 : decode cL_law 2114 = .ok (.lstore 52, 2) := by decide +kernel
theorem dL_law_2116 : decode cL_law 2116 = .ok (.iinc 54 1, 3) := by decide +kernel
theorem dL_law_2119 : decode cL_law 2119 = .ok (.goto (-18), 3) := by decide +kernel
theorem KL_law_c2080 {σ : Scr} {self66 : Int → Mem → Option (Int × Mem)} (x492 : Int) (x493 : Int) (x494 : Int) (x495 : Int) (x496 : Int) (x497 : Int) (x498 : Int) (x499 : Int) (x500 : Int) (x501 : Int) (μ502 : Mem) (hself66 : ∀ (x11 : Int) (μ12 : Mem), Sim σ cL_law 60 RL (2000) (some .boolean) wI 66 [(0, .inr (.inr 64)), (1, .inr (.inr 0)), (2, .inr (.inr 60)), (3, .inr (.inr 61)), (4, .inr (.inr 62)), (5, .inr (.inr 63)), (6, .inl x492), (7, .inr (.inl x493)), (9, .inl x11)] [] μ12 (self66 x11 μ12)) : Sim σ cL_law 60 RL (2000) (some .boolean) wI 2080 [(0, .inr (.inr 64)), (1, .inr (.inr 0)), (2, .inr (.inr 60)), (3, .inr (.inr 61)), (4, .inr (.inr 62)), (5, .inr (.inr 63)), (6, .inl x492), (7, .inr (.inl x493)), (9, .inl x494), (10, .inl x495), (11, .inl x496), (12, .inl x497), (13, .inl x498), (14, .inl x499), (15, .inl x500), (17, .inl x501)] [] μ502 (fL_law_c2080 σ self66 x492 x493 x494 x495 x496 x497 x498 x499 x500 x501 μ502) := by
  unfold fL_law_c2080
  refine S_iload dL_law_2080 rfl ?_
  refine S_bipush dL_law_2082 rfl (by decide) ?_
  refine S_ishr dL_law_2084 ?_
  refine S_bipush dL_law_2085 rfl (by decide) ?_
  refine S_callS_I dL_law_2087 [.inl (bshr x495 18), .inl 13] (K_L_low (bshr x495 18) 13 μ502) l_L_15 yo_L_low rfl rfl rfl (fun x503 => ?_)
  refine S_istore (lv' := [(49, .inl x503), (0, .inr (.inr 64)), (1, .inr (.inr 0)), (2, .inr (.inr 60)), (3, .inr (.inr 61)), (4, .inr (.inr 62)), (5, .inr (.inr 63)), (6, .inl x492), (7, .inr (.inl x493)), (9, .inl x494), (10, .inl x495), (11, .inl x496), (12, .inl x497), (13, .inl x498), (14, .inl x499), (15, .inl x500), (17, .inl x501)]) dL_law_2090 rfl rfl ?_
  refine S_lconst (n := 0) dL_law_2092 (by decide) rfl ?_
  refine S_lstore (lv' := [(50, .inr (.inl 0)), (49, .inl x503), (0, .inr (.inr 64)), (1, .inr (.inr 0)), (2, .inr (.inr 60)), (3, .inr (.inr 61)), (4, .inr (.inr 62)), (5, .inr (.inr 63)), (6, .inl x492), (7, .inr (.inl x493)), (9, .inl x494), (10, .inl x495), (11, .inl x496), (12, .inl x497), (13, .inl x498), (14, .inl x499), (15, .inl x500), (17, .inl x501)]) dL_law_2093 rfl rfl ?_
  refine S_lconst (n := 1) dL_law_2095 (by decide) rfl ?_
  refine S_lstore (lv' := [(52, .inr (.inl 1)), (50, .inr (.inl 0)), (49, .inl x503), (0, .inr (.inr 64)), (1, .inr (.inr 0)), (2, .inr (.inr 60)), (3, .inr (.inr 61)), (4, .inr (.inr 62)), (5, .inr (.inr 63)), (6, .inl x492), (7, .inr (.inl x493)), (9, .inl x494), (10, .inl x495), (11, .inl x496), (12, .inl x497), (13, .inl x498), (14, .inl x499), (15, .inl x500), (17, .inl x501)]) dL_law_2096 rfl rfl ?_
  refine S_iconst dL_law_2098 rfl ?_
  refine S_istore (lv' := [(54, .inl 0), (52, .inr (.inl 1)), (50, .inr (.inl 0)), (49, .inl x503), (0, .inr (.inr 64)), (1, .inr (.inr 0)), (2, .inr (.inr 60)), (3, .inr (.inr 61)), (4, .inr (.inr 62)), (5, .inr (.inr 63)), (6, .inl x492), (7, .inr (.inl x493)), (9, .inl x494), (10, .inl x495), (11, .inl x496), (12, .inl x497), (13, .inl x498), (14, .inl x499), (15, .inl x500), (17, .inl x501)]) dL_law_2099 rfl rfl ?_
  have hL2101 : ∀ (n506 : Nat) (x504 : Int) (x505 : Int), Sim σ cL_law 60 RL (2000) (some .boolean) wI 2101 [(0, .inr (.inr 64)), (1, .inr (.inr 0)), (2, .inr (.inr 60)), (3, .inr (.inr 61)), (4, .inr (.inr 62)), (5, .inr (.inr 63)), (6, .inl x492), (7, .inr (.inl x493)), (9, .inl x494), (10, .inl x495), (11, .inl x496), (12, .inl x497), (13, .inl x498), (14, .inl x499), (15, .inl x500), (17, .inl x501), (49, .inl x503), (50, .inr (.inl 0)), (52, .inr (.inl x504)), (54, .inl x505)] [] μ502 (fL_law_L2101 x492 σ self66 x493 x494 x495 x496 x497 x498 x499 x500 x501 x503 μ502 n506 x504 x505) := by
    intro n506
    induction n506 with
    | zero =>
      intro x504 x505
      exact S_none rfl
    | succ n506 ih =>
      intro x504 x505
      rw [fL_law_L2101]
      refine S_iload dL_law_2101 rfl ?_
      refine S_iload dL_law_2103 rfl ?_
      refine S_ic_ge (tgt := 2122) dL_law_2105 (by decide) (fun h664 => ?_) (fun h664 => ?_)
      · exact S_sub [0, 1, 2, 3, 4, 5, 6, 7, 8, 9, 10, 11, 12, 13, 14, 15, 16, 17, 18] rfl (KL_law_c2122 x492 x493 x494 x495 x496 x497 x498 x499 x500 x501 x503 0 x504 μ502 hself66)
      · refine S_lload dL_law_2108 rfl ?_
        refine S_ldc2 dL_law_2110 rfl k_L_151 ?_
        refine S_lmul dL_law_2113 ?_
        refine S_letL (fun x662 => ?_)
        refine S_lstore (lv' := [(52, .inr (.inl x662)), (0, .inr (.inr 64)), (1, .inr (.inr 0)), (2, .inr (.inr 60)), (3, .inr (.inr 61)), (4, .inr (.inr 62)), (5, .inr (.inr 63)), (6, .inl x492), (7, .inr (.inl x493)), (9, .inl x494), (10, .inl x495), (11, .inl x496), (12, .inl x497), (13, .inl x498), (14, .inl x499), (15, .inl x500), (17, .inl x501), (49, .inl x503), (50, .inr (.inl 0)), (54, .inl x505)]) dL_law_2114 rfl rfl ?_
        refine S_iinc (lv' := fun x663 => [(54, .inl x663), (52, .inr (.inl x662)), (0, .inr (.inr 64)), (1, .inr (.inr 0)), (2, .inr (.inr 60)), (3, .inr (.inr 61)), (4, .inr (.inr 62)), (5, .inr (.inr 63)), (6, .inl x492), (7, .inr (.inl x493)), (9, .inl x494), (10, .inl x495), (11, .inl x496), (12, .inl x497), (13, .inl x498), (14, .inl x499), (15, .inl x500), (17, .inl x501), (49, .inl x503), (50, .inr (.inl 0))]) dL_law_2116 rfl rfl rfl (fun _ => rfl) (fun x663 => ?_)
        refine S_goto (tgt := 2101) dL_law_2119 (by decide) ?_
        exact S_sub [2, 3, 4, 5, 6, 7, 8, 9, 10, 11, 12, 13, 14, 15, 16, 17, 18, 19, 1, 0] rfl (ih x662 x663)
  exact S_sub [4, 5, 6, 7, 8, 9, 10, 11, 12, 13, 14, 15, 16, 17, 18, 19, 3, 2, 1, 0] rfl (hL2101 fuel 1 0)
def fL_law_c1977 (σ : Scr) (self66 : Int → Mem → Option (Int × Mem)) (x479 : Int) (x480 : Int) (x481 : Int) (x482 : Int) (x483 : Int) (x484 : Int) (x485 : Int) (x486 : Int) (x487 : Int) (x488 : Int) (x489 : Int) (μ490 : Mem) : Option (Int × Mem) :=
  grd (¬ x479 = 0) <|
  mlet (((w32 (x489 + 1)).tmod x479)) fun x491 =>
  if x479 ≤ 1 then
    fL_law_c2080 σ self66 x479 x480 x481 x482 x483 x484 x485 x486 x487 x488 μ490
  else
    mlet (fun (x665 : Int) =>
      bnd2 (fX1_duel x489 x491 0 μ490) fun x667 μ668 =>
      if ¬ x667 = 1 then
        some (0, μ668)
      else
        (fX1_asked μ668).bind fun x669 =>
        if ¬ x669 = x665 then
          some (0, μ668)
        else
          (fL_low (bshr x482 16) 3 μ668).bind fun x670 =>
          bnd2 (fX1_duel x489 x491 (w32 (1 + x670)) μ668) fun x671 μ672 =>
          if ¬ x671 = 1 then
            some (0, μ672)
          else
            (fX1_asked μ672).bind fun x673 =>
            if x673 < (-1) then
              some (0, μ672)
            else
              (fX1_asked μ672).bind fun x674 =>
              if x674 ≤ 1 then
                fL_law_c2080 σ self66 x479 x480 x481 x482 x483 x484 x485 x486 x487 x488 μ672
              else
                some (0, μ672)
      ) fun (K666 : Int → Option (Int × Mem)) =>
    if ¬ x488 = x489 then
      if ¬ x488 = x491 then
        K666 0
      else
        K666 (-1)
    else
      K666 1
theorem dL_law_1977 : decode cL_law 1977 = .ok (.iload 24, 2) := by decide +kernel
theorem dL_law_1979 : decode cL_law 1979 = .ok (.iconst 1, 1) := by decide +kernel
theorem dL_law_1980 : decode cL_law 1980 = .ok (.iadd, 1) := by decide +kernel
theorem dL_law_1981 : decode cL_law 1981 = .ok (.iload 6, 2) := by decide +kernel
theorem dL_law_1983 : decode cL_law 1983 = .ok (.irem, 1) := by decide +kernel
theorem dL_law_1984 : decode cL_law 1984 = .ok (.istore 48, 2) := by decide +kernel
theorem dL_law_1986 : decode cL_law 1986 = .ok (.iload 6, 2) := by decide +kernel
theorem dL_law_1988 : decode cL_law 1988 = .ok (.iconst 1, 1) := by decide +kernel
theorem dL_law_1989 : decode cL_law 1989 = .ok (.if_icmp .le 91, 3) := by decide +kernel
theorem dL_law_1992 : decode cL_law 1992 = .ok (.iload 17, 2) := by decide +kernel
theorem dL_law_1994 : decode cL_law 1994 = .ok (.iload 24, 2) := by decide +kernel
theorem dL_law_1996 : decode cL_law 1996 = .ok (.if_icmp .ne 7, 3) := by decide +kernel
theorem dL_law_1999 : decode cL_law 1999 = .ok (.iconst 1, 1) := by decide +kernel
theorem dL_law_2000 : decode cL_law 2000 = .ok (.goto 15, 3) := by decide +kernel
theorem dL_law_2003 : decode cL_law 2003 = .ok (.iload 17, 2) := by decide +kernel
theorem dL_law_2005 : decode cL_law 2005 = .ok (.iload 48, 2) := by decide +kernel
theorem dL_law_2007 : decode cL_law 2007 = .ok (.if_icmp .ne 7, 3) := by decide +kernel
theorem dL_law_2010 : decode cL_law 2010 = .ok (.iconst (-1), 1) := by decide +kernel
theorem dL_law_2011 : decode cL_law 2011 = .ok (.goto 4, 3) := by decide +kernel
theorem dL_law_2014 : decode cL_law 2014 = .ok (.iconst 0, 1) := by decide +kernel
theorem dL_law_2015 : decode cL_law 2015 = .ok (.istore 49, 2) := by decide +kernel
theorem dL_law_2017 : decode cL_law 2017 = .ok (.aload_n 1, 1) := by decide +kernel
theorem dL_law_2018 : decode cL_law 2018 = .ok (.iload 24, 2) := by decide +kernel
theorem dL_law_2020 : decode cL_law 2020 = .ok (.iload 48, 2) := by decide +kernel
theorem dL_law_2022 : decode cL_law 2022 = .ok (.iconst 0, 1) := by decide +kernel
theorem dL_law_2023 : decode cL_law 2023 = .ok (.invokevirtual 148, 3) := by decide +kernel
theorem dL_law_2026 : decode cL_law 2026 = .ok (.iconst 1, 1) := by decide +kernel
theorem dL_law_2027 : decode cL_law 2027 = .ok (.if_icmp .ne 51, 3) := by decide +kernel
theorem dL_law_2030 : decode cL_law 2030 = .ok (.aload_n 1, 1) := by decide +kernel
theorem dL_law_2031 : decode cL_law 2031 = .ok (.invokevirtual 74, 3) := by decide +kernel
theorem dL_law_2034 : decode cL_law 2034 = .ok (.iload 49, 2) := by decide +kernel
theorem dL_law_2036 : decode cL_law 2036 = .ok (.if_icmp .ne 42, 3) := by decide +kernel
theorem dL_law_2039 : decode cL_law 2039 = .ok (.aload_n 1, 1) := by decide +kernel
theorem dL_law_2040 : decode cL_law 2040 = .ok (.iload 24, 2) := by decide +kernel
theorem dL_law_2042 : decode cL_law 2042 = .ok (.iload 48, 2) := by decide +kernel
theorem dL_law_2044 : decode cL_law 2044 = .ok (.iconst 1, 1) := by decide +kernel
theorem dL_law_2045 : decode cL_law 2045 = .ok (.iload 10, 2) := by decide +kernel
theorem dL_law_2047 : decode cL_law 2047 = .ok (.bipush 16, 2) := by decide +kernel
theorem dL_law_2049 : decode cL_law 2049 = .ok (.ishr, 1) := by decide +kernel
theorem dL_law_2050 : decode cL_law 2050 = .ok (.iconst 3, 1) := by decide +kernel
theorem dL_law_2051 : decode cL_law 2051 = .ok (.invokestatic 15, 3) := by decide +kernel
theorem dL_law_2054 : decode cL_law 2054 = .ok (.iadd, 1) := by decide +kernel
theorem dL_law_2055 : decode cL_law 2055 = .ok (.invokevirtual 148, 3) := by decide +kernel
theorem dL_law_2058 : decode cL_law 2058 = .ok (.iconst 1, 1) := by decide +kernel
theorem dL_law_2059 : decode cL_law 2059 = .ok (.if_icmp .ne 19, 3) := by decide +kernel
theorem dL_law_2062 : decode cL_law 2062 = .ok (.aload_n 1, 1) := by decide +kernel
theorem dL_law_2063 : decode cL_law 2063 = .ok (.invokevirtual 74, 3) := by decide +kernel
theorem dL_law_2066 : decode cL_law 2066 = .ok (.iconst (-1), 1) := by decide +kernel
theorem dL_law_2067 : decode cL_law 2067 = .ok (.if_icmp .lt 11, 3) := by decide +kernel
theorem dL_law_2070 : decode cL_law 2070 = .ok (.aload_n 1, 1) := by decide +kernel
theorem dL_law_2071 : decode cL_law 2071 = .ok (.invokevirtual 74, 3) := by decide +kernel
theorem dL_law_2074 : decode cL_law 2074 = .ok (.iconst 1, 1) := by decide +kernel
theorem dL_law_2075 : decode cL_law 2075 = .ok (.if_icmp .le 5, 3) := by decide +kernel
theorem dL_law_2078 : decode cL_law 2078 = .ok (.iconst 0, 1) := by decide +kernel
theorem dL_law_2079 : decode cL_law 2079 = .ok (.ireturn, 1) := by decide +kernel
theorem KL_law_c1977 {σ : Scr} {self66 : Int → Mem → Option (Int × Mem)} (x479 : Int) (x480 : Int) (x481 : Int) (x482 : Int) (x483 : Int) (x484 : Int) (x485 : Int) (x486 : Int) (x487 : Int) (x488 : Int) (x489 : Int) (μ490 : Mem) (hself66 : ∀ (x11 : Int) (μ12 : Mem), Sim σ cL_law 60 RL (2000) (some .boolean) wI 66 [(0, .inr (.inr 64)), (1, .inr (.inr 0)), (2, .inr (.inr 60)), (3, .inr (.inr 61)), (4, .inr (.inr 62)), (5, .inr (.inr 63)), (6, .inl x479), (7, .inr (.inl x480)), (9, .inl x11)] [] μ12 (self66 x11 μ12)) : Sim σ cL_law 60 RL (2000) (some .boolean) wI 1977 [(0, .inr (.inr 64)), (1, .inr (.inr 0)), (2, .inr (.inr 60)), (3, .inr (.inr 61)), (4, .inr (.inr 62)), (5, .inr (.inr 63)), (6, .inl x479), (7, .inr (.inl x480)), (9, .inl x481), (10, .inl x482), (11, .inl x483), (12, .inl x484), (13, .inl x485), (14, .inl x486), (15, .inl x487), (17, .inl x488), (24, .inl x489)] [] μ490 (fL_law_c1977 σ self66 x479 x480 x481 x482 x483 x484 x485 x486 x487 x488 x489 μ490) := by
  unfold fL_law_c1977
  refine S_iload dL_law_1977 rfl ?_
  refine S_iconst dL_law_1979 rfl ?_
  refine S_iadd dL_law_1980 ?_
  refine S_iload dL_law_1981 rfl ?_
  refine S_irem dL_law_1983 ?_
  refine S_let (fun x491 => ?_)
  refine S_istore (lv' := [(48, .inl x491), (0, .inr (.inr 64)), (1, .inr (.inr 0)), (2, .inr (.inr 60)), (3, .inr (.inr 61)), (4, .inr (.inr 62)), (5, .inr (.inr 63)), (6, .inl x479), (7, .inr (.inl x480)), (9, .inl x481), (10, .inl x482), (11, .inl x483), (12, .inl x484), (13, .inl x485), (14, .inl x486), (15, .inl x487), (17, .inl x488), (24, .inl x489)]) dL_law_1984 rfl rfl ?_
  refine S_iload dL_law_1986 rfl ?_
  refine S_iconst dL_law_1988 rfl ?_
  refine S_ic_le (tgt := 2080) dL_law_1989 (by decide) (fun h682 => ?_) (fun h682 => ?_)
  · exact S_sub [1, 2, 3, 4, 5, 6, 7, 8, 9, 10, 11, 12, 13, 14, 15, 16] rfl (KL_law_c2080 x479 x480 x481 x482 x483 x484 x485 x486 x487 x488 μ490 hself66)
  · refine S_iload dL_law_1992 rfl ?_
    refine S_iload dL_law_1994 rfl ?_
    refine S_jn (fun (K666 : Int → Option (Int × Mem)) => ∀ (x665 : Int), Sim σ cL_law 60 RL (2000) (some .boolean) wI 2015 [(0, .inr (.inr 64)), (1, .inr (.inr 0)), (2, .inr (.inr 60)), (3, .inr (.inr 61)), (4, .inr (.inr 62)), (5, .inr (.inr 63)), (6, .inl x479), (7, .inr (.inl x480)), (9, .inl x481), (10, .inl x482), (11, .inl x483), (12, .inl x484), (13, .inl x485), (14, .inl x486), (15, .inl x487), (17, .inl x488), (24, .inl x489), (48, .inl x491)] [.inl x665] μ490 (K666 x665)) ?_ (fun K666 hK666 => ?_)
    · intro x665
      refine S_istore (lv' := [(49, .inl x665), (0, .inr (.inr 64)), (1, .inr (.inr 0)), (2, .inr (.inr 60)), (3, .inr (.inr 61)), (4, .inr (.inr 62)), (5, .inr (.inr 63)), (6, .inl x479), (7, .inr (.inl x480)), (9, .inl x481), (10, .inl x482), (11, .inl x483), (12, .inl x484), (13, .inl x485), (14, .inl x486), (15, .inl x487), (17, .inl x488), (24, .inl x489), (48, .inl x491)]) dL_law_2015 rfl rfl ?_
      refine S_aload_n dL_law_2017 rfl ?_
      refine S_iload dL_law_2018 rfl ?_
      refine S_iload dL_law_2020 rfl ?_
      refine S_iconst dL_law_2022 rfl ?_
      refine S_callV_M2 dL_law_2023 [.inl x489, .inl x491, .inl 0] (K_X1_duel x489 x491 0 μ490) l_L_148 yo_X1_duel rfl rfl rfl rfl rfl (fun x667 μ668 => ?_)
      refine S_iconst dL_law_2026 rfl ?_
      refine S_ic_ne (tgt := 2078) dL_law_2027 (by decide) (fun h679 => ?_) (fun h679 => ?_)
      · refine S_iconst dL_law_2078 rfl ?_
        exact S_zret dL_law_2079 rfl (by decide) rfl
      · refine S_aload_n dL_law_2030 rfl ?_
        refine S_callV_I dL_law_2031 [] (K_X1_asked μ668) l_L_74 yo_X1_asked rfl rfl rfl rfl rfl (fun x669 => ?_)
        refine S_iload dL_law_2034 rfl ?_
        refine S_ic_ne (tgt := 2078) dL_law_2036 (by decide) (fun h678 => ?_) (fun h678 => ?_)
        · refine S_iconst dL_law_2078 rfl ?_
          exact S_zret dL_law_2079 rfl (by decide) rfl
        · refine S_aload_n dL_law_2039 rfl ?_
          refine S_iload dL_law_2040 rfl ?_
          refine S_iload dL_law_2042 rfl ?_
          refine S_iconst dL_law_2044 rfl ?_
          refine S_iload dL_law_2045 rfl ?_
          refine S_bipush dL_law_2047 rfl (by decide) ?_
          refine S_ishr dL_law_2049 ?_
          refine S_iconst dL_law_2050 rfl ?_
          refine S_callS_I dL_law_2051 [.inl (bshr x482 16), .inl 3] (K_L_low (bshr x482 16) 3 μ668) l_L_15 yo_L_low rfl rfl rfl (fun x670 => ?_)
          refine S_iadd dL_law_2054 ?_
          refine S_callV_M2 dL_law_2055 [.inl x489, .inl x491, .inl (w32 (1 + x670))] (K_X1_duel x489 x491 (w32 (1 + x670)) μ668) l_L_148 yo_X1_duel rfl rfl rfl rfl rfl (fun x671 μ672 => ?_)
          refine S_iconst dL_law_2058 rfl ?_
          refine S_ic_ne (tgt := 2078) dL_law_2059 (by decide) (fun h677 => ?_) (fun h677 => ?_)
          · refine S_iconst dL_law_2078 rfl ?_
            exact S_zret dL_law_2079 rfl (by decide) rfl
          · refine S_aload_n dL_law_2062 rfl ?_
            refine S_callV_I dL_law_2063 [] (K_X1_asked μ672) l_L_74 yo_X1_asked rfl rfl rfl rfl rfl (fun x673 => ?_)
            refine S_iconst dL_law_2066 rfl ?_
            refine S_ic_lt (tgt := 2078) dL_law_2067 (by decide) (fun h676 => ?_) (fun h676 => ?_)
            · refine S_iconst dL_law_2078 rfl ?_
              exact S_zret dL_law_2079 rfl (by decide) rfl
            · refine S_aload_n dL_law_2070 rfl ?_
              refine S_callV_I dL_law_2071 [] (K_X1_asked μ672) l_L_74 yo_X1_asked rfl rfl rfl rfl rfl (fun x674 => ?_)
              refine S_iconst dL_law_2074 rfl ?_
              refine S_ic_le (tgt := 2080) dL_law_2075 (by decide) (fun h675 => ?_) (fun h675 => ?_)
              · exact S_sub [1, 2, 3, 4, 5, 6, 7, 8, 9, 10, 11, 12, 13, 14, 15, 16] rfl (KL_law_c2080 x479 x480 x481 x482 x483 x484 x485 x486 x487 x488 μ672 hself66)
              · refine S_iconst dL_law_2078 rfl ?_
                exact S_zret dL_law_2079 rfl (by decide) rfl
    refine S_ic_ne (tgt := 2003) dL_law_1996 (by decide) (fun h681 => ?_) (fun h681 => ?_)
    · refine S_iload dL_law_2003 rfl ?_
      refine S_iload dL_law_2005 rfl ?_
      refine S_ic_ne (tgt := 2014) dL_law_2007 (by decide) (fun h680 => ?_) (fun h680 => ?_)
      · refine S_iconst dL_law_2014 rfl ?_
        exact S_sub [1, 2, 3, 4, 5, 6, 7, 8, 9, 10, 11, 12, 13, 14, 15, 16, 17, 0] rfl (hK666 0)
      · refine S_iconst dL_law_2010 rfl ?_
        refine S_goto (tgt := 2015) dL_law_2011 (by decide) ?_
        exact S_sub [1, 2, 3, 4, 5, 6, 7, 8, 9, 10, 11, 12, 13, 14, 15, 16, 17, 0] rfl (hK666 (-1))
    · refine S_iconst dL_law_1999 rfl ?_
      refine S_goto (tgt := 2015) dL_law_2000 (by decide) ?_
      exact S_sub [1, 2, 3, 4, 5, 6, 7, 8, 9, 10, 11, 12, 13, 14, 15, 16, 17, 0] rfl (hK666 1)
