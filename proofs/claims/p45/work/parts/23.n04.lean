def fL_law_L424 (x99 : Int) (σ : Scr) (self66 : Int → Mem → Option (Int × Mem)) (x100 : Int) (x101 : Int) (x102 : Int) (x103 : Int) (x104 : Int) (x105 : Int) (x106 : Int) (x107 : Int) (x108 : Int) (x109 : Int) : Nat → Int → Mem → Option (Int × Mem)
  | 0, _, _ => none
  | n113 + 1, x111, μ112 =>
    if x99 ≤ x111 then
      fL_law_c497 σ self66 x99 x100 x101 x102 x103 x104 x105 x106 x107 x108 μ112
    else
      if x108 < 0 then
        fL_law_c497 σ self66 x99 x100 x101 x102 x103 x104 x105 x106 x107 x108 μ112
      else
        bnd2 (fL_told x111 3 μ112) fun x891 μ892 =>
        mlet (fun (μ893 : Mem) =>
          mlet (w32 (x111 + 1)) fun x895 =>
          fL_law_L424 x99 σ self66 x100 x101 x102 x103 x104 x105 x106 x107 x108 x109 n113 x895 μ893
          ) fun (K894 : Mem → Option (Int × Mem)) =>
        if ¬ x891 = x109 then
          K894 μ892
        else
          bnd2 (fL_told x111 5 μ892) fun x896 μ897 =>
          bnd2 (fL_told x108 5 μ897) fun x898 μ899 =>
          if x896 < x898 then
            some (0, μ899)
          else
            bnd2 (fL_told x111 5 μ899) fun x900 μ901 =>
            bnd2 (fL_told x108 5 μ901) fun x902 μ903 =>
            if ¬ x900 = x902 then
              K894 μ903
            else
              if x108 ≤ x111 then
                K894 μ903
              else
                some (0, μ903)
def fL_law_c421 (σ : Scr) (self66 : Int → Mem → Option (Int × Mem)) (x99 : Int) (x100 : Int) (x101 : Int) (x102 : Int) (x103 : Int) (x104 : Int) (x105 : Int) (x106 : Int) (x107 : Int) (x108 : Int) (x109 : Int) (μ110 : Mem) : Option (Int × Mem) :=
  fL_law_L424 x99 σ self66 x100 x101 x102 x103 x104 x105 x106 x107 x108 x109 fuel 0 μ110
theorem dL_law_421 : decode cL_law 421 = .ok (.iconst 0, 1) := by decide +kernel
theorem dL_law_422 : decode cL_law 422 = .ok (.istore 20, 2) := by decide +kernel
theorem dL_law_424 : decode cL_law 424 = .ok (.iload 20, 2) := by decide +kernel
theorem dL_law_426 : decode cL_law 426 = .ok (.iload 6, 2) := by decide +kernel
theorem dL_law_428 : decode cL_law 428 = .ok (.if_icmp .ge 69, 3) := by decide +kernel
theorem dL_law_431 : decode cL_law 431 = .ok (.iload 17, 2) := by decide +kernel
theorem dL_law_433 : decode cL_law 433 = .ok (.ifCond .lt 64, 3) := by decide +kernel
theorem dL_law_436 : decode cL_law 436 = .ok (.aload_n 1, 1) := by decide +kernel
theorem dL_law_437 : decode cL_law 437 = .ok (.iload 20, 2) := by decide +kernel
theorem dL_law_439 : decode cL_law 439 = .ok (.iconst 3, 1) := by decide +kernel
theorem dL_law_440 : decode cL_law 440 = .ok (.invokestatic 95, 3) := by decide +kernel
theorem dL_law_443 : decode cL_law 443 = .ok (.iload 18, 2) := by decide +kernel
theorem dL_law_445 : decode cL_law 445 = .ok (.if_icmp .ne 46, 3) := by decide +kernel
theorem dL_law_448 : decode cL_law 448 = .ok (.aload_n 1, 1) := by decide +kernel
theorem dL_law_449 : decode cL_law 449 = .ok (.iload 20, 2) := by decide +kernel
theorem dL_law_451 : decode cL_law 451 = .ok (.iconst 5, 1) := by decide +kernel
theorem dL_law_452 : decode cL_law 452 = .ok (.invokestatic 95, 3) := by decide +kernel
theorem dL_law_455 : decode cL_law 455 = .ok (.aload_n 1, 1) := by decide +kernel
theorem dL_law_456 : decode cL_law 456 = .ok (.iload 17, 2) := by decide +kernel
theorem dL_law_458 : decode cL_law 458 = .ok (.iconst 5, 1) := by decide +kernel
theorem dL_law_459 : decode cL_law 459 = .ok (.invokestatic 95, 3) := by decide +kernel
theorem dL_law_462 : decode cL_law 462 = .ok (.if_icmp .lt 27, 3) := by decide +kernel
theorem dL_law_465 : decode cL_law 465 = .ok (.aload_n 1, 1) := by decide +kernel
theorem dL_law_466 : decode cL_law 466 = .ok (.iload 20, 2) := by decide +kernel
theorem dL_law_468 : decode cL_law 468 = .ok (.iconst 5, 1) := by decide +kernel
theorem dL_law_469 : decode cL_law 469 = .ok (.invokestatic 95, 3) := by decide +kernel
theorem dL_law_472 : decode cL_law 472 = .ok (.aload_n 1, 1) := by decide +kernel
theorem dL_law_473 : decode cL_law 473 = .ok (.iload 17, 2) := by decide +kernel
theorem dL_law_475 : decode cL_law 475 = .ok (.iconst 5, 1) := by decide +kernel
theorem dL_law_476 : decode cL_law 476 = .ok (.invokestatic 95, 3) := by decide +kernel
theorem dL_law_479 : decode cL_law 479 = .ok (.if_icmp .ne 12, 3) := by decide +kernel
theorem dL_law_482 : decode cL_law 482 = .ok (.iload 20, 2) := by decide +kernel
theorem dL_law_484 : decode cL_law 484 = .ok (.iload 17, 2) := by decide +kernel
theorem dL_law_486 : decode cL_law 486 = .ok (.if_icmp .ge 5, 3) := by decide +kernel
theorem dL_law_489 : decode cL_law 489 = .ok (.iconst 0, 1) := by decide +kernel
theorem dL_law_490 : decode cL_law 490 = .ok (.ireturn, 1) := by decide +kernel
theorem dL_law_491 : decode cL_law 491 = .ok (.iinc 20 1, 3) := by decide +kernel
theorem dL_law_494 : decode cL_law 494 = .ok (.goto (-70), 3) := by decide +kernel
theorem KL_law_c421 {σ : Scr} {self66 : Int → Mem → Option (Int × Mem)} (x99 : Int) (x100 : Int) (x101 : Int) (x102 : Int) (x103 : Int) (x104 : Int) (x105 : Int) (x106 : Int) (x107 : Int) (x108 : Int) (x109 : Int) (μ110 : Mem) (hself66 : ∀ (x11 : Int) (μ12 : Mem), Sim σ cL_law 60 RL (2000) (some .boolean) wI 66 [(0, .inr (.inr 64)), (1, .inr (.inr 0)), (2, .inr (.inr 60)), (3, .inr (.inr 61)), (4, .inr (.inr 62)), (5, .inr (.inr 63)), (6, .inl x99), (7, .inr (.inl x100)), (9, .inl x11)] [] μ12 (self66 x11 μ12)) : Sim σ cL_law 60 RL (2000) (some .boolean) wI 421 [(0, .inr (.inr 64)), (1, .inr (.inr 0)), (2, .inr (.inr 60)), (3, .inr (.inr 61)), (4, .inr (.inr 62)), (5, .inr (.inr 63)), (6, .inl x99), (7, .inr (.inl x100)), (9, .inl x101), (10, .inl x102), (11, .inl x103), (12, .inl x104), (13, .inl x105), (14, .inl x106), (15, .inl x107), (17, .inl x108), (18, .inl x109)] [] μ110 (fL_law_c421 σ self66 x99 x100 x101 x102 x103 x104 x105 x106 x107 x108 x109 μ110) := by
  unfold fL_law_c421
  refine S_iconst dL_law_421 rfl ?_
  refine S_istore (lv' := [(20, .inl 0), (0, .inr (.inr 64)), (1, .inr (.inr 0)), (2, .inr (.inr 60)), (3, .inr (.inr 61)), (4, .inr (.inr 62)), (5, .inr (.inr 63)), (6, .inl x99), (7, .inr (.inl x100)), (9, .inl x101), (10, .inl x102), (11, .inl x103), (12, .inl x104), (13, .inl x105), (14, .inl x106), (15, .inl x107), (17, .inl x108), (18, .inl x109)]) dL_law_422 rfl rfl ?_
  have hL424 : ∀ (n113 : Nat) (x111 : Int) (μ112 : Mem), Sim σ cL_law 60 RL (2000) (some .boolean) wI 424 [(0, .inr (.inr 64)), (1, .inr (.inr 0)), (2, .inr (.inr 60)), (3, .inr (.inr 61)), (4, .inr (.inr 62)), (5, .inr (.inr 63)), (6, .inl x99), (7, .inr (.inl x100)), (9, .inl x101), (10, .inl x102), (11, .inl x103), (12, .inl x104), (13, .inl x105), (14, .inl x106), (15, .inl x107), (17, .inl x108), (18, .inl x109), (20, .inl x111)] [] μ112 (fL_law_L424 x99 σ self66 x100 x101 x102 x103 x104 x105 x106 x107 x108 x109 n113 x111 μ112) := by
    intro n113
    induction n113 with
    | zero =>
      intro x111 μ112
      exact S_none rfl
    | succ n113 ih =>
      intro x111 μ112
      rw [fL_law_L424]
      refine S_iload dL_law_424 rfl ?_
      refine S_iload dL_law_426 rfl ?_
      refine S_ic_ge (tgt := 497) dL_law_428 (by decide) (fun h909 => ?_) (fun h909 => ?_)
      · exact S_sub [0, 1, 2, 3, 4, 5, 6, 7, 8, 9, 10, 11, 12, 13, 14, 15] rfl (KL_law_c497 x99 x100 x101 x102 x103 x104 x105 x106 x107 x108 μ112 hself66)
      · refine S_iload dL_law_431 rfl ?_
        refine S_if_lt (tgt := 497) dL_law_433 (by decide) (fun h908 => ?_) (fun h908 => ?_)
        · exact S_sub [0, 1, 2, 3, 4, 5, 6, 7, 8, 9, 10, 11, 12, 13, 14, 15] rfl (KL_law_c497 x99 x100 x101 x102 x103 x104 x105 x106 x107 x108 μ112 hself66)
        · refine S_aload_n dL_law_436 rfl ?_
          refine S_iload dL_law_437 rfl ?_
          refine S_iconst dL_law_439 rfl ?_
          refine S_callS_M2 dL_law_440 [.inr (.inr 0), .inl x111, .inl 3] (K_L_told x111 3 μ112) l_L_95 yo_L_told rfl rfl rfl (fun x891 μ892 => ?_)
          refine S_iload dL_law_443 rfl ?_
          refine S_jn (fun (K894 : Mem → Option (Int × Mem)) => ∀ (μ893 : Mem), Sim σ cL_law 60 RL (2000) (some .boolean) wI 491 [(0, .inr (.inr 64)), (1, .inr (.inr 0)), (2, .inr (.inr 60)), (3, .inr (.inr 61)), (4, .inr (.inr 62)), (5, .inr (.inr 63)), (6, .inl x99), (7, .inr (.inl x100)), (9, .inl x101), (10, .inl x102), (11, .inl x103), (12, .inl x104), (13, .inl x105), (14, .inl x106), (15, .inl x107), (17, .inl x108), (18, .inl x109), (20, .inl x111)] [] μ893 (K894 μ893)) ?_ (fun K894 hK894 => ?_)
          · intro μ893
            refine S_iinc (lv' := fun x895 => [(20, .inl x895), (0, .inr (.inr 64)), (1, .inr (.inr 0)), (2, .inr (.inr 60)), (3, .inr (.inr 61)), (4, .inr (.inr 62)), (5, .inr (.inr 63)), (6, .inl x99), (7, .inr (.inl x100)), (9, .inl x101), (10, .inl x102), (11, .inl x103), (12, .inl x104), (13, .inl x105), (14, .inl x106), (15, .inl x107), (17, .inl x108), (18, .inl x109)]) dL_law_491 rfl rfl rfl (fun _ => rfl) (fun x895 => ?_)
            refine S_goto (tgt := 424) dL_law_494 (by decide) ?_
            exact S_sub [1, 2, 3, 4, 5, 6, 7, 8, 9, 10, 11, 12, 13, 14, 15, 16, 17, 0] rfl (ih x895 μ893)
          refine S_ic_ne (tgt := 491) dL_law_445 (by decide) (fun h907 => ?_) (fun h907 => ?_)
          · exact S_sub [0, 1, 2, 3, 4, 5, 6, 7, 8, 9, 10, 11, 12, 13, 14, 15, 16, 17] rfl (hK894 μ892)
          · refine S_aload_n dL_law_448 rfl ?_
            refine S_iload dL_law_449 rfl ?_
            refine S_iconst dL_law_451 rfl ?_
            refine S_callS_M2 dL_law_452 [.inr (.inr 0), .inl x111, .inl 5] (K_L_told x111 5 μ892) l_L_95 yo_L_told rfl rfl rfl (fun x896 μ897 => ?_)
            refine S_aload_n dL_law_455 rfl ?_
            refine S_iload dL_law_456 rfl ?_
            refine S_iconst dL_law_458 rfl ?_
            refine S_callS_M2 dL_law_459 [.inr (.inr 0), .inl x108, .inl 5] (K_L_told x108 5 μ897) l_L_95 yo_L_told rfl rfl rfl (fun x898 μ899 => ?_)
            refine S_ic_lt (tgt := 489) dL_law_462 (by decide) (fun h906 => ?_) (fun h906 => ?_)
            · refine S_iconst dL_law_489 rfl ?_
              exact S_zret dL_law_490 rfl (by decide) rfl
            · refine S_aload_n dL_law_465 rfl ?_
              refine S_iload dL_law_466 rfl ?_
              refine S_iconst dL_law_468 rfl ?_
              refine S_callS_M2 dL_law_469 [.inr (.inr 0), .inl x111, .inl 5] (K_L_told x111 5 μ899) l_L_95 yo_L_told rfl rfl rfl (fun x900 μ901 => ?_)
              refine S_aload_n dL_law_472 rfl ?_
              refine S_iload dL_law_473 rfl ?_
              refine S_iconst dL_law_475 rfl ?_
              refine S_callS_M2 dL_law_476 [.inr (.inr 0), .inl x108, .inl 5] (K_L_told x108 5 μ901) l_L_95 yo_L_told rfl rfl rfl (fun x902 μ903 => ?_)
              refine S_ic_ne (tgt := 491) dL_law_479 (by decide) (fun h905 => ?_) (fun h905 => ?_)
              · exact S_sub [0, 1, 2, 3, 4, 5, 6, 7, 8, 9, 10, 11, 12, 13, 14, 15, 16, 17] rfl (hK894 μ903)
              · refine S_iload dL_law_482 rfl ?_
                refine S_iload dL_law_484 rfl ?_
                refine S_ic_ge (tgt := 491) dL_law_486 (by decide) (fun h904 => ?_) (fun h904 => ?_)
                · exact S_sub [0, 1, 2, 3, 4, 5, 6, 7, 8, 9, 10, 11, 12, 13, 14, 15, 16, 17] rfl (hK894 μ903)
                · refine S_iconst dL_law_489 rfl ?_
                  exact S_zret dL_law_490 rfl (by decide) rfl
  exact S_sub [1, 2, 3, 4, 5, 6, 7, 8, 9, 10, 11, 12, 13, 14, 15, 16, 17, 0] rfl (hL424 fuel 0 μ110)
def fL_law_c342 (σ : Scr) (self66 : Int → Mem → Option (Int × Mem)) (x77 : Int) (x78 : Int) (x79 : Int) (x80 : Int) (x81 : Int) (x82 : Int) (x83 : Int) (x84 : Int) (x85 : Int) (x86 : Int) (x87 : Int) (x88 : Int) (x89 : Int) (μ90 : Mem) : Option (Int × Mem) :=
  if ¬ x89 = x84 then
    some (0, μ90)
  else
    mlet (fun (x91 : Int) =>
      mlet (fun (x93 : Int) =>
        if ¬ x91 = x93 then
          some (0, μ90)
        else
          mlet (fun (x95 : Int) =>
            if ¬ x86 = x95 then
              some (0, μ90)
            else
              mlet (fun (μ97 : Mem) =>
                if x83 < 0 then
                  some (0, μ97)
                else
                  if x83 ≤ 9 then
                    fL_law_c421 σ self66 x77 x78 x79 x80 x81 x82 x83 x84 x85 x87 x88 μ97
                  else
                    some (0, μ97)
                ) fun (K98 : Mem → Option (Int × Mem)) =>
              if x87 < 0 then
                K98 μ90
              else
                bnd2 (fL_told x87 3 μ90) fun x912 μ913 =>
                if ¬ x912 = x88 then
                  some (0, μ913)
                else
                  K98 μ913
            ) fun (K96 : Int → Option (Int × Mem)) =>
          if 0 ≤ x87 then
            K96 (bshl 1 x87)
          else
            K96 0
        ) fun (K94 : Int → Option (Int × Mem)) =>
      if ¬ x88 = 0 then
        K94 0
      else
        K94 1
      ) fun (K92 : Int → Option (Int × Mem)) =>
    if 0 ≤ x87 then
      K92 0
    else
      K92 1
theorem dL_law_342 : decode cL_law 342 = .ok (.iload 19, 2) := by decide +kernel
theorem dL_law_344 : decode cL_law 344 = .ok (.iload 14, 2) := by decide +kernel
theorem dL_law_346 : decode cL_law 346 = .ok (.if_icmp .ne 73, 3) := by decide +kernel
theorem dL_law_349 : decode cL_law 349 = .ok (.iload 17, 2) := by decide +kernel
theorem dL_law_351 : decode cL_law 351 = .ok (.ifCond .ge 7, 3) := by decide +kernel
theorem dL_law_354 : decode cL_law 354 = .ok (.iconst 1, 1) := by decide +kernel
theorem dL_law_355 : decode cL_law 355 = .ok (.goto 4, 3) := by decide +kernel
theorem dL_law_358 : decode cL_law 358 = .ok (.iconst 0, 1) := by decide +kernel
theorem dL_law_359 : decode cL_law 359 = .ok (.iload 18, 2) := by decide +kernel
theorem dL_law_361 : decode cL_law 361 = .ok (.ifCond .ne 7, 3) := by decide +kernel
theorem dL_law_364 : decode cL_law 364 = .ok (.iconst 1, 1) := by decide +kernel
theorem dL_law_365 : decode cL_law 365 = .ok (.goto 4, 3) := by decide +kernel
theorem dL_law_368 : decode cL_law 368 = .ok (.iconst 0, 1) := by decide +kernel
theorem dL_law_369 : decode cL_law 369 = .ok (.if_icmp .ne 50, 3) := by decide +kernel
theorem dL_law_372 : decode cL_law 372 = .ok (.iload 16, 2) := by decide +kernel
theorem dL_law_374 : decode cL_law 374 = .ok (.iload 17, 2) := by decide +kernel
theorem dL_law_376 : decode cL_law 376 = .ok (.ifCond .ge 7, 3) := by decide +kernel
theorem dL_law_379 : decode cL_law 379 = .ok (.iconst 0, 1) := by decide +kernel
theorem dL_law_380 : decode cL_law 380 = .ok (.goto 7, 3) := by decide +kernel
theorem dL_law_383 : decode cL_law 383 = .ok (.iconst 1, 1) := by decide +kernel
theorem dL_law_384 : decode cL_law 384 = .ok (.iload 17, 2) := by decide +kernel
theorem dL_law_386 : decode cL_law 386 = .ok (.ishl, 1) := by decide +kernel
theorem dL_law_387 : decode cL_law 387 = .ok (.if_icmp .ne 32, 3) := by decide +kernel
theorem dL_law_390 : decode cL_law 390 = .ok (.iload 17, 2) := by decide +kernel
theorem dL_law_392 : decode cL_law 392 = .ok (.ifCond .lt 15, 3) := by decide +kernel
theorem dL_law_395 : decode cL_law 395 = .ok (.aload_n 1, 1) := by decide +kernel
theorem dL_law_396 : decode cL_law 396 = .ok (.iload 17, 2) := by decide +kernel
theorem dL_law_398 : decode cL_law 398 = .ok (.iconst 3, 1) := by decide +kernel
theorem dL_law_399 : decode cL_law 399 = .ok (.invokestatic 95, 3) := by decide +kernel
theorem dL_law_402 : decode cL_law 402 = .ok (.iload 18, 2) := by decide +kernel
theorem dL_law_404 : decode cL_law 404 = .ok (.if_icmp .ne 15, 3) := by decide +kernel
theorem dL_law_407 : decode cL_law 407 = .ok (.iload 13, 2) := by decide +kernel
theorem dL_law_409 : decode cL_law 409 = .ok (.ifCond .lt 10, 3) := by decide +kernel
theorem dL_law_412 : decode cL_law 412 = .ok (.iload 13, 2) := by decide +kernel
theorem dL_law_414 : decode cL_law 414 = .ok (.bipush 9, 2) := by decide +kernel
theorem dL_law_416 : decode cL_law 416 = .ok (.if_icmp .le 5, 3) := by decide +kernel
theorem dL_law_419 : decode cL_law 419 = .ok (.iconst 0, 1) := by decide +kernel
theorem dL_law_420 : decode cL_law 420 = .ok (.ireturn, 1) := by decide +kernel
theorem KL_law_c342 {σ : Scr} {self66 : Int → Mem → Option (Int × Mem)} (x77 : Int) (x78 : Int) (x79 : Int) (x80 : Int) (x81 : Int) (x82 : Int) (x83 : Int) (x84 : Int) (x85 : Int) (x86 : Int) (x87 : Int) (x88 : Int) (x89 : Int) (μ90 : Mem) (hself66 : ∀ (x11 : Int) (μ12 : Mem), Sim σ cL_law 60 RL (2000) (some .boolean) wI 66 [(0, .inr (.inr 64)), (1, .inr (.inr 0)), (2, .inr (.inr 60)), (3, .inr (.inr 61)), (4, .inr (.inr 62)), (5, .inr (.inr 63)), (6, .inl x77), (7, .inr (.inl x78)), (9, .inl x11)] [] μ12 (self66 x11 μ12)) : Sim σ cL_law 60 RL (2000) (some .boolean) wI 342 [(0, .inr (.inr 64)), (1, .inr (.inr 0)), (2, .inr (.inr 60)), (3, .inr (.inr 61)), (4, .inr (.inr 62)), (5, .inr (.inr 63)), (6, .inl x77), (7, .inr (.inl x78)), (9, .inl x79), (10, .inl x80), (11, .inl x81), (12, .inl x82), (13, .inl x83), (14, .inl x84), (15, .inl x85), (16, .inl x86), (17, .inl x87), (18, .inl x88), (19, .inl x89)] [] μ90 (fL_law_c342 σ self66 x77 x78 x79 x80 x81 x82 x83 x84 x85 x86 x87 x88 x89 μ90) := by
  unfold fL_law_c342
  refine S_iload dL_law_342 rfl ?_
  refine S_iload dL_law_344 rfl ?_
  refine S_ic_ne (tgt := 419) dL_law_346 (by decide) (fun h921 => ?_) (fun h921 => ?_)
  · refine S_iconst dL_law_419 rfl ?_
    exact S_zret dL_law_420 rfl (by decide) rfl
  · refine S_iload dL_law_349 rfl ?_
    refine S_jn (fun (K92 : Int → Option (Int × Mem)) => ∀ (x91 : Int), Sim σ cL_law 60 RL (2000) (some .boolean) wI 359 [(0, .inr (.inr 64)), (1, .inr (.inr 0)), (2, .inr (.inr 60)), (3, .inr (.inr 61)), (4, .inr (.inr 62)), (5, .inr (.inr 63)), (6, .inl x77), (7, .inr (.inl x78)), (9, .inl x79), (10, .inl x80), (11, .inl x81), (12, .inl x82), (13, .inl x83), (14, .inl x84), (15, .inl x85), (16, .inl x86), (17, .inl x87), (18, .inl x88)] [.inl x91] μ90 (K92 x91)) ?_ (fun K92 hK92 => ?_)
    · intro x91
      refine S_iload dL_law_359 rfl ?_
      refine S_jn (fun (K94 : Int → Option (Int × Mem)) => ∀ (x93 : Int), Sim σ cL_law 60 RL (2000) (some .boolean) wI 369 [(0, .inr (.inr 64)), (1, .inr (.inr 0)), (2, .inr (.inr 60)), (3, .inr (.inr 61)), (4, .inr (.inr 62)), (5, .inr (.inr 63)), (6, .inl x77), (7, .inr (.inl x78)), (9, .inl x79), (10, .inl x80), (11, .inl x81), (12, .inl x82), (13, .inl x83), (14, .inl x84), (15, .inl x85), (16, .inl x86), (17, .inl x87), (18, .inl x88)] [.inl x93, .inl x91] μ90 (K94 x93)) ?_ (fun K94 hK94 => ?_)
      · intro x93
        refine S_ic_ne (tgt := 419) dL_law_369 (by decide) (fun h918 => ?_) (fun h918 => ?_)
        · refine S_iconst dL_law_419 rfl ?_
          exact S_zret dL_law_420 rfl (by decide) rfl
        · refine S_iload dL_law_372 rfl ?_
          refine S_iload dL_law_374 rfl ?_
          refine S_jn (fun (K96 : Int → Option (Int × Mem)) => ∀ (x95 : Int), Sim σ cL_law 60 RL (2000) (some .boolean) wI 387 [(0, .inr (.inr 64)), (1, .inr (.inr 0)), (2, .inr (.inr 60)), (3, .inr (.inr 61)), (4, .inr (.inr 62)), (5, .inr (.inr 63)), (6, .inl x77), (7, .inr (.inl x78)), (9, .inl x79), (10, .inl x80), (11, .inl x81), (12, .inl x82), (13, .inl x83), (14, .inl x84), (15, .inl x85), (17, .inl x87), (18, .inl x88)] [.inl x95, .inl x86] μ90 (K96 x95)) ?_ (fun K96 hK96 => ?_)
          · intro x95
            refine S_ic_ne (tgt := 419) dL_law_387 (by decide) (fun h916 => ?_) (fun h916 => ?_)
            · refine S_iconst dL_law_419 rfl ?_
              exact S_zret dL_law_420 rfl (by decide) rfl
            · refine S_iload dL_law_390 rfl ?_
              refine S_jn (fun (K98 : Mem → Option (Int × Mem)) => ∀ (μ97 : Mem), Sim σ cL_law 60 RL (2000) (some .boolean) wI 407 [(0, .inr (.inr 64)), (1, .inr (.inr 0)), (2, .inr (.inr 60)), (3, .inr (.inr 61)), (4, .inr (.inr 62)), (5, .inr (.inr 63)), (6, .inl x77), (7, .inr (.inl x78)), (9, .inl x79), (10, .inl x80), (11, .inl x81), (12, .inl x82), (13, .inl x83), (14, .inl x84), (15, .inl x85), (17, .inl x87), (18, .inl x88)] [] μ97 (K98 μ97)) ?_ (fun K98 hK98 => ?_)
              · intro μ97
                refine S_iload dL_law_407 rfl ?_
                refine S_if_lt (tgt := 419) dL_law_409 (by decide) (fun h911 => ?_) (fun h911 => ?_)
                · refine S_iconst dL_law_419 rfl ?_
                  exact S_zret dL_law_420 rfl (by decide) rfl
                · refine S_iload dL_law_412 rfl ?_
                  refine S_bipush dL_law_414 rfl (by decide) ?_
                  refine S_ic_le (tgt := 421) dL_law_416 (by decide) (fun h910 => ?_) (fun h910 => ?_)
                  · exact S_sub [0, 1, 2, 3, 4, 5, 6, 7, 8, 9, 10, 11, 12, 13, 14, 15, 16] rfl (KL_law_c421 x77 x78 x79 x80 x81 x82 x83 x84 x85 x87 x88 μ97 hself66)
                  · refine S_iconst dL_law_419 rfl ?_
                    exact S_zret dL_law_420 rfl (by decide) rfl
              refine S_if_lt (tgt := 407) dL_law_392 (by decide) (fun h915 => ?_) (fun h915 => ?_)
              · exact S_sub [0, 1, 2, 3, 4, 5, 6, 7, 8, 9, 10, 11, 12, 13, 14, 15, 16] rfl (hK98 μ90)
              · refine S_aload_n dL_law_395 rfl ?_
                refine S_iload dL_law_396 rfl ?_
                refine S_iconst dL_law_398 rfl ?_
                refine S_callS_M2 dL_law_399 [.inr (.inr 0), .inl x87, .inl 3] (K_L_told x87 3 μ90) l_L_95 yo_L_told rfl rfl rfl (fun x912 μ913 => ?_)
                refine S_iload dL_law_402 rfl ?_
                refine S_ic_ne (tgt := 419) dL_law_404 (by decide) (fun h914 => ?_) (fun h914 => ?_)
                · refine S_iconst dL_law_419 rfl ?_
                  exact S_zret dL_law_420 rfl (by decide) rfl
                · exact S_sub [0, 1, 2, 3, 4, 5, 6, 7, 8, 9, 10, 11, 12, 13, 14, 15, 16] rfl (hK98 μ913)
          refine S_if_ge (tgt := 383) dL_law_376 (by decide) (fun h917 => ?_) (fun h917 => ?_)
          · refine S_iconst dL_law_383 rfl ?_
            refine S_iload dL_law_384 rfl ?_
            refine S_ishl dL_law_386 ?_
            exact S_sub [0, 1, 2, 3, 4, 5, 6, 7, 8, 9, 10, 11, 12, 13, 14, 16, 17] rfl (hK96 (bshl 1 x87))
          · refine S_iconst dL_law_379 rfl ?_
            refine S_goto (tgt := 387) dL_law_380 (by decide) ?_
            exact S_sub [0, 1, 2, 3, 4, 5, 6, 7, 8, 9, 10, 11, 12, 13, 14, 16, 17] rfl (hK96 0)
      refine S_if_ne (tgt := 368) dL_law_361 (by decide) (fun h919 => ?_) (fun h919 => ?_)
      · refine S_iconst dL_law_368 rfl ?_
        exact S_sub [0, 1, 2, 3, 4, 5, 6, 7, 8, 9, 10, 11, 12, 13, 14, 15, 16, 17] rfl (hK94 0)
      · refine S_iconst dL_law_364 rfl ?_
        refine S_goto (tgt := 369) dL_law_365 (by decide) ?_
        exact S_sub [0, 1, 2, 3, 4, 5, 6, 7, 8, 9, 10, 11, 12, 13, 14, 15, 16, 17] rfl (hK94 1)
    refine S_if_ge (tgt := 358) dL_law_351 (by decide) (fun h920 => ?_) (fun h920 => ?_)
    · refine S_iconst dL_law_358 rfl ?_
      exact S_sub [0, 1, 2, 3, 4, 5, 6, 7, 8, 9, 10, 11, 12, 13, 14, 15, 16, 17] rfl (hK92 0)
    · refine S_iconst dL_law_354 rfl ?_
      refine S_goto (tgt := 359) dL_law_355 (by decide) ?_
      exact S_sub [0, 1, 2, 3, 4, 5, 6, 7, 8, 9, 10, 11, 12, 13, 14, 15, 16, 17] rfl (hK92 1)
def fL_law_L160 (x60 : Int) (σ : Scr) (self66 : Int → Mem → Option (Int × Mem)) (x61 : Int) (x62 : Int) (x63 : Int) (x65 : Int) (x66 : Int) (x67 : Int) (x68 : Int) (x69 : Int) (x70 : Int) : Nat → Int → Int → Int → Int → Mem → Option (Int × Mem)
  | 0, _, _, _, _, _ => none
  | n76 + 1, x71, x72, x73, x74, μ75 =>
    if x60 ≤ x74 then
      fL_law_c342 σ self66 x60 x61 x62 x63 x65 x66 x67 x68 x69 x70 x71 x72 x73 μ75
    else
      bnd2 (fL_told x74 2 μ75) fun x922 μ923 =>
      grd (0 ≤ x74 ∧ x74 < 6) <|
      mlet (wr μ923 62 (x74).toNat x922) fun μ924 =>
      bnd2 (fL_told x74 3 μ924) fun x925 μ926 =>
      mlet (fun (x927 : Int) =>
        grd (0 ≤ x74 ∧ x74 < 6) <|
        mlet ((w32 (x73 + (μ926 62 (x74).toNat)))) fun x929 =>
        mlet (fun (x930 : Int) =>
          bnd2 (fL_told x74 1 μ926) fun x932 μ933 =>
          grd (0 ≤ x74 ∧ x74 < 6) <|
          if (μ933 62 (x74).toNat) < 0 then
            some (0, μ933)
          else
            grd (0 ≤ x74 ∧ x74 < 6) <|
            if 20 < (μ933 62 (x74).toNat) then
              some (0, μ933)
            else
              if x925 < 0 then
                some (0, μ933)
              else
                if x932 < 0 then
                  some (0, μ933)
                else
                  if 9 < x932 then
                    some (0, μ933)
                  else
                    bnd2 (fL_told x74 5 μ933) fun x934 μ935 =>
                    mlet (fun (x936 : Int) =>
                      if ¬ x934 = x936 then
                        some (0, μ935)
                      else
                        grd (0 ≤ x74 ∧ x74 < 6) <|
                        bnd2 (fL_told x74 5 μ935) fun x938 μ939 =>
                        (fX1_dares x74 (μ935 62 (x74).toNat) (x66.tmod 100) x938 μ939).bind fun x940 =>
                        if x940 = x925 then
                          mlet (w32 (x74 + 1)) fun x941 =>
                          fL_law_L160 x60 σ self66 x61 x62 x63 x65 x66 x67 x68 x69 x70 n76 x930 x927 x929 x941 μ939
                        else
                          some (0, μ939)
                      ) fun (K937 : Int → Option (Int × Mem)) =>
                    if x67 ≤ x932 then
                      K937 (w32 (x932 - x67))
                    else
                      K937 (w32 (x67 - x932))
          ) fun (K931 : Int → Option (Int × Mem)) =>
        if ¬ x70 = (bshl 1 x74) then
          K931 x71
        else
          K931 x74
        ) fun (K928 : Int → Option (Int × Mem)) =>
      if x925 ≤ x72 then
        K928 x72
      else
        K928 x925
def fL_law_c104 (σ : Scr) (self66 : Int → Mem → Option (Int × Mem)) (x60 : Int) (x61 : Int) (x62 : Int) (x63 : Int) (μ64 : Mem) : Option (Int × Mem) :=
  (fX1_count 2 μ64).bind fun x65 =>
  (fX1_count 1 μ64).bind fun x66 =>
  (fX1_count 3 μ64).bind fun x67 =>
  (fX1_count 5 μ64).bind fun x68 =>
  (fX1_count 6 μ64).bind fun x69 =>
  (fX1_count 4 μ64).bind fun x70 =>
  fL_law_L160 x60 σ self66 x61 x62 x63 x65 x66 x67 x68 x69 x70 fuel (-9) 0 0 0 μ64
theorem dL_law_104 : decode cL_law 104 = .ok (.aload_n 1, 1) := by decide +kernel
theorem dL_law_105 : decode cL_law 105 = .ok (.iconst 2, 1) := by decide +kernel
theorem dL_law_106 : decode cL_law 106 = .ok (.invokevirtual 92, 3) := by decide +kernel
theorem dL_law_109 : decode cL_law 109 = .ok (.istore 11, 2) := by decide +kernel
theorem dL_law_111 : decode cL_law 111 = .ok (.aload_n 1, 1) := by decide +kernel
theorem dL_law_112 : decode cL_law 112 = .ok (.iconst 1, 1) := by decide +kernel
theorem dL_law_113 : decode cL_law 113 = .ok (.invokevirtual 92, 3) := by decide +kernel
theorem dL_law_116 : decode cL_law 116 = .ok (.istore 12, 2) := by decide +kernel
theorem dL_law_118 : decode cL_law 118 = .ok (.aload_n 1, 1) := by decide +kernel
theorem dL_law_119 : decode cL_law 119 = .ok (.iconst 3, 1) := by decide +kernel
theorem dL_law_120 : decode cL_law 120 = .ok (.invokevirtual 92, 3) := by decide +kernel
theorem dL_law_123 : decode cL_law 123 = .ok (.istore 13, 2) := by decide +kernel
theorem dL_law_125 : decode cL_law 125 = .ok (.aload_n 1, 1) := by decide +kernel
theorem dL_law_126 : decode cL_law 126 = .ok (.iconst 5, 1) := by decide +kernel
theorem dL_law_127 : decode cL_law 127 = .ok (.invokevirtual 92, 3) := by decide +kernel
theorem dL_law_130 : decode cL_law 130 = .ok (.istore 14, 2) := by decide +kernel
theorem dL_law_132 : decode cL_law 132 = .ok (.aload_n 1, 1) := by decide +kernel
theorem dL_law_133 : decode cL_law 133 = .ok (.bipush 6, 2) := by decide +kernel
theorem dL_law_135 : decode cL_law 135 = .ok (.invokevirtual 92, 3) := by decide +kernel
theorem dL_law_138 : decode cL_law 138 = .ok (.istore 15, 2) := by decide +kernel
theorem dL_law_140 : decode cL_law 140 = .ok (.aload_n 1, 1) := by decide +kernel
theorem dL_law_141 : decode cL_law 141 = .ok (.iconst 4, 1) := by decide +kernel
theorem dL_law_142 : decode cL_law 142 = .ok (.invokevirtual 92, 3) := by decide +kernel
theorem dL_law_145 : decode cL_law 145 = .ok (.istore 16, 2) := by decide +kernel
theorem dL_law_147 : decode cL_law 147 = .ok (.bipush (-9), 2) := by decide +kernel
theorem dL_law_149 : decode cL_law 149 = .ok (.istore 17, 2) := by decide +kernel
theorem dL_law_151 : decode cL_law 151 = .ok (.iconst 0, 1) := by decide +kernel
theorem dL_law_152 : decode cL_law 152 = .ok (.istore 18, 2) := by decide +kernel
theorem dL_law_154 : decode cL_law 154 = .ok (.iconst 0, 1) := by decide +kernel
theorem dL_law_155 : decode cL_law 155 = .ok (.istore 19, 2) := by decide +kernel
theorem dL_law_157 : decode cL_law 157 = .ok (.iconst 0, 1) := by decide +kernel
theorem dL_law_158 : decode cL_law 158 = .ok (.istore 20, 2) := by decide +kernel
theorem dL_law_160 : decode cL_law 160 = .ok (.iload 20, 2) := by decide +kernel
theorem dL_law_162 : decode cL_law 162 = .ok (.iload 6, 2) := by decide +kernel
theorem dL_law_164 : decode cL_law 164 = .ok (.if_icmp .ge 178, 3) := by decide +kernel
theorem dL_law_167 : decode cL_law 167 = .ok (.aload 4, 2) := by decide +kernel
theorem dL_law_169 : decode cL_law 169 = .ok (.iload 20, 2) := by decide +kernel
theorem dL_law_171 : decode cL_law 171 = .ok (.aload_n 1, 1) := by decide +kernel
theorem dL_law_172 : decode cL_law 172 = .ok (.iload 20, 2) := by decide +kernel
theorem dL_law_174 : decode cL_law 174 = .ok (.iconst 2, 1) := by decide +kernel
theorem dL_law_175 : decode cL_law 175 = .ok (.invokestatic 95, 3) := by decide +kernel
theorem dL_law_178 : decode cL_law 178 = .ok (.iastore, 1) := by decide +kernel
theorem dL_law_179 : decode cL_law 179 = .ok (.aload_n 1, 1) := by decide +kernel
theorem dL_law_180 : decode cL_law 180 = .ok (.iload 20, 2) := by decide +kernel
theorem dL_law_182 : decode cL_law 182 = .ok (.iconst 3, 1) := by decide +kernel
theorem dL_law_183 : decode cL_law 183 = .ok (.invokestatic 95, 3) := by decide +kernel
theorem dL_law_186 : decode cL_law 186 = .ok (.istore 21, 2) := by decide +kernel
theorem dL_law_188 : decode cL_law 188 = .ok (.iload 21, 2) := by decide +kernel
theorem dL_law_190 : decode cL_law 190 = .ok (.iload 18, 2) := by decide +kernel
theorem dL_law_192 : decode cL_law 192 = .ok (.if_icmp .le 8, 3) := by decide +kernel
theorem dL_law_195 : decode cL_law 195 = .ok (.iload 21, 2) := by decide +kernel
theorem dL_law_197 : decode cL_law 197 = .ok (.goto 5, 3) := by decide +kernel
theorem dL_law_200 : decode cL_law 200 = .ok (.iload 18, 2) := by decide +kernel
theorem dL_law_202 : decode cL_law 202 = .ok (.istore 18, 2) := by decide +kernel
theorem dL_law_204 : decode cL_law 204 = .ok (.iload 19, 2) := by decide +kernel
theorem dL_law_206 : decode cL_law 206 = .ok (.aload 4, 2) := by decide +kernel
theorem dL_law_208 : decode cL_law 208 = .ok (.iload 20, 2) := by decide +kernel
theorem dL_law_210 : decode cL_law 210 = .ok (.iaload, 1) := by decide +kernel
theorem dL_law_211 : decode cL_law 211 = .ok (.iadd, 1) := by decide +kernel
theorem dL_law_212 : decode cL_law 212 = .ok (.istore 19, 2) := by decide +kernel
theorem dL_law_214 : decode cL_law 214 = .ok (.iload 16, 2) := by decide +kernel
theorem dL_law_216 : decode cL_law 216 = .ok (.iconst 1, 1) := by decide +kernel
theorem dL_law_217 : decode cL_law 217 = .ok (.iload 20, 2) := by decide +kernel
theorem dL_law_219 : decode cL_law 219 = .ok (.ishl, 1) := by decide +kernel
theorem dL_law_220 : decode cL_law 220 = .ok (.if_icmp .ne 8, 3) := by decide +kernel
theorem dL_law_223 : decode cL_law 223 = .ok (.iload 20, 2) := by decide +kernel
theorem dL_law_225 : decode cL_law 225 = .ok (.goto 5, 3) := by decide +kernel
theorem dL_law_228 : decode cL_law 228 = .ok (.iload 17, 2) := by decide +kernel
theorem dL_law_230 : decode cL_law 230 = .ok (.istore 17, 2) := by decide +kernel
theorem dL_law_232 : decode cL_law 232 = .ok (.aload_n 1, 1) := by decide +kernel
theorem dL_law_233 : decode cL_law 233 = .ok (.iload 20, 2) := by decide +kernel
theorem dL_law_235 : decode cL_law 235 = .ok (.iconst 1, 1) := by decide +kernel
theorem dL_law_236 : decode cL_law 236 = .ok (.invokestatic 95, 3) := by decide +kernel
theorem dL_law_239 : decode cL_law 239 = .ok (.istore 22, 2) := by decide +kernel
theorem dL_law_241 : decode cL_law 241 = .ok (.aload 4, 2) := by decide +kernel
theorem dL_law_243 : decode cL_law 243 = .ok (.iload 20, 2) := by decide +kernel
theorem dL_law_245 : decode cL_law 245 = .ok (.iaload, 1) := by decide +kernel
theorem dL_law_246 : decode cL_law 246 = .ok (.ifCond .lt 88, 3) := by decide +kernel
theorem dL_law_249 : decode cL_law 249 = .ok (.aload 4, 2) := by decide +kernel
theorem dL_law_251 : decode cL_law 251 = .ok (.iload 20, 2) := by decide +kernel
theorem dL_law_253 : decode cL_law 253 = .ok (.iaload, 1) := by decide +kernel
theorem dL_law_254 : decode cL_law 254 = .ok (.bipush 20, 2) := by decide +kernel
theorem dL_law_256 : decode cL_law 256 = .ok (.if_icmp .gt 78, 3) := by decide +kernel
theorem dL_law_259 : decode cL_law 259 = .ok (.iload 21, 2) := by decide +kernel
theorem dL_law_261 : decode cL_law 261 = .ok (.ifCond .lt 73, 3) := by decide +kernel
theorem dL_law_264 : decode cL_law 264 = .ok (.iload 22, 2) := by decide +kernel
theorem dL_law_266 : decode cL_law 266 = .ok (.ifCond .lt 68, 3) := by decide +kernel
theorem dL_law_269 : decode cL_law 269 = .ok (.iload 22, 2) := by decide +kernel
theorem dL_law_271 : decode cL_law 271 = .ok (.bipush 9, 2) := by decide +kernel
theorem dL_law_273 : decode cL_law 273 = .ok (.if_icmp .gt 61, 3) := by decide +kernel
theorem dL_law_276 : decode cL_law 276 = .ok (.aload_n 1, 1) := by decide +kernel
theorem dL_law_277 : decode cL_law 277 = .ok (.iload 20, 2) := by decide +kernel
theorem dL_law_279 : decode cL_law 279 = .ok (.iconst 5, 1) := by decide +kernel
theorem dL_law_280 : decode cL_law 280 = .ok (.invokestatic 95, 3) := by decide +kernel
theorem dL_law_283 : decode cL_law 283 = .ok (.iload 22, 2) := by decide +kernel
theorem dL_law_285 : decode cL_law 285 = .ok (.iload 13, 2) := by decide +kernel
theorem dL_law_287 : decode cL_law 287 = .ok (.if_icmp .ge 11, 3) := by decide +kernel
theorem dL_law_290 : decode cL_law 290 = .ok (.iload 13, 2) := by decide +kernel
theorem dL_law_292 : decode cL_law 292 = .ok (.iload 22, 2) := by decide +kernel
theorem dL_law_294 : decode cL_law 294 = .ok (.isub, 1) := by decide +kernel
theorem dL_law_295 : decode cL_law 295 = .ok (.goto 8, 3) := by decide +kernel
theorem dL_law_298 : decode cL_law 298 = .ok (.iload 22, 2) := by decide +kernel
theorem dL_law_300 : decode cL_law 300 = .ok (.iload 13, 2) := by decide +kernel
theorem dL_law_302 : decode cL_law 302 = .ok (.isub, 1) := by decide +kernel
theorem dL_law_303 : decode cL_law 303 = .ok (.if_icmp .ne 31, 3) := by decide +kernel
theorem dL_law_306 : decode cL_law 306 = .ok (.aload_n 1, 1) := by decide +kernel
theorem dL_law_307 : decode cL_law 307 = .ok (.iload 20, 2) := by decide +kernel
theorem dL_law_309 : decode cL_law 309 = .ok (.aload 4, 2) := by decide +kernel
theorem dL_law_311 : decode cL_law 311 = .ok (.iload 20, 2) := by decide +kernel
theorem dL_law_313 : decode cL_law 313 = .ok (.iaload, 1) := by decide +kernel
theorem dL_law_314 : decode cL_law 314 = .ok (.iload 12, 2) := by decide +kernel
theorem dL_law_316 : decode cL_law 316 = .ok (.bipush 100, 2) := by decide +kernel
theorem dL_law_318 : decode cL_law 318 = .ok (.irem, 1) := by decide +kernel
theorem dL_law_319 : decode cL_law 319 = .ok (.aload_n 1, 1) := by decide +kernel
theorem dL_law_320 : decode cL_law 320 = .ok (.iload 20, 2) := by decide +kernel
theorem dL_law_322 : decode cL_law 322 = .ok (.iconst 5, 1) := by decide +kernel
theorem dL_law_323 : decode cL_law 323 = .ok (.invokestatic 95, 3) := by decide +kernel
theorem dL_law_326 : decode cL_law 326 = .ok (.invokevirtual 99, 3) := by decide +kernel
theorem dL_law_329 : decode cL_law 329 = .ok (.iload 21, 2) := by decide +kernel
theorem dL_law_331 : decode cL_law 331 = .ok (.if_icmp .eq 5, 3) := by decide +kernel
theorem dL_law_334 : decode cL_law 334 = .ok (.iconst 0, 1) := by decide +kernel
theorem dL_law_335 : decode cL_law 335 = .ok (.ireturn, 1) := by decide +kernel
theorem dL_law_336 : decode cL_law 336 = .ok (.iinc 20 1, 3) := by decide +kernel
theorem dL_law_339 : decode cL_law 339 = .ok (.goto (-179), 3) := by decide +kernel
theorem KL_law_c104 {σ : Scr} {self66 : Int → Mem → Option (Int × Mem)} (x60 : Int) (x61 : Int) (x62 : Int) (x63 : Int) (μ64 : Mem) (hself66 : ∀ (x11 : Int) (μ12 : Mem), Sim σ cL_law 60 RL (2000) (some .boolean) wI 66 [(0, .inr (.inr 64)), (1, .inr (.inr 0)), (2, .inr (.inr 60)), (3, .inr (.inr 61)), (4, .inr (.inr 62)), (5, .inr (.inr 63)), (6, .inl x60), (7, .inr (.inl x61)), (9, .inl x11)] [] μ12 (self66 x11 μ12)) : Sim σ cL_law 60 RL (2000) (some .boolean) wI 104 [(0, .inr (.inr 64)), (1, .inr (.inr 0)), (2, .inr (.inr 60)), (3, .inr (.inr 61)), (4, .inr (.inr 62)), (5, .inr (.inr 63)), (6, .inl x60), (7, .inr (.inl x61)), (9, .inl x62), (10, .inl x63)] [] μ64 (fL_law_c104 σ self66 x60 x61 x62 x63 μ64) := by
  unfold fL_law_c104
  refine S_aload_n dL_law_104 rfl ?_
  refine S_iconst dL_law_105 rfl ?_
  refine S_callV_I dL_law_106 [.inl 2] (K_X1_count 2 μ64) l_L_92 yo_X1_count rfl rfl rfl rfl rfl (fun x65 => ?_)
  refine S_istore (lv' := [(11, .inl x65), (0, .inr (.inr 64)), (1, .inr (.inr 0)), (2, .inr (.inr 60)), (3, .inr (.inr 61)), (4, .inr (.inr 62)), (5, .inr (.inr 63)), (6, .inl x60), (7, .inr (.inl x61)), (9, .inl x62), (10, .inl x63)]) dL_law_109 rfl rfl ?_
  refine S_aload_n dL_law_111 rfl ?_
  refine S_iconst dL_law_112 rfl ?_
  refine S_callV_I dL_law_113 [.inl 1] (K_X1_count 1 μ64) l_L_92 yo_X1_count rfl rfl rfl rfl rfl (fun x66 => ?_)
  refine S_istore (lv' := [(12, .inl x66), (11, .inl x65), (0, .inr (.inr 64)), (1, .inr (.inr 0)), (2, .inr (.inr 60)), (3, .inr (.inr 61)), (4, .inr (.inr 62)), (5, .inr (.inr 63)), (6, .inl x60), (7, .inr (.inl x61)), (9, .inl x62), (10, .inl x63)]) dL_law_116 rfl rfl ?_
  refine S_aload_n dL_law_118 rfl ?_
  refine S_iconst dL_law_119 rfl ?_
  refine S_callV_I dL_law_120 [.inl 3] (K_X1_count 3 μ64) l_L_92 yo_X1_count rfl rfl rfl rfl rfl (fun x67 => ?_)
  refine S_istore (lv' := [(13, .inl x67), (12, .inl x66), (11, .inl x65), (0, .inr (.inr 64)), (1, .inr (.inr 0)), (2, .inr (.inr 60)), (3, .inr (.inr 61)), (4, .inr (.inr 62)), (5, .inr (.inr 63)), (6, .inl x60), (7, .inr (.inl x61)), (9, .inl x62), (10, .inl x63)]) dL_law_123 rfl rfl ?_
  refine S_aload_n dL_law_125 rfl ?_
  refine S_iconst dL_law_126 rfl ?_
  refine S_callV_I dL_law_127 [.inl 5] (K_X1_count 5 μ64) l_L_92 yo_X1_count rfl rfl rfl rfl rfl (fun x68 => ?_)
  refine S_istore (lv' := [(14, .inl x68), (13, .inl x67), (12, .inl x66), (11, .inl x65), (0, .inr (.inr 64)), (1, .inr (.inr 0)), (2, .inr (.inr 60)), (3, .inr (.inr 61)), (4, .inr (.inr 62)), (5, .inr (.inr 63)), (6, .inl x60), (7, .inr (.inl x61)), (9, .inl x62), (10, .inl x63)]) dL_law_130 rfl rfl ?_
  refine S_aload_n dL_law_132 rfl ?_
  refine S_bipush dL_law_133 rfl (by decide) ?_
  refine S_callV_I dL_law_135 [.inl 6] (K_X1_count 6 μ64) l_L_92 yo_X1_count rfl rfl rfl rfl rfl (fun x69 => ?_)
  refine S_istore (lv' := [(15, .inl x69), (14, .inl x68), (13, .inl x67), (12, .inl x66), (11, .inl x65), (0, .inr (.inr 64)), (1, .inr (.inr 0)), (2, .inr (.inr 60)), (3, .inr (.inr 61)), (4, .inr (.inr 62)), (5, .inr (.inr 63)), (6, .inl x60), (7, .inr (.inl x61)), (9, .inl x62), (10, .inl x63)]) dL_law_138 rfl rfl ?_
  refine S_aload_n dL_law_140 rfl ?_
  refine S_iconst dL_law_141 rfl ?_
  refine S_callV_I dL_law_142 [.inl 4] (K_X1_count 4 μ64) l_L_92 yo_X1_count rfl rfl rfl rfl rfl (fun x70 => ?_)
  refine S_istore (lv' := [(16, .inl x70), (15, .inl x69), (14, .inl x68), (13, .inl x67), (12, .inl x66), (11, .inl x65), (0, .inr (.inr 64)), (1, .inr (.inr 0)), (2, .inr (.inr 60)), (3, .inr (.inr 61)), (4, .inr (.inr 62)), (5, .inr (.inr 63)), (6, .inl x60), (7, .inr (.inl x61)), (9, .inl x62), (10, .inl x63)]) dL_law_145 rfl rfl ?_
  refine S_bipush dL_law_147 rfl (by decide) ?_
  refine S_istore (lv' := [(17, .inl (-9)), (16, .inl x70), (15, .inl x69), (14, .inl x68), (13, .inl x67), (12, .inl x66), (11, .inl x65), (0, .inr (.inr 64)), (1, .inr (.inr 0)), (2, .inr (.inr 60)), (3, .inr (.inr 61)), (4, .inr (.inr 62)), (5, .inr (.inr 63)), (6, .inl x60), (7, .inr (.inl x61)), (9, .inl x62), (10, .inl x63)]) dL_law_149 rfl rfl ?_
  refine S_iconst dL_law_151 rfl ?_
  refine S_istore (lv' := [(18, .inl 0), (17, .inl (-9)), (16, .inl x70), (15, .inl x69), (14, .inl x68), (13, .inl x67), (12, .inl x66), (11, .inl x65), (0, .inr (.inr 64)), (1, .inr (.inr 0)), (2, .inr (.inr 60)), (3, .inr (.inr 61)), (4, .inr (.inr 62)), (5, .inr (.inr 63)), (6, .inl x60), (7, .inr (.inl x61)), (9, .inl x62), (10, .inl x63)]) dL_law_152 rfl rfl ?_
  refine S_iconst dL_law_154 rfl ?_
  refine S_istore (lv' := [(19, .inl 0), (18, .inl 0), (17, .inl (-9)), (16, .inl x70), (15, .inl x69), (14, .inl x68), (13, .inl x67), (12, .inl x66), (11, .inl x65), (0, .inr (.inr 64)), (1, .inr (.inr 0)), (2, .inr (.inr 60)), (3, .inr (.inr 61)), (4, .inr (.inr 62)), (5, .inr (.inr 63)), (6, .inl x60), (7, .inr (.inl x61)), (9, .inl x62), (10, .inl x63)]) dL_law_155 rfl rfl ?_
  refine S_iconst dL_law_157 rfl ?_
  refine S_istore (lv' := [(20, .inl 0), (19, .inl 0), (18, .inl 0), (17, .inl (-9)), (16, .inl x70), (15, .inl x69), (14, .inl x68), (13, .inl x67), (12, .inl x66), (11, .inl x65), (0, .inr (.inr 64)), (1, .inr (.inr 0)), (2, .inr (.inr 60)), (3, .inr (.inr 61)), (4, .inr (.inr 62)), (5, .inr (.inr 63)), (6, .inl x60), (7, .inr (.inl x61)), (9, .inl x62), (10, .inl x63)]) dL_law_158 rfl rfl ?_
  have hL160 : ∀ (n76 : Nat) (x71 : Int) (x72 : Int) (x73 : Int) (x74 : Int) (μ75 : Mem), Sim σ cL_law 60 RL (2000) (some .boolean) wI 160 [(0, .inr (.inr 64)), (1, .inr (.inr 0)), (2, .inr (.inr 60)), (3, .inr (.inr 61)), (4, .inr (.inr 62)), (5, .inr (.inr 63)), (6, .inl x60), (7, .inr (.inl x61)), (9, .inl x62), (10, .inl x63), (11, .inl x65), (12, .inl x66), (13, .inl x67), (14, .inl x68), (15, .inl x69), (16, .inl x70), (17, .inl x71), (18, .inl x72), (19, .inl x73), (20, .inl x74)] [] μ75 (fL_law_L160 x60 σ self66 x61 x62 x63 x65 x66 x67 x68 x69 x70 n76 x71 x72 x73 x74 μ75) := by
    intro n76
    induction n76 with
    | zero =>
      intro x71 x72 x73 x74 μ75
      exact S_none rfl
    | succ n76 ih =>
      intro x71 x72 x73 x74 μ75
      rw [fL_law_L160]
      refine S_iload dL_law_160 rfl ?_
      refine S_iload dL_law_162 rfl ?_
      refine S_ic_ge (tgt := 342) dL_law_164 (by decide) (fun h952 => ?_) (fun h952 => ?_)
      · exact S_sub [0, 1, 2, 3, 4, 5, 6, 7, 8, 9, 10, 11, 12, 13, 14, 15, 16, 17, 18] rfl (KL_law_c342 x60 x61 x62 x63 x65 x66 x67 x68 x69 x70 x71 x72 x73 μ75 hself66)
      · refine S_aload dL_law_167 rfl ?_
        refine S_iload dL_law_169 rfl ?_
        refine S_aload_n dL_law_171 rfl ?_
        refine S_iload dL_law_172 rfl ?_
        refine S_iconst dL_law_174 rfl ?_
        refine S_callS_M2 dL_law_175 [.inr (.inr 0), .inl x74, .inl 2] (K_L_told x74 2 μ75) l_L_95 yo_L_told rfl rfl rfl (fun x922 μ923 => ?_)
        refine S_iast (N := 6) dL_law_178 rfl (by decide) rfl (fun μ924 => ?_)
        refine S_aload_n dL_law_179 rfl ?_
        refine S_iload dL_law_180 rfl ?_
        refine S_iconst dL_law_182 rfl ?_
        refine S_callS_M2 dL_law_183 [.inr (.inr 0), .inl x74, .inl 3] (K_L_told x74 3 μ924) l_L_95 yo_L_told rfl rfl rfl (fun x925 μ926 => ?_)
        refine S_istore (lv' := [(21, .inl x925), (0, .inr (.inr 64)), (1, .inr (.inr 0)), (2, .inr (.inr 60)), (3, .inr (.inr 61)), (4, .inr (.inr 62)), (5, .inr (.inr 63)), (6, .inl x60), (7, .inr (.inl x61)), (9, .inl x62), (10, .inl x63), (11, .inl x65), (12, .inl x66), (13, .inl x67), (14, .inl x68), (15, .inl x69), (16, .inl x70), (17, .inl x71), (18, .inl x72), (19, .inl x73), (20, .inl x74)]) dL_law_186 rfl rfl ?_
        refine S_iload dL_law_188 rfl ?_
        refine S_iload dL_law_190 rfl ?_
        refine S_jn (fun (K928 : Int → Option (Int × Mem)) => ∀ (x927 : Int), Sim σ cL_law 60 RL (2000) (some .boolean) wI 202 [(0, .inr (.inr 64)), (1, .inr (.inr 0)), (2, .inr (.inr 60)), (3, .inr (.inr 61)), (4, .inr (.inr 62)), (5, .inr (.inr 63)), (6, .inl x60), (7, .inr (.inl x61)), (9, .inl x62), (10, .inl x63), (11, .inl x65), (12, .inl x66), (13, .inl x67), (14, .inl x68), (15, .inl x69), (16, .inl x70), (17, .inl x71), (19, .inl x73), (20, .inl x74), (21, .inl x925)] [.inl x927] μ926 (K928 x927)) ?_ (fun K928 hK928 => ?_)
        · intro x927
          refine S_istore (lv' := [(18, .inl x927), (0, .inr (.inr 64)), (1, .inr (.inr 0)), (2, .inr (.inr 60)), (3, .inr (.inr 61)), (4, .inr (.inr 62)), (5, .inr (.inr 63)), (6, .inl x60), (7, .inr (.inl x61)), (9, .inl x62), (10, .inl x63), (11, .inl x65), (12, .inl x66), (13, .inl x67), (14, .inl x68), (15, .inl x69), (16, .inl x70), (17, .inl x71), (19, .inl x73), (20, .inl x74), (21, .inl x925)]) dL_law_202 rfl rfl ?_
          refine S_iload dL_law_204 rfl ?_
          refine S_aload dL_law_206 rfl ?_
          refine S_iload dL_law_208 rfl ?_
          refine S_iald (N := 6) dL_law_210 rfl (by decide) rfl ?_
          refine S_iadd dL_law_211 ?_
          refine S_let (fun x929 => ?_)
          refine S_istore (lv' := [(19, .inl x929), (18, .inl x927), (0, .inr (.inr 64)), (1, .inr (.inr 0)), (2, .inr (.inr 60)), (3, .inr (.inr 61)), (4, .inr (.inr 62)), (5, .inr (.inr 63)), (6, .inl x60), (7, .inr (.inl x61)), (9, .inl x62), (10, .inl x63), (11, .inl x65), (12, .inl x66), (13, .inl x67), (14, .inl x68), (15, .inl x69), (16, .inl x70), (17, .inl x71), (20, .inl x74), (21, .inl x925)]) dL_law_212 rfl rfl ?_
          refine S_iload dL_law_214 rfl ?_
          refine S_iconst dL_law_216 rfl ?_
          refine S_iload dL_law_217 rfl ?_
          refine S_ishl dL_law_219 ?_
          refine S_jn (fun (K931 : Int → Option (Int × Mem)) => ∀ (x930 : Int), Sim σ cL_law 60 RL (2000) (some .boolean) wI 230 [(0, .inr (.inr 64)), (1, .inr (.inr 0)), (2, .inr (.inr 60)), (3, .inr (.inr 61)), (4, .inr (.inr 62)), (5, .inr (.inr 63)), (6, .inl x60), (7, .inr (.inl x61)), (9, .inl x62), (10, .inl x63), (11, .inl x65), (12, .inl x66), (13, .inl x67), (14, .inl x68), (15, .inl x69), (16, .inl x70), (18, .inl x927), (19, .inl x929), (20, .inl x74), (21, .inl x925)] [.inl x930] μ926 (K931 x930)) ?_ (fun K931 hK931 => ?_)
          · intro x930
            refine S_istore (lv' := [(17, .inl x930), (0, .inr (.inr 64)), (1, .inr (.inr 0)), (2, .inr (.inr 60)), (3, .inr (.inr 61)), (4, .inr (.inr 62)), (5, .inr (.inr 63)), (6, .inl x60), (7, .inr (.inl x61)), (9, .inl x62), (10, .inl x63), (11, .inl x65), (12, .inl x66), (13, .inl x67), (14, .inl x68), (15, .inl x69), (16, .inl x70), (18, .inl x927), (19, .inl x929), (20, .inl x74), (21, .inl x925)]) dL_law_230 rfl rfl ?_
            refine S_aload_n dL_law_232 rfl ?_
            refine S_iload dL_law_233 rfl ?_
            refine S_iconst dL_law_235 rfl ?_
            refine S_callS_M2 dL_law_236 [.inr (.inr 0), .inl x74, .inl 1] (K_L_told x74 1 μ926) l_L_95 yo_L_told rfl rfl rfl (fun x932 μ933 => ?_)
            refine S_istore (lv' := [(22, .inl x932), (17, .inl x930), (0, .inr (.inr 64)), (1, .inr (.inr 0)), (2, .inr (.inr 60)), (3, .inr (.inr 61)), (4, .inr (.inr 62)), (5, .inr (.inr 63)), (6, .inl x60), (7, .inr (.inl x61)), (9, .inl x62), (10, .inl x63), (11, .inl x65), (12, .inl x66), (13, .inl x67), (14, .inl x68), (15, .inl x69), (16, .inl x70), (18, .inl x927), (19, .inl x929), (20, .inl x74), (21, .inl x925)]) dL_law_239 rfl rfl ?_
            refine S_aload dL_law_241 rfl ?_
            refine S_iload dL_law_243 rfl ?_
            refine S_iald (N := 6) dL_law_245 rfl (by decide) rfl ?_
            refine S_if_lt (tgt := 334) dL_law_246 (by decide) (fun h949 => ?_) (fun h949 => ?_)
            · refine S_iconst dL_law_334 rfl ?_
              exact S_zret dL_law_335 rfl (by decide) rfl
            · refine S_aload dL_law_249 rfl ?_
              refine S_iload dL_law_251 rfl ?_
              refine S_iald (N := 6) dL_law_253 rfl (by decide) rfl ?_
              refine S_bipush dL_law_254 rfl (by decide) ?_
              refine S_ic_gt (tgt := 334) dL_law_256 (by decide) (fun h948 => ?_) (fun h948 => ?_)
              · refine S_iconst dL_law_334 rfl ?_
                exact S_zret dL_law_335 rfl (by decide) rfl
              · refine S_iload dL_law_259 rfl ?_
                refine S_if_lt (tgt := 334) dL_law_261 (by decide) (fun h947 => ?_) (fun h947 => ?_)
                · refine S_iconst dL_law_334 rfl ?_
                  exact S_zret dL_law_335 rfl (by decide) rfl
                · refine S_iload dL_law_264 rfl ?_
                  refine S_if_lt (tgt := 334) dL_law_266 (by decide) (fun h946 => ?_) (fun h946 => ?_)
                  · refine S_iconst dL_law_334 rfl ?_
                    exact S_zret dL_law_335 rfl (by decide) rfl
                  · refine S_iload dL_law_269 rfl ?_
                    refine S_bipush dL_law_271 rfl (by decide) ?_
                    refine S_ic_gt (tgt := 334) dL_law_273 (by decide) (fun h945 => ?_) (fun h945 => ?_)
                    · refine S_iconst dL_law_334 rfl ?_
                      exact S_zret dL_law_335 rfl (by decide) rfl
                    · refine S_aload_n dL_law_276 rfl ?_
                      refine S_iload dL_law_277 rfl ?_
                      refine S_iconst dL_law_279 rfl ?_
                      refine S_callS_M2 dL_law_280 [.inr (.inr 0), .inl x74, .inl 5] (K_L_told x74 5 μ933) l_L_95 yo_L_told rfl rfl rfl (fun x934 μ935 => ?_)
                      refine S_iload dL_law_283 rfl ?_
                      refine S_iload dL_law_285 rfl ?_
                      refine S_jn (fun (K937 : Int → Option (Int × Mem)) => ∀ (x936 : Int), Sim σ cL_law 60 RL (2000) (some .boolean) wI 303 [(0, .inr (.inr 64)), (1, .inr (.inr 0)), (2, .inr (.inr 60)), (3, .inr (.inr 61)), (4, .inr (.inr 62)), (5, .inr (.inr 63)), (6, .inl x60), (7, .inr (.inl x61)), (9, .inl x62), (10, .inl x63), (11, .inl x65), (12, .inl x66), (13, .inl x67), (14, .inl x68), (15, .inl x69), (16, .inl x70), (17, .inl x930), (18, .inl x927), (19, .inl x929), (20, .inl x74), (21, .inl x925)] [.inl x936, .inl x934] μ935 (K937 x936)) ?_ (fun K937 hK937 => ?_)
                      · intro x936
                        refine S_ic_ne (tgt := 334) dL_law_303 (by decide) (fun h943 => ?_) (fun h943 => ?_)
                        · refine S_iconst dL_law_334 rfl ?_
                          exact S_zret dL_law_335 rfl (by decide) rfl
                        · refine S_aload_n dL_law_306 rfl ?_
                          refine S_iload dL_law_307 rfl ?_
                          refine S_aload dL_law_309 rfl ?_
                          refine S_iload dL_law_311 rfl ?_
                          refine S_iald (N := 6) dL_law_313 rfl (by decide) rfl ?_
                          refine S_iload dL_law_314 rfl ?_
                          refine S_bipush dL_law_316 rfl (by decide) ?_
                          refine S_iremK dL_law_318 (by decide) ?_
                          refine S_aload_n dL_law_319 rfl ?_
                          refine S_iload dL_law_320 rfl ?_
                          refine S_iconst dL_law_322 rfl ?_
                          refine S_callS_M2 dL_law_323 [.inr (.inr 0), .inl x74, .inl 5] (K_L_told x74 5 μ935) l_L_95 yo_L_told rfl rfl rfl (fun x938 μ939 => ?_)
                          refine S_callV_I dL_law_326 [.inl x74, .inl (μ935 62 (x74).toNat), .inl (x66.tmod 100), .inl x938] (K_X1_dares x74 (μ935 62 (x74).toNat) (x66.tmod 100) x938 μ939) l_L_99 yo_X1_dares rfl rfl rfl rfl rfl (fun x940 => ?_)
                          refine S_iload dL_law_329 rfl ?_
                          refine S_ic_eq (tgt := 336) dL_law_331 (by decide) (fun h942 => ?_) (fun h942 => ?_)
                          · refine S_iinc (lv' := fun x941 => [(20, .inl x941), (0, .inr (.inr 64)), (1, .inr (.inr 0)), (2, .inr (.inr 60)), (3, .inr (.inr 61)), (4, .inr (.inr 62)), (5, .inr (.inr 63)), (6, .inl x60), (7, .inr (.inl x61)), (9, .inl x62), (10, .inl x63), (11, .inl x65), (12, .inl x66), (13, .inl x67), (14, .inl x68), (15, .inl x69), (16, .inl x70), (17, .inl x930), (18, .inl x927), (19, .inl x929), (21, .inl x925)]) dL_law_336 rfl rfl rfl (fun _ => rfl) (fun x941 => ?_)
                            refine S_goto (tgt := 160) dL_law_339 (by decide) ?_
                            exact S_sub [1, 2, 3, 4, 5, 6, 7, 8, 9, 10, 11, 12, 13, 14, 15, 16, 17, 18, 19, 0] rfl (ih x930 x927 x929 x941 μ939)
                          · refine S_iconst dL_law_334 rfl ?_
                            exact S_zret dL_law_335 rfl (by decide) rfl
                      refine S_ic_ge (tgt := 298) dL_law_287 (by decide) (fun h944 => ?_) (fun h944 => ?_)
                      · refine S_iload dL_law_298 rfl ?_
                        refine S_iload dL_law_300 rfl ?_
                        refine S_isub dL_law_302 ?_
                        exact S_sub [2, 3, 4, 5, 6, 7, 8, 9, 10, 11, 12, 13, 14, 15, 16, 17, 1, 18, 19, 20, 21] rfl (hK937 (w32 (x932 - x67)))
                      · refine S_iload dL_law_290 rfl ?_
                        refine S_iload dL_law_292 rfl ?_
                        refine S_isub dL_law_294 ?_
                        refine S_goto (tgt := 303) dL_law_295 (by decide) ?_
                        exact S_sub [2, 3, 4, 5, 6, 7, 8, 9, 10, 11, 12, 13, 14, 15, 16, 17, 1, 18, 19, 20, 21] rfl (hK937 (w32 (x67 - x932)))
          refine S_ic_ne (tgt := 228) dL_law_220 (by decide) (fun h950 => ?_) (fun h950 => ?_)
          · refine S_iload dL_law_228 rfl ?_
            exact S_sub [2, 3, 4, 5, 6, 7, 8, 9, 10, 11, 12, 13, 14, 15, 16, 17, 1, 0, 19, 20] rfl (hK931 x71)
          · refine S_iload dL_law_223 rfl ?_
            refine S_goto (tgt := 230) dL_law_225 (by decide) ?_
            exact S_sub [2, 3, 4, 5, 6, 7, 8, 9, 10, 11, 12, 13, 14, 15, 16, 17, 1, 0, 19, 20] rfl (hK931 x74)
        refine S_ic_le (tgt := 200) dL_law_192 (by decide) (fun h951 => ?_) (fun h951 => ?_)
        · refine S_iload dL_law_200 rfl ?_
          exact S_sub [1, 2, 3, 4, 5, 6, 7, 8, 9, 10, 11, 12, 13, 14, 15, 16, 17, 19, 20, 0] rfl (hK928 x72)
        · refine S_iload dL_law_195 rfl ?_
          refine S_goto (tgt := 202) dL_law_197 (by decide) ?_
          exact S_sub [1, 2, 3, 4, 5, 6, 7, 8, 9, 10, 11, 12, 13, 14, 15, 16, 17, 19, 20, 0] rfl (hK928 x925)
  exact S_sub [10, 11, 12, 13, 14, 15, 16, 17, 18, 19, 9, 8, 7, 6, 5, 4, 3, 2, 1, 0] rfl (hL160 fuel (-9) 0 0 0 μ64)
def fL_law_L66 (σ : Scr) (x8 : Int) (x9 : Int) : Nat → Int → Mem → Option (Int × Mem)
  | 0, _, _ => none
  | n13 + 1, x11, μ12 =>
    if 3 ≤ x11 then
      fL_law_c2545 σ x8 x9 μ12
    else
      (fL_cell σ (w32 (7 + x11)) μ12).bind fun x56 =>
      (fL_cell σ (w32 (10 + x11)) μ12).bind fun x57 =>
      bnd2 (fL_stir x57 4 μ12) fun x58 μ59 =>
      if ¬ x58 = 0 then
        fL_law_c104 σ (fL_law_L66 σ x8 x9 n13) x8 x9 x11 x56 μ59
      else
        some (0, μ59)
def fL_law_c63 (σ : Scr) (x8 : Int) (x9 : Int) (μ10 : Mem) : Option (Int × Mem) :=
  fL_law_L66 σ x8 x9 fuel 0 μ10
theorem dL_law_63 : decode cL_law 63 = .ok (.iconst 0, 1) := by decide +kernel
theorem dL_law_64 : decode cL_law 64 = .ok (.istore 9, 2) := by decide +kernel
theorem dL_law_66 : decode cL_law 66 = .ok (.iload 9, 2) := by decide +kernel
theorem dL_law_68 : decode cL_law 68 = .ok (.iconst 3, 1) := by decide +kernel
theorem dL_law_69 : decode cL_law 69 = .ok (.if_icmp .ge 2476, 3) := by decide +kernel
theorem dL_law_72 : decode cL_law 72 = .ok (.aload_n 0, 1) := by decide +kernel
theorem dL_law_73 : decode cL_law 73 = .ok (.bipush 7, 2) := by decide +kernel
theorem dL_law_75 : decode cL_law 75 = .ok (.iload 9, 2) := by decide +kernel
theorem dL_law_77 : decode cL_law 77 = .ok (.iadd, 1) := by decide +kernel
theorem dL_law_78 : decode cL_law 78 = .ok (.invokestatic 9, 3) := by decide +kernel
theorem dL_law_81 : decode cL_law 81 = .ok (.istore 10, 2) := by decide +kernel
theorem dL_law_83 : decode cL_law 83 = .ok (.aload_n 1, 1) := by decide +kernel
theorem dL_law_84 : decode cL_law 84 = .ok (.aload_n 2, 1) := by decide +kernel
theorem dL_law_85 : decode cL_law 85 = .ok (.aload_n 3, 1) := by decide +kernel
theorem dL_law_86 : decode cL_law 86 = .ok (.aload_n 0, 1) := by decide +kernel
theorem dL_law_87 : decode cL_law 87 = .ok (.bipush 10, 2) := by decide +kernel
theorem dL_law_89 : decode cL_law 89 = .ok (.iload 9, 2) := by decide +kernel
theorem dL_law_91 : decode cL_law 91 = .ok (.iadd, 1) := by decide +kernel
theorem dL_law_92 : decode cL_law 92 = .ok (.invokestatic 9, 3) := by decide +kernel
theorem dL_law_95 : decode cL_law 95 = .ok (.iconst 4, 1) := by decide +kernel
theorem dL_law_96 : decode cL_law 96 = .ok (.invokestatic 88, 3) := by decide +kernel
theorem dL_law_99 : decode cL_law 99 = .ok (.ifCond .ne 5, 3) := by decide +kernel
theorem dL_law_102 : decode cL_law 102 = .ok (.iconst 0, 1) := by decide +kernel
theorem dL_law_103 : decode cL_law 103 = .ok (.ireturn, 1) := by decide +kernel
theorem KL_law_c63 {σ : Scr} (x8 : Int) (x9 : Int) (μ10 : Mem)  : Sim σ cL_law 60 RL (2000) (some .boolean) wI 63 [(0, .inr (.inr 64)), (1, .inr (.inr 0)), (2, .inr (.inr 60)), (3, .inr (.inr 61)), (4, .inr (.inr 62)), (5, .inr (.inr 63)), (6, .inl x8), (7, .inr (.inl x9))] [] μ10 (fL_law_c63 σ x8 x9 μ10) := by
  unfold fL_law_c63
  refine S_iconst dL_law_63 rfl ?_
  refine S_istore (lv' := [(9, .inl 0), (0, .inr (.inr 64)), (1, .inr (.inr 0)), (2, .inr (.inr 60)), (3, .inr (.inr 61)), (4, .inr (.inr 62)), (5, .inr (.inr 63)), (6, .inl x8), (7, .inr (.inl x9))]) dL_law_64 rfl rfl ?_
  have hL66 : ∀ (n13 : Nat) (x11 : Int) (μ12 : Mem), Sim σ cL_law 60 RL (2000) (some .boolean) wI 66 [(0, .inr (.inr 64)), (1, .inr (.inr 0)), (2, .inr (.inr 60)), (3, .inr (.inr 61)), (4, .inr (.inr 62)), (5, .inr (.inr 63)), (6, .inl x8), (7, .inr (.inl x9)), (9, .inl x11)] [] μ12 (fL_law_L66 σ x8 x9 n13 x11 μ12) := by
    intro n13
    induction n13 with
    | zero =>
      intro x11 μ12
      exact S_none rfl
    | succ n13 ih =>
      intro x11 μ12
      rw [fL_law_L66]
      refine S_iload dL_law_66 rfl ?_
      refine S_iconst dL_law_68 rfl ?_
      refine S_ic_ge (tgt := 2545) dL_law_69 (by decide) (fun h954 => ?_) (fun h954 => ?_)
      · exact S_sub [1, 6, 7] rfl (KL_law_c2545 x8 x9 μ12)
      · refine S_aload_n dL_law_72 rfl ?_
        refine S_bipush dL_law_73 rfl (by decide) ?_
        refine S_iload dL_law_75 rfl ?_
        refine S_iadd dL_law_77 ?_
        refine S_callS_I dL_law_78 [.inr (.inr 64), .inl (w32 (7 + x11))] (K_L_cell (w32 (7 + x11)) μ12) l_L_9 yo_L_cell rfl rfl rfl (fun x56 => ?_)
        refine S_istore (lv' := [(10, .inl x56), (0, .inr (.inr 64)), (1, .inr (.inr 0)), (2, .inr (.inr 60)), (3, .inr (.inr 61)), (4, .inr (.inr 62)), (5, .inr (.inr 63)), (6, .inl x8), (7, .inr (.inl x9)), (9, .inl x11)]) dL_law_81 rfl rfl ?_
        refine S_aload_n dL_law_83 rfl ?_
        refine S_aload_n dL_law_84 rfl ?_
        refine S_aload_n dL_law_85 rfl ?_
        refine S_aload_n dL_law_86 rfl ?_
        refine S_bipush dL_law_87 rfl (by decide) ?_
        refine S_iload dL_law_89 rfl ?_
        refine S_iadd dL_law_91 ?_
        refine S_callS_I dL_law_92 [.inr (.inr 64), .inl (w32 (10 + x11))] (K_L_cell (w32 (10 + x11)) μ12) l_L_9 yo_L_cell rfl rfl rfl (fun x57 => ?_)
        refine S_iconst dL_law_95 rfl ?_
        refine S_callS_M2 dL_law_96 [.inr (.inr 0), .inr (.inr 60), .inr (.inr 61), .inl x57, .inl 4] (K_L_stir x57 4 μ12) l_L_88 yo_L_stir rfl rfl rfl (fun x58 μ59 => ?_)
        refine S_if_ne (tgt := 104) dL_law_99 (by decide) (fun h953 => ?_) (fun h953 => ?_)
        · exact S_sub [1, 2, 3, 4, 5, 6, 7, 8, 9, 0] rfl (KL_law_c104 x8 x9 x11 x56 μ59 ih)
        · refine S_iconst dL_law_102 rfl ?_
          exact S_zret dL_law_103 rfl (by decide) rfl
  exact S_sub [1, 2, 3, 4, 5, 6, 7, 8, 0] rfl (hL66 fuel 0 μ10)
def fL_law_c42 (σ : Scr) (μ3 : Mem) : Option (Int × Mem) :=
  mlet ((μ3 60 0)) fun x4 =>
  (fX1_digest μ3).bind fun x5 =>
  bnd2 (fX1_keep 0 μ3) fun x6 μ7 =>
  if x6 = 0 then
    fL_law_c63 σ x4 x5 μ7
  else
    some (0, μ7)
theorem dL_law_42 : decode cL_law 42 = .ok (.aload_n 2, 1) := by decide +kernel
theorem dL_law_43 : decode cL_law 43 = .ok (.iconst 0, 1) := by decide +kernel
theorem dL_law_44 : decode cL_law 44 = .ok (.iaload, 1) := by decide +kernel
theorem dL_law_45 : decode cL_law 45 = .ok (.istore 6, 2) := by decide +kernel
theorem dL_law_47 : decode cL_law 47 = .ok (.aload_n 1, 1) := by decide +kernel
theorem dL_law_48 : decode cL_law 48 = .ok (.invokevirtual 81, 3) := by decide +kernel
theorem dL_law_51 : decode cL_law 51 = .ok (.lstore 7, 2) := by decide +kernel
theorem dL_law_53 : decode cL_law 53 = .ok (.aload_n 1, 1) := by decide +kernel
theorem dL_law_54 : decode cL_law 54 = .ok (.iconst 0, 1) := by decide +kernel
theorem dL_law_55 : decode cL_law 55 = .ok (.invokevirtual 85, 3) := by decide +kernel
theorem dL_law_58 : decode cL_law 58 = .ok (.ifCond .eq 5, 3) := by decide +kernel
theorem dL_law_61 : decode cL_law 61 = .ok (.iconst 0, 1) := by decide +kernel
theorem dL_law_62 : decode cL_law 62 = .ok (.ireturn, 1) := by decide +kernel
theorem KL_law_c42 {σ : Scr} (μ3 : Mem)  : Sim σ cL_law 60 RL (2000) (some .boolean) wI 42 [(0, .inr (.inr 64)), (1, .inr (.inr 0)), (2, .inr (.inr 60)), (3, .inr (.inr 61)), (4, .inr (.inr 62)), (5, .inr (.inr 63))] [] μ3 (fL_law_c42 σ μ3) := by
  unfold fL_law_c42
  refine S_aload_n dL_law_42 rfl ?_
  refine S_iconst dL_law_43 rfl ?_
  refine S_ialdK (k := 0) dL_law_44 rfl (by decide) (by decide) ?_
  refine S_let (fun x4 => ?_)
  refine S_istore (lv' := [(6, .inl x4), (0, .inr (.inr 64)), (1, .inr (.inr 0)), (2, .inr (.inr 60)), (3, .inr (.inr 61)), (4, .inr (.inr 62)), (5, .inr (.inr 63))]) dL_law_45 rfl rfl ?_
  refine S_aload_n dL_law_47 rfl ?_
  refine S_callV_L dL_law_48 [] (K_X1_digest μ3) l_L_81 yo_X1_digest rfl rfl rfl rfl rfl (fun x5 => ?_)
  refine S_lstore (lv' := [(7, .inr (.inl x5)), (6, .inl x4), (0, .inr (.inr 64)), (1, .inr (.inr 0)), (2, .inr (.inr 60)), (3, .inr (.inr 61)), (4, .inr (.inr 62)), (5, .inr (.inr 63))]) dL_law_51 rfl rfl ?_
  refine S_aload_n dL_law_53 rfl ?_
  refine S_iconst dL_law_54 rfl ?_
  refine S_callV_M2 dL_law_55 [.inl 0] (K_X1_keep 0 μ3) l_L_85 yo_X1_keep rfl rfl rfl rfl rfl (fun x6 μ7 => ?_)
  refine S_if_eq (tgt := 63) dL_law_58 (by decide) (fun h955 => ?_) (fun h955 => ?_)
  · exact S_sub [2, 3, 4, 5, 6, 7, 1, 0] rfl (KL_law_c63 x4 x5 μ7)
  · refine S_iconst dL_law_61 rfl ?_
    exact S_zret dL_law_62 rfl (by decide) rfl
def fL_law (σ : Scr) (μ : Mem) : Option (Int × Mem) :=
  bnd2 (fL_river σ μ) fun x1 μ2 =>
  if ¬ x1 = 0 then
    fL_law_c42 σ μ2
  else
    some (0, μ2)
theorem dL_law_30 : decode cL_law 30 = .ok (.aload_n 1, 1) := by decide +kernel
theorem dL_law_31 : decode cL_law 31 = .ok (.aload_n 0, 1) := by decide +kernel
theorem dL_law_32 : decode cL_law 32 = .ok (.aload_n 2, 1) := by decide +kernel
theorem dL_law_33 : decode cL_law 33 = .ok (.aload_n 3, 1) := by decide +kernel
theorem dL_law_34 : decode cL_law 34 = .ok (.invokestatic 78, 3) := by decide +kernel
theorem dL_law_37 : decode cL_law 37 = .ok (.ifCond .ne 5, 3) := by decide +kernel
theorem dL_law_40 : decode cL_law 40 = .ok (.iconst 0, 1) := by decide +kernel
theorem dL_law_41 : decode cL_law 41 = .ok (.ireturn, 1) := by decide +kernel
theorem S_law {σ : Scr} (μ : Mem) : Sim σ cL_law 60 RL (2000) (some .boolean) wI 30 [(0, .inr (.inr 64)), (1, .inr (.inr 0)), (2, .inr (.inr 60)), (3, .inr (.inr 61)), (4, .inr (.inr 62)), (5, .inr (.inr 63))] [] μ (fL_law σ μ) := by
  unfold fL_law
  refine S_aload_n dL_law_30 rfl ?_
  refine S_aload_n dL_law_31 rfl ?_
  refine S_aload_n dL_law_32 rfl ?_
  refine S_aload_n dL_law_33 rfl ?_
  refine S_callS_M2 dL_law_34 [.inr (.inr 0), .inr (.inr 64), .inr (.inr 60), .inr (.inr 61)] (K_L_river μ) l_L_78 yo_L_river rfl rfl rfl (fun x1 μ2 => ?_)
  refine S_if_ne (tgt := 42) dL_law_37 (by decide) (fun h956 => ?_) (fun h956 => ?_)
  · exact S_sub [0, 1, 2, 3, 4, 5] rfl (KL_law_c42 μ2)
  · refine S_iconst dL_law_40 rfl ?_
    exact S_zret dL_law_41 rfl (by decide) rfl
