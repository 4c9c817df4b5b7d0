def fL_law_c1840 (σ : Scr) (self66 : Int → Mem → Option (Int × Mem)) (x449 : Int) (x450 : Int) (x451 : Int) (x452 : Int) (x453 : Int) (x454 : Int) (x455 : Int) (x456 : Int) (x457 : Int) (x458 : Int) (x459 : Int) (x460 : Int) (x461 : Int) (x462 : Int) (x463 : Int) (x464 : Int) (x465 : Int) (μ466 : Mem) : Option (Int × Mem) :=
  if (lcmpZ x461 0) < 0 then
    some (0, μ466)
  else
    if 0 < (lcmpZ x461 (bshl 1 x449)) then
      some (0, μ466)
    else
      mlet (fun (x467 : Int) =>
        mlet (fun (x469 : Int) =>
          if ¬ x467 = x469 then
            some (0, μ466)
          else
            mlet (
              bnd2 (fX1_sets 0 μ466) fun x472 μ473 =>
              if ¬ x472 = 1 then
                some (0, μ473)
              else
                (fX1_asked μ473).bind fun x474 =>
                if ¬ x474 = 0 then
                  some (0, μ473)
                else
                  (fX1_upper μ473).bind fun x475 =>
                  if (lcmpZ x475 1) < 0 then
                    some (0, μ473)
                  else
                    bnd2 (fX1_sets x456 μ473) fun x476 μ477 =>
                    if ¬ x476 = 1 then
                      some (0, μ477)
                    else
                      (fX1_upper μ477).bind fun x478 =>
                      if 0 ≤ (lcmpZ x478 1) then
                        fL_law_c1977 σ self66 x449 x450 x451 x452 x453 x454 x455 x456 x457 x458 x459 μ477
                      else
                        some (0, μ477)
              : Option (Int × Mem)) fun (K471 : Option (Int × Mem)) =>
            if (lcmpZ x461 0) ≤ 0 then
              K471
            else
              if ¬ x465 = x460 then
                some (0, μ466)
              else
                if ¬ (band x463 (bxor x462 (-1))) = 0 then
                  some (0, μ466)
                else
                  if ¬ (band x464 x462) = 0 then
                    some (0, μ466)
                  else
                    if ¬ (lcmpZ x461 1) = 0 then
                      K471
                    else
                      if ¬ x463 = x462 then
                        some (0, μ466)
                      else
                        K471
          ) fun (K470 : Int → Option (Int × Mem)) =>
        if ¬ x463 = (-3) then
          K470 0
        else
          K470 1
        ) fun (K468 : Int → Option (Int × Mem)) =>
      if ¬ (lcmpZ x461 0) = 0 then
        K468 0
      else
        K468 1
theorem dL_law_1840 : decode cL_law 1840 = .ok (.lload 42, 2) := by decide +kernel
theorem dL_law_1842 : decode cL_law 1842 = .ok (.lconst 0, 1) := by decide +kernel
theorem dL_law_1843 : decode cL_law 1843 = .ok (.lcmp, 1) := by decide +kernel
theorem dL_law_1844 : decode cL_law 1844 = .ok (.ifCond .lt 131, 3) := by decide +kernel
theorem dL_law_1847 : decode cL_law 1847 = .ok (.lload 42, 2) := by decide +kernel
theorem dL_law_1849 : decode cL_law 1849 = .ok (.iconst 1, 1) := by decide +kernel
theorem dL_law_1850 : decode cL_law 1850 = .ok (.iload 6, 2) := by decide +kernel
theorem dL_law_1852 : decode cL_law 1852 = .ok (.ishl, 1) := by decide +kernel
theorem dL_law_1853 : decode cL_law 1853 = .ok (.i2l, 1) := by decide +kernel
theorem dL_law_1854 : decode cL_law 1854 = .ok (.lcmp, 1) := by decide +kernel
theorem dL_law_1855 : decode cL_law 1855 = .ok (.ifCond .gt 120, 3) := by decide +kernel
theorem dL_law_1858 : decode cL_law 1858 = .ok (.lload 42, 2) := by decide +kernel
theorem dL_law_1860 : decode cL_law 1860 = .ok (.lconst 0, 1) := by decide +kernel
theorem dL_law_1861 : decode cL_law 1861 = .ok (.lcmp, 1) := by decide +kernel
theorem dL_law_1862 : decode cL_law 1862 = .ok (.ifCond .ne 7, 3) := by decide +kernel
theorem dL_law_1865 : decode cL_law 1865 = .ok (.iconst 1, 1) := by decide +kernel
theorem dL_law_1866 : decode cL_law 1866 = .ok (.goto 4, 3) := by decide +kernel
theorem dL_law_1869 : decode cL_law 1869 = .ok (.iconst 0, 1) := by decide +kernel
theorem dL_law_1870 : decode cL_law 1870 = .ok (.iload 45, 2) := by decide +kernel
theorem dL_law_1872 : decode cL_law 1872 = .ok (.bipush (-3), 2) := by decide +kernel
theorem dL_law_1874 : decode cL_law 1874 = .ok (.if_icmp .ne 7, 3) := by decide +kernel
theorem dL_law_1877 : decode cL_law 1877 = .ok (.iconst 1, 1) := by decide +kernel
theorem dL_law_1878 : decode cL_law 1878 = .ok (.goto 4, 3) := by decide +kernel
theorem dL_law_1881 : decode cL_law 1881 = .ok (.iconst 0, 1) := by decide +kernel
theorem dL_law_1882 : decode cL_law 1882 = .ok (.if_icmp .ne 93, 3) := by decide +kernel
theorem dL_law_1885 : decode cL_law 1885 = .ok (.lload 42, 2) := by decide +kernel
theorem dL_law_1887 : decode cL_law 1887 = .ok (.lconst 0, 1) := by decide +kernel
theorem dL_law_1888 : decode cL_law 1888 = .ok (.lcmp, 1) := by decide +kernel
theorem dL_law_1889 : decode cL_law 1889 = .ok (.ifCond .le 42, 3) := by decide +kernel
theorem dL_law_1892 : decode cL_law 1892 = .ok (.iload 47, 2) := by decide +kernel
theorem dL_law_1894 : decode cL_law 1894 = .ok (.iload 41, 2) := by decide +kernel
theorem dL_law_1896 : decode cL_law 1896 = .ok (.if_icmp .ne 79, 3) := by decide +kernel
theorem dL_law_1899 : decode cL_law 1899 = .ok (.iload 45, 2) := by decide +kernel
theorem dL_law_1901 : decode cL_law 1901 = .ok (.iload 44, 2) := by decide +kernel
theorem dL_law_1903 : decode cL_law 1903 = .ok (.iconst (-1), 1) := by decide +kernel
theorem dL_law_1904 : decode cL_law 1904 = .ok (.ixor, 1) := by decide +kernel
theorem dL_law_1905 : decode cL_law 1905 = .ok (.iand, 1) := by decide +kernel
theorem dL_law_1906 : decode cL_law 1906 = .ok (.ifCond .ne 69, 3) := by decide +kernel
theorem dL_law_1909 : decode cL_law 1909 = .ok (.iload 46, 2) := by decide +kernel
theorem dL_law_1911 : decode cL_law 1911 = .ok (.iload 44, 2) := by decide +kernel
theorem dL_law_1913 : decode cL_law 1913 = .ok (.iand, 1) := by decide +kernel
theorem dL_law_1914 : decode cL_law 1914 = .ok (.ifCond .ne 61, 3) := by decide +kernel
theorem dL_law_1917 : decode cL_law 1917 = .ok (.lload 42, 2) := by decide +kernel
theorem dL_law_1919 : decode cL_law 1919 = .ok (.lconst 1, 1) := by decide +kernel
theorem dL_law_1920 : decode cL_law 1920 = .ok (.lcmp, 1) := by decide +kernel
theorem dL_law_1921 : decode cL_law 1921 = .ok (.ifCond .ne 10, 3) := by decide +kernel
theorem dL_law_1924 : decode cL_law 1924 = .ok (.iload 45, 2) := by decide +kernel
theorem dL_law_1926 : decode cL_law 1926 = .ok (.iload 44, 2) := by decide +kernel
theorem dL_law_1928 : decode cL_law 1928 = .ok (.if_icmp .ne 47, 3) := by decide +kernel
theorem dL_law_1931 : decode cL_law 1931 = .ok (.aload_n 1, 1) := by decide +kernel
theorem dL_law_1932 : decode cL_law 1932 = .ok (.iconst 0, 1) := by decide +kernel
theorem dL_law_1933 : decode cL_law 1933 = .ok (.invokevirtual 139, 3) := by decide +kernel
theorem dL_law_1936 : decode cL_law 1936 = .ok (.iconst 1, 1) := by decide +kernel
theorem dL_law_1937 : decode cL_law 1937 = .ok (.if_icmp .ne 38, 3) := by decide +kernel
theorem dL_law_1940 : decode cL_law 1940 = .ok (.aload_n 1, 1) := by decide +kernel
theorem dL_law_1941 : decode cL_law 1941 = .ok (.invokevirtual 74, 3) := by decide +kernel
theorem dL_law_1944 : decode cL_law 1944 = .ok (.ifCond .ne 31, 3) := by decide +kernel
theorem dL_law_1947 : decode cL_law 1947 = .ok (.aload_n 1, 1) := by decide +kernel
theorem dL_law_1948 : decode cL_law 1948 = .ok (.invokevirtual 142, 3) := by decide +kernel
theorem dL_law_1951 : decode cL_law 1951 = .ok (.lconst 1, 1) := by decide +kernel
theorem dL_law_1952 : decode cL_law 1952 = .ok (.lcmp, 1) := by decide +kernel
theorem dL_law_1953 : decode cL_law 1953 = .ok (.ifCond .lt 22, 3) := by decide +kernel
theorem dL_law_1956 : decode cL_law 1956 = .ok (.aload_n 1, 1) := by decide +kernel
theorem dL_law_1957 : decode cL_law 1957 = .ok (.iload 14, 2) := by decide +kernel
theorem dL_law_1959 : decode cL_law 1959 = .ok (.invokevirtual 139, 3) := by decide +kernel
theorem dL_law_1962 : decode cL_law 1962 = .ok (.iconst 1, 1) := by decide +kernel
theorem dL_law_1963 : decode cL_law 1963 = .ok (.if_icmp .ne 12, 3) := by decide +kernel
theorem dL_law_1966 : decode cL_law 1966 = .ok (.aload_n 1, 1) := by decide +kernel
theorem dL_law_1967 : decode cL_law 1967 = .ok (.invokevirtual 142, 3) := by decide +kernel
theorem dL_law_1970 : decode cL_law 1970 = .ok (.lconst 1, 1) := by decide +kernel
theorem dL_law_1971 : decode cL_law 1971 = .ok (.lcmp, 1) := by decide +kernel
theorem dL_law_1972 : decode cL_law 1972 = .ok (.ifCond .ge 5, 3) := by decide +kernel
theorem dL_law_1975 : decode cL_law 1975 = .ok (.iconst 0, 1) := by decide +kernel
theorem dL_law_1976 : decode cL_law 1976 = .ok (.ireturn, 1) := by decide +kernel
theorem KL_law_c1840 {σ : Scr} {self66 : Int → Mem → Option (Int × Mem)} (x449 : Int) (x450 : Int) (x451 : Int) (x452 : Int) (x453 : Int) (x454 : Int) (x455 : Int) (x456 : Int) (x457 : Int) (x458 : Int) (x459 : Int) (x460 : Int) (x461 : Int) (x462 : Int) (x463 : Int) (x464 : Int) (x465 : Int) (μ466 : Mem) (hself66 : ∀ (x11 : Int) (μ12 : Mem), Sim σ cL_law 60 RL (2000) (some .boolean) wI 66 [(0, .inr (.inr 64)), (1, .inr (.inr 0)), (2, .inr (.inr 60)), (3, .inr (.inr 61)), (4, .inr (.inr 62)), (5, .inr (.inr 63)), (6, .inl x449), (7, .inr (.inl x450)), (9, .inl x11)] [] μ12 (self66 x11 μ12)) : Sim σ cL_law 60 RL (2000) (some .boolean) wI 1840 [(0, .inr (.inr 64)), (1, .inr (.inr 0)), (2, .inr (.inr 60)), (3, .inr (.inr 61)), (4, .inr (.inr 62)), (5, .inr (.inr 63)), (6, .inl x449), (7, .inr (.inl x450)), (9, .inl x451), (10, .inl x452), (11, .inl x453), (12, .inl x454), (13, .inl x455), (14, .inl x456), (15, .inl x457), (17, .inl x458), (24, .inl x459), (41, .inl x460), (42, .inr (.inl x461)), (44, .inl x462), (45, .inl x463), (46, .inl x464), (47, .inl x465)] [] μ466 (fL_law_c1840 σ self66 x449 x450 x451 x452 x453 x454 x455 x456 x457 x458 x459 x460 x461 x462 x463 x464 x465 μ466) := by
  unfold fL_law_c1840
  refine S_lload dL_law_1840 rfl ?_
  refine S_lconst (n := 0) dL_law_1842 (by decide) rfl ?_
  refine S_lcmp dL_law_1843 ?_
  refine S_if_lt (tgt := 1975) dL_law_1844 (by decide) (fun h698 => ?_) (fun h698 => ?_)
  · refine S_iconst dL_law_1975 rfl ?_
    exact S_zret dL_law_1976 rfl (by decide) rfl
  · refine S_lload dL_law_1847 rfl ?_
    refine S_iconst dL_law_1849 rfl ?_
    refine S_iload dL_law_1850 rfl ?_
    refine S_ishl dL_law_1852 ?_
    refine S_i2l dL_law_1853 ?_
    refine S_lcmp dL_law_1854 ?_
    refine S_if_gt (tgt := 1975) dL_law_1855 (by decide) (fun h697 => ?_) (fun h697 => ?_)
    · refine S_iconst dL_law_1975 rfl ?_
      exact S_zret dL_law_1976 rfl (by decide) rfl
    · refine S_lload dL_law_1858 rfl ?_
      refine S_lconst (n := 0) dL_law_1860 (by decide) rfl ?_
      refine S_lcmp dL_law_1861 ?_
      refine S_jn (fun (K468 : Int → Option (Int × Mem)) => ∀ (x467 : Int), Sim σ cL_law 60 RL (2000) (some .boolean) wI 1870 [(0, .inr (.inr 64)), (1, .inr (.inr 0)), (2, .inr (.inr 60)), (3, .inr (.inr 61)), (4, .inr (.inr 62)), (5, .inr (.inr 63)), (6, .inl x449), (7, .inr (.inl x450)), (9, .inl x451), (10, .inl x452), (11, .inl x453), (12, .inl x454), (13, .inl x455), (14, .inl x456), (15, .inl x457), (17, .inl x458), (24, .inl x459), (41, .inl x460), (42, .inr (.inl x461)), (44, .inl x462), (45, .inl x463), (46, .inl x464), (47, .inl x465)] [.inl x467] μ466 (K468 x467)) ?_ (fun K468 hK468 => ?_)
      · intro x467
        refine S_iload dL_law_1870 rfl ?_
        refine S_bipush dL_law_1872 rfl (by decide) ?_
        refine S_jn (fun (K470 : Int → Option (Int × Mem)) => ∀ (x469 : Int), Sim σ cL_law 60 RL (2000) (some .boolean) wI 1882 [(0, .inr (.inr 64)), (1, .inr (.inr 0)), (2, .inr (.inr 60)), (3, .inr (.inr 61)), (4, .inr (.inr 62)), (5, .inr (.inr 63)), (6, .inl x449), (7, .inr (.inl x450)), (9, .inl x451), (10, .inl x452), (11, .inl x453), (12, .inl x454), (13, .inl x455), (14, .inl x456), (15, .inl x457), (17, .inl x458), (24, .inl x459), (41, .inl x460), (42, .inr (.inl x461)), (44, .inl x462), (45, .inl x463), (46, .inl x464), (47, .inl x465)] [.inl x469, .inl x467] μ466 (K470 x469)) ?_ (fun K470 hK470 => ?_)
        · intro x469
          refine S_ic_ne (tgt := 1975) dL_law_1882 (by decide) (fun h694 => ?_) (fun h694 => ?_)
          · refine S_iconst dL_law_1975 rfl ?_
            exact S_zret dL_law_1976 rfl (by decide) rfl
          · refine S_lload dL_law_1885 rfl ?_
            refine S_lconst (n := 0) dL_law_1887 (by decide) rfl ?_
            refine S_lcmp dL_law_1888 ?_
            refine S_jn (fun (K471 : Option (Int × Mem)) => Sim σ cL_law 60 RL (2000) (some .boolean) wI 1931 [(0, .inr (.inr 64)), (1, .inr (.inr 0)), (2, .inr (.inr 60)), (3, .inr (.inr 61)), (4, .inr (.inr 62)), (5, .inr (.inr 63)), (6, .inl x449), (7, .inr (.inl x450)), (9, .inl x451), (10, .inl x452), (11, .inl x453), (12, .inl x454), (13, .inl x455), (14, .inl x456), (15, .inl x457), (17, .inl x458), (24, .inl x459)] [] μ466 K471) ?_ (fun K471 hK471 => ?_)
            · skip
              refine S_aload_n dL_law_1931 rfl ?_
              refine S_iconst dL_law_1932 rfl ?_
              refine S_callV_M2 dL_law_1933 [.inl 0] (K_X1_sets 0 μ466) l_L_139 yo_X1_sets rfl rfl rfl rfl rfl (fun x472 μ473 => ?_)
              refine S_iconst dL_law_1936 rfl ?_
              refine S_ic_ne (tgt := 1975) dL_law_1937 (by decide) (fun h687 => ?_) (fun h687 => ?_)
              · refine S_iconst dL_law_1975 rfl ?_
                exact S_zret dL_law_1976 rfl (by decide) rfl
              · refine S_aload_n dL_law_1940 rfl ?_
                refine S_callV_I dL_law_1941 [] (K_X1_asked μ473) l_L_74 yo_X1_asked rfl rfl rfl rfl rfl (fun x474 => ?_)
                refine S_if_ne (tgt := 1975) dL_law_1944 (by decide) (fun h686 => ?_) (fun h686 => ?_)
                · refine S_iconst dL_law_1975 rfl ?_
                  exact S_zret dL_law_1976 rfl (by decide) rfl
                · refine S_aload_n dL_law_1947 rfl ?_
                  refine S_callV_L dL_law_1948 [] (K_X1_upper μ473) l_L_142 yo_X1_upper rfl rfl rfl rfl rfl (fun x475 => ?_)
                  refine S_lconst (n := 1) dL_law_1951 (by decide) rfl ?_
                  refine S_lcmp dL_law_1952 ?_
                  refine S_if_lt (tgt := 1975) dL_law_1953 (by decide) (fun h685 => ?_) (fun h685 => ?_)
                  · refine S_iconst dL_law_1975 rfl ?_
                    exact S_zret dL_law_1976 rfl (by decide) rfl
                  · refine S_aload_n dL_law_1956 rfl ?_
                    refine S_iload dL_law_1957 rfl ?_
                    refine S_callV_M2 dL_law_1959 [.inl x456] (K_X1_sets x456 μ473) l_L_139 yo_X1_sets rfl rfl rfl rfl rfl (fun x476 μ477 => ?_)
                    refine S_iconst dL_law_1962 rfl ?_
                    refine S_ic_ne (tgt := 1975) dL_law_1963 (by decide) (fun h684 => ?_) (fun h684 => ?_)
                    · refine S_iconst dL_law_1975 rfl ?_
                      exact S_zret dL_law_1976 rfl (by decide) rfl
                    · refine S_aload_n dL_law_1966 rfl ?_
                      refine S_callV_L dL_law_1967 [] (K_X1_upper μ477) l_L_142 yo_X1_upper rfl rfl rfl rfl rfl (fun x478 => ?_)
                      refine S_lconst (n := 1) dL_law_1970 (by decide) rfl ?_
                      refine S_lcmp dL_law_1971 ?_
                      refine S_if_ge (tgt := 1977) dL_law_1972 (by decide) (fun h683 => ?_) (fun h683 => ?_)
                      · exact S_sub [0, 1, 2, 3, 4, 5, 6, 7, 8, 9, 10, 11, 12, 13, 14, 15, 16] rfl (KL_law_c1977 x449 x450 x451 x452 x453 x454 x455 x456 x457 x458 x459 μ477 hself66)
                      · refine S_iconst dL_law_1975 rfl ?_
                        exact S_zret dL_law_1976 rfl (by decide) rfl
            refine S_if_le (tgt := 1931) dL_law_1889 (by decide) (fun h693 => ?_) (fun h693 => ?_)
            · exact S_sub [0, 1, 2, 3, 4, 5, 6, 7, 8, 9, 10, 11, 12, 13, 14, 15, 16] rfl (hK471)
            · refine S_iload dL_law_1892 rfl ?_
              refine S_iload dL_law_1894 rfl ?_
              refine S_ic_ne (tgt := 1975) dL_law_1896 (by decide) (fun h692 => ?_) (fun h692 => ?_)
              · refine S_iconst dL_law_1975 rfl ?_
                exact S_zret dL_law_1976 rfl (by decide) rfl
              · refine S_iload dL_law_1899 rfl ?_
                refine S_iload dL_law_1901 rfl ?_
                refine S_iconst dL_law_1903 rfl ?_
                refine S_ixor dL_law_1904 ?_
                refine S_iand dL_law_1905 ?_
                refine S_if_ne (tgt := 1975) dL_law_1906 (by decide) (fun h691 => ?_) (fun h691 => ?_)
                · refine S_iconst dL_law_1975 rfl ?_
                  exact S_zret dL_law_1976 rfl (by decide) rfl
                · refine S_iload dL_law_1909 rfl ?_
                  refine S_iload dL_law_1911 rfl ?_
                  refine S_iand dL_law_1913 ?_
                  refine S_if_ne (tgt := 1975) dL_law_1914 (by decide) (fun h690 => ?_) (fun h690 => ?_)
                  · refine S_iconst dL_law_1975 rfl ?_
                    exact S_zret dL_law_1976 rfl (by decide) rfl
                  · refine S_lload dL_law_1917 rfl ?_
                    refine S_lconst (n := 1) dL_law_1919 (by decide) rfl ?_
                    refine S_lcmp dL_law_1920 ?_
                    refine S_if_ne (tgt := 1931) dL_law_1921 (by decide) (fun h689 => ?_) (fun h689 => ?_)
                    · exact S_sub [0, 1, 2, 3, 4, 5, 6, 7, 8, 9, 10, 11, 12, 13, 14, 15, 16] rfl (hK471)
                    · refine S_iload dL_law_1924 rfl ?_
                      refine S_iload dL_law_1926 rfl ?_
                      refine S_ic_ne (tgt := 1975) dL_law_1928 (by decide) (fun h688 => ?_) (fun h688 => ?_)
                      · refine S_iconst dL_law_1975 rfl ?_
                        exact S_zret dL_law_1976 rfl (by decide) rfl
                      · exact S_sub [0, 1, 2, 3, 4, 5, 6, 7, 8, 9, 10, 11, 12, 13, 14, 15, 16] rfl (hK471)
        refine S_ic_ne (tgt := 1881) dL_law_1874 (by decide) (fun h695 => ?_) (fun h695 => ?_)
        · refine S_iconst dL_law_1881 rfl ?_
          exact S_sub [0, 1, 2, 3, 4, 5, 6, 7, 8, 9, 10, 11, 12, 13, 14, 15, 16, 17, 18, 19, 20, 21, 22] rfl (hK470 0)
        · refine S_iconst dL_law_1877 rfl ?_
          refine S_goto (tgt := 1882) dL_law_1878 (by decide) ?_
          exact S_sub [0, 1, 2, 3, 4, 5, 6, 7, 8, 9, 10, 11, 12, 13, 14, 15, 16, 17, 18, 19, 20, 21, 22] rfl (hK470 1)
      refine S_if_ne (tgt := 1869) dL_law_1862 (by decide) (fun h696 => ?_) (fun h696 => ?_)
      · refine S_iconst dL_law_1869 rfl ?_
        exact S_sub [0, 1, 2, 3, 4, 5, 6, 7, 8, 9, 10, 11, 12, 13, 14, 15, 16, 17, 18, 19, 20, 21, 22] rfl (hK468 0)
      · refine S_iconst dL_law_1865 rfl ?_
        refine S_goto (tgt := 1870) dL_law_1866 (by decide) ?_
        exact S_sub [0, 1, 2, 3, 4, 5, 6, 7, 8, 9, 10, 11, 12, 13, 14, 15, 16, 17, 18, 19, 20, 21, 22] rfl (hK468 1)
def fL_law_L1795 (x428 : Int) (σ : Scr) (self66 : Int → Mem → Option (Int × Mem)) (x429 : Int) (x430 : Int) (x431 : Int) (x432 : Int) (x433 : Int) (x434 : Int) (x435 : Int) (x436 : Int) (x437 : Int) (x438 : Int) (x439 : Int) (x441 : Int) (x442 : Int) (x443 : Int) (x445 : Int) (μ444 : Mem) : Nat → Int → Int → Option (Int × Mem)
  | 0, _, _ => none
  | n448 + 1, x446, x447 =>
    if x428 ≤ x447 then
      fL_law_c1840 σ self66 x428 x429 x430 x431 x432 x433 x434 x435 x436 x437 x438 x439 x441 x442 x443 x445 x446 μ444
    else
      if (lcmpZ x441 0) ≤ 0 then
        fL_law_c1840 σ self66 x428 x429 x430 x431 x432 x433 x434 x435 x436 x437 x438 x439 x441 x442 x443 x445 x446 μ444
      else
        mlet (fun (x699 : Int) =>
          mlet ((w32 (x446 + x699))) fun x701 =>
          mlet (w32 (x447 + 1)) fun x702 =>
          fL_law_L1795 x428 σ self66 x429 x430 x431 x432 x433 x434 x435 x436 x437 x438 x439 x441 x442 x443 x445 μ444 n448 x701 x702
          ) fun (K700 : Int → Option (Int × Mem)) =>
        if ¬ (band (bshr x442 x447) 1) = 1 then
          K700 0
        else
          grd (0 ≤ x447 ∧ x447 < 6) <|
          K700 (μ444 62 (x447).toNat)
def fL_law_c1763 (σ : Scr) (self66 : Int → Mem → Option (Int × Mem)) (x428 : Int) (x429 : Int) (x430 : Int) (x431 : Int) (x432 : Int) (x433 : Int) (x434 : Int) (x435 : Int) (x436 : Int) (x437 : Int) (x438 : Int) (x439 : Int) (μ440 : Mem) : Option (Int × Mem) :=
  (fX1_upper μ440).bind fun x441 =>
  (fX1_asked μ440).bind fun x442 =>
  bnd2 (fX1_sure x439 μ440) fun x443 μ444 =>
  (fX1_asked μ444).bind fun x445 =>
  fL_law_L1795 x428 σ self66 x429 x430 x431 x432 x433 x434 x435 x436 x437 x438 x439 x441 x442 x443 x445 μ444 fuel 0 0
theorem dL_law_1763 : decode cL_law 1763 = .ok (.aload_n 1, 1) := by decide +kernel
theorem dL_law_1764 : decode cL_law 1764 = .ok (.invokevirtual 142, 3) := by decide +kernel
theorem dL_law_1767 : decode cL_law 1767 = .ok (.lstore 42, 2) := by decide +kernel
theorem dL_law_1769 : decode cL_law 1769 = .ok (.aload_n 1, 1) := by decide +kernel
theorem dL_law_1770 : decode cL_law 1770 = .ok (.invokevirtual 74, 3) := by decide +kernel
theorem dL_law_1773 : decode cL_law 1773 = .ok (.istore 44, 2) := by decide +kernel
theorem dL_law_1775 : decode cL_law 1775 = .ok (.aload_n 1, 1) := by decide +kernel
theorem dL_law_1776 : decode cL_law 1776 = .ok (.iload 41, 2) := by decide +kernel
theorem dL_law_1778 : decode cL_law 1778 = .ok (.invokevirtual 145, 3) := by decide +kernel
theorem dL_law_1781 : decode cL_law 1781 = .ok (.istore 45, 2) := by decide +kernel
theorem dL_law_1783 : decode cL_law 1783 = .ok (.aload_n 1, 1) := by decide +kernel
theorem dL_law_1784 : decode cL_law 1784 = .ok (.invokevirtual 74, 3) := by decide +kernel
theorem dL_law_1787 : decode cL_law 1787 = .ok (.istore 46, 2) := by decide +kernel
theorem dL_law_1789 : decode cL_law 1789 = .ok (.iconst 0, 1) := by decide +kernel
theorem dL_law_1790 : decode cL_law 1790 = .ok (.istore 47, 2) := by decide +kernel
theorem dL_law_1792 : decode cL_law 1792 = .ok (.iconst 0, 1) := by decide +kernel
theorem dL_law_1793 : decode cL_law 1793 = .ok (.istore 48, 2) := by decide +kernel
theorem dL_law_1795 : decode cL_law 1795 = .ok (.iload 48, 2) := by decide +kernel
theorem dL_law_1797 : decode cL_law 1797 = .ok (.iload 6, 2) := by decide +kernel
theorem dL_law_1799 : decode cL_law 1799 = .ok (.if_icmp .ge 41, 3) := by decide +kernel
theorem dL_law_1802 : decode cL_law 1802 = .ok (.lload 42, 2) := by decide +kernel
theorem dL_law_1804 : decode cL_law 1804 = .ok (.lconst 0, 1) := by decide +kernel
theorem dL_law_1805 : decode cL_law 1805 = .ok (.lcmp, 1) := by decide +kernel
theorem dL_law_1806 : decode cL_law 1806 = .ok (.ifCond .le 34, 3) := by decide +kernel
theorem dL_law_1809 : decode cL_law 1809 = .ok (.iload 47, 2) := by decide +kernel
theorem dL_law_1811 : decode cL_law 1811 = .ok (.iload 44, 2) := by decide +kernel
theorem dL_law_1813 : decode cL_law 1813 = .ok (.iload 48, 2) := by decide +kernel
theorem dL_law_1815 : decode cL_law 1815 = .ok (.ishr, 1) := by decide +kernel
theorem dL_law_1816 : decode cL_law 1816 = .ok (.iconst 1, 1) := by decide +kernel
theorem dL_law_1817 : decode cL_law 1817 = .ok (.iand, 1) := by decide +kernel
theorem dL_law_1818 : decode cL_law 1818 = .ok (.iconst 1, 1) := by decide +kernel
theorem dL_law_1819 : decode cL_law 1819 = .ok (.if_icmp .ne 11, 3) := by decide +kernel
theorem dL_law_1822 : decode cL_law 1822 = .ok (.aload 4, 2) := by decide +kernel
theorem dL_law_1824 : decode cL_law 1824 = .ok (.iload 48, 2) := by decide +kernel
theorem dL_law_1826 : decode cL_law 1826 = .ok (.iaload, 1) := by decide +kernel
theorem dL_law_1827 : decode cL_law 1827 = .ok (.goto 4, 3) := by decide +kernel
theorem dL_law_1830 : decode cL_law 1830 = .ok (.iconst 0, 1) := by decide +kernel
theorem dL_law_1831 : decode cL_law 1831 = .ok (.iadd, 1) := by decide +kernel
theorem dL_law_1832 : decode cL_law 1832 = .ok (.istore 47, 2) := by decide +kernel
theorem dL_law_1834 : decode cL_law 1834 = .ok (.iinc 48 1, 3) := by decide +kernel
theorem dL_law_1837 : decode cL_law 1837 = .ok (.goto (-42), 3) := by decide +kernel
theorem KL_law_c1763 {σ : Scr} {self66 : Int → Mem → Option (Int × Mem)} (x428 : Int) (x429 : Int) (x430 : Int) (x431 : Int) (x432 : Int) (x433 : Int) (x434 : Int) (x435 : Int) (x436 : Int) (x437 : Int) (x438 : Int) (x439 : Int) (μ440 : Mem) (hself66 : ∀ (x11 : Int) (μ12 : Mem), Sim σ cL_law 60 RL (2000) (some .boolean) wI 66 [(0, .inr (.inr 64)), (1, .inr (.inr 0)), (2, .inr (.inr 60)), (3, .inr (.inr 61)), (4, .inr (.inr 62)), (5, .inr (.inr 63)), (6, .inl x428), (7, .inr (.inl x429)), (9, .inl x11)] [] μ12 (self66 x11 μ12)) : Sim σ cL_law 60 RL (2000) (some .boolean) wI 1763 [(0, .inr (.inr 64)), (1, .inr (.inr 0)), (2, .inr (.inr 60)), (3, .inr (.inr 61)), (4, .inr (.inr 62)), (5, .inr (.inr 63)), (6, .inl x428), (7, .inr (.inl x429)), (9, .inl x430), (10, .inl x431), (11, .inl x432), (12, .inl x433), (13, .inl x434), (14, .inl x435), (15, .inl x436), (17, .inl x437), (24, .inl x438), (41, .inl x439)] [] μ440 (fL_law_c1763 σ self66 x428 x429 x430 x431 x432 x433 x434 x435 x436 x437 x438 x439 μ440) := by
  unfold fL_law_c1763
  refine S_aload_n dL_law_1763 rfl ?_
  refine S_callV_L dL_law_1764 [] (K_X1_upper μ440) l_L_142 yo_X1_upper rfl rfl rfl rfl rfl (fun x441 => ?_)
  refine S_lstore (lv' := [(42, .inr (.inl x441)), (0, .inr (.inr 64)), (1, .inr (.inr 0)), (2, .inr (.inr 60)), (3, .inr (.inr 61)), (4, .inr (.inr 62)), (5, .inr (.inr 63)), (6, .inl x428), (7, .inr (.inl x429)), (9, .inl x430), (10, .inl x431), (11, .inl x432), (12, .inl x433), (13, .inl x434), (14, .inl x435), (15, .inl x436), (17, .inl x437), (24, .inl x438), (41, .inl x439)]) dL_law_1767 rfl rfl ?_
  refine S_aload_n dL_law_1769 rfl ?_
  refine S_callV_I dL_law_1770 [] (K_X1_asked μ440) l_L_74 yo_X1_asked rfl rfl rfl rfl rfl (fun x442 => ?_)
  refine S_istore (lv' := [(44, .inl x442), (42, .inr (.inl x441)), (0, .inr (.inr 64)), (1, .inr (.inr 0)), (2, .inr (.inr 60)), (3, .inr (.inr 61)), (4, .inr (.inr 62)), (5, .inr (.inr 63)), (6, .inl x428), (7, .inr (.inl x429)), (9, .inl x430), (10, .inl x431), (11, .inl x432), (12, .inl x433), (13, .inl x434), (14, .inl x435), (15, .inl x436), (17, .inl x437), (24, .inl x438), (41, .inl x439)]) dL_law_1773 rfl rfl ?_
  refine S_aload_n dL_law_1775 rfl ?_
  refine S_iload dL_law_1776 rfl ?_
  refine S_callV_M2 dL_law_1778 [.inl x439] (K_X1_sure x439 μ440) l_L_145 yo_X1_sure rfl rfl rfl rfl rfl (fun x443 μ444 => ?_)
  refine S_istore (lv' := [(45, .inl x443), (44, .inl x442), (42, .inr (.inl x441)), (0, .inr (.inr 64)), (1, .inr (.inr 0)), (2, .inr (.inr 60)), (3, .inr (.inr 61)), (4, .inr (.inr 62)), (5, .inr (.inr 63)), (6, .inl x428), (7, .inr (.inl x429)), (9, .inl x430), (10, .inl x431), (11, .inl x432), (12, .inl x433), (13, .inl x434), (14, .inl x435), (15, .inl x436), (17, .inl x437), (24, .inl x438), (41, .inl x439)]) dL_law_1781 rfl rfl ?_
  refine S_aload_n dL_law_1783 rfl ?_
  refine S_callV_I dL_law_1784 [] (K_X1_asked μ444) l_L_74 yo_X1_asked rfl rfl rfl rfl rfl (fun x445 => ?_)
  refine S_istore (lv' := [(46, .inl x445), (45, .inl x443), (44, .inl x442), (42, .inr (.inl x441)), (0, .inr (.inr 64)), (1, .inr (.inr 0)), (2, .inr (.inr 60)), (3, .inr (.inr 61)), (4, .inr (.inr 62)), (5, .inr (.inr 63)), (6, .inl x428), (7, .inr (.inl x429)), (9, .inl x430), (10, .inl x431), (11, .inl x432), (12, .inl x433), (13, .inl x434), (14, .inl x435), (15, .inl x436), (17, .inl x437), (24, .inl x438), (41, .inl x439)]) dL_law_1787 rfl rfl ?_
  refine S_iconst dL_law_1789 rfl ?_
  refine S_istore (lv' := [(47, .inl 0), (46, .inl x445), (45, .inl x443), (44, .inl x442), (42, .inr (.inl x441)), (0, .inr (.inr 64)), (1, .inr (.inr 0)), (2, .inr (.inr 60)), (3, .inr (.inr 61)), (4, .inr (.inr 62)), (5, .inr (.inr 63)), (6, .inl x428), (7, .inr (.inl x429)), (9, .inl x430), (10, .inl x431), (11, .inl x432), (12, .inl x433), (13, .inl x434), (14, .inl x435), (15, .inl x436), (17, .inl x437), (24, .inl x438), (41, .inl x439)]) dL_law_1790 rfl rfl ?_
  refine S_iconst dL_law_1792 rfl ?_
  refine S_istore (lv' := [(48, .inl 0), (47, .inl 0), (46, .inl x445), (45, .inl x443), (44, .inl x442), (42, .inr (.inl x441)), (0, .inr (.inr 64)), (1, .inr (.inr 0)), (2, .inr (.inr 60)), (3, .inr (.inr 61)), (4, .inr (.inr 62)), (5, .inr (.inr 63)), (6, .inl x428), (7, .inr (.inl x429)), (9, .inl x430), (10, .inl x431), (11, .inl x432), (12, .inl x433), (13, .inl x434), (14, .inl x435), (15, .inl x436), (17, .inl x437), (24, .inl x438), (41, .inl x439)]) dL_law_1793 rfl rfl ?_
  have hL1795 : ∀ (n448 : Nat) (x446 : Int) (x447 : Int), Sim σ cL_law 60 RL (2000) (some .boolean) wI 1795 [(0, .inr (.inr 64)), (1, .inr (.inr 0)), (2, .inr (.inr 60)), (3, .inr (.inr 61)), (4, .inr (.inr 62)), (5, .inr (.inr 63)), (6, .inl x428), (7, .inr (.inl x429)), (9, .inl x430), (10, .inl x431), (11, .inl x432), (12, .inl x433), (13, .inl x434), (14, .inl x435), (15, .inl x436), (17, .inl x437), (24, .inl x438), (41, .inl x439), (42, .inr (.inl x441)), (44, .inl x442), (45, .inl x443), (46, .inl x445), (47, .inl x446), (48, .inl x447)] [] μ444 (fL_law_L1795 x428 σ self66 x429 x430 x431 x432 x433 x434 x435 x436 x437 x438 x439 x441 x442 x443 x445 μ444 n448 x446 x447) := by
    intro n448
    induction n448 with
    | zero =>
      intro x446 x447
      exact S_none rfl
    | succ n448 ih =>
      intro x446 x447
      rw [fL_law_L1795]
      refine S_iload dL_law_1795 rfl ?_
      refine S_iload dL_law_1797 rfl ?_
      refine S_ic_ge (tgt := 1840) dL_law_1799 (by decide) (fun h705 => ?_) (fun h705 => ?_)
      · exact S_sub [0, 1, 2, 3, 4, 5, 6, 7, 8, 9, 10, 11, 12, 13, 14, 15, 16, 17, 18, 19, 20, 21, 22] rfl (KL_law_c1840 x428 x429 x430 x431 x432 x433 x434 x435 x436 x437 x438 x439 x441 x442 x443 x445 x446 μ444 hself66)
      · refine S_lload dL_law_1802 rfl ?_
        refine S_lconst (n := 0) dL_law_1804 (by decide) rfl ?_
        refine S_lcmp dL_law_1805 ?_
        refine S_if_le (tgt := 1840) dL_law_1806 (by decide) (fun h704 => ?_) (fun h704 => ?_)
        · exact S_sub [0, 1, 2, 3, 4, 5, 6, 7, 8, 9, 10, 11, 12, 13, 14, 15, 16, 17, 18, 19, 20, 21, 22] rfl (KL_law_c1840 x428 x429 x430 x431 x432 x433 x434 x435 x436 x437 x438 x439 x441 x442 x443 x445 x446 μ444 hself66)
        · refine S_iload dL_law_1809 rfl ?_
          refine S_iload dL_law_1811 rfl ?_
          refine S_iload dL_law_1813 rfl ?_
          refine S_ishr dL_law_1815 ?_
          refine S_iconst dL_law_1816 rfl ?_
          refine S_iand dL_law_1817 ?_
          refine S_iconst dL_law_1818 rfl ?_
          refine S_jn (fun (K700 : Int → Option (Int × Mem)) => ∀ (x699 : Int), Sim σ cL_law 60 RL (2000) (some .boolean) wI 1831 [(0, .inr (.inr 64)), (1, .inr (.inr 0)), (2, .inr (.inr 60)), (3, .inr (.inr 61)), (4, .inr (.inr 62)), (5, .inr (.inr 63)), (6, .inl x428), (7, .inr (.inl x429)), (9, .inl x430), (10, .inl x431), (11, .inl x432), (12, .inl x433), (13, .inl x434), (14, .inl x435), (15, .inl x436), (17, .inl x437), (24, .inl x438), (41, .inl x439), (42, .inr (.inl x441)), (44, .inl x442), (45, .inl x443), (46, .inl x445), (48, .inl x447)] [.inl x699, .inl x446] μ444 (K700 x699)) ?_ (fun K700 hK700 => ?_)
          · intro x699
            refine S_iadd dL_law_1831 ?_
            refine S_let (fun x701 => ?_)
            refine S_istore (lv' := [(47, .inl x701), (0, .inr (.inr 64)), (1, .inr (.inr 0)), (2, .inr (.inr 60)), (3, .inr (.inr 61)), (4, .inr (.inr 62)), (5, .inr (.inr 63)), (6, .inl x428), (7, .inr (.inl x429)), (9, .inl x430), (10, .inl x431), (11, .inl x432), (12, .inl x433), (13, .inl x434), (14, .inl x435), (15, .inl x436), (17, .inl x437), (24, .inl x438), (41, .inl x439), (42, .inr (.inl x441)), (44, .inl x442), (45, .inl x443), (46, .inl x445), (48, .inl x447)]) dL_law_1832 rfl rfl ?_
            refine S_iinc (lv' := fun x702 => [(48, .inl x702), (47, .inl x701), (0, .inr (.inr 64)), (1, .inr (.inr 0)), (2, .inr (.inr 60)), (3, .inr (.inr 61)), (4, .inr (.inr 62)), (5, .inr (.inr 63)), (6, .inl x428), (7, .inr (.inl x429)), (9, .inl x430), (10, .inl x431), (11, .inl x432), (12, .inl x433), (13, .inl x434), (14, .inl x435), (15, .inl x436), (17, .inl x437), (24, .inl x438), (41, .inl x439), (42, .inr (.inl x441)), (44, .inl x442), (45, .inl x443), (46, .inl x445)]) dL_law_1834 rfl rfl rfl (fun _ => rfl) (fun x702 => ?_)
            refine S_goto (tgt := 1795) dL_law_1837 (by decide) ?_
            exact S_sub [2, 3, 4, 5, 6, 7, 8, 9, 10, 11, 12, 13, 14, 15, 16, 17, 18, 19, 20, 21, 22, 23, 1, 0] rfl (ih x701 x702)
          refine S_ic_ne (tgt := 1830) dL_law_1819 (by decide) (fun h703 => ?_) (fun h703 => ?_)
          · refine S_iconst dL_law_1830 rfl ?_
            exact S_sub [0, 1, 2, 3, 4, 5, 6, 7, 8, 9, 10, 11, 12, 13, 14, 15, 16, 17, 18, 19, 20, 21, 23] rfl (hK700 0)
          · refine S_aload dL_law_1822 rfl ?_
            refine S_iload dL_law_1824 rfl ?_
            refine S_iald (N := 6) dL_law_1826 rfl (by decide) rfl ?_
            refine S_goto (tgt := 1831) dL_law_1827 (by decide) ?_
            exact S_sub [0, 1, 2, 3, 4, 5, 6, 7, 8, 9, 10, 11, 12, 13, 14, 15, 16, 17, 18, 19, 20, 21, 23] rfl (hK700 (μ444 62 (x447).toNat))
  exact S_sub [6, 7, 8, 9, 10, 11, 12, 13, 14, 15, 16, 17, 18, 19, 20, 21, 22, 23, 5, 4, 3, 2, 1, 0] rfl (hL1795 fuel 0 0)
def fL_law_c1737 (σ : Scr) (self66 : Int → Mem → Option (Int × Mem)) (x413 : Int) (x414 : Int) (x415 : Int) (x416 : Int) (x417 : Int) (x418 : Int) (x419 : Int) (x420 : Int) (x421 : Int) (x422 : Int) (x423 : Int) (μ424 : Mem) : Option (Int × Mem) :=
  (fL_low (bshr x416 12) (w32 (x420 + 1)) μ424).bind fun x425 =>
  bnd2 (fX1_sets x425 μ424) fun x426 μ427 =>
  if x426 = 1 then
    fL_law_c1763 σ self66 x413 x414 x415 x416 x417 x418 x419 x420 x421 x422 x423 x425 μ427
  else
    some (0, μ427)
theorem dL_law_1737 : decode cL_law 1737 = .ok (.iload 10, 2) := by decide +kernel
theorem dL_law_1739 : decode cL_law 1739 = .ok (.bipush 12, 2) := by decide +kernel
theorem dL_law_1741 : decode cL_law 1741 = .ok (.ishr, 1) := by decide +kernel
theorem dL_law_1742 : decode cL_law 1742 = .ok (.iload 14, 2) := by decide +kernel
theorem dL_law_1744 : decode cL_law 1744 = .ok (.iconst 1, 1) := by decide +kernel
theorem dL_law_1745 : decode cL_law 1745 = .ok (.iadd, 1) := by decide +kernel
theorem dL_law_1746 : decode cL_law 1746 = .ok (.invokestatic 15, 3) := by decide +kernel
theorem dL_law_1749 : decode cL_law 1749 = .ok (.istore 41, 2) := by decide +kernel
theorem dL_law_1751 : decode cL_law 1751 = .ok (.aload_n 1, 1) := by decide +kernel
theorem dL_law_1752 : decode cL_law 1752 = .ok (.iload 41, 2) := by decide +kernel
theorem dL_law_1754 : decode cL_law 1754 = .ok (.invokevirtual 139, 3) := by decide +kernel
theorem dL_law_1757 : decode cL_law 1757 = .ok (.iconst 1, 1) := by decide +kernel
theorem dL_law_1758 : decode cL_law 1758 = .ok (.if_icmp .eq 5, 3) := by decide +kernel
theorem dL_law_1761 : decode cL_law 1761 = .ok (.iconst 0, 1) := by decide +kernel
theorem dL_law_1762 : decode cL_law 1762 = .ok (.ireturn, 1) := by decide +kernel
theorem KL_law_c1737 {σ : Scr} {self66 : Int → Mem → Option (Int × Mem)} (x413 : Int) (x414 : Int) (x415 : Int) (x416 : Int) (x417 : Int) (x418 : Int) (x419 : Int) (x420 : Int) (x421 : Int) (x422 : Int) (x423 : Int) (μ424 : Mem) (hself66 : ∀ (x11 : Int) (μ12 : Mem), Sim σ cL_law 60 RL (2000) (some .boolean) wI 66 [(0, .inr (.inr 64)), (1, .inr (.inr 0)), (2, .inr (.inr 60)), (3, .inr (.inr 61)), (4, .inr (.inr 62)), (5, .inr (.inr 63)), (6, .inl x413), (7, .inr (.inl x414)), (9, .inl x11)] [] μ12 (self66 x11 μ12)) : Sim σ cL_law 60 RL (2000) (some .boolean) wI 1737 [(0, .inr (.inr 64)), (1, .inr (.inr 0)), (2, .inr (.inr 60)), (3, .inr (.inr 61)), (4, .inr (.inr 62)), (5, .inr (.inr 63)), (6, .inl x413), (7, .inr (.inl x414)), (9, .inl x415), (10, .inl x416), (11, .inl x417), (12, .inl x418), (13, .inl x419), (14, .inl x420), (15, .inl x421), (17, .inl x422), (24, .inl x423)] [] μ424 (fL_law_c1737 σ self66 x413 x414 x415 x416 x417 x418 x419 x420 x421 x422 x423 μ424) := by
  unfold fL_law_c1737
  refine S_iload dL_law_1737 rfl ?_
  refine S_bipush dL_law_1739 rfl (by decide) ?_
  refine S_ishr dL_law_1741 ?_
  refine S_iload dL_law_1742 rfl ?_
  refine S_iconst dL_law_1744 rfl ?_
  refine S_iadd dL_law_1745 ?_
  refine S_callS_I dL_law_1746 [.inl (bshr x416 12), .inl (w32 (x420 + 1))] (K_L_low (bshr x416 12) (w32 (x420 + 1)) μ424) l_L_15 yo_L_low rfl rfl rfl (fun x425 => ?_)
  refine S_istore (lv' := [(41, .inl x425), (0, .inr (.inr 64)), (1, .inr (.inr 0)), (2, .inr (.inr 60)), (3, .inr (.inr 61)), (4, .inr (.inr 62)), (5, .inr (.inr 63)), (6, .inl x413), (7, .inr (.inl x414)), (9, .inl x415), (10, .inl x416), (11, .inl x417), (12, .inl x418), (13, .inl x419), (14, .inl x420), (15, .inl x421), (17, .inl x422), (24, .inl x423)]) dL_law_1749 rfl rfl ?_
  refine S_aload_n dL_law_1751 rfl ?_
  refine S_iload dL_law_1752 rfl ?_
  refine S_callV_M2 dL_law_1754 [.inl x425] (K_X1_sets x425 μ424) l_L_139 yo_X1_sets rfl rfl rfl rfl rfl (fun x426 μ427 => ?_)
  refine S_iconst dL_law_1757 rfl ?_
  refine S_ic_eq (tgt := 1763) dL_law_1758 (by decide) (fun h706 => ?_) (fun h706 => ?_)
  · exact S_sub [1, 2, 3, 4, 5, 6, 7, 8, 9, 10, 11, 12, 13, 14, 15, 16, 17, 0] rfl (KL_law_c1763 x413 x414 x415 x416 x417 x418 x419 x420 x421 x422 x423 x425 μ427 hself66)
  · refine S_iconst dL_law_1761 rfl ?_
    exact S_zret dL_law_1762 rfl (by decide) rfl
def fL_law_c1622 (σ : Scr) (self66 : Int → Mem → Option (Int × Mem)) (x394 : Int) (x395 : Int) (x396 : Int) (x397 : Int) (x398 : Int) (x399 : Int) (x400 : Int) (x401 : Int) (x402 : Int) (x403 : Int) (x404 : Int) (x405 : Int) (x406 : Int) (x407 : Int) (x408 : Int) (x409 : Int) (x410 : Int) (μ411 : Mem) : Option (Int × Mem) :=
  if x405 = 0 then
    if ¬ x406 = (-3) then
      some (0, μ411)
    else
      if ¬ x407 = (-3) then
        some (0, μ411)
      else
        if ¬ x408 = (-3) then
          some (0, μ411)
        else
          (fX1_finding μ411).bind fun x412 =>
          if x412 = 3 then
            fL_law_c1737 σ self66 x394 x395 x396 x397 x398 x399 x400 x401 x402 x403 x404 μ411
          else
            some (0, μ411)
  else
    if x406 < 1 then
      some (0, μ411)
    else
      if ¬ (bshr x406 21) = 0 then
        some (0, μ411)
      else
        grd (0 ≤ x404 ∧ x404 < 6) <|
        if ¬ (band (bshr x406 (μ411 62 (x404).toNat)) 1) = 1 then
          some (0, μ411)
        else
          grd (0 ≤ (w32 (1 + x404)) ∧ (w32 (1 + x404)) < 7) <|
          if ¬ (band (bshr x407 (μ411 60 ((w32 (1 + x404))).toNat)) 1) = 1 then
            some (0, μ411)
          else
            if 63 < x407 then
              some (0, μ411)
            else
              if x408 < 1 then
                some (0, μ411)
              else
                if 20 < x408 then
                  some (0, μ411)
                else
                  if x409 < 1 then
                    some (0, μ411)
                  else
                    if x409 ≤ x410 then
                      fL_law_c1737 σ self66 x394 x395 x396 x397 x398 x399 x400 x401 x402 x403 x404 μ411
                    else
                      some (0, μ411)
theorem dL_law_1622 : decode cL_law 1622 = .ok (.iload 35, 2) := by decide +kernel
theorem dL_law_1624 : decode cL_law 1624 = .ok (.ifCond .eq 82, 3) := by decide +kernel
theorem dL_law_1627 : decode cL_law 1627 = .ok (.iload 36, 2) := by decide +kernel
theorem dL_law_1629 : decode cL_law 1629 = .ok (.iconst 1, 1) := by decide +kernel
theorem dL_law_1630 : decode cL_law 1630 = .ok (.if_icmp .lt 105, 3) := by decide +kernel
theorem dL_law_1633 : decode cL_law 1633 = .ok (.iload 36, 2) := by decide +kernel
theorem dL_law_1635 : decode cL_law 1635 = .ok (.bipush 21, 2) := by decide +kernel
theorem dL_law_1637 : decode cL_law 1637 = .ok (.ishr, 1) := by decide +kernel
theorem dL_law_1638 : decode cL_law 1638 = .ok (.ifCond .ne 97, 3) := by decide +kernel
theorem dL_law_1641 : decode cL_law 1641 = .ok (.iload 36, 2) := by decide +kernel
theorem dL_law_1643 : decode cL_law 1643 = .ok (.aload 4, 2) := by decide +kernel
theorem dL_law_1645 : decode cL_law 1645 = .ok (.iload 24, 2) := by decide +kernel
theorem dL_law_1647 : decode cL_law 1647 = .ok (.iaload, 1) := by decide +kernel
theorem dL_law_1648 : decode cL_law 1648 = .ok (.ishr, 1) := by decide +kernel
theorem dL_law_1649 : decode cL_law 1649 = .ok (.iconst 1, 1) := by decide +kernel
theorem dL_law_1650 : decode cL_law 1650 = .ok (.iand, 1) := by decide +kernel
theorem dL_law_1651 : decode cL_law 1651 = .ok (.iconst 1, 1) := by decide +kernel
theorem dL_law_1652 : decode cL_law 1652 = .ok (.if_icmp .ne 83, 3) := by decide +kernel
theorem dL_law_1655 : decode cL_law 1655 = .ok (.iload 37, 2) := by decide +kernel
theorem dL_law_1657 : decode cL_law 1657 = .ok (.aload_n 2, 1) := by decide +kernel
theorem dL_law_1658 : decode cL_law 1658 = .ok (.iconst 1, 1) := by decide +kernel
theorem dL_law_1659 : decode cL_law 1659 = .ok (.iload 24, 2) := by decide +kernel
theorem dL_law_1661 : decode cL_law 1661 = .ok (.iadd, 1) := by decide +kernel
theorem dL_law_1662 : decode cL_law 1662 = .ok (.iaload, 1) := by decide +kernel
theorem dL_law_1663 : decode cL_law 1663 = .ok (.ishr, 1) := by decide +kernel
theorem dL_law_1664 : decode cL_law 1664 = .ok (.iconst 1, 1) := by decide +kernel
theorem dL_law_1665 : decode cL_law 1665 = .ok (.iand, 1) := by decide +kernel
theorem dL_law_1666 : decode cL_law 1666 = .ok (.iconst 1, 1) := by decide +kernel
theorem dL_law_1667 : decode cL_law 1667 = .ok (.if_icmp .ne 68, 3) := by decide +kernel
theorem dL_law_1670 : decode cL_law 1670 = .ok (.iload 37, 2) := by decide +kernel
theorem dL_law_1672 : decode cL_law 1672 = .ok (.bipush 63, 2) := by decide +kernel
theorem dL_law_1674 : decode cL_law 1674 = .ok (.if_icmp .gt 61, 3) := by decide +kernel
theorem dL_law_1677 : decode cL_law 1677 = .ok (.iload 38, 2) := by decide +kernel
theorem dL_law_1679 : decode cL_law 1679 = .ok (.iconst 1, 1) := by decide +kernel
theorem dL_law_1680 : decode cL_law 1680 = .ok (.if_icmp .lt 55, 3) := by decide +kernel
theorem dL_law_1683 : decode cL_law 1683 = .ok (.iload 38, 2) := by decide +kernel
theorem dL_law_1685 : decode cL_law 1685 = .ok (.bipush 20, 2) := by decide +kernel
theorem dL_law_1687 : decode cL_law 1687 = .ok (.if_icmp .gt 48, 3) := by decide +kernel
theorem dL_law_1690 : decode cL_law 1690 = .ok (.iload 39, 2) := by decide +kernel
theorem dL_law_1692 : decode cL_law 1692 = .ok (.iconst 1, 1) := by decide +kernel
theorem dL_law_1693 : decode cL_law 1693 = .ok (.if_icmp .lt 42, 3) := by decide +kernel
theorem dL_law_1696 : decode cL_law 1696 = .ok (.iload 39, 2) := by decide +kernel
theorem dL_law_1698 : decode cL_law 1698 = .ok (.iload 40, 2) := by decide +kernel
theorem dL_law_1700 : decode cL_law 1700 = .ok (.if_icmp .le 37, 3) := by decide +kernel
theorem dL_law_1703 : decode cL_law 1703 = .ok (.goto 32, 3) := by decide +kernel
theorem dL_law_1706 : decode cL_law 1706 = .ok (.iload 36, 2) := by decide +kernel
theorem dL_law_1708 : decode cL_law 1708 = .ok (.bipush (-3), 2) := by decide +kernel
theorem dL_law_1710 : decode cL_law 1710 = .ok (.if_icmp .ne 25, 3) := by decide +kernel
theorem dL_law_1713 : decode cL_law 1713 = .ok (.iload 37, 2) := by decide +kernel
theorem dL_law_1715 : decode cL_law 1715 = .ok (.bipush (-3), 2) := by decide +kernel
theorem dL_law_1717 : decode cL_law 1717 = .ok (.if_icmp .ne 18, 3) := by decide +kernel
theorem dL_law_1720 : decode cL_law 1720 = .ok (.iload 38, 2) := by decide +kernel
theorem dL_law_1722 : decode cL_law 1722 = .ok (.bipush (-3), 2) := by decide +kernel
theorem dL_law_1724 : decode cL_law 1724 = .ok (.if_icmp .ne 11, 3) := by decide +kernel
theorem dL_law_1727 : decode cL_law 1727 = .ok (.aload_n 1, 1) := by decide +kernel
theorem dL_law_1728 : decode cL_law 1728 = .ok (.invokevirtual 136, 3) := by decide +kernel
theorem dL_law_1731 : decode cL_law 1731 = .ok (.iconst 3, 1) := by decide +kernel
theorem dL_law_1732 : decode cL_law 1732 = .ok (.if_icmp .eq 5, 3) := by decide +kernel
theorem dL_law_1735 : decode cL_law 1735 = .ok (.iconst 0, 1) := by decide +kernel
theorem dL_law_1736 : decode cL_law 1736 = .ok (.ireturn, 1) := by decide +kernel
theorem KL_law_c1622 {σ : Scr} {self66 : Int → Mem → Option (Int × Mem)} (x394 : Int) (x395 : Int) (x396 : Int) (x397 : Int) (x398 : Int) (x399 : Int) (x400 : Int) (x401 : Int) (x402 : Int) (x403 : Int) (x404 : Int) (x405 : Int) (x406 : Int) (x407 : Int) (x408 : Int) (x409 : Int) (x410 : Int) (μ411 : Mem) (hself66 : ∀ (x11 : Int) (μ12 : Mem), Sim σ cL_law 60 RL (2000) (some .boolean) wI 66 [(0, .inr (.inr 64)), (1, .inr (.inr 0)), (2, .inr (.inr 60)), (3, .inr (.inr 61)), (4, .inr (.inr 62)), (5, .inr (.inr 63)), (6, .inl x394), (7, .inr (.inl x395)), (9, .inl x11)] [] μ12 (self66 x11 μ12)) : Sim σ cL_law 60 RL (2000) (some .boolean) wI 1622 [(0, .inr (.inr 64)), (1, .inr (.inr 0)), (2, .inr (.inr 60)), (3, .inr (.inr 61)), (4, .inr (.inr 62)), (5, .inr (.inr 63)), (6, .inl x394), (7, .inr (.inl x395)), (9, .inl x396), (10, .inl x397), (11, .inl x398), (12, .inl x399), (13, .inl x400), (14, .inl x401), (15, .inl x402), (17, .inl x403), (24, .inl x404), (35, .inl x405), (36, .inl x406), (37, .inl x407), (38, .inl x408), (39, .inl x409), (40, .inl x410)] [] μ411 (fL_law_c1622 σ self66 x394 x395 x396 x397 x398 x399 x400 x401 x402 x403 x404 x405 x406 x407 x408 x409 x410 μ411) := by
  unfold fL_law_c1622
  refine S_iload dL_law_1622 rfl ?_
  refine S_if_eq (tgt := 1706) dL_law_1624 (by decide) (fun h720 => ?_) (fun h720 => ?_)
  · refine S_iload dL_law_1706 rfl ?_
    refine S_bipush dL_law_1708 rfl (by decide) ?_
    refine S_ic_ne (tgt := 1735) dL_law_1710 (by decide) (fun h710 => ?_) (fun h710 => ?_)
    · refine S_iconst dL_law_1735 rfl ?_
      exact S_zret dL_law_1736 rfl (by decide) rfl
    · refine S_iload dL_law_1713 rfl ?_
      refine S_bipush dL_law_1715 rfl (by decide) ?_
      refine S_ic_ne (tgt := 1735) dL_law_1717 (by decide) (fun h709 => ?_) (fun h709 => ?_)
      · refine S_iconst dL_law_1735 rfl ?_
        exact S_zret dL_law_1736 rfl (by decide) rfl
      · refine S_iload dL_law_1720 rfl ?_
        refine S_bipush dL_law_1722 rfl (by decide) ?_
        refine S_ic_ne (tgt := 1735) dL_law_1724 (by decide) (fun h708 => ?_) (fun h708 => ?_)
        · refine S_iconst dL_law_1735 rfl ?_
          exact S_zret dL_law_1736 rfl (by decide) rfl
        · refine S_aload_n dL_law_1727 rfl ?_
          refine S_callV_I dL_law_1728 [] (K_X1_finding μ411) l_L_136 yo_X1_finding rfl rfl rfl rfl rfl (fun x412 => ?_)
          refine S_iconst dL_law_1731 rfl ?_
          refine S_ic_eq (tgt := 1737) dL_law_1732 (by decide) (fun h707 => ?_) (fun h707 => ?_)
          · exact S_sub [0, 1, 2, 3, 4, 5, 6, 7, 8, 9, 10, 11, 12, 13, 14, 15, 16] rfl (KL_law_c1737 x394 x395 x396 x397 x398 x399 x400 x401 x402 x403 x404 μ411 hself66)
          · refine S_iconst dL_law_1735 rfl ?_
            exact S_zret dL_law_1736 rfl (by decide) rfl
  · refine S_iload dL_law_1627 rfl ?_
    refine S_iconst dL_law_1629 rfl ?_
    refine S_ic_lt (tgt := 1735) dL_law_1630 (by decide) (fun h719 => ?_) (fun h719 => ?_)
    · refine S_iconst dL_law_1735 rfl ?_
      exact S_zret dL_law_1736 rfl (by decide) rfl
    · refine S_iload dL_law_1633 rfl ?_
      refine S_bipush dL_law_1635 rfl (by decide) ?_
      refine S_ishr dL_law_1637 ?_
      refine S_if_ne (tgt := 1735) dL_law_1638 (by decide) (fun h718 => ?_) (fun h718 => ?_)
      · refine S_iconst dL_law_1735 rfl ?_
        exact S_zret dL_law_1736 rfl (by decide) rfl
      · refine S_iload dL_law_1641 rfl ?_
        refine S_aload dL_law_1643 rfl ?_
        refine S_iload dL_law_1645 rfl ?_
        refine S_iald (N := 6) dL_law_1647 rfl (by decide) rfl ?_
        refine S_ishr dL_law_1648 ?_
        refine S_iconst dL_law_1649 rfl ?_
        refine S_iand dL_law_1650 ?_
        refine S_iconst dL_law_1651 rfl ?_
        refine S_ic_ne (tgt := 1735) dL_law_1652 (by decide) (fun h717 => ?_) (fun h717 => ?_)
        · refine S_iconst dL_law_1735 rfl ?_
          exact S_zret dL_law_1736 rfl (by decide) rfl
        · refine S_iload dL_law_1655 rfl ?_
          refine S_aload_n dL_law_1657 rfl ?_
          refine S_iconst dL_law_1658 rfl ?_
          refine S_iload dL_law_1659 rfl ?_
          refine S_iadd dL_law_1661 ?_
          refine S_iald (N := 7) dL_law_1662 rfl (by decide) rfl ?_
          refine S_ishr dL_law_1663 ?_
          refine S_iconst dL_law_1664 rfl ?_
          refine S_iand dL_law_1665 ?_
          refine S_iconst dL_law_1666 rfl ?_
          refine S_ic_ne (tgt := 1735) dL_law_1667 (by decide) (fun h716 => ?_) (fun h716 => ?_)
          · refine S_iconst dL_law_1735 rfl ?_
            exact S_zret dL_law_1736 rfl (by decide) rfl
          · refine S_iload dL_law_1670 rfl ?_
            refine S_bipush dL_law_1672 rfl (by decide) ?_
            refine S_ic_gt (tgt := 1735) dL_law_1674 (by decide) (fun h715 => ?_) (fun h715 => ?_)
            · refine S_iconst dL_law_1735 rfl ?_
              exact S_zret dL_law_1736 rfl (by decide) rfl
            · refine S_iload dL_law_1677 rfl ?_
              refine S_iconst dL_law_1679 rfl ?_
              refine S_ic_lt (tgt := 1735) dL_law_1680 (by decide) (fun h714 => ?_) (fun h714 => ?_)
              · refine S_iconst dL_law_1735 rfl ?_
                exact S_zret dL_law_1736 rfl (by decide) rfl
              · refine S_iload dL_law_1683 rfl ?_
                refine S_bipush dL_law_1685 rfl (by decide) ?_
                refine S_ic_gt (tgt := 1735) dL_law_1687 (by decide) (fun h713 => ?_) (fun h713 => ?_)
                · refine S_iconst dL_law_1735 rfl ?_
                  exact S_zret dL_law_1736 rfl (by decide) rfl
                · refine S_iload dL_law_1690 rfl ?_
                  refine S_iconst dL_law_1692 rfl ?_
                  refine S_ic_lt (tgt := 1735) dL_law_1693 (by decide) (fun h712 => ?_) (fun h712 => ?_)
                  · refine S_iconst dL_law_1735 rfl ?_
                    exact S_zret dL_law_1736 rfl (by decide) rfl
                  · refine S_iload dL_law_1696 rfl ?_
                    refine S_iload dL_law_1698 rfl ?_
                    refine S_ic_le (tgt := 1737) dL_law_1700 (by decide) (fun h711 => ?_) (fun h711 => ?_)
                    · exact S_sub [0, 1, 2, 3, 4, 5, 6, 7, 8, 9, 10, 11, 12, 13, 14, 15, 16] rfl (KL_law_c1737 x394 x395 x396 x397 x398 x399 x400 x401 x402 x403 x404 μ411 hself66)
                    · refine S_goto (tgt := 1735) dL_law_1703 (by decide) ?_
                      refine S_iconst dL_law_1735 rfl ?_
                      exact S_zret dL_law_1736 rfl (by decide) rfl
def fL_law_L1592 (σ : Scr) (self66 : Int → Mem → Option (Int × Mem)) (x371 : Int) (x372 : Int) (x373 : Int) (x374 : Int) (x375 : Int) (x376 : Int) (x377 : Int) (x378 : Int) (x379 : Int) (x380 : Int) (x381 : Int) (x382 : Int) (x384 : Int) (x386 : Int) (x388 : Int) (x390 : Int) (μ389 : Mem) : Nat → Int → Int → Option (Int × Mem)
  | 0, _, _ => none
  | n393 + 1, x391, x392 =>
    if 21 ≤ x392 then
      fL_law_c1622 σ self66 x371 x372 x373 x374 x375 x376 x377 x378 x379 x380 x381 x382 x384 x386 x388 x390 x391 μ389
    else
      if x382 = 0 then
        fL_law_c1622 σ self66 x371 x372 x373 x374 x375 x376 x377 x378 x379 x380 x381 x382 x384 x386 x388 x390 x391 μ389
      else
        mlet ((w32 (x391 + (band (bshr x384 x392) 1)))) fun x721 =>
        mlet (w32 (x392 + 1)) fun x722 =>
        fL_law_L1592 σ self66 x371 x372 x373 x374 x375 x376 x377 x378 x379 x380 x381 x382 x384 x386 x388 x390 μ389 n393 x721 x722
def fL_law_c1553 (σ : Scr) (self66 : Int → Mem → Option (Int × Mem)) (x371 : Int) (x372 : Int) (x373 : Int) (x374 : Int) (x375 : Int) (x376 : Int) (x377 : Int) (x378 : Int) (x379 : Int) (x380 : Int) (x381 : Int) (x382 : Int) (μ383 : Mem) : Option (Int × Mem) :=
  bnd2 (fX1_darings x381 2 μ383) fun x384 μ385 =>
  bnd2 (fX1_kinds x381 2 μ385) fun x386 μ387 =>
  bnd2 (fX1_look x381 2 μ387) fun x388 μ389 =>
  (fX1_asked μ389).bind fun x390 =>
  fL_law_L1592 σ self66 x371 x372 x373 x374 x375 x376 x377 x378 x379 x380 x381 x382 x384 x386 x388 x390 μ389 fuel 0 0
theorem dL_law_1553 : decode cL_law 1553 = .ok (.aload_n 1, 1) := by decide +kernel
theorem dL_law_1554 : decode cL_law 1554 = .ok (.iload 24, 2) := by decide +kernel
theorem dL_law_1556 : decode cL_law 1556 = .ok (.iconst 2, 1) := by decide +kernel
theorem dL_law_1557 : decode cL_law 1557 = .ok (.invokevirtual 127, 3) := by decide +kernel
theorem dL_law_1560 : decode cL_law 1560 = .ok (.istore 36, 2) := by decide +kernel
theorem dL_law_1562 : decode cL_law 1562 = .ok (.aload_n 1, 1) := by decide +kernel
theorem dL_law_1563 : decode cL_law 1563 = .ok (.iload 24, 2) := by decide +kernel
theorem dL_law_1565 : decode cL_law 1565 = .ok (.iconst 2, 1) := by decide +kernel
theorem dL_law_1566 : decode cL_law 1566 = .ok (.invokevirtual 130, 3) := by decide +kernel
theorem dL_law_1569 : decode cL_law 1569 = .ok (.istore 37, 2) := by decide +kernel
theorem dL_law_1571 : decode cL_law 1571 = .ok (.aload_n 1, 1) := by decide +kernel
theorem dL_law_1572 : decode cL_law 1572 = .ok (.iload 24, 2) := by decide +kernel
theorem dL_law_1574 : decode cL_law 1574 = .ok (.iconst 2, 1) := by decide +kernel
theorem dL_law_1575 : decode cL_law 1575 = .ok (.invokevirtual 133, 3) := by decide +kernel
theorem dL_law_1578 : decode cL_law 1578 = .ok (.istore 38, 2) := by decide +kernel
theorem dL_law_1580 : decode cL_law 1580 = .ok (.aload_n 1, 1) := by decide +kernel
theorem dL_law_1581 : decode cL_law 1581 = .ok (.invokevirtual 74, 3) := by decide +kernel
theorem dL_law_1584 : decode cL_law 1584 = .ok (.istore 39, 2) := by decide +kernel
theorem dL_law_1586 : decode cL_law 1586 = .ok (.iconst 0, 1) := by decide +kernel
theorem dL_law_1587 : decode cL_law 1587 = .ok (.istore 40, 2) := by decide +kernel
theorem dL_law_1589 : decode cL_law 1589 = .ok (.iconst 0, 1) := by decide +kernel
theorem dL_law_1590 : decode cL_law 1590 = .ok (.istore 41, 2) := by decide +kernel
theorem dL_law_1592 : decode cL_law 1592 = .ok (.iload 41, 2) := by decide +kernel
theorem dL_law_1594 : decode cL_law 1594 = .ok (.bipush 21, 2) := by decide +kernel
theorem dL_law_1596 : decode cL_law 1596 = .ok (.if_icmp .ge 26, 3) := by decide +kernel
theorem dL_law_1599 : decode cL_law 1599 = .ok (.iload 35, 2) := by decide +kernel
theorem dL_law_1601 : decode cL_law 1601 = .ok (.ifCond .eq 21, 3) := by decide +kernel
theorem dL_law_1604 : decode cL_law 1604 = .ok (.iload 40, 2) := by decide +kernel
theorem dL_law_1606 : decode cL_law 1606 = .ok (.iload 36, 2) := by decide +kernel
theorem dL_law_1608 : decode cL_law 1608 = .ok (.iload 41, 2) := by decide +kernel
theorem dL_law_1610 : decode cL_law 1610 = .ok (.ishr, 1) := by decide +kernel
theorem dL_law_1611 : decode cL_law 1611 = .ok (.iconst 1, 1) := by decide +kernel
theorem dL_law_1612 : decode cL_law 1612 = .ok (.iand, 1) := by decide +kernel
theorem dL_law_1613 : decode cL_law 1613 = .ok (.iadd, 1) := by decide +kernel
theorem dL_law_1614 : decode cL_law 1614 = .ok (.istore 40, 2) := by decide +kernel
theorem dL_law_1616 : decode cL_law 1616 = .ok (.iinc 41 1, 3) := by decide +kernel
theorem dL_law_1619 : decode cL_law 1619 = .ok (.goto (-27), 3) := by decide +kernel
theorem KL_law_c1553 {σ : Scr} {self66 : Int → Mem → Option (Int × Mem)} (x371 : Int) (x372 : Int) (x373 : Int) (x374 : Int) (x375 : Int) (x376 : Int) (x377 : Int) (x378 : Int) (x379 : Int) (x380 : Int) (x381 : Int) (x382 : Int) (μ383 : Mem) (hself66 : ∀ (x11 : Int) (μ12 : Mem), Sim σ cL_law 60 RL (2000) (some .boolean) wI 66 [(0, .inr (.inr 64)), (1, .inr (.inr 0)), (2, .inr (.inr 60)), (3, .inr (.inr 61)), (4, .inr (.inr 62)), (5, .inr (.inr 63)), (6, .inl x371), (7, .inr (.inl x372)), (9, .inl x11)] [] μ12 (self66 x11 μ12)) : Sim σ cL_law 60 RL (2000) (some .boolean) wI 1553 [(0, .inr (.inr 64)), (1, .inr (.inr 0)), (2, .inr (.inr 60)), (3, .inr (.inr 61)), (4, .inr (.inr 62)), (5, .inr (.inr 63)), (6, .inl x371), (7, .inr (.inl x372)), (9, .inl x373), (10, .inl x374), (11, .inl x375), (12, .inl x376), (13, .inl x377), (14, .inl x378), (15, .inl x379), (17, .inl x380), (24, .inl x381), (35, .inl x382)] [] μ383 (fL_law_c1553 σ self66 x371 x372 x373 x374 x375 x376 x377 x378 x379 x380 x381 x382 μ383) := by
  unfold fL_law_c1553
  refine S_aload_n dL_law_1553 rfl ?_
  refine S_iload dL_law_1554 rfl ?_
  refine S_iconst dL_law_1556 rfl ?_
  refine S_callV_M2 dL_law_1557 [.inl x381, .inl 2] (K_X1_darings x381 2 μ383) l_L_127 yo_X1_darings rfl rfl rfl rfl rfl (fun x384 μ385 => ?_)
  refine S_istore (lv' := [(36, .inl x384), (0, .inr (.inr 64)), (1, .inr (.inr 0)), (2, .inr (.inr 60)), (3, .inr (.inr 61)), (4, .inr (.inr 62)), (5, .inr (.inr 63)), (6, .inl x371), (7, .inr (.inl x372)), (9, .inl x373), (10, .inl x374), (11, .inl x375), (12, .inl x376), (13, .inl x377), (14, .inl x378), (15, .inl x379), (17, .inl x380), (24, .inl x381), (35, .inl x382)]) dL_law_1560 rfl rfl ?_
  refine S_aload_n dL_law_1562 rfl ?_
  refine S_iload dL_law_1563 rfl ?_
  refine S_iconst dL_law_1565 rfl ?_
  refine S_callV_M2 dL_law_1566 [.inl x381, .inl 2] (K_X1_kinds x381 2 μ385) l_L_130 yo_X1_kinds rfl rfl rfl rfl rfl (fun x386 μ387 => ?_)
  refine S_istore (lv' := [(37, .inl x386), (36, .inl x384), (0, .inr (.inr 64)), (1, .inr (.inr 0)), (2, .inr (.inr 60)), (3, .inr (.inr 61)), (4, .inr (.inr 62)), (5, .inr (.inr 63)), (6, .inl x371), (7, .inr (.inl x372)), (9, .inl x373), (10, .inl x374), (11, .inl x375), (12, .inl x376), (13, .inl x377), (14, .inl x378), (15, .inl x379), (17, .inl x380), (24, .inl x381), (35, .inl x382)]) dL_law_1569 rfl rfl ?_
  refine S_aload_n dL_law_1571 rfl ?_
  refine S_iload dL_law_1572 rfl ?_
  refine S_iconst dL_law_1574 rfl ?_
  refine S_callV_M2 dL_law_1575 [.inl x381, .inl 2] (K_X1_look x381 2 μ387) l_L_133 yo_X1_look rfl rfl rfl rfl rfl (fun x388 μ389 => ?_)
  refine S_istore (lv' := [(38, .inl x388), (37, .inl x386), (36, .inl x384), (0, .inr (.inr 64)), (1, .inr (.inr 0)), (2, .inr (.inr 60)), (3, .inr (.inr 61)), (4, .inr (.inr 62)), (5, .inr (.inr 63)), (6, .inl x371), (7, .inr (.inl x372)), (9, .inl x373), (10, .inl x374), (11, .inl x375), (12, .inl x376), (13, .inl x377), (14, .inl x378), (15, .inl x379), (17, .inl x380), (24, .inl x381), (35, .inl x382)]) dL_law_1578 rfl rfl ?_
  refine S_aload_n dL_law_1580 rfl ?_
  refine S_callV_I dL_law_1581 [] (K_X1_asked μ389) l_L_74 yo_X1_asked rfl rfl rfl rfl rfl (fun x390 => ?_)
  refine S_istore (lv' := [(39, .inl x390), (38, .inl x388), (37, .inl x386), (36, .inl x384), (0, .inr (.inr 64)), (1, .inr (.inr 0)), (2, .inr (.inr 60)), (3, .inr (.inr 61)), (4, .inr (.inr 62)), (5, .inr (.inr 63)), (6, .inl x371), (7, .inr (.inl x372)), (9, .inl x373), (10, .inl x374), (11, .inl x375), (12, .inl x376), (13, .inl x377), (14, .inl x378), (15, .inl x379), (17, .inl x380), (24, .inl x381), (35, .inl x382)]) dL_law_1584 rfl rfl ?_
  refine S_iconst dL_law_1586 rfl ?_
  refine S_istore (lv' := [(40, .inl 0), (39, .inl x390), (38, .inl x388), (37, .inl x386), (36, .inl x384), (0, .inr (.inr 64)), (1, .inr (.inr 0)), (2, .inr (.inr 60)), (3, .inr (.inr 61)), (4, .inr (.inr 62)), (5, .inr (.inr 63)), (6, .inl x371), (7, .inr (.inl x372)), (9, .inl x373), (10, .inl x374), (11, .inl x375), (12, .inl x376), (13, .inl x377), (14, .inl x378), (15, .inl x379), (17, .inl x380), (24, .inl x381), (35, .inl x382)]) dL_law_1587 rfl rfl ?_
  refine S_iconst dL_law_1589 rfl ?_
  refine S_istore (lv' := [(41, .inl 0), (40, .inl 0), (39, .inl x390), (38, .inl x388), (37, .inl x386), (36, .inl x384), (0, .inr (.inr 64)), (1, .inr (.inr 0)), (2, .inr (.inr 60)), (3, .inr (.inr 61)), (4, .inr (.inr 62)), (5, .inr (.inr 63)), (6, .inl x371), (7, .inr (.inl x372)), (9, .inl x373), (10, .inl x374), (11, .inl x375), (12, .inl x376), (13, .inl x377), (14, .inl x378), (15, .inl x379), (17, .inl x380), (24, .inl x381), (35, .inl x382)]) dL_law_1590 rfl rfl ?_
  have hL1592 : ∀ (n393 : Nat) (x391 : Int) (x392 : Int), Sim σ cL_law 60 RL (2000) (some .boolean) wI 1592 [(0, .inr (.inr 64)), (1, .inr (.inr 0)), (2, .inr (.inr 60)), (3, .inr (.inr 61)), (4, .inr (.inr 62)), (5, .inr (.inr 63)), (6, .inl x371), (7, .inr (.inl x372)), (9, .inl x373), (10, .inl x374), (11, .inl x375), (12, .inl x376), (13, .inl x377), (14, .inl x378), (15, .inl x379), (17, .inl x380), (24, .inl x381), (35, .inl x382), (36, .inl x384), (37, .inl x386), (38, .inl x388), (39, .inl x390), (40, .inl x391), (41, .inl x392)] [] μ389 (fL_law_L1592 σ self66 x371 x372 x373 x374 x375 x376 x377 x378 x379 x380 x381 x382 x384 x386 x388 x390 μ389 n393 x391 x392) := by
    intro n393
    induction n393 with
    | zero =>
      intro x391 x392
      exact S_none rfl
    | succ n393 ih =>
      intro x391 x392
      rw [fL_law_L1592]
      refine S_iload dL_law_1592 rfl ?_
      refine S_bipush dL_law_1594 rfl (by decide) ?_
      refine S_ic_ge (tgt := 1622) dL_law_1596 (by decide) (fun h724 => ?_) (fun h724 => ?_)
      · exact S_sub [0, 1, 2, 3, 4, 5, 6, 7, 8, 9, 10, 11, 12, 13, 14, 15, 16, 17, 18, 19, 20, 21, 22] rfl (KL_law_c1622 x371 x372 x373 x374 x375 x376 x377 x378 x379 x380 x381 x382 x384 x386 x388 x390 x391 μ389 hself66)
      · refine S_iload dL_law_1599 rfl ?_
        refine S_if_eq (tgt := 1622) dL_law_1601 (by decide) (fun h723 => ?_) (fun h723 => ?_)
        · exact S_sub [0, 1, 2, 3, 4, 5, 6, 7, 8, 9, 10, 11, 12, 13, 14, 15, 16, 17, 18, 19, 20, 21, 22] rfl (KL_law_c1622 x371 x372 x373 x374 x375 x376 x377 x378 x379 x380 x381 x382 x384 x386 x388 x390 x391 μ389 hself66)
        · refine S_iload dL_law_1604 rfl ?_
          refine S_iload dL_law_1606 rfl ?_
          refine S_iload dL_law_1608 rfl ?_
          refine S_ishr dL_law_1610 ?_
          refine S_iconst dL_law_1611 rfl ?_
          refine S_iand dL_law_1612 ?_
          refine S_iadd dL_law_1613 ?_
          refine S_let (fun x721 => ?_)
          refine S_istore (lv' := [(40, .inl x721), (0, .inr (.inr 64)), (1, .inr (.inr 0)), (2, .inr (.inr 60)), (3, .inr (.inr 61)), (4, .inr (.inr 62)), (5, .inr (.inr 63)), (6, .inl x371), (7, .inr (.inl x372)), (9, .inl x373), (10, .inl x374), (11, .inl x375), (12, .inl x376), (13, .inl x377), (14, .inl x378), (15, .inl x379), (17, .inl x380), (24, .inl x381), (35, .inl x382), (36, .inl x384), (37, .inl x386), (38, .inl x388), (39, .inl x390), (41, .inl x392)]) dL_law_1614 rfl rfl ?_
          refine S_iinc (lv' := fun x722 => [(41, .inl x722), (40, .inl x721), (0, .inr (.inr 64)), (1, .inr (.inr 0)), (2, .inr (.inr 60)), (3, .inr (.inr 61)), (4, .inr (.inr 62)), (5, .inr (.inr 63)), (6, .inl x371), (7, .inr (.inl x372)), (9, .inl x373), (10, .inl x374), (11, .inl x375), (12, .inl x376), (13, .inl x377), (14, .inl x378), (15, .inl x379), (17, .inl x380), (24, .inl x381), (35, .inl x382), (36, .inl x384), (37, .inl x386), (38, .inl x388), (39, .inl x390)]) dL_law_1616 rfl rfl rfl (fun _ => rfl) (fun x722 => ?_)
          refine S_goto (tgt := 1592) dL_law_1619 (by decide) ?_
          exact S_sub [2, 3, 4, 5, 6, 7, 8, 9, 10, 11, 12, 13, 14, 15, 16, 17, 18, 19, 20, 21, 22, 23, 1, 0] rfl (ih x721 x722)
  exact S_sub [6, 7, 8, 9, 10, 11, 12, 13, 14, 15, 16, 17, 18, 19, 20, 21, 22, 23, 5, 4, 3, 2, 1, 0] rfl (hL1592 fuel 0 0)
def fL_law_c1530 (σ : Scr) (self66 : Int → Mem → Option (Int × Mem)) (x354 : Int) (x355 : Int) (x356 : Int) (x357 : Int) (x358 : Int) (x359 : Int) (x360 : Int) (x361 : Int) (x362 : Int) (x363 : Int) (x364 : Int) (x365 : Int) (x366 : Int) (μ367 : Mem) : Option (Int × Mem) :=
  bnd2 (fX1_undo x358 μ367) fun x368 μ369 =>
  if ¬ x368 = x365 then
    some (0, μ369)
  else
    (fX1_count 5 μ369).bind fun x370 =>
    if x370 = x361 then
      fL_law_c1553 σ self66 x354 x355 x356 x357 x358 x359 x360 x361 x362 x363 x364 x366 μ369
    else
      some (0, μ369)
theorem dL_law_1530 : decode cL_law 1530 = .ok (.aload_n 1, 1) := by decide +kernel
theorem dL_law_1531 : decode cL_law 1531 = .ok (.iload 11, 2) := by decide +kernel
theorem dL_law_1533 : decode cL_law 1533 = .ok (.invokevirtual 100, 3) := by decide +kernel
theorem dL_law_1536 : decode cL_law 1536 = .ok (.iload 34, 2) := by decide +kernel
theorem dL_law_1538 : decode cL_law 1538 = .ok (.if_icmp .ne 13, 3) := by decide +kernel
theorem dL_law_1541 : decode cL_law 1541 = .ok (.aload_n 1, 1) := by decide +kernel
theorem dL_law_1542 : decode cL_law 1542 = .ok (.iconst 5, 1) := by decide +kernel
theorem dL_law_1543 : decode cL_law 1543 = .ok (.invokevirtual 92, 3) := by decide +kernel
theorem dL_law_1546 : decode cL_law 1546 = .ok (.iload 14, 2) := by decide +kernel
theorem dL_law_1548 : decode cL_law 1548 = .ok (.if_icmp .eq 5, 3) := by decide +kernel
theorem dL_law_1551 : decode cL_law 1551 = .ok (.iconst 0, 1) := by decide +kernel
theorem dL_law_1552 : decode cL_law 1552 = .ok (.ireturn, 1) := by decide +kernel
theorem KL_law_c1530 {σ : Scr} {self66 : Int → Mem → Option (Int × Mem)} (x354 : Int) (x355 : Int) (x356 : Int) (x357 : Int) (x358 : Int) (x359 : Int) (x360 : Int) (x361 : Int) (x362 : Int) (x363 : Int) (x364 : Int) (x365 : Int) (x366 : Int) (μ367 : Mem) (hself66 : ∀ (x11 : Int) (μ12 : Mem), Sim σ cL_law 60 RL (2000) (some .boolean) wI 66 [(0, .inr (.inr 64)), (1, .inr (.inr 0)), (2, .inr (.inr 60)), (3, .inr (.inr 61)), (4, .inr (.inr 62)), (5, .inr (.inr 63)), (6, .inl x354), (7, .inr (.inl x355)), (9, .inl x11)] [] μ12 (self66 x11 μ12)) : Sim σ cL_law 60 RL (2000) (some .boolean) wI 1530 [(0, .inr (.inr 64)), (1, .inr (.inr 0)), (2, .inr (.inr 60)), (3, .inr (.inr 61)), (4, .inr (.inr 62)), (5, .inr (.inr 63)), (6, .inl x354), (7, .inr (.inl x355)), (9, .inl x356), (10, .inl x357), (11, .inl x358), (12, .inl x359), (13, .inl x360), (14, .inl x361), (15, .inl x362), (17, .inl x363), (24, .inl x364), (34, .inl x365), (35, .inl x366)] [] μ367 (fL_law_c1530 σ self66 x354 x355 x356 x357 x358 x359 x360 x361 x362 x363 x364 x365 x366 μ367) := by
  unfold fL_law_c1530
  refine S_aload_n dL_law_1530 rfl ?_
  refine S_iload dL_law_1531 rfl ?_
  refine S_callV_M2 dL_law_1533 [.inl x358] (K_X1_undo x358 μ367) l_L_100 yo_X1_undo rfl rfl rfl rfl rfl (fun x368 μ369 => ?_)
  refine S_iload dL_law_1536 rfl ?_
  refine S_ic_ne (tgt := 1551) dL_law_1538 (by decide) (fun h726 => ?_) (fun h726 => ?_)
  · refine S_iconst dL_law_1551 rfl ?_
    exact S_zret dL_law_1552 rfl (by decide) rfl
  · refine S_aload_n dL_law_1541 rfl ?_
    refine S_iconst dL_law_1542 rfl ?_
    refine S_callV_I dL_law_1543 [.inl 5] (K_X1_count 5 μ369) l_L_92 yo_X1_count rfl rfl rfl rfl rfl (fun x370 => ?_)
    refine S_iload dL_law_1546 rfl ?_
    refine S_ic_eq (tgt := 1553) dL_law_1548 (by decide) (fun h725 => ?_) (fun h725 => ?_)
    · exact S_sub [0, 1, 2, 3, 4, 5, 6, 7, 8, 9, 10, 11, 12, 13, 14, 15, 16, 18] rfl (KL_law_c1553 x354 x355 x356 x357 x358 x359 x360 x361 x362 x363 x364 x366 μ369 hself66)
    · refine S_iconst dL_law_1551 rfl ?_
      exact S_zret dL_law_1552 rfl (by decide) rfl
def fL_law_L1479 (x347 : Int) (σ : Scr) (self66 : Int → Mem → Option (Int × Mem)) (x336 : Int) (x337 : Int) (x338 : Int) (x339 : Int) (x340 : Int) (x341 : Int) (x342 : Int) (x343 : Int) (x344 : Int) (x345 : Int) (x346 : Int) : Nat → Int → Int → Mem → Option (Int × Mem)
  | 0, _, _, _ => none
  | n353 + 1, x350, x351, μ352 =>
    if x347 ≤ x351 then
      fL_law_c1530 σ self66 x336 x337 x338 x339 x340 x341 x342 x343 x344 x345 x346 x347 x350 μ352
    else
      bnd2 (fX1_night μ352) fun x727 μ728 =>
      mlet (fun (x729 : Int) =>
        bnd2 (fX1_lay 2 x351 x727 μ728) fun x731 μ732 =>
        if x731 = 1 then
          mlet (w32 (x351 + 1)) fun x733 =>
          fL_law_L1479 x347 σ self66 x336 x337 x338 x339 x340 x341 x342 x343 x344 x345 x346 n353 x729 x733 μ732
        else
          some (0, μ732)
        ) fun (K730 : Int → Option (Int × Mem)) =>
      mlet (
        K730 0
        : Option (Int × Mem)) fun (K735 : Option (Int × Mem)) =>
      if x350 = 0 then
        K735
      else
        if x727 < 0 then
          K735
        else
          K730 1
def fL_law_c1476 (σ : Scr) (self66 : Int → Mem → Option (Int × Mem)) (x336 : Int) (x337 : Int) (x338 : Int) (x339 : Int) (x340 : Int) (x341 : Int) (x342 : Int) (x343 : Int) (x344 : Int) (x345 : Int) (x346 : Int) (x347 : Int) (x348 : Int) (μ349 : Mem) : Option (Int × Mem) :=
  fL_law_L1479 x347 σ self66 x336 x337 x338 x339 x340 x341 x342 x343 x344 x345 x346 fuel x348 0 μ349
theorem dL_law_1476 : decode cL_law 1476 = .ok (.iconst 0, 1) := by decide +kernel
theorem dL_law_1477 : decode cL_law 1477 = .ok (.istore 36, 2) := by decide +kernel
theorem dL_law_1479 : decode cL_law 1479 = .ok (.iload 36, 2) := by decide +kernel
theorem dL_law_1481 : decode cL_law 1481 = .ok (.iload 34, 2) := by decide +kernel
theorem dL_law_1483 : decode cL_law 1483 = .ok (.if_icmp .ge 47, 3) := by decide +kernel
theorem dL_law_1486 : decode cL_law 1486 = .ok (.aload_n 1, 1) := by decide +kernel
theorem dL_law_1487 : decode cL_law 1487 = .ok (.invokevirtual 59, 3) := by decide +kernel
theorem dL_law_1490 : decode cL_law 1490 = .ok (.istore 37, 2) := by decide +kernel
theorem dL_law_1492 : decode cL_law 1492 = .ok (.iload 35, 2) := by decide +kernel
theorem dL_law_1494 : decode cL_law 1494 = .ok (.ifCond .eq 12, 3) := by decide +kernel
theorem dL_law_1497 : decode cL_law 1497 = .ok (.iload 37, 2) := by decide +kernel
theorem dL_law_1499 : decode cL_law 1499 = .ok (.ifCond .lt 7, 3) := by decide +kernel
theorem dL_law_1502 : decode cL_law 1502 = .ok (.iconst 1, 1) := by decide +kernel
theorem dL_law_1503 : decode cL_law 1503 = .ok (.goto 4, 3) := by decide +kernel
theorem dL_law_1506 : decode cL_law 1506 = .ok (.iconst 0, 1) := by decide +kernel
theorem dL_law_1507 : decode cL_law 1507 = .ok (.istore 35, 2) := by decide +kernel
theorem dL_law_1509 : decode cL_law 1509 = .ok (.aload_n 1, 1) := by decide +kernel
theorem dL_law_1510 : decode cL_law 1510 = .ok (.iconst 2, 1) := by decide +kernel
theorem dL_law_1511 : decode cL_law 1511 = .ok (.iload 36, 2) := by decide +kernel
theorem dL_law_1513 : decode cL_law 1513 = .ok (.iload 37, 2) := by decide +kernel
theorem dL_law_1515 : decode cL_law 1515 = .ok (.invokevirtual 124, 3) := by decide +kernel
theorem dL_law_1518 : decode cL_law 1518 = .ok (.iconst 1, 1) := by decide +kernel
theorem dL_law_1519 : decode cL_law 1519 = .ok (.if_icmp .eq 5, 3) := by decide +kernel
theorem dL_law_1522 : decode cL_law 1522 = .ok (.iconst 0, 1) := by decide +kernel
theorem dL_law_1523 : decode cL_law 1523 = .ok (.ireturn, 1) := by decide +kernel
theorem dL_law_1524 : decode cL_law 1524 = .ok (.iinc 36 1, 3) := by decide +kernel
theorem dL_law_1527 : decode cL_law 1527 = .ok (.goto (-48), 3) := by decide +kernel
theorem KL_law_c1476 {σ : Scr} {self66 : Int → Mem → Option (Int × Mem)} (x336 : Int) (x337 : Int) (x338 : Int) (x339 : Int) (x340 : Int) (x341 : Int) (x342 : Int) (x343 : Int) (x344 : Int) (x345 : Int) (x346 : Int) (x347 : Int) (x348 : Int) (μ349 : Mem) (hself66 : ∀ (x11 : Int) (μ12 : Mem), Sim σ cL_law 60 RL (2000) (some .boolean) wI 66 [(0, .inr (.inr 64)), (1, .inr (.inr 0)), (2, .inr (.inr 60)), (3, .inr (.inr 61)), (4, .inr (.inr 62)), (5, .inr (.inr 63)), (6, .inl x336), (7, .inr (.inl x337)), (9, .inl x11)] [] μ12 (self66 x11 μ12)) : Sim σ cL_law 60 RL (2000) (some .boolean) wI 1476 [(0, .inr (.inr 64)), (1, .inr (.inr 0)), (2, .inr (.inr 60)), (3, .inr (.inr 61)), (4, .inr (.inr 62)), (5, .inr (.inr 63)), (6, .inl x336), (7, .inr (.inl x337)), (9, .inl x338), (10, .inl x339), (11, .inl x340), (12, .inl x341), (13, .inl x342), (14, .inl x343), (15, .inl x344), (17, .inl x345), (24, .inl x346), (34, .inl x347), (35, .inl x348)] [] μ349 (fL_law_c1476 σ self66 x336 x337 x338 x339 x340 x341 x342 x343 x344 x345 x346 x347 x348 μ349) := by
  unfold fL_law_c1476
  refine S_iconst dL_law_1476 rfl ?_
  refine S_istore (lv' := [(36, .inl 0), (0, .inr (.inr 64)), (1, .inr (.inr 0)), (2, .inr (.inr 60)), (3, .inr (.inr 61)), (4, .inr (.inr 62)), (5, .inr (.inr 63)), (6, .inl x336), (7, .inr (.inl x337)), (9, .inl x338), (10, .inl x339), (11, .inl x340), (12, .inl x341), (13, .inl x342), (14, .inl x343), (15, .inl x344), (17, .inl x345), (24, .inl x346), (34, .inl x347), (35, .inl x348)]) dL_law_1477 rfl rfl ?_
  have hL1479 : ∀ (n353 : Nat) (x350 : Int) (x351 : Int) (μ352 : Mem), Sim σ cL_law 60 RL (2000) (some .boolean) wI 1479 [(0, .inr (.inr 64)), (1, .inr (.inr 0)), (2, .inr (.inr 60)), (3, .inr (.inr 61)), (4, .inr (.inr 62)), (5, .inr (.inr 63)), (6, .inl x336), (7, .inr (.inl x337)), (9, .inl x338), (10, .inl x339), (11, .inl x340), (12, .inl x341), (13, .inl x342), (14, .inl x343), (15, .inl x344), (17, .inl x345), (24, .inl x346), (34, .inl x347), (35, .inl x350), (36, .inl x351)] [] μ352 (fL_law_L1479 x347 σ self66 x336 x337 x338 x339 x340 x341 x342 x343 x344 x345 x346 n353 x350 x351 μ352) := by
    intro n353
    induction n353 with
    | zero =>
      intro x350 x351 μ352
      exact S_none rfl
    | succ n353 ih =>
      intro x350 x351 μ352
      rw [fL_law_L1479]
      refine S_iload dL_law_1479 rfl ?_
      refine S_iload dL_law_1481 rfl ?_
      refine S_ic_ge (tgt := 1530) dL_law_1483 (by decide) (fun h738 => ?_) (fun h738 => ?_)
      · exact S_sub [0, 1, 2, 3, 4, 5, 6, 7, 8, 9, 10, 11, 12, 13, 14, 15, 16, 17, 18] rfl (KL_law_c1530 x336 x337 x338 x339 x340 x341 x342 x343 x344 x345 x346 x347 x350 μ352 hself66)
      · refine S_aload_n dL_law_1486 rfl ?_
        refine S_callV_M2 dL_law_1487 [] (K_X1_night μ352) l_L_59 yo_X1_night rfl rfl rfl rfl rfl (fun x727 μ728 => ?_)
        refine S_istore (lv' := [(37, .inl x727), (0, .inr (.inr 64)), (1, .inr (.inr 0)), (2, .inr (.inr 60)), (3, .inr (.inr 61)), (4, .inr (.inr 62)), (5, .inr (.inr 63)), (6, .inl x336), (7, .inr (.inl x337)), (9, .inl x338), (10, .inl x339), (11, .inl x340), (12, .inl x341), (13, .inl x342), (14, .inl x343), (15, .inl x344), (17, .inl x345), (24, .inl x346), (34, .inl x347), (35, .inl x350), (36, .inl x351)]) dL_law_1490 rfl rfl ?_
        refine S_iload dL_law_1492 rfl ?_
        refine S_jn (fun (K730 : Int → Option (Int × Mem)) => ∀ (x729 : Int), Sim σ cL_law 60 RL (2000) (some .boolean) wI 1507 [(0, .inr (.inr 64)), (1, .inr (.inr 0)), (2, .inr (.inr 60)), (3, .inr (.inr 61)), (4, .inr (.inr 62)), (5, .inr (.inr 63)), (6, .inl x336), (7, .inr (.inl x337)), (9, .inl x338), (10, .inl x339), (11, .inl x340), (12, .inl x341), (13, .inl x342), (14, .inl x343), (15, .inl x344), (17, .inl x345), (24, .inl x346), (34, .inl x347), (36, .inl x351), (37, .inl x727)] [.inl x729] μ728 (K730 x729)) ?_ (fun K730 hK730 => ?_)
        · intro x729
          refine S_istore (lv' := [(35, .inl x729), (0, .inr (.inr 64)), (1, .inr (.inr 0)), (2, .inr (.inr 60)), (3, .inr (.inr 61)), (4, .inr (.inr 62)), (5, .inr (.inr 63)), (6, .inl x336), (7, .inr (.inl x337)), (9, .inl x338), (10, .inl x339), (11, .inl x340), (12, .inl x341), (13, .inl x342), (14, .inl x343), (15, .inl x344), (17, .inl x345), (24, .inl x346), (34, .inl x347), (36, .inl x351), (37, .inl x727)]) dL_law_1507 rfl rfl ?_
          refine S_aload_n dL_law_1509 rfl ?_
          refine S_iconst dL_law_1510 rfl ?_
          refine S_iload dL_law_1511 rfl ?_
          refine S_iload dL_law_1513 rfl ?_
          refine S_callV_M2 dL_law_1515 [.inl 2, .inl x351, .inl x727] (K_X1_lay 2 x351 x727 μ728) l_L_124 yo_X1_lay rfl rfl rfl rfl rfl (fun x731 μ732 => ?_)
          refine S_iconst dL_law_1518 rfl ?_
          refine S_ic_eq (tgt := 1524) dL_law_1519 (by decide) (fun h734 => ?_) (fun h734 => ?_)
          · refine S_iinc (lv' := fun x733 => [(36, .inl x733), (35, .inl x729), (0, .inr (.inr 64)), (1, .inr (.inr 0)), (2, .inr (.inr 60)), (3, .inr (.inr 61)), (4, .inr (.inr 62)), (5, .inr (.inr 63)), (6, .inl x336), (7, .inr (.inl x337)), (9, .inl x338), (10, .inl x339), (11, .inl x340), (12, .inl x341), (13, .inl x342), (14, .inl x343), (15, .inl x344), (17, .inl x345), (24, .inl x346), (34, .inl x347), (37, .inl x727)]) dL_law_1524 rfl rfl rfl (fun _ => rfl) (fun x733 => ?_)
            refine S_goto (tgt := 1479) dL_law_1527 (by decide) ?_
            exact S_sub [2, 3, 4, 5, 6, 7, 8, 9, 10, 11, 12, 13, 14, 15, 16, 17, 18, 19, 1, 0] rfl (ih x729 x733 μ732)
          · refine S_iconst dL_law_1522 rfl ?_
            exact S_zret dL_law_1523 rfl (by decide) rfl
        refine S_jn (fun (K735 : Option (Int × Mem)) => Sim σ cL_law 60 RL (2000) (some .boolean) wI 1506 [(0, .inr (.inr 64)), (1, .inr (.inr 0)), (2, .inr (.inr 60)), (3, .inr (.inr 61)), (4, .inr (.inr 62)), (5, .inr (.inr 63)), (6, .inl x336), (7, .inr (.inl x337)), (9, .inl x338), (10, .inl x339), (11, .inl x340), (12, .inl x341), (13, .inl x342), (14, .inl x343), (15, .inl x344), (17, .inl x345), (24, .inl x346), (34, .inl x347), (36, .inl x351), (37, .inl x727)] [] μ728 K735) ?_ (fun K735 hK735 => ?_)
        · skip
          refine S_iconst dL_law_1506 rfl ?_
          exact S_sub [0, 1, 2, 3, 4, 5, 6, 7, 8, 9, 10, 11, 12, 13, 14, 15, 16, 17, 18, 19] rfl (hK730 0)
        refine S_if_eq (tgt := 1506) dL_law_1494 (by decide) (fun h737 => ?_) (fun h737 => ?_)
        · exact S_sub [1, 2, 3, 4, 5, 6, 7, 8, 9, 10, 11, 12, 13, 14, 15, 16, 17, 18, 20, 0] rfl (hK735)
        · refine S_iload dL_law_1497 rfl ?_
          refine S_if_lt (tgt := 1506) dL_law_1499 (by decide) (fun h736 => ?_) (fun h736 => ?_)
          · exact S_sub [1, 2, 3, 4, 5, 6, 7, 8, 9, 10, 11, 12, 13, 14, 15, 16, 17, 18, 20, 0] rfl (hK735)
          · refine S_iconst dL_law_1502 rfl ?_
            refine S_goto (tgt := 1507) dL_law_1503 (by decide) ?_
            exact S_sub [1, 2, 3, 4, 5, 6, 7, 8, 9, 10, 11, 12, 13, 14, 15, 16, 17, 18, 20, 0] rfl (hK730 1)
  exact S_sub [1, 2, 3, 4, 5, 6, 7, 8, 9, 10, 11, 12, 13, 14, 15, 16, 17, 18, 19, 0] rfl (hL1479 fuel x348 0 μ349)
def fL_law_c1445 (σ : Scr) (self66 : Int → Mem → Option (Int × Mem)) (x320 : Int) (x321 : Int) (x322 : Int) (x323 : Int) (x324 : Int) (x325 : Int) (x326 : Int) (x327 : Int) (x328 : Int) (x329 : Int) (x330 : Int) (μ331 : Mem) : Option (Int × Mem) :=
  (fL_low (bshr x323 8) 8 μ331).bind fun x332 =>
  mlet ((w32 (1 + x332))) fun x333 =>
  bnd2 (fX1_row 2 x333 μ331) fun x334 μ335 =>
  if x334 = x333 then
    fL_law_c1476 σ self66 x320 x321 x322 x323 x324 x325 x326 x327 x328 x329 x330 x333 1 μ335
  else
    some (0, μ335)
theorem dL_law_1445 : decode cL_law 1445 = .ok (.iconst 1, 1) := by decide +kernel
theorem dL_law_1446 : decode cL_law 1446 = .ok (.iload 10, 2) := by decide +kernel
theorem dL_law_1448 : decode cL_law 1448 = .ok (.bipush 8, 2) := by decide +kernel
theorem dL_law_1450 : decode cL_law 1450 = .ok (.ishr, 1) := by decide +kernel
theorem dL_law_1451 : decode cL_law 1451 = .ok (.bipush 8, 2) := by decide +kernel
theorem dL_law_1453 : decode cL_law 1453 = .ok (.invokestatic 15, 3) := by decide +kernel
theorem dL_law_1456 : decode cL_law 1456 = .ok (.iadd, 1) := by decide +kernel
theorem dL_law_1457 : decode cL_law 1457 = .ok (.istore 34, 2) := by decide +kernel
theorem dL_law_1459 : decode cL_law 1459 = .ok (.iconst 1, 1) := by decide +kernel
theorem dL_law_1460 : decode cL_law 1460 = .ok (.istore 35, 2) := by decide +kernel
theorem dL_law_1462 : decode cL_law 1462 = .ok (.aload_n 1, 1) := by decide +kernel
theorem dL_law_1463 : decode cL_law 1463 = .ok (.iconst 2, 1) := by decide +kernel
theorem dL_law_1464 : decode cL_law 1464 = .ok (.iload 34, 2) := by decide +kernel
theorem dL_law_1466 : decode cL_law 1466 = .ok (.invokevirtual 121, 3) := by decide +kernel
theorem dL_law_1469 : decode cL_law 1469 = .ok (.iload 34, 2) := by decide +kernel
theorem dL_law_1471 : decode cL_law 1471 = .ok (.if_icmp .eq 5, 3) := by decide +kernel
theorem dL_law_1474 : decode cL_law 1474 = .ok (.iconst 0, 1) := by decide +kernel
theorem dL_law_1475 : decode cL_law 1475 = .ok (.ireturn, 1) := by decide +kernel
theorem KL_law_c1445 {σ : Scr} {self66 : Int → Mem → Option (Int × Mem)} (x320 : Int) (x321 : Int) (x322 : Int) (x323 : Int) (x324 : Int) (x325 : Int) (x326 : Int) (x327 : Int) (x328 : Int) (x329 : Int) (x330 : Int) (μ331 : Mem) (hself66 : ∀ (x11 : Int) (μ12 : Mem), Sim σ cL_law 60 RL (2000) (some .boolean) wI 66 [(0, .inr (.inr 64)), (1, .inr (.inr 0)), (2, .inr (.inr 60)), (3, .inr (.inr 61)), (4, .inr (.inr 62)), (5, .inr (.inr 63)), (6, .inl x320), (7, .inr (.inl x321)), (9, .inl x11)] [] μ12 (self66 x11 μ12)) : Sim σ cL_law 60 RL (2000) (some .boolean) wI 1445 [(0, .inr (.inr 64)), (1, .inr (.inr 0)), (2, .inr (.inr 60)), (3, .inr (.inr 61)), (4, .inr (.inr 62)), (5, .inr (.inr 63)), (6, .inl x320), (7, .inr (.inl x321)), (9, .inl x322), (10, .inl x323), (11, .inl x324), (12, .inl x325), (13, .inl x326), (14, .inl x327), (15, .inl x328), (17, .inl x329), (24, .inl x330)] [] μ331 (fL_law_c1445 σ self66 x320 x321 x322 x323 x324 x325 x326 x327 x328 x329 x330 μ331) := by
  unfold fL_law_c1445
  refine S_iconst dL_law_1445 rfl ?_
  refine S_iload dL_law_1446 rfl ?_
  refine S_bipush dL_law_1448 rfl (by decide) ?_
  refine S_ishr dL_law_1450 ?_
  refine S_bipush dL_law_1451 rfl (by decide) ?_
  refine S_callS_I dL_law_1453 [.inl (bshr x323 8), .inl 8] (K_L_low (bshr x323 8) 8 μ331) l_L_15 yo_L_low rfl rfl rfl (fun x332 => ?_)
  refine S_iadd dL_law_1456 ?_
  refine S_let (fun x333 => ?_)
  refine S_istore (lv' := [(34, .inl x333), (0, .inr (.inr 64)), (1, .inr (.inr 0)), (2, .inr (.inr 60)), (3, .inr (.inr 61)), (4, .inr (.inr 62)), (5, .inr (.inr 63)), (6, .inl x320), (7, .inr (.inl x321)), (9, .inl x322), (10, .inl x323), (11, .inl x324), (12, .inl x325), (13, .inl x326), (14, .inl x327), (15, .inl x328), (17, .inl x329), (24, .inl x330)]) dL_law_1457 rfl rfl ?_
  refine S_iconst dL_law_1459 rfl ?_
  refine S_istore (lv' := [(35, .inl 1), (34, .inl x333), (0, .inr (.inr 64)), (1, .inr (.inr 0)), (2, .inr (.inr 60)), (3, .inr (.inr 61)), (4, .inr (.inr 62)), (5, .inr (.inr 63)), (6, .inl x320), (7, .inr (.inl x321)), (9, .inl x322), (10, .inl x323), (11, .inl x324), (12, .inl x325), (13, .inl x326), (14, .inl x327), (15, .inl x328), (17, .inl x329), (24, .inl x330)]) dL_law_1460 rfl rfl ?_
  refine S_aload_n dL_law_1462 rfl ?_
  refine S_iconst dL_law_1463 rfl ?_
  refine S_iload dL_law_1464 rfl ?_
  refine S_callV_M2 dL_law_1466 [.inl 2, .inl x333] (K_X1_row 2 x333 μ331) l_L_121 yo_X1_row rfl rfl rfl rfl rfl (fun x334 μ335 => ?_)
  refine S_iload dL_law_1469 rfl ?_
  refine S_ic_eq (tgt := 1476) dL_law_1471 (by decide) (fun h739 => ?_) (fun h739 => ?_)
  · exact S_sub [2, 3, 4, 5, 6, 7, 8, 9, 10, 11, 12, 13, 14, 15, 16, 17, 18, 1, 0] rfl (KL_law_c1476 x320 x321 x322 x323 x324 x325 x326 x327 x328 x329 x330 x333 1 μ335 hself66)
  · refine S_iconst dL_law_1474 rfl ?_
    exact S_zret dL_law_1475 rfl (by decide) rfl
def fL_law_c1398 (σ : Scr) (self66 : Int → Mem → Option (Int × Mem)) (x305 : Int) (x306 : Int) (x307 : Int) (x308 : Int) (x309 : Int) (x310 : Int) (x311 : Int) (x312 : Int) (x313 : Int) (x314 : Int) (x315 : Int) (x316 : Int) (x317 : Int) (x318 : Int) (μ319 : Mem) : Option (Int × Mem) :=
  if x317 < 0 then
    fL_law_c1445 σ self66 x305 x306 x307 x308 x309 x310 x311 x312 x313 x314 x315 μ319
  else
    if ¬ x318 = x317 then
      some (0, μ319)
    else
      (fX1_count 4 μ319).bind fun x740 =>
      if ¬ x740 = (bshl 1 x315) then
        some (0, μ319)
      else
        bnd2 (fX1_undo x309 μ319) fun x741 μ742 =>
        if ¬ x741 = x316 then
          some (0, μ742)
        else
          (fX1_count 5 μ742).bind fun x743 =>
          if x743 = x312 then
            fL_law_c1445 σ self66 x305 x306 x307 x308 x309 x310 x311 x312 x313 x314 x315 μ742
          else
            some (0, μ742)
theorem dL_law_1398 : decode cL_law 1398 = .ok (.iload 32, 2) := by decide +kernel
theorem dL_law_1400 : decode cL_law 1400 = .ok (.ifCond .lt 45, 3) := by decide +kernel
theorem dL_law_1403 : decode cL_law 1403 = .ok (.iload 33, 2) := by decide +kernel
theorem dL_law_1405 : decode cL_law 1405 = .ok (.iload 32, 2) := by decide +kernel
theorem dL_law_1407 : decode cL_law 1407 = .ok (.if_icmp .ne 36, 3) := by decide +kernel
theorem dL_law_1410 : decode cL_law 1410 = .ok (.aload_n 1, 1) := by decide +kernel
theorem dL_law_1411 : decode cL_law 1411 = .ok (.iconst 4, 1) := by decide +kernel
theorem dL_law_1412 : decode cL_law 1412 = .ok (.invokevirtual 92, 3) := by decide +kernel
theorem dL_law_1415 : decode cL_law 1415 = .ok (.iconst 1, 1) := by decide +kernel
theorem dL_law_1416 : decode cL_law 1416 = .ok (.iload 24, 2) := by decide +kernel
theorem dL_law_1418 : decode cL_law 1418 = .ok (.ishl, 1) := by decide +kernel
theorem dL_law_1419 : decode cL_law 1419 = .ok (.if_icmp .ne 24, 3) := by decide +kernel
theorem dL_law_1422 : decode cL_law 1422 = .ok (.aload_n 1, 1) := by decide +kernel
theorem dL_law_1423 : decode cL_law 1423 = .ok (.iload 11, 2) := by decide +kernel
theorem dL_law_1425 : decode cL_law 1425 = .ok (.invokevirtual 100, 3) := by decide +kernel
theorem dL_law_1428 : decode cL_law 1428 = .ok (.iload 31, 2) := by decide +kernel
theorem dL_law_1430 : decode cL_law 1430 = .ok (.if_icmp .ne 13, 3) := by decide +kernel
theorem dL_law_1433 : decode cL_law 1433 = .ok (.aload_n 1, 1) := by decide +kernel
theorem dL_law_1434 : decode cL_law 1434 = .ok (.iconst 5, 1) := by decide +kernel
theorem dL_law_1435 : decode cL_law 1435 = .ok (.invokevirtual 92, 3) := by decide +kernel
theorem dL_law_1438 : decode cL_law 1438 = .ok (.iload 14, 2) := by decide +kernel
theorem dL_law_1440 : decode cL_law 1440 = .ok (.if_icmp .eq 5, 3) := by decide +kernel
theorem dL_law_1443 : decode cL_law 1443 = .ok (.iconst 0, 1) := by decide +kernel
theorem dL_law_1444 : decode cL_law 1444 = .ok (.ireturn, 1) := by decide +kernel
theorem KL_law_c1398 {σ : Scr} {self66 : Int → Mem → Option (Int × Mem)} (x305 : Int) (x306 : Int) (x307 : Int) (x308 : Int) (x309 : Int) (x310 : Int) (x311 : Int) (x312 : Int) (x313 : Int) (x314 : Int) (x315 : Int) (x316 : Int) (x317 : Int) (x318 : Int) (μ319 : Mem) (hself66 : ∀ (x11 : Int) (μ12 : Mem), Sim σ cL_law 60 RL (2000) (some .boolean) wI 66 [(0, .inr (.inr 64)), (1, .inr (.inr 0)), (2, .inr (.inr 60)), (3, .inr (.inr 61)), (4, .inr (.inr 62)), (5, .inr (.inr 63)), (6, .inl x305), (7, .inr (.inl x306)), (9, .inl x11)] [] μ12 (self66 x11 μ12)) : Sim σ cL_law 60 RL (2000) (some .boolean) wI 1398 [(0, .inr (.inr 64)), (1, .inr (.inr 0)), (2, .inr (.inr 60)), (3, .inr (.inr 61)), (4, .inr (.inr 62)), (5, .inr (.inr 63)), (6, .inl x305), (7, .inr (.inl x306)), (9, .inl x307), (10, .inl x308), (11, .inl x309), (12, .inl x310), (13, .inl x311), (14, .inl x312), (15, .inl x313), (17, .inl x314), (24, .inl x315), (31, .inl x316), (32, .inl x317), (33, .inl x318)] [] μ319 (fL_law_c1398 σ self66 x305 x306 x307 x308 x309 x310 x311 x312 x313 x314 x315 x316 x317 x318 μ319) := by
  unfold fL_law_c1398
  refine S_iload dL_law_1398 rfl ?_
  refine S_if_lt (tgt := 1445) dL_law_1400 (by decide) (fun h748 => ?_) (fun h748 => ?_)
  · exact S_sub [0, 1, 2, 3, 4, 5, 6, 7, 8, 9, 10, 11, 12, 13, 14, 15, 16] rfl (KL_law_c1445 x305 x306 x307 x308 x309 x310 x311 x312 x313 x314 x315 μ319 hself66)
  · refine S_iload dL_law_1403 rfl ?_
    refine S_iload dL_law_1405 rfl ?_
    refine S_ic_ne (tgt := 1443) dL_law_1407 (by decide) (fun h747 => ?_) (fun h747 => ?_)
    · refine S_iconst dL_law_1443 rfl ?_
      exact S_zret dL_law_1444 rfl (by decide) rfl
    · refine S_aload_n dL_law_1410 rfl ?_
      refine S_iconst dL_law_1411 rfl ?_
      refine S_callV_I dL_law_1412 [.inl 4] (K_X1_count 4 μ319) l_L_92 yo_X1_count rfl rfl rfl rfl rfl (fun x740 => ?_)
      refine S_iconst dL_law_1415 rfl ?_
      refine S_iload dL_law_1416 rfl ?_
      refine S_ishl dL_law_1418 ?_
      refine S_ic_ne (tgt := 1443) dL_law_1419 (by decide) (fun h746 => ?_) (fun h746 => ?_)
      · refine S_iconst dL_law_1443 rfl ?_
        exact S_zret dL_law_1444 rfl (by decide) rfl
      · refine S_aload_n dL_law_1422 rfl ?_
        refine S_iload dL_law_1423 rfl ?_
        refine S_callV_M2 dL_law_1425 [.inl x309] (K_X1_undo x309 μ319) l_L_100 yo_X1_undo rfl rfl rfl rfl rfl (fun x741 μ742 => ?_)
        refine S_iload dL_law_1428 rfl ?_
        refine S_ic_ne (tgt := 1443) dL_law_1430 (by decide) (fun h745 => ?_) (fun h745 => ?_)
        · refine S_iconst dL_law_1443 rfl ?_
          exact S_zret dL_law_1444 rfl (by decide) rfl
        · refine S_aload_n dL_law_1433 rfl ?_
          refine S_iconst dL_law_1434 rfl ?_
          refine S_callV_I dL_law_1435 [.inl 5] (K_X1_count 5 μ742) l_L_92 yo_X1_count rfl rfl rfl rfl rfl (fun x743 => ?_)
          refine S_iload dL_law_1438 rfl ?_
          refine S_ic_eq (tgt := 1445) dL_law_1440 (by decide) (fun h744 => ?_) (fun h744 => ?_)
          · exact S_sub [0, 1, 2, 3, 4, 5, 6, 7, 8, 9, 10, 11, 12, 13, 14, 15, 16] rfl (KL_law_c1445 x305 x306 x307 x308 x309 x310 x311 x312 x313 x314 x315 μ742 hself66)
          · refine S_iconst dL_law_1443 rfl ?_
            exact S_zret dL_law_1444 rfl (by decide) rfl
def fL_law_L1327 (K760 : Int → Mem → Option (Int × Mem)) (x302 : Int) (x297 : Int) : Nat → Int → Int → Mem → Option (Int × Mem)
  | 0, _, _, _ => none
  | n765 + 1, x762, x763, μ764 =>
    if x763 ≤ 0 then
      K760 x762 μ764
    else
      mlet (fun (x766 : Int) =>
        mlet (fun (x768 : Int) (μ769 : Mem) =>
          if 0 ≤ x768 then
            mlet ((w32 (x763 - x766))) fun x771 =>
            mlet (w32 (x762 + 1)) fun x772 =>
            fL_law_L1327 K760 x302 x297 n765 x772 x771 μ769
          else
            some (0, μ769)
          ) fun (K770 : Int → Mem → Option (Int × Mem)) =>
        if ¬ x302 = x297 then
          bnd2 (fX1_shame x302 x766 μ764) fun x774 μ775 =>
          K770 x774 μ775
        else
          bnd2 (fX1_raise x302 x766 μ764) fun x776 μ777 =>
          K770 x776 μ777
        ) fun (K767 : Int → Option (Int × Mem)) =>
      if x763 ≤ 9 then
        K767 x763
      else
        K767 9
def fL_law_L1220 (x287 : Int) (σ : Scr) (self66 : Int → Mem → Option (Int × Mem)) (x288 : Int) (x289 : Int) (x290 : Int) (x291 : Int) (x292 : Int) (x293 : Int) (x294 : Int) (x295 : Int) (x296 : Int) (x297 : Int) (x298 : Int) : Nat → Int → Int → Int → Mem → Option (Int × Mem)
  | 0, _, _, _, _ => none
  | n304 + 1, x300, x301, x302, μ303 =>
    if x287 ≤ x302 then
      fL_law_c1398 σ self66 x287 x288 x289 x290 x291 x292 x293 x294 x295 x296 x297 x300 x298 x301 μ303
    else
      if x298 < 0 then
        fL_law_c1398 σ self66 x287 x288 x289 x290 x291 x292 x293 x294 x295 x296 x297 x300 x298 x301 μ303
      else
        bnd2 (fX1_at 1 x302 μ303) fun x749 μ750 =>
        mlet (fun (x751 : Int) =>
          grd (0 ≤ x302 ∧ x302 < 6) <|
          mlet (wr μ750 63 (x302).toNat x751) fun μ753 =>
          grd (0 ≤ x302 ∧ x302 < 6) <|
          mlet ((w32 (x301 + (μ753 63 (x302).toNat)))) fun x754 =>
          grd (0 ≤ x302 ∧ x302 < 6) <|
          if (μ753 63 (x302).toNat) < 0 then
            some (0, μ753)
          else
            mlet (
              mlet (
                grd (0 ≤ x302 ∧ x302 < 6) <|
                mlet ((μ753 63 (x302).toNat)) fun x757 =>
                mlet (fun (x758 : Int) (μ759 : Mem) =>
                  mlet (w32 (x302 + 1)) fun x761 =>
                  fL_law_L1220 x287 σ self66 x288 x289 x290 x291 x292 x293 x294 x295 x296 x297 x298 n304 x758 x754 x761 μ759
                  ) fun (K760 : Int → Mem → Option (Int × Mem)) =>
                fL_law_L1327 K760 x302 x297 fuel x300 x757 μ753
                : Option (Int × Mem)) fun (K756 : Option (Int × Mem)) =>
              if x302 = x297 then
                K756
              else
                grd (0 ≤ x302 ∧ x302 < 6) <|
                grd (0 ≤ x302 ∧ x302 < 6) <|
                if (μ753 63 (x302).toNat) ≤ (μ753 62 (x302).toNat) then
                  K756
                else
                  some (0, μ753)
              : Option (Int × Mem)) fun (K755 : Option (Int × Mem)) =>
            if ¬ x302 = x297 then
              K755
            else
              grd (0 ≤ x302 ∧ x302 < 6) <|
              grd (0 ≤ x302 ∧ x302 < 6) <|
              if 20 < (w32 ((μ753 62 (x302).toNat) + (μ753 63 (x302).toNat))) then
                some (0, μ753)
              else
                K755
          ) fun (K752 : Int → Option (Int × Mem)) =>
        if ¬ x749 = 1 then
          K752 (-99)
        else
          (fX1_asked μ750).bind fun x786 =>
          K752 x786
def fL_law_c1211 (σ : Scr) (self66 : Int → Mem → Option (Int × Mem)) (x287 : Int) (x288 : Int) (x289 : Int) (x290 : Int) (x291 : Int) (x292 : Int) (x293 : Int) (x294 : Int) (x295 : Int) (x296 : Int) (x297 : Int) (x298 : Int) (μ299 : Mem) : Option (Int × Mem) :=
  fL_law_L1220 x287 σ self66 x288 x289 x290 x291 x292 x293 x294 x295 x296 x297 x298 fuel 0 0 0 μ299
theorem dL_law_1211 : decode cL_law 1211 = .ok (.iconst 0, 1) := by decide +kernel
theorem dL_law_1212 : decode cL_law 1212 = .ok (.istore 33, 2) := by decide +kernel
theorem dL_law_1214 : decode cL_law 1214 = .ok (.iconst 0, 1) := by decide +kernel
theorem dL_law_1215 : decode cL_law 1215 = .ok (.istore 31, 2) := by decide +kernel
theorem dL_law_1217 : decode cL_law 1217 = .ok (.iconst 0, 1) := by decide +kernel
theorem dL_law_1218 : decode cL_law 1218 = .ok (.istore 34, 2) := by decide +kernel
theorem dL_law_1220 : decode cL_law 1220 = .ok (.iload 34, 2) := by decide +kernel
theorem dL_law_1222 : decode cL_law 1222 = .ok (.iload 6, 2) := by decide +kernel
theorem dL_law_1224 : decode cL_law 1224 = .ok (.if_icmp .ge 174, 3) := by decide +kernel
theorem dL_law_1227 : decode cL_law 1227 = .ok (.iload 32, 2) := by decide +kernel
theorem dL_law_1229 : decode cL_law 1229 = .ok (.ifCond .lt 169, 3) := by decide +kernel
theorem dL_law_1232 : decode cL_law 1232 = .ok (.aload 5, 2) := by decide +kernel
theorem dL_law_1234 : decode cL_law 1234 = .ok (.iload 34, 2) := by decide +kernel
theorem dL_law_1236 : decode cL_law 1236 = .ok (.aload_n 1, 1) := by decide +kernel
theorem dL_law_1237 : decode cL_law 1237 = .ok (.iconst 1, 1) := by decide +kernel
theorem dL_law_1238 : decode cL_law 1238 = .ok (.iload 34, 2) := by decide +kernel
theorem dL_law_1240 : decode cL_law 1240 = .ok (.invokevirtual 118, 3) := by decide +kernel
theorem dL_law_1243 : decode cL_law 1243 = .ok (.iconst 1, 1) := by decide +kernel
theorem dL_law_1244 : decode cL_law 1244 = .ok (.if_icmp .ne 10, 3) := by decide +kernel
theorem dL_law_1247 : decode cL_law 1247 = .ok (.aload_n 1, 1) := by decide +kernel
theorem dL_law_1248 : decode cL_law 1248 = .ok (.invokevirtual 74, 3) := by decide +kernel
theorem dL_law_1251 : decode cL_law 1251 = .ok (.goto 5, 3) := by decide +kernel
theorem dL_law_1254 : decode cL_law 1254 = .ok (.bipush (-99), 2) := by decide +kernel
theorem dL_law_1256 : decode cL_law 1256 = .ok (.iastore, 1) := by decide +kernel
theorem dL_law_1257 : decode cL_law 1257 = .ok (.iload 33, 2) := by decide +kernel
theorem dL_law_1259 : decode cL_law 1259 = .ok (.aload 5, 2) := by decide +kernel
theorem dL_law_1261 : decode cL_law 1261 = .ok (.iload 34, 2) := by decide +kernel
theorem dL_law_1263 : decode cL_law 1263 = .ok (.iaload, 1) := by decide +kernel
theorem dL_law_1264 : decode cL_law 1264 = .ok (.iadd, 1) := by decide +kernel
theorem dL_law_1265 : decode cL_law 1265 = .ok (.istore 33, 2) := by decide +kernel
theorem dL_law_1267 : decode cL_law 1267 = .ok (.aload 5, 2) := by decide +kernel
theorem dL_law_1269 : decode cL_law 1269 = .ok (.iload 34, 2) := by decide +kernel
theorem dL_law_1271 : decode cL_law 1271 = .ok (.iaload, 1) := by decide +kernel
theorem dL_law_1272 : decode cL_law 1272 = .ok (.ifCond .lt 46, 3) := by decide +kernel
theorem dL_law_1275 : decode cL_law 1275 = .ok (.iload 34, 2) := by decide +kernel
theorem dL_law_1277 : decode cL_law 1277 = .ok (.iload 24, 2) := by decide +kernel
theorem dL_law_1279 : decode cL_law 1279 = .ok (.if_icmp .ne 19, 3) := by decide +kernel
theorem dL_law_1282 : decode cL_law 1282 = .ok (.aload 4, 2) := by decide +kernel
theorem dL_law_1284 : decode cL_law 1284 = .ok (.iload 34, 2) := by decide +kernel
theorem dL_law_1286 : decode cL_law 1286 = .ok (.iaload, 1) := by decide +kernel
theorem dL_law_1287 : decode cL_law 1287 = .ok (.aload 5, 2) := by decide +kernel
theorem dL_law_1289 : decode cL_law 1289 = .ok (.iload 34, 2) := by decide +kernel
theorem dL_law_1291 : decode cL_law 1291 = .ok (.iaload, 1) := by decide +kernel
theorem dL_law_1292 : decode cL_law 1292 = .ok (.iadd, 1) := by decide +kernel
theorem dL_law_1293 : decode cL_law 1293 = .ok (.bipush 20, 2) := by decide +kernel
theorem dL_law_1295 : decode cL_law 1295 = .ok (.if_icmp .gt 23, 3) := by decide +kernel
theorem dL_law_1298 : decode cL_law 1298 = .ok (.iload 34, 2) := by decide +kernel
theorem dL_law_1300 : decode cL_law 1300 = .ok (.iload 24, 2) := by decide +kernel
theorem dL_law_1302 : decode cL_law 1302 = .ok (.if_icmp .eq 18, 3) := by decide +kernel
theorem dL_law_1305 : decode cL_law 1305 = .ok (.aload 5, 2) := by decide +kernel
theorem dL_law_1307 : decode cL_law 1307 = .ok (.iload 34, 2) := by decide +kernel
theorem dL_law_1309 : decode cL_law 1309 = .ok (.iaload, 1) := by decide +kernel
theorem dL_law_1310 : decode cL_law 1310 = .ok (.aload 4, 2) := by decide +kernel
theorem dL_law_1312 : decode cL_law 1312 = .ok (.iload 34, 2) := by decide +kernel
theorem dL_law_1314 : decode cL_law 1314 = .ok (.iaload, 1) := by decide +kernel
theorem dL_law_1315 : decode cL_law 1315 = .ok (.if_icmp .le 5, 3) := by decide +kernel
theorem dL_law_1318 : decode cL_law 1318 = .ok (.iconst 0, 1) := by decide +kernel
theorem dL_law_1319 : decode cL_law 1319 = .ok (.ireturn, 1) := by decide +kernel
theorem dL_law_1320 : decode cL_law 1320 = .ok (.aload 5, 2) := by decide +kernel
theorem dL_law_1322 : decode cL_law 1322 = .ok (.iload 34, 2) := by decide +kernel
theorem dL_law_1324 : decode cL_law 1324 = .ok (.iaload, 1) := by decide +kernel
theorem dL_law_1325 : decode cL_law 1325 = .ok (.istore 35, 2) := by decide +kernel
theorem dL_law_1327 : decode cL_law 1327 = .ok (.iload 35, 2) := by decide +kernel
theorem dL_law_1329 : decode cL_law 1329 = .ok (.ifCond .le 63, 3) := by decide +kernel
theorem dL_law_1332 : decode cL_law 1332 = .ok (.iload 35, 2) := by decide +kernel
theorem dL_law_1334 : decode cL_law 1334 = .ok (.bipush 9, 2) := by decide +kernel
theorem dL_law_1336 : decode cL_law 1336 = .ok (.if_icmp .le 8, 3) := by decide +kernel
theorem dL_law_1339 : decode cL_law 1339 = .ok (.bipush 9, 2) := by decide +kernel
theorem dL_law_1341 : decode cL_law 1341 = .ok (.goto 5, 3) := by decide +kernel
theorem dL_law_1344 : decode cL_law 1344 = .ok (.iload 35, 2) := by decide +kernel
theorem dL_law_1346 : decode cL_law 1346 = .ok (.istore 36, 2) := by decide +kernel
theorem dL_law_1348 : decode cL_law 1348 = .ok (.iload 34, 2) := by decide +kernel
theorem dL_law_1350 : decode cL_law 1350 = .ok (.iload 24, 2) := by decide +kernel
theorem dL_law_1352 : decode cL_law 1352 = .ok (.if_icmp .ne 14, 3) := by decide +kernel
theorem dL_law_1355 : decode cL_law 1355 = .ok (.aload_n 1, 1) := by decide +kernel
theorem dL_law_1356 : decode cL_law 1356 = .ok (.iload 34, 2) := by decide +kernel
theorem dL_law_1358 : decode cL_law 1358 = .ok (.iload 36, 2) := by decide +kernel
theorem dL_law_1360 : decode cL_law 1360 = .ok (.invokevirtual 62, 3) := by decide +kernel
theorem dL_law_1363 : decode cL_law 1363 = .ok (.goto 11, 3) := by decide +kernel
theorem dL_law_1366 : decode cL_law 1366 = .ok (.aload_n 1, 1) := by decide +kernel
theorem dL_law_1367 : decode cL_law 1367 = .ok (.iload 34, 2) := by decide +kernel
theorem dL_law_1369 : decode cL_law 1369 = .ok (.iload 36, 2) := by decide +kernel
theorem dL_law_1371 : decode cL_law 1371 = .ok (.invokevirtual 65, 3) := by decide +kernel
theorem dL_law_1374 : decode cL_law 1374 = .ok (.ifCond .ge 5, 3) := by decide +kernel
theorem dL_law_1377 : decode cL_law 1377 = .ok (.iconst 0, 1) := by decide +kernel
theorem dL_law_1378 : decode cL_law 1378 = .ok (.ireturn, 1) := by decide +kernel
theorem dL_law_1379 : decode cL_law 1379 = .ok (.iload 35, 2) := by decide +kernel
theorem dL_law_1381 : decode cL_law 1381 = .ok (.iload 36, 2) := by decide +kernel
theorem dL_law_1383 : decode cL_law 1383 = .ok (.isub, 1) := by decide +kernel
theorem dL_law_1384 : decode cL_law 1384 = .ok (.istore 35, 2) := by decide +kernel
theorem dL_law_1386 : decode cL_law 1386 = .ok (.iinc 31 1, 3) := by decide +kernel
theorem dL_law_1389 : decode cL_law 1389 = .ok (.goto (-62), 3) := by decide +kernel
theorem dL_law_1392 : decode cL_law 1392 = .ok (.iinc 34 1, 3) := by decide +kernel
theorem dL_law_1395 : decode cL_law 1395 = .ok (.goto (-175), 3) := by decide +kernel
theorem KL_law_c1211 {σ : Scr} {self66 : Int → Mem → Option (Int × Mem)} (x287 : Int) (x288 : Int) (x289 : Int) (x290 : Int) (x291 : Int) (x292 : Int) (x293 : Int) (x294 : Int) (x295 : Int) (x296 : Int) (x297 : Int) (x298 : Int) (μ299 : Mem) (hself66 : ∀ (x11 : Int) (μ12 : Mem), Sim σ cL_law 60 RL (2000) (some .boolean) wI 66 [(0, .inr (.inr 64)), (1, .inr (.inr 0)), (2, .inr (.inr 60)), (3, .inr (.inr 61)), (4, .inr (.inr 62)), (5, .inr (.inr 63)), (6, .inl x287), (7, .inr (.inl x288)), (9, .inl x11)] [] μ12 (self66 x11 μ12)) : Sim σ cL_law 60 RL (2000) (some .boolean) wI 1211 [(0, .inr (.inr 64)), (1, .inr (.inr 0)), (2, .inr (.inr 60)), (3, .inr (.inr 61)), (4, .inr (.inr 62)), (5, .inr (.inr 63)), (6, .inl x287), (7, .inr (.inl x288)), (9, .inl x289), (10, .inl x290), (11, .inl x291), (12, .inl x292), (13, .inl x293), (14, .inl x294), (15, .inl x295), (17, .inl x296), (24, .inl x297), (32, .inl x298)] [] μ299 (fL_law_c1211 σ self66 x287 x288 x289 x290 x291 x292 x293 x294 x295 x296 x297 x298 μ299) := by
  unfold fL_law_c1211
  refine S_iconst dL_law_1211 rfl ?_
  refine S_istore (lv' := [(33, .inl 0), (0, .inr (.inr 64)), (1, .inr (.inr 0)), (2, .inr (.inr 60)), (3, .inr (.inr 61)), (4, .inr (.inr 62)), (5, .inr (.inr 63)), (6, .inl x287), (7, .inr (.inl x288)), (9, .inl x289), (10, .inl x290), (11, .inl x291), (12, .inl x292), (13, .inl x293), (14, .inl x294), (15, .inl x295), (17, .inl x296), (24, .inl x297), (32, .inl x298)]) dL_law_1212 rfl rfl ?_
  refine S_iconst dL_law_1214 rfl ?_
  refine S_istore (lv' := [(31, .inl 0), (33, .inl 0), (0, .inr (.inr 64)), (1, .inr (.inr 0)), (2, .inr (.inr 60)), (3, .inr (.inr 61)), (4, .inr (.inr 62)), (5, .inr (.inr 63)), (6, .inl x287), (7, .inr (.inl x288)), (9, .inl x289), (10, .inl x290), (11, .inl x291), (12, .inl x292), (13, .inl x293), (14, .inl x294), (15, .inl x295), (17, .inl x296), (24, .inl x297), (32, .inl x298)]) dL_law_1215 rfl rfl ?_
  refine S_iconst dL_law_1217 rfl ?_
  refine S_istore (lv' := [(34, .inl 0), (31, .inl 0), (33, .inl 0), (0, .inr (.inr 64)), (1, .inr (.inr 0)), (2, .inr (.inr 60)), (3, .inr (.inr 61)), (4, .inr (.inr 62)), (5, .inr (.inr 63)), (6, .inl x287), (7, .inr (.inl x288)), (9, .inl x289), (10, .inl x290), (11, .inl x291), (12, .inl x292), (13, .inl x293), (14, .inl x294), (15, .inl x295), (17, .inl x296), (24, .inl x297), (32, .inl x298)]) dL_law_1218 rfl rfl ?_
  have hL1220 : ∀ (n304 : Nat) (x300 : Int) (x301 : Int) (x302 : Int) (μ303 : Mem), Sim σ cL_law 60 RL (2000) (some .boolean) wI 1220 [(0, .inr (.inr 64)), (1, .inr (.inr 0)), (2, .inr (.inr 60)), (3, .inr (.inr 61)), (4, .inr (.inr 62)), (5, .inr (.inr 63)), (6, .inl x287), (7, .inr (.inl x288)), (9, .inl x289), (10, .inl x290), (11, .inl x291), (12, .inl x292), (13, .inl x293), (14, .inl x294), (15, .inl x295), (17, .inl x296), (24, .inl x297), (31, .inl x300), (32, .inl x298), (33, .inl x301), (34, .inl x302)] [] μ303 (fL_law_L1220 x287 σ self66 x288 x289 x290 x291 x292 x293 x294 x295 x296 x297 x298 n304 x300 x301 x302 μ303) := by
    intro n304
    induction n304 with
    | zero =>
      intro x300 x301 x302 μ303
      exact S_none rfl
    | succ n304 ih =>
      intro x300 x301 x302 μ303
      rw [fL_law_L1220]
      refine S_iload dL_law_1220 rfl ?_
      refine S_iload dL_law_1222 rfl ?_
      refine S_ic_ge (tgt := 1398) dL_law_1224 (by decide) (fun h789 => ?_) (fun h789 => ?_)
      · exact S_sub [0, 1, 2, 3, 4, 5, 6, 7, 8, 9, 10, 11, 12, 13, 14, 15, 16, 17, 18, 19] rfl (KL_law_c1398 x287 x288 x289 x290 x291 x292 x293 x294 x295 x296 x297 x300 x298 x301 μ303 hself66)
      · refine S_iload dL_law_1227 rfl ?_
        refine S_if_lt (tgt := 1398) dL_law_1229 (by decide) (fun h788 => ?_) (fun h788 => ?_)
        · exact S_sub [0, 1, 2, 3, 4, 5, 6, 7, 8, 9, 10, 11, 12, 13, 14, 15, 16, 17, 18, 19] rfl (KL_law_c1398 x287 x288 x289 x290 x291 x292 x293 x294 x295 x296 x297 x300 x298 x301 μ303 hself66)
        · refine S_aload dL_law_1232 rfl ?_
          refine S_iload dL_law_1234 rfl ?_
          refine S_aload_n dL_law_1236 rfl ?_
          refine S_iconst dL_law_1237 rfl ?_
          refine S_iload dL_law_1238 rfl ?_
          refine S_callV_M2 dL_law_1240 [.inl 1, .inl x302] (K_X1_at 1 x302 μ303) l_L_118 yo_X1_at rfl rfl rfl rfl rfl (fun x749 μ750 => ?_)
          refine S_iconst dL_law_1243 rfl ?_
          refine S_jn (fun (K752 : Int → Option (Int × Mem)) => ∀ (x751 : Int), Sim σ cL_law 60 RL (2000) (some .boolean) wI 1256 [(0, .inr (.inr 64)), (1, .inr (.inr 0)), (2, .inr (.inr 60)), (3, .inr (.inr 61)), (4, .inr (.inr 62)), (5, .inr (.inr 63)), (6, .inl x287), (7, .inr (.inl x288)), (9, .inl x289), (10, .inl x290), (11, .inl x291), (12, .inl x292), (13, .inl x293), (14, .inl x294), (15, .inl x295), (17, .inl x296), (24, .inl x297), (31, .inl x300), (32, .inl x298), (33, .inl x301), (34, .inl x302)] [.inl x751, .inl x302, .inr (.inr 63)] μ750 (K752 x751)) ?_ (fun K752 hK752 => ?_)
          · intro x751
            refine S_iast (N := 6) dL_law_1256 rfl (by decide) rfl (fun μ753 => ?_)
            refine S_iload dL_law_1257 rfl ?_
            refine S_aload dL_law_1259 rfl ?_
            refine S_iload dL_law_1261 rfl ?_
            refine S_iald (N := 6) dL_law_1263 rfl (by decide) rfl ?_
            refine S_iadd dL_law_1264 ?_
            refine S_let (fun x754 => ?_)
            refine S_istore (lv' := [(33, .inl x754), (0, .inr (.inr 64)), (1, .inr (.inr 0)), (2, .inr (.inr 60)), (3, .inr (.inr 61)), (4, .inr (.inr 62)), (5, .inr (.inr 63)), (6, .inl x287), (7, .inr (.inl x288)), (9, .inl x289), (10, .inl x290), (11, .inl x291), (12, .inl x292), (13, .inl x293), (14, .inl x294), (15, .inl x295), (17, .inl x296), (24, .inl x297), (31, .inl x300), (32, .inl x298), (34, .inl x302)]) dL_law_1265 rfl rfl ?_
            refine S_aload dL_law_1267 rfl ?_
            refine S_iload dL_law_1269 rfl ?_
            refine S_iald (N := 6) dL_law_1271 rfl (by decide) rfl ?_
            refine S_if_lt (tgt := 1318) dL_law_1272 (by decide) (fun h785 => ?_) (fun h785 => ?_)
            · refine S_iconst dL_law_1318 rfl ?_
              exact S_zret dL_law_1319 rfl (by decide) rfl
            · refine S_iload dL_law_1275 rfl ?_
              refine S_iload dL_law_1277 rfl ?_
              refine S_jn (fun (K755 : Option (Int × Mem)) => Sim σ cL_law 60 RL (2000) (some .boolean) wI 1298 [(0, .inr (.inr 64)), (1, .inr (.inr 0)), (2, .inr (.inr 60)), (3, .inr (.inr 61)), (4, .inr (.inr 62)), (5, .inr (.inr 63)), (6, .inl x287), (7, .inr (.inl x288)), (9, .inl x289), (10, .inl x290), (11, .inl x291), (12, .inl x292), (13, .inl x293), (14, .inl x294), (15, .inl x295), (17, .inl x296), (24, .inl x297), (31, .inl x300), (32, .inl x298), (33, .inl x754), (34, .inl x302)] [] μ753 K755) ?_ (fun K755 hK755 => ?_)
              · skip
                refine S_iload dL_law_1298 rfl ?_
                refine S_iload dL_law_1300 rfl ?_
                refine S_jn (fun (K756 : Option (Int × Mem)) => Sim σ cL_law 60 RL (2000) (some .boolean) wI 1320 [(0, .inr (.inr 64)), (1, .inr (.inr 0)), (2, .inr (.inr 60)), (3, .inr (.inr 61)), (4, .inr (.inr 62)), (5, .inr (.inr 63)), (6, .inl x287), (7, .inr (.inl x288)), (9, .inl x289), (10, .inl x290), (11, .inl x291), (12, .inl x292), (13, .inl x293), (14, .inl x294), (15, .inl x295), (17, .inl x296), (24, .inl x297), (31, .inl x300), (32, .inl x298), (33, .inl x754), (34, .inl x302)] [] μ753 K756) ?_ (fun K756 hK756 => ?_)
                · skip
                  refine S_aload dL_law_1320 rfl ?_
                  refine S_iload dL_law_1322 rfl ?_
                  refine S_iald (N := 6) dL_law_1324 rfl (by decide) rfl ?_
                  refine S_let (fun x757 => ?_)
                  refine S_istore (lv' := [(35, .inl x757), (0, .inr (.inr 64)), (1, .inr (.inr 0)), (2, .inr (.inr 60)), (3, .inr (.inr 61)), (4, .inr (.inr 62)), (5, .inr (.inr 63)), (6, .inl x287), (7, .inr (.inl x288)), (9, .inl x289), (10, .inl x290), (11, .inl x291), (12, .inl x292), (13, .inl x293), (14, .inl x294), (15, .inl x295), (17, .inl x296), (24, .inl x297), (31, .inl x300), (32, .inl x298), (33, .inl x754), (34, .inl x302)]) dL_law_1325 rfl rfl ?_
                  refine S_jn (fun (K760 : Int → Mem → Option (Int × Mem)) => ∀ (x758 : Int) (μ759 : Mem), Sim σ cL_law 60 RL (2000) (some .boolean) wI 1392 [(0, .inr (.inr 64)), (1, .inr (.inr 0)), (2, .inr (.inr 60)), (3, .inr (.inr 61)), (4, .inr (.inr 62)), (5, .inr (.inr 63)), (6, .inl x287), (7, .inr (.inl x288)), (9, .inl x289), (10, .inl x290), (11, .inl x291), (12, .inl x292), (13, .inl x293), (14, .inl x294), (15, .inl x295), (17, .inl x296), (24, .inl x297), (31, .inl x758), (32, .inl x298), (33, .inl x754), (34, .inl x302)] [] μ759 (K760 x758 μ759)) ?_ (fun K760 hK760 => ?_)
                  · intro x758 μ759
                    refine S_iinc (lv' := fun x761 => [(34, .inl x761), (0, .inr (.inr 64)), (1, .inr (.inr 0)), (2, .inr (.inr 60)), (3, .inr (.inr 61)), (4, .inr (.inr 62)), (5, .inr (.inr 63)), (6, .inl x287), (7, .inr (.inl x288)), (9, .inl x289), (10, .inl x290), (11, .inl x291), (12, .inl x292), (13, .inl x293), (14, .inl x294), (15, .inl x295), (17, .inl x296), (24, .inl x297), (31, .inl x758), (32, .inl x298), (33, .inl x754)]) dL_law_1392 rfl rfl rfl (fun _ => rfl) (fun x761 => ?_)
                    refine S_goto (tgt := 1220) dL_law_1395 (by decide) ?_
                    exact S_sub [1, 2, 3, 4, 5, 6, 7, 8, 9, 10, 11, 12, 13, 14, 15, 16, 17, 18, 19, 20, 0] rfl (ih x758 x754 x761 μ759)
                  have hL1327 : ∀ (n765 : Nat) (x762 : Int) (x763 : Int) (μ764 : Mem), Sim σ cL_law 60 RL (2000) (some .boolean) wI 1327 [(0, .inr (.inr 64)), (1, .inr (.inr 0)), (2, .inr (.inr 60)), (3, .inr (.inr 61)), (4, .inr (.inr 62)), (5, .inr (.inr 63)), (6, .inl x287), (7, .inr (.inl x288)), (9, .inl x289), (10, .inl x290), (11, .inl x291), (12, .inl x292), (13, .inl x293), (14, .inl x294), (15, .inl x295), (17, .inl x296), (24, .inl x297), (31, .inl x762), (32, .inl x298), (33, .inl x754), (34, .inl x302), (35, .inl x763)] [] μ764 (fL_law_L1327 K760 x302 x297 n765 x762 x763 μ764) := by
                    intro n765
                    induction n765 with
                    | zero =>
                      intro x762 x763 μ764
                      exact S_none rfl
                    | succ n765 ih =>
                      intro x762 x763 μ764
                      rw [fL_law_L1327]
                      refine S_iload dL_law_1327 rfl ?_
                      refine S_if_le (tgt := 1392) dL_law_1329 (by decide) (fun h780 => ?_) (fun h780 => ?_)
                      · exact S_sub [0, 1, 2, 3, 4, 5, 6, 7, 8, 9, 10, 11, 12, 13, 14, 15, 16, 17, 18, 19, 20] rfl (hK760 x762 μ764)
                      · refine S_iload dL_law_1332 rfl ?_
                        refine S_bipush dL_law_1334 rfl (by decide) ?_
                        refine S_jn (fun (K767 : Int → Option (Int × Mem)) => ∀ (x766 : Int), Sim σ cL_law 60 RL (2000) (some .boolean) wI 1346 [(0, .inr (.inr 64)), (1, .inr (.inr 0)), (2, .inr (.inr 60)), (3, .inr (.inr 61)), (4, .inr (.inr 62)), (5, .inr (.inr 63)), (6, .inl x287), (7, .inr (.inl x288)), (9, .inl x289), (10, .inl x290), (11, .inl x291), (12, .inl x292), (13, .inl x293), (14, .inl x294), (15, .inl x295), (17, .inl x296), (24, .inl x297), (31, .inl x762), (32, .inl x298), (33, .inl x754), (34, .inl x302), (35, .inl x763)] [.inl x766] μ764 (K767 x766)) ?_ (fun K767 hK767 => ?_)
                        · intro x766
                          refine S_istore (lv' := [(36, .inl x766), (0, .inr (.inr 64)), (1, .inr (.inr 0)), (2, .inr (.inr 60)), (3, .inr (.inr 61)), (4, .inr (.inr 62)), (5, .inr (.inr 63)), (6, .inl x287), (7, .inr (.inl x288)), (9, .inl x289), (10, .inl x290), (11, .inl x291), (12, .inl x292), (13, .inl x293), (14, .inl x294), (15, .inl x295), (17, .inl x296), (24, .inl x297), (31, .inl x762), (32, .inl x298), (33, .inl x754), (34, .inl x302), (35, .inl x763)]) dL_law_1346 rfl rfl ?_
                          refine S_iload dL_law_1348 rfl ?_
                          refine S_iload dL_law_1350 rfl ?_
                          refine S_jn (fun (K770 : Int → Mem → Option (Int × Mem)) => ∀ (x768 : Int) (μ769 : Mem), Sim σ cL_law 60 RL (2000) (some .boolean) wI 1374 [(0, .inr (.inr 64)), (1, .inr (.inr 0)), (2, .inr (.inr 60)), (3, .inr (.inr 61)), (4, .inr (.inr 62)), (5, .inr (.inr 63)), (6, .inl x287), (7, .inr (.inl x288)), (9, .inl x289), (10, .inl x290), (11, .inl x291), (12, .inl x292), (13, .inl x293), (14, .inl x294), (15, .inl x295), (17, .inl x296), (24, .inl x297), (31, .inl x762), (32, .inl x298), (33, .inl x754), (34, .inl x302), (35, .inl x763), (36, .inl x766)] [.inl x768] μ769 (K770 x768 μ769)) ?_ (fun K770 hK770 => ?_)
                          · intro x768 μ769
                            refine S_if_ge (tgt := 1379) dL_law_1374 (by decide) (fun h773 => ?_) (fun h773 => ?_)
                            · refine S_iload dL_law_1379 rfl ?_
                              refine S_iload dL_law_1381 rfl ?_
                              refine S_isub dL_law_1383 ?_
                              refine S_let (fun x771 => ?_)
                              refine S_istore (lv' := [(35, .inl x771), (0, .inr (.inr 64)), (1, .inr (.inr 0)), (2, .inr (.inr 60)), (3, .inr (.inr 61)), (4, .inr (.inr 62)), (5, .inr (.inr 63)), (6, .inl x287), (7, .inr (.inl x288)), (9, .inl x289), (10, .inl x290), (11, .inl x291), (12, .inl x292), (13, .inl x293), (14, .inl x294), (15, .inl x295), (17, .inl x296), (24, .inl x297), (31, .inl x762), (32, .inl x298), (33, .inl x754), (34, .inl x302), (36, .inl x766)]) dL_law_1384 rfl rfl ?_
                              refine S_iinc (lv' := fun x772 => [(31, .inl x772), (35, .inl x771), (0, .inr (.inr 64)), (1, .inr (.inr 0)), (2, .inr (.inr 60)), (3, .inr (.inr 61)), (4, .inr (.inr 62)), (5, .inr (.inr 63)), (6, .inl x287), (7, .inr (.inl x288)), (9, .inl x289), (10, .inl x290), (11, .inl x291), (12, .inl x292), (13, .inl x293), (14, .inl x294), (15, .inl x295), (17, .inl x296), (24, .inl x297), (32, .inl x298), (33, .inl x754), (34, .inl x302), (36, .inl x766)]) dL_law_1386 rfl rfl rfl (fun _ => rfl) (fun x772 => ?_)
                              refine S_goto (tgt := 1327) dL_law_1389 (by decide) ?_
                              exact S_sub [2, 3, 4, 5, 6, 7, 8, 9, 10, 11, 12, 13, 14, 15, 16, 17, 18, 0, 19, 20, 21, 1] rfl (ih x772 x771 μ769)
                            · refine S_iconst dL_law_1377 rfl ?_
                              exact S_zret dL_law_1378 rfl (by decide) rfl
                          refine S_ic_ne (tgt := 1366) dL_law_1352 (by decide) (fun h778 => ?_) (fun h778 => ?_)
                          · refine S_aload_n dL_law_1366 rfl ?_
                            refine S_iload dL_law_1367 rfl ?_
                            refine S_iload dL_law_1369 rfl ?_
                            refine S_callV_M2 dL_law_1371 [.inl x302, .inl x766] (K_X1_shame x302 x766 μ764) l_L_65 yo_X1_shame rfl rfl rfl rfl rfl (fun x774 μ775 => ?_)
                            exact S_sub [1, 2, 3, 4, 5, 6, 7, 8, 9, 10, 11, 12, 13, 14, 15, 16, 17, 18, 19, 20, 21, 22, 0] rfl (hK770 x774 μ775)
                          · refine S_aload_n dL_law_1355 rfl ?_
                            refine S_iload dL_law_1356 rfl ?_
                            refine S_iload dL_law_1358 rfl ?_
                            refine S_callV_M2 dL_law_1360 [.inl x302, .inl x766] (K_X1_raise x302 x766 μ764) l_L_62 yo_X1_raise rfl rfl rfl rfl rfl (fun x776 μ777 => ?_)
                            refine S_goto (tgt := 1374) dL_law_1363 (by decide) ?_
                            exact S_sub [1, 2, 3, 4, 5, 6, 7, 8, 9, 10, 11, 12, 13, 14, 15, 16, 17, 18, 19, 20, 21, 22, 0] rfl (hK770 x776 μ777)
                        refine S_ic_le (tgt := 1344) dL_law_1336 (by decide) (fun h779 => ?_) (fun h779 => ?_)
                        · refine S_iload dL_law_1344 rfl ?_
                          exact S_sub [0, 1, 2, 3, 4, 5, 6, 7, 8, 9, 10, 11, 12, 13, 14, 15, 16, 17, 18, 19, 20, 21] rfl (hK767 x763)
                        · refine S_bipush dL_law_1339 rfl (by decide) ?_
                          refine S_goto (tgt := 1346) dL_law_1341 (by decide) ?_
                          exact S_sub [0, 1, 2, 3, 4, 5, 6, 7, 8, 9, 10, 11, 12, 13, 14, 15, 16, 17, 18, 19, 20, 21] rfl (hK767 9)
                  exact S_sub [1, 2, 3, 4, 5, 6, 7, 8, 9, 10, 11, 12, 13, 14, 15, 16, 17, 18, 19, 20, 21, 0] rfl (hL1327 fuel x300 x757 μ753)
                refine S_ic_eq (tgt := 1320) dL_law_1302 (by decide) (fun h782 => ?_) (fun h782 => ?_)
                · exact S_sub [0, 1, 2, 3, 4, 5, 6, 7, 8, 9, 10, 11, 12, 13, 14, 15, 16, 17, 18, 19, 20] rfl (hK756)
                · refine S_aload dL_law_1305 rfl ?_
                  refine S_iload dL_law_1307 rfl ?_
                  refine S_iald (N := 6) dL_law_1309 rfl (by decide) rfl ?_
                  refine S_aload dL_law_1310 rfl ?_
                  refine S_iload dL_law_1312 rfl ?_
                  refine S_iald (N := 6) dL_law_1314 rfl (by decide) rfl ?_
                  refine S_ic_le (tgt := 1320) dL_law_1315 (by decide) (fun h781 => ?_) (fun h781 => ?_)
                  · exact S_sub [0, 1, 2, 3, 4, 5, 6, 7, 8, 9, 10, 11, 12, 13, 14, 15, 16, 17, 18, 19, 20] rfl (hK756)
                  · refine S_iconst dL_law_1318 rfl ?_
                    exact S_zret dL_law_1319 rfl (by decide) rfl
              refine S_ic_ne (tgt := 1298) dL_law_1279 (by decide) (fun h784 => ?_) (fun h784 => ?_)
              · exact S_sub [1, 2, 3, 4, 5, 6, 7, 8, 9, 10, 11, 12, 13, 14, 15, 16, 17, 18, 19, 0, 20] rfl (hK755)
              · refine S_aload dL_law_1282 rfl ?_
                refine S_iload dL_law_1284 rfl ?_
                refine S_iald (N := 6) dL_law_1286 rfl (by decide) rfl ?_
                refine S_aload dL_law_1287 rfl ?_
                refine S_iload dL_law_1289 rfl ?_
                refine S_iald (N := 6) dL_law_1291 rfl (by decide) rfl ?_
                refine S_iadd dL_law_1292 ?_
                refine S_bipush dL_law_1293 rfl (by decide) ?_
                refine S_ic_gt (tgt := 1318) dL_law_1295 (by decide) (fun h783 => ?_) (fun h783 => ?_)
                · refine S_iconst dL_law_1318 rfl ?_
                  exact S_zret dL_law_1319 rfl (by decide) rfl
                · exact S_sub [1, 2, 3, 4, 5, 6, 7, 8, 9, 10, 11, 12, 13, 14, 15, 16, 17, 18, 19, 0, 20] rfl (hK755)
          refine S_ic_ne (tgt := 1254) dL_law_1244 (by decide) (fun h787 => ?_) (fun h787 => ?_)
          · refine S_bipush dL_law_1254 rfl (by decide) ?_
            exact S_sub [0, 1, 2, 3, 4, 5, 6, 7, 8, 9, 10, 11, 12, 13, 14, 15, 16, 17, 18, 19, 20] rfl (hK752 (-99))
          · refine S_aload_n dL_law_1247 rfl ?_
            refine S_callV_I dL_law_1248 [] (K_X1_asked μ750) l_L_74 yo_X1_asked rfl rfl rfl rfl rfl (fun x786 => ?_)
            refine S_goto (tgt := 1256) dL_law_1251 (by decide) ?_
            exact S_sub [0, 1, 2, 3, 4, 5, 6, 7, 8, 9, 10, 11, 12, 13, 14, 15, 16, 17, 18, 19, 20] rfl (hK752 x786)
  exact S_sub [3, 4, 5, 6, 7, 8, 9, 10, 11, 12, 13, 14, 15, 16, 17, 18, 19, 1, 20, 2, 0] rfl (hL1220 fuel 0 0 0 μ299)
