def fL_law_c1122 (σ : Scr) (self66 : Int → Mem → Option (Int × Mem)) (x266 : Int) (x267 : Int) (x268 : Int) (x269 : Int) (x270 : Int) (x271 : Int) (x272 : Int) (x273 : Int) (x274 : Int) (x275 : Int) (x276 : Int) (x277 : Int) (μ278 : Mem) : Option (Int × Mem) :=
  bnd2 (fX1_cheap x276 1 μ278) fun x279 μ280 =>
  if x279 < (-9) then
    some (0, μ280)
  else
    mlet (
      mlet (fun (x282 : Int) =>
        mlet (fun (x284 : Int) =>
          if ¬ x282 = x284 then
            some (0, μ280)
          else
            mlet (
              if x279 < 0 then
                fL_law_c1211 σ self66 x266 x267 x268 x269 x270 x271 x272 x273 x274 x275 x276 x279 μ280
              else
                bnd2 (fX1_at 1 x266 μ280) fun x790 μ791 =>
                if x790 = (-3) then
                  fL_law_c1211 σ self66 x266 x267 x268 x269 x270 x271 x272 x273 x274 x275 x276 x279 μ791
                else
                  some (0, μ791)
              : Option (Int × Mem)) fun (K286 : Option (Int × Mem)) =>
            if x277 < 0 then
              K286
            else
              if x279 < 0 then
                some (0, μ280)
              else
                if x277 < x279 then
                  some (0, μ280)
                else
                  K286
          ) fun (K285 : Int → Option (Int × Mem)) =>
        if ¬ x275 = x276 then
          K285 0
        else
          K285 1
        ) fun (K283 : Int → Option (Int × Mem)) =>
      if ¬ x279 = 0 then
        K283 0
      else
        K283 1
      : Option (Int × Mem)) fun (K281 : Option (Int × Mem)) =>
    if x279 ≤ (-9) then
      K281
    else
      if x279 < 0 then
        some (0, μ280)
      else
        K281
theorem dL_law_1122 : decode cL_law 1122 = .ok (.aload_n 1, 1) := by decide +kernel
theorem dL_law_1123 : decode cL_law 1123 = .ok (.iload 24, 2) := by decide +kernel
theorem dL_law_1125 : decode cL_law 1125 = .ok (.iconst 1, 1) := by decide +kernel
theorem dL_law_1126 : decode cL_law 1126 = .ok (.invokevirtual 115, 3) := by decide +kernel
theorem dL_law_1129 : decode cL_law 1129 = .ok (.istore 32, 2) := by decide +kernel
theorem dL_law_1131 : decode cL_law 1131 = .ok (.iload 32, 2) := by decide +kernel
theorem dL_law_1133 : decode cL_law 1133 = .ok (.bipush (-9), 2) := by decide +kernel
theorem dL_law_1135 : decode cL_law 1135 = .ok (.if_icmp .lt 74, 3) := by decide +kernel
theorem dL_law_1138 : decode cL_law 1138 = .ok (.iload 32, 2) := by decide +kernel
theorem dL_law_1140 : decode cL_law 1140 = .ok (.bipush (-9), 2) := by decide +kernel
theorem dL_law_1142 : decode cL_law 1142 = .ok (.if_icmp .le 8, 3) := by decide +kernel
theorem dL_law_1145 : decode cL_law 1145 = .ok (.iload 32, 2) := by decide +kernel
theorem dL_law_1147 : decode cL_law 1147 = .ok (.ifCond .lt 62, 3) := by decide +kernel
theorem dL_law_1150 : decode cL_law 1150 = .ok (.iload 32, 2) := by decide +kernel
theorem dL_law_1152 : decode cL_law 1152 = .ok (.ifCond .ne 7, 3) := by decide +kernel
theorem dL_law_1155 : decode cL_law 1155 = .ok (.iconst 1, 1) := by decide +kernel
theorem dL_law_1156 : decode cL_law 1156 = .ok (.goto 4, 3) := by decide +kernel
theorem dL_law_1159 : decode cL_law 1159 = .ok (.iconst 0, 1) := by decide +kernel
theorem dL_law_1160 : decode cL_law 1160 = .ok (.iload 17, 2) := by decide +kernel
theorem dL_law_1162 : decode cL_law 1162 = .ok (.iload 24, 2) := by decide +kernel
theorem dL_law_1164 : decode cL_law 1164 = .ok (.if_icmp .ne 7, 3) := by decide +kernel
theorem dL_law_1167 : decode cL_law 1167 = .ok (.iconst 1, 1) := by decide +kernel
theorem dL_law_1168 : decode cL_law 1168 = .ok (.goto 4, 3) := by decide +kernel
theorem dL_law_1171 : decode cL_law 1171 = .ok (.iconst 0, 1) := by decide +kernel
theorem dL_law_1172 : decode cL_law 1172 = .ok (.if_icmp .ne 37, 3) := by decide +kernel
theorem dL_law_1175 : decode cL_law 1175 = .ok (.iload 29, 2) := by decide +kernel
theorem dL_law_1177 : decode cL_law 1177 = .ok (.ifCond .lt 15, 3) := by decide +kernel
theorem dL_law_1180 : decode cL_law 1180 = .ok (.iload 32, 2) := by decide +kernel
theorem dL_law_1182 : decode cL_law 1182 = .ok (.ifCond .lt 27, 3) := by decide +kernel
theorem dL_law_1185 : decode cL_law 1185 = .ok (.iload 32, 2) := by decide +kernel
theorem dL_law_1187 : decode cL_law 1187 = .ok (.iload 29, 2) := by decide +kernel
theorem dL_law_1189 : decode cL_law 1189 = .ok (.if_icmp .gt 20, 3) := by decide +kernel
theorem dL_law_1192 : decode cL_law 1192 = .ok (.iload 32, 2) := by decide +kernel
theorem dL_law_1194 : decode cL_law 1194 = .ok (.ifCond .lt 17, 3) := by decide +kernel
theorem dL_law_1197 : decode cL_law 1197 = .ok (.aload_n 1, 1) := by decide +kernel
theorem dL_law_1198 : decode cL_law 1198 = .ok (.iconst 1, 1) := by decide +kernel
theorem dL_law_1199 : decode cL_law 1199 = .ok (.iload 6, 2) := by decide +kernel
theorem dL_law_1201 : decode cL_law 1201 = .ok (.invokevirtual 118, 3) := by decide +kernel
theorem dL_law_1204 : decode cL_law 1204 = .ok (.bipush (-3), 2) := by decide +kernel
theorem dL_law_1206 : decode cL_law 1206 = .ok (.if_icmp .eq 5, 3) := by decide +kernel
theorem dL_law_1209 : decode cL_law 1209 = .ok (.iconst 0, 1) := by decide +kernel
theorem dL_law_1210 : decode cL_law 1210 = .ok (.ireturn, 1) := by decide +kernel
theorem KL_law_c1122 {σ : Scr} {self66 : Int → Mem → Option (Int × Mem)} (x266 : Int) (x267 : Int) (x268 : Int) (x269 : Int) (x270 : Int) (x271 : Int) (x272 : Int) (x273 : Int) (x274 : Int) (x275 : Int) (x276 : Int) (x277 : Int) (μ278 : Mem) (hself66 : ∀ (x11 : Int) (μ12 : Mem), Sim σ cL_law 60 RL (2000) (some .boolean) wI 66 [(0, .inr (.inr 64)), (1, .inr (.inr 0)), (2, .inr (.inr 60)), (3, .inr (.inr 61)), (4, .inr (.inr 62)), (5, .inr (.inr 63)), (6, .inl x266), (7, .inr (.inl x267)), (9, .inl x11)] [] μ12 (self66 x11 μ12)) : Sim σ cL_law 60 RL (2000) (some .boolean) wI 1122 [(0, .inr (.inr 64)), (1, .inr (.inr 0)), (2, .inr (.inr 60)), (3, .inr (.inr 61)), (4, .inr (.inr 62)), (5, .inr (.inr 63)), (6, .inl x266), (7, .inr (.inl x267)), (9, .inl x268), (10, .inl x269), (11, .inl x270), (12, .inl x271), (13, .inl x272), (14, .inl x273), (15, .inl x274), (17, .inl x275), (24, .inl x276), (29, .inl x277)] [] μ278 (fL_law_c1122 σ self66 x266 x267 x268 x269 x270 x271 x272 x273 x274 x275 x276 x277 μ278) := by
  unfold fL_law_c1122
  refine S_aload_n dL_law_1122 rfl ?_
  refine S_iload dL_law_1123 rfl ?_
  refine S_iconst dL_law_1125 rfl ?_
  refine S_callV_M2 dL_law_1126 [.inl x276, .inl 1] (K_X1_cheap x276 1 μ278) l_L_115 yo_X1_cheap rfl rfl rfl rfl rfl (fun x279 μ280 => ?_)
  refine S_istore (lv' := [(32, .inl x279), (0, .inr (.inr 64)), (1, .inr (.inr 0)), (2, .inr (.inr 60)), (3, .inr (.inr 61)), (4, .inr (.inr 62)), (5, .inr (.inr 63)), (6, .inl x266), (7, .inr (.inl x267)), (9, .inl x268), (10, .inl x269), (11, .inl x270), (12, .inl x271), (13, .inl x272), (14, .inl x273), (15, .inl x274), (17, .inl x275), (24, .inl x276), (29, .inl x277)]) dL_law_1129 rfl rfl ?_
  refine S_iload dL_law_1131 rfl ?_
  refine S_bipush dL_law_1133 rfl (by decide) ?_
  refine S_ic_lt (tgt := 1209) dL_law_1135 (by decide) (fun h802 => ?_) (fun h802 => ?_)
  · refine S_iconst dL_law_1209 rfl ?_
    exact S_zret dL_law_1210 rfl (by decide) rfl
  · refine S_iload dL_law_1138 rfl ?_
    refine S_bipush dL_law_1140 rfl (by decide) ?_
    refine S_jn (fun (K281 : Option (Int × Mem)) => Sim σ cL_law 60 RL (2000) (some .boolean) wI 1150 [(0, .inr (.inr 64)), (1, .inr (.inr 0)), (2, .inr (.inr 60)), (3, .inr (.inr 61)), (4, .inr (.inr 62)), (5, .inr (.inr 63)), (6, .inl x266), (7, .inr (.inl x267)), (9, .inl x268), (10, .inl x269), (11, .inl x270), (12, .inl x271), (13, .inl x272), (14, .inl x273), (15, .inl x274), (17, .inl x275), (24, .inl x276), (29, .inl x277), (32, .inl x279)] [] μ280 K281) ?_ (fun K281 hK281 => ?_)
    · skip
      refine S_iload dL_law_1150 rfl ?_
      refine S_jn (fun (K283 : Int → Option (Int × Mem)) => ∀ (x282 : Int), Sim σ cL_law 60 RL (2000) (some .boolean) wI 1160 [(0, .inr (.inr 64)), (1, .inr (.inr 0)), (2, .inr (.inr 60)), (3, .inr (.inr 61)), (4, .inr (.inr 62)), (5, .inr (.inr 63)), (6, .inl x266), (7, .inr (.inl x267)), (9, .inl x268), (10, .inl x269), (11, .inl x270), (12, .inl x271), (13, .inl x272), (14, .inl x273), (15, .inl x274), (17, .inl x275), (24, .inl x276), (29, .inl x277), (32, .inl x279)] [.inl x282] μ280 (K283 x282)) ?_ (fun K283 hK283 => ?_)
      · intro x282
        refine S_iload dL_law_1160 rfl ?_
        refine S_iload dL_law_1162 rfl ?_
        refine S_jn (fun (K285 : Int → Option (Int × Mem)) => ∀ (x284 : Int), Sim σ cL_law 60 RL (2000) (some .boolean) wI 1172 [(0, .inr (.inr 64)), (1, .inr (.inr 0)), (2, .inr (.inr 60)), (3, .inr (.inr 61)), (4, .inr (.inr 62)), (5, .inr (.inr 63)), (6, .inl x266), (7, .inr (.inl x267)), (9, .inl x268), (10, .inl x269), (11, .inl x270), (12, .inl x271), (13, .inl x272), (14, .inl x273), (15, .inl x274), (17, .inl x275), (24, .inl x276), (29, .inl x277), (32, .inl x279)] [.inl x284, .inl x282] μ280 (K285 x284)) ?_ (fun K285 hK285 => ?_)
        · intro x284
          refine S_ic_ne (tgt := 1209) dL_law_1172 (by decide) (fun h797 => ?_) (fun h797 => ?_)
          · refine S_iconst dL_law_1209 rfl ?_
            exact S_zret dL_law_1210 rfl (by decide) rfl
          · refine S_iload dL_law_1175 rfl ?_
            refine S_jn (fun (K286 : Option (Int × Mem)) => Sim σ cL_law 60 RL (2000) (some .boolean) wI 1192 [(0, .inr (.inr 64)), (1, .inr (.inr 0)), (2, .inr (.inr 60)), (3, .inr (.inr 61)), (4, .inr (.inr 62)), (5, .inr (.inr 63)), (6, .inl x266), (7, .inr (.inl x267)), (9, .inl x268), (10, .inl x269), (11, .inl x270), (12, .inl x271), (13, .inl x272), (14, .inl x273), (15, .inl x274), (17, .inl x275), (24, .inl x276), (32, .inl x279)] [] μ280 K286) ?_ (fun K286 hK286 => ?_)
            · skip
              refine S_iload dL_law_1192 rfl ?_
              refine S_if_lt (tgt := 1211) dL_law_1194 (by decide) (fun h793 => ?_) (fun h793 => ?_)
              · exact S_sub [0, 1, 2, 3, 4, 5, 6, 7, 8, 9, 10, 11, 12, 13, 14, 15, 16, 17] rfl (KL_law_c1211 x266 x267 x268 x269 x270 x271 x272 x273 x274 x275 x276 x279 μ280 hself66)
              · refine S_aload_n dL_law_1197 rfl ?_
                refine S_iconst dL_law_1198 rfl ?_
                refine S_iload dL_law_1199 rfl ?_
                refine S_callV_M2 dL_law_1201 [.inl 1, .inl x266] (K_X1_at 1 x266 μ280) l_L_118 yo_X1_at rfl rfl rfl rfl rfl (fun x790 μ791 => ?_)
                refine S_bipush dL_law_1204 rfl (by decide) ?_
                refine S_ic_eq (tgt := 1211) dL_law_1206 (by decide) (fun h792 => ?_) (fun h792 => ?_)
                · exact S_sub [0, 1, 2, 3, 4, 5, 6, 7, 8, 9, 10, 11, 12, 13, 14, 15, 16, 17] rfl (KL_law_c1211 x266 x267 x268 x269 x270 x271 x272 x273 x274 x275 x276 x279 μ791 hself66)
                · refine S_iconst dL_law_1209 rfl ?_
                  exact S_zret dL_law_1210 rfl (by decide) rfl
            refine S_if_lt (tgt := 1192) dL_law_1177 (by decide) (fun h796 => ?_) (fun h796 => ?_)
            · exact S_sub [0, 1, 2, 3, 4, 5, 6, 7, 8, 9, 10, 11, 12, 13, 14, 15, 16, 18] rfl (hK286)
            · refine S_iload dL_law_1180 rfl ?_
              refine S_if_lt (tgt := 1209) dL_law_1182 (by decide) (fun h795 => ?_) (fun h795 => ?_)
              · refine S_iconst dL_law_1209 rfl ?_
                exact S_zret dL_law_1210 rfl (by decide) rfl
              · refine S_iload dL_law_1185 rfl ?_
                refine S_iload dL_law_1187 rfl ?_
                refine S_ic_gt (tgt := 1209) dL_law_1189 (by decide) (fun h794 => ?_) (fun h794 => ?_)
                · refine S_iconst dL_law_1209 rfl ?_
                  exact S_zret dL_law_1210 rfl (by decide) rfl
                · exact S_sub [0, 1, 2, 3, 4, 5, 6, 7, 8, 9, 10, 11, 12, 13, 14, 15, 16, 18] rfl (hK286)
        refine S_ic_ne (tgt := 1171) dL_law_1164 (by decide) (fun h798 => ?_) (fun h798 => ?_)
        · refine S_iconst dL_law_1171 rfl ?_
          exact S_sub [0, 1, 2, 3, 4, 5, 6, 7, 8, 9, 10, 11, 12, 13, 14, 15, 16, 17, 18] rfl (hK285 0)
        · refine S_iconst dL_law_1167 rfl ?_
          refine S_goto (tgt := 1172) dL_law_1168 (by decide) ?_
          exact S_sub [0, 1, 2, 3, 4, 5, 6, 7, 8, 9, 10, 11, 12, 13, 14, 15, 16, 17, 18] rfl (hK285 1)
      refine S_if_ne (tgt := 1159) dL_law_1152 (by decide) (fun h799 => ?_) (fun h799 => ?_)
      · refine S_iconst dL_law_1159 rfl ?_
        exact S_sub [0, 1, 2, 3, 4, 5, 6, 7, 8, 9, 10, 11, 12, 13, 14, 15, 16, 17, 18] rfl (hK283 0)
      · refine S_iconst dL_law_1155 rfl ?_
        refine S_goto (tgt := 1160) dL_law_1156 (by decide) ?_
        exact S_sub [0, 1, 2, 3, 4, 5, 6, 7, 8, 9, 10, 11, 12, 13, 14, 15, 16, 17, 18] rfl (hK283 1)
    refine S_ic_le (tgt := 1150) dL_law_1142 (by decide) (fun h801 => ?_) (fun h801 => ?_)
    · exact S_sub [1, 2, 3, 4, 5, 6, 7, 8, 9, 10, 11, 12, 13, 14, 15, 16, 17, 18, 0] rfl (hK281)
    · refine S_iload dL_law_1145 rfl ?_
      refine S_if_lt (tgt := 1209) dL_law_1147 (by decide) (fun h800 => ?_) (fun h800 => ?_)
      · refine S_iconst dL_law_1209 rfl ?_
        exact S_zret dL_law_1210 rfl (by decide) rfl
      · exact S_sub [1, 2, 3, 4, 5, 6, 7, 8, 9, 10, 11, 12, 13, 14, 15, 16, 17, 18, 0] rfl (hK281)
def fL_law_c1068 (σ : Scr) (self66 : Int → Mem → Option (Int × Mem)) (x252 : Int) (x253 : Int) (x254 : Int) (x255 : Int) (x256 : Int) (x257 : Int) (x258 : Int) (x259 : Int) (x260 : Int) (x261 : Int) (x262 : Int) (x263 : Int) (x264 : Int) (μ265 : Mem) : Option (Int × Mem) :=
  if x263 ≤ 0 then
    fL_law_c1122 σ self66 x252 x253 x254 x255 x256 x257 x258 x259 x260 x261 x262 x263 μ265
  else
    (fX1_count 4 μ265).bind fun x803 =>
    if ¬ x803 = (bshl 1 x262) then
      some (0, μ265)
    else
      bnd2 (fX1_shame x262 1 μ265) fun x804 μ805 =>
      if x804 < 0 then
        some (0, μ805)
      else
        (fX1_count 4 μ805).bind fun x806 =>
        if x806 = (bshl 1 x262) then
          some (0, μ805)
        else
          bnd2 (fX1_undo x256 μ805) fun x807 μ808 =>
          if x807 = (w32 (x264 + 1)) then
            fL_law_c1122 σ self66 x252 x253 x254 x255 x256 x257 x258 x259 x260 x261 x262 x263 μ808
          else
            some (0, μ808)
theorem dL_law_1068 : decode cL_law 1068 = .ok (.iload 29, 2) := by decide +kernel
theorem dL_law_1070 : decode cL_law 1070 = .ok (.ifCond .le 52, 3) := by decide +kernel
theorem dL_law_1073 : decode cL_law 1073 = .ok (.aload_n 1, 1) := by decide +kernel
theorem dL_law_1074 : decode cL_law 1074 = .ok (.iconst 4, 1) := by decide +kernel
theorem dL_law_1075 : decode cL_law 1075 = .ok (.invokevirtual 92, 3) := by decide +kernel
theorem dL_law_1078 : decode cL_law 1078 = .ok (.iconst 1, 1) := by decide +kernel
theorem dL_law_1079 : decode cL_law 1079 = .ok (.iload 24, 2) := by decide +kernel
theorem dL_law_1081 : decode cL_law 1081 = .ok (.ishl, 1) := by decide +kernel
theorem dL_law_1082 : decode cL_law 1082 = .ok (.if_icmp .ne 38, 3) := by decide +kernel
theorem dL_law_1085 : decode cL_law 1085 = .ok (.aload_n 1, 1) := by decide +kernel
theorem dL_law_1086 : decode cL_law 1086 = .ok (.iload 24, 2) := by decide +kernel
theorem dL_law_1088 : decode cL_law 1088 = .ok (.iconst 1, 1) := by decide +kernel
theorem dL_law_1089 : decode cL_law 1089 = .ok (.invokevirtual 65, 3) := by decide +kernel
theorem dL_law_1092 : decode cL_law 1092 = .ok (.ifCond .lt 28, 3) := by decide +kernel
theorem dL_law_1095 : decode cL_law 1095 = .ok (.aload_n 1, 1) := by decide +kernel
theorem dL_law_1096 : decode cL_law 1096 = .ok (.iconst 4, 1) := by decide +kernel
theorem dL_law_1097 : decode cL_law 1097 = .ok (.invokevirtual 92, 3) := by decide +kernel
theorem dL_law_1100 : decode cL_law 1100 = .ok (.iconst 1, 1) := by decide +kernel
theorem dL_law_1101 : decode cL_law 1101 = .ok (.iload 24, 2) := by decide +kernel
theorem dL_law_1103 : decode cL_law 1103 = .ok (.ishl, 1) := by decide +kernel
theorem dL_law_1104 : decode cL_law 1104 = .ok (.if_icmp .eq 16, 3) := by decide +kernel
theorem dL_law_1107 : decode cL_law 1107 = .ok (.aload_n 1, 1) := by decide +kernel
theorem dL_law_1108 : decode cL_law 1108 = .ok (.iload 11, 2) := by decide +kernel
theorem dL_law_1110 : decode cL_law 1110 = .ok (.invokevirtual 100, 3) := by decide +kernel
theorem dL_law_1113 : decode cL_law 1113 = .ok (.iload 31, 2) := by decide +kernel
theorem dL_law_1115 : decode cL_law 1115 = .ok (.iconst 1, 1) := by decide +kernel
theorem dL_law_1116 : decode cL_law 1116 = .ok (.iadd, 1) := by decide +kernel
theorem dL_law_1117 : decode cL_law 1117 = .ok (.if_icmp .eq 5, 3) := by decide +kernel
theorem dL_law_1120 : decode cL_law 1120 = .ok (.iconst 0, 1) := by decide +kernel
theorem dL_law_1121 : decode cL_law 1121 = .ok (.ireturn, 1) := by decide +kernel
theorem KL_law_c1068 {σ : Scr} {self66 : Int → Mem → Option (Int × Mem)} (x252 : Int) (x253 : Int) (x254 : Int) (x255 : Int) (x256 : Int) (x257 : Int) (x258 : Int) (x259 : Int) (x260 : Int) (x261 : Int) (x262 : Int) (x263 : Int) (x264 : Int) (μ265 : Mem) (hself66 : ∀ (x11 : Int) (μ12 : Mem), Sim σ cL_law 60 RL (2000) (some .boolean) wI 66 [(0, .inr (.inr 64)), (1, .inr (.inr 0)), (2, .inr (.inr 60)), (3, .inr (.inr 61)), (4, .inr (.inr 62)), (5, .inr (.inr 63)), (6, .inl x252), (7, .inr (.inl x253)), (9, .inl x11)] [] μ12 (self66 x11 μ12)) : Sim σ cL_law 60 RL (2000) (some .boolean) wI 1068 [(0, .inr (.inr 64)), (1, .inr (.inr 0)), (2, .inr (.inr 60)), (3, .inr (.inr 61)), (4, .inr (.inr 62)), (5, .inr (.inr 63)), (6, .inl x252), (7, .inr (.inl x253)), (9, .inl x254), (10, .inl x255), (11, .inl x256), (12, .inl x257), (13, .inl x258), (14, .inl x259), (15, .inl x260), (17, .inl x261), (24, .inl x262), (29, .inl x263), (31, .inl x264)] [] μ265 (fL_law_c1068 σ self66 x252 x253 x254 x255 x256 x257 x258 x259 x260 x261 x262 x263 x264 μ265) := by
  unfold fL_law_c1068
  refine S_iload dL_law_1068 rfl ?_
  refine S_if_le (tgt := 1122) dL_law_1070 (by decide) (fun h813 => ?_) (fun h813 => ?_)
  · exact S_sub [0, 1, 2, 3, 4, 5, 6, 7, 8, 9, 10, 11, 12, 13, 14, 15, 16, 17] rfl (KL_law_c1122 x252 x253 x254 x255 x256 x257 x258 x259 x260 x261 x262 x263 μ265 hself66)
  · refine S_aload_n dL_law_1073 rfl ?_
    refine S_iconst dL_law_1074 rfl ?_
    refine S_callV_I dL_law_1075 [.inl 4] (K_X1_count 4 μ265) l_L_92 yo_X1_count rfl rfl rfl rfl rfl (fun x803 => ?_)
    refine S_iconst dL_law_1078 rfl ?_
    refine S_iload dL_law_1079 rfl ?_
    refine S_ishl dL_law_1081 ?_
    refine S_ic_ne (tgt := 1120) dL_law_1082 (by decide) (fun h812 => ?_) (fun h812 => ?_)
    · refine S_iconst dL_law_1120 rfl ?_
      exact S_zret dL_law_1121 rfl (by decide) rfl
    · refine S_aload_n dL_law_1085 rfl ?_
      refine S_iload dL_law_1086 rfl ?_
      refine S_iconst dL_law_1088 rfl ?_
      refine S_callV_M2 dL_law_1089 [.inl x262, .inl 1] (K_X1_shame x262 1 μ265) l_L_65 yo_X1_shame rfl rfl rfl rfl rfl (fun x804 μ805 => ?_)
      refine S_if_lt (tgt := 1120) dL_law_1092 (by decide) (fun h811 => ?_) (fun h811 => ?_)
      · refine S_iconst dL_law_1120 rfl ?_
        exact S_zret dL_law_1121 rfl (by decide) rfl
      · refine S_aload_n dL_law_1095 rfl ?_
        refine S_iconst dL_law_1096 rfl ?_
        refine S_callV_I dL_law_1097 [.inl 4] (K_X1_count 4 μ805) l_L_92 yo_X1_count rfl rfl rfl rfl rfl (fun x806 => ?_)
        refine S_iconst dL_law_1100 rfl ?_
        refine S_iload dL_law_1101 rfl ?_
        refine S_ishl dL_law_1103 ?_
        refine S_ic_eq (tgt := 1120) dL_law_1104 (by decide) (fun h810 => ?_) (fun h810 => ?_)
        · refine S_iconst dL_law_1120 rfl ?_
          exact S_zret dL_law_1121 rfl (by decide) rfl
        · refine S_aload_n dL_law_1107 rfl ?_
          refine S_iload dL_law_1108 rfl ?_
          refine S_callV_M2 dL_law_1110 [.inl x256] (K_X1_undo x256 μ805) l_L_100 yo_X1_undo rfl rfl rfl rfl rfl (fun x807 μ808 => ?_)
          refine S_iload dL_law_1113 rfl ?_
          refine S_iconst dL_law_1115 rfl ?_
          refine S_iadd dL_law_1116 ?_
          refine S_ic_eq (tgt := 1122) dL_law_1117 (by decide) (fun h809 => ?_) (fun h809 => ?_)
          · exact S_sub [0, 1, 2, 3, 4, 5, 6, 7, 8, 9, 10, 11, 12, 13, 14, 15, 16, 17] rfl (KL_law_c1122 x252 x253 x254 x255 x256 x257 x258 x259 x260 x261 x262 x263 μ808 hself66)
          · refine S_iconst dL_law_1120 rfl ?_
            exact S_zret dL_law_1121 rfl (by decide) rfl
def fL_law_L1021 (σ : Scr) (self66 : Int → Mem → Option (Int × Mem)) (x235 : Int) (x236 : Int) (x237 : Int) (x238 : Int) (x239 : Int) (x240 : Int) (x241 : Int) (x242 : Int) (x243 : Int) (x244 : Int) (x245 : Int) (x246 : Int) : Nat → Int → Int → Mem → Option (Int × Mem)
  | 0, _, _, _ => none
  | n251 + 1, x248, x249, μ250 =>
    if x248 ≤ 0 then
      fL_law_c1068 σ self66 x235 x236 x237 x238 x239 x240 x241 x242 x243 x244 x245 x246 x249 μ250
    else
      mlet (fun (x814 : Int) =>
        bnd2 (fX1_raise x245 x814 μ250) fun x816 μ817 =>
        if 0 ≤ x816 then
          mlet ((w32 (x248 - x814))) fun x818 =>
          mlet (w32 (x249 + 1)) fun x819 =>
          fL_law_L1021 σ self66 x235 x236 x237 x238 x239 x240 x241 x242 x243 x244 x245 x246 n251 x818 x819 μ817
        else
          some (0, μ817)
        ) fun (K815 : Int → Option (Int × Mem)) =>
      if x248 ≤ 9 then
        K815 x248
      else
        K815 9
def fL_law_c1014 (σ : Scr) (self66 : Int → Mem → Option (Int × Mem)) (x235 : Int) (x236 : Int) (x237 : Int) (x238 : Int) (x239 : Int) (x240 : Int) (x241 : Int) (x242 : Int) (x243 : Int) (x244 : Int) (x245 : Int) (x246 : Int) (μ247 : Mem) : Option (Int × Mem) :=
  fL_law_L1021 σ self66 x235 x236 x237 x238 x239 x240 x241 x242 x243 x244 x245 x246 fuel x246 0 μ247
theorem dL_law_1014 : decode cL_law 1014 = .ok (.iload 29, 2) := by decide +kernel
theorem dL_law_1016 : decode cL_law 1016 = .ok (.istore 30, 2) := by decide +kernel
theorem dL_law_1018 : decode cL_law 1018 = .ok (.iconst 0, 1) := by decide +kernel
theorem dL_law_1019 : decode cL_law 1019 = .ok (.istore 31, 2) := by decide +kernel
theorem dL_law_1021 : decode cL_law 1021 = .ok (.iload 30, 2) := by decide +kernel
theorem dL_law_1023 : decode cL_law 1023 = .ok (.ifCond .le 45, 3) := by decide +kernel
theorem dL_law_1026 : decode cL_law 1026 = .ok (.iload 30, 2) := by decide +kernel
theorem dL_law_1028 : decode cL_law 1028 = .ok (.bipush 9, 2) := by decide +kernel
theorem dL_law_1030 : decode cL_law 1030 = .ok (.if_icmp .le 8, 3) := by decide +kernel
theorem dL_law_1033 : decode cL_law 1033 = .ok (.bipush 9, 2) := by decide +kernel
theorem dL_law_1035 : decode cL_law 1035 = .ok (.goto 5, 3) := by decide +kernel
theorem dL_law_1038 : decode cL_law 1038 = .ok (.iload 30, 2) := by decide +kernel
theorem dL_law_1040 : decode cL_law 1040 = .ok (.istore 32, 2) := by decide +kernel
theorem dL_law_1042 : decode cL_law 1042 = .ok (.aload_n 1, 1) := by decide +kernel
theorem dL_law_1043 : decode cL_law 1043 = .ok (.iload 24, 2) := by decide +kernel
theorem dL_law_1045 : decode cL_law 1045 = .ok (.iload 32, 2) := by decide +kernel
theorem dL_law_1047 : decode cL_law 1047 = .ok (.invokevirtual 62, 3) := by decide +kernel
theorem dL_law_1050 : decode cL_law 1050 = .ok (.ifCond .ge 5, 3) := by decide +kernel
theorem dL_law_1053 : decode cL_law 1053 = .ok (.iconst 0, 1) := by decide +kernel
theorem dL_law_1054 : decode cL_law 1054 = .ok (.ireturn, 1) := by decide +kernel
theorem dL_law_1055 : decode cL_law 1055 = .ok (.iload 30, 2) := by decide +kernel
theorem dL_law_1057 : decode cL_law 1057 = .ok (.iload 32, 2) := by decide +kernel
theorem dL_law_1059 : decode cL_law 1059 = .ok (.isub, 1) := by decide +kernel
theorem dL_law_1060 : decode cL_law 1060 = .ok (.istore 30, 2) := by decide +kernel
theorem dL_law_1062 : decode cL_law 1062 = .ok (.iinc 31 1, 3) := by decide +kernel
theorem dL_law_1065 : decode cL_law 1065 = .ok (.goto (-44), 3) := by decide +kernel
theorem KL_law_c1014 {σ : Scr} {self66 : Int → Mem → Option (Int × Mem)} (x235 : Int) (x236 : Int) (x237 : Int) (x238 : Int) (x239 : Int) (x240 : Int) (x241 : Int) (x242 : Int) (x243 : Int) (x244 : Int) (x245 : Int) (x246 : Int) (μ247 : Mem) (hself66 : ∀ (x11 : Int) (μ12 : Mem), Sim σ cL_law 60 RL (2000) (some .boolean) wI 66 [(0, .inr (.inr 64)), (1, .inr (.inr 0)), (2, .inr (.inr 60)), (3, .inr (.inr 61)), (4, .inr (.inr 62)), (5, .inr (.inr 63)), (6, .inl x235), (7, .inr (.inl x236)), (9, .inl x11)] [] μ12 (self66 x11 μ12)) : Sim σ cL_law 60 RL (2000) (some .boolean) wI 1014 [(0, .inr (.inr 64)), (1, .inr (.inr 0)), (2, .inr (.inr 60)), (3, .inr (.inr 61)), (4, .inr (.inr 62)), (5, .inr (.inr 63)), (6, .inl x235), (7, .inr (.inl x236)), (9, .inl x237), (10, .inl x238), (11, .inl x239), (12, .inl x240), (13, .inl x241), (14, .inl x242), (15, .inl x243), (17, .inl x244), (24, .inl x245), (29, .inl x246)] [] μ247 (fL_law_c1014 σ self66 x235 x236 x237 x238 x239 x240 x241 x242 x243 x244 x245 x246 μ247) := by
  unfold fL_law_c1014
  refine S_iload dL_law_1014 rfl ?_
  refine S_istore (lv' := [(30, .inl x246), (0, .inr (.inr 64)), (1, .inr (.inr 0)), (2, .inr (.inr 60)), (3, .inr (.inr 61)), (4, .inr (.inr 62)), (5, .inr (.inr 63)), (6, .inl x235), (7, .inr (.inl x236)), (9, .inl x237), (10, .inl x238), (11, .inl x239), (12, .inl x240), (13, .inl x241), (14, .inl x242), (15, .inl x243), (17, .inl x244), (24, .inl x245), (29, .inl x246)]) dL_law_1016 rfl rfl ?_
  refine S_iconst dL_law_1018 rfl ?_
  refine S_istore (lv' := [(31, .inl 0), (30, .inl x246), (0, .inr (.inr 64)), (1, .inr (.inr 0)), (2, .inr (.inr 60)), (3, .inr (.inr 61)), (4, .inr (.inr 62)), (5, .inr (.inr 63)), (6, .inl x235), (7, .inr (.inl x236)), (9, .inl x237), (10, .inl x238), (11, .inl x239), (12, .inl x240), (13, .inl x241), (14, .inl x242), (15, .inl x243), (17, .inl x244), (24, .inl x245), (29, .inl x246)]) dL_law_1019 rfl rfl ?_
  have hL1021 : ∀ (n251 : Nat) (x248 : Int) (x249 : Int) (μ250 : Mem), Sim σ cL_law 60 RL (2000) (some .boolean) wI 1021 [(0, .inr (.inr 64)), (1, .inr (.inr 0)), (2, .inr (.inr 60)), (3, .inr (.inr 61)), (4, .inr (.inr 62)), (5, .inr (.inr 63)), (6, .inl x235), (7, .inr (.inl x236)), (9, .inl x237), (10, .inl x238), (11, .inl x239), (12, .inl x240), (13, .inl x241), (14, .inl x242), (15, .inl x243), (17, .inl x244), (24, .inl x245), (29, .inl x246), (30, .inl x248), (31, .inl x249)] [] μ250 (fL_law_L1021 σ self66 x235 x236 x237 x238 x239 x240 x241 x242 x243 x244 x245 x246 n251 x248 x249 μ250) := by
    intro n251
    induction n251 with
    | zero =>
      intro x248 x249 μ250
      exact S_none rfl
    | succ n251 ih =>
      intro x248 x249 μ250
      rw [fL_law_L1021]
      refine S_iload dL_law_1021 rfl ?_
      refine S_if_le (tgt := 1068) dL_law_1023 (by decide) (fun h822 => ?_) (fun h822 => ?_)
      · exact S_sub [0, 1, 2, 3, 4, 5, 6, 7, 8, 9, 10, 11, 12, 13, 14, 15, 16, 17, 19] rfl (KL_law_c1068 x235 x236 x237 x238 x239 x240 x241 x242 x243 x244 x245 x246 x249 μ250 hself66)
      · refine S_iload dL_law_1026 rfl ?_
        refine S_bipush dL_law_1028 rfl (by decide) ?_
        refine S_jn (fun (K815 : Int → Option (Int × Mem)) => ∀ (x814 : Int), Sim σ cL_law 60 RL (2000) (some .boolean) wI 1040 [(0, .inr (.inr 64)), (1, .inr (.inr 0)), (2, .inr (.inr 60)), (3, .inr (.inr 61)), (4, .inr (.inr 62)), (5, .inr (.inr 63)), (6, .inl x235), (7, .inr (.inl x236)), (9, .inl x237), (10, .inl x238), (11, .inl x239), (12, .inl x240), (13, .inl x241), (14, .inl x242), (15, .inl x243), (17, .inl x244), (24, .inl x245), (29, .inl x246), (30, .inl x248), (31, .inl x249)] [.inl x814] μ250 (K815 x814)) ?_ (fun K815 hK815 => ?_)
        · intro x814
          refine S_istore (lv' := [(32, .inl x814), (0, .inr (.inr 64)), (1, .inr (.inr 0)), (2, .inr (.inr 60)), (3, .inr (.inr 61)), (4, .inr (.inr 62)), (5, .inr (.inr 63)), (6, .inl x235), (7, .inr (.inl x236)), (9, .inl x237), (10, .inl x238), (11, .inl x239), (12, .inl x240), (13, .inl x241), (14, .inl x242), (15, .inl x243), (17, .inl x244), (24, .inl x245), (29, .inl x246), (30, .inl x248), (31, .inl x249)]) dL_law_1040 rfl rfl ?_
          refine S_aload_n dL_law_1042 rfl ?_
          refine S_iload dL_law_1043 rfl ?_
          refine S_iload dL_law_1045 rfl ?_
          refine S_callV_M2 dL_law_1047 [.inl x245, .inl x814] (K_X1_raise x245 x814 μ250) l_L_62 yo_X1_raise rfl rfl rfl rfl rfl (fun x816 μ817 => ?_)
          refine S_if_ge (tgt := 1055) dL_law_1050 (by decide) (fun h820 => ?_) (fun h820 => ?_)
          · refine S_iload dL_law_1055 rfl ?_
            refine S_iload dL_law_1057 rfl ?_
            refine S_isub dL_law_1059 ?_
            refine S_let (fun x818 => ?_)
            refine S_istore (lv' := [(30, .inl x818), (32, .inl x814), (0, .inr (.inr 64)), (1, .inr (.inr 0)), (2, .inr (.inr 60)), (3, .inr (.inr 61)), (4, .inr (.inr 62)), (5, .inr (.inr 63)), (6, .inl x235), (7, .inr (.inl x236)), (9, .inl x237), (10, .inl x238), (11, .inl x239), (12, .inl x240), (13, .inl x241), (14, .inl x242), (15, .inl x243), (17, .inl x244), (24, .inl x245), (29, .inl x246), (31, .inl x249)]) dL_law_1060 rfl rfl ?_
            refine S_iinc (lv' := fun x819 => [(31, .inl x819), (30, .inl x818), (32, .inl x814), (0, .inr (.inr 64)), (1, .inr (.inr 0)), (2, .inr (.inr 60)), (3, .inr (.inr 61)), (4, .inr (.inr 62)), (5, .inr (.inr 63)), (6, .inl x235), (7, .inr (.inl x236)), (9, .inl x237), (10, .inl x238), (11, .inl x239), (12, .inl x240), (13, .inl x241), (14, .inl x242), (15, .inl x243), (17, .inl x244), (24, .inl x245), (29, .inl x246)]) dL_law_1062 rfl rfl rfl (fun _ => rfl) (fun x819 => ?_)
            refine S_goto (tgt := 1021) dL_law_1065 (by decide) ?_
            exact S_sub [3, 4, 5, 6, 7, 8, 9, 10, 11, 12, 13, 14, 15, 16, 17, 18, 19, 20, 1, 0] rfl (ih x818 x819 μ817)
          · refine S_iconst dL_law_1053 rfl ?_
            exact S_zret dL_law_1054 rfl (by decide) rfl
        refine S_ic_le (tgt := 1038) dL_law_1030 (by decide) (fun h821 => ?_) (fun h821 => ?_)
        · refine S_iload dL_law_1038 rfl ?_
          exact S_sub [0, 1, 2, 3, 4, 5, 6, 7, 8, 9, 10, 11, 12, 13, 14, 15, 16, 17, 18, 19] rfl (hK815 x248)
        · refine S_bipush dL_law_1033 rfl (by decide) ?_
          refine S_goto (tgt := 1040) dL_law_1035 (by decide) ?_
          exact S_sub [0, 1, 2, 3, 4, 5, 6, 7, 8, 9, 10, 11, 12, 13, 14, 15, 16, 17, 18, 19] rfl (hK815 9)
  exact S_sub [2, 3, 4, 5, 6, 7, 8, 9, 10, 11, 12, 13, 14, 15, 16, 17, 18, 19, 1, 0] rfl (hL1021 fuel x246 0 μ247)
def fL_law_c946 (σ : Scr) (self66 : Int → Mem → Option (Int × Mem)) (x216 : Int) (x217 : Int) (x218 : Int) (x219 : Int) (x220 : Int) (x221 : Int) (x222 : Int) (x223 : Int) (x224 : Int) (x225 : Int) (x226 : Int) (μ227 : Mem) : Option (Int × Mem) :=
  bnd2 (fX1_lift x226 1 μ227) fun x228 μ229 =>
  if x228 < (-9) then
    some (0, μ229)
  else
    grd (0 ≤ x226 ∧ x226 < 6) <|
    if (w32 (20 - (μ229 62 (x226).toNat))) < x228 then
      some (0, μ229)
    else
      mlet (
        mlet (fun (x231 : Int) =>
          mlet (fun (x233 : Int) =>
            if x231 = x233 then
              fL_law_c1014 σ self66 x216 x217 x218 x219 x220 x221 x222 x223 x224 x225 x226 x228 μ229
            else
              some (0, μ229)
            ) fun (K234 : Int → Option (Int × Mem)) =>
          if ¬ x225 = x226 then
            K234 0
          else
            K234 1
          ) fun (K232 : Int → Option (Int × Mem)) =>
        if ¬ x228 = 0 then
          K232 0
        else
          K232 1
        : Option (Int × Mem)) fun (K230 : Option (Int × Mem)) =>
      if x228 ≤ (-9) then
        K230
      else
        if x228 < 0 then
          some (0, μ229)
        else
          K230
theorem dL_law_946 : decode cL_law 946 = .ok (.aload_n 1, 1) := by decide +kernel
theorem dL_law_947 : decode cL_law 947 = .ok (.iload 24, 2) := by decide +kernel
theorem dL_law_949 : decode cL_law 949 = .ok (.iconst 1, 1) := by decide +kernel
theorem dL_law_950 : decode cL_law 950 = .ok (.invokevirtual 112, 3) := by decide +kernel
theorem dL_law_953 : decode cL_law 953 = .ok (.istore 29, 2) := by decide +kernel
theorem dL_law_955 : decode cL_law 955 = .ok (.iload 29, 2) := by decide +kernel
theorem dL_law_957 : decode cL_law 957 = .ok (.bipush (-9), 2) := by decide +kernel
theorem dL_law_959 : decode cL_law 959 = .ok (.if_icmp .lt 53, 3) := by decide +kernel
theorem dL_law_962 : decode cL_law 962 = .ok (.iload 29, 2) := by decide +kernel
theorem dL_law_964 : decode cL_law 964 = .ok (.bipush 20, 2) := by decide +kernel
theorem dL_law_966 : decode cL_law 966 = .ok (.aload 4, 2) := by decide +kernel
theorem dL_law_968 : decode cL_law 968 = .ok (.iload 24, 2) := by decide +kernel
theorem dL_law_970 : decode cL_law 970 = .ok (.iaload, 1) := by decide +kernel
theorem dL_law_971 : decode cL_law 971 = .ok (.isub, 1) := by decide +kernel
theorem dL_law_972 : decode cL_law 972 = .ok (.if_icmp .gt 40, 3) := by decide +kernel
theorem dL_law_975 : decode cL_law 975 = .ok (.iload 29, 2) := by decide +kernel
theorem dL_law_977 : decode cL_law 977 = .ok (.bipush (-9), 2) := by decide +kernel
theorem dL_law_979 : decode cL_law 979 = .ok (.if_icmp .le 8, 3) := by decide +kernel
theorem dL_law_982 : decode cL_law 982 = .ok (.iload 29, 2) := by decide +kernel
theorem dL_law_984 : decode cL_law 984 = .ok (.ifCond .lt 28, 3) := by decide +kernel
theorem dL_law_987 : decode cL_law 987 = .ok (.iload 29, 2) := by decide +kernel
theorem dL_law_989 : decode cL_law 989 = .ok (.ifCond .ne 7, 3) := by decide +kernel
theorem dL_law_992 : decode cL_law 992 = .ok (.iconst 1, 1) := by decide +kernel
theorem dL_law_993 : decode cL_law 993 = .ok (.goto 4, 3) := by decide +kernel
theorem dL_law_996 : decode cL_law 996 = .ok (.iconst 0, 1) := by decide +kernel
theorem dL_law_997 : decode cL_law 997 = .ok (.iload 17, 2) := by decide +kernel
theorem dL_law_999 : decode cL_law 999 = .ok (.iload 24, 2) := by decide +kernel
theorem dL_law_1001 : decode cL_law 1001 = .ok (.if_icmp .ne 7, 3) := by decide +kernel
theorem dL_law_1004 : decode cL_law 1004 = .ok (.iconst 1, 1) := by decide +kernel
theorem dL_law_1005 : decode cL_law 1005 = .ok (.goto 4, 3) := by decide +kernel
theorem dL_law_1008 : decode cL_law 1008 = .ok (.iconst 0, 1) := by decide +kernel
theorem dL_law_1009 : decode cL_law 1009 = .ok (.if_icmp .eq 5, 3) := by decide +kernel
theorem dL_law_1012 : decode cL_law 1012 = .ok (.iconst 0, 1) := by decide +kernel
theorem dL_law_1013 : decode cL_law 1013 = .ok (.ireturn, 1) := by decide +kernel
theorem KL_law_c946 {σ : Scr} {self66 : Int → Mem → Option (Int × Mem)} (x216 : Int) (x217 : Int) (x218 : Int) (x219 : Int) (x220 : Int) (x221 : Int) (x222 : Int) (x223 : Int) (x224 : Int) (x225 : Int) (x226 : Int) (μ227 : Mem) (hself66 : ∀ (x11 : Int) (μ12 : Mem), Sim σ cL_law 60 RL (2000) (some .boolean) wI 66 [(0, .inr (.inr 64)), (1, .inr (.inr 0)), (2, .inr (.inr 60)), (3, .inr (.inr 61)), (4, .inr (.inr 62)), (5, .inr (.inr 63)), (6, .inl x216), (7, .inr (.inl x217)), (9, .inl x11)] [] μ12 (self66 x11 μ12)) : Sim σ cL_law 60 RL (2000) (some .boolean) wI 946 [(0, .inr (.inr 64)), (1, .inr (.inr 0)), (2, .inr (.inr 60)), (3, .inr (.inr 61)), (4, .inr (.inr 62)), (5, .inr (.inr 63)), (6, .inl x216), (7, .inr (.inl x217)), (9, .inl x218), (10, .inl x219), (11, .inl x220), (12, .inl x221), (13, .inl x222), (14, .inl x223), (15, .inl x224), (17, .inl x225), (24, .inl x226)] [] μ227 (fL_law_c946 σ self66 x216 x217 x218 x219 x220 x221 x222 x223 x224 x225 x226 μ227) := by
  unfold fL_law_c946
  refine S_aload_n dL_law_946 rfl ?_
  refine S_iload dL_law_947 rfl ?_
  refine S_iconst dL_law_949 rfl ?_
  refine S_callV_M2 dL_law_950 [.inl x226, .inl 1] (K_X1_lift x226 1 μ227) l_L_112 yo_X1_lift rfl rfl rfl rfl rfl (fun x228 μ229 => ?_)
  refine S_istore (lv' := [(29, .inl x228), (0, .inr (.inr 64)), (1, .inr (.inr 0)), (2, .inr (.inr 60)), (3, .inr (.inr 61)), (4, .inr (.inr 62)), (5, .inr (.inr 63)), (6, .inl x216), (7, .inr (.inl x217)), (9, .inl x218), (10, .inl x219), (11, .inl x220), (12, .inl x221), (13, .inl x222), (14, .inl x223), (15, .inl x224), (17, .inl x225), (24, .inl x226)]) dL_law_953 rfl rfl ?_
  refine S_iload dL_law_955 rfl ?_
  refine S_bipush dL_law_957 rfl (by decide) ?_
  refine S_ic_lt (tgt := 1012) dL_law_959 (by decide) (fun h829 => ?_) (fun h829 => ?_)
  · refine S_iconst dL_law_1012 rfl ?_
    exact S_zret dL_law_1013 rfl (by decide) rfl
  · refine S_iload dL_law_962 rfl ?_
    refine S_bipush dL_law_964 rfl (by decide) ?_
    refine S_aload dL_law_966 rfl ?_
    refine S_iload dL_law_968 rfl ?_
    refine S_iald (N := 6) dL_law_970 rfl (by decide) rfl ?_
    refine S_isub dL_law_971 ?_
    refine S_ic_gt (tgt := 1012) dL_law_972 (by decide) (fun h828 => ?_) (fun h828 => ?_)
    · refine S_iconst dL_law_1012 rfl ?_
      exact S_zret dL_law_1013 rfl (by decide) rfl
    · refine S_iload dL_law_975 rfl ?_
      refine S_bipush dL_law_977 rfl (by decide) ?_
      refine S_jn (fun (K230 : Option (Int × Mem)) => Sim σ cL_law 60 RL (2000) (some .boolean) wI 987 [(0, .inr (.inr 64)), (1, .inr (.inr 0)), (2, .inr (.inr 60)), (3, .inr (.inr 61)), (4, .inr (.inr 62)), (5, .inr (.inr 63)), (6, .inl x216), (7, .inr (.inl x217)), (9, .inl x218), (10, .inl x219), (11, .inl x220), (12, .inl x221), (13, .inl x222), (14, .inl x223), (15, .inl x224), (17, .inl x225), (24, .inl x226), (29, .inl x228)] [] μ229 K230) ?_ (fun K230 hK230 => ?_)
      · skip
        refine S_iload dL_law_987 rfl ?_
        refine S_jn (fun (K232 : Int → Option (Int × Mem)) => ∀ (x231 : Int), Sim σ cL_law 60 RL (2000) (some .boolean) wI 997 [(0, .inr (.inr 64)), (1, .inr (.inr 0)), (2, .inr (.inr 60)), (3, .inr (.inr 61)), (4, .inr (.inr 62)), (5, .inr (.inr 63)), (6, .inl x216), (7, .inr (.inl x217)), (9, .inl x218), (10, .inl x219), (11, .inl x220), (12, .inl x221), (13, .inl x222), (14, .inl x223), (15, .inl x224), (17, .inl x225), (24, .inl x226), (29, .inl x228)] [.inl x231] μ229 (K232 x231)) ?_ (fun K232 hK232 => ?_)
        · intro x231
          refine S_iload dL_law_997 rfl ?_
          refine S_iload dL_law_999 rfl ?_
          refine S_jn (fun (K234 : Int → Option (Int × Mem)) => ∀ (x233 : Int), Sim σ cL_law 60 RL (2000) (some .boolean) wI 1009 [(0, .inr (.inr 64)), (1, .inr (.inr 0)), (2, .inr (.inr 60)), (3, .inr (.inr 61)), (4, .inr (.inr 62)), (5, .inr (.inr 63)), (6, .inl x216), (7, .inr (.inl x217)), (9, .inl x218), (10, .inl x219), (11, .inl x220), (12, .inl x221), (13, .inl x222), (14, .inl x223), (15, .inl x224), (17, .inl x225), (24, .inl x226), (29, .inl x228)] [.inl x233, .inl x231] μ229 (K234 x233)) ?_ (fun K234 hK234 => ?_)
          · intro x233
            refine S_ic_eq (tgt := 1014) dL_law_1009 (by decide) (fun h823 => ?_) (fun h823 => ?_)
            · exact S_sub [0, 1, 2, 3, 4, 5, 6, 7, 8, 9, 10, 11, 12, 13, 14, 15, 16, 17] rfl (KL_law_c1014 x216 x217 x218 x219 x220 x221 x222 x223 x224 x225 x226 x228 μ229 hself66)
            · refine S_iconst dL_law_1012 rfl ?_
              exact S_zret dL_law_1013 rfl (by decide) rfl
          refine S_ic_ne (tgt := 1008) dL_law_1001 (by decide) (fun h824 => ?_) (fun h824 => ?_)
          · refine S_iconst dL_law_1008 rfl ?_
            exact S_sub [0, 1, 2, 3, 4, 5, 6, 7, 8, 9, 10, 11, 12, 13, 14, 15, 16, 17] rfl (hK234 0)
          · refine S_iconst dL_law_1004 rfl ?_
            refine S_goto (tgt := 1009) dL_law_1005 (by decide) ?_
            exact S_sub [0, 1, 2, 3, 4, 5, 6, 7, 8, 9, 10, 11, 12, 13, 14, 15, 16, 17] rfl (hK234 1)
        refine S_if_ne (tgt := 996) dL_law_989 (by decide) (fun h825 => ?_) (fun h825 => ?_)
        · refine S_iconst dL_law_996 rfl ?_
          exact S_sub [0, 1, 2, 3, 4, 5, 6, 7, 8, 9, 10, 11, 12, 13, 14, 15, 16, 17] rfl (hK232 0)
        · refine S_iconst dL_law_992 rfl ?_
          refine S_goto (tgt := 997) dL_law_993 (by decide) ?_
          exact S_sub [0, 1, 2, 3, 4, 5, 6, 7, 8, 9, 10, 11, 12, 13, 14, 15, 16, 17] rfl (hK232 1)
      refine S_ic_le (tgt := 987) dL_law_979 (by decide) (fun h827 => ?_) (fun h827 => ?_)
      · exact S_sub [1, 2, 3, 4, 5, 6, 7, 8, 9, 10, 11, 12, 13, 14, 15, 16, 17, 0] rfl (hK230)
      · refine S_iload dL_law_982 rfl ?_
        refine S_if_lt (tgt := 1012) dL_law_984 (by decide) (fun h826 => ?_) (fun h826 => ?_)
        · refine S_iconst dL_law_1012 rfl ?_
          exact S_zret dL_law_1013 rfl (by decide) rfl
        · exact S_sub [1, 2, 3, 4, 5, 6, 7, 8, 9, 10, 11, 12, 13, 14, 15, 16, 17, 0] rfl (hK230)
def fL_law_c853 (σ : Scr) (self66 : Int → Mem → Option (Int × Mem)) (x189 : Int) (x190 : Int) (x191 : Int) (x192 : Int) (x193 : Int) (x194 : Int) (x195 : Int) (x196 : Int) (x197 : Int) (x198 : Int) (x199 : Int) (x200 : Int) (x201 : Int) (x202 : Int) (x203 : Int) (x204 : Int) (x205 : Int) (x206 : Int) (μ207 : Mem) : Option (Int × Mem) :=
  (fX1_count 3 μ207).bind fun x208 =>
  if ¬ x208 = x200 then
    some (0, μ207)
  else
    if ¬ x206 = x201 then
      some (0, μ207)
    else
      if ¬ x205 = x203 then
        some (0, μ207)
      else
        if x204 < (-9) then
          some (0, μ207)
        else
          if x204 = 0 then
            some (0, μ207)
          else
            if 40 < x204 then
              some (0, μ207)
            else
              mlet (
                bnd2 (fX1_undo x193 μ207) fun x210 μ211 =>
                if ¬ x210 = x199 then
                  some (0, μ211)
                else
                  bnd2 (fX1_where 0 μ211) fun x212 μ213 =>
                  if ¬ x212 = x195 then
                    some (0, μ213)
                  else
                    bnd2 (fX1_crosses x202 0 μ213) fun x214 μ215 =>
                    if x214 = 0 then
                      fL_law_c946 σ self66 x189 x190 x191 x192 x193 x194 x195 x196 x197 x198 x202 μ215
                    else
                      some (0, μ215)
                : Option (Int × Mem)) fun (K209 : Option (Int × Mem)) =>
              if x204 ≤ 0 then
                K209
              else
                if x199 < x204 then
                  K209
                else
                  if x205 = 0 then
                    some (0, μ207)
                  else
                    K209
theorem dL_law_853 : decode cL_law 853 = .ok (.aload_n 1, 1) := by decide +kernel
theorem dL_law_854 : decode cL_law 854 = .ok (.iconst 3, 1) := by decide +kernel
theorem dL_law_855 : decode cL_law 855 = .ok (.invokevirtual 92, 3) := by decide +kernel
theorem dL_law_858 : decode cL_law 858 = .ok (.iload 22, 2) := by decide +kernel
theorem dL_law_860 : decode cL_law 860 = .ok (.if_icmp .ne 84, 3) := by decide +kernel
theorem dL_law_863 : decode cL_law 863 = .ok (.iload 28, 2) := by decide +kernel
theorem dL_law_865 : decode cL_law 865 = .ok (.iload 23, 2) := by decide +kernel
theorem dL_law_867 : decode cL_law 867 = .ok (.if_icmp .ne 77, 3) := by decide +kernel
theorem dL_law_870 : decode cL_law 870 = .ok (.iload 27, 2) := by decide +kernel
theorem dL_law_872 : decode cL_law 872 = .ok (.iload 25, 2) := by decide +kernel
theorem dL_law_874 : decode cL_law 874 = .ok (.if_icmp .ne 70, 3) := by decide +kernel
theorem dL_law_877 : decode cL_law 877 = .ok (.iload 26, 2) := by decide +kernel
theorem dL_law_879 : decode cL_law 879 = .ok (.bipush (-9), 2) := by decide +kernel
theorem dL_law_881 : decode cL_law 881 = .ok (.if_icmp .lt 63, 3) := by decide +kernel
theorem dL_law_884 : decode cL_law 884 = .ok (.iload 26, 2) := by decide +kernel
theorem dL_law_886 : decode cL_law 886 = .ok (.ifCond .eq 58, 3) := by decide +kernel
theorem dL_law_889 : decode cL_law 889 = .ok (.iload 26, 2) := by decide +kernel
theorem dL_law_891 : decode cL_law 891 = .ok (.bipush 40, 2) := by decide +kernel
theorem dL_law_893 : decode cL_law 893 = .ok (.if_icmp .gt 51, 3) := by decide +kernel
theorem dL_law_896 : decode cL_law 896 = .ok (.iload 26, 2) := by decide +kernel
theorem dL_law_898 : decode cL_law 898 = .ok (.ifCond .le 15, 3) := by decide +kernel
theorem dL_law_901 : decode cL_law 901 = .ok (.iload 26, 2) := by decide +kernel
theorem dL_law_903 : decode cL_law 903 = .ok (.iload 21, 2) := by decide +kernel
theorem dL_law_905 : decode cL_law 905 = .ok (.if_icmp .gt 8, 3) := by decide +kernel
theorem dL_law_908 : decode cL_law 908 = .ok (.iload 27, 2) := by decide +kernel
theorem dL_law_910 : decode cL_law 910 = .ok (.ifCond .eq 34, 3) := by decide +kernel
theorem dL_law_913 : decode cL_law 913 = .ok (.aload_n 1, 1) := by decide +kernel
theorem dL_law_914 : decode cL_law 914 = .ok (.iload 11, 2) := by decide +kernel
theorem dL_law_916 : decode cL_law 916 = .ok (.invokevirtual 100, 3) := by decide +kernel
theorem dL_law_919 : decode cL_law 919 = .ok (.iload 21, 2) := by decide +kernel
theorem dL_law_921 : decode cL_law 921 = .ok (.if_icmp .ne 23, 3) := by decide +kernel
theorem dL_law_924 : decode cL_law 924 = .ok (.aload_n 1, 1) := by decide +kernel
theorem dL_law_925 : decode cL_law 925 = .ok (.iconst 0, 1) := by decide +kernel
theorem dL_law_926 : decode cL_law 926 = .ok (.invokevirtual 103, 3) := by decide +kernel
theorem dL_law_929 : decode cL_law 929 = .ok (.iload 13, 2) := by decide +kernel
theorem dL_law_931 : decode cL_law 931 = .ok (.if_icmp .ne 13, 3) := by decide +kernel
theorem dL_law_934 : decode cL_law 934 = .ok (.aload_n 1, 1) := by decide +kernel
theorem dL_law_935 : decode cL_law 935 = .ok (.iload 24, 2) := by decide +kernel
theorem dL_law_937 : decode cL_law 937 = .ok (.iconst 0, 1) := by decide +kernel
theorem dL_law_938 : decode cL_law 938 = .ok (.invokevirtual 106, 3) := by decide +kernel
theorem dL_law_941 : decode cL_law 941 = .ok (.ifCond .eq 5, 3) := by decide +kernel
theorem dL_law_944 : decode cL_law 944 = .ok (.iconst 0, 1) := by decide +kernel
theorem dL_law_945 : decode cL_law 945 = .ok (.ireturn, 1) := by decide +kernel
theorem KL_law_c853 {σ : Scr} {self66 : Int → Mem → Option (Int × Mem)} (x189 : Int) (x190 : Int) (x191 : Int) (x192 : Int) (x193 : Int) (x194 : Int) (x195 : Int) (x196 : Int) (x197 : Int) (x198 : Int) (x199 : Int) (x200 : Int) (x201 : Int) (x202 : Int) (x203 : Int) (x204 : Int) (x205 : Int) (x206 : Int) (μ207 : Mem) (hself66 : ∀ (x11 : Int) (μ12 : Mem), Sim σ cL_law 60 RL (2000) (some .boolean) wI 66 [(0, .inr (.inr 64)), (1, .inr (.inr 0)), (2, .inr (.inr 60)), (3, .inr (.inr 61)), (4, .inr (.inr 62)), (5, .inr (.inr 63)), (6, .inl x189), (7, .inr (.inl x190)), (9, .inl x11)] [] μ12 (self66 x11 μ12)) : Sim σ cL_law 60 RL (2000) (some .boolean) wI 853 [(0, .inr (.inr 64)), (1, .inr (.inr 0)), (2, .inr (.inr 60)), (3, .inr (.inr 61)), (4, .inr (.inr 62)), (5, .inr (.inr 63)), (6, .inl x189), (7, .inr (.inl x190)), (9, .inl x191), (10, .inl x192), (11, .inl x193), (12, .inl x194), (13, .inl x195), (14, .inl x196), (15, .inl x197), (17, .inl x198), (21, .inl x199), (22, .inl x200), (23, .inl x201), (24, .inl x202), (25, .inl x203), (26, .inl x204), (27, .inl x205), (28, .inl x206)] [] μ207 (fL_law_c853 σ self66 x189 x190 x191 x192 x193 x194 x195 x196 x197 x198 x199 x200 x201 x202 x203 x204 x205 x206 μ207) := by
  unfold fL_law_c853
  refine S_aload_n dL_law_853 rfl ?_
  refine S_iconst dL_law_854 rfl ?_
  refine S_callV_I dL_law_855 [.inl 3] (K_X1_count 3 μ207) l_L_92 yo_X1_count rfl rfl rfl rfl rfl (fun x208 => ?_)
  refine S_iload dL_law_858 rfl ?_
  refine S_ic_ne (tgt := 944) dL_law_860 (by decide) (fun h841 => ?_) (fun h841 => ?_)
  · refine S_iconst dL_law_944 rfl ?_
    exact S_zret dL_law_945 rfl (by decide) rfl
  · refine S_iload dL_law_863 rfl ?_
    refine S_iload dL_law_865 rfl ?_
    refine S_ic_ne (tgt := 944) dL_law_867 (by decide) (fun h840 => ?_) (fun h840 => ?_)
    · refine S_iconst dL_law_944 rfl ?_
      exact S_zret dL_law_945 rfl (by decide) rfl
    · refine S_iload dL_law_870 rfl ?_
      refine S_iload dL_law_872 rfl ?_
      refine S_ic_ne (tgt := 944) dL_law_874 (by decide) (fun h839 => ?_) (fun h839 => ?_)
      · refine S_iconst dL_law_944 rfl ?_
        exact S_zret dL_law_945 rfl (by decide) rfl
      · refine S_iload dL_law_877 rfl ?_
        refine S_bipush dL_law_879 rfl (by decide) ?_
        refine S_ic_lt (tgt := 944) dL_law_881 (by decide) (fun h838 => ?_) (fun h838 => ?_)
        · refine S_iconst dL_law_944 rfl ?_
          exact S_zret dL_law_945 rfl (by decide) rfl
        · refine S_iload dL_law_884 rfl ?_
          refine S_if_eq (tgt := 944) dL_law_886 (by decide) (fun h837 => ?_) (fun h837 => ?_)
          · refine S_iconst dL_law_944 rfl ?_
            exact S_zret dL_law_945 rfl (by decide) rfl
          · refine S_iload dL_law_889 rfl ?_
            refine S_bipush dL_law_891 rfl (by decide) ?_
            refine S_ic_gt (tgt := 944) dL_law_893 (by decide) (fun h836 => ?_) (fun h836 => ?_)
            · refine S_iconst dL_law_944 rfl ?_
              exact S_zret dL_law_945 rfl (by decide) rfl
            · refine S_iload dL_law_896 rfl ?_
              refine S_jn (fun (K209 : Option (Int × Mem)) => Sim σ cL_law 60 RL (2000) (some .boolean) wI 913 [(0, .inr (.inr 64)), (1, .inr (.inr 0)), (2, .inr (.inr 60)), (3, .inr (.inr 61)), (4, .inr (.inr 62)), (5, .inr (.inr 63)), (6, .inl x189), (7, .inr (.inl x190)), (9, .inl x191), (10, .inl x192), (11, .inl x193), (12, .inl x194), (13, .inl x195), (14, .inl x196), (15, .inl x197), (17, .inl x198), (21, .inl x199), (24, .inl x202)] [] μ207 K209) ?_ (fun K209 hK209 => ?_)
              · skip
                refine S_aload_n dL_law_913 rfl ?_
                refine S_iload dL_law_914 rfl ?_
                refine S_callV_M2 dL_law_916 [.inl x193] (K_X1_undo x193 μ207) l_L_100 yo_X1_undo rfl rfl rfl rfl rfl (fun x210 μ211 => ?_)
                refine S_iload dL_law_919 rfl ?_
                refine S_ic_ne (tgt := 944) dL_law_921 (by decide) (fun h832 => ?_) (fun h832 => ?_)
                · refine S_iconst dL_law_944 rfl ?_
                  exact S_zret dL_law_945 rfl (by decide) rfl
                · refine S_aload_n dL_law_924 rfl ?_
                  refine S_iconst dL_law_925 rfl ?_
                  refine S_callV_M2 dL_law_926 [.inl 0] (K_X1_where 0 μ211) l_L_103 yo_X1_where rfl rfl rfl rfl rfl (fun x212 μ213 => ?_)
                  refine S_iload dL_law_929 rfl ?_
                  refine S_ic_ne (tgt := 944) dL_law_931 (by decide) (fun h831 => ?_) (fun h831 => ?_)
                  · refine S_iconst dL_law_944 rfl ?_
                    exact S_zret dL_law_945 rfl (by decide) rfl
                  · refine S_aload_n dL_law_934 rfl ?_
                    refine S_iload dL_law_935 rfl ?_
                    refine S_iconst dL_law_937 rfl ?_
                    refine S_callV_M2 dL_law_938 [.inl x202, .inl 0] (K_X1_crosses x202 0 μ213) l_L_106 yo_X1_crosses rfl rfl rfl rfl rfl (fun x214 μ215 => ?_)
                    refine S_if_eq (tgt := 946) dL_law_941 (by decide) (fun h830 => ?_) (fun h830 => ?_)
                    · exact S_sub [0, 1, 2, 3, 4, 5, 6, 7, 8, 9, 10, 11, 12, 13, 14, 15, 17] rfl (KL_law_c946 x189 x190 x191 x192 x193 x194 x195 x196 x197 x198 x202 μ215 hself66)
                    · refine S_iconst dL_law_944 rfl ?_
                      exact S_zret dL_law_945 rfl (by decide) rfl
              refine S_if_le (tgt := 913) dL_law_898 (by decide) (fun h835 => ?_) (fun h835 => ?_)
              · exact S_sub [0, 1, 2, 3, 4, 5, 6, 7, 8, 9, 10, 11, 12, 13, 14, 15, 16, 19] rfl (hK209)
              · refine S_iload dL_law_901 rfl ?_
                refine S_iload dL_law_903 rfl ?_
                refine S_ic_gt (tgt := 913) dL_law_905 (by decide) (fun h834 => ?_) (fun h834 => ?_)
                · exact S_sub [0, 1, 2, 3, 4, 5, 6, 7, 8, 9, 10, 11, 12, 13, 14, 15, 16, 19] rfl (hK209)
                · refine S_iload dL_law_908 rfl ?_
                  refine S_if_eq (tgt := 944) dL_law_910 (by decide) (fun h833 => ?_) (fun h833 => ?_)
                  · refine S_iconst dL_law_944 rfl ?_
                    exact S_zret dL_law_945 rfl (by decide) rfl
                  · exact S_sub [0, 1, 2, 3, 4, 5, 6, 7, 8, 9, 10, 11, 12, 13, 14, 15, 16, 19] rfl (hK209)
def fL_law_L793 (x175 : Int) (σ : Scr) (self66 : Int → Mem → Option (Int × Mem)) (x164 : Int) (x165 : Int) (x166 : Int) (x167 : Int) (x168 : Int) (x169 : Int) (x170 : Int) (x171 : Int) (x172 : Int) (x173 : Int) (x176 : Int) (x178 : Int) (x179 : Int) (x180 : Int) (x182 : Int) : Nat → Int → Int → Int → Mem → Option (Int × Mem)
  | 0, _, _, _, _ => none
  | n188 + 1, x184, x185, x186, μ187 =>
    if x175 ≤ x186 then
      fL_law_c853 σ self66 x164 x165 x166 x167 x168 x169 x170 x171 x172 x173 x175 x176 x178 x179 x180 x182 x184 x185 μ187
    else
      bnd2 (fX1_night μ187) fun x842 μ843 =>
      mlet (fun (x844 : Int) =>
        mlet ((w32 (x184 + x844))) fun x846 =>
        mlet (
          mlet (w32 (x186 + 1)) fun x848 =>
          fL_law_L793 x175 σ self66 x164 x165 x166 x167 x168 x169 x170 x171 x172 x173 x176 x178 x179 x180 x182 n188 x846 x842 x848 μ843
          : Option (Int × Mem)) fun (K847 : Option (Int × Mem)) =>
        if ¬ x842 = x179 then
          K847
        else
          if ¬ x846 = 1 then
            K847
          else
            if x182 = (w32 (x186 + 1)) then
              K847
            else
              some (0, μ843)
        ) fun (K845 : Int → Option (Int × Mem)) =>
      if ¬ x842 = x179 then
        K845 0
      else
        K845 1
def fL_law_c731 (σ : Scr) (self66 : Int → Mem → Option (Int × Mem)) (x164 : Int) (x165 : Int) (x166 : Int) (x167 : Int) (x168 : Int) (x169 : Int) (x170 : Int) (x171 : Int) (x172 : Int) (x173 : Int) (μ174 : Mem) : Option (Int × Mem) :=
  (fL_low x167 12 μ174).bind fun x175 =>
  bnd2 (fX1_where x175 μ174) fun x176 μ177 =>
  (fX1_asked μ177).bind fun x178 =>
  (fL_low (bshr x167 4) x164 μ177).bind fun x179 =>
  bnd2 (fX1_crosses x179 x175 μ177) fun x180 μ181 =>
  bnd2 (fX1_first x179 μ181) fun x182 μ183 =>
  fL_law_L793 x175 σ self66 x164 x165 x166 x167 x168 x169 x170 x171 x172 x173 x176 x178 x179 x180 x182 fuel 0 (-9) 0 μ183
theorem dL_law_731 : decode cL_law 731 = .ok (.iload 10, 2) := by decide +kernel
theorem dL_law_733 : decode cL_law 733 = .ok (.bipush 12, 2) := by decide +kernel
theorem dL_law_735 : decode cL_law 735 = .ok (.invokestatic 15, 3) := by decide +kernel
theorem dL_law_738 : decode cL_law 738 = .ok (.istore 21, 2) := by decide +kernel
theorem dL_law_740 : decode cL_law 740 = .ok (.aload_n 1, 1) := by decide +kernel
theorem dL_law_741 : decode cL_law 741 = .ok (.iload 21, 2) := by decide +kernel
theorem dL_law_743 : decode cL_law 743 = .ok (.invokevirtual 103, 3) := by decide +kernel
theorem dL_law_746 : decode cL_law 746 = .ok (.istore 22, 2) := by decide +kernel
theorem dL_law_748 : decode cL_law 748 = .ok (.aload_n 1, 1) := by decide +kernel
theorem dL_law_749 : decode cL_law 749 = .ok (.invokevirtual 74, 3) := by decide +kernel
theorem dL_law_752 : decode cL_law 752 = .ok (.istore 23, 2) := by decide +kernel
theorem dL_law_754 : decode cL_law 754 = .ok (.iload 10, 2) := by decide +kernel
theorem dL_law_756 : decode cL_law 756 = .ok (.iconst 4, 1) := by decide +kernel
theorem dL_law_757 : decode cL_law 757 = .ok (.ishr, 1) := by decide +kernel
theorem dL_law_758 : decode cL_law 758 = .ok (.iload 6, 2) := by decide +kernel
theorem dL_law_760 : decode cL_law 760 = .ok (.invokestatic 15, 3) := by decide +kernel
theorem dL_law_763 : decode cL_law 763 = .ok (.istore 24, 2) := by decide +kernel
theorem dL_law_765 : decode cL_law 765 = .ok (.aload_n 1, 1) := by decide +kernel
theorem dL_law_766 : decode cL_law 766 = .ok (.iload 24, 2) := by decide +kernel
theorem dL_law_768 : decode cL_law 768 = .ok (.iload 21, 2) := by decide +kernel
theorem dL_law_770 : decode cL_law 770 = .ok (.invokevirtual 106, 3) := by decide +kernel
theorem dL_law_773 : decode cL_law 773 = .ok (.istore 25, 2) := by decide +kernel
theorem dL_law_775 : decode cL_law 775 = .ok (.aload_n 1, 1) := by decide +kernel
theorem dL_law_776 : decode cL_law 776 = .ok (.iload 24, 2) := by decide +kernel
theorem dL_law_778 : decode cL_law 778 = .ok (.invokevirtual 109, 3) := by decide +kernel
theorem dL_law_781 : decode cL_law 781 = .ok (.istore 26, 2) := by decide +kernel
theorem dL_law_783 : decode cL_law 783 = .ok (.iconst 0, 1) := by decide +kernel
theorem dL_law_784 : decode cL_law 784 = .ok (.istore 27, 2) := by decide +kernel
theorem dL_law_786 : decode cL_law 786 = .ok (.bipush (-9), 2) := by decide +kernel
theorem dL_law_788 : decode cL_law 788 = .ok (.istore 28, 2) := by decide +kernel
theorem dL_law_790 : decode cL_law 790 = .ok (.iconst 0, 1) := by decide +kernel
theorem dL_law_791 : decode cL_law 791 = .ok (.istore 29, 2) := by decide +kernel
theorem dL_law_793 : decode cL_law 793 = .ok (.iload 29, 2) := by decide +kernel
theorem dL_law_795 : decode cL_law 795 = .ok (.iload 21, 2) := by decide +kernel
theorem dL_law_797 : decode cL_law 797 = .ok (.if_icmp .ge 56, 3) := by decide +kernel
theorem dL_law_800 : decode cL_law 800 = .ok (.aload_n 1, 1) := by decide +kernel
theorem dL_law_801 : decode cL_law 801 = .ok (.invokevirtual 59, 3) := by decide +kernel
theorem dL_law_804 : decode cL_law 804 = .ok (.istore 28, 2) := by decide +kernel
theorem dL_law_806 : decode cL_law 806 = .ok (.iload 27, 2) := by decide +kernel
theorem dL_law_808 : decode cL_law 808 = .ok (.iload 28, 2) := by decide +kernel
theorem dL_law_810 : decode cL_law 810 = .ok (.iload 24, 2) := by decide +kernel
theorem dL_law_812 : decode cL_law 812 = .ok (.if_icmp .ne 7, 3) := by decide +kernel
theorem dL_law_815 : decode cL_law 815 = .ok (.iconst 1, 1) := by decide +kernel
theorem dL_law_816 : decode cL_law 816 = .ok (.goto 4, 3) := by decide +kernel
theorem dL_law_819 : decode cL_law 819 = .ok (.iconst 0, 1) := by decide +kernel
theorem dL_law_820 : decode cL_law 820 = .ok (.iadd, 1) := by decide +kernel
theorem dL_law_821 : decode cL_law 821 = .ok (.istore 27, 2) := by decide +kernel
theorem dL_law_823 : decode cL_law 823 = .ok (.iload 28, 2) := by decide +kernel
theorem dL_law_825 : decode cL_law 825 = .ok (.iload 24, 2) := by decide +kernel
theorem dL_law_827 : decode cL_law 827 = .ok (.if_icmp .ne 20, 3) := by decide +kernel
theorem dL_law_830 : decode cL_law 830 = .ok (.iload 27, 2) := by decide +kernel
theorem dL_law_832 : decode cL_law 832 = .ok (.iconst 1, 1) := by decide +kernel
theorem dL_law_833 : decode cL_law 833 = .ok (.if_icmp .ne 14, 3) := by decide +kernel
theorem dL_law_836 : decode cL_law 836 = .ok (.iload 26, 2) := by decide +kernel
theorem dL_law_838 : decode cL_law 838 = .ok (.iload 29, 2) := by decide +kernel
theorem dL_law_840 : decode cL_law 840 = .ok (.iconst 1, 1) := by decide +kernel
theorem dL_law_841 : decode cL_law 841 = .ok (.iadd, 1) := by decide +kernel
theorem dL_law_842 : decode cL_law 842 = .ok (.if_icmp .eq 5, 3) := by decide +kernel
theorem dL_law_845 : decode cL_law 845 = .ok (.iconst 0, 1) := by decide +kernel
theorem dL_law_846 : decode cL_law 846 = .ok (.ireturn, 1) := by decide +kernel
theorem dL_law_847 : decode cL_law 847 = .ok (.iinc 29 1, 3) := by decide +kernel
theorem dL_law_850 : decode cL_law 850 = .ok (.goto (-57), 3) := by decide +kernel
theorem KL_law_c731 {σ : Scr} {self66 : Int → Mem → Option (Int × Mem)} (x164 : Int) (x165 : Int) (x166 : Int) (x167 : Int) (x168 : Int) (x169 : Int) (x170 : Int) (x171 : Int) (x172 : Int) (x173 : Int) (μ174 : Mem) (hself66 : ∀ (x11 : Int) (μ12 : Mem), Sim σ cL_law 60 RL (2000) (some .boolean) wI 66 [(0, .inr (.inr 64)), (1, .inr (.inr 0)), (2, .inr (.inr 60)), (3, .inr (.inr 61)), (4, .inr (.inr 62)), (5, .inr (.inr 63)), (6, .inl x164), (7, .inr (.inl x165)), (9, .inl x11)] [] μ12 (self66 x11 μ12)) : Sim σ cL_law 60 RL (2000) (some .boolean) wI 731 [(0, .inr (.inr 64)), (1, .inr (.inr 0)), (2, .inr (.inr 60)), (3, .inr (.inr 61)), (4, .inr (.inr 62)), (5, .inr (.inr 63)), (6, .inl x164), (7, .inr (.inl x165)), (9, .inl x166), (10, .inl x167), (11, .inl x168), (12, .inl x169), (13, .inl x170), (14, .inl x171), (15, .inl x172), (17, .inl x173)] [] μ174 (fL_law_c731 σ self66 x164 x165 x166 x167 x168 x169 x170 x171 x172 x173 μ174) := by
  unfold fL_law_c731
  refine S_iload dL_law_731 rfl ?_
  refine S_bipush dL_law_733 rfl (by decide) ?_
  refine S_callS_I dL_law_735 [.inl x167, .inl 12] (K_L_low x167 12 μ174) l_L_15 yo_L_low rfl rfl rfl (fun x175 => ?_)
  refine S_istore (lv' := [(21, .inl x175), (0, .inr (.inr 64)), (1, .inr (.inr 0)), (2, .inr (.inr 60)), (3, .inr (.inr 61)), (4, .inr (.inr 62)), (5, .inr (.inr 63)), (6, .inl x164), (7, .inr (.inl x165)), (9, .inl x166), (10, .inl x167), (11, .inl x168), (12, .inl x169), (13, .inl x170), (14, .inl x171), (15, .inl x172), (17, .inl x173)]) dL_law_738 rfl rfl ?_
  refine S_aload_n dL_law_740 rfl ?_
  refine S_iload dL_law_741 rfl ?_
  refine S_callV_M2 dL_law_743 [.inl x175] (K_X1_where x175 μ174) l_L_103 yo_X1_where rfl rfl rfl rfl rfl (fun x176 μ177 => ?_)
  refine S_istore (lv' := [(22, .inl x176), (21, .inl x175), (0, .inr (.inr 64)), (1, .inr (.inr 0)), (2, .inr (.inr 60)), (3, .inr (.inr 61)), (4, .inr (.inr 62)), (5, .inr (.inr 63)), (6, .inl x164), (7, .inr (.inl x165)), (9, .inl x166), (10, .inl x167), (11, .inl x168), (12, .inl x169), (13, .inl x170), (14, .inl x171), (15, .inl x172), (17, .inl x173)]) dL_law_746 rfl rfl ?_
  refine S_aload_n dL_law_748 rfl ?_
  refine S_callV_I dL_law_749 [] (K_X1_asked μ177) l_L_74 yo_X1_asked rfl rfl rfl rfl rfl (fun x178 => ?_)
  refine S_istore (lv' := [(23, .inl x178), (22, .inl x176), (21, .inl x175), (0, .inr (.inr 64)), (1, .inr (.inr 0)), (2, .inr (.inr 60)), (3, .inr (.inr 61)), (4, .inr (.inr 62)), (5, .inr (.inr 63)), (6, .inl x164), (7, .inr (.inl x165)), (9, .inl x166), (10, .inl x167), (11, .inl x168), (12, .inl x169), (13, .inl x170), (14, .inl x171), (15, .inl x172), (17, .inl x173)]) dL_law_752 rfl rfl ?_
  refine S_iload dL_law_754 rfl ?_
  refine S_iconst dL_law_756 rfl ?_
  refine S_ishr dL_law_757 ?_
  refine S_iload dL_law_758 rfl ?_
  refine S_callS_I dL_law_760 [.inl (bshr x167 4), .inl x164] (K_L_low (bshr x167 4) x164 μ177) l_L_15 yo_L_low rfl rfl rfl (fun x179 => ?_)
  refine S_istore (lv' := [(24, .inl x179), (23, .inl x178), (22, .inl x176), (21, .inl x175), (0, .inr (.inr 64)), (1, .inr (.inr 0)), (2, .inr (.inr 60)), (3, .inr (.inr 61)), (4, .inr (.inr 62)), (5, .inr (.inr 63)), (6, .inl x164), (7, .inr (.inl x165)), (9, .inl x166), (10, .inl x167), (11, .inl x168), (12, .inl x169), (13, .inl x170), (14, .inl x171), (15, .inl x172), (17, .inl x173)]) dL_law_763 rfl rfl ?_
  refine S_aload_n dL_law_765 rfl ?_
  refine S_iload dL_law_766 rfl ?_
  refine S_iload dL_law_768 rfl ?_
  refine S_callV_M2 dL_law_770 [.inl x179, .inl x175] (K_X1_crosses x179 x175 μ177) l_L_106 yo_X1_crosses rfl rfl rfl rfl rfl (fun x180 μ181 => ?_)
  refine S_istore (lv' := [(25, .inl x180), (24, .inl x179), (23, .inl x178), (22, .inl x176), (21, .inl x175), (0, .inr (.inr 64)), (1, .inr (.inr 0)), (2, .inr (.inr 60)), (3, .inr (.inr 61)), (4, .inr (.inr 62)), (5, .inr (.inr 63)), (6, .inl x164), (7, .inr (.inl x165)), (9, .inl x166), (10, .inl x167), (11, .inl x168), (12, .inl x169), (13, .inl x170), (14, .inl x171), (15, .inl x172), (17, .inl x173)]) dL_law_773 rfl rfl ?_
  refine S_aload_n dL_law_775 rfl ?_
  refine S_iload dL_law_776 rfl ?_
  refine S_callV_M2 dL_law_778 [.inl x179] (K_X1_first x179 μ181) l_L_109 yo_X1_first rfl rfl rfl rfl rfl (fun x182 μ183 => ?_)
  refine S_istore (lv' := [(26, .inl x182), (25, .inl x180), (24, .inl x179), (23, .inl x178), (22, .inl x176), (21, .inl x175), (0, .inr (.inr 64)), (1, .inr (.inr 0)), (2, .inr (.inr 60)), (3, .inr (.inr 61)), (4, .inr (.inr 62)), (5, .inr (.inr 63)), (6, .inl x164), (7, .inr (.inl x165)), (9, .inl x166), (10, .inl x167), (11, .inl x168), (12, .inl x169), (13, .inl x170), (14, .inl x171), (15, .inl x172), (17, .inl x173)]) dL_law_781 rfl rfl ?_
  refine S_iconst dL_law_783 rfl ?_
  refine S_istore (lv' := [(27, .inl 0), (26, .inl x182), (25, .inl x180), (24, .inl x179), (23, .inl x178), (22, .inl x176), (21, .inl x175), (0, .inr (.inr 64)), (1, .inr (.inr 0)), (2, .inr (.inr 60)), (3, .inr (.inr 61)), (4, .inr (.inr 62)), (5, .inr (.inr 63)), (6, .inl x164), (7, .inr (.inl x165)), (9, .inl x166), (10, .inl x167), (11, .inl x168), (12, .inl x169), (13, .inl x170), (14, .inl x171), (15, .inl x172), (17, .inl x173)]) dL_law_784 rfl rfl ?_
  refine S_bipush dL_law_786 rfl (by decide) ?_
  refine S_istore (lv' := [(28, .inl (-9)), (27, .inl 0), (26, .inl x182), (25, .inl x180), (24, .inl x179), (23, .inl x178), (22, .inl x176), (21, .inl x175), (0, .inr (.inr 64)), (1, .inr (.inr 0)), (2, .inr (.inr 60)), (3, .inr (.inr 61)), (4, .inr (.inr 62)), (5, .inr (.inr 63)), (6, .inl x164), (7, .inr (.inl x165)), (9, .inl x166), (10, .inl x167), (11, .inl x168), (12, .inl x169), (13, .inl x170), (14, .inl x171), (15, .inl x172), (17, .inl x173)]) dL_law_788 rfl rfl ?_
  refine S_iconst dL_law_790 rfl ?_
  refine S_istore (lv' := [(29, .inl 0), (28, .inl (-9)), (27, .inl 0), (26, .inl x182), (25, .inl x180), (24, .inl x179), (23, .inl x178), (22, .inl x176), (21, .inl x175), (0, .inr (.inr 64)), (1, .inr (.inr 0)), (2, .inr (.inr 60)), (3, .inr (.inr 61)), (4, .inr (.inr 62)), (5, .inr (.inr 63)), (6, .inl x164), (7, .inr (.inl x165)), (9, .inl x166), (10, .inl x167), (11, .inl x168), (12, .inl x169), (13, .inl x170), (14, .inl x171), (15, .inl x172), (17, .inl x173)]) dL_law_791 rfl rfl ?_
  have hL793 : ∀ (n188 : Nat) (x184 : Int) (x185 : Int) (x186 : Int) (μ187 : Mem), Sim σ cL_law 60 RL (2000) (some .boolean) wI 793 [(0, .inr (.inr 64)), (1, .inr (.inr 0)), (2, .inr (.inr 60)), (3, .inr (.inr 61)), (4, .inr (.inr 62)), (5, .inr (.inr 63)), (6, .inl x164), (7, .inr (.inl x165)), (9, .inl x166), (10, .inl x167), (11, .inl x168), (12, .inl x169), (13, .inl x170), (14, .inl x171), (15, .inl x172), (17, .inl x173), (21, .inl x175), (22, .inl x176), (23, .inl x178), (24, .inl x179), (25, .inl x180), (26, .inl x182), (27, .inl x184), (28, .inl x185), (29, .inl x186)] [] μ187 (fL_law_L793 x175 σ self66 x164 x165 x166 x167 x168 x169 x170 x171 x172 x173 x176 x178 x179 x180 x182 n188 x184 x185 x186 μ187) := by
    intro n188
    induction n188 with
    | zero =>
      intro x184 x185 x186 μ187
      exact S_none rfl
    | succ n188 ih =>
      intro x184 x185 x186 μ187
      rw [fL_law_L793]
      refine S_iload dL_law_793 rfl ?_
      refine S_iload dL_law_795 rfl ?_
      refine S_ic_ge (tgt := 853) dL_law_797 (by decide) (fun h853 => ?_) (fun h853 => ?_)
      · exact S_sub [0, 1, 2, 3, 4, 5, 6, 7, 8, 9, 10, 11, 12, 13, 14, 15, 16, 17, 18, 19, 20, 21, 22, 23] rfl (KL_law_c853 x164 x165 x166 x167 x168 x169 x170 x171 x172 x173 x175 x176 x178 x179 x180 x182 x184 x185 μ187 hself66)
      · refine S_aload_n dL_law_800 rfl ?_
        refine S_callV_M2 dL_law_801 [] (K_X1_night μ187) l_L_59 yo_X1_night rfl rfl rfl rfl rfl (fun x842 μ843 => ?_)
        refine S_istore (lv' := [(28, .inl x842), (0, .inr (.inr 64)), (1, .inr (.inr 0)), (2, .inr (.inr 60)), (3, .inr (.inr 61)), (4, .inr (.inr 62)), (5, .inr (.inr 63)), (6, .inl x164), (7, .inr (.inl x165)), (9, .inl x166), (10, .inl x167), (11, .inl x168), (12, .inl x169), (13, .inl x170), (14, .inl x171), (15, .inl x172), (17, .inl x173), (21, .inl x175), (22, .inl x176), (23, .inl x178), (24, .inl x179), (25, .inl x180), (26, .inl x182), (27, .inl x184), (29, .inl x186)]) dL_law_804 rfl rfl ?_
        refine S_iload dL_law_806 rfl ?_
        refine S_iload dL_law_808 rfl ?_
        refine S_iload dL_law_810 rfl ?_
        refine S_jn (fun (K845 : Int → Option (Int × Mem)) => ∀ (x844 : Int), Sim σ cL_law 60 RL (2000) (some .boolean) wI 820 [(0, .inr (.inr 64)), (1, .inr (.inr 0)), (2, .inr (.inr 60)), (3, .inr (.inr 61)), (4, .inr (.inr 62)), (5, .inr (.inr 63)), (6, .inl x164), (7, .inr (.inl x165)), (9, .inl x166), (10, .inl x167), (11, .inl x168), (12, .inl x169), (13, .inl x170), (14, .inl x171), (15, .inl x172), (17, .inl x173), (21, .inl x175), (22, .inl x176), (23, .inl x178), (24, .inl x179), (25, .inl x180), (26, .inl x182), (28, .inl x842), (29, .inl x186)] [.inl x844, .inl x184] μ843 (K845 x844)) ?_ (fun K845 hK845 => ?_)
        · intro x844
          refine S_iadd dL_law_820 ?_
          refine S_let (fun x846 => ?_)
          refine S_istore (lv' := [(27, .inl x846), (0, .inr (.inr 64)), (1, .inr (.inr 0)), (2, .inr (.inr 60)), (3, .inr (.inr 61)), (4, .inr (.inr 62)), (5, .inr (.inr 63)), (6, .inl x164), (7, .inr (.inl x165)), (9, .inl x166), (10, .inl x167), (11, .inl x168), (12, .inl x169), (13, .inl x170), (14, .inl x171), (15, .inl x172), (17, .inl x173), (21, .inl x175), (22, .inl x176), (23, .inl x178), (24, .inl x179), (25, .inl x180), (26, .inl x182), (28, .inl x842), (29, .inl x186)]) dL_law_821 rfl rfl ?_
          refine S_iload dL_law_823 rfl ?_
          refine S_iload dL_law_825 rfl ?_
          refine S_jn (fun (K847 : Option (Int × Mem)) => Sim σ cL_law 60 RL (2000) (some .boolean) wI 847 [(0, .inr (.inr 64)), (1, .inr (.inr 0)), (2, .inr (.inr 60)), (3, .inr (.inr 61)), (4, .inr (.inr 62)), (5, .inr (.inr 63)), (6, .inl x164), (7, .inr (.inl x165)), (9, .inl x166), (10, .inl x167), (11, .inl x168), (12, .inl x169), (13, .inl x170), (14, .inl x171), (15, .inl x172), (17, .inl x173), (21, .inl x175), (22, .inl x176), (23, .inl x178), (24, .inl x179), (25, .inl x180), (26, .inl x182), (27, .inl x846), (28, .inl x842), (29, .inl x186)] [] μ843 K847) ?_ (fun K847 hK847 => ?_)
          · skip
            refine S_iinc (lv' := fun x848 => [(29, .inl x848), (0, .inr (.inr 64)), (1, .inr (.inr 0)), (2, .inr (.inr 60)), (3, .inr (.inr 61)), (4, .inr (.inr 62)), (5, .inr (.inr 63)), (6, .inl x164), (7, .inr (.inl x165)), (9, .inl x166), (10, .inl x167), (11, .inl x168), (12, .inl x169), (13, .inl x170), (14, .inl x171), (15, .inl x172), (17, .inl x173), (21, .inl x175), (22, .inl x176), (23, .inl x178), (24, .inl x179), (25, .inl x180), (26, .inl x182), (27, .inl x846), (28, .inl x842)]) dL_law_847 rfl rfl rfl (fun _ => rfl) (fun x848 => ?_)
            refine S_goto (tgt := 793) dL_law_850 (by decide) ?_
            exact S_sub [1, 2, 3, 4, 5, 6, 7, 8, 9, 10, 11, 12, 13, 14, 15, 16, 17, 18, 19, 20, 21, 22, 23, 24, 0] rfl (ih x846 x842 x848 μ843)
          refine S_ic_ne (tgt := 847) dL_law_827 (by decide) (fun h851 => ?_) (fun h851 => ?_)
          · exact S_sub [1, 2, 3, 4, 5, 6, 7, 8, 9, 10, 11, 12, 13, 14, 15, 16, 17, 18, 19, 20, 21, 22, 0, 23, 24] rfl (hK847)
          · refine S_iload dL_law_830 rfl ?_
            refine S_iconst dL_law_832 rfl ?_
            refine S_ic_ne (tgt := 847) dL_law_833 (by decide) (fun h850 => ?_) (fun h850 => ?_)
            · exact S_sub [1, 2, 3, 4, 5, 6, 7, 8, 9, 10, 11, 12, 13, 14, 15, 16, 17, 18, 19, 20, 21, 22, 0, 23, 24] rfl (hK847)
            · refine S_iload dL_law_836 rfl ?_
              refine S_iload dL_law_838 rfl ?_
              refine S_iconst dL_law_840 rfl ?_
              refine S_iadd dL_law_841 ?_
              refine S_ic_eq (tgt := 847) dL_law_842 (by decide) (fun h849 => ?_) (fun h849 => ?_)
              · exact S_sub [1, 2, 3, 4, 5, 6, 7, 8, 9, 10, 11, 12, 13, 14, 15, 16, 17, 18, 19, 20, 21, 22, 0, 23, 24] rfl (hK847)
              · refine S_iconst dL_law_845 rfl ?_
                exact S_zret dL_law_846 rfl (by decide) rfl
        refine S_ic_ne (tgt := 819) dL_law_812 (by decide) (fun h852 => ?_) (fun h852 => ?_)
        · refine S_iconst dL_law_819 rfl ?_
          exact S_sub [1, 2, 3, 4, 5, 6, 7, 8, 9, 10, 11, 12, 13, 14, 15, 16, 17, 18, 19, 20, 21, 22, 0, 24] rfl (hK845 0)
        · refine S_iconst dL_law_815 rfl ?_
          refine S_goto (tgt := 820) dL_law_816 (by decide) ?_
          exact S_sub [1, 2, 3, 4, 5, 6, 7, 8, 9, 10, 11, 12, 13, 14, 15, 16, 17, 18, 19, 20, 21, 22, 0, 24] rfl (hK845 1)
  exact S_sub [9, 10, 11, 12, 13, 14, 15, 16, 17, 18, 19, 20, 21, 22, 23, 24, 8, 7, 6, 5, 4, 3, 2, 1, 0] rfl (hL793 fuel 0 (-9) 0 μ183)
def fL_law_c699 (σ : Scr) (self66 : Int → Mem → Option (Int × Mem)) (x149 : Int) (x150 : Int) (x151 : Int) (x152 : Int) (x153 : Int) (x154 : Int) (x155 : Int) (x156 : Int) (x157 : Int) (x158 : Int) (μ159 : Mem) : Option (Int × Mem) :=
  bnd2 (fX1_undo x153 μ159) fun x160 μ161 =>
  if ¬ x160 = 1 then
    some (0, μ161)
  else
    (fX1_count 3 μ161).bind fun x162 =>
    if ¬ x162 = x155 then
      some (0, μ161)
    else
      (fX1_count 5 μ161).bind fun x163 =>
      if x163 = x156 then
        fL_law_c731 σ self66 x149 x150 x151 x152 x153 x154 x155 x156 x157 x158 μ161
      else
        some (0, μ161)
theorem dL_law_699 : decode cL_law 699 = .ok (.aload_n 1, 1) := by decide +kernel
theorem dL_law_700 : decode cL_law 700 = .ok (.iload 11, 2) := by decide +kernel
theorem dL_law_702 : decode cL_law 702 = .ok (.invokevirtual 100, 3) := by decide +kernel
theorem dL_law_705 : decode cL_law 705 = .ok (.iconst 1, 1) := by decide +kernel
theorem dL_law_706 : decode cL_law 706 = .ok (.if_icmp .ne 23, 3) := by decide +kernel
theorem dL_law_709 : decode cL_law 709 = .ok (.aload_n 1, 1) := by decide +kernel
theorem dL_law_710 : decode cL_law 710 = .ok (.iconst 3, 1) := by decide +kernel
theorem dL_law_711 : decode cL_law 711 = .ok (.invokevirtual 92, 3) := by decide +kernel
theorem dL_law_714 : decode cL_law 714 = .ok (.iload 13, 2) := by decide +kernel
theorem dL_law_716 : decode cL_law 716 = .ok (.if_icmp .ne 13, 3) := by decide +kernel
theorem dL_law_719 : decode cL_law 719 = .ok (.aload_n 1, 1) := by decide +kernel
theorem dL_law_720 : decode cL_law 720 = .ok (.iconst 5, 1) := by decide +kernel
theorem dL_law_721 : decode cL_law 721 = .ok (.invokevirtual 92, 3) := by decide +kernel
theorem dL_law_724 : decode cL_law 724 = .ok (.iload 14, 2) := by decide +kernel
theorem dL_law_726 : decode cL_law 726 = .ok (.if_icmp .eq 5, 3) := by decide +kernel
theorem dL_law_729 : decode cL_law 729 = .ok (.iconst 0, 1) := by decide +kernel
theorem dL_law_730 : decode cL_law 730 = .ok (.ireturn, 1) := by decide +kernel
theorem KL_law_c699 {σ : Scr} {self66 : Int → Mem → Option (Int × Mem)} (x149 : Int) (x150 : Int) (x151 : Int) (x152 : Int) (x153 : Int) (x154 : Int) (x155 : Int) (x156 : Int) (x157 : Int) (x158 : Int) (μ159 : Mem) (hself66 : ∀ (x11 : Int) (μ12 : Mem), Sim σ cL_law 60 RL (2000) (some .boolean) wI 66 [(0, .inr (.inr 64)), (1, .inr (.inr 0)), (2, .inr (.inr 60)), (3, .inr (.inr 61)), (4, .inr (.inr 62)), (5, .inr (.inr 63)), (6, .inl x149), (7, .inr (.inl x150)), (9, .inl x11)] [] μ12 (self66 x11 μ12)) : Sim σ cL_law 60 RL (2000) (some .boolean) wI 699 [(0, .inr (.inr 64)), (1, .inr (.inr 0)), (2, .inr (.inr 60)), (3, .inr (.inr 61)), (4, .inr (.inr 62)), (5, .inr (.inr 63)), (6, .inl x149), (7, .inr (.inl x150)), (9, .inl x151), (10, .inl x152), (11, .inl x153), (12, .inl x154), (13, .inl x155), (14, .inl x156), (15, .inl x157), (17, .inl x158)] [] μ159 (fL_law_c699 σ self66 x149 x150 x151 x152 x153 x154 x155 x156 x157 x158 μ159) := by
  unfold fL_law_c699
  refine S_aload_n dL_law_699 rfl ?_
  refine S_iload dL_law_700 rfl ?_
  refine S_callV_M2 dL_law_702 [.inl x153] (K_X1_undo x153 μ159) l_L_100 yo_X1_undo rfl rfl rfl rfl rfl (fun x160 μ161 => ?_)
  refine S_iconst dL_law_705 rfl ?_
  refine S_ic_ne (tgt := 729) dL_law_706 (by decide) (fun h856 => ?_) (fun h856 => ?_)
  · refine S_iconst dL_law_729 rfl ?_
    exact S_zret dL_law_730 rfl (by decide) rfl
  · refine S_aload_n dL_law_709 rfl ?_
    refine S_iconst dL_law_710 rfl ?_
    refine S_callV_I dL_law_711 [.inl 3] (K_X1_count 3 μ161) l_L_92 yo_X1_count rfl rfl rfl rfl rfl (fun x162 => ?_)
    refine S_iload dL_law_714 rfl ?_
    refine S_ic_ne (tgt := 729) dL_law_716 (by decide) (fun h855 => ?_) (fun h855 => ?_)
    · refine S_iconst dL_law_729 rfl ?_
      exact S_zret dL_law_730 rfl (by decide) rfl
    · refine S_aload_n dL_law_719 rfl ?_
      refine S_iconst dL_law_720 rfl ?_
      refine S_callV_I dL_law_721 [.inl 5] (K_X1_count 5 μ161) l_L_92 yo_X1_count rfl rfl rfl rfl rfl (fun x163 => ?_)
      refine S_iload dL_law_724 rfl ?_
      refine S_ic_eq (tgt := 731) dL_law_726 (by decide) (fun h854 => ?_) (fun h854 => ?_)
      · exact S_sub [0, 1, 2, 3, 4, 5, 6, 7, 8, 9, 10, 11, 12, 13, 14, 15] rfl (KL_law_c731 x149 x150 x151 x152 x153 x154 x155 x156 x157 x158 μ161 hself66)
      · refine S_iconst dL_law_729 rfl ?_
        exact S_zret dL_law_730 rfl (by decide) rfl
def fL_law_L609 (x135 : Int) (σ : Scr) (self66 : Int → Mem → Option (Int × Mem)) (x136 : Int) (x137 : Int) (x138 : Int) (x139 : Int) (x140 : Int) (x141 : Int) (x142 : Int) (x143 : Int) (x144 : Int) : Nat → Int → Mem → Option (Int × Mem)
  | 0, _, _ => none
  | n148 + 1, x146, μ147 =>
    if x135 ≤ x146 then
      fL_law_c699 σ self66 x135 x136 x137 x138 x139 x140 x141 x142 x143 x144 μ147
    else
      bnd2 (fL_told x146 2 μ147) fun x857 μ858 =>
      grd (0 ≤ x146 ∧ x146 < 6) <|
      if (μ858 62 (x146).toNat) < x857 then
        some (0, μ858)
      else
        grd (0 ≤ x146 ∧ x146 < 6) <|
        if x857 < (w32 ((μ858 62 (x146).toNat) - 2)) then
          some (0, μ858)
        else
          if x857 < 0 then
            some (0, μ858)
          else
            mlet (fun (μ859 : Mem) =>
              mlet (w32 (x146 + 1)) fun x861 =>
              fL_law_L609 x135 σ self66 x136 x137 x138 x139 x140 x141 x142 x143 x144 n148 x861 μ859
              ) fun (K860 : Mem → Option (Int × Mem)) =>
            if x146 = x144 then
              K860 μ858
            else
              bnd2 (fL_told x146 0 μ858) fun x862 μ863 =>
              mlet (fun (μ864 : Mem) =>
                grd (0 ≤ x146 ∧ x146 < 6) <|
                if x857 = (μ864 62 (x146).toNat) then
                  K860 μ864
                else
                  some (0, μ864)
                ) fun (K865 : Mem → Option (Int × Mem)) =>
              if x862 = 3 then
                K865 μ863
              else
                bnd2 (fL_told x146 0 μ863) fun x867 μ868 =>
                if ¬ x867 = 4 then
                  K860 μ868
                else
                  K865 μ868
def fL_law_c606 (σ : Scr) (self66 : Int → Mem → Option (Int × Mem)) (x135 : Int) (x136 : Int) (x137 : Int) (x138 : Int) (x139 : Int) (x140 : Int) (x141 : Int) (x142 : Int) (x143 : Int) (x144 : Int) (μ145 : Mem) : Option (Int × Mem) :=
  fL_law_L609 x135 σ self66 x136 x137 x138 x139 x140 x141 x142 x143 x144 fuel 0 μ145
theorem dL_law_606 : decode cL_law 606 = .ok (.iconst 0, 1) := by decide +kernel
theorem dL_law_607 : decode cL_law 607 = .ok (.istore 21, 2) := by decide +kernel
theorem dL_law_609 : decode cL_law 609 = .ok (.iload 21, 2) := by decide +kernel
theorem dL_law_611 : decode cL_law 611 = .ok (.iload 6, 2) := by decide +kernel
theorem dL_law_613 : decode cL_law 613 = .ok (.if_icmp .ge 86, 3) := by decide +kernel
theorem dL_law_616 : decode cL_law 616 = .ok (.aload_n 1, 1) := by decide +kernel
theorem dL_law_617 : decode cL_law 617 = .ok (.iload 21, 2) := by decide +kernel
theorem dL_law_619 : decode cL_law 619 = .ok (.iconst 2, 1) := by decide +kernel
theorem dL_law_620 : decode cL_law 620 = .ok (.invokestatic 95, 3) := by decide +kernel
theorem dL_law_623 : decode cL_law 623 = .ok (.istore 22, 2) := by decide +kernel
theorem dL_law_625 : decode cL_law 625 = .ok (.iload 22, 2) := by decide +kernel
theorem dL_law_627 : decode cL_law 627 = .ok (.aload 4, 2) := by decide +kernel
theorem dL_law_629 : decode cL_law 629 = .ok (.iload 21, 2) := by decide +kernel
theorem dL_law_631 : decode cL_law 631 = .ok (.iaload, 1) := by decide +kernel
theorem dL_law_632 : decode cL_law 632 = .ok (.if_icmp .gt 59, 3) := by decide +kernel
theorem dL_law_635 : decode cL_law 635 = .ok (.iload 22, 2) := by decide +kernel
theorem dL_law_637 : decode cL_law 637 = .ok (.aload 4, 2) := by decide +kernel
theorem dL_law_639 : decode cL_law 639 = .ok (.iload 21, 2) := by decide +kernel
theorem dL_law_641 : decode cL_law 641 = .ok (.iaload, 1) := by decide +kernel
theorem dL_law_642 : decode cL_law 642 = .ok (.iconst 2, 1) := by decide +kernel
theorem dL_law_643 : decode cL_law 643 = .ok (.isub, 1) := by decide +kernel
theorem dL_law_644 : decode cL_law 644 = .ok (.if_icmp .lt 47, 3) := by decide +kernel
theorem dL_law_647 : decode cL_law 647 = .ok (.iload 22, 2) := by decide +kernel
theorem dL_law_649 : decode cL_law 649 = .ok (.ifCond .lt 42, 3) := by decide +kernel
theorem dL_law_652 : decode cL_law 652 = .ok (.iload 21, 2) := by decide +kernel
theorem dL_law_654 : decode cL_law 654 = .ok (.iload 17, 2) := by decide +kernel
theorem dL_law_656 : decode cL_law 656 = .ok (.if_icmp .eq 37, 3) := by decide +kernel
theorem dL_law_659 : decode cL_law 659 = .ok (.aload_n 1, 1) := by decide +kernel
theorem dL_law_660 : decode cL_law 660 = .ok (.iload 21, 2) := by decide +kernel
theorem dL_law_662 : decode cL_law 662 = .ok (.iconst 0, 1) := by decide +kernel
theorem dL_law_663 : decode cL_law 663 = .ok (.invokestatic 95, 3) := by decide +kernel
theorem dL_law_666 : decode cL_law 666 = .ok (.iconst 3, 1) := by decide +kernel
theorem dL_law_667 : decode cL_law 667 = .ok (.if_icmp .eq 14, 3) := by decide +kernel
theorem dL_law_670 : decode cL_law 670 = .ok (.aload_n 1, 1) := by decide +kernel
theorem dL_law_671 : decode cL_law 671 = .ok (.iload 21, 2) := by decide +kernel
theorem dL_law_673 : decode cL_law 673 = .ok (.iconst 0, 1) := by decide +kernel
theorem dL_law_674 : decode cL_law 674 = .ok (.invokestatic 95, 3) := by decide +kernel
theorem dL_law_677 : decode cL_law 677 = .ok (.iconst 4, 1) := by decide +kernel
theorem dL_law_678 : decode cL_law 678 = .ok (.if_icmp .ne 15, 3) := by decide +kernel
theorem dL_law_681 : decode cL_law 681 = .ok (.iload 22, 2) := by decide +kernel
theorem dL_law_683 : decode cL_law 683 = .ok (.aload 4, 2) := by decide +kernel
theorem dL_law_685 : decode cL_law 685 = .ok (.iload 21, 2) := by decide +kernel
theorem dL_law_687 : decode cL_law 687 = .ok (.iaload, 1) := by decide +kernel
theorem dL_law_688 : decode cL_law 688 = .ok (.if_icmp .eq 5, 3) := by decide +kernel
theorem dL_law_691 : decode cL_law 691 = .ok (.iconst 0, 1) := by decide +kernel
theorem dL_law_692 : decode cL_law 692 = .ok (.ireturn, 1) := by decide +kernel
theorem dL_law_693 : decode cL_law 693 = .ok (.iinc 21 1, 3) := by decide +kernel
theorem dL_law_696 : decode cL_law 696 = .ok (.goto (-87), 3) := by decide +kernel
theorem KL_law_c606 {σ : Scr} {self66 : Int → Mem → Option (Int × Mem)} (x135 : Int) (x136 : Int) (x137 : Int) (x138 : Int) (x139 : Int) (x140 : Int) (x141 : Int) (x142 : Int) (x143 : Int) (x144 : Int) (μ145 : Mem) (hself66 : ∀ (x11 : Int) (μ12 : Mem), Sim σ cL_law 60 RL (2000) (some .boolean) wI 66 [(0, .inr (.inr 64)), (1, .inr (.inr 0)), (2, .inr (.inr 60)), (3, .inr (.inr 61)), (4, .inr (.inr 62)), (5, .inr (.inr 63)), (6, .inl x135), (7, .inr (.inl x136)), (9, .inl x11)] [] μ12 (self66 x11 μ12)) : Sim σ cL_law 60 RL (2000) (some .boolean) wI 606 [(0, .inr (.inr 64)), (1, .inr (.inr 0)), (2, .inr (.inr 60)), (3, .inr (.inr 61)), (4, .inr (.inr 62)), (5, .inr (.inr 63)), (6, .inl x135), (7, .inr (.inl x136)), (9, .inl x137), (10, .inl x138), (11, .inl x139), (12, .inl x140), (13, .inl x141), (14, .inl x142), (15, .inl x143), (17, .inl x144)] [] μ145 (fL_law_c606 σ self66 x135 x136 x137 x138 x139 x140 x141 x142 x143 x144 μ145) := by
  unfold fL_law_c606
  refine S_iconst dL_law_606 rfl ?_
  refine S_istore (lv' := [(21, .inl 0), (0, .inr (.inr 64)), (1, .inr (.inr 0)), (2, .inr (.inr 60)), (3, .inr (.inr 61)), (4, .inr (.inr 62)), (5, .inr (.inr 63)), (6, .inl x135), (7, .inr (.inl x136)), (9, .inl x137), (10, .inl x138), (11, .inl x139), (12, .inl x140), (13, .inl x141), (14, .inl x142), (15, .inl x143), (17, .inl x144)]) dL_law_607 rfl rfl ?_
  have hL609 : ∀ (n148 : Nat) (x146 : Int) (μ147 : Mem), Sim σ cL_law 60 RL (2000) (some .boolean) wI 609 [(0, .inr (.inr 64)), (1, .inr (.inr 0)), (2, .inr (.inr 60)), (3, .inr (.inr 61)), (4, .inr (.inr 62)), (5, .inr (.inr 63)), (6, .inl x135), (7, .inr (.inl x136)), (9, .inl x137), (10, .inl x138), (11, .inl x139), (12, .inl x140), (13, .inl x141), (14, .inl x142), (15, .inl x143), (17, .inl x144), (21, .inl x146)] [] μ147 (fL_law_L609 x135 σ self66 x136 x137 x138 x139 x140 x141 x142 x143 x144 n148 x146 μ147) := by
    intro n148
    induction n148 with
    | zero =>
      intro x146 μ147
      exact S_none rfl
    | succ n148 ih =>
      intro x146 μ147
      rw [fL_law_L609]
      refine S_iload dL_law_609 rfl ?_
      refine S_iload dL_law_611 rfl ?_
      refine S_ic_ge (tgt := 699) dL_law_613 (by decide) (fun h875 => ?_) (fun h875 => ?_)
      · exact S_sub [0, 1, 2, 3, 4, 5, 6, 7, 8, 9, 10, 11, 12, 13, 14, 15] rfl (KL_law_c699 x135 x136 x137 x138 x139 x140 x141 x142 x143 x144 μ147 hself66)
      · refine S_aload_n dL_law_616 rfl ?_
        refine S_iload dL_law_617 rfl ?_
        refine S_iconst dL_law_619 rfl ?_
        refine S_callS_M2 dL_law_620 [.inr (.inr 0), .inl x146, .inl 2] (K_L_told x146 2 μ147) l_L_95 yo_L_told rfl rfl rfl (fun x857 μ858 => ?_)
        refine S_istore (lv' := [(22, .inl x857), (0, .inr (.inr 64)), (1, .inr (.inr 0)), (2, .inr (.inr 60)), (3, .inr (.inr 61)), (4, .inr (.inr 62)), (5, .inr (.inr 63)), (6, .inl x135), (7, .inr (.inl x136)), (9, .inl x137), (10, .inl x138), (11, .inl x139), (12, .inl x140), (13, .inl x141), (14, .inl x142), (15, .inl x143), (17, .inl x144), (21, .inl x146)]) dL_law_623 rfl rfl ?_
        refine S_iload dL_law_625 rfl ?_
        refine S_aload dL_law_627 rfl ?_
        refine S_iload dL_law_629 rfl ?_
        refine S_iald (N := 6) dL_law_631 rfl (by decide) rfl ?_
        refine S_ic_gt (tgt := 691) dL_law_632 (by decide) (fun h874 => ?_) (fun h874 => ?_)
        · refine S_iconst dL_law_691 rfl ?_
          exact S_zret dL_law_692 rfl (by decide) rfl
        · refine S_iload dL_law_635 rfl ?_
          refine S_aload dL_law_637 rfl ?_
          refine S_iload dL_law_639 rfl ?_
          refine S_iald (N := 6) dL_law_641 rfl (by decide) rfl ?_
          refine S_iconst dL_law_642 rfl ?_
          refine S_isub dL_law_643 ?_
          refine S_ic_lt (tgt := 691) dL_law_644 (by decide) (fun h873 => ?_) (fun h873 => ?_)
          · refine S_iconst dL_law_691 rfl ?_
            exact S_zret dL_law_692 rfl (by decide) rfl
          · refine S_iload dL_law_647 rfl ?_
            refine S_if_lt (tgt := 691) dL_law_649 (by decide) (fun h872 => ?_) (fun h872 => ?_)
            · refine S_iconst dL_law_691 rfl ?_
              exact S_zret dL_law_692 rfl (by decide) rfl
            · refine S_iload dL_law_652 rfl ?_
              refine S_iload dL_law_654 rfl ?_
              refine S_jn (fun (K860 : Mem → Option (Int × Mem)) => ∀ (μ859 : Mem), Sim σ cL_law 60 RL (2000) (some .boolean) wI 693 [(0, .inr (.inr 64)), (1, .inr (.inr 0)), (2, .inr (.inr 60)), (3, .inr (.inr 61)), (4, .inr (.inr 62)), (5, .inr (.inr 63)), (6, .inl x135), (7, .inr (.inl x136)), (9, .inl x137), (10, .inl x138), (11, .inl x139), (12, .inl x140), (13, .inl x141), (14, .inl x142), (15, .inl x143), (17, .inl x144), (21, .inl x146)] [] μ859 (K860 μ859)) ?_ (fun K860 hK860 => ?_)
              · intro μ859
                refine S_iinc (lv' := fun x861 => [(21, .inl x861), (0, .inr (.inr 64)), (1, .inr (.inr 0)), (2, .inr (.inr 60)), (3, .inr (.inr 61)), (4, .inr (.inr 62)), (5, .inr (.inr 63)), (6, .inl x135), (7, .inr (.inl x136)), (9, .inl x137), (10, .inl x138), (11, .inl x139), (12, .inl x140), (13, .inl x141), (14, .inl x142), (15, .inl x143), (17, .inl x144)]) dL_law_693 rfl rfl rfl (fun _ => rfl) (fun x861 => ?_)
                refine S_goto (tgt := 609) dL_law_696 (by decide) ?_
                exact S_sub [1, 2, 3, 4, 5, 6, 7, 8, 9, 10, 11, 12, 13, 14, 15, 16, 0] rfl (ih x861 μ859)
              refine S_ic_eq (tgt := 693) dL_law_656 (by decide) (fun h871 => ?_) (fun h871 => ?_)
              · exact S_sub [1, 2, 3, 4, 5, 6, 7, 8, 9, 10, 11, 12, 13, 14, 15, 16, 17] rfl (hK860 μ858)
              · refine S_aload_n dL_law_659 rfl ?_
                refine S_iload dL_law_660 rfl ?_
                refine S_iconst dL_law_662 rfl ?_
                refine S_callS_M2 dL_law_663 [.inr (.inr 0), .inl x146, .inl 0] (K_L_told x146 0 μ858) l_L_95 yo_L_told rfl rfl rfl (fun x862 μ863 => ?_)
                refine S_iconst dL_law_666 rfl ?_
                refine S_jn (fun (K865 : Mem → Option (Int × Mem)) => ∀ (μ864 : Mem), Sim σ cL_law 60 RL (2000) (some .boolean) wI 681 [(0, .inr (.inr 64)), (1, .inr (.inr 0)), (2, .inr (.inr 60)), (3, .inr (.inr 61)), (4, .inr (.inr 62)), (5, .inr (.inr 63)), (6, .inl x135), (7, .inr (.inl x136)), (9, .inl x137), (10, .inl x138), (11, .inl x139), (12, .inl x140), (13, .inl x141), (14, .inl x142), (15, .inl x143), (17, .inl x144), (21, .inl x146), (22, .inl x857)] [] μ864 (K865 μ864)) ?_ (fun K865 hK865 => ?_)
                · intro μ864
                  refine S_iload dL_law_681 rfl ?_
                  refine S_aload dL_law_683 rfl ?_
                  refine S_iload dL_law_685 rfl ?_
                  refine S_iald (N := 6) dL_law_687 rfl (by decide) rfl ?_
                  refine S_ic_eq (tgt := 693) dL_law_688 (by decide) (fun h866 => ?_) (fun h866 => ?_)
                  · exact S_sub [0, 1, 2, 3, 4, 5, 6, 7, 8, 9, 10, 11, 12, 13, 14, 15, 16] rfl (hK860 μ864)
                  · refine S_iconst dL_law_691 rfl ?_
                    exact S_zret dL_law_692 rfl (by decide) rfl
                refine S_ic_eq (tgt := 681) dL_law_667 (by decide) (fun h870 => ?_) (fun h870 => ?_)
                · exact S_sub [1, 2, 3, 4, 5, 6, 7, 8, 9, 10, 11, 12, 13, 14, 15, 16, 17, 0] rfl (hK865 μ863)
                · refine S_aload_n dL_law_670 rfl ?_
                  refine S_iload dL_law_671 rfl ?_
                  refine S_iconst dL_law_673 rfl ?_
                  refine S_callS_M2 dL_law_674 [.inr (.inr 0), .inl x146, .inl 0] (K_L_told x146 0 μ863) l_L_95 yo_L_told rfl rfl rfl (fun x867 μ868 => ?_)
                  refine S_iconst dL_law_677 rfl ?_
                  refine S_ic_ne (tgt := 693) dL_law_678 (by decide) (fun h869 => ?_) (fun h869 => ?_)
                  · exact S_sub [1, 2, 3, 4, 5, 6, 7, 8, 9, 10, 11, 12, 13, 14, 15, 16, 17] rfl (hK860 μ868)
                  · exact S_sub [1, 2, 3, 4, 5, 6, 7, 8, 9, 10, 11, 12, 13, 14, 15, 16, 17, 0] rfl (hK865 μ868)
  exact S_sub [1, 2, 3, 4, 5, 6, 7, 8, 9, 10, 11, 12, 13, 14, 15, 16, 0] rfl (hL609 fuel 0 μ145)
def fL_law_c497 (σ : Scr) (self66 : Int → Mem → Option (Int × Mem)) (x114 : Int) (x115 : Int) (x116 : Int) (x117 : Int) (x118 : Int) (x119 : Int) (x120 : Int) (x121 : Int) (x122 : Int) (x123 : Int) (μ124 : Mem) : Option (Int × Mem) :=
  mlet (fun (x125 : Int) (μ126 : Mem) =>
    bnd2 (fX1_night μ126) fun x128 μ129 =>
    if ¬ x128 = x123 then
      some (0, μ129)
    else
      (fX1_count 3 μ129).bind fun x130 =>
      if ¬ x130 = x125 then
        some (0, μ129)
      else
        (fX1_count 1 μ129).bind fun x131 =>
        if ¬ x131 = (w32 (x119 + 1)) then
          some (0, μ129)
        else
          (fX1_count 6 μ129).bind fun x132 =>
          mlet (fun (x133 : Int) =>
            if ¬ x132 = (w32 (x122 + x133)) then
              some (0, μ129)
            else
              if x123 < 0 then
                fL_law_c606 σ self66 x114 x115 x116 x117 x118 x119 x120 x121 x122 x123 μ129
              else
                bnd2 (fL_told x123 2 μ129) fun x876 μ877 =>
                grd (0 ≤ x123 ∧ x123 < 6) <|
                mlet (fun (x878 : Int) =>
                  if x876 = x878 then
                    fL_law_c606 σ self66 x114 x115 x116 x117 x118 x119 x120 x121 x122 x123 μ877
                  else
                    some (0, μ877)
                  ) fun (K879 : Int → Option (Int × Mem)) =>
                if 2 ≤ (μ877 62 (x123).toNat) then
                  grd (0 ≤ x123 ∧ x123 < 6) <|
                  K879 (w32 ((μ877 62 (x123).toNat) - 2))
                else
                  K879 0
            ) fun (K134 : Int → Option (Int × Mem)) =>
          if 0 ≤ x123 then
            K134 1
          else
            K134 0
    ) fun (K127 : Int → Mem → Option (Int × Mem)) =>
  if 0 ≤ x123 then
    bnd2 (fL_told x123 1 μ124) fun x888 μ889 =>
    K127 x888 μ889
  else
    K127 x120 μ124
theorem dL_law_497 : decode cL_law 497 = .ok (.iload 17, 2) := by decide +kernel
theorem dL_law_499 : decode cL_law 499 = .ok (.ifCond .ge 8, 3) := by decide +kernel
theorem dL_law_502 : decode cL_law 502 = .ok (.iload 13, 2) := by decide +kernel
theorem dL_law_504 : decode cL_law 504 = .ok (.goto 10, 3) := by decide +kernel
theorem dL_law_507 : decode cL_law 507 = .ok (.aload_n 1, 1) := by decide +kernel
theorem dL_law_508 : decode cL_law 508 = .ok (.iload 17, 2) := by decide +kernel
theorem dL_law_510 : decode cL_law 510 = .ok (.iconst 1, 1) := by decide +kernel
theorem dL_law_511 : decode cL_law 511 = .ok (.invokestatic 95, 3) := by decide +kernel
theorem dL_law_514 : decode cL_law 514 = .ok (.istore 20, 2) := by decide +kernel
theorem dL_law_516 : decode cL_law 516 = .ok (.aload_n 1, 1) := by decide +kernel
theorem dL_law_517 : decode cL_law 517 = .ok (.invokevirtual 59, 3) := by decide +kernel
theorem dL_law_520 : decode cL_law 520 = .ok (.iload 17, 2) := by decide +kernel
theorem dL_law_522 : decode cL_law 522 = .ok (.if_icmp .ne 82, 3) := by decide +kernel
theorem dL_law_525 : decode cL_law 525 = .ok (.aload_n 1, 1) := by decide +kernel
theorem dL_law_526 : decode cL_law 526 = .ok (.iconst 3, 1) := by decide +kernel
theorem dL_law_527 : decode cL_law 527 = .ok (.invokevirtual 92, 3) := by decide +kernel
theorem dL_law_530 : decode cL_law 530 = .ok (.iload 20, 2) := by decide +kernel
theorem dL_law_532 : decode cL_law 532 = .ok (.if_icmp .ne 72, 3) := by decide +kernel
theorem dL_law_535 : decode cL_law 535 = .ok (.aload_n 1, 1) := by decide +kernel
theorem dL_law_536 : decode cL_law 536 = .ok (.iconst 1, 1) := by decide +kernel
theorem dL_law_537 : decode cL_law 537 = .ok (.invokevirtual 92, 3) := by decide +kernel
theorem dL_law_540 : decode cL_law 540 = .ok (.iload 12, 2) := by decide +kernel
theorem dL_law_542 : decode cL_law 542 = .ok (.iconst 1, 1) := by decide +kernel
theorem dL_law_543 : decode cL_law 543 = .ok (.iadd, 1) := by decide +kernel
theorem dL_law_544 : decode cL_law 544 = .ok (.if_icmp .ne 60, 3) := by decide +kernel
theorem dL_law_547 : decode cL_law 547 = .ok (.aload_n 1, 1) := by decide +kernel
theorem dL_law_548 : decode cL_law 548 = .ok (.bipush 6, 2) := by decide +kernel
theorem dL_law_550 : decode cL_law 550 = .ok (.invokevirtual 92, 3) := by decide +kernel
theorem dL_law_553 : decode cL_law 553 = .ok (.iload 15, 2) := by decide +kernel
theorem dL_law_555 : decode cL_law 555 = .ok (.iload 17, 2) := by decide +kernel
theorem dL_law_557 : decode cL_law 557 = .ok (.ifCond .ge 7, 3) := by decide +kernel
theorem dL_law_560 : decode cL_law 560 = .ok (.iconst 0, 1) := by decide +kernel
theorem dL_law_561 : decode cL_law 561 = .ok (.goto 4, 3) := by decide +kernel
theorem dL_law_564 : decode cL_law 564 = .ok (.iconst 1, 1) := by decide +kernel
theorem dL_law_565 : decode cL_law 565 = .ok (.iadd, 1) := by decide +kernel
theorem dL_law_566 : decode cL_law 566 = .ok (.if_icmp .ne 38, 3) := by decide +kernel
theorem dL_law_569 : decode cL_law 569 = .ok (.iload 17, 2) := by decide +kernel
theorem dL_law_571 : decode cL_law 571 = .ok (.ifCond .lt 35, 3) := by decide +kernel
theorem dL_law_574 : decode cL_law 574 = .ok (.aload_n 1, 1) := by decide +kernel
theorem dL_law_575 : decode cL_law 575 = .ok (.iload 17, 2) := by decide +kernel
theorem dL_law_577 : decode cL_law 577 = .ok (.iconst 2, 1) := by decide +kernel
theorem dL_law_578 : decode cL_law 578 = .ok (.invokestatic 95, 3) := by decide +kernel
theorem dL_law_581 : decode cL_law 581 = .ok (.aload 4, 2) := by decide +kernel
theorem dL_law_583 : decode cL_law 583 = .ok (.iload 17, 2) := by decide +kernel
theorem dL_law_585 : decode cL_law 585 = .ok (.iaload, 1) := by decide +kernel
theorem dL_law_586 : decode cL_law 586 = .ok (.iconst 2, 1) := by decide +kernel
theorem dL_law_587 : decode cL_law 587 = .ok (.if_icmp .ge 7, 3) := by decide +kernel
theorem dL_law_590 : decode cL_law 590 = .ok (.iconst 0, 1) := by decide +kernel
theorem dL_law_591 : decode cL_law 591 = .ok (.goto 10, 3) := by decide +kernel
theorem dL_law_594 : decode cL_law 594 = .ok (.aload 4, 2) := by decide +kernel
theorem dL_law_596 : decode cL_law 596 = .ok (.iload 17, 2) := by decide +kernel
theorem dL_law_598 : decode cL_law 598 = .ok (.iaload, 1) := by decide +kernel
theorem dL_law_599 : decode cL_law 599 = .ok (.iconst 2, 1) := by decide +kernel
theorem dL_law_600 : decode cL_law 600 = .ok (.isub, 1) := by decide +kernel
theorem dL_law_601 : decode cL_law 601 = .ok (.if_icmp .eq 5, 3) := by decide +kernel
theorem dL_law_604 : decode cL_law 604 = .ok (.iconst 0, 1) := by decide +kernel
theorem dL_law_605 : decode cL_law 605 = .ok (.ireturn, 1) := by decide +kernel
theorem KL_law_c497 {σ : Scr} {self66 : Int → Mem → Option (Int × Mem)} (x114 : Int) (x115 : Int) (x116 : Int) (x117 : Int) (x118 : Int) (x119 : Int) (x120 : Int) (x121 : Int) (x122 : Int) (x123 : Int) (μ124 : Mem) (hself66 : ∀ (x11 : Int) (μ12 : Mem), Sim σ cL_law 60 RL (2000) (some .boolean) wI 66 [(0, .inr (.inr 64)), (1, .inr (.inr 0)), (2, .inr (.inr 60)), (3, .inr (.inr 61)), (4, .inr (.inr 62)), (5, .inr (.inr 63)), (6, .inl x114), (7, .inr (.inl x115)), (9, .inl x11)] [] μ12 (self66 x11 μ12)) : Sim σ cL_law 60 RL (2000) (some .boolean) wI 497 [(0, .inr (.inr 64)), (1, .inr (.inr 0)), (2, .inr (.inr 60)), (3, .inr (.inr 61)), (4, .inr (.inr 62)), (5, .inr (.inr 63)), (6, .inl x114), (7, .inr (.inl x115)), (9, .inl x116), (10, .inl x117), (11, .inl x118), (12, .inl x119), (13, .inl x120), (14, .inl x121), (15, .inl x122), (17, .inl x123)] [] μ124 (fL_law_c497 σ self66 x114 x115 x116 x117 x118 x119 x120 x121 x122 x123 μ124) := by
  unfold fL_law_c497
  refine S_iload dL_law_497 rfl ?_
  refine S_jn (fun (K127 : Int → Mem → Option (Int × Mem)) => ∀ (x125 : Int) (μ126 : Mem), Sim σ cL_law 60 RL (2000) (some .boolean) wI 514 [(0, .inr (.inr 64)), (1, .inr (.inr 0)), (2, .inr (.inr 60)), (3, .inr (.inr 61)), (4, .inr (.inr 62)), (5, .inr (.inr 63)), (6, .inl x114), (7, .inr (.inl x115)), (9, .inl x116), (10, .inl x117), (11, .inl x118), (12, .inl x119), (13, .inl x120), (14, .inl x121), (15, .inl x122), (17, .inl x123)] [.inl x125] μ126 (K127 x125 μ126)) ?_ (fun K127 hK127 => ?_)
  · intro x125 μ126
    refine S_istore (lv' := [(20, .inl x125), (0, .inr (.inr 64)), (1, .inr (.inr 0)), (2, .inr (.inr 60)), (3, .inr (.inr 61)), (4, .inr (.inr 62)), (5, .inr (.inr 63)), (6, .inl x114), (7, .inr (.inl x115)), (9, .inl x116), (10, .inl x117), (11, .inl x118), (12, .inl x119), (13, .inl x120), (14, .inl x121), (15, .inl x122), (17, .inl x123)]) dL_law_514 rfl rfl ?_
    refine S_aload_n dL_law_516 rfl ?_
    refine S_callV_M2 dL_law_517 [] (K_X1_night μ126) l_L_59 yo_X1_night rfl rfl rfl rfl rfl (fun x128 μ129 => ?_)
    refine S_iload dL_law_520 rfl ?_
    refine S_ic_ne (tgt := 604) dL_law_522 (by decide) (fun h887 => ?_) (fun h887 => ?_)
    · refine S_iconst dL_law_604 rfl ?_
      exact S_zret dL_law_605 rfl (by decide) rfl
    · refine S_aload_n dL_law_525 rfl ?_
      refine S_iconst dL_law_526 rfl ?_
      refine S_callV_I dL_law_527 [.inl 3] (K_X1_count 3 μ129) l_L_92 yo_X1_count rfl rfl rfl rfl rfl (fun x130 => ?_)
      refine S_iload dL_law_530 rfl ?_
      refine S_ic_ne (tgt := 604) dL_law_532 (by decide) (fun h886 => ?_) (fun h886 => ?_)
      · refine S_iconst dL_law_604 rfl ?_
        exact S_zret dL_law_605 rfl (by decide) rfl
      · refine S_aload_n dL_law_535 rfl ?_
        refine S_iconst dL_law_536 rfl ?_
        refine S_callV_I dL_law_537 [.inl 1] (K_X1_count 1 μ129) l_L_92 yo_X1_count rfl rfl rfl rfl rfl (fun x131 => ?_)
        refine S_iload dL_law_540 rfl ?_
        refine S_iconst dL_law_542 rfl ?_
        refine S_iadd dL_law_543 ?_
        refine S_ic_ne (tgt := 604) dL_law_544 (by decide) (fun h885 => ?_) (fun h885 => ?_)
        · refine S_iconst dL_law_604 rfl ?_
          exact S_zret dL_law_605 rfl (by decide) rfl
        · refine S_aload_n dL_law_547 rfl ?_
          refine S_bipush dL_law_548 rfl (by decide) ?_
          refine S_callV_I dL_law_550 [.inl 6] (K_X1_count 6 μ129) l_L_92 yo_X1_count rfl rfl rfl rfl rfl (fun x132 => ?_)
          refine S_iload dL_law_553 rfl ?_
          refine S_iload dL_law_555 rfl ?_
          refine S_jn (fun (K134 : Int → Option (Int × Mem)) => ∀ (x133 : Int), Sim σ cL_law 60 RL (2000) (some .boolean) wI 565 [(0, .inr (.inr 64)), (1, .inr (.inr 0)), (2, .inr (.inr 60)), (3, .inr (.inr 61)), (4, .inr (.inr 62)), (5, .inr (.inr 63)), (6, .inl x114), (7, .inr (.inl x115)), (9, .inl x116), (10, .inl x117), (11, .inl x118), (12, .inl x119), (13, .inl x120), (14, .inl x121), (15, .inl x122), (17, .inl x123)] [.inl x133, .inl x122, .inl x132] μ129 (K134 x133)) ?_ (fun K134 hK134 => ?_)
          · intro x133
            refine S_iadd dL_law_565 ?_
            refine S_ic_ne (tgt := 604) dL_law_566 (by decide) (fun h883 => ?_) (fun h883 => ?_)
            · refine S_iconst dL_law_604 rfl ?_
              exact S_zret dL_law_605 rfl (by decide) rfl
            · refine S_iload dL_law_569 rfl ?_
              refine S_if_lt (tgt := 606) dL_law_571 (by decide) (fun h882 => ?_) (fun h882 => ?_)
              · exact S_sub [0, 1, 2, 3, 4, 5, 6, 7, 8, 9, 10, 11, 12, 13, 14, 15] rfl (KL_law_c606 x114 x115 x116 x117 x118 x119 x120 x121 x122 x123 μ129 hself66)
              · refine S_aload_n dL_law_574 rfl ?_
                refine S_iload dL_law_575 rfl ?_
                refine S_iconst dL_law_577 rfl ?_
                refine S_callS_M2 dL_law_578 [.inr (.inr 0), .inl x123, .inl 2] (K_L_told x123 2 μ129) l_L_95 yo_L_told rfl rfl rfl (fun x876 μ877 => ?_)
                refine S_aload dL_law_581 rfl ?_
                refine S_iload dL_law_583 rfl ?_
                refine S_iald (N := 6) dL_law_585 rfl (by decide) rfl ?_
                refine S_iconst dL_law_586 rfl ?_
                refine S_jn (fun (K879 : Int → Option (Int × Mem)) => ∀ (x878 : Int), Sim σ cL_law 60 RL (2000) (some .boolean) wI 601 [(0, .inr (.inr 64)), (1, .inr (.inr 0)), (2, .inr (.inr 60)), (3, .inr (.inr 61)), (4, .inr (.inr 62)), (5, .inr (.inr 63)), (6, .inl x114), (7, .inr (.inl x115)), (9, .inl x116), (10, .inl x117), (11, .inl x118), (12, .inl x119), (13, .inl x120), (14, .inl x121), (15, .inl x122), (17, .inl x123)] [.inl x878, .inl x876] μ877 (K879 x878)) ?_ (fun K879 hK879 => ?_)
                · intro x878
                  refine S_ic_eq (tgt := 606) dL_law_601 (by decide) (fun h880 => ?_) (fun h880 => ?_)
                  · exact S_sub [0, 1, 2, 3, 4, 5, 6, 7, 8, 9, 10, 11, 12, 13, 14, 15] rfl (KL_law_c606 x114 x115 x116 x117 x118 x119 x120 x121 x122 x123 μ877 hself66)
                  · refine S_iconst dL_law_604 rfl ?_
                    exact S_zret dL_law_605 rfl (by decide) rfl
                refine S_ic_ge (tgt := 594) dL_law_587 (by decide) (fun h881 => ?_) (fun h881 => ?_)
                · refine S_aload dL_law_594 rfl ?_
                  refine S_iload dL_law_596 rfl ?_
                  refine S_iald (N := 6) dL_law_598 rfl (by decide) rfl ?_
                  refine S_iconst dL_law_599 rfl ?_
                  refine S_isub dL_law_600 ?_
                  exact S_sub [0, 1, 2, 3, 4, 5, 6, 7, 8, 9, 10, 11, 12, 13, 14, 15] rfl (hK879 (w32 ((μ877 62 (x123).toNat) - 2)))
                · refine S_iconst dL_law_590 rfl ?_
                  refine S_goto (tgt := 601) dL_law_591 (by decide) ?_
                  exact S_sub [0, 1, 2, 3, 4, 5, 6, 7, 8, 9, 10, 11, 12, 13, 14, 15] rfl (hK879 0)
          refine S_if_ge (tgt := 564) dL_law_557 (by decide) (fun h884 => ?_) (fun h884 => ?_)
          · refine S_iconst dL_law_564 rfl ?_
            exact S_sub [1, 2, 3, 4, 5, 6, 7, 8, 9, 10, 11, 12, 13, 14, 15, 16] rfl (hK134 1)
          · refine S_iconst dL_law_560 rfl ?_
            refine S_goto (tgt := 565) dL_law_561 (by decide) ?_
            exact S_sub [1, 2, 3, 4, 5, 6, 7, 8, 9, 10, 11, 12, 13, 14, 15, 16] rfl (hK134 0)
  refine S_if_ge (tgt := 507) dL_law_499 (by decide) (fun h890 => ?_) (fun h890 => ?_)
  · refine S_aload_n dL_law_507 rfl ?_
    refine S_iload dL_law_508 rfl ?_
    refine S_iconst dL_law_510 rfl ?_
    refine S_callS_M2 dL_law_511 [.inr (.inr 0), .inl x123, .inl 1] (K_L_told x123 1 μ124) l_L_95 yo_L_told rfl rfl rfl (fun x888 μ889 => ?_)
    exact S_sub [0, 1, 2, 3, 4, 5, 6, 7, 8, 9, 10, 11, 12, 13, 14, 15] rfl (hK127 x888 μ889)
  · refine S_iload dL_law_502 rfl ?_
    refine S_goto (tgt := 514) dL_law_504 (by decide) ?_
    exact S_sub [0, 1, 2, 3, 4, 5, 6, 7, 8, 9, 10, 11, 12, 13, 14, 15] rfl (hK127 x120 μ124)
