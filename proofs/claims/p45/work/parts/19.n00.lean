theorem mt_L_river : Cond.static yL_river ∈ gd_tbl ∧ Cond.initialized yL_river.cls ∈ gd_tbl ∧ Cond.code yL_river cL_river 9 (some .boolean) ∈ gd_tbl := ⟨in_gd (i := 518) (by decide +kernel) rfl, in_gd (i := 35) (by decide +kernel) rfl, in_gd (i := 519) (by decide +kernel) rfl⟩
theorem yo_L_river : yOk yL_river 4 := ⟨by decide, by decide, by decide +kernel⟩
theorem l_L_78 : mlS RL 78 yL_river cL_river 9 (some .boolean) := ⟨in_gd (i := 517) (by decide +kernel) rfl, mt_L_river⟩
theorem mt_X1_digest : (Cond.instanceMethod yX1_digest ∈ gd_tbl ∧ Cond.selects yX1_digest.cls yX1_digest yX1_digest ∈ gd_tbl) ∧ Cond.initialized yX1_digest.cls ∈ gd_tbl ∧ Cond.code yX1_digest cX1_digest 5 (some .long) ∈ gd_tbl := ⟨⟨in_gd (i := 499) (by decide +kernel) rfl, in_gd (i := 500) (by decide +kernel) rfl⟩, in_gd (i := 36) (by decide +kernel) rfl, in_gd (i := 501) (by decide +kernel) rfl⟩
theorem yo_X1_digest : yOk yX1_digest 0 := ⟨by decide, by decide, by decide +kernel⟩
theorem l_L_81 : mlV RL 81 yX1_digest cX1_digest 5 (some .long) := ⟨in_gd (i := 498) (by decide +kernel) rfl, mt_X1_digest⟩
theorem mt_X1_keep : (Cond.instanceMethod yX1_keep ∈ gd_tbl ∧ Cond.selects yX1_keep.cls yX1_keep yX1_keep ∈ gd_tbl) ∧ Cond.initialized yX1_keep.cls ∈ gd_tbl ∧ Cond.code yX1_keep cX1_keep 2 (some .int) ∈ gd_tbl := ⟨⟨in_gd (i := 311) (by decide +kernel) rfl, in_gd (i := 312) (by decide +kernel) rfl⟩, in_gd (i := 36) (by decide +kernel) rfl, in_gd (i := 313) (by decide +kernel) rfl⟩
theorem yo_X1_keep : yOk yX1_keep 1 := ⟨by decide, by decide, by decide +kernel⟩
theorem l_L_85 : mlV RL 85 yX1_keep cX1_keep 2 (some .int) := ⟨in_gd (i := 310) (by decide +kernel) rfl, mt_X1_keep⟩
theorem l_L_92 : mlV RL 92 yX1_count cX1_count 2 (some .int) := ⟨in_gd (i := 475) (by decide +kernel) rfl, mt_X1_count⟩
theorem mt_X1_on : (Cond.instanceMethod yX1_on ∈ gd_tbl ∧ Cond.selects yX1_on.cls yX1_on yX1_on ∈ gd_tbl) ∧ Cond.initialized yX1_on.cls ∈ gd_tbl ∧ Cond.code yX1_on cX1_on 2 (some .int) ∈ gd_tbl := ⟨⟨in_gd (i := 319) (by decide +kernel) rfl, in_gd (i := 320) (by decide +kernel) rfl⟩, in_gd (i := 36) (by decide +kernel) rfl, in_gd (i := 321) (by decide +kernel) rfl⟩
theorem yo_X1_on : yOk yX1_on 1 := ⟨by decide, by decide, by decide +kernel⟩
theorem l_L_171 : mlV RL 171 yX1_on cX1_on 2 (some .int) := ⟨in_gd (i := 318) (by decide +kernel) rfl, mt_X1_on⟩
theorem mt_X1_undo : (Cond.instanceMethod yX1_undo ∈ gd_tbl ∧ Cond.selects yX1_undo.cls yX1_undo yX1_undo ∈ gd_tbl) ∧ Cond.initialized yX1_undo.cls ∈ gd_tbl ∧ Cond.code yX1_undo cX1_undo 3 (some .int) ∈ gd_tbl := ⟨⟨in_gd (i := 303) (by decide +kernel) rfl, in_gd (i := 304) (by decide +kernel) rfl⟩, in_gd (i := 36) (by decide +kernel) rfl, in_gd (i := 305) (by decide +kernel) rfl⟩
theorem yo_X1_undo : yOk yX1_undo 1 := ⟨by decide, by decide, by decide +kernel⟩
theorem l_L_100 : mlV RL 100 yX1_undo cX1_undo 3 (some .int) := ⟨in_gd (i := 302) (by decide +kernel) rfl, mt_X1_undo⟩
theorem mt_X1_tear : (Cond.instanceMethod yX1_tear ∈ gd_tbl ∧ Cond.selects yX1_tear.cls yX1_tear yX1_tear ∈ gd_tbl) ∧ Cond.initialized yX1_tear.cls ∈ gd_tbl ∧ Cond.code yX1_tear cX1_tear 2 (some .int) ∈ gd_tbl := ⟨⟨in_gd (i := 186) (by decide +kernel) rfl, in_gd (i := 187) (by decide +kernel) rfl⟩, in_gd (i := 36) (by decide +kernel) rfl, in_gd (i := 188) (by decide +kernel) rfl⟩
theorem yo_X1_tear : yOk yX1_tear 1 := ⟨by decide, by decide, by decide +kernel⟩
theorem l_L_174 : mlV RL 174 yX1_tear cX1_tear 2 (some .int) := ⟨in_gd (i := 185) (by decide +kernel) rfl, mt_X1_tear⟩
theorem mt_L_stir : Cond.static yL_stir ∈ gd_tbl ∧ Cond.initialized yL_stir.cls ∈ gd_tbl ∧ Cond.code yL_stir cL_stir 12 (some .boolean) ∈ gd_tbl := ⟨in_gd (i := 539) (by decide +kernel) rfl, in_gd (i := 35) (by decide +kernel) rfl, in_gd (i := 540) (by decide +kernel) rfl⟩
theorem yo_L_stir : yOk yL_stir 5 := ⟨by decide, by decide, by decide +kernel⟩
theorem l_L_88 : mlS RL 88 yL_stir cL_stir 12 (some .boolean) := ⟨in_gd (i := 538) (by decide +kernel) rfl, mt_L_stir⟩
theorem mt_X1_where : (Cond.instanceMethod yX1_where ∈ gd_tbl ∧ Cond.selects yX1_where.cls yX1_where yX1_where ∈ gd_tbl) ∧ Cond.initialized yX1_where.cls ∈ gd_tbl ∧ Cond.code yX1_where cX1_where 2 (some .int) ∈ gd_tbl := ⟨⟨in_gd (i := 328) (by decide +kernel) rfl, in_gd (i := 329) (by decide +kernel) rfl⟩, in_gd (i := 36) (by decide +kernel) rfl, in_gd (i := 330) (by decide +kernel) rfl⟩
theorem yo_X1_where : yOk yX1_where 1 := ⟨by decide, by decide, by decide +kernel⟩
theorem l_L_103 : mlV RL 103 yX1_where cX1_where 2 (some .int) := ⟨in_gd (i := 327) (by decide +kernel) rfl, mt_X1_where⟩
theorem mt_X1_crosses : (Cond.instanceMethod yX1_crosses ∈ gd_tbl ∧ Cond.selects yX1_crosses.cls yX1_crosses yX1_crosses ∈ gd_tbl) ∧ Cond.initialized yX1_crosses.cls ∈ gd_tbl ∧ Cond.code yX1_crosses cX1_crosses 3 (some .int) ∈ gd_tbl := ⟨⟨in_gd (i := 337) (by decide +kernel) rfl, in_gd (i := 338) (by decide +kernel) rfl⟩, in_gd (i := 36) (by decide +kernel) rfl, in_gd (i := 339) (by decide +kernel) rfl⟩
theorem yo_X1_crosses : yOk yX1_crosses 2 := ⟨by decide, by decide, by decide +kernel⟩
theorem l_L_106 : mlV RL 106 yX1_crosses cX1_crosses 3 (some .int) := ⟨in_gd (i := 336) (by decide +kernel) rfl, mt_X1_crosses⟩
theorem mt_X1_first : (Cond.instanceMethod yX1_first ∈ gd_tbl ∧ Cond.selects yX1_first.cls yX1_first yX1_first ∈ gd_tbl) ∧ Cond.initialized yX1_first.cls ∈ gd_tbl ∧ Cond.code yX1_first cX1_first 3 (some .int) ∈ gd_tbl := ⟨⟨in_gd (i := 341) (by decide +kernel) rfl, in_gd (i := 342) (by decide +kernel) rfl⟩, in_gd (i := 36) (by decide +kernel) rfl, in_gd (i := 343) (by decide +kernel) rfl⟩
theorem yo_X1_first : yOk yX1_first 1 := ⟨by decide, by decide, by decide +kernel⟩
theorem l_L_109 : mlV RL 109 yX1_first cX1_first 3 (some .int) := ⟨in_gd (i := 340) (by decide +kernel) rfl, mt_X1_first⟩
theorem mt_X1_lift : (Cond.instanceMethod yX1_lift ∈ gd_tbl ∧ Cond.selects yX1_lift.cls yX1_lift yX1_lift ∈ gd_tbl) ∧ Cond.initialized yX1_lift.cls ∈ gd_tbl ∧ Cond.code yX1_lift cX1_lift 4 (some .int) ∈ gd_tbl := ⟨⟨in_gd (i := 345) (by decide +kernel) rfl, in_gd (i := 346) (by decide +kernel) rfl⟩, in_gd (i := 36) (by decide +kernel) rfl, in_gd (i := 347) (by decide +kernel) rfl⟩
theorem yo_X1_lift : yOk yX1_lift 2 := ⟨by decide, by decide, by decide +kernel⟩
theorem l_L_112 : mlV RL 112 yX1_lift cX1_lift 4 (some .int) := ⟨in_gd (i := 344) (by decide +kernel) rfl, mt_X1_lift⟩
theorem mt_X1_cheap : (Cond.instanceMethod yX1_cheap ∈ gd_tbl ∧ Cond.selects yX1_cheap.cls yX1_cheap yX1_cheap ∈ gd_tbl) ∧ Cond.initialized yX1_cheap.cls ∈ gd_tbl ∧ Cond.code yX1_cheap cX1_cheap 7 (some .int) ∈ gd_tbl := ⟨⟨in_gd (i := 349) (by decide +kernel) rfl, in_gd (i := 350) (by decide +kernel) rfl⟩, in_gd (i := 36) (by decide +kernel) rfl, in_gd (i := 351) (by decide +kernel) rfl⟩
theorem yo_X1_cheap : yOk yX1_cheap 2 := ⟨by decide, by decide, by decide +kernel⟩
theorem l_L_115 : mlV RL 115 yX1_cheap cX1_cheap 7 (some .int) := ⟨in_gd (i := 348) (by decide +kernel) rfl, mt_X1_cheap⟩
theorem mt_X1_row : (Cond.instanceMethod yX1_row ∈ gd_tbl ∧ Cond.selects yX1_row.cls yX1_row yX1_row ∈ gd_tbl) ∧ Cond.initialized yX1_row.cls ∈ gd_tbl ∧ Cond.code yX1_row cX1_row 3 (some .int) ∈ gd_tbl := ⟨⟨in_gd (i := 152) (by decide +kernel) rfl, in_gd (i := 153) (by decide +kernel) rfl⟩, in_gd (i := 36) (by decide +kernel) rfl, in_gd (i := 154) (by decide +kernel) rfl⟩
theorem yo_X1_row : yOk yX1_row 2 := ⟨by decide, by decide, by decide +kernel⟩
theorem l_L_121 : mlV RL 121 yX1_row cX1_row 3 (some .int) := ⟨in_gd (i := 151) (by decide +kernel) rfl, mt_X1_row⟩
theorem mt_X1_darings : (Cond.instanceMethod yX1_darings ∈ gd_tbl ∧ Cond.selects yX1_darings.cls yX1_darings yX1_darings ∈ gd_tbl) ∧ Cond.initialized yX1_darings.cls ∈ gd_tbl ∧ Cond.code yX1_darings cX1_darings 4 (some .int) ∈ gd_tbl := ⟨⟨in_gd (i := 363) (by decide +kernel) rfl, in_gd (i := 364) (by decide +kernel) rfl⟩, in_gd (i := 36) (by decide +kernel) rfl, in_gd (i := 365) (by decide +kernel) rfl⟩
theorem yo_X1_darings : yOk yX1_darings 2 := ⟨by decide, by decide, by decide +kernel⟩
theorem l_L_127 : mlV RL 127 yX1_darings cX1_darings 4 (some .int) := ⟨in_gd (i := 362) (by decide +kernel) rfl, mt_X1_darings⟩
theorem mt_X1_kinds : (Cond.instanceMethod yX1_kinds ∈ gd_tbl ∧ Cond.selects yX1_kinds.cls yX1_kinds yX1_kinds ∈ gd_tbl) ∧ Cond.initialized yX1_kinds.cls ∈ gd_tbl ∧ Cond.code yX1_kinds cX1_kinds 6 (some .int) ∈ gd_tbl := ⟨⟨in_gd (i := 379) (by decide +kernel) rfl, in_gd (i := 380) (by decide +kernel) rfl⟩, in_gd (i := 36) (by decide +kernel) rfl, in_gd (i := 381) (by decide +kernel) rfl⟩
theorem yo_X1_kinds : yOk yX1_kinds 2 := ⟨by decide, by decide, by decide +kernel⟩
theorem l_L_130 : mlV RL 130 yX1_kinds cX1_kinds 6 (some .int) := ⟨in_gd (i := 378) (by decide +kernel) rfl, mt_X1_kinds⟩
theorem mt_X1_look : (Cond.instanceMethod yX1_look ∈ gd_tbl ∧ Cond.selects yX1_look.cls yX1_look yX1_look ∈ gd_tbl) ∧ Cond.initialized yX1_look.cls ∈ gd_tbl ∧ Cond.code yX1_look cX1_look 7 (some .int) ∈ gd_tbl := ⟨⟨in_gd (i := 383) (by decide +kernel) rfl, in_gd (i := 384) (by decide +kernel) rfl⟩, in_gd (i := 36) (by decide +kernel) rfl, in_gd (i := 385) (by decide +kernel) rfl⟩
theorem yo_X1_look : yOk yX1_look 2 := ⟨by decide, by decide, by decide +kernel⟩
theorem l_L_133 : mlV RL 133 yX1_look cX1_look 7 (some .int) := ⟨in_gd (i := 382) (by decide +kernel) rfl, mt_X1_look⟩
theorem mt_X1_finding : (Cond.instanceMethod yX1_finding ∈ gd_tbl ∧ Cond.selects yX1_finding.cls yX1_finding yX1_finding ∈ gd_tbl) ∧ Cond.initialized yX1_finding.cls ∈ gd_tbl ∧ Cond.code yX1_finding cX1_finding 1 (some .int) ∈ gd_tbl := ⟨⟨in_gd (i := 495) (by decide +kernel) rfl, in_gd (i := 496) (by decide +kernel) rfl⟩, in_gd (i := 36) (by decide +kernel) rfl, in_gd (i := 497) (by decide +kernel) rfl⟩
theorem yo_X1_finding : yOk yX1_finding 0 := ⟨by decide, by decide, by decide +kernel⟩
theorem l_L_136 : mlV RL 136 yX1_finding cX1_finding 1 (some .int) := ⟨in_gd (i := 494) (by decide +kernel) rfl, mt_X1_finding⟩
theorem mt_X1_sets : (Cond.instanceMethod yX1_sets ∈ gd_tbl ∧ Cond.selects yX1_sets.cls yX1_sets yX1_sets ∈ gd_tbl) ∧ Cond.initialized yX1_sets.cls ∈ gd_tbl ∧ Cond.code yX1_sets cX1_sets 5 (some .int) ∈ gd_tbl := ⟨⟨in_gd (i := 398) (by decide +kernel) rfl, in_gd (i := 399) (by decide +kernel) rfl⟩, in_gd (i := 36) (by decide +kernel) rfl, in_gd (i := 400) (by decide +kernel) rfl⟩
theorem yo_X1_sets : yOk yX1_sets 1 := ⟨by decide, by decide, by decide +kernel⟩
theorem l_L_139 : mlV RL 139 yX1_sets cX1_sets 5 (some .int) := ⟨in_gd (i := 397) (by decide +kernel) rfl, mt_X1_sets⟩
theorem mt_X1_upper : (Cond.instanceMethod yX1_upper ∈ gd_tbl ∧ Cond.selects yX1_upper.cls yX1_upper yX1_upper ∈ gd_tbl) ∧ Cond.initialized yX1_upper.cls ∈ gd_tbl ∧ Cond.code yX1_upper cX1_upper 1 (some .long) ∈ gd_tbl := ⟨⟨in_gd (i := 468) (by decide +kernel) rfl, in_gd (i := 469) (by decide +kernel) rfl⟩, in_gd (i := 36) (by decide +kernel) rfl, in_gd (i := 470) (by decide +kernel) rfl⟩
theorem yo_X1_upper : yOk yX1_upper 0 := ⟨by decide, by decide, by decide +kernel⟩
theorem l_L_142 : mlV RL 142 yX1_upper cX1_upper 1 (some .long) := ⟨in_gd (i := 467) (by decide +kernel) rfl, mt_X1_upper⟩
theorem mt_X1_sure : (Cond.instanceMethod yX1_sure ∈ gd_tbl ∧ Cond.selects yX1_sure.cls yX1_sure yX1_sure ∈ gd_tbl) ∧ Cond.initialized yX1_sure.cls ∈ gd_tbl ∧ Cond.code yX1_sure cX1_sure 7 (some .int) ∈ gd_tbl := ⟨⟨in_gd (i := 413) (by decide +kernel) rfl, in_gd (i := 414) (by decide +kernel) rfl⟩, in_gd (i := 36) (by decide +kernel) rfl, in_gd (i := 415) (by decide +kernel) rfl⟩
theorem yo_X1_sure : yOk yX1_sure 1 := ⟨by decide, by decide, by decide +kernel⟩
theorem l_L_145 : mlV RL 145 yX1_sure cX1_sure 7 (some .int) := ⟨in_gd (i := 412) (by decide +kernel) rfl, mt_X1_sure⟩
theorem mt_X1_fair : (Cond.instanceMethod yX1_fair ∈ gd_tbl ∧ Cond.selects yX1_fair.cls yX1_fair yX1_fair ∈ gd_tbl) ∧ Cond.initialized yX1_fair.cls ∈ gd_tbl ∧ Cond.code yX1_fair cX1_fair 4 (some .int) ∈ gd_tbl := ⟨⟨in_gd (i := 449) (by decide +kernel) rfl, in_gd (i := 450) (by decide +kernel) rfl⟩, in_gd (i := 36) (by decide +kernel) rfl, in_gd (i := 451) (by decide +kernel) rfl⟩
theorem yo_X1_fair : yOk yX1_fair 1 := ⟨by decide, by decide, by decide +kernel⟩
theorem l_L_159 : mlV RL 159 yX1_fair cX1_fair 4 (some .int) := ⟨in_gd (i := 448) (by decide +kernel) rfl, mt_X1_fair⟩
theorem mt_X1_lower : (Cond.instanceMethod yX1_lower ∈ gd_tbl ∧ Cond.selects yX1_lower.cls yX1_lower yX1_lower ∈ gd_tbl) ∧ Cond.initialized yX1_lower.cls ∈ gd_tbl ∧ Cond.code yX1_lower cX1_lower 1 (some .long) ∈ gd_tbl := ⟨⟨in_gd (i := 472) (by decide +kernel) rfl, in_gd (i := 473) (by decide +kernel) rfl⟩, in_gd (i := 36) (by decide +kernel) rfl, in_gd (i := 474) (by decide +kernel) rfl⟩
theorem yo_X1_lower : yOk yX1_lower 0 := ⟨by decide, by decide, by decide +kernel⟩
theorem l_L_156 : mlV RL 156 yX1_lower cX1_lower 1 (some .long) := ⟨in_gd (i := 471) (by decide +kernel) rfl, mt_X1_lower⟩
theorem mt_X1_mid : (Cond.instanceMethod yX1_mid ∈ gd_tbl ∧ Cond.selects yX1_mid.cls yX1_mid yX1_mid ∈ gd_tbl) ∧ Cond.initialized yX1_mid.cls ∈ gd_tbl ∧ Cond.code yX1_mid cX1_mid 3 (some .int) ∈ gd_tbl := ⟨⟨in_gd (i := 437) (by decide +kernel) rfl, in_gd (i := 438) (by decide +kernel) rfl⟩, in_gd (i := 36) (by decide +kernel) rfl, in_gd (i := 439) (by decide +kernel) rfl⟩
theorem yo_X1_mid : yOk yX1_mid 2 := ⟨by decide, by decide, by decide +kernel⟩
theorem l_L_162 : mlV RL 162 yX1_mid cX1_mid 3 (some .int) := ⟨in_gd (i := 436) (by decide +kernel) rfl, mt_X1_mid⟩
theorem k_L_167 : Cond.constant RL 167 (Int32.ofInt 16777215) ∈ gd_tbl := in_gd (i := 572) (by decide +kernel) rfl
theorem mt_X1_lots : (Cond.instanceMethod yX1_lots ∈ gd_tbl ∧ Cond.selects yX1_lots.cls yX1_lots yX1_lots ∈ gd_tbl) ∧ Cond.initialized yX1_lots.cls ∈ gd_tbl ∧ Cond.code yX1_lots cX1_lots 6 (some .int) ∈ gd_tbl := ⟨⟨in_gd (i := 453) (by decide +kernel) rfl, in_gd (i := 454) (by decide +kernel) rfl⟩, in_gd (i := 36) (by decide +kernel) rfl, in_gd (i := 455) (by decide +kernel) rfl⟩
theorem yo_X1_lots : yOk yX1_lots 2 := ⟨by decide, by decide, by decide +kernel⟩
theorem l_L_168 : mlV RL 168 yX1_lots cX1_lots 6 (some .int) := ⟨in_gd (i := 452) (by decide +kernel) rfl, mt_X1_lots⟩
theorem k_L_165 : Cond.constantLong RL 165 (Int64.ofInt 9) ∈ gd_tbl := in_gd (i := 571) (by decide +kernel) rfl
theorem mt_X1_odds : (Cond.instanceMethod yX1_odds ∈ gd_tbl ∧ Cond.selects yX1_odds.cls yX1_odds yX1_odds ∈ gd_tbl) ∧ Cond.initialized yX1_odds.cls ∈ gd_tbl ∧ Cond.code yX1_odds cX1_odds 3 (some .int) ∈ gd_tbl := ⟨⟨in_gd (i := 425) (by decide +kernel) rfl, in_gd (i := 426) (by decide +kernel) rfl⟩, in_gd (i := 36) (by decide +kernel) rfl, in_gd (i := 427) (by decide +kernel) rfl⟩
theorem yo_X1_odds : yOk yX1_odds 2 := ⟨by decide, by decide, by decide +kernel⟩
theorem l_L_153 : mlV RL 153 yX1_odds cX1_odds 3 (some .int) := ⟨in_gd (i := 424) (by decide +kernel) rfl, mt_X1_odds⟩
theorem k_L_151 : Cond.constantLong RL 151 (Int64.ofInt 12) ∈ gd_tbl := in_gd (i := 570) (by decide +kernel) rfl
theorem mt_X1_duel : (Cond.instanceMethod yX1_duel ∈ gd_tbl ∧ Cond.selects yX1_duel.cls yX1_duel yX1_duel ∈ gd_tbl) ∧ Cond.initialized yX1_duel.cls ∈ gd_tbl ∧ Cond.code yX1_duel cX1_duel 4 (some .int) ∈ gd_tbl := ⟨⟨in_gd (i := 417) (by decide +kernel) rfl, in_gd (i := 418) (by decide +kernel) rfl⟩, in_gd (i := 36) (by decide +kernel) rfl, in_gd (i := 419) (by decide +kernel) rfl⟩
theorem yo_X1_duel : yOk yX1_duel 3 := ⟨by decide, by decide, by decide +kernel⟩
theorem l_L_148 : mlV RL 148 yX1_duel cX1_duel 4 (some .int) := ⟨in_gd (i := 416) (by decide +kernel) rfl, mt_X1_duel⟩
theorem mt_X1_lay : (Cond.instanceMethod yX1_lay ∈ gd_tbl ∧ Cond.selects yX1_lay.cls yX1_lay yX1_lay ∈ gd_tbl) ∧ Cond.initialized yX1_lay.cls ∈ gd_tbl ∧ Cond.code yX1_lay cX1_lay 6 (some .int) ∈ gd_tbl := ⟨⟨in_gd (i := 170) (by decide +kernel) rfl, in_gd (i := 171) (by decide +kernel) rfl⟩, in_gd (i := 36) (by decide +kernel) rfl, in_gd (i := 172) (by decide +kernel) rfl⟩
theorem yo_X1_lay : yOk yX1_lay 3 := ⟨by decide, by decide, by decide +kernel⟩
theorem l_L_124 : mlV RL 124 yX1_lay cX1_lay 6 (some .int) := ⟨in_gd (i := 169) (by decide +kernel) rfl, mt_X1_lay⟩
theorem mt_X1_at : (Cond.instanceMethod yX1_at ∈ gd_tbl ∧ Cond.selects yX1_at.cls yX1_at yX1_at ∈ gd_tbl) ∧ Cond.initialized yX1_at.cls ∈ gd_tbl ∧ Cond.code yX1_at cX1_at 4 (some .int) ∈ gd_tbl := ⟨⟨in_gd (i := 182) (by decide +kernel) rfl, in_gd (i := 183) (by decide +kernel) rfl⟩, in_gd (i := 36) (by decide +kernel) rfl, in_gd (i := 184) (by decide +kernel) rfl⟩
theorem yo_X1_at : yOk yX1_at 2 := ⟨by decide, by decide, by decide +kernel⟩
theorem l_L_118 : mlV RL 118 yX1_at cX1_at 4 (some .int) := ⟨in_gd (i := 181) (by decide +kernel) rfl, mt_X1_at⟩
theorem mt_L_told : Cond.static yL_told ∈ gd_tbl ∧ Cond.initialized yL_told.cls ∈ gd_tbl ∧ Cond.code yL_told cL_told 3 (some .int) ∈ gd_tbl := ⟨in_gd (i := 564) (by decide +kernel) rfl, in_gd (i := 35) (by decide +kernel) rfl, in_gd (i := 565) (by decide +kernel) rfl⟩
theorem yo_L_told : yOk yL_told 3 := ⟨by decide, by decide, by decide +kernel⟩
theorem l_L_95 : mlS RL 95 yL_told cL_told 3 (some .int) := ⟨in_gd (i := 563) (by decide +kernel) rfl, mt_L_told⟩
theorem mt_X1_dares : (Cond.instanceMethod yX1_dares ∈ gd_tbl ∧ Cond.selects yX1_dares.cls yX1_dares yX1_dares ∈ gd_tbl) ∧ Cond.initialized yX1_dares.cls ∈ gd_tbl ∧ Cond.code yX1_dares cX1_dares 5 (some .int) ∈ gd_tbl := ⟨⟨in_gd (i := 323) (by decide +kernel) rfl, in_gd (i := 324) (by decide +kernel) rfl⟩, in_gd (i := 36) (by decide +kernel) rfl, in_gd (i := 325) (by decide +kernel) rfl⟩
theorem yo_X1_dares : yOk yX1_dares 4 := ⟨by decide, by decide, by decide +kernel⟩
theorem l_L_99 : mlV RL 99 yX1_dares cX1_dares 5 (some .int) := ⟨in_gd (i := 322) (by decide +kernel) rfl, mt_X1_dares⟩
