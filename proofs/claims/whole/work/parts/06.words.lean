theorem uw_of (ws : List Cond) (ps : List Nat) (hp : ws = ps.filterMap (fun i => lw_tbl[i]?)) (h : ws.all goodWord = true) : ∀ w ∈ ws, w ∈ gw := by
  intro w hw
  have h1 := List.all_eq_true.mp h w hw
  rw [hp] at hw
  obtain ⟨i, -, hi⟩ := List.mem_filterMap.mp hw
  exact gw_in (List.mem_of_getElem? hi) h1
theorem uw_X0 : ∀ w ∈ u_ws RX0 TX0 3, w ∈ gw := uw_of _ [95, 97, 99] (by decide +kernel) (by decide +kernel)
theorem uw_X1 : ∀ w ∈ u_ws RX1 TX1 9, w ∈ gw := uw_of _ [142, 144, 146, 148, 150, 152, 154, 156, 158] (by decide +kernel) (by decide +kernel)
theorem uw_X2 : ∀ w ∈ u_ws RX2 TX2 9, w ∈ gw := uw_of _ [65, 67, 69, 71, 73, 75, 77, 79, 81] (by decide +kernel) (by decide +kernel)
theorem uw_X3 : ∀ w ∈ u_ws RX3 TX3 6, w ∈ gw := uw_of _ [173, 175, 177, 179, 181, 183] (by decide +kernel) (by decide +kernel)
theorem uw_X4 : ∀ w ∈ u_ws RX4 TX4 6, w ∈ gw := uw_of _ [114, 116, 118, 120, 122, 124] (by decide +kernel) (by decide +kernel)
theorem uw_X5 : ∀ w ∈ u_ws RX5 TX5 6, w ∈ gw := uw_of _ [192, 194, 196, 198, 200, 202] (by decide +kernel) (by decide +kernel)
theorem uw_X6 : ∀ w ∈ u_ws RX6 TX6 26, w ∈ gw := uw_of _ [607, 609, 611, 613, 615, 617, 619, 621, 623, 625, 627, 629, 631, 633, 635, 637, 639, 641, 643, 645, 647, 649, 651, 653, 655, 657] (by decide +kernel) (by decide +kernel)
theorem fl_X0_9 : Cond.fieldLink RX0 9 (TX0 0).1 (TX0 0).2.1 (TX0 0).2.2.1 ∈ lw_tbl := List.mem_of_getElem? (i := 92) (by decide +kernel)
theorem fl_X0_15 : Cond.fieldLink RX0 15 (TX0 1).1 (TX0 1).2.1 (TX0 1).2.2.1 ∈ lw_tbl := List.mem_of_getElem? (i := 93) (by decide +kernel)
theorem fl_X0_18 : Cond.fieldLink RX0 18 (TX0 2).1 (TX0 2).2.1 (TX0 2).2.2.1 ∈ lw_tbl := List.mem_of_getElem? (i := 94) (by decide +kernel)
theorem fl_X1_9 : Cond.fieldLink RX1 9 (TX1 3).1 (TX1 3).2.1 (TX1 3).2.2.1 ∈ lw_tbl := List.mem_of_getElem? (i := 136) (by decide +kernel)
theorem fl_X1_15 : Cond.fieldLink RX1 15 (TX1 4).1 (TX1 4).2.1 (TX1 4).2.2.1 ∈ lw_tbl := List.mem_of_getElem? (i := 137) (by decide +kernel)
theorem fl_X1_18 : Cond.fieldLink RX1 18 (TX1 5).1 (TX1 5).2.1 (TX1 5).2.2.1 ∈ lw_tbl := List.mem_of_getElem? (i := 138) (by decide +kernel)
theorem fl_X1_22 : Cond.fieldLink RX1 22 (TX1 6).1 (TX1 6).2.1 (TX1 6).2.2.1 ∈ lw_tbl := List.mem_of_getElem? (i := 139) (by decide +kernel)
theorem fl_X1_25 : Cond.fieldLink RX1 25 (TX1 7).1 (TX1 7).2.1 (TX1 7).2.2.1 ∈ lw_tbl := List.mem_of_getElem? (i := 140) (by decide +kernel)
theorem fl_X1_29 : Cond.fieldLink RX1 29 (TX1 8).1 (TX1 8).2.1 (TX1 8).2.2.1 ∈ lw_tbl := List.mem_of_getElem? (i := 141) (by decide +kernel)
theorem fl_X1_32 : Cond.fieldLink RX1 32 (TX1 0).1 (TX1 0).2.1 (TX1 0).2.2.1 ∈ lw_tbl := List.mem_of_getElem? (i := 133) (by decide +kernel)
theorem fl_X1_36 : Cond.fieldLink RX1 36 (TX1 1).1 (TX1 1).2.1 (TX1 1).2.2.1 ∈ lw_tbl := List.mem_of_getElem? (i := 134) (by decide +kernel)
theorem fl_X1_40 : Cond.fieldLink RX1 40 (TX1 2).1 (TX1 2).2.1 (TX1 2).2.2.1 ∈ lw_tbl := List.mem_of_getElem? (i := 135) (by decide +kernel)
theorem fl_X2_9 : Cond.fieldLink RX2 9 (TX2 0).1 (TX2 0).2.1 (TX2 0).2.2.1 ∈ lw_tbl := List.mem_of_getElem? (i := 56) (by decide +kernel)
theorem fl_X2_15 : Cond.fieldLink RX2 15 (TX2 1).1 (TX2 1).2.1 (TX2 1).2.2.1 ∈ lw_tbl := List.mem_of_getElem? (i := 57) (by decide +kernel)
theorem fl_X2_18 : Cond.fieldLink RX2 18 (TX2 2).1 (TX2 2).2.1 (TX2 2).2.2.1 ∈ lw_tbl := List.mem_of_getElem? (i := 58) (by decide +kernel)
theorem fl_X2_21 : Cond.fieldLink RX2 21 (TX2 3).1 (TX2 3).2.1 (TX2 3).2.2.1 ∈ lw_tbl := List.mem_of_getElem? (i := 59) (by decide +kernel)
theorem fl_X2_24 : Cond.fieldLink RX2 24 (TX2 4).1 (TX2 4).2.1 (TX2 4).2.2.1 ∈ lw_tbl := List.mem_of_getElem? (i := 60) (by decide +kernel)
theorem fl_X2_27 : Cond.fieldLink RX2 27 (TX2 5).1 (TX2 5).2.1 (TX2 5).2.2.1 ∈ lw_tbl := List.mem_of_getElem? (i := 61) (by decide +kernel)
theorem fl_X2_30 : Cond.fieldLink RX2 30 (TX2 6).1 (TX2 6).2.1 (TX2 6).2.2.1 ∈ lw_tbl := List.mem_of_getElem? (i := 62) (by decide +kernel)
theorem fl_X2_34 : Cond.fieldLink RX2 34 (TX2 7).1 (TX2 7).2.1 (TX2 7).2.2.1 ∈ lw_tbl := List.mem_of_getElem? (i := 63) (by decide +kernel)
theorem fl_X2_38 : Cond.fieldLink RX2 38 (TX2 8).1 (TX2 8).2.1 (TX2 8).2.2.1 ∈ lw_tbl := List.mem_of_getElem? (i := 64) (by decide +kernel)
theorem fl_X3_9 : Cond.fieldLink RX3 9 (TX3 2).1 (TX3 2).2.1 (TX3 2).2.2.1 ∈ lw_tbl := List.mem_of_getElem? (i := 169) (by decide +kernel)
theorem fl_X3_15 : Cond.fieldLink RX3 15 (TX3 3).1 (TX3 3).2.1 (TX3 3).2.2.1 ∈ lw_tbl := List.mem_of_getElem? (i := 170) (by decide +kernel)
theorem fl_X3_18 : Cond.fieldLink RX3 18 (TX3 4).1 (TX3 4).2.1 (TX3 4).2.2.1 ∈ lw_tbl := List.mem_of_getElem? (i := 171) (by decide +kernel)
theorem fl_X3_22 : Cond.fieldLink RX3 22 (TX3 5).1 (TX3 5).2.1 (TX3 5).2.2.1 ∈ lw_tbl := List.mem_of_getElem? (i := 172) (by decide +kernel)
theorem fl_X3_25 : Cond.fieldLink RX3 25 (TX3 0).1 (TX3 0).2.1 (TX3 0).2.2.1 ∈ lw_tbl := List.mem_of_getElem? (i := 167) (by decide +kernel)
theorem fl_X3_29 : Cond.fieldLink RX3 29 (TX3 1).1 (TX3 1).2.1 (TX3 1).2.2.1 ∈ lw_tbl := List.mem_of_getElem? (i := 168) (by decide +kernel)
theorem fl_X4_9 : Cond.fieldLink RX4 9 (TX4 0).1 (TX4 0).2.1 (TX4 0).2.2.1 ∈ lw_tbl := List.mem_of_getElem? (i := 108) (by decide +kernel)
theorem fl_X4_15 : Cond.fieldLink RX4 15 (TX4 1).1 (TX4 1).2.1 (TX4 1).2.2.1 ∈ lw_tbl := List.mem_of_getElem? (i := 109) (by decide +kernel)
theorem fl_X4_18 : Cond.fieldLink RX4 18 (TX4 2).1 (TX4 2).2.1 (TX4 2).2.2.1 ∈ lw_tbl := List.mem_of_getElem? (i := 110) (by decide +kernel)
theorem fl_X4_21 : Cond.fieldLink RX4 21 (TX4 3).1 (TX4 3).2.1 (TX4 3).2.2.1 ∈ lw_tbl := List.mem_of_getElem? (i := 111) (by decide +kernel)
theorem fl_X4_24 : Cond.fieldLink RX4 24 (TX4 4).1 (TX4 4).2.1 (TX4 4).2.2.1 ∈ lw_tbl := List.mem_of_getElem? (i := 112) (by decide +kernel)
theorem fl_X4_28 : Cond.fieldLink RX4 28 (TX4 5).1 (TX4 5).2.1 (TX4 5).2.2.1 ∈ lw_tbl := List.mem_of_getElem? (i := 113) (by decide +kernel)
theorem fl_X5_10 : Cond.fieldLink RX5 10 (TX5 0).1 (TX5 0).2.1 (TX5 0).2.2.1 ∈ lw_tbl := List.mem_of_getElem? (i := 186) (by decide +kernel)
theorem fl_X5_19 : Cond.fieldLink RX5 19 (TX5 1).1 (TX5 1).2.1 (TX5 1).2.2.1 ∈ lw_tbl := List.mem_of_getElem? (i := 187) (by decide +kernel)
theorem fl_X5_26 : Cond.fieldLink RX5 26 (TX5 2).1 (TX5 2).2.1 (TX5 2).2.2.1 ∈ lw_tbl := List.mem_of_getElem? (i := 188) (by decide +kernel)
theorem fl_X5_35 : Cond.fieldLink RX5 35 (TX5 3).1 (TX5 3).2.1 (TX5 3).2.2.1 ∈ lw_tbl := List.mem_of_getElem? (i := 189) (by decide +kernel)
theorem fl_X5_44 : Cond.fieldLink RX5 44 (TX5 4).1 (TX5 4).2.1 (TX5 4).2.2.1 ∈ lw_tbl := List.mem_of_getElem? (i := 190) (by decide +kernel)
theorem fl_X5_48 : Cond.fieldLink RX5 48 (TX5 5).1 (TX5 5).2.1 (TX5 5).2.2.1 ∈ lw_tbl := List.mem_of_getElem? (i := 191) (by decide +kernel)
theorem fl_X6_7 : Cond.fieldLink RX6 7 (TX6 1).1 (TX6 1).2.1 (TX6 1).2.2.1 ∈ lw_tbl := List.mem_of_getElem? (i := 582) (by decide +kernel)
theorem fl_X6_13 : Cond.fieldLink RX6 13 (TX6 2).1 (TX6 2).2.1 (TX6 2).2.2.1 ∈ lw_tbl := List.mem_of_getElem? (i := 583) (by decide +kernel)
theorem fl_X6_16 : Cond.fieldLink RX6 16 (TX6 3).1 (TX6 3).2.1 (TX6 3).2.2.1 ∈ lw_tbl := List.mem_of_getElem? (i := 584) (by decide +kernel)
theorem fl_X6_19 : Cond.fieldLink RX6 19 (TX6 4).1 (TX6 4).2.1 (TX6 4).2.2.1 ∈ lw_tbl := List.mem_of_getElem? (i := 585) (by decide +kernel)
theorem fl_X6_22 : Cond.fieldLink RX6 22 (TX6 5).1 (TX6 5).2.1 (TX6 5).2.2.1 ∈ lw_tbl := List.mem_of_getElem? (i := 586) (by decide +kernel)
theorem fl_X6_25 : Cond.fieldLink RX6 25 (TX6 6).1 (TX6 6).2.1 (TX6 6).2.2.1 ∈ lw_tbl := List.mem_of_getElem? (i := 587) (by decide +kernel)
theorem fl_X6_28 : Cond.fieldLink RX6 28 (TX6 7).1 (TX6 7).2.1 (TX6 7).2.2.1 ∈ lw_tbl := List.mem_of_getElem? (i := 588) (by decide +kernel)
theorem fl_X6_31 : Cond.fieldLink RX6 31 (TX6 8).1 (TX6 8).2.1 (TX6 8).2.2.1 ∈ lw_tbl := List.mem_of_getElem? (i := 589) (by decide +kernel)
theorem fl_X6_34 : Cond.fieldLink RX6 34 (TX6 10).1 (TX6 10).2.1 (TX6 10).2.2.1 ∈ lw_tbl := List.mem_of_getElem? (i := 591) (by decide +kernel)
theorem fl_X6_37 : Cond.fieldLink RX6 37 (TX6 11).1 (TX6 11).2.1 (TX6 11).2.2.1 ∈ lw_tbl := List.mem_of_getElem? (i := 592) (by decide +kernel)
theorem fl_X6_40 : Cond.fieldLink RX6 40 (TX6 12).1 (TX6 12).2.1 (TX6 12).2.2.1 ∈ lw_tbl := List.mem_of_getElem? (i := 593) (by decide +kernel)
theorem fl_X6_43 : Cond.fieldLink RX6 43 (TX6 14).1 (TX6 14).2.1 (TX6 14).2.2.1 ∈ lw_tbl := List.mem_of_getElem? (i := 595) (by decide +kernel)
theorem fl_X6_46 : Cond.fieldLink RX6 46 (TX6 15).1 (TX6 15).2.1 (TX6 15).2.2.1 ∈ lw_tbl := List.mem_of_getElem? (i := 596) (by decide +kernel)
theorem fl_X6_49 : Cond.fieldLink RX6 49 (TX6 17).1 (TX6 17).2.1 (TX6 17).2.2.1 ∈ lw_tbl := List.mem_of_getElem? (i := 598) (by decide +kernel)
theorem fl_X6_52 : Cond.fieldLink RX6 52 (TX6 18).1 (TX6 18).2.1 (TX6 18).2.2.1 ∈ lw_tbl := List.mem_of_getElem? (i := 599) (by decide +kernel)
theorem fl_X6_55 : Cond.fieldLink RX6 55 (TX6 19).1 (TX6 19).2.1 (TX6 19).2.2.1 ∈ lw_tbl := List.mem_of_getElem? (i := 600) (by decide +kernel)
theorem fl_X6_58 : Cond.fieldLink RX6 58 (TX6 20).1 (TX6 20).2.1 (TX6 20).2.2.1 ∈ lw_tbl := List.mem_of_getElem? (i := 601) (by decide +kernel)
theorem fl_X6_61 : Cond.fieldLink RX6 61 (TX6 21).1 (TX6 21).2.1 (TX6 21).2.2.1 ∈ lw_tbl := List.mem_of_getElem? (i := 602) (by decide +kernel)
theorem fl_X6_65 : Cond.fieldLink RX6 65 (TX6 23).1 (TX6 23).2.1 (TX6 23).2.2.1 ∈ lw_tbl := List.mem_of_getElem? (i := 604) (by decide +kernel)
theorem fl_X6_68 : Cond.fieldLink RX6 68 (TX6 24).1 (TX6 24).2.1 (TX6 24).2.2.1 ∈ lw_tbl := List.mem_of_getElem? (i := 605) (by decide +kernel)
theorem fl_X6_71 : Cond.fieldLink RX6 71 (TX6 25).1 (TX6 25).2.1 (TX6 25).2.2.1 ∈ lw_tbl := List.mem_of_getElem? (i := 606) (by decide +kernel)
theorem fl_X6_74 : Cond.fieldLink RX6 74 (TX6 0).1 (TX6 0).2.1 (TX6 0).2.2.1 ∈ lw_tbl := List.mem_of_getElem? (i := 581) (by decide +kernel)
theorem fl_X6_82 : Cond.fieldLink RX6 82 (TX6 16).1 (TX6 16).2.1 (TX6 16).2.2.1 ∈ lw_tbl := List.mem_of_getElem? (i := 597) (by decide +kernel)
theorem fl_X6_100 : Cond.fieldLink RX6 100 (TX6 9).1 (TX6 9).2.1 (TX6 9).2.2.1 ∈ lw_tbl := List.mem_of_getElem? (i := 590) (by decide +kernel)
theorem fl_X6_110 : Cond.fieldLink RX6 110 (TX6 13).1 (TX6 13).2.1 (TX6 13).2.2.1 ∈ lw_tbl := List.mem_of_getElem? (i := 594) (by decide +kernel)
theorem fl_X6_138 : Cond.fieldLink RX6 138 (TX6 22).1 (TX6 22).2.1 (TX6 22).2.2.1 ∈ lw_tbl := List.mem_of_getElem? (i := 603) (by decide +kernel)
theorem kc_X0_init : Cond.code yX0_init cX0_init 1 none ∈ lw_tbl ∧ Cond.instanceMethod yX0_init ∈ lw_tbl ∧ Cond.initialized yX0_init.cls ∈ lw_tbl := ⟨List.mem_of_getElem? (i := 90) (by decide +kernel), List.mem_of_getElem? (i := 89) (by decide +kernel), List.mem_of_getElem? (i := 33) (by decide +kernel)⟩
theorem kc_X0_size : CalV yX0_size cX0_size 1 (some .int) 0 := ⟨List.mem_of_getElem? (i := 411) (by decide +kernel), List.mem_of_getElem? (i := 409) (by decide +kernel), List.mem_of_getElem? (i := 410) (by decide +kernel), List.mem_of_getElem? (i := 33) (by decide +kernel), ⟨by decide +kernel, by decide +kernel, by decide +kernel⟩⟩
theorem kc_X0_add : CalV yX0_add cX0_add 3 (some .int) 2 := ⟨List.mem_of_getElem? (i := 295) (by decide +kernel), List.mem_of_getElem? (i := 293) (by decide +kernel), List.mem_of_getElem? (i := 294) (by decide +kernel), List.mem_of_getElem? (i := 33) (by decide +kernel), ⟨by decide +kernel, by decide +kernel, by decide +kernel⟩⟩
theorem kc_X0_shareOf : CalV yX0_shareOf cX0_shareOf 2 (some .int) 1 := ⟨List.mem_of_getElem? (i := 420) (by decide +kernel), List.mem_of_getElem? (i := 418) (by decide +kernel), List.mem_of_getElem? (i := 419) (by decide +kernel), List.mem_of_getElem? (i := 33) (by decide +kernel), ⟨by decide +kernel, by decide +kernel, by decide +kernel⟩⟩
theorem kc_X0_struckBy : CalV yX0_struckBy cX0_struckBy 2 (some .int) 1 := ⟨List.mem_of_getElem? (i := 415) (by decide +kernel), List.mem_of_getElem? (i := 413) (by decide +kernel), List.mem_of_getElem? (i := 414) (by decide +kernel), List.mem_of_getElem? (i := 33) (by decide +kernel), ⟨by decide +kernel, by decide +kernel, by decide +kernel⟩⟩
theorem kc_X0_striking : CalV yX0_striking cX0_striking 4 (some .int) 1 := ⟨List.mem_of_getElem? (i := 375) (by decide +kernel), List.mem_of_getElem? (i := 373) (by decide +kernel), List.mem_of_getElem? (i := 374) (by decide +kernel), List.mem_of_getElem? (i := 33) (by decide +kernel), ⟨by decide +kernel, by decide +kernel, by decide +kernel⟩⟩
theorem kc_X1_init : Cond.code yX1_init cX1_init 4 none ∈ lw_tbl ∧ Cond.instanceMethod yX1_init ∈ lw_tbl ∧ Cond.initialized yX1_init.cls ∈ lw_tbl := ⟨List.mem_of_getElem? (i := 131) (by decide +kernel), List.mem_of_getElem? (i := 130) (by decide +kernel), List.mem_of_getElem? (i := 35) (by decide +kernel)⟩
theorem kc_X1_groupsOf : CalV yX1_groupsOf cX1_groupsOf 2 (some .int) 1 := ⟨List.mem_of_getElem? (i := 370) (by decide +kernel), List.mem_of_getElem? (i := 368) (by decide +kernel), List.mem_of_getElem? (i := 369) (by decide +kernel), List.mem_of_getElem? (i := 35) (by decide +kernel), ⟨by decide +kernel, by decide +kernel, by decide +kernel⟩⟩
theorem kc_X1_eventsOf : CalV yX1_eventsOf cX1_eventsOf 2 (some .int) 1 := ⟨List.mem_of_getElem? (i := 379) (by decide +kernel), List.mem_of_getElem? (i := 377) (by decide +kernel), List.mem_of_getElem? (i := 378) (by decide +kernel), List.mem_of_getElem? (i := 35) (by decide +kernel), ⟨by decide +kernel, by decide +kernel, by decide +kernel⟩⟩
theorem kc_X1_hasTooManyEvents : CalV yX1_hasTooManyEvents cX1_hasTooManyEvents 2 (some .boolean) 1 := ⟨List.mem_of_getElem? (i := 395) (by decide +kernel), List.mem_of_getElem? (i := 393) (by decide +kernel), List.mem_of_getElem? (i := 394) (by decide +kernel), List.mem_of_getElem? (i := 35) (by decide +kernel), ⟨by decide +kernel, by decide +kernel, by decide +kernel⟩⟩
theorem kc_X1_startFailing : CalV yX1_startFailing cX1_startFailing 5 none 1 := ⟨List.mem_of_getElem? (i := 401) (by decide +kernel), List.mem_of_getElem? (i := 399) (by decide +kernel), List.mem_of_getElem? (i := 400) (by decide +kernel), List.mem_of_getElem? (i := 35) (by decide +kernel), ⟨by decide +kernel, by decide +kernel, by decide +kernel⟩⟩
theorem kc_X1_onDay : CalV yX1_onDay cX1_onDay 2 (some .long) 1 := ⟨List.mem_of_getElem? (i := 429) (by decide +kernel), List.mem_of_getElem? (i := 427) (by decide +kernel), List.mem_of_getElem? (i := 428) (by decide +kernel), List.mem_of_getElem? (i := 35) (by decide +kernel), ⟨by decide +kernel, by decide +kernel, by decide +kernel⟩⟩
theorem kc_X1_forNothing : CalV yX1_forNothing cX1_forNothing 4 (some .long) 1 := ⟨List.mem_of_getElem? (i := 462) (by decide +kernel), List.mem_of_getElem? (i := 460) (by decide +kernel), List.mem_of_getElem? (i := 461) (by decide +kernel), List.mem_of_getElem? (i := 35) (by decide +kernel), ⟨by decide +kernel, by decide +kernel, by decide +kernel⟩⟩
theorem kc_X1_weightOf : CalV yX1_weightOf cX1_weightOf 4 (some .long) 2 := ⟨List.mem_of_getElem? (i := 474) (by decide +kernel), List.mem_of_getElem? (i := 472) (by decide +kernel), List.mem_of_getElem? (i := 473) (by decide +kernel), List.mem_of_getElem? (i := 35) (by decide +kernel), ⟨by decide +kernel, by decide +kernel, by decide +kernel⟩⟩
theorem kc_X1_weightiestPart : CalV yX1_weightiestPart cX1_weightiestPart 8 (some .int) 1 := ⟨List.mem_of_getElem? (i := 486) (by decide +kernel), List.mem_of_getElem? (i := 484) (by decide +kernel), List.mem_of_getElem? (i := 485) (by decide +kernel), List.mem_of_getElem? (i := 35) (by decide +kernel), ⟨by decide +kernel, by decide +kernel, by decide +kernel⟩⟩
theorem kc_X1_memberCount : CalV yX1_memberCount cX1_memberCount 1 (some .int) 0 := ⟨List.mem_of_getElem? (i := 515) (by decide +kernel), List.mem_of_getElem? (i := 513) (by decide +kernel), List.mem_of_getElem? (i := 514) (by decide +kernel), List.mem_of_getElem? (i := 35) (by decide +kernel), ⟨by decide +kernel, by decide +kernel, by decide +kernel⟩⟩
theorem kc_X1_memberAt : CalV yX1_memberAt cX1_memberAt 2 (some .int) 1 := ⟨List.mem_of_getElem? (i := 527) (by decide +kernel), List.mem_of_getElem? (i := 525) (by decide +kernel), List.mem_of_getElem? (i := 526) (by decide +kernel), List.mem_of_getElem? (i := 35) (by decide +kernel), ⟨by decide +kernel, by decide +kernel, by decide +kernel⟩⟩
theorem kc_X1_setShare : CalV yX1_setShare cX1_setShare 3 none 2 := ⟨List.mem_of_getElem? (i := 540) (by decide +kernel), List.mem_of_getElem? (i := 538) (by decide +kernel), List.mem_of_getElem? (i := 539) (by decide +kernel), List.mem_of_getElem? (i := 35) (by decide +kernel), ⟨by decide +kernel, by decide +kernel, by decide +kernel⟩⟩
theorem kc_X1_sum : CalV yX1_sum cX1_sum 6 (some .long) 0 := ⟨List.mem_of_getElem? (i := 438) (by decide +kernel), List.mem_of_getElem? (i := 436) (by decide +kernel), List.mem_of_getElem? (i := 437) (by decide +kernel), List.mem_of_getElem? (i := 35) (by decide +kernel), ⟨by decide +kernel, by decide +kernel, by decide +kernel⟩⟩
theorem kc_X1_takeMembers : CalV yX1_takeMembers cX1_takeMembers 3 none 1 := ⟨List.mem_of_getElem? (i := 405) (by decide +kernel), List.mem_of_getElem? (i := 404) (by decide +kernel), List.mem_of_getElem? (i := 6) (by decide +kernel), List.mem_of_getElem? (i := 35) (by decide +kernel), ⟨by decide +kernel, by decide +kernel, by decide +kernel⟩⟩
theorem kc_X1_workIn : CalV yX1_workIn cX1_workIn 6 none 2 := ⟨List.mem_of_getElem? (i := 424) (by decide +kernel), List.mem_of_getElem? (i := 423) (by decide +kernel), List.mem_of_getElem? (i := 7) (by decide +kernel), List.mem_of_getElem? (i := 35) (by decide +kernel), ⟨by decide +kernel, by decide +kernel, by decide +kernel⟩⟩
theorem kc_X1_takeSharesOn : CalV yX1_takeSharesOn cX1_takeSharesOn 3 none 1 := ⟨List.mem_of_getElem? (i := 433) (by decide +kernel), List.mem_of_getElem? (i := 432) (by decide +kernel), List.mem_of_getElem? (i := 8) (by decide +kernel), List.mem_of_getElem? (i := 35) (by decide +kernel), ⟨by decide +kernel, by decide +kernel, by decide +kernel⟩⟩
theorem kc_X1_weightAt : CalV yX1_weightAt cX1_weightAt 7 (some .long) 1 := ⟨List.mem_of_getElem? (i := 478) (by decide +kernel), List.mem_of_getElem? (i := 477) (by decide +kernel), List.mem_of_getElem? (i := 9) (by decide +kernel), List.mem_of_getElem? (i := 35) (by decide +kernel), ⟨by decide +kernel, by decide +kernel, by decide +kernel⟩⟩
theorem kc_X2_init : Cond.code yX2_init cX2_init 1 none ∈ lw_tbl ∧ Cond.instanceMethod yX2_init ∈ lw_tbl ∧ Cond.initialized yX2_init.cls ∈ lw_tbl := ⟨List.mem_of_getElem? (i := 54) (by decide +kernel), List.mem_of_getElem? (i := 53) (by decide +kernel), List.mem_of_getElem? (i := 32) (by decide +kernel)⟩
theorem kc_X2_has : CalV yX2_has cX2_has 2 (some .boolean) 1 := ⟨List.mem_of_getElem? (i := 223) (by decide +kernel), List.mem_of_getElem? (i := 221) (by decide +kernel), List.mem_of_getElem? (i := 222) (by decide +kernel), List.mem_of_getElem? (i := 32) (by decide +kernel), ⟨by decide +kernel, by decide +kernel, by decide +kernel⟩⟩
theorem kc_X2_hasAll : CalV yX2_hasAll cX2_hasAll 2 (some .boolean) 1 := ⟨List.mem_of_getElem? (i := 285) (by decide +kernel), List.mem_of_getElem? (i := 283) (by decide +kernel), List.mem_of_getElem? (i := 284) (by decide +kernel), List.mem_of_getElem? (i := 32) (by decide +kernel), ⟨by decide +kernel, by decide +kernel, by decide +kernel⟩⟩
theorem kc_X2_size : CalV yX2_size cX2_size 1 (some .int) 0 := ⟨List.mem_of_getElem? (i := 561) (by decide +kernel), List.mem_of_getElem? (i := 559) (by decide +kernel), List.mem_of_getElem? (i := 560) (by decide +kernel), List.mem_of_getElem? (i := 32) (by decide +kernel), ⟨by decide +kernel, by decide +kernel, by decide +kernel⟩⟩
theorem kc_X2_add : CalV yX2_add cX2_add 4 (some .int) 3 := ⟨List.mem_of_getElem? (i := 215) (by decide +kernel), List.mem_of_getElem? (i := 213) (by decide +kernel), List.mem_of_getElem? (i := 214) (by decide +kernel), List.mem_of_getElem? (i := 32) (by decide +kernel), ⟨by decide +kernel, by decide +kernel, by decide +kernel⟩⟩
theorem kc_X2_addTest : CalV yX2_addTest cX2_addTest 4 (some .int) 2 := ⟨List.mem_of_getElem? (i := 230) (by decide +kernel), List.mem_of_getElem? (i := 228) (by decide +kernel), List.mem_of_getElem? (i := 229) (by decide +kernel), List.mem_of_getElem? (i := 32) (by decide +kernel), ⟨by decide +kernel, by decide +kernel, by decide +kernel⟩⟩
theorem kc_X2_dropTests : CalV yX2_dropTests cX2_dropTests 5 (some .int) 2 := ⟨List.mem_of_getElem? (i := 238) (by decide +kernel), List.mem_of_getElem? (i := 236) (by decide +kernel), List.mem_of_getElem? (i := 237) (by decide +kernel), List.mem_of_getElem? (i := 32) (by decide +kernel), ⟨by decide +kernel, by decide +kernel, by decide +kernel⟩⟩
theorem kc_X2_allTests : CalV yX2_allTests cX2_allTests 3 (some .int) 0 := ⟨List.mem_of_getElem? (i := 565) (by decide +kernel), List.mem_of_getElem? (i := 563) (by decide +kernel), List.mem_of_getElem? (i := 564) (by decide +kernel), List.mem_of_getElem? (i := 32) (by decide +kernel), ⟨by decide +kernel, by decide +kernel, by decide +kernel⟩⟩
theorem kc_X2_allBypasses : CalV yX2_allBypasses cX2_allBypasses 1 (some .int) 0 := ⟨List.mem_of_getElem? (i := 569) (by decide +kernel), List.mem_of_getElem? (i := 567) (by decide +kernel), List.mem_of_getElem? (i := 568) (by decide +kernel), List.mem_of_getElem? (i := 32) (by decide +kernel), ⟨by decide +kernel, by decide +kernel, by decide +kernel⟩⟩
theorem kc_X2_addBypass : CalV yX2_addBypass cX2_addBypass 5 (some .int) 3 := ⟨List.mem_of_getElem? (i := 253) (by decide +kernel), List.mem_of_getElem? (i := 251) (by decide +kernel), List.mem_of_getElem? (i := 252) (by decide +kernel), List.mem_of_getElem? (i := 32) (by decide +kernel), ⟨by decide +kernel, by decide +kernel, by decide +kernel⟩⟩
theorem kc_X2_bypassedDays : CalV yX2_bypassedDays cX2_bypassedDays 6 (some .int) 3 := ⟨List.mem_of_getElem? (i := 271) (by decide +kernel), List.mem_of_getElem? (i := 269) (by decide +kernel), List.mem_of_getElem? (i := 270) (by decide +kernel), List.mem_of_getElem? (i := 32) (by decide +kernel), ⟨by decide +kernel, by decide +kernel, by decide +kernel⟩⟩
theorem kc_X2_changeCost : CalV yX2_changeCost cX2_changeCost 4 (some .int) 2 := ⟨List.mem_of_getElem? (i := 494) (by decide +kernel), List.mem_of_getElem? (i := 492) (by decide +kernel), List.mem_of_getElem? (i := 493) (by decide +kernel), List.mem_of_getElem? (i := 32) (by decide +kernel), ⟨by decide +kernel, by decide +kernel, by decide +kernel⟩⟩
theorem kc_X2_costOf : CalV yX2_costOf cX2_costOf 2 (some .int) 1 := ⟨List.mem_of_getElem? (i := 531) (by decide +kernel), List.mem_of_getElem? (i := 529) (by decide +kernel), List.mem_of_getElem? (i := 530) (by decide +kernel), List.mem_of_getElem? (i := 32) (by decide +kernel), ⟨by decide +kernel, by decide +kernel, by decide +kernel⟩⟩
theorem kc_X2_shareForNothing : CalV yX2_shareForNothing cX2_shareForNothing 2 (some .int) 1 := ⟨List.mem_of_getElem? (i := 466) (by decide +kernel), List.mem_of_getElem? (i := 464) (by decide +kernel), List.mem_of_getElem? (i := 465) (by decide +kernel), List.mem_of_getElem? (i := 32) (by decide +kernel), ⟨by decide +kernel, by decide +kernel, by decide +kernel⟩⟩
theorem kc_X2_shareOn : CalV yX2_shareOn cX2_shareOn 5 (some .int) 2 := ⟨List.mem_of_getElem? (i := 354) (by decide +kernel), List.mem_of_getElem? (i := 352) (by decide +kernel), List.mem_of_getElem? (i := 353) (by decide +kernel), List.mem_of_getElem? (i := 32) (by decide +kernel), ⟨by decide +kernel, by decide +kernel, by decide +kernel⟩⟩
theorem kc_X2_shareAfter : CalV yX2_shareAfter cX2_shareAfter 4 (some .int) 3 := ⟨List.mem_of_getElem? (i := 358) (by decide +kernel), List.mem_of_getElem? (i := 356) (by decide +kernel), List.mem_of_getElem? (i := 357) (by decide +kernel), List.mem_of_getElem? (i := 32) (by decide +kernel), ⟨by decide +kernel, by decide +kernel, by decide +kernel⟩⟩
theorem kc_X2_testsUpTo : CalV yX2_testsUpTo cX2_testsUpTo 5 (some .int) 2 := ⟨List.mem_of_getElem? (i := 242) (by decide +kernel), List.mem_of_getElem? (i := 241) (by decide +kernel), List.mem_of_getElem? (i := 0) (by decide +kernel), List.mem_of_getElem? (i := 32) (by decide +kernel), ⟨by decide +kernel, by decide +kernel, by decide +kernel⟩⟩
theorem kc_X2_daysInWord : CalS yX2_daysInWord cX2_daysInWord 5 (some .long) 3 := ⟨List.mem_of_getElem? (i := 256) (by decide +kernel), List.mem_of_getElem? (i := 255) (by decide +kernel), List.mem_of_getElem? (i := 32) (by decide +kernel), ⟨by decide +kernel, by decide +kernel, by decide +kernel⟩⟩
theorem kc_X3_init : Cond.code yX3_init cX3_init 3 none ∈ lw_tbl ∧ Cond.instanceMethod yX3_init ∈ lw_tbl ∧ Cond.initialized yX3_init.cls ∈ lw_tbl := ⟨List.mem_of_getElem? (i := 165) (by decide +kernel), List.mem_of_getElem? (i := 164) (by decide +kernel), List.mem_of_getElem? (i := 36) (by decide +kernel)⟩
theorem kc_X3_setIntervals : CalV yX3_setIntervals cX3_setIntervals 4 none 3 := ⟨List.mem_of_getElem? (i := 506) (by decide +kernel), List.mem_of_getElem? (i := 504) (by decide +kernel), List.mem_of_getElem? (i := 505) (by decide +kernel), List.mem_of_getElem? (i := 36) (by decide +kernel), ⟨by decide +kernel, by decide +kernel, by decide +kernel⟩⟩
theorem kc_X3_cheapestCost : CalV yX3_cheapestCost cX3_cheapestCost 1 (some .int) 0 := ⟨List.mem_of_getElem? (i := 549) (by decide +kernel), List.mem_of_getElem? (i := 547) (by decide +kernel), List.mem_of_getElem? (i := 548) (by decide +kernel), List.mem_of_getElem? (i := 36) (by decide +kernel), ⟨by decide +kernel, by decide +kernel, by decide +kernel⟩⟩
theorem kc_X3_cheapestChoices : CalV yX3_cheapestChoices cX3_cheapestChoices 1 (some .int) 0 := ⟨List.mem_of_getElem? (i := 553) (by decide +kernel), List.mem_of_getElem? (i := 551) (by decide +kernel), List.mem_of_getElem? (i := 552) (by decide +kernel), List.mem_of_getElem? (i := 36) (by decide +kernel), ⟨by decide +kernel, by decide +kernel, by decide +kernel⟩⟩
theorem kc_X3_findCheapest : CalV yX3_findCheapest cX3_findCheapest 8 (some .boolean) 2 := ⟨List.mem_of_getElem? (i := 510) (by decide +kernel), List.mem_of_getElem? (i := 508) (by decide +kernel), List.mem_of_getElem? (i := 509) (by decide +kernel), List.mem_of_getElem? (i := 36) (by decide +kernel), ⟨by decide +kernel, by decide +kernel, by decide +kernel⟩⟩
theorem kc_X3_takeChoices : CalV yX3_takeChoices cX3_takeChoices 4 none 1 := ⟨List.mem_of_getElem? (i := 519) (by decide +kernel), List.mem_of_getElem? (i := 518) (by decide +kernel), List.mem_of_getElem? (i := 10) (by decide +kernel), List.mem_of_getElem? (i := 36) (by decide +kernel), ⟨by decide +kernel, by decide +kernel, by decide +kernel⟩⟩
theorem kc_X3_toldChoices : CalV yX3_toldChoices cX3_toldChoices 3 (some .int) 0 := ⟨List.mem_of_getElem? (i := 545) (by decide +kernel), List.mem_of_getElem? (i := 544) (by decide +kernel), List.mem_of_getElem? (i := 13) (by decide +kernel), List.mem_of_getElem? (i := 36) (by decide +kernel), ⟨by decide +kernel, by decide +kernel, by decide +kernel⟩⟩
theorem kc_X3_costOfChoices : CalV yX3_costOfChoices cX3_costOfChoices 3 (some .int) 0 := ⟨List.mem_of_getElem? (i := 523) (by decide +kernel), List.mem_of_getElem? (i := 522) (by decide +kernel), List.mem_of_getElem? (i := 11) (by decide +kernel), List.mem_of_getElem? (i := 36) (by decide +kernel), ⟨by decide +kernel, by decide +kernel, by decide +kernel⟩⟩
theorem kc_X3_keepsLaw : CalV yX3_keepsLaw cX3_keepsLaw 8 (some .boolean) 1 := ⟨List.mem_of_getElem? (i := 535) (by decide +kernel), List.mem_of_getElem? (i := 534) (by decide +kernel), List.mem_of_getElem? (i := 12) (by decide +kernel), List.mem_of_getElem? (i := 36) (by decide +kernel), ⟨by decide +kernel, by decide +kernel, by decide +kernel⟩⟩
theorem kc_X4_init : Cond.code yX4_init cX4_init 1 none ∈ lw_tbl ∧ Cond.instanceMethod yX4_init ∈ lw_tbl ∧ Cond.initialized yX4_init.cls ∈ lw_tbl := ⟨List.mem_of_getElem? (i := 106) (by decide +kernel), List.mem_of_getElem? (i := 105) (by decide +kernel), List.mem_of_getElem? (i := 34) (by decide +kernel)⟩
theorem kc_X4_has : CalV yX4_has cX4_has 2 (some .boolean) 1 := ⟨List.mem_of_getElem? (i := 307) (by decide +kernel), List.mem_of_getElem? (i := 305) (by decide +kernel), List.mem_of_getElem? (i := 306) (by decide +kernel), List.mem_of_getElem? (i := 34) (by decide +kernel), ⟨by decide +kernel, by decide +kernel, by decide +kernel⟩⟩
theorem kc_X4_size : CalV yX4_size cX4_size 1 (some .int) 0 := ⟨List.mem_of_getElem? (i := 574) (by decide +kernel), List.mem_of_getElem? (i := 572) (by decide +kernel), List.mem_of_getElem? (i := 573) (by decide +kernel), List.mem_of_getElem? (i := 34) (by decide +kernel), ⟨by decide +kernel, by decide +kernel, by decide +kernel⟩⟩
theorem kc_X4_partsBelow : CalV yX4_partsBelow cX4_partsBelow 2 (some .int) 1 := ⟨List.mem_of_getElem? (i := 366) (by decide +kernel), List.mem_of_getElem? (i := 364) (by decide +kernel), List.mem_of_getElem? (i := 365) (by decide +kernel), List.mem_of_getElem? (i := 34) (by decide +kernel), ⟨by decide +kernel, by decide +kernel, by decide +kernel⟩⟩
theorem kc_X4_sizeBelow : CalV yX4_sizeBelow cX4_sizeBelow 2 (some .int) 1 := ⟨List.mem_of_getElem? (i := 319) (by decide +kernel), List.mem_of_getElem? (i := 317) (by decide +kernel), List.mem_of_getElem? (i := 318) (by decide +kernel), List.mem_of_getElem? (i := 34) (by decide +kernel), ⟨by decide +kernel, by decide +kernel, by decide +kernel⟩⟩
theorem kc_X4_add : CalV yX4_add cX4_add 6 (some .int) 3 := ⟨List.mem_of_getElem? (i := 311) (by decide +kernel), List.mem_of_getElem? (i := 309) (by decide +kernel), List.mem_of_getElem? (i := 310) (by decide +kernel), List.mem_of_getElem? (i := 34) (by decide +kernel), ⟨by decide +kernel, by decide +kernel, by decide +kernel⟩⟩
theorem kc_X4_actsIn : CalV yX4_actsIn cX4_actsIn 3 (some .boolean) 2 := ⟨List.mem_of_getElem? (i := 346) (by decide +kernel), List.mem_of_getElem? (i := 344) (by decide +kernel), List.mem_of_getElem? (i := 345) (by decide +kernel), List.mem_of_getElem? (i := 34) (by decide +kernel), ⟨by decide +kernel, by decide +kernel, by decide +kernel⟩⟩
theorem kc_X4_partsOfInput : CalV yX4_partsOfInput cX4_partsOfInput 2 (some .int) 1 := ⟨List.mem_of_getElem? (i := 315) (by decide +kernel), List.mem_of_getElem? (i := 314) (by decide +kernel), List.mem_of_getElem? (i := 2) (by decide +kernel), List.mem_of_getElem? (i := 34) (by decide +kernel), ⟨by decide +kernel, by decide +kernel, by decide +kernel⟩⟩
theorem kc_X4_workOutActingSets : CalV yX4_workOutActingSets cX4_workOutActingSets 4 none 1 := ⟨List.mem_of_getElem? (i := 324) (by decide +kernel), List.mem_of_getElem? (i := 323) (by decide +kernel), List.mem_of_getElem? (i := 3) (by decide +kernel), List.mem_of_getElem? (i := 34) (by decide +kernel), ⟨by decide +kernel, by decide +kernel, by decide +kernel⟩⟩
theorem kc_X4_actingInputs : CalV yX4_actingInputs cX4_actingInputs 5 (some .int) 2 := ⟨List.mem_of_getElem? (i := 334) (by decide +kernel), List.mem_of_getElem? (i := 333) (by decide +kernel), List.mem_of_getElem? (i := 4) (by decide +kernel), List.mem_of_getElem? (i := 34) (by decide +kernel), ⟨by decide +kernel, by decide +kernel, by decide +kernel⟩⟩
theorem kc_X4_inputActs : CalV yX4_inputActs cX4_inputActs 4 (some .boolean) 2 := ⟨List.mem_of_getElem? (i := 338) (by decide +kernel), List.mem_of_getElem? (i := 337) (by decide +kernel), List.mem_of_getElem? (i := 5) (by decide +kernel), List.mem_of_getElem? (i := 34) (by decide +kernel), ⟨by decide +kernel, by decide +kernel, by decide +kernel⟩⟩
theorem kc_X5_init : Cond.code yX5_init cX5_init 1 none ∈ lw_tbl ∧ Cond.instanceMethod yX5_init ∈ lw_tbl ∧ Cond.initialized yX5_init.cls ∈ lw_tbl := ⟨List.mem_of_getElem? (i := 46) (by decide +kernel), List.mem_of_getElem? (i := 45) (by decide +kernel), List.mem_of_getElem? (i := 31) (by decide +kernel)⟩
theorem kc_X5_part : CalV yX5_part cX5_part 4 (some .int) 3 := ⟨List.mem_of_getElem? (i := 208) (by decide +kernel), List.mem_of_getElem? (i := 206) (by decide +kernel), List.mem_of_getElem? (i := 207) (by decide +kernel), List.mem_of_getElem? (i := 31) (by decide +kernel), ⟨by decide +kernel, by decide +kernel, by decide +kernel⟩⟩
theorem kc_X5_test : CalV yX5_test cX5_test 3 (some .int) 2 := ⟨List.mem_of_getElem? (i := 219) (by decide +kernel), List.mem_of_getElem? (i := 217) (by decide +kernel), List.mem_of_getElem? (i := 218) (by decide +kernel), List.mem_of_getElem? (i := 31) (by decide +kernel), ⟨by decide +kernel, by decide +kernel, by decide +kernel⟩⟩
theorem kc_X5_noTests : CalV yX5_noTests cX5_noTests 3 (some .int) 2 := ⟨List.mem_of_getElem? (i := 234) (by decide +kernel), List.mem_of_getElem? (i := 232) (by decide +kernel), List.mem_of_getElem? (i := 233) (by decide +kernel), List.mem_of_getElem? (i := 31) (by decide +kernel), ⟨by decide +kernel, by decide +kernel, by decide +kernel⟩⟩
theorem kc_X5_bypass : CalV yX5_bypass cX5_bypass 4 (some .int) 3 := ⟨List.mem_of_getElem? (i := 246) (by decide +kernel), List.mem_of_getElem? (i := 244) (by decide +kernel), List.mem_of_getElem? (i := 245) (by decide +kernel), List.mem_of_getElem? (i := 31) (by decide +kernel), ⟨by decide +kernel, by decide +kernel, by decide +kernel⟩⟩
theorem kc_X5_bypassed : CalV yX5_bypassed cX5_bypassed 4 (some .int) 3 := ⟨List.mem_of_getElem? (i := 267) (by decide +kernel), List.mem_of_getElem? (i := 265) (by decide +kernel), List.mem_of_getElem? (i := 266) (by decide +kernel), List.mem_of_getElem? (i := 31) (by decide +kernel), ⟨by decide +kernel, by decide +kernel, by decide +kernel⟩⟩
theorem kc_X5_group : CalV yX5_group cX5_group 3 (some .int) 2 := ⟨List.mem_of_getElem? (i := 281) (by decide +kernel), List.mem_of_getElem? (i := 279) (by decide +kernel), List.mem_of_getElem? (i := 280) (by decide +kernel), List.mem_of_getElem? (i := 31) (by decide +kernel), ⟨by decide +kernel, by decide +kernel, by decide +kernel⟩⟩
theorem kc_X5_vote : CalV yX5_vote cX5_vote 8 (some .int) 6 := ⟨List.mem_of_getElem? (i := 299) (by decide +kernel), List.mem_of_getElem? (i := 297) (by decide +kernel), List.mem_of_getElem? (i := 298) (by decide +kernel), List.mem_of_getElem? (i := 31) (by decide +kernel), ⟨by decide +kernel, by decide +kernel, by decide +kernel⟩⟩
theorem kc_X5_share : CalV yX5_share cX5_share 3 (some .int) 2 := ⟨List.mem_of_getElem? (i := 350) (by decide +kernel), List.mem_of_getElem? (i := 348) (by decide +kernel), List.mem_of_getElem? (i := 349) (by decide +kernel), List.mem_of_getElem? (i := 31) (by decide +kernel), ⟨by decide +kernel, by decide +kernel, by decide +kernel⟩⟩
theorem kc_X5_below : CalV yX5_below cX5_below 3 (some .int) 2 := ⟨List.mem_of_getElem? (i := 362) (by decide +kernel), List.mem_of_getElem? (i := 360) (by decide +kernel), List.mem_of_getElem? (i := 361) (by decide +kernel), List.mem_of_getElem? (i := 31) (by decide +kernel), ⟨by decide +kernel, by decide +kernel, by decide +kernel⟩⟩
theorem kc_X5_shared : CalV yX5_shared cX5_shared 4 (some .int) 2 := ⟨List.mem_of_getElem? (i := 386) (by decide +kernel), List.mem_of_getElem? (i := 384) (by decide +kernel), List.mem_of_getElem? (i := 385) (by decide +kernel), List.mem_of_getElem? (i := 31) (by decide +kernel), ⟨by decide +kernel, by decide +kernel, by decide +kernel⟩⟩
theorem kc_X5_chance : CalV yX5_chance cX5_chance 3 (some .long) 2 := ⟨List.mem_of_getElem? (i := 390) (by decide +kernel), List.mem_of_getElem? (i := 388) (by decide +kernel), List.mem_of_getElem? (i := 389) (by decide +kernel), List.mem_of_getElem? (i := 31) (by decide +kernel), ⟨by decide +kernel, by decide +kernel, by decide +kernel⟩⟩
theorem kc_X5_over : CalV yX5_over cX5_over 7 (some .long) 3 := ⟨List.mem_of_getElem? (i := 445) (by decide +kernel), List.mem_of_getElem? (i := 443) (by decide +kernel), List.mem_of_getElem? (i := 444) (by decide +kernel), List.mem_of_getElem? (i := 31) (by decide +kernel), ⟨by decide +kernel, by decide +kernel, by decide +kernel⟩⟩
theorem kc_X5_broken : CalV yX5_broken cX5_broken 7 (some .int) 4 := ⟨List.mem_of_getElem? (i := 452) (by decide +kernel), List.mem_of_getElem? (i := 450) (by decide +kernel), List.mem_of_getElem? (i := 451) (by decide +kernel), List.mem_of_getElem? (i := 31) (by decide +kernel), ⟨by decide +kernel, by decide +kernel, by decide +kernel⟩⟩
theorem kc_X5_nothing : CalV yX5_nothing cX5_nothing 2 (some .long) 1 := ⟨List.mem_of_getElem? (i := 457) (by decide +kernel), List.mem_of_getElem? (i := 455) (by decide +kernel), List.mem_of_getElem? (i := 456) (by decide +kernel), List.mem_of_getElem? (i := 31) (by decide +kernel), ⟨by decide +kernel, by decide +kernel, by decide +kernel⟩⟩
theorem kc_X5_matters : CalV yX5_matters cX5_matters 4 (some .long) 3 := ⟨List.mem_of_getElem? (i := 470) (by decide +kernel), List.mem_of_getElem? (i := 468) (by decide +kernel), List.mem_of_getElem? (i := 469) (by decide +kernel), List.mem_of_getElem? (i := 31) (by decide +kernel), ⟨by decide +kernel, by decide +kernel, by decide +kernel⟩⟩
theorem kc_X5_most : CalV yX5_most cX5_most 3 (some .int) 2 := ⟨List.mem_of_getElem? (i := 482) (by decide +kernel), List.mem_of_getElem? (i := 480) (by decide +kernel), List.mem_of_getElem? (i := 481) (by decide +kernel), List.mem_of_getElem? (i := 31) (by decide +kernel), ⟨by decide +kernel, by decide +kernel, by decide +kernel⟩⟩
theorem kc_X5_cost : CalV yX5_cost cX5_cost 3 (some .int) 2 := ⟨List.mem_of_getElem? (i := 490) (by decide +kernel), List.mem_of_getElem? (i := 488) (by decide +kernel), List.mem_of_getElem? (i := 489) (by decide +kernel), List.mem_of_getElem? (i := 31) (by decide +kernel), ⟨by decide +kernel, by decide +kernel, by decide +kernel⟩⟩
theorem kc_X5_plan : CalV yX5_plan cX5_plan 8 (some .int) 6 := ⟨List.mem_of_getElem? (i := 498) (by decide +kernel), List.mem_of_getElem? (i := 496) (by decide +kernel), List.mem_of_getElem? (i := 497) (by decide +kernel), List.mem_of_getElem? (i := 31) (by decide +kernel), ⟨by decide +kernel, by decide +kernel, by decide +kernel⟩⟩
theorem kc_X5_count : CalV yX5_count cX5_count 2 (some .int) 1 := ⟨List.mem_of_getElem? (i := 557) (by decide +kernel), List.mem_of_getElem? (i := 555) (by decide +kernel), List.mem_of_getElem? (i := 556) (by decide +kernel), List.mem_of_getElem? (i := 31) (by decide +kernel), ⟨by decide +kernel, by decide +kernel, by decide +kernel⟩⟩
theorem kc_X5_isInput : CalV yX5_isInput cX5_isInput 2 (some .boolean) 1 := ⟨List.mem_of_getElem? (i := 303) (by decide +kernel), List.mem_of_getElem? (i := 302) (by decide +kernel), List.mem_of_getElem? (i := 1) (by decide +kernel), List.mem_of_getElem? (i := 31) (by decide +kernel), ⟨by decide +kernel, by decide +kernel, by decide +kernel⟩⟩
theorem kc_X5_isShare : CalS yX5_isShare cX5_isShare 1 (some .boolean) 1 := ⟨List.mem_of_getElem? (i := 211) (by decide +kernel), List.mem_of_getElem? (i := 210) (by decide +kernel), List.mem_of_getElem? (i := 31) (by decide +kernel), ⟨by decide +kernel, by decide +kernel, by decide +kernel⟩⟩
theorem kc_X5_isDay : CalS yX5_isDay cX5_isDay 1 (some .boolean) 1 := ⟨List.mem_of_getElem? (i := 226) (by decide +kernel), List.mem_of_getElem? (i := 225) (by decide +kernel), List.mem_of_getElem? (i := 31) (by decide +kernel), ⟨by decide +kernel, by decide +kernel, by decide +kernel⟩⟩
theorem kc_X5_areDays : CalS yX5_areDays cX5_areDays 2 (some .boolean) 2 := ⟨List.mem_of_getElem? (i := 249) (by decide +kernel), List.mem_of_getElem? (i := 248) (by decide +kernel), List.mem_of_getElem? (i := 31) (by decide +kernel), ⟨by decide +kernel, by decide +kernel, by decide +kernel⟩⟩
theorem kc_X5_areSummedDays : CalS yX5_areSummedDays cX5_areSummedDays 2 (some .boolean) 2 := ⟨List.mem_of_getElem? (i := 448) (by decide +kernel), List.mem_of_getElem? (i := 447) (by decide +kernel), List.mem_of_getElem? (i := 31) (by decide +kernel), ⟨by decide +kernel, by decide +kernel, by decide +kernel⟩⟩
theorem kc_X5_isInterval : CalS yX5_isInterval cX5_isInterval 1 (some .boolean) 1 := ⟨List.mem_of_getElem? (i := 501) (by decide +kernel), List.mem_of_getElem? (i := 500) (by decide +kernel), List.mem_of_getElem? (i := 31) (by decide +kernel), ⟨by decide +kernel, by decide +kernel, by decide +kernel⟩⟩
theorem kc_X5_hasBit : CalS yX5_hasBit cX5_hasBit 2 (some .boolean) 2 := ⟨List.mem_of_getElem? (i := 330) (by decide +kernel), List.mem_of_getElem? (i := 329) (by decide +kernel), List.mem_of_getElem? (i := 31) (by decide +kernel), ⟨by decide +kernel, by decide +kernel, by decide +kernel⟩⟩
theorem kc_X5_packed : CalS yX5_packed cX5_packed 5 (some .int) 2 := ⟨List.mem_of_getElem? (i := 342) (by decide +kernel), List.mem_of_getElem? (i := 341) (by decide +kernel), List.mem_of_getElem? (i := 31) (by decide +kernel), ⟨by decide +kernel, by decide +kernel, by decide +kernel⟩⟩
theorem kc_X5_spread : CalS yX5_spread cX5_spread 5 (some .int) 2 := ⟨List.mem_of_getElem? (i := 327) (by decide +kernel), List.mem_of_getElem? (i := 326) (by decide +kernel), List.mem_of_getElem? (i := 31) (by decide +kernel), ⟨by decide +kernel, by decide +kernel, by decide +kernel⟩⟩
theorem kc_X6_init : Cond.code yX6_init cX6_init 2 none ∈ lw_tbl ∧ Cond.instanceMethod yX6_init ∈ lw_tbl ∧ Cond.initialized yX6_init.cls ∈ lw_tbl := ⟨List.mem_of_getElem? (i := 579) (by decide +kernel), List.mem_of_getElem? (i := 578) (by decide +kernel), List.mem_of_getElem? (i := 37) (by decide +kernel)⟩
theorem kc_X6_in : CalS yX6_in cX6_in 6 (some .boolean) 3 := ⟨List.mem_of_getElem? (i := 668) (by decide +kernel), List.mem_of_getElem? (i := 667) (by decide +kernel), List.mem_of_getElem? (i := 37) (by decide +kernel), ⟨by decide +kernel, by decide +kernel, by decide +kernel⟩⟩
theorem kc_X6_isPart : CalV yX6_isPart cX6_isPart 2 (some .boolean) 1 := ⟨List.mem_of_getElem? (i := 676) (by decide +kernel), List.mem_of_getElem? (i := 675) (by decide +kernel), List.mem_of_getElem? (i := 14) (by decide +kernel), List.mem_of_getElem? (i := 37) (by decide +kernel), ⟨by decide +kernel, by decide +kernel, by decide +kernel⟩⟩
theorem kc_X6_isVote : CalV yX6_isVote cX6_isVote 2 (some .boolean) 1 := ⟨List.mem_of_getElem? (i := 732) (by decide +kernel), List.mem_of_getElem? (i := 731) (by decide +kernel), List.mem_of_getElem? (i := 18) (by decide +kernel), List.mem_of_getElem? (i := 37) (by decide +kernel), ⟨by decide +kernel, by decide +kernel, by decide +kernel⟩⟩
theorem kc_X6_isDay : CalS yX6_isDay cX6_isDay 1 (some .boolean) 1 := ⟨List.mem_of_getElem? (i := 679) (by decide +kernel), List.mem_of_getElem? (i := 678) (by decide +kernel), List.mem_of_getElem? (i := 37) (by decide +kernel), ⟨by decide +kernel, by decide +kernel, by decide +kernel⟩⟩
theorem kc_X6_part : CalV yX6_part cX6_part 4 (some .int) 3 := ⟨List.mem_of_getElem? (i := 664) (by decide +kernel), List.mem_of_getElem? (i := 662) (by decide +kernel), List.mem_of_getElem? (i := 663) (by decide +kernel), List.mem_of_getElem? (i := 37) (by decide +kernel), ⟨by decide +kernel, by decide +kernel, by decide +kernel⟩⟩
theorem kc_X6_test : CalV yX6_test cX6_test 3 (some .int) 2 := ⟨List.mem_of_getElem? (i := 672) (by decide +kernel), List.mem_of_getElem? (i := 670) (by decide +kernel), List.mem_of_getElem? (i := 671) (by decide +kernel), List.mem_of_getElem? (i := 37) (by decide +kernel), ⟨by decide +kernel, by decide +kernel, by decide +kernel⟩⟩
theorem kc_X6_noTests : CalV yX6_noTests cX6_noTests 4 (some .int) 2 := ⟨List.mem_of_getElem? (i := 684) (by decide +kernel), List.mem_of_getElem? (i := 682) (by decide +kernel), List.mem_of_getElem? (i := 683) (by decide +kernel), List.mem_of_getElem? (i := 37) (by decide +kernel), ⟨by decide +kernel, by decide +kernel, by decide +kernel⟩⟩
theorem kc_X6_areDays : CalS yX6_areDays cX6_areDays 2 (some .boolean) 2 := ⟨List.mem_of_getElem? (i := 691) (by decide +kernel), List.mem_of_getElem? (i := 690) (by decide +kernel), List.mem_of_getElem? (i := 37) (by decide +kernel), ⟨by decide +kernel, by decide +kernel, by decide +kernel⟩⟩
theorem kc_X6_bypass : CalV yX6_bypass cX6_bypass 4 (some .int) 3 := ⟨List.mem_of_getElem? (i := 688) (by decide +kernel), List.mem_of_getElem? (i := 686) (by decide +kernel), List.mem_of_getElem? (i := 687) (by decide +kernel), List.mem_of_getElem? (i := 37) (by decide +kernel), ⟨by decide +kernel, by decide +kernel, by decide +kernel⟩⟩
theorem kc_X6_isBypassed : CalV yX6_isBypassed cX6_isBypassed 5 (some .boolean) 2 := ⟨List.mem_of_getElem? (i := 699) (by decide +kernel), List.mem_of_getElem? (i := 698) (by decide +kernel), List.mem_of_getElem? (i := 15) (by decide +kernel), List.mem_of_getElem? (i := 37) (by decide +kernel), ⟨by decide +kernel, by decide +kernel, by decide +kernel⟩⟩
theorem kc_X6_bypassed : CalV yX6_bypassed cX6_bypassed 6 (some .int) 3 := ⟨List.mem_of_getElem? (i := 695) (by decide +kernel), List.mem_of_getElem? (i := 693) (by decide +kernel), List.mem_of_getElem? (i := 694) (by decide +kernel), List.mem_of_getElem? (i := 37) (by decide +kernel), ⟨by decide +kernel, by decide +kernel, by decide +kernel⟩⟩
theorem kc_X6_bits : CalS yX6_bits cX6_bits 3 (some .int) 1 := ⟨List.mem_of_getElem? (i := 706) (by decide +kernel), List.mem_of_getElem? (i := 705) (by decide +kernel), List.mem_of_getElem? (i := 37) (by decide +kernel), ⟨by decide +kernel, by decide +kernel, by decide +kernel⟩⟩
theorem kc_X6_group : CalV yX6_group cX6_group 3 (some .int) 2 := ⟨List.mem_of_getElem? (i := 703) (by decide +kernel), List.mem_of_getElem? (i := 701) (by decide +kernel), List.mem_of_getElem? (i := 702) (by decide +kernel), List.mem_of_getElem? (i := 37) (by decide +kernel), ⟨by decide +kernel, by decide +kernel, by decide +kernel⟩⟩
theorem kc_X6_isInput : CalV yX6_isInput cX6_isInput 2 (some .boolean) 1 := ⟨List.mem_of_getElem? (i := 715) (by decide +kernel), List.mem_of_getElem? (i := 714) (by decide +kernel), List.mem_of_getElem? (i := 16) (by decide +kernel), List.mem_of_getElem? (i := 37) (by decide +kernel), ⟨by decide +kernel, by decide +kernel, by decide +kernel⟩⟩
theorem kc_X6_vote : CalV yX6_vote cX6_vote 8 (some .int) 6 := ⟨List.mem_of_getElem? (i := 710) (by decide +kernel), List.mem_of_getElem? (i := 708) (by decide +kernel), List.mem_of_getElem? (i := 709) (by decide +kernel), List.mem_of_getElem? (i := 37) (by decide +kernel), ⟨by decide +kernel, by decide +kernel, by decide +kernel⟩⟩
theorem kc_X6_shareOf : CalV yX6_shareOf cX6_shareOf 5 (some .int) 2 := ⟨List.mem_of_getElem? (i := 724) (by decide +kernel), List.mem_of_getElem? (i := 723) (by decide +kernel), List.mem_of_getElem? (i := 17) (by decide +kernel), List.mem_of_getElem? (i := 37) (by decide +kernel), ⟨by decide +kernel, by decide +kernel, by decide +kernel⟩⟩
theorem kc_X6_share : CalV yX6_share cX6_share 3 (some .int) 2 := ⟨List.mem_of_getElem? (i := 720) (by decide +kernel), List.mem_of_getElem? (i := 718) (by decide +kernel), List.mem_of_getElem? (i := 719) (by decide +kernel), List.mem_of_getElem? (i := 37) (by decide +kernel), ⟨by decide +kernel, by decide +kernel, by decide +kernel⟩⟩
theorem kc_X6_partsOf : CalV yX6_partsOf cX6_partsOf 4 (some .int) 1 := ⟨List.mem_of_getElem? (i := 737) (by decide +kernel), List.mem_of_getElem? (i := 736) (by decide +kernel), List.mem_of_getElem? (i := 19) (by decide +kernel), List.mem_of_getElem? (i := 37) (by decide +kernel), ⟨by decide +kernel, by decide +kernel, by decide +kernel⟩⟩
theorem kc_X6_groupsOf : CalV yX6_groupsOf cX6_groupsOf 4 (some .int) 1 := ⟨List.mem_of_getElem? (i := 741) (by decide +kernel), List.mem_of_getElem? (i := 740) (by decide +kernel), List.mem_of_getElem? (i := 20) (by decide +kernel), List.mem_of_getElem? (i := 37) (by decide +kernel), ⟨by decide +kernel, by decide +kernel, by decide +kernel⟩⟩
theorem kc_X6_eventsOf : CalV yX6_eventsOf cX6_eventsOf 3 (some .int) 1 := ⟨List.mem_of_getElem? (i := 745) (by decide +kernel), List.mem_of_getElem? (i := 744) (by decide +kernel), List.mem_of_getElem? (i := 21) (by decide +kernel), List.mem_of_getElem? (i := 37) (by decide +kernel), ⟨by decide +kernel, by decide +kernel, by decide +kernel⟩⟩
theorem kc_X6_below : CalV yX6_below cX6_below 4 (some .int) 2 := ⟨List.mem_of_getElem? (i := 728) (by decide +kernel), List.mem_of_getElem? (i := 726) (by decide +kernel), List.mem_of_getElem? (i := 727) (by decide +kernel), List.mem_of_getElem? (i := 37) (by decide +kernel), ⟨by decide +kernel, by decide +kernel, by decide +kernel⟩⟩
theorem kc_X6_shared : CalV yX6_shared cX6_shared 5 (some .int) 2 := ⟨List.mem_of_getElem? (i := 749) (by decide +kernel), List.mem_of_getElem? (i := 747) (by decide +kernel), List.mem_of_getElem? (i := 748) (by decide +kernel), List.mem_of_getElem? (i := 37) (by decide +kernel), ⟨by decide +kernel, by decide +kernel, by decide +kernel⟩⟩
theorem kc_X6_does : CalV yX6_does cX6_does 7 (some .boolean) 2 := ⟨List.mem_of_getElem? (i := 771) (by decide +kernel), List.mem_of_getElem? (i := 770) (by decide +kernel), List.mem_of_getElem? (i := 25) (by decide +kernel), List.mem_of_getElem? (i := 37) (by decide +kernel), ⟨by decide +kernel, by decide +kernel, by decide +kernel⟩⟩
theorem kc_X6_adds : CalV yX6_adds cX6_adds 3 none 2 := ⟨List.mem_of_getElem? (i := 763) (by decide +kernel), List.mem_of_getElem? (i := 762) (by decide +kernel), List.mem_of_getElem? (i := 23) (by decide +kernel), List.mem_of_getElem? (i := 37) (by decide +kernel), ⟨by decide +kernel, by decide +kernel, by decide +kernel⟩⟩
theorem kc_X6_sums : CalV yX6_sums cX6_sums 11 (some .long) 2 := ⟨List.mem_of_getElem? (i := 767) (by decide +kernel), List.mem_of_getElem? (i := 766) (by decide +kernel), List.mem_of_getElem? (i := 24) (by decide +kernel), List.mem_of_getElem? (i := 37) (by decide +kernel), ⟨by decide +kernel, by decide +kernel, by decide +kernel⟩⟩
theorem kc_X6_chanceOf : CalV yX6_chanceOf cX6_chanceOf 5 (some .long) 2 := ⟨List.mem_of_getElem? (i := 759) (by decide +kernel), List.mem_of_getElem? (i := 758) (by decide +kernel), List.mem_of_getElem? (i := 22) (by decide +kernel), List.mem_of_getElem? (i := 37) (by decide +kernel), ⟨by decide +kernel, by decide +kernel, by decide +kernel⟩⟩
theorem kc_X6_chance : CalV yX6_chance cX6_chance 3 (some .long) 2 := ⟨List.mem_of_getElem? (i := 753) (by decide +kernel), List.mem_of_getElem? (i := 751) (by decide +kernel), List.mem_of_getElem? (i := 752) (by decide +kernel), List.mem_of_getElem? (i := 37) (by decide +kernel), ⟨by decide +kernel, by decide +kernel, by decide +kernel⟩⟩
theorem kc_X6_isSpan : CalV yX6_isSpan cX6_isSpan 3 (some .boolean) 2 := ⟨List.mem_of_getElem? (i := 779) (by decide +kernel), List.mem_of_getElem? (i := 778) (by decide +kernel), List.mem_of_getElem? (i := 26) (by decide +kernel), List.mem_of_getElem? (i := 37) (by decide +kernel), ⟨by decide +kernel, by decide +kernel, by decide +kernel⟩⟩
theorem kc_X6_over : CalV yX6_over cX6_over 7 (some .long) 3 := ⟨List.mem_of_getElem? (i := 775) (by decide +kernel), List.mem_of_getElem? (i := 773) (by decide +kernel), List.mem_of_getElem? (i := 774) (by decide +kernel), List.mem_of_getElem? (i := 37) (by decide +kernel), ⟨by decide +kernel, by decide +kernel, by decide +kernel⟩⟩
theorem kc_X6_broken : CalV yX6_broken cX6_broken 7 (some .int) 4 := ⟨List.mem_of_getElem? (i := 783) (by decide +kernel), List.mem_of_getElem? (i := 781) (by decide +kernel), List.mem_of_getElem? (i := 782) (by decide +kernel), List.mem_of_getElem? (i := 37) (by decide +kernel), ⟨by decide +kernel, by decide +kernel, by decide +kernel⟩⟩
theorem kc_X6_nothing : CalV yX6_nothing cX6_nothing 4 (some .long) 1 := ⟨List.mem_of_getElem? (i := 788) (by decide +kernel), List.mem_of_getElem? (i := 786) (by decide +kernel), List.mem_of_getElem? (i := 787) (by decide +kernel), List.mem_of_getElem? (i := 37) (by decide +kernel), ⟨by decide +kernel, by decide +kernel, by decide +kernel⟩⟩
theorem kc_X6_mattersOf : CalV yX6_mattersOf cX6_mattersOf 6 (some .long) 3 := ⟨List.mem_of_getElem? (i := 796) (by decide +kernel), List.mem_of_getElem? (i := 795) (by decide +kernel), List.mem_of_getElem? (i := 27) (by decide +kernel), List.mem_of_getElem? (i := 37) (by decide +kernel), ⟨by decide +kernel, by decide +kernel, by decide +kernel⟩⟩
theorem kc_X6_matters : CalV yX6_matters cX6_matters 4 (some .long) 3 := ⟨List.mem_of_getElem? (i := 792) (by decide +kernel), List.mem_of_getElem? (i := 790) (by decide +kernel), List.mem_of_getElem? (i := 791) (by decide +kernel), List.mem_of_getElem? (i := 37) (by decide +kernel), ⟨by decide +kernel, by decide +kernel, by decide +kernel⟩⟩
theorem kc_X6_most : CalV yX6_most cX6_most 10 (some .int) 2 := ⟨List.mem_of_getElem? (i := 800) (by decide +kernel), List.mem_of_getElem? (i := 798) (by decide +kernel), List.mem_of_getElem? (i := 799) (by decide +kernel), List.mem_of_getElem? (i := 37) (by decide +kernel), ⟨by decide +kernel, by decide +kernel, by decide +kernel⟩⟩
theorem kc_X6_cost : CalV yX6_cost cX6_cost 4 (some .int) 2 := ⟨List.mem_of_getElem? (i := 804) (by decide +kernel), List.mem_of_getElem? (i := 802) (by decide +kernel), List.mem_of_getElem? (i := 803) (by decide +kernel), List.mem_of_getElem? (i := 37) (by decide +kernel), ⟨by decide +kernel, by decide +kernel, by decide +kernel⟩⟩
theorem kc_X6_laid : CalV yX6_laid cX6_laid 7 (some .int) 3 := ⟨List.mem_of_getElem? (i := 815) (by decide +kernel), List.mem_of_getElem? (i := 814) (by decide +kernel), List.mem_of_getElem? (i := 28) (by decide +kernel), List.mem_of_getElem? (i := 37) (by decide +kernel), ⟨by decide +kernel, by decide +kernel, by decide +kernel⟩⟩
theorem kc_X6_lifted : CalV yX6_lifted cX6_lifted 2 none 0 := ⟨List.mem_of_getElem? (i := 819) (by decide +kernel), List.mem_of_getElem? (i := 818) (by decide +kernel), List.mem_of_getElem? (i := 29) (by decide +kernel), List.mem_of_getElem? (i := 37) (by decide +kernel), ⟨by decide +kernel, by decide +kernel, by decide +kernel⟩⟩
theorem kc_X6_plan : CalV yX6_plan cX6_plan 18 (some .int) 6 := ⟨List.mem_of_getElem? (i := 809) (by decide +kernel), List.mem_of_getElem? (i := 807) (by decide +kernel), List.mem_of_getElem? (i := 808) (by decide +kernel), List.mem_of_getElem? (i := 37) (by decide +kernel), ⟨by decide +kernel, by decide +kernel, by decide +kernel⟩⟩
theorem kc_X6_count : CalV yX6_count cX6_count 4 (some .int) 1 := ⟨List.mem_of_getElem? (i := 823) (by decide +kernel), List.mem_of_getElem? (i := 821) (by decide +kernel), List.mem_of_getElem? (i := 822) (by decide +kernel), List.mem_of_getElem? (i := 37) (by decide +kernel), ⟨by decide +kernel, by decide +kernel, by decide +kernel⟩⟩
theorem kc_J6_bitCount_0f7a4 : CalS yJ6_bitCount_0f7a4 cJ6_bitCount_0f7a4 1 (some .int) 1 := ⟨List.mem_of_getElem? (i := 288) (by decide +kernel), List.mem_of_getElem? (i := 287) (by decide +kernel), List.mem_of_getElem? (i := 40) (by decide +kernel), ⟨by decide +kernel, by decide +kernel, by decide +kernel⟩⟩
theorem kc_J13_bitCount_95d88 : CalS yJ13_bitCount_95d88 cJ13_bitCount_95d88 2 (some .int) 1 := ⟨List.mem_of_getElem? (i := 274) (by decide +kernel), List.mem_of_getElem? (i := 273) (by decide +kernel), List.mem_of_getElem? (i := 39) (by decide +kernel), ⟨by decide +kernel, by decide +kernel, by decide +kernel⟩⟩
theorem kc_J9_max_7cf53 : CalS yJ9_max_7cf53 cJ9_max_7cf53 2 (some .int) 2 := ⟨List.mem_of_getElem? (i := 259) (by decide +kernel), List.mem_of_getElem? (i := 258) (by decide +kernel), List.mem_of_getElem? (i := 38) (by decide +kernel), ⟨by decide +kernel, by decide +kernel, by decide +kernel⟩⟩
theorem kc_J9_min_7cf53 : CalS yJ9_min_7cf53 cJ9_min_7cf53 2 (some .int) 2 := ⟨List.mem_of_getElem? (i := 262) (by decide +kernel), List.mem_of_getElem? (i := 261) (by decide +kernel), List.mem_of_getElem? (i := 38) (by decide +kernel), ⟨by decide +kernel, by decide +kernel, by decide +kernel⟩⟩
theorem ml_L_9 : Cond.methodLink RL 9 yX5_init ∈ lw_tbl := List.mem_of_getElem? (i := 44) (by decide +kernel)
theorem ml_L_12 : Cond.methodLink RL 12 yX6_init ∈ lw_tbl := List.mem_of_getElem? (i := 577) (by decide +kernel)
theorem ml_L_13 : Cond.methodLink RL 13 yX5_part ∈ lw_tbl := List.mem_of_getElem? (i := 205) (by decide +kernel)
theorem ml_L_17 : Cond.methodLink RL 17 yX6_part ∈ lw_tbl := List.mem_of_getElem? (i := 661) (by decide +kernel)
theorem ml_L_18 : Cond.methodLink RL 18 yX5_test ∈ lw_tbl := List.mem_of_getElem? (i := 216) (by decide +kernel)
theorem ml_L_22 : Cond.methodLink RL 22 yX6_test ∈ lw_tbl := List.mem_of_getElem? (i := 669) (by decide +kernel)
theorem ml_L_23 : Cond.methodLink RL 23 yX5_noTests ∈ lw_tbl := List.mem_of_getElem? (i := 231) (by decide +kernel)
theorem ml_L_26 : Cond.methodLink RL 26 yX6_noTests ∈ lw_tbl := List.mem_of_getElem? (i := 681) (by decide +kernel)
theorem ml_L_27 : Cond.methodLink RL 27 yX5_bypass ∈ lw_tbl := List.mem_of_getElem? (i := 243) (by decide +kernel)
theorem ml_L_30 : Cond.methodLink RL 30 yX6_bypass ∈ lw_tbl := List.mem_of_getElem? (i := 685) (by decide +kernel)
theorem ml_L_31 : Cond.methodLink RL 31 yX5_bypassed ∈ lw_tbl := List.mem_of_getElem? (i := 264) (by decide +kernel)
theorem ml_L_34 : Cond.methodLink RL 34 yX6_bypassed ∈ lw_tbl := List.mem_of_getElem? (i := 692) (by decide +kernel)
theorem ml_L_35 : Cond.methodLink RL 35 yX5_group ∈ lw_tbl := List.mem_of_getElem? (i := 278) (by decide +kernel)
theorem ml_L_38 : Cond.methodLink RL 38 yX6_group ∈ lw_tbl := List.mem_of_getElem? (i := 700) (by decide +kernel)
theorem ml_L_39 : Cond.methodLink RL 39 yX5_vote ∈ lw_tbl := List.mem_of_getElem? (i := 296) (by decide +kernel)
theorem ml_L_43 : Cond.methodLink RL 43 yX6_vote ∈ lw_tbl := List.mem_of_getElem? (i := 707) (by decide +kernel)
theorem ml_L_44 : Cond.methodLink RL 44 yX5_share ∈ lw_tbl := List.mem_of_getElem? (i := 347) (by decide +kernel)
theorem ml_L_47 : Cond.methodLink RL 47 yX6_share ∈ lw_tbl := List.mem_of_getElem? (i := 717) (by decide +kernel)
theorem ml_L_48 : Cond.methodLink RL 48 yX5_below ∈ lw_tbl := List.mem_of_getElem? (i := 359) (by decide +kernel)
theorem ml_L_51 : Cond.methodLink RL 51 yX6_below ∈ lw_tbl := List.mem_of_getElem? (i := 725) (by decide +kernel)
theorem ml_L_52 : Cond.methodLink RL 52 yX5_shared ∈ lw_tbl := List.mem_of_getElem? (i := 383) (by decide +kernel)
theorem ml_L_55 : Cond.methodLink RL 55 yX6_shared ∈ lw_tbl := List.mem_of_getElem? (i := 746) (by decide +kernel)
theorem ml_L_56 : Cond.methodLink RL 56 yX5_chance ∈ lw_tbl := List.mem_of_getElem? (i := 387) (by decide +kernel)
theorem ml_L_60 : Cond.methodLink RL 60 yX6_chance ∈ lw_tbl := List.mem_of_getElem? (i := 750) (by decide +kernel)
theorem ml_L_61 : Cond.methodLink RL 61 yX5_over ∈ lw_tbl := List.mem_of_getElem? (i := 442) (by decide +kernel)
theorem ml_L_65 : Cond.methodLink RL 65 yX6_over ∈ lw_tbl := List.mem_of_getElem? (i := 772) (by decide +kernel)
theorem ml_L_68 : Cond.methodLink RL 68 yX5_broken ∈ lw_tbl := List.mem_of_getElem? (i := 449) (by decide +kernel)
theorem ml_L_72 : Cond.methodLink RL 72 yX6_broken ∈ lw_tbl := List.mem_of_getElem? (i := 780) (by decide +kernel)
theorem ml_L_73 : Cond.methodLink RL 73 yX5_nothing ∈ lw_tbl := List.mem_of_getElem? (i := 454) (by decide +kernel)
theorem ml_L_77 : Cond.methodLink RL 77 yX6_nothing ∈ lw_tbl := List.mem_of_getElem? (i := 785) (by decide +kernel)
theorem ml_L_78 : Cond.methodLink RL 78 yX5_matters ∈ lw_tbl := List.mem_of_getElem? (i := 467) (by decide +kernel)
theorem ml_L_81 : Cond.methodLink RL 81 yX6_matters ∈ lw_tbl := List.mem_of_getElem? (i := 789) (by decide +kernel)
theorem ml_L_82 : Cond.methodLink RL 82 yX5_most ∈ lw_tbl := List.mem_of_getElem? (i := 479) (by decide +kernel)
theorem ml_L_85 : Cond.methodLink RL 85 yX6_most ∈ lw_tbl := List.mem_of_getElem? (i := 797) (by decide +kernel)
theorem ml_L_86 : Cond.methodLink RL 86 yX5_cost ∈ lw_tbl := List.mem_of_getElem? (i := 487) (by decide +kernel)
theorem ml_L_89 : Cond.methodLink RL 89 yX6_cost ∈ lw_tbl := List.mem_of_getElem? (i := 801) (by decide +kernel)
theorem ml_L_90 : Cond.methodLink RL 90 yX5_plan ∈ lw_tbl := List.mem_of_getElem? (i := 495) (by decide +kernel)
theorem ml_L_94 : Cond.methodLink RL 94 yX6_plan ∈ lw_tbl := List.mem_of_getElem? (i := 806) (by decide +kernel)
theorem ml_L_95 : Cond.methodLink RL 95 yX5_count ∈ lw_tbl := List.mem_of_getElem? (i := 554) (by decide +kernel)
theorem ml_L_99 : Cond.methodLink RL 99 yX6_count ∈ lw_tbl := List.mem_of_getElem? (i := 820) (by decide +kernel)
theorem ml_X0_3 : Cond.methodLink RX0 3 objectInit ∈ lw_tbl := List.mem_of_getElem? (i := 91) (by decide +kernel)
theorem ml_X1_3 : Cond.methodLink RX1 3 objectInit ∈ lw_tbl := List.mem_of_getElem? (i := 132) (by decide +kernel)
theorem ml_X1_44 : Cond.methodLink RX1 44 yX4_partsBelow ∈ lw_tbl := List.mem_of_getElem? (i := 371) (by decide +kernel)
theorem ml_X1_50 : Cond.methodLink RX1 50 yX0_striking ∈ lw_tbl := List.mem_of_getElem? (i := 372) (by decide +kernel)
theorem ml_X1_55 : Cond.methodLink RX1 55 yX4_sizeBelow ∈ lw_tbl := List.mem_of_getElem? (i := 380) (by decide +kernel)
theorem ml_X1_58 : Cond.methodLink RX1 58 yX1_groupsOf ∈ lw_tbl := List.mem_of_getElem? (i := 381) (by decide +kernel)
theorem ml_X1_61 : Cond.methodLink RX1 61 yJ6_bitCount_0f7a4 ∈ lw_tbl := List.mem_of_getElem? (i := 382) (by decide +kernel)
theorem ml_X1_66 : Cond.methodLink RX1 66 yX1_eventsOf ∈ lw_tbl := List.mem_of_getElem? (i := 396) (by decide +kernel)
theorem ml_X1_69 : Cond.methodLink RX1 69 yX1_takeMembers ∈ lw_tbl := List.mem_of_getElem? (i := 402) (by decide +kernel)
theorem ml_X1_73 : Cond.methodLink RX1 73 yX4_actsIn ∈ lw_tbl := List.mem_of_getElem? (i := 407) (by decide +kernel)
theorem ml_X1_77 : Cond.methodLink RX1 77 yX0_size ∈ lw_tbl := List.mem_of_getElem? (i := 408) (by decide +kernel)
theorem ml_X1_80 : Cond.methodLink RX1 80 yX0_struckBy ∈ lw_tbl := List.mem_of_getElem? (i := 412) (by decide +kernel)
theorem ml_X1_83 : (RX1, 83, yX5_packed, RX5) ∈ nestW := by decide +kernel
theorem ml_X1_87 : Cond.methodLink RX1 87 yX0_shareOf ∈ lw_tbl := List.mem_of_getElem? (i := 417) (by decide +kernel)
theorem ml_X1_90 : Cond.methodLink RX1 90 yX1_workIn ∈ lw_tbl := List.mem_of_getElem? (i := 421) (by decide +kernel)
theorem ml_X1_94 : Cond.methodLink RX1 94 yX1_takeSharesOn ∈ lw_tbl := List.mem_of_getElem? (i := 430) (by decide +kernel)
theorem ml_X1_97 : Cond.methodLink RX1 97 yX1_sum ∈ lw_tbl := List.mem_of_getElem? (i := 435) (by decide +kernel)
theorem ml_X1_101 : Cond.methodLink RX1 101 yX2_shareForNothing ∈ lw_tbl := List.mem_of_getElem? (i := 463) (by decide +kernel)
theorem ml_X1_106 : Cond.methodLink RX1 106 yX1_weightAt ∈ lw_tbl := List.mem_of_getElem? (i := 475) (by decide +kernel)
theorem ml_X1_110 : Cond.methodLink RX1 110 arraycopyName ∈ lw_tbl := List.mem_of_getElem? (i := 439) (by decide +kernel)
theorem ml_X1_118 : (RX1, 118, yX5_hasBit, RX5) ∈ nestW := by decide +kernel
theorem ml_X1_121 : Cond.methodLink RX1 121 yX2_shareOn ∈ lw_tbl := List.mem_of_getElem? (i := 434) (by decide +kernel)
theorem ml_X2_3 : Cond.methodLink RX2 3 objectInit ∈ lw_tbl := List.mem_of_getElem? (i := 55) (by decide +kernel)
theorem ml_X2_41 : Cond.methodLink RX2 41 yX2_testsUpTo ∈ lw_tbl := List.mem_of_getElem? (i := 239) (by decide +kernel)
theorem ml_X2_45 : Cond.methodLink RX2 45 yX2_daysInWord ∈ lw_tbl := List.mem_of_getElem? (i := 254) (by decide +kernel)
theorem ml_X2_49 : Cond.methodLink RX2 49 yJ13_bitCount_95d88 ∈ lw_tbl := List.mem_of_getElem? (i := 272) (by decide +kernel)
theorem ml_X2_55 : Cond.methodLink RX2 55 yX2_shareAfter ∈ lw_tbl := List.mem_of_getElem? (i := 355) (by decide +kernel)
theorem ml_X2_59 : Cond.methodLink RX2 59 Lib.Math.min.name ∈ lw_tbl := List.mem_of_getElem? (i := 260) (by decide +kernel)
theorem ml_X2_64 : Cond.methodLink RX2 64 Lib.Math.max.name ∈ lw_tbl := List.mem_of_getElem? (i := 257) (by decide +kernel)
theorem ml_X3_3 : Cond.methodLink RX3 3 objectInit ∈ lw_tbl := List.mem_of_getElem? (i := 166) (by decide +kernel)
theorem ml_X3_33 : Cond.methodLink RX3 33 yX1_startFailing ∈ lw_tbl := List.mem_of_getElem? (i := 511) (by decide +kernel)
theorem ml_X3_39 : Cond.methodLink RX3 39 yX1_memberCount ∈ lw_tbl := List.mem_of_getElem? (i := 512) (by decide +kernel)
theorem ml_X3_43 : Cond.methodLink RX3 43 yX3_takeChoices ∈ lw_tbl := List.mem_of_getElem? (i := 516) (by decide +kernel)
theorem ml_X3_46 : Cond.methodLink RX3 46 yX3_costOfChoices ∈ lw_tbl := List.mem_of_getElem? (i := 520) (by decide +kernel)
theorem ml_X3_49 : Cond.methodLink RX3 49 yX3_keepsLaw ∈ lw_tbl := List.mem_of_getElem? (i := 532) (by decide +kernel)
theorem ml_X3_53 : Cond.methodLink RX3 53 yX3_toldChoices ∈ lw_tbl := List.mem_of_getElem? (i := 542) (by decide +kernel)
theorem ml_X3_56 : Cond.methodLink RX3 56 yX1_memberAt ∈ lw_tbl := List.mem_of_getElem? (i := 524) (by decide +kernel)
theorem ml_X3_60 : Cond.methodLink RX3 60 yX2_costOf ∈ lw_tbl := List.mem_of_getElem? (i := 528) (by decide +kernel)
theorem ml_X3_65 : Cond.methodLink RX3 65 yX2_shareAfter ∈ lw_tbl := List.mem_of_getElem? (i := 536) (by decide +kernel)
theorem ml_X3_69 : Cond.methodLink RX3 69 yX1_setShare ∈ lw_tbl := List.mem_of_getElem? (i := 537) (by decide +kernel)
theorem ml_X3_73 : Cond.methodLink RX3 73 yX1_sum ∈ lw_tbl := List.mem_of_getElem? (i := 541) (by decide +kernel)
theorem ml_X4_3 : Cond.methodLink RX4 3 objectInit ∈ lw_tbl := List.mem_of_getElem? (i := 107) (by decide +kernel)
theorem ml_X4_32 : Cond.methodLink RX4 32 yJ6_bitCount_0f7a4 ∈ lw_tbl := List.mem_of_getElem? (i := 320) (by decide +kernel)
theorem ml_X4_38 : Cond.methodLink RX4 38 yX4_partsOfInput ∈ lw_tbl := List.mem_of_getElem? (i := 312) (by decide +kernel)
theorem ml_X4_41 : Cond.methodLink RX4 41 yX4_sizeBelow ∈ lw_tbl := List.mem_of_getElem? (i := 316) (by decide +kernel)
theorem ml_X4_44 : Cond.methodLink RX4 44 yX4_workOutActingSets ∈ lw_tbl := List.mem_of_getElem? (i := 321) (by decide +kernel)
theorem ml_X4_48 : (RX4, 48, yX5_spread, RX5) ∈ nestW := by decide +kernel
theorem ml_X4_52 : Cond.methodLink RX4 52 yX4_actingInputs ∈ lw_tbl := List.mem_of_getElem? (i := 331) (by decide +kernel)
theorem ml_X4_55 : Cond.methodLink RX4 55 yX4_inputActs ∈ lw_tbl := List.mem_of_getElem? (i := 335) (by decide +kernel)
theorem ml_X4_59 : (RX4, 59, yX5_hasBit, RX5) ∈ nestW := by decide +kernel
theorem ml_X4_62 : (RX4, 62, yX5_packed, RX5) ∈ nestW := by decide +kernel
theorem ml_X4_65 : Cond.methodLink RX4 65 yX4_actsIn ∈ lw_tbl := List.mem_of_getElem? (i := 343) (by decide +kernel)
theorem ml_X5_1 : Cond.methodLink RX5 1 objectInit ∈ lw_tbl := List.mem_of_getElem? (i := 47) (by decide +kernel)
theorem ml_X5_9 : (RX5, 9, yX2_init, RX5) ∈ nestW := by decide +kernel
theorem ml_X5_18 : (RX5, 18, yX0_init, RX5) ∈ nestW := by decide +kernel
theorem ml_X5_25 : (RX5, 25, yX4_init, RX5) ∈ nestW := by decide +kernel
theorem ml_X5_32 : Cond.methodLink RX5 32 yX1_init ∈ lw_tbl := List.mem_of_getElem? (i := 129) (by decide +kernel)
theorem ml_X5_41 : Cond.methodLink RX5 41 yX3_init ∈ lw_tbl := List.mem_of_getElem? (i := 163) (by decide +kernel)
theorem ml_X5_52 : Cond.methodLink RX5 52 yX5_isShare ∈ lw_tbl := List.mem_of_getElem? (i := 209) (by decide +kernel)
theorem ml_X5_56 : Cond.methodLink RX5 56 yX2_add ∈ lw_tbl := List.mem_of_getElem? (i := 212) (by decide +kernel)
theorem ml_X5_60 : Cond.methodLink RX5 60 yX2_has ∈ lw_tbl := List.mem_of_getElem? (i := 220) (by decide +kernel)
theorem ml_X5_63 : Cond.methodLink RX5 63 yX5_isDay ∈ lw_tbl := List.mem_of_getElem? (i := 224) (by decide +kernel)
theorem ml_X5_66 : Cond.methodLink RX5 66 yX2_addTest ∈ lw_tbl := List.mem_of_getElem? (i := 227) (by decide +kernel)
theorem ml_X5_70 : Cond.methodLink RX5 70 yX2_dropTests ∈ lw_tbl := List.mem_of_getElem? (i := 235) (by decide +kernel)
theorem ml_X5_73 : Cond.methodLink RX5 73 yX5_areDays ∈ lw_tbl := List.mem_of_getElem? (i := 247) (by decide +kernel)
theorem ml_X5_77 : Cond.methodLink RX5 77 yX2_addBypass ∈ lw_tbl := List.mem_of_getElem? (i := 250) (by decide +kernel)
theorem ml_X5_80 : Cond.methodLink RX5 80 yX2_bypassedDays ∈ lw_tbl := List.mem_of_getElem? (i := 268) (by decide +kernel)
theorem ml_X5_83 : Cond.methodLink RX5 83 yX2_hasAll ∈ lw_tbl := List.mem_of_getElem? (i := 282) (by decide +kernel)
theorem ml_X5_86 : Cond.methodLink RX5 86 yJ6_bitCount_0f7a4 ∈ lw_tbl := List.mem_of_getElem? (i := 286) (by decide +kernel)
theorem ml_X5_92 : Cond.methodLink RX5 92 yX0_add ∈ lw_tbl := List.mem_of_getElem? (i := 292) (by decide +kernel)
theorem ml_X5_94 : Cond.methodLink RX5 94 yX5_isInput ∈ lw_tbl := List.mem_of_getElem? (i := 300) (by decide +kernel)
theorem ml_X5_97 : Cond.methodLink RX5 97 yX4_add ∈ lw_tbl := List.mem_of_getElem? (i := 308) (by decide +kernel)
theorem ml_X5_100 : Cond.methodLink RX5 100 yX2_shareOn ∈ lw_tbl := List.mem_of_getElem? (i := 351) (by decide +kernel)
theorem ml_X5_103 : Cond.methodLink RX5 103 yX4_has ∈ lw_tbl := List.mem_of_getElem? (i := 304) (by decide +kernel)
theorem ml_X5_104 : Cond.methodLink RX5 104 yX4_partsBelow ∈ lw_tbl := List.mem_of_getElem? (i := 363) (by decide +kernel)
theorem ml_X5_107 : Cond.methodLink RX5 107 yX1_groupsOf ∈ lw_tbl := List.mem_of_getElem? (i := 367) (by decide +kernel)
theorem ml_X5_110 : Cond.methodLink RX5 110 yX1_eventsOf ∈ lw_tbl := List.mem_of_getElem? (i := 376) (by decide +kernel)
theorem ml_X5_115 : Cond.methodLink RX5 115 yX1_hasTooManyEvents ∈ lw_tbl := List.mem_of_getElem? (i := 392) (by decide +kernel)
theorem ml_X5_120 : Cond.methodLink RX5 120 yX1_startFailing ∈ lw_tbl := List.mem_of_getElem? (i := 398) (by decide +kernel)
theorem ml_X5_124 : Cond.methodLink RX5 124 yX1_onDay ∈ lw_tbl := List.mem_of_getElem? (i := 426) (by decide +kernel)
theorem ml_X5_128 : Cond.methodLink RX5 128 yX5_areSummedDays ∈ lw_tbl := List.mem_of_getElem? (i := 446) (by decide +kernel)
theorem ml_X5_133 : Cond.methodLink RX5 133 yX4_sizeBelow ∈ lw_tbl := List.mem_of_getElem? (i := 458) (by decide +kernel)
theorem ml_X5_136 : Cond.methodLink RX5 136 yX1_forNothing ∈ lw_tbl := List.mem_of_getElem? (i := 459) (by decide +kernel)
theorem ml_X5_139 : Cond.methodLink RX5 139 yX1_weightOf ∈ lw_tbl := List.mem_of_getElem? (i := 471) (by decide +kernel)
theorem ml_X5_143 : Cond.methodLink RX5 143 yX1_weightiestPart ∈ lw_tbl := List.mem_of_getElem? (i := 483) (by decide +kernel)
theorem ml_X5_146 : Cond.methodLink RX5 146 yX2_changeCost ∈ lw_tbl := List.mem_of_getElem? (i := 491) (by decide +kernel)
theorem ml_X5_149 : Cond.methodLink RX5 149 yX5_isInterval ∈ lw_tbl := List.mem_of_getElem? (i := 499) (by decide +kernel)
theorem ml_X5_154 : Cond.methodLink RX5 154 yX3_setIntervals ∈ lw_tbl := List.mem_of_getElem? (i := 503) (by decide +kernel)
theorem ml_X5_158 : Cond.methodLink RX5 158 yX3_findCheapest ∈ lw_tbl := List.mem_of_getElem? (i := 507) (by decide +kernel)
theorem ml_X5_162 : Cond.methodLink RX5 162 yX3_cheapestCost ∈ lw_tbl := List.mem_of_getElem? (i := 546) (by decide +kernel)
theorem ml_X5_166 : Cond.methodLink RX5 166 yX3_cheapestChoices ∈ lw_tbl := List.mem_of_getElem? (i := 550) (by decide +kernel)
theorem ml_X5_169 : Cond.methodLink RX5 169 yX2_size ∈ lw_tbl := List.mem_of_getElem? (i := 558) (by decide +kernel)
theorem ml_X5_172 : Cond.methodLink RX5 172 yX2_allTests ∈ lw_tbl := List.mem_of_getElem? (i := 562) (by decide +kernel)
theorem ml_X5_175 : Cond.methodLink RX5 175 yX2_allBypasses ∈ lw_tbl := List.mem_of_getElem? (i := 566) (by decide +kernel)
theorem ml_X5_178 : Cond.methodLink RX5 178 yX0_size ∈ lw_tbl := List.mem_of_getElem? (i := 570) (by decide +kernel)
theorem ml_X5_179 : Cond.methodLink RX5 179 yX4_size ∈ lw_tbl := List.mem_of_getElem? (i := 571) (by decide +kernel)
theorem ml_X5_180 : Cond.methodLink RX5 180 yX5_hasBit ∈ lw_tbl := List.mem_of_getElem? (i := 328) (by decide +kernel)
theorem ml_X6_1 : Cond.methodLink RX6 1 objectInit ∈ lw_tbl := List.mem_of_getElem? (i := 580) (by decide +kernel)
theorem ml_X6_78 : Cond.methodLink RX6 78 yX6_in ∈ lw_tbl := List.mem_of_getElem? (i := 666) (by decide +kernel)
theorem ml_X6_89 : Cond.methodLink RX6 89 yX6_isPart ∈ lw_tbl := List.mem_of_getElem? (i := 673) (by decide +kernel)
theorem ml_X6_93 : Cond.methodLink RX6 93 yX6_isDay ∈ lw_tbl := List.mem_of_getElem? (i := 677) (by decide +kernel)
theorem ml_X6_96 : Cond.methodLink RX6 96 yX6_areDays ∈ lw_tbl := List.mem_of_getElem? (i := 689) (by decide +kernel)
theorem ml_X6_103 : Cond.methodLink RX6 103 yX6_isBypassed ∈ lw_tbl := List.mem_of_getElem? (i := 696) (by decide +kernel)
theorem ml_X6_106 : Cond.methodLink RX6 106 yX6_bits ∈ lw_tbl := List.mem_of_getElem? (i := 704) (by decide +kernel)
theorem ml_X6_117 : Cond.methodLink RX6 117 yX6_isInput ∈ lw_tbl := List.mem_of_getElem? (i := 712) (by decide +kernel)
theorem ml_X6_120 : Cond.methodLink RX6 120 yX6_shareOf ∈ lw_tbl := List.mem_of_getElem? (i := 721) (by decide +kernel)
theorem ml_X6_124 : Cond.methodLink RX6 124 yX6_partsOf ∈ lw_tbl := List.mem_of_getElem? (i := 734) (by decide +kernel)
theorem ml_X6_127 : Cond.methodLink RX6 127 yX6_groupsOf ∈ lw_tbl := List.mem_of_getElem? (i := 738) (by decide +kernel)
theorem ml_X6_130 : Cond.methodLink RX6 130 yX6_isVote ∈ lw_tbl := List.mem_of_getElem? (i := 729) (by decide +kernel)
theorem ml_X6_135 : Cond.methodLink RX6 135 yX6_eventsOf ∈ lw_tbl := List.mem_of_getElem? (i := 742) (by decide +kernel)
theorem ml_X6_141 : Cond.methodLink RX6 141 yX6_does ∈ lw_tbl := List.mem_of_getElem? (i := 768) (by decide +kernel)
theorem ml_X6_144 : Cond.methodLink RX6 144 yX6_adds ∈ lw_tbl := List.mem_of_getElem? (i := 760) (by decide +kernel)
theorem ml_X6_148 : Cond.methodLink RX6 148 yX6_sums ∈ lw_tbl := List.mem_of_getElem? (i := 764) (by decide +kernel)
theorem ml_X6_156 : Cond.methodLink RX6 156 yX6_chanceOf ∈ lw_tbl := List.mem_of_getElem? (i := 756) (by decide +kernel)
theorem ml_X6_160 : Cond.methodLink RX6 160 yX6_isSpan ∈ lw_tbl := List.mem_of_getElem? (i := 776) (by decide +kernel)
theorem ml_X6_165 : Cond.methodLink RX6 165 yX6_mattersOf ∈ lw_tbl := List.mem_of_getElem? (i := 793) (by decide +kernel)
theorem ml_X6_175 : Cond.methodLink RX6 175 yX6_laid ∈ lw_tbl := List.mem_of_getElem? (i := 812) (by decide +kernel)
theorem ml_X6_179 : Cond.methodLink RX6 179 yX6_lifted ∈ lw_tbl := List.mem_of_getElem? (i := 816) (by decide +kernel)
theorem kk_X2_67 : Cond.constantLong RX2 67 (-1) ∈ lw_tbl := List.mem_of_getElem? (i := 263) (by decide +kernel)
theorem kk_J13_314 : Cond.constantLong RJ13 314 (6148914691236517205) ∈ lw_tbl := List.mem_of_getElem? (i := 275) (by decide +kernel)
theorem kk_J13_316 : Cond.constantLong RJ13 316 (3689348814741910323) ∈ lw_tbl := List.mem_of_getElem? (i := 276) (by decide +kernel)
theorem kk_J13_318 : Cond.constantLong RJ13 318 (1085102592571150095) ∈ lw_tbl := List.mem_of_getElem? (i := 277) (by decide +kernel)
theorem kk_J6_265 : Cond.constant RJ6 265 (1431655765) ∈ lw_tbl := List.mem_of_getElem? (i := 289) (by decide +kernel)
theorem kk_J6_266 : Cond.constant RJ6 266 (858993459) ∈ lw_tbl := List.mem_of_getElem? (i := 290) (by decide +kernel)
theorem kk_J6_267 : Cond.constant RJ6 267 (252645135) ∈ lw_tbl := List.mem_of_getElem? (i := 291) (by decide +kernel)
theorem kk_X5_113 : Cond.constantLong RX5 113 (-1) ∈ lw_tbl := List.mem_of_getElem? (i := 391) (by decide +kernel)
theorem kk_X5_118 : Cond.constantLong RX5 118 (-2) ∈ lw_tbl := List.mem_of_getElem? (i := 397) (by decide +kernel)
theorem kk_X1_116 : Cond.constantLong RX1 116 (64) ∈ lw_tbl := List.mem_of_getElem? (i := 425) (by decide +kernel)
theorem kk_X5_131 : Cond.constantLong RX5 131 (281474976710656) ∈ lw_tbl := List.mem_of_getElem? (i := 453) (by decide +kernel)
theorem kk_X5_152 : Cond.constantLong RX5 152 (28147497671065600) ∈ lw_tbl := List.mem_of_getElem? (i := 502) (by decide +kernel)
theorem kk_X6_87 : Cond.constantLong RX6 87 (64) ∈ lw_tbl := List.mem_of_getElem? (i := 665) (by decide +kernel)
theorem kk_X6_85 : Cond.constantLong RX6 85 (999) ∈ lw_tbl := List.mem_of_getElem? (i := 680) (by decide +kernel)
theorem kk_X6_115 : Cond.constantLong RX6 115 (4) ∈ lw_tbl := List.mem_of_getElem? (i := 711) (by decide +kernel)
theorem kk_X6_113 : Cond.constantLong RX6 113 (12) ∈ lw_tbl := List.mem_of_getElem? (i := 716) (by decide +kernel)
theorem kk_X6_133 : Cond.constantLong RX6 133 (2) ∈ lw_tbl := List.mem_of_getElem? (i := 733) (by decide +kernel)
theorem kk_X6_152 : Cond.constantLong RX6 152 (-1) ∈ lw_tbl := List.mem_of_getElem? (i := 754) (by decide +kernel)
theorem kk_X6_154 : Cond.constantLong RX6 154 (-2) ∈ lw_tbl := List.mem_of_getElem? (i := 755) (by decide +kernel)
theorem kk_X6_163 : Cond.constantLong RX6 163 (281474976710656) ∈ lw_tbl := List.mem_of_getElem? (i := 784) (by decide +kernel)
theorem kk_X6_169 : Cond.constantLong RX6 169 (1000) ∈ lw_tbl := List.mem_of_getElem? (i := 805) (by decide +kernel)
theorem kk_X6_171 : Cond.constantLong RX6 171 (100) ∈ lw_tbl := List.mem_of_getElem? (i := 810) (by decide +kernel)
theorem kk_X6_173 : Cond.constantLong RX6 173 (28147497671065600) ∈ lw_tbl := List.mem_of_getElem? (i := 811) (by decide +kernel)
theorem kk_L_66 : Cond.constantLong RL 66 (4294967295) ∈ lw_tbl := List.mem_of_getElem? (i := 824) (by decide +kernel)
theorem kc_min : Cond.static Lib.Math.min.name ∈ lw_tbl ∧ Cond.initialized "java/lang/Math" ∈ lw_tbl ∧ Cond.code Lib.Math.min.name Lib.Math.min.code 2 (some .int) ∈ lw_tbl := ⟨List.mem_of_getElem? (i := 261) (by decide +kernel), List.mem_of_getElem? (i := 38) (by decide +kernel), List.mem_of_getElem? (i := 262) (by decide +kernel)⟩
theorem kc_max : Cond.static Lib.Math.max.name ∈ lw_tbl ∧ Cond.initialized "java/lang/Math" ∈ lw_tbl ∧ Cond.code Lib.Math.max.name Lib.Math.max.code 2 (some .int) ∈ lw_tbl := ⟨List.mem_of_getElem? (i := 258) (by decide +kernel), List.mem_of_getElem? (i := 38) (by decide +kernel), List.mem_of_getElem? (i := 259) (by decide +kernel)⟩
theorem kc_copy : Cond.native arraycopyName ∈ lw_tbl ∧ Cond.static arraycopyName ∈ lw_tbl ∧ Cond.initialized "java/lang/System" ∈ lw_tbl := ⟨List.mem_of_getElem? (i := 441) (by decide +kernel), List.mem_of_getElem? (i := 440) (by decide +kernel), List.mem_of_getElem? (i := 41) (by decide +kernel)⟩
theorem kc_obj : Cond.instanceMethod objectInit ∈ lw_tbl ∧ Cond.code objectInit ⟨#[0xb1]⟩ 1 none ∈ lw_tbl := ⟨List.mem_of_getElem? (i := 48) (by decide +kernel), List.mem_of_getElem? (i := 49) (by decide +kernel)⟩
theorem ka_int : Cond.arrayClass .int ∈ lw_tbl := List.mem_of_getElem? (i := 84) (by decide +kernel)
theorem ka_long : Cond.arrayClass .long ∈ lw_tbl := List.mem_of_getElem? (i := 85) (by decide +kernel)
theorem ka_boolean : Cond.arrayClass .boolean ∈ lw_tbl := List.mem_of_getElem? (i := 660) (by decide +kernel)
theorem kn_X0 : Cond.instantiable RX0 3 ∈ lw_tbl ∧ Cond.initialized RX0 ∈ lw_tbl := ⟨List.mem_of_getElem? (i := 87) (by decide +kernel), List.mem_of_getElem? (i := 33) (by decide +kernel)⟩
theorem kn_X1 : Cond.instantiable RX1 9 ∈ lw_tbl ∧ Cond.initialized RX1 ∈ lw_tbl := ⟨List.mem_of_getElem? (i := 128) (by decide +kernel), List.mem_of_getElem? (i := 35) (by decide +kernel)⟩
theorem kn_X2 : Cond.instantiable RX2 9 ∈ lw_tbl ∧ Cond.initialized RX2 ∈ lw_tbl := ⟨List.mem_of_getElem? (i := 51) (by decide +kernel), List.mem_of_getElem? (i := 32) (by decide +kernel)⟩
theorem kn_X3 : Cond.instantiable RX3 6 ∈ lw_tbl ∧ Cond.initialized RX3 ∈ lw_tbl := ⟨List.mem_of_getElem? (i := 162) (by decide +kernel), List.mem_of_getElem? (i := 36) (by decide +kernel)⟩
theorem kn_X4 : Cond.instantiable RX4 6 ∈ lw_tbl ∧ Cond.initialized RX4 ∈ lw_tbl := ⟨List.mem_of_getElem? (i := 103) (by decide +kernel), List.mem_of_getElem? (i := 34) (by decide +kernel)⟩
theorem kn_X5 : Cond.instantiable RX5 6 ∈ lw_tbl ∧ Cond.initialized RX5 ∈ lw_tbl := ⟨List.mem_of_getElem? (i := 43) (by decide +kernel), List.mem_of_getElem? (i := 31) (by decide +kernel)⟩
theorem kn_X6 : Cond.instantiable RX6 26 ∈ lw_tbl ∧ Cond.initialized RX6 ∈ lw_tbl := ⟨List.mem_of_getElem? (i := 576) (by decide +kernel), List.mem_of_getElem? (i := 37) (by decide +kernel)⟩
theorem cl_L_7 : Cond.classLink RL 7 RX5 ∈ lw_tbl := List.mem_of_getElem? (i := 42) (by decide +kernel)
theorem cl_X5_7 : Cond.classLink RX5 7 RX2 ∈ lw_tbl := List.mem_of_getElem? (i := 50) (by decide +kernel)
theorem cl_X5_16 : Cond.classLink RX5 16 RX0 ∈ lw_tbl := List.mem_of_getElem? (i := 86) (by decide +kernel)
theorem cl_X5_23 : Cond.classLink RX5 23 RX4 ∈ lw_tbl := List.mem_of_getElem? (i := 102) (by decide +kernel)
theorem cl_X5_30 : Cond.classLink RX5 30 RX1 ∈ lw_tbl := List.mem_of_getElem? (i := 127) (by decide +kernel)
theorem cl_X5_39 : Cond.classLink RX5 39 RX3 ∈ lw_tbl := List.mem_of_getElem? (i := 161) (by decide +kernel)
theorem cl_L_10 : Cond.classLink RL 10 RX6 ∈ lw_tbl := List.mem_of_getElem? (i := 575) (by decide +kernel)
