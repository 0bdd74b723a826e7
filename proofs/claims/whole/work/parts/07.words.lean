/-! by program (gen3.py): the words of the links -/
theorem ml_L_178 : Cond.methodLink RL 178 yX10_count ∈ lw_tbl := List.mem_of_getElem? (i := 1039) (by decide +kernel)
theorem ml_L_181 : Cond.methodLink RL 181 yX11_count ∈ lw_tbl := List.mem_of_getElem? (i := 1546) (by decide +kernel)
theorem ml_L_174 : Cond.methodLink RL 174 yX10_taken ∈ lw_tbl := List.mem_of_getElem? (i := 1027) (by decide +kernel)
theorem ml_L_177 : Cond.methodLink RL 177 yX11_taken ∈ lw_tbl := List.mem_of_getElem? (i := 1535) (by decide +kernel)
theorem ml_L_169 : Cond.methodLink RL 169 yX10_shift ∈ lw_tbl := List.mem_of_getElem? (i := 1012) (by decide +kernel)
theorem ml_L_173 : Cond.methodLink RL 173 yX11_shift ∈ lw_tbl := List.mem_of_getElem? (i := 1531) (by decide +kernel)
theorem ml_L_164 : Cond.methodLink RL 164 yX10_element ∈ lw_tbl := List.mem_of_getElem? (i := 1007) (by decide +kernel)
theorem ml_L_168 : Cond.methodLink RL 168 yX11_element ∈ lw_tbl := List.mem_of_getElem? (i := 1526) (by decide +kernel)
theorem ml_L_159 : Cond.methodLink RL 159 yX10_put ∈ lw_tbl := List.mem_of_getElem? (i := 991) (by decide +kernel)
theorem ml_L_163 : Cond.methodLink RL 163 yX11_put ∈ lw_tbl := List.mem_of_getElem? (i := 1515) (by decide +kernel)
theorem ml_L_153 : Cond.methodLink RL 153 yX10_row ∈ lw_tbl := List.mem_of_getElem? (i := 980) (by decide +kernel)
theorem ml_L_156 : Cond.methodLink RL 156 yX11_row ∈ lw_tbl := List.mem_of_getElem? (i := 1511) (by decide +kernel)
theorem ml_L_149 : Cond.methodLink RL 149 yX10_keep ∈ lw_tbl := List.mem_of_getElem? (i := 971) (by decide +kernel)
theorem ml_L_152 : Cond.methodLink RL 152 yX11_keep ∈ lw_tbl := List.mem_of_getElem? (i := 1507) (by decide +kernel)
theorem ml_L_145 : Cond.methodLink RL 145 yX10_trace ∈ lw_tbl := List.mem_of_getElem? (i := 963) (by decide +kernel)
theorem ml_L_148 : Cond.methodLink RL 148 yX11_trace ∈ lw_tbl := List.mem_of_getElem? (i := 1503) (by decide +kernel)
theorem ml_L_141 : Cond.methodLink RL 141 yX10_act ∈ lw_tbl := List.mem_of_getElem? (i := 920) (by decide +kernel)
theorem ml_L_144 : Cond.methodLink RL 144 yX11_act ∈ lw_tbl := List.mem_of_getElem? (i := 1475) (by decide +kernel)
theorem ml_L_137 : Cond.methodLink RL 137 yX10_body ∈ lw_tbl := List.mem_of_getElem? (i := 909) (by decide +kernel)
theorem ml_L_140 : Cond.methodLink RL 140 yX11_body ∈ lw_tbl := List.mem_of_getElem? (i := 1470) (by decide +kernel)
theorem ml_L_133 : Cond.methodLink RL 133 yX10_redo ∈ lw_tbl := List.mem_of_getElem? (i := 897) (by decide +kernel)
theorem ml_L_136 : Cond.methodLink RL 136 yX11_redo ∈ lw_tbl := List.mem_of_getElem? (i := 1189) (by decide +kernel)
theorem ml_L_129 : Cond.methodLink RL 129 yX10_undo ∈ lw_tbl := List.mem_of_getElem? (i := 885) (by decide +kernel)
theorem ml_L_132 : Cond.methodLink RL 132 yX11_undo ∈ lw_tbl := List.mem_of_getElem? (i := 1185) (by decide +kernel)
theorem ml_L_125 : Cond.methodLink RL 125 yX10_back ∈ lw_tbl := List.mem_of_getElem? (i := 877) (by decide +kernel)
theorem ml_L_128 : Cond.methodLink RL 128 yX11_back ∈ lw_tbl := List.mem_of_getElem? (i := 1466) (by decide +kernel)
theorem ml_L_121 : Cond.methodLink RL 121 yX10_image ∈ lw_tbl := List.mem_of_getElem? (i := 868) (by decide +kernel)
theorem ml_L_124 : Cond.methodLink RL 124 yX11_image ∈ lw_tbl := List.mem_of_getElem? (i := 1462) (by decide +kernel)
theorem ml_L_117 : Cond.methodLink RL 117 yX10_led ∈ lw_tbl := List.mem_of_getElem? (i := 856) (by decide +kernel)
theorem ml_L_120 : Cond.methodLink RL 120 yX11_led ∈ lw_tbl := List.mem_of_getElem? (i := 1458) (by decide +kernel)
theorem ml_L_113 : Cond.methodLink RL 113 yX10_decide ∈ lw_tbl := List.mem_of_getElem? (i := 844) (by decide +kernel)
theorem ml_L_116 : Cond.methodLink RL 116 yX11_decide ∈ lw_tbl := List.mem_of_getElem? (i := 1454) (by decide +kernel)
theorem ml_L_109 : Cond.methodLink RL 109 yX10_must ∈ lw_tbl := List.mem_of_getElem? (i := 828) (by decide +kernel)
theorem ml_L_112 : Cond.methodLink RL 112 yX11_must ∈ lw_tbl := List.mem_of_getElem? (i := 1446) (by decide +kernel)
theorem ml_L_105 : Cond.methodLink RL 105 yX10_judge ∈ lw_tbl := List.mem_of_getElem? (i := 791) (by decide +kernel)
theorem ml_L_108 : Cond.methodLink RL 108 yX11_judge ∈ lw_tbl := List.mem_of_getElem? (i := 1430) (by decide +kernel)
theorem ml_L_101 : Cond.methodLink RL 101 yX10_lots ∈ lw_tbl := List.mem_of_getElem? (i := 778) (by decide +kernel)
theorem ml_L_104 : Cond.methodLink RL 104 yX11_lots ∈ lw_tbl := List.mem_of_getElem? (i := 1420) (by decide +kernel)
theorem ml_L_97 : Cond.methodLink RL 97 yX10_step ∈ lw_tbl := List.mem_of_getElem? (i := 766) (by decide +kernel)
theorem ml_L_100 : Cond.methodLink RL 100 yX11_step ∈ lw_tbl := List.mem_of_getElem? (i := 1416) (by decide +kernel)
theorem ml_L_93 : Cond.methodLink RL 93 yX10_lies ∈ lw_tbl := List.mem_of_getElem? (i := 758) (by decide +kernel)
theorem ml_L_96 : Cond.methodLink RL 96 yX11_lies ∈ lw_tbl := List.mem_of_getElem? (i := 1412) (by decide +kernel)
theorem ml_L_89 : Cond.methodLink RL 89 yX10_chance ∈ lw_tbl := List.mem_of_getElem? (i := 736) (by decide +kernel)
theorem ml_L_92 : Cond.methodLink RL 92 yX11_chance ∈ lw_tbl := List.mem_of_getElem? (i := 1405) (by decide +kernel)
theorem ml_L_85 : Cond.methodLink RL 85 yX10_hermit ∈ lw_tbl := List.mem_of_getElem? (i := 728) (by decide +kernel)
theorem ml_L_88 : Cond.methodLink RL 88 yX11_hermit ∈ lw_tbl := List.mem_of_getElem? (i := 1401) (by decide +kernel)
theorem ml_L_81 : Cond.methodLink RL 81 yX10_say ∈ lw_tbl := List.mem_of_getElem? (i := 709) (by decide +kernel)
theorem ml_L_84 : Cond.methodLink RL 84 yX11_say ∈ lw_tbl := List.mem_of_getElem? (i := 1393) (by decide +kernel)
theorem ml_L_77 : Cond.methodLink RL 77 yX10_parted ∈ lw_tbl := List.mem_of_getElem? (i := 693) (by decide +kernel)
theorem ml_L_80 : Cond.methodLink RL 80 yX11_parted ∈ lw_tbl := List.mem_of_getElem? (i := 1385) (by decide +kernel)
theorem ml_L_73 : Cond.methodLink RL 73 yX10_alone ∈ lw_tbl := List.mem_of_getElem? (i := 685) (by decide +kernel)
theorem ml_L_76 : Cond.methodLink RL 76 yX11_alone ∈ lw_tbl := List.mem_of_getElem? (i := 1381) (by decide +kernel)
theorem ml_L_69 : Cond.methodLink RL 69 yX10_leaveOut ∈ lw_tbl := List.mem_of_getElem? (i := 676) (by decide +kernel)
theorem ml_L_72 : Cond.methodLink RL 72 yX11_leaveOut ∈ lw_tbl := List.mem_of_getElem? (i := 1377) (by decide +kernel)
theorem ml_L_65 : Cond.methodLink RL 65 yX10_silenced ∈ lw_tbl := List.mem_of_getElem? (i := 658) (by decide +kernel)
theorem ml_L_68 : Cond.methodLink RL 68 yX11_silenced ∈ lw_tbl := List.mem_of_getElem? (i := 1369) (by decide +kernel)
theorem ml_L_61 : Cond.methodLink RL 61 yX10_together ∈ lw_tbl := List.mem_of_getElem? (i := 643) (by decide +kernel)
theorem ml_L_64 : Cond.methodLink RL 64 yX11_together ∈ lw_tbl := List.mem_of_getElem? (i := 1365) (by decide +kernel)
theorem ml_L_57 : Cond.methodLink RL 57 yX10_vote ∈ lw_tbl := List.mem_of_getElem? (i := 613) (by decide +kernel)
theorem ml_L_60 : Cond.methodLink RL 60 yX11_vote ∈ lw_tbl := List.mem_of_getElem? (i := 1344) (by decide +kernel)
theorem ml_L_53 : Cond.methodLink RL 53 yX10_may ∈ lw_tbl := List.mem_of_getElem? (i := 539) (by decide +kernel)
theorem ml_L_56 : Cond.methodLink RL 56 yX11_may ∈ lw_tbl := List.mem_of_getElem? (i := 1313) (by decide +kernel)
theorem ml_L_49 : Cond.methodLink RL 49 yX10_law ∈ lw_tbl := List.mem_of_getElem? (i := 485) (by decide +kernel)
theorem ml_L_52 : Cond.methodLink RL 52 yX11_law ∈ lw_tbl := List.mem_of_getElem? (i := 1266) (by decide +kernel)
theorem ml_L_45 : Cond.methodLink RL 45 yX10_feed ∈ lw_tbl := List.mem_of_getElem? (i := 477) (by decide +kernel)
theorem ml_L_48 : Cond.methodLink RL 48 yX11_feed ∈ lw_tbl := List.mem_of_getElem? (i := 1261) (by decide +kernel)
theorem ml_L_41 : Cond.methodLink RL 41 yX10_of ∈ lw_tbl := List.mem_of_getElem? (i := 462) (by decide +kernel)
theorem ml_L_44 : Cond.methodLink RL 44 yX11_of ∈ lw_tbl := List.mem_of_getElem? (i := 1253) (by decide +kernel)
theorem ml_L_36 : Cond.methodLink RL 36 yX10_rule ∈ lw_tbl := List.mem_of_getElem? (i := 458) (by decide +kernel)
theorem ml_L_40 : Cond.methodLink RL 40 yX11_rule ∈ lw_tbl := List.mem_of_getElem? (i := 1248) (by decide +kernel)
theorem ml_L_32 : Cond.methodLink RL 32 yX10_mend ∈ lw_tbl := List.mem_of_getElem? (i := 423) (by decide +kernel)
theorem ml_L_35 : Cond.methodLink RL 35 yX11_mend ∈ lw_tbl := List.mem_of_getElem? (i := 1225) (by decide +kernel)
theorem ml_L_27 : Cond.methodLink RL 27 yX10_matter ∈ lw_tbl := List.mem_of_getElem? (i := 411) (by decide +kernel)
theorem ml_L_31 : Cond.methodLink RL 31 yX11_matter ∈ lw_tbl := List.mem_of_getElem? (i := 1221) (by decide +kernel)
theorem ml_L_23 : Cond.methodLink RL 23 yX10_cousins ∈ lw_tbl := List.mem_of_getElem? (i := 388) (by decide +kernel)
theorem ml_L_26 : Cond.methodLink RL 26 yX11_cousins ∈ lw_tbl := List.mem_of_getElem? (i := 1210) (by decide +kernel)
theorem ml_L_18 : Cond.methodLink RL 18 yX10_people ∈ lw_tbl := List.mem_of_getElem? (i := 362) (by decide +kernel)
theorem ml_L_22 : Cond.methodLink RL 22 yX11_people ∈ lw_tbl := List.mem_of_getElem? (i := 1201) (by decide +kernel)
theorem ml_L_13 : Cond.methodLink RL 13 yX10_person ∈ lw_tbl := List.mem_of_getElem? (i := 351) (by decide +kernel)
theorem ml_L_17 : Cond.methodLink RL 17 yX11_person ∈ lw_tbl := List.mem_of_getElem? (i := 1193) (by decide +kernel)
theorem ml_M_97 : Cond.methodLink RX11 97 yX11_within ∈ lw_tbl := List.mem_of_getElem? (i := 1198) (by decide +kernel)
theorem zf_M_94 : zFL RX11 94 11 6 := ⟨by decide, by decide, rfl, Or.inl (List.mem_of_getElem? (i := 1063) (by decide +kernel))⟩
theorem zf_M_22 : zFL RX11 22 11 8 := ⟨by decide, by decide, rfl, Or.inl (List.mem_of_getElem? (i := 1065) (by decide +kernel))⟩
theorem ml_X_87 : Cond.methodLink RX10 87 yX10_isFee ∈ lw_tbl := List.mem_of_getElem? (i := 355) (by decide +kernel)
theorem zf_X_10 : zFL RX10 10 10 0 := ⟨by decide, by decide, rfl, Or.inl (List.mem_of_getElem? (i := 320) (by decide +kernel))⟩
theorem ml_X_91 : Cond.methodLink RX10 91 yX3_addPerson ∈ lw_tbl := List.mem_of_getElem? (i := 358) (by decide +kernel)
theorem zf_Council_28 : zFL RX3 28 3 3 := ⟨by decide, by decide, rfl, Or.inl (List.mem_of_getElem? (i := 102) (by decide +kernel))⟩
theorem zf_Council_9 : zFL RX3 9 3 0 := ⟨by decide, by decide, rfl, Or.inl (List.mem_of_getElem? (i := 99) (by decide +kernel))⟩
theorem ml_M_113 : Cond.methodLink RX11 113 yX11_isShelf ∈ lw_tbl := List.mem_of_getElem? (i := 1205) (by decide +kernel)
theorem zf_M_65 : zFL RX11 65 11 38 := ⟨by decide, by decide, rfl, Or.inl (List.mem_of_getElem? (i := 1095) (by decide +kernel))⟩
theorem zf_M_68 : zFL RX11 68 11 39 := ⟨by decide, by decide, rfl, Or.inl (List.mem_of_getElem? (i := 1096) (by decide +kernel))⟩
theorem zf_M_71 : zFL RX11 71 11 40 := ⟨by decide, by decide, rfl, Or.inl (List.mem_of_getElem? (i := 1097) (by decide +kernel))⟩
theorem zf_X_60 : zFL RX10 60 10 6 := ⟨by decide, by decide, rfl, Or.inl (List.mem_of_getElem? (i := 326) (by decide +kernel))⟩
theorem ml_X_95 : Cond.methodLink RX10 95 yX7_isShelf ∈ lw_tbl := List.mem_of_getElem? (i := 366) (by decide +kernel)
theorem ml_X_98 : Cond.methodLink RX10 98 yX7_held ∈ lw_tbl := List.mem_of_getElem? (i := 370) (by decide +kernel)
theorem ml_X_101 : Cond.methodLink RX10 101 yX10_comesFrom ∈ lw_tbl := List.mem_of_getElem? (i := 375) (by decide +kernel)
theorem ml_X_105 : Cond.methodLink RX10 105 yX7_hasPlace ∈ lw_tbl := List.mem_of_getElem? (i := 379) (by decide +kernel)
theorem ml_X_108 : Cond.methodLink RX10 108 yX7_valueAt ∈ lw_tbl := List.mem_of_getElem? (i := 383) (by decide +kernel)
theorem ml_Shelves_32 : Cond.methodLink RX7 32 yX7_hasPlace ∈ lw_tbl := List.mem_of_getElem? (i := 387) (by decide +kernel)
theorem zf_Shelves_21 : zFL RX7 21 7 3 := ⟨by decide, by decide, rfl, Or.inl (List.mem_of_getElem? (i := 258) (by decide +kernel))⟩
theorem zf_Shelves_15 : zFL RX7 15 7 1 := ⟨by decide, by decide, rfl, Or.inl (List.mem_of_getElem? (i := 256) (by decide +kernel))⟩
theorem ml_Shelves_25 : Cond.methodLink RX7 25 yX7_isShelf ∈ lw_tbl := List.mem_of_getElem? (i := 374) (by decide +kernel)
theorem zf_Shelves_11 : zFL RX7 11 7 0 := ⟨by decide, by decide, rfl, Or.inl (List.mem_of_getElem? (i := 255) (by decide +kernel))⟩
theorem ml_M_104 : Cond.methodLink RX11 104 yX11_isPerson ∈ lw_tbl := List.mem_of_getElem? (i := 1214) (by decide +kernel)
theorem zf_M_25 : zFL RX11 25 11 10 := ⟨by decide, by decide, rfl, Or.inl (List.mem_of_getElem? (i := 1067) (by decide +kernel))⟩
theorem ml_M_118 : Cond.methodLink RX11 118 yX11_isIn ∈ lw_tbl := List.mem_of_getElem? (i := 1218) (by decide +kernel)
theorem zf_M_122 : zFL RX11 122 11 9 := ⟨by decide, by decide, rfl, Or.inl (List.mem_of_getElem? (i := 1066) (by decide +kernel))⟩
theorem ml_X_112 : Cond.methodLink RX10 112 yX3_isTwo ∈ lw_tbl := List.mem_of_getElem? (i := 392) (by decide +kernel)
theorem ml_X_115 : Cond.methodLink RX10 115 yX3_addPair ∈ lw_tbl := List.mem_of_getElem? (i := 400) (by decide +kernel)
theorem ml_Council_45 : Cond.methodLink RX3 45 yX3_stepsOf ∈ lw_tbl := List.mem_of_getElem? (i := 404) (by decide +kernel)
theorem zf_Council_49 : zFL RX3 49 3 4 := ⟨by decide, by decide, rfl, Or.inl (List.mem_of_getElem? (i := 106) (by decide +kernel))⟩
theorem zf_Council_15 : zFL RX3 15 3 1 := ⟨by decide, by decide, rfl, Or.inl (List.mem_of_getElem? (i := 100) (by decide +kernel))⟩
theorem ml_Council_52 : Cond.methodLink RX3 52 Lib.Math.min.name ∈ lw_tbl := List.mem_of_getElem? (i := 408) (by decide +kernel)
theorem ml_Council_34 : Cond.methodLink RX3 34 yX3_isPerson ∈ lw_tbl := List.mem_of_getElem? (i := 396) (by decide +kernel)
theorem zf_M_101 : zFL RX11 101 11 7 := ⟨by decide, by decide, rfl, Or.inl (List.mem_of_getElem? (i := 1064) (by decide +kernel))⟩
theorem zf_M_9 : zFL RX11 9 11 0 := ⟨by decide, by decide, rfl, Or.inl (List.mem_of_getElem? (i := 1057) (by decide +kernel))⟩
theorem ml_X_119 : Cond.methodLink RX10 119 yX3_addMatter ∈ lw_tbl := List.mem_of_getElem? (i := 415) (by decide +kernel)
theorem zf_Council_31 : zFL RX3 31 3 5 := ⟨by decide, by decide, rfl, Or.inl (List.mem_of_getElem? (i := 108) (by decide +kernel))⟩
theorem ml_Council_57 : Cond.methodLink RX3 57 yX3_tell ∈ lw_tbl := List.mem_of_getElem? (i := 419) (by decide +kernel)
theorem zf_Council_18 : zFL RX3 18 3 2 := ⟨by decide, by decide, rfl, Or.inl (List.mem_of_getElem? (i := 101) (by decide +kernel))⟩
theorem ml_M_108 : Cond.methodLink RX11 108 yX11_isMatter ∈ lw_tbl := List.mem_of_getElem? (i := 1233) (by decide +kernel)
theorem ml_M_132 : Cond.methodLink RX11 132 yX11_becomes ∈ lw_tbl := List.mem_of_getElem? (i := 1240) (by decide +kernel)
theorem ml_M_125 : Cond.methodLink RX11 125 yX11_isPm ∈ lw_tbl := List.mem_of_getElem? (i := 1229) (by decide +kernel)
theorem ml_M_128 : Cond.methodLink RX11 128 yX11_placeOf ∈ lw_tbl := List.mem_of_getElem? (i := 1237) (by decide +kernel)
theorem zf_M_88 : zFL RX11 88 11 5 := ⟨by decide, by decide, rfl, Or.inl (List.mem_of_getElem? (i := 1062) (by decide +kernel))⟩
theorem zf_M_13 : zFL RX11 13 11 1 := ⟨by decide, by decide, rfl, Or.inl (List.mem_of_getElem? (i := 1058) (by decide +kernel))⟩
theorem zf_M_16 : zFL RX11 16 11 2 := ⟨by decide, by decide, rfl, Or.inl (List.mem_of_getElem? (i := 1059) (by decide +kernel))⟩
theorem zf_M_19 : zFL RX11 19 11 3 := ⟨by decide, by decide, rfl, Or.inl (List.mem_of_getElem? (i := 1060) (by decide +kernel))⟩
theorem zf_M_91 : zFL RX11 91 11 4 := ⟨by decide, by decide, rfl, Or.inl (List.mem_of_getElem? (i := 1061) (by decide +kernel))⟩
theorem ml_X_123 : Cond.methodLink RX10 123 yX3_slotOf ∈ lw_tbl := List.mem_of_getElem? (i := 427) (by decide +kernel)
theorem ml_X_126 : Cond.methodLink RX10 126 yX3_leastOf ∈ lw_tbl := List.mem_of_getElem? (i := 435) (by decide +kernel)
theorem ml_X_129 : Cond.methodLink RX10 129 yX3_mostOf ∈ lw_tbl := List.mem_of_getElem? (i := 438) (by decide +kernel)
theorem zf_X_21 : zFL RX10 21 10 1 := ⟨by decide, by decide, rfl, Or.inl (List.mem_of_getElem? (i := 321) (by decide +kernel))⟩
theorem ml_X_133 : Cond.methodLink RX10 133 yX1_make ∈ lw_tbl := List.mem_of_getElem? (i := 442) (by decide +kernel)
theorem zf_Changes_19 : zFL RX1 19 1 0 := ⟨by decide, by decide, rfl, Or.inl (List.mem_of_getElem? (i := 141) (by decide +kernel))⟩
theorem ml_Changes_23 : Cond.methodLink RX1 23 yX3_toldAt ∈ lw_tbl := List.mem_of_getElem? (i := 446) (by decide +kernel)
theorem ml_Changes_29 : Cond.methodLink RX1 29 yX3_tell ∈ lw_tbl := List.mem_of_getElem? (i := 450) (by decide +kernel)
theorem zf_Changes_33 : zFL RX1 33 1 4 := ⟨by decide, by decide, rfl, Or.inl (List.mem_of_getElem? (i := 145) (by decide +kernel))⟩
theorem zf_Changes_9 : zFL RX1 9 1 1 := ⟨by decide, by decide, rfl, Or.inl (List.mem_of_getElem? (i := 142) (by decide +kernel))⟩
theorem zf_Changes_13 : zFL RX1 13 1 2 := ⟨by decide, by decide, rfl, Or.inl (List.mem_of_getElem? (i := 143) (by decide +kernel))⟩
theorem zf_Changes_16 : zFL RX1 16 1 3 := ⟨by decide, by decide, rfl, Or.inl (List.mem_of_getElem? (i := 144) (by decide +kernel))⟩
theorem zf_Changes_40 : zFL RX1 40 1 5 := ⟨by decide, by decide, rfl, Or.inl (List.mem_of_getElem? (i := 146) (by decide +kernel))⟩
theorem ml_Changes_37 : Cond.methodLink RX1 37 yX1_forgetOldest ∈ lw_tbl := List.mem_of_getElem? (i := 451) (by decide +kernel)
theorem ml_Changes_43 : Cond.methodLink RX1 43 arraycopyName ∈ lw_tbl := List.mem_of_getElem? (i := 455) (by decide +kernel)
theorem ml_Council_61 : Cond.methodLink RX3 61 yX3_isMatter ∈ lw_tbl := List.mem_of_getElem? (i := 431) (by decide +kernel)
theorem zf_M_85 : zFL RX11 85 11 12 := ⟨by decide, by decide, rfl, Or.inl (List.mem_of_getElem? (i := 1069) (by decide +kernel))⟩
theorem zf_M_82 : zFL RX11 82 11 11 := ⟨by decide, by decide, rfl, Or.inl (List.mem_of_getElem? (i := 1068) (by decide +kernel))⟩
theorem zf_X_140 : zFL RX10 140 3 7 := ⟨by decide, by decide, rfl, Or.inr ⟨"VotesUntouched", List.mem_of_getElem? (i := 115) (by decide +kernel)⟩⟩
theorem zf_X_136 : zFL RX10 136 3 6 := ⟨by decide, by decide, rfl, Or.inr ⟨"VotesUntouched", List.mem_of_getElem? (i := 113) (by decide +kernel)⟩⟩
theorem ml_M_144 : Cond.methodLink RX11 144 yX11_stepsTo ∈ lw_tbl := List.mem_of_getElem? (i := 1257) (by decide +kernel)
theorem ml_X_152 : Cond.methodLink RX10 152 yX3_stepsOf ∈ lw_tbl := List.mem_of_getElem? (i := 476) (by decide +kernel)
theorem ml_X_143 : Cond.methodLink RX10 143 yX10_toldOrVoid ∈ lw_tbl := List.mem_of_getElem? (i := 466) (by decide +kernel)
theorem ml_X_146 : Cond.methodLink RX10 146 yX3_isPerson ∈ lw_tbl := List.mem_of_getElem? (i := 471) (by decide +kernel)
theorem ml_X_149 : Cond.methodLink RX10 149 yX3_feeOf ∈ lw_tbl := List.mem_of_getElem? (i := 472) (by decide +kernel)
theorem ml_X_155 : Cond.methodLink RX10 155 yX3_toldAt ∈ lw_tbl := List.mem_of_getElem? (i := 470) (by decide +kernel)
theorem zf_M_149 : zFL RX11 149 11 14 := ⟨by decide, by decide, rfl, Or.inl (List.mem_of_getElem? (i := 1071) (by decide +kernel))⟩
theorem zf_M_28 : zFL RX11 28 11 13 := ⟨by decide, by decide, rfl, Or.inl (List.mem_of_getElem? (i := 1070) (by decide +kernel))⟩
theorem zf_X_28 : zFL RX10 28 10 2 := ⟨by decide, by decide, rfl, Or.inl (List.mem_of_getElem? (i := 322) (by decide +kernel))⟩
theorem ml_X_158 : Cond.methodLink RX10 158 yX6_take ∈ lw_tbl := List.mem_of_getElem? (i := 481) (by decide +kernel)
theorem zf_Reader_22 : zFL RX6 22 6 2 := ⟨by decide, by decide, rfl, Or.inl (List.mem_of_getElem? (i := 188) (by decide +kernel))⟩
theorem zf_Reader_11 : zFL RX6 11 6 0 := ⟨by decide, by decide, rfl, Or.inl (List.mem_of_getElem? (i := 185) (by decide +kernel))⟩
theorem ml_M_199 : Cond.methodLink RX11 199 yX11_workOut ∈ lw_tbl := List.mem_of_getElem? (i := 1270) (by decide +kernel)
theorem zf_M_161 : zFL RX11 161 11 20 := ⟨by decide, by decide, rfl, Or.inl (List.mem_of_getElem? (i := 1077) (by decide +kernel))⟩
theorem zf_M_78 : zFL RX11 78 11 16 := ⟨by decide, by decide, rfl, Or.inl (List.mem_of_getElem? (i := 1073) (by decide +kernel))⟩
theorem zf_M_31 : zFL RX11 31 11 15 := ⟨by decide, by decide, rfl, Or.inl (List.mem_of_getElem? (i := 1072) (by decide +kernel))⟩
theorem zf_M_158 : zFL RX11 158 11 17 := ⟨by decide, by decide, rfl, Or.inl (List.mem_of_getElem? (i := 1074) (by decide +kernel))⟩
theorem zf_M_152 : zFL RX11 152 11 18 := ⟨by decide, by decide, rfl, Or.inl (List.mem_of_getElem? (i := 1075) (by decide +kernel))⟩
theorem zf_M_155 : zFL RX11 155 11 19 := ⟨by decide, by decide, rfl, Or.inl (List.mem_of_getElem? (i := 1076) (by decide +kernel))⟩
theorem zf_M_186 : zFL RX11 186 11 21 := ⟨by decide, by decide, rfl, Or.inl (List.mem_of_getElem? (i := 1078) (by decide +kernel))⟩
theorem ml_M_189 : Cond.methodLink RX11 189 yX11_wrong ∈ lw_tbl := List.mem_of_getElem? (i := 1302) (by decide +kernel)
theorem ml_M_192 : Cond.methodLink RX11 192 yX11_either ∈ lw_tbl := List.mem_of_getElem? (i := 1274) (by decide +kernel)
theorem ml_M_171 : Cond.methodLink RX11 171 yX11_takes ∈ lw_tbl := List.mem_of_getElem? (i := 1306) (by decide +kernel)
theorem ml_M_168 : Cond.methodLink RX11 168 yX11_both ∈ lw_tbl := List.mem_of_getElem? (i := 1278) (by decide +kernel)
theorem ml_M_174 : Cond.methodLink RX11 174 yX11_compared ∈ lw_tbl := List.mem_of_getElem? (i := 1282) (by decide +kernel)
theorem ml_M_177 : Cond.methodLink RX11 177 yX11_sums ∈ lw_tbl := List.mem_of_getElem? (i := 1286) (by decide +kernel)
theorem ml_M_164 : Cond.methodLink RX11 164 yX11_byteAt ∈ lw_tbl := List.mem_of_getElem? (i := 1298) (by decide +kernel)
theorem ml_M_180 : Cond.methodLink RX11 180 yX11_product ∈ lw_tbl := List.mem_of_getElem? (i := 1290) (by decide +kernel)
theorem ml_M_183 : Cond.methodLink RX11 183 yX11_one ∈ lw_tbl := List.mem_of_getElem? (i := 1294) (by decide +kernel)
theorem ml_M_195 : Cond.methodLink RX11 195 yX11_nameOf ∈ lw_tbl := List.mem_of_getElem? (i := 1310) (by decide +kernel)
theorem zf_M_34 : zFL RX11 34 11 22 := ⟨by decide, by decide, rfl, Or.inl (List.mem_of_getElem? (i := 1079) (by decide +kernel))⟩
theorem ml_X_161 : Cond.methodLink RX10 161 yX6_read ∈ lw_tbl := List.mem_of_getElem? (i := 489) (by decide +kernel)
theorem zf_X_35 : zFL RX10 35 10 3 := ⟨by decide, by decide, rfl, Or.inl (List.mem_of_getElem? (i := 323) (by decide +kernel))⟩
theorem zf_X_164 : zFL RX10 164 6 1 := ⟨by decide, by decide, rfl, Or.inr ⟨"VotesUntouched", List.mem_of_getElem? (i := 187) (by decide +kernel)⟩⟩
theorem ml_X_167 : Cond.methodLink RX10 167 yX2_becomes ∈ lw_tbl := List.mem_of_getElem? (i := 534) (by decide +kernel)
theorem zf_Code_19 : zFL RX2 19 2 3 := ⟨by decide, by decide, rfl, Or.inl (List.mem_of_getElem? (i := 175) (by decide +kernel))⟩
theorem zf_Code_9 : zFL RX2 9 2 0 := ⟨by decide, by decide, rfl, Or.inl (List.mem_of_getElem? (i := 172) (by decide +kernel))⟩
theorem ml_Code_23 : Cond.methodLink RX2 23 arraycopyName ∈ lw_tbl := List.mem_of_getElem? (i := 538) (by decide +kernel)
theorem zf_Code_13 : zFL RX2 13 2 1 := ⟨by decide, by decide, rfl, Or.inl (List.mem_of_getElem? (i := 173) (by decide +kernel))⟩
theorem zf_Reader_26 : zFL RX6 26 6 3 := ⟨by decide, by decide, rfl, Or.inl (List.mem_of_getElem? (i := 190) (by decide +kernel))⟩
theorem zf_Reader_18 : zFL RX6 18 6 1 := ⟨by decide, by decide, rfl, Or.inl (List.mem_of_getElem? (i := 186) (by decide +kernel))⟩
theorem ml_Reader_29 : Cond.methodLink RX6 29 yX2_empty ∈ lw_tbl := List.mem_of_getElem? (i := 493) (by decide +kernel)
theorem ml_Reader_32 : Cond.methodLink RX6 32 yX6_readLine ∈ lw_tbl := List.mem_of_getElem? (i := 497) (by decide +kernel)
theorem ml_Reader_36 : Cond.methodLink RX6 36 yX6_next ∈ lw_tbl := List.mem_of_getElem? (i := 509) (by decide +kernel)
theorem ml_Reader_40 : Cond.methodLink RX6 40 yX6_readChain ∈ lw_tbl := List.mem_of_getElem? (i := 501) (by decide +kernel)
theorem ml_Reader_44 : Cond.methodLink RX6 44 yX2_add ∈ lw_tbl := List.mem_of_getElem? (i := 517) (by decide +kernel)
theorem ml_Reader_52 : Cond.methodLink RX6 52 yX6_levelOf ∈ lw_tbl := List.mem_of_getElem? (i := 531) (by decide +kernel)
theorem ml_Reader_48 : Cond.methodLink RX6 48 yX6_readOperand ∈ lw_tbl := List.mem_of_getElem? (i := 505) (by decide +kernel)
theorem ml_Reader_56 : Cond.methodLink RX6 56 yX6_readOpened ∈ lw_tbl := List.mem_of_getElem? (i := 513) (by decide +kernel)
theorem ml_Reader_59 : Cond.methodLink RX6 59 yX6_isDigit ∈ lw_tbl := List.mem_of_getElem? (i := 521) (by decide +kernel)
theorem ml_Reader_65 : Cond.methodLink RX6 65 yX6_nameOf ∈ lw_tbl := List.mem_of_getElem? (i := 528) (by decide +kernel)
theorem ml_Reader_62 : Cond.methodLink RX6 62 yX6_readNumber ∈ lw_tbl := List.mem_of_getElem? (i := 524) (by decide +kernel)
theorem ml_M_232 : Cond.methodLink RX11 232 yX11_isBundle ∈ lw_tbl := List.mem_of_getElem? (i := 1317) (by decide +kernel)
theorem ml_M_235 : Cond.methodLink RX11 235 yX11_areGifts ∈ lw_tbl := List.mem_of_getElem? (i := 1321) (by decide +kernel)
theorem ml_M_226 : Cond.methodLink RX11 226 yX11_asks ∈ lw_tbl := List.mem_of_getElem? (i := 1325) (by decide +kernel)
theorem zf_M_212 : zFL RX11 212 11 25 := ⟨by decide, by decide, rfl, Or.inl (List.mem_of_getElem? (i := 1082) (by decide +kernel))⟩
theorem ml_M_208 : Cond.methodLink RX11 208 yX11_touches ∈ lw_tbl := List.mem_of_getElem? (i := 1329) (by decide +kernel)
theorem ml_M_215 : Cond.methodLink RX11 215 yX11_mayVote ∈ lw_tbl := List.mem_of_getElem? (i := 1333) (by decide +kernel)
theorem ml_M_202 : Cond.methodLink RX11 202 yX11_nearOf ∈ lw_tbl := List.mem_of_getElem? (i := 1337) (by decide +kernel)
theorem zf_M_37 : zFL RX11 37 11 23 := ⟨by decide, by decide, rfl, Or.inl (List.mem_of_getElem? (i := 1080) (by decide +kernel))⟩
theorem zf_M_40 : zFL RX11 40 11 24 := ⟨by decide, by decide, rfl, Or.inl (List.mem_of_getElem? (i := 1081) (by decide +kernel))⟩
theorem ml_M_205 : Cond.methodLink RX11 205 yX11_bitsOf ∈ lw_tbl := List.mem_of_getElem? (i := 1341) (by decide +kernel)
theorem ml_X_171 : Cond.methodLink RX10 171 yX10_isPut ∈ lw_tbl := List.mem_of_getElem? (i := 543) (by decide +kernel)
theorem zf_X_44 : zFL RX10 44 10 4 := ⟨by decide, by decide, rfl, Or.inl (List.mem_of_getElem? (i := 324) (by decide +kernel))⟩
theorem ml_X_174 : Cond.methodLink RX10 174 yX0_whoMay ∈ lw_tbl := List.mem_of_getElem? (i := 563) (by decide +kernel)
theorem ml_Ballot_26 : Cond.methodLink RX0 26 yX0_weigh ∈ lw_tbl := List.mem_of_getElem? (i := 567) (by decide +kernel)
theorem zf_Ballot_18 : zFL RX0 18 0 0 := ⟨by decide, by decide, rfl, Or.inl (List.mem_of_getElem? (i := 208) (by decide +kernel))⟩
theorem zf_Ballot_30 : zFL RX0 30 3 3 := ⟨by decide, by decide, rfl, Or.inr ⟨"VotesUntouched", List.mem_of_getElem? (i := 103) (by decide +kernel)⟩⟩
theorem zf_Ballot_22 : zFL RX0 22 0 1 := ⟨by decide, by decide, rfl, Or.inl (List.mem_of_getElem? (i := 209) (by decide +kernel))⟩
theorem ml_Ballot_36 : Cond.methodLink RX0 36 yX2_isEmpty ∈ lw_tbl := List.mem_of_getElem? (i := 576) (by decide +kernel)
theorem ml_Ballot_49 : Cond.methodLink RX0 49 yX0_isAllowed ∈ lw_tbl := List.mem_of_getElem? (i := 590) (by decide +kernel)
theorem zf_Ballot_42 : zFL RX0 42 3 6 := ⟨by decide, by decide, rfl, Or.inr ⟨"VotesUntouched", List.mem_of_getElem? (i := 112) (by decide +kernel)⟩⟩
theorem ml_Ballot_45 : Cond.methodLink RX0 45 yX0_isFree ∈ lw_tbl := List.mem_of_getElem? (i := 580) (by decide +kernel)
theorem zf_Ballot_53 : zFL RX0 53 0 4 := ⟨by decide, by decide, rfl, Or.inl (List.mem_of_getElem? (i := 212) (by decide +kernel))⟩
theorem ml_Ballot_60 : Cond.methodLink RX0 60 yX0_nearOf ∈ lw_tbl := List.mem_of_getElem? (i := 584) (by decide +kernel)
theorem ml_Ballot_73 : Cond.methodLink RX0 73 yX3_stepsOf ∈ lw_tbl := List.mem_of_getElem? (i := 588) (by decide +kernel)
theorem ml_Ballot_77 : Cond.methodLink RX0 77 Lib.Math.min.name ∈ lw_tbl := List.mem_of_getElem? (i := 589) (by decide +kernel)
theorem zf_Ballot_15 : zFL RX0 15 0 3 := ⟨by decide, by decide, rfl, Or.inl (List.mem_of_getElem? (i := 211) (by decide +kernel))⟩
theorem zf_Ballot_9 : zFL RX0 9 0 2 := ⟨by decide, by decide, rfl, Or.inl (List.mem_of_getElem? (i := 210) (by decide +kernel))⟩
theorem ml_Ballot_56 : Cond.methodLink RX0 56 yX3_sumOf ∈ lw_tbl := List.mem_of_getElem? (i := 571) (by decide +kernel)
theorem ml_Ballot_64 : Cond.methodLink RX0 64 yJ6_bitCount_0f7a4 ∈ lw_tbl := List.mem_of_getElem? (i := 594) (by decide +kernel)
theorem ml_Ballot_69 : Cond.methodLink RX0 69 yX2_worth ∈ lw_tbl := List.mem_of_getElem? (i := 600) (by decide +kernel)
theorem zf_Code_16 : zFL RX2 16 2 2 := ⟨by decide, by decide, rfl, Or.inl (List.mem_of_getElem? (i := 174) (by decide +kernel))⟩
theorem ml_Code_29 : Cond.methodLink RX2 29 yX2_named ∈ lw_tbl := List.mem_of_getElem? (i := 604) (by decide +kernel)
theorem ml_Code_33 : Cond.methodLink RX2 33 yX2_needOf ∈ lw_tbl := List.mem_of_getElem? (i := 607) (by decide +kernel)
theorem ml_Code_37 : Cond.methodLink RX2 37 yX2_joined ∈ lw_tbl := List.mem_of_getElem? (i := 610) (by decide +kernel)
theorem ml_Council_64 : Cond.methodLink RX3 64 yX3_toldAt ∈ lw_tbl := List.mem_of_getElem? (i := 575) (by decide +kernel)
theorem ml_X_187 : Cond.methodLink RX10 187 yX3_isBundle ∈ lw_tbl := List.mem_of_getElem? (i := 547) (by decide +kernel)
theorem ml_X_190 : Cond.methodLink RX10 190 yX3_isGifts ∈ lw_tbl := List.mem_of_getElem? (i := 555) (by decide +kernel)
theorem ml_Council_42 : Cond.methodLink RX3 42 yX3_everybody ∈ lw_tbl := List.mem_of_getElem? (i := 559) (by decide +kernel)
theorem ml_Council_38 : Cond.methodLink RX3 38 yX3_everything ∈ lw_tbl := List.mem_of_getElem? (i := 551) (by decide +kernel)
theorem ml_M_240 : Cond.methodLink RX11 240 yX11_isCarried ∈ lw_tbl := List.mem_of_getElem? (i := 1349) (by decide +kernel)
theorem ml_M_219 : Cond.methodLink RX11 219 yX11_sideOf ∈ lw_tbl := List.mem_of_getElem? (i := 1361) (by decide +kernel)
theorem ml_M_229 : Cond.methodLink RX11 229 yX11_isCarriedBy ∈ lw_tbl := List.mem_of_getElem? (i := 1353) (by decide +kernel)
theorem ml_M_223 : Cond.methodLink RX11 223 yX11_isMore ∈ lw_tbl := List.mem_of_getElem? (i := 1357) (by decide +kernel)
theorem ml_X_184 : Cond.methodLink RX10 184 yX0_isCarried ∈ lw_tbl := List.mem_of_getElem? (i := 629) (by decide +kernel)
theorem ml_X_181 : Cond.methodLink RX10 181 yX0_foes ∈ lw_tbl := List.mem_of_getElem? (i := 625) (by decide +kernel)
theorem ml_X_178 : Cond.methodLink RX10 178 yX0_fans ∈ lw_tbl := List.mem_of_getElem? (i := 617) (by decide +kernel)
theorem ml_Ballot_82 : Cond.methodLink RX0 82 yX0_whoLeans ∈ lw_tbl := List.mem_of_getElem? (i := 621) (by decide +kernel)
theorem ml_Ballot_85 : Cond.methodLink RX0 85 yX0_whoMay ∈ lw_tbl := List.mem_of_getElem? (i := 633) (by decide +kernel)
theorem ml_Ballot_88 : Cond.methodLink RX0 88 yX0_fans ∈ lw_tbl := List.mem_of_getElem? (i := 634) (by decide +kernel)
theorem ml_Ballot_91 : Cond.methodLink RX0 91 yX0_foes ∈ lw_tbl := List.mem_of_getElem? (i := 635) (by decide +kernel)
theorem ml_Ballot_94 : Cond.methodLink RX0 94 yX0_isCarriedBy ∈ lw_tbl := List.mem_of_getElem? (i := 636) (by decide +kernel)
theorem zf_Ballot_97 : zFL RX0 97 3 7 := ⟨by decide, by decide, rfl, Or.inr ⟨"VotesUntouched", List.mem_of_getElem? (i := 116) (by decide +kernel)⟩⟩
theorem ml_Ballot_100 : Cond.methodLink RX0 100 yX0_isMore ∈ lw_tbl := List.mem_of_getElem? (i := 640) (by decide +kernel)
theorem ml_X_193 : Cond.methodLink RX10 193 yX3_isMatter ∈ lw_tbl := List.mem_of_getElem? (i := 647) (by decide +kernel)
theorem zf_X_53 : zFL RX10 53 10 5 := ⟨by decide, by decide, rfl, Or.inl (List.mem_of_getElem? (i := 325) (by decide +kernel))⟩
theorem ml_X_196 : Cond.methodLink RX10 196 yX5_smallestCarriedWith ∈ lw_tbl := List.mem_of_getElem? (i := 648) (by decide +kernel)
theorem zf_Finder_24 : zFL RX5 24 5 0 := ⟨by decide, by decide, rfl, Or.inl (List.mem_of_getElem? (i := 230) (by decide +kernel))⟩
theorem ml_Finder_32 : Cond.methodLink RX5 32 yX3_everything ∈ lw_tbl := List.mem_of_getElem? (i := 652) (by decide +kernel)
theorem ml_Finder_38 : Cond.methodLink RX5 38 yX5_isFewer ∈ lw_tbl := List.mem_of_getElem? (i := 653) (by decide +kernel)
theorem zf_Finder_28 : zFL RX5 28 5 1 := ⟨by decide, by decide, rfl, Or.inl (List.mem_of_getElem? (i := 231) (by decide +kernel))⟩
theorem ml_Finder_42 : Cond.methodLink RX5 42 yX0_isCarried ∈ lw_tbl := List.mem_of_getElem? (i := 657) (by decide +kernel)
theorem ml_Finder_47 : Cond.methodLink RX5 47 yJ6_bitCount_0f7a4 ∈ lw_tbl := List.mem_of_getElem? (i := 656) (by decide +kernel)
theorem ml_M_243 : Cond.methodLink RX11 243 yX11_feesOf ∈ lw_tbl := List.mem_of_getElem? (i := 1373) (by decide +kernel)
theorem ml_X_199 : Cond.methodLink RX10 199 yX5_cheapestGifts ∈ lw_tbl := List.mem_of_getElem? (i := 662) (by decide +kernel)
theorem ml_X_202 : Cond.methodLink RX10 202 yX3_feesOf ∈ lw_tbl := List.mem_of_getElem? (i := 675) (by decide +kernel)
theorem ml_Finder_53 : Cond.methodLink RX5 53 yX3_everybody ∈ lw_tbl := List.mem_of_getElem? (i := 666) (by decide +kernel)
theorem ml_Finder_56 : Cond.methodLink RX5 56 yX5_isCheaper ∈ lw_tbl := List.mem_of_getElem? (i := 667) (by decide +kernel)
theorem ml_Finder_59 : Cond.methodLink RX5 59 yX3_feesOf ∈ lw_tbl := List.mem_of_getElem? (i := 671) (by decide +kernel)
theorem ml_X_205 : Cond.methodLink RX10 205 yX5_fewestLeftOut ∈ lw_tbl := List.mem_of_getElem? (i := 680) (by decide +kernel)
theorem ml_Finder_62 : Cond.methodLink RX5 62 yX0_whoMay ∈ lw_tbl := List.mem_of_getElem? (i := 684) (by decide +kernel)
theorem ml_X_208 : Cond.methodLink RX10 208 yX5_carriedAlone ∈ lw_tbl := List.mem_of_getElem? (i := 689) (by decide +kernel)
theorem zf_Finder_66 : zFL RX5 66 3 5 := ⟨by decide, by decide, rfl, Or.inr ⟨"VotesUntouched", List.mem_of_getElem? (i := 109) (by decide +kernel)⟩⟩
theorem ml_M_246 : Cond.methodLink RX11 246 yX11_parts ∈ lw_tbl := List.mem_of_getElem? (i := 1389) (by decide +kernel)
theorem zf_M_50 : zFL RX11 50 11 28 := ⟨by decide, by decide, rfl, Or.inl (List.mem_of_getElem? (i := 1085) (by decide +kernel))⟩
theorem zf_M_47 : zFL RX11 47 11 27 := ⟨by decide, by decide, rfl, Or.inl (List.mem_of_getElem? (i := 1084) (by decide +kernel))⟩
theorem zf_M_43 : zFL RX11 43 11 26 := ⟨by decide, by decide, rfl, Or.inl (List.mem_of_getElem? (i := 1083) (by decide +kernel))⟩
theorem ml_X_211 : Cond.methodLink RX10 211 yX5_part ∈ lw_tbl := List.mem_of_getElem? (i := 697) (by decide +kernel)
theorem ml_X_217 : Cond.methodLink RX10 217 yX5_partOf ∈ lw_tbl := List.mem_of_getElem? (i := 705) (by decide +kernel)
theorem ml_X_214 : Cond.methodLink RX10 214 yX5_mostCarried ∈ lw_tbl := List.mem_of_getElem? (i := 701) (by decide +kernel)
theorem zf_Finder_15 : zFL RX5 15 5 3 := ⟨by decide, by decide, rfl, Or.inl (List.mem_of_getElem? (i := 233) (by decide +kernel))⟩
theorem zf_Finder_18 : zFL RX5 18 5 4 := ⟨by decide, by decide, rfl, Or.inl (List.mem_of_getElem? (i := 234) (by decide +kernel))⟩
theorem zf_Finder_21 : zFL RX5 21 5 5 := ⟨by decide, by decide, rfl, Or.inl (List.mem_of_getElem? (i := 235) (by decide +kernel))⟩
theorem ml_M_249 : Cond.methodLink RX11 249 yX11_sayOf ∈ lw_tbl := List.mem_of_getElem? (i := 1397) (by decide +kernel)
theorem ml_X_223 : Cond.methodLink RX10 223 yX5_powerOf ∈ lw_tbl := List.mem_of_getElem? (i := 721) (by decide +kernel)
theorem ml_X_220 : Cond.methodLink RX10 220 yX5_sayOf ∈ lw_tbl := List.mem_of_getElem? (i := 713) (by decide +kernel)
theorem ml_Finder_70 : Cond.methodLink RX5 70 yX5_countSays ∈ lw_tbl := List.mem_of_getElem? (i := 717) (by decide +kernel)
theorem zf_Finder_9 : zFL RX5 9 5 2 := ⟨by decide, by decide, rfl, Or.inl (List.mem_of_getElem? (i := 232) (by decide +kernel))⟩
theorem ml_Finder_73 : Cond.methodLink RX5 73 yX0_fans ∈ lw_tbl := List.mem_of_getElem? (i := 725) (by decide +kernel)
theorem ml_Finder_76 : Cond.methodLink RX5 76 yX0_foes ∈ lw_tbl := List.mem_of_getElem? (i := 726) (by decide +kernel)
theorem ml_Finder_79 : Cond.methodLink RX5 79 yX0_isCarriedBy ∈ lw_tbl := List.mem_of_getElem? (i := 727) (by decide +kernel)
theorem zf_X_226 : zFL RX10 226 3 3 := ⟨by decide, by decide, rfl, Or.inr ⟨"VotesUntouched", List.mem_of_getElem? (i := 105) (by decide +kernel)⟩⟩
theorem ml_X_229 : Cond.methodLink RX10 229 yX5_mostSaying ∈ lw_tbl := List.mem_of_getElem? (i := 732) (by decide +kernel)
theorem zf_Finder_83 : zFL RX5 83 3 3 := ⟨by decide, by decide, rfl, Or.inr ⟨"VotesUntouched", List.mem_of_getElem? (i := 104) (by decide +kernel)⟩⟩
theorem ml_M_252 : Cond.methodLink RX11 252 yX11_common ∈ lw_tbl := List.mem_of_getElem? (i := 1409) (by decide +kernel)
theorem ml_X_232 : Cond.methodLink RX10 232 yX5_twelfthsCarried ∈ lw_tbl := List.mem_of_getElem? (i := 740) (by decide +kernel)
theorem ml_X_235 : Cond.methodLink RX10 235 yX5_twelfths ∈ lw_tbl := List.mem_of_getElem? (i := 752) (by decide +kernel)
theorem ml_X_238 : Cond.methodLink RX10 238 yX5_commonDivisor ∈ lw_tbl := List.mem_of_getElem? (i := 755) (by decide +kernel)
theorem ml_Finder_86 : Cond.methodLink RX5 86 yX5_weightOf ∈ lw_tbl := List.mem_of_getElem? (i := 744) (by decide +kernel)
theorem ml_Finder_90 : Cond.methodLink RX5 90 yX3_rumourOf ∈ lw_tbl := List.mem_of_getElem? (i := 748) (by decide +kernel)
theorem ml_X_241 : Cond.methodLink RX10 241 yX5_fewestLies ∈ lw_tbl := List.mem_of_getElem? (i := 762) (by decide +kernel)
theorem ml_X_244 : Cond.methodLink RX10 244 yX5_stepWithFewer ∈ lw_tbl := List.mem_of_getElem? (i := 770) (by decide +kernel)
theorem ml_Finder_93 : Cond.methodLink RX5 93 yX0_whoIsFree ∈ lw_tbl := List.mem_of_getElem? (i := 774) (by decide +kernel)
theorem ml_M_258 : Cond.methodLink RX11 258 yX11_drawnOf ∈ lw_tbl := List.mem_of_getElem? (i := 1426) (by decide +kernel)
theorem ml_X_247 : Cond.methodLink RX10 247 yX5_oftenCarriedByLot ∈ lw_tbl := List.mem_of_getElem? (i := 782) (by decide +kernel)
theorem ml_Finder_100 : Cond.methodLink RX5 100 yX0_isMore ∈ lw_tbl := List.mem_of_getElem? (i := 790) (by decide +kernel)
theorem ml_Finder_97 : Cond.methodLink RX5 97 yX5_bitAt ∈ lw_tbl := List.mem_of_getElem? (i := 787) (by decide +kernel)
theorem ml_M_261 : Cond.methodLink RX11 261 yX11_yearIs ∈ lw_tbl := List.mem_of_getElem? (i := 1434) (by decide +kernel)
theorem ml_M_264 : Cond.methodLink RX11 264 yX11_bundleAt ∈ lw_tbl := List.mem_of_getElem? (i := 1438) (by decide +kernel)
theorem ml_M_267 : Cond.methodLink RX11 267 yX11_silentAt ∈ lw_tbl := List.mem_of_getElem? (i := 1442) (by decide +kernel)
theorem ml_X_251 : Cond.methodLink RX10 251 yX7_refusedAsRow ∈ lw_tbl := List.mem_of_getElem? (i := 795) (by decide +kernel)
theorem zf_X_69 : zFL RX10 69 10 7 := ⟨by decide, by decide, rfl, Or.inl (List.mem_of_getElem? (i := 327) (by decide +kernel))⟩
theorem ml_X_254 : Cond.methodLink RX10 254 yX9_firstWrong ∈ lw_tbl := List.mem_of_getElem? (i := 799) (by decide +kernel)
theorem zf_Years_19 : zFL RX9 19 9 2 := ⟨by decide, by decide, rfl, Or.inl (List.mem_of_getElem? (i := 277) (by decide +kernel))⟩
theorem ml_Years_23 : Cond.methodLink RX9 23 yX7_sizeOf ∈ lw_tbl := List.mem_of_getElem? (i := 803) (by decide +kernel)
theorem ml_Years_29 : Cond.methodLink RX9 29 yX9_isWhole ∈ lw_tbl := List.mem_of_getElem? (i := 807) (by decide +kernel)
theorem ml_Years_33 : Cond.methodLink RX9 33 yX9_silentAt ∈ lw_tbl := List.mem_of_getElem? (i := 818) (by decide +kernel)
theorem ml_Years_37 : Cond.methodLink RX9 37 yX9_bundleAt ∈ lw_tbl := List.mem_of_getElem? (i := 812) (by decide +kernel)
theorem ml_Years_40 : Cond.methodLink RX9 40 yX9_mustBeSilent ∈ lw_tbl := List.mem_of_getElem? (i := 822) (by decide +kernel)
theorem zf_Years_9 : zFL RX9 9 9 0 := ⟨by decide, by decide, rfl, Or.inl (List.mem_of_getElem? (i := 275) (by decide +kernel))⟩
theorem ml_Years_43 : Cond.methodLink RX9 43 yX3_everybody ∈ lw_tbl := List.mem_of_getElem? (i := 826) (by decide +kernel)
theorem zf_Years_15 : zFL RX9 15 9 1 := ⟨by decide, by decide, rfl, Or.inl (List.mem_of_getElem? (i := 276) (by decide +kernel))⟩
theorem ml_Years_49 : Cond.methodLink RX9 49 yX0_whoMay ∈ lw_tbl := List.mem_of_getElem? (i := 827) (by decide +kernel)
theorem ml_Years_62 : Cond.methodLink RX9 62 yX7_valueAt ∈ lw_tbl := List.mem_of_getElem? (i := 816) (by decide +kernel)
theorem ml_Years_55 : Cond.methodLink RX9 55 yX7_hasPlace ∈ lw_tbl := List.mem_of_getElem? (i := 811) (by decide +kernel)
theorem ml_Years_58 : Cond.methodLink RX9 58 yX3_isBundle ∈ lw_tbl := List.mem_of_getElem? (i := 817) (by decide +kernel)
theorem ml_M_270 : Cond.methodLink RX11 270 yX11_isVotedBeside ∈ lw_tbl := List.mem_of_getElem? (i := 1450) (by decide +kernel)
theorem ml_X_257 : Cond.methodLink RX10 257 yX9_isShown ∈ lw_tbl := List.mem_of_getElem? (i := 832) (by decide +kernel)
theorem ml_Years_66 : Cond.methodLink RX9 66 yX9_isSilentFor ∈ lw_tbl := List.mem_of_getElem? (i := 836) (by decide +kernel)
theorem ml_Years_70 : Cond.methodLink RX9 70 yX9_hasVotedOn ∈ lw_tbl := List.mem_of_getElem? (i := 840) (by decide +kernel)
theorem zf_M_53 : zFL RX11 53 11 29 := ⟨by decide, by decide, rfl, Or.inl (List.mem_of_getElem? (i := 1086) (by decide +kernel))⟩
theorem zf_X_76 : zFL RX10 76 10 8 := ⟨by decide, by decide, rfl, Or.inl (List.mem_of_getElem? (i := 328) (by decide +kernel))⟩
theorem ml_X_261 : Cond.methodLink RX10 261 yX4_decided ∈ lw_tbl := List.mem_of_getElem? (i := 848) (by decide +kernel)
theorem ml_X_264 : Cond.methodLink RX10 264 yX4_enter ∈ lw_tbl := List.mem_of_getElem? (i := 852) (by decide +kernel)
theorem zf_Deeds_11 : zFL RX4 11 4 0 := ⟨by decide, by decide, rfl, Or.inl (List.mem_of_getElem? (i := 291) (by decide +kernel))⟩
theorem ml_X_272 : Cond.methodLink RX10 272 yX4_told ∈ lw_tbl := List.mem_of_getElem? (i := 864) (by decide +kernel)
theorem ml_X_268 : Cond.methodLink RX10 268 yX4_isAny ∈ lw_tbl := List.mem_of_getElem? (i := 860) (by decide +kernel)
theorem zf_M_274 : zFL RX11 274 11 31 := ⟨by decide, by decide, rfl, Or.inl (List.mem_of_getElem? (i := 1088) (by decide +kernel))⟩
theorem zf_M_56 : zFL RX11 56 11 30 := ⟨by decide, by decide, rfl, Or.inl (List.mem_of_getElem? (i := 1087) (by decide +kernel))⟩
theorem ml_X_275 : Cond.methodLink RX10 275 yX4_keepImage ∈ lw_tbl := List.mem_of_getElem? (i := 872) (by decide +kernel)
theorem zf_Deeds_15 : zFL RX4 15 4 1 := ⟨by decide, by decide, rfl, Or.inl (List.mem_of_getElem? (i := 292) (by decide +kernel))⟩
theorem ml_Deeds_18 : Cond.methodLink RX4 18 arraycopyName ∈ lw_tbl := List.mem_of_getElem? (i := 876) (by decide +kernel)
theorem zf_Deeds_24 : zFL RX4 24 4 2 := ⟨by decide, by decide, rfl, Or.inl (List.mem_of_getElem? (i := 293) (by decide +kernel))⟩
theorem ml_X_278 : Cond.methodLink RX10 278 yX4_goBack ∈ lw_tbl := List.mem_of_getElem? (i := 881) (by decide +kernel)
theorem ml_X_281 : Cond.methodLink RX10 281 yX1_takeBack ∈ lw_tbl := List.mem_of_getElem? (i := 889) (by decide +kernel)
theorem ml_X_284 : Cond.methodLink RX10 284 yX1_undoable ∈ lw_tbl := List.mem_of_getElem? (i := 893) (by decide +kernel)
theorem ml_X_287 : Cond.methodLink RX10 287 yX1_makeAgain ∈ lw_tbl := List.mem_of_getElem? (i := 901) (by decide +kernel)
theorem ml_X_290 : Cond.methodLink RX10 290 yX1_redoable ∈ lw_tbl := List.mem_of_getElem? (i := 905) (by decide +kernel)
theorem zf_M_278 : zFL RX11 278 11 32 := ⟨by decide, by decide, rfl, Or.inl (List.mem_of_getElem? (i := 1089) (by decide +kernel))⟩
theorem zf_M_59 : zFL RX11 59 11 33 := ⟨by decide, by decide, rfl, Or.inl (List.mem_of_getElem? (i := 1090) (by decide +kernel))⟩
theorem ml_X_293 : Cond.methodLink RX10 293 yX8_isKind ∈ lw_tbl := List.mem_of_getElem? (i := 913) (by decide +kernel)
theorem zf_X_83 : zFL RX10 83 10 9 := ⟨by decide, by decide, rfl, Or.inl (List.mem_of_getElem? (i := 329) (by decide +kernel))⟩
theorem ml_X_296 : Cond.methodLink RX10 296 yX8_add ∈ lw_tbl := List.mem_of_getElem? (i := 916) (by decide +kernel)
theorem zf_Voters_26 : zFL RX8 26 8 2 := ⟨by decide, by decide, rfl, Or.inl (List.mem_of_getElem? (i := 309) (by decide +kernel))⟩
theorem zf_Voters_11 : zFL RX8 11 8 0 := ⟨by decide, by decide, rfl, Or.inl (List.mem_of_getElem? (i := 307) (by decide +kernel))⟩
theorem zf_M_283 : zFL RX11 283 11 35 := ⟨by decide, by decide, rfl, Or.inl (List.mem_of_getElem? (i := 1092) (by decide +kernel))⟩
theorem ml_M_308 : Cond.methodLink RX11 308 yX11_isBody ∈ lw_tbl := List.mem_of_getElem? (i := 1479) (by decide +kernel)
theorem zf_M_299 : zFL RX11 299 11 36 := ⟨by decide, by decide, rfl, Or.inl (List.mem_of_getElem? (i := 1093) (by decide +kernel))⟩
theorem zf_M_293 : zFL RX11 293 11 37 := ⟨by decide, by decide, rfl, Or.inl (List.mem_of_getElem? (i := 1094) (by decide +kernel))⟩
theorem ml_M_305 : Cond.methodLink RX11 305 yX11_tellsAs ∈ lw_tbl := List.mem_of_getElem? (i := 1499) (by decide +kernel)
theorem ml_M_302 : Cond.methodLink RX11 302 yX11_givesAs ∈ lw_tbl := List.mem_of_getElem? (i := 1495) (by decide +kernel)
theorem ml_M_296 : Cond.methodLink RX11 296 yX11_ownsAs ∈ lw_tbl := List.mem_of_getElem? (i := 1491) (by decide +kernel)
theorem ml_M_290 : Cond.methodLink RX11 290 yX11_votesAs ∈ lw_tbl := List.mem_of_getElem? (i := 1483) (by decide +kernel)
theorem ml_M_286 : Cond.methodLink RX11 286 yX11_begins ∈ lw_tbl := List.mem_of_getElem? (i := 1487) (by decide +kernel)
theorem zf_M_62 : zFL RX11 62 11 34 := ⟨by decide, by decide, rfl, Or.inl (List.mem_of_getElem? (i := 1091) (by decide +kernel))⟩
theorem ml_X_299 : Cond.methodLink RX10 299 yX8_perform ∈ lw_tbl := List.mem_of_getElem? (i := 924) (by decide +kernel)
theorem zf_Voters_33 : zFL RX8 33 8 3 := ⟨by decide, by decide, rfl, Or.inl (List.mem_of_getElem? (i := 310) (by decide +kernel))⟩
theorem ml_Voters_30 : Cond.methodLink RX8 30 yX8_isVoter ∈ lw_tbl := List.mem_of_getElem? (i := 928) (by decide +kernel)
theorem ml_Voters_36 : Cond.methodLink RX8 36 yX8_own ∈ lw_tbl := List.mem_of_getElem? (i := 932) (by decide +kernel)
theorem ml_Voters_40 : Cond.methodLink RX8 40 yX8_kindOf ∈ lw_tbl := List.mem_of_getElem? (i := 936) (by decide +kernel)
theorem ml_Voters_43 : Cond.methodLink RX8 43 yX8_runFrom ∈ lw_tbl := List.mem_of_getElem? (i := 940) (by decide +kernel)
theorem ml_Voters_47 : Cond.methodLink RX8 47 yX8_bodyAt ∈ lw_tbl := List.mem_of_getElem? (i := 944) (by decide +kernel)
theorem ml_Voters_51 : Cond.methodLink RX8 51 yX8_begin ∈ lw_tbl := List.mem_of_getElem? (i := 955) (by decide +kernel)
theorem ml_Voters_22 : Cond.methodLink RX8 22 yX8_aboveOf ∈ lw_tbl := List.mem_of_getElem? (i := 950) (by decide +kernel)
theorem ml_Voters_55 : Cond.methodLink RX8 55 yX8_run ∈ lw_tbl := List.mem_of_getElem? (i := 959) (by decide +kernel)
theorem ml_Voters_18 : Cond.methodLink RX8 18 yX8_isKind ∈ lw_tbl := List.mem_of_getElem? (i := 947) (by decide +kernel)
theorem zf_Voters_15 : zFL RX8 15 8 1 := ⟨by decide, by decide, rfl, Or.inl (List.mem_of_getElem? (i := 308) (by decide +kernel))⟩
theorem ml_X_302 : Cond.methodLink RX10 302 yX8_ranAt ∈ lw_tbl := List.mem_of_getElem? (i := 967) (by decide +kernel)
theorem ml_X_308 : Cond.methodLink RX10 308 yX7_holdVoter ∈ lw_tbl := List.mem_of_getElem? (i := 976) (by decide +kernel)
theorem ml_X_305 : Cond.methodLink RX10 305 yX8_isVoter ∈ lw_tbl := List.mem_of_getElem? (i := 975) (by decide +kernel)
theorem zf_Shelves_18 : zFL RX7 18 7 2 := ⟨by decide, by decide, rfl, Or.inl (List.mem_of_getElem? (i := 257) (by decide +kernel))⟩
theorem ml_X_312 : Cond.methodLink RX10 312 yX7_isSort ∈ lw_tbl := List.mem_of_getElem? (i := 984) (by decide +kernel)
theorem ml_X_315 : Cond.methodLink RX10 315 yX7_holdRow ∈ lw_tbl := List.mem_of_getElem? (i := 987) (by decide +kernel)
theorem ml_M_313 : Cond.methodLink RX11 313 yX11_refusal ∈ lw_tbl := List.mem_of_getElem? (i := 1519) (by decide +kernel)
theorem ml_M_316 : Cond.methodLink RX11 316 yX11_asSort ∈ lw_tbl := List.mem_of_getElem? (i := 1523) (by decide +kernel)
theorem ml_X_319 : Cond.methodLink RX10 319 yX7_refusedAt ∈ lw_tbl := List.mem_of_getElem? (i := 995) (by decide +kernel)
theorem ml_X_322 : Cond.methodLink RX10 322 yX7_set ∈ lw_tbl := List.mem_of_getElem? (i := 1000) (by decide +kernel)
theorem ml_Shelves_40 : Cond.methodLink RX7 40 yX7_lowestBits ∈ lw_tbl := List.mem_of_getElem? (i := 1004) (by decide +kernel)
theorem ml_Shelves_29 : Cond.methodLink RX7 29 yX7_isSort ∈ lw_tbl := List.mem_of_getElem? (i := 999) (by decide +kernel)
theorem zf_M_75 : zFL RX11 75 11 41 := ⟨by decide, by decide, rfl, Or.inl (List.mem_of_getElem? (i := 1098) (by decide +kernel))⟩
theorem ml_X_328 : Cond.methodLink RX10 328 yX7_hasPlaces ∈ lw_tbl := List.mem_of_getElem? (i := 1016) (by decide +kernel)
theorem ml_X_331 : Cond.methodLink RX10 331 yX7_copy ∈ lw_tbl := List.mem_of_getElem? (i := 1021) (by decide +kernel)
theorem ml_Shelves_44 : Cond.methodLink RX7 44 yX7_hasPlaces ∈ lw_tbl := List.mem_of_getElem? (i := 1025) (by decide +kernel)
theorem ml_Shelves_48 : Cond.methodLink RX7 48 arraycopyName ∈ lw_tbl := List.mem_of_getElem? (i := 1026) (by decide +kernel)
theorem ml_Shelves_36 : Cond.methodLink RX7 36 yX7_sizeOf ∈ lw_tbl := List.mem_of_getElem? (i := 1020) (by decide +kernel)
theorem ml_M_324 : Cond.methodLink RX11 324 yX11_kindOf ∈ lw_tbl := List.mem_of_getElem? (i := 1539) (by decide +kernel)
theorem ml_M_327 : Cond.methodLink RX11 327 yX11_above ∈ lw_tbl := List.mem_of_getElem? (i := 1543) (by decide +kernel)
theorem ml_X_335 : Cond.methodLink RX10 335 yX7_voterOn ∈ lw_tbl := List.mem_of_getElem? (i := 1031) (by decide +kernel)
theorem ml_X_338 : Cond.methodLink RX10 338 yX8_kindOf ∈ lw_tbl := List.mem_of_getElem? (i := 1035) (by decide +kernel)
theorem ml_X_341 : Cond.methodLink RX10 341 yX8_isUnder ∈ lw_tbl := List.mem_of_getElem? (i := 1036) (by decide +kernel)
theorem ml_X_356 : Cond.methodLink RX10 356 yX8_ranInAll ∈ lw_tbl := List.mem_of_getElem? (i := 1047) (by decide +kernel)
theorem ml_X_353 : Cond.methodLink RX10 353 yX8_size ∈ lw_tbl := List.mem_of_getElem? (i := 1043) (by decide +kernel)
theorem zf_X_350 : zFL RX10 350 6 2 := ⟨by decide, by decide, rfl, Or.inr ⟨"VotesUntouched", List.mem_of_getElem? (i := 189) (by decide +kernel)⟩⟩
theorem zf_X_347 : zFL RX10 347 3 4 := ⟨by decide, by decide, rfl, Or.inr ⟨"VotesUntouched", List.mem_of_getElem? (i := 107) (by decide +kernel)⟩⟩
theorem zf_X_344 : zFL RX10 344 3 5 := ⟨by decide, by decide, rfl, Or.inr ⟨"VotesUntouched", List.mem_of_getElem? (i := 110) (by decide +kernel)⟩⟩
theorem v_X_isFee : zCS m_X_isFee 1 := ⟨⟨List.mem_of_getElem? (i := 357) (by decide +kernel), List.mem_of_getElem? (i := 70) (by decide +kernel), by decide +kernel, by decide +kernel, by decide⟩, List.mem_of_getElem? (i := 356) (by decide +kernel)⟩
theorem zic_0 : Int32.ofInt (0) = (0 : Int32) := by decide +kernel
theorem zib_99 : (Int8.ofInt (99)).toInt32 = (99 : Int32) := by decide +kernel
theorem zic_1 : Int32.ofInt (1) = (1 : Int32) := by decide +kernel
theorem v_Council_addPerson : zCV m_Council_addPerson 1 := ⟨⟨List.mem_of_getElem? (i := 361) (by decide +kernel), List.mem_of_getElem? (i := 71) (by decide +kernel), by decide +kernel, by decide +kernel, by decide⟩, List.mem_of_getElem? (i := 359) (by decide +kernel), List.mem_of_getElem? (i := 360) (by decide +kernel)⟩
theorem zib_10 : (Int8.ofInt (10)).toInt32 = (10 : Int32) := by decide +kernel
theorem zp_3_3 : ((zcls 3).2.1 3).2.2.2 = false ∧ zty 3 3 = .int := by decide +kernel
theorem zib_m3 : (Int8.ofInt (-3)).toInt32 = (-3 : Int32) := by decide +kernel
theorem v_X_person : zCV m_X_person 1 := ⟨⟨List.mem_of_getElem? (i := 354) (by decide +kernel), List.mem_of_getElem? (i := 70) (by decide +kernel), by decide +kernel, by decide +kernel, by decide⟩, List.mem_of_getElem? (i := 352) (by decide +kernel), List.mem_of_getElem? (i := 353) (by decide +kernel)⟩
theorem zic_m1 : Int32.ofInt (-1) = (-1 : Int32) := by decide +kernel
theorem v_M_within : zCS m_M_within 3 := ⟨⟨List.mem_of_getElem? (i := 1200) (by decide +kernel), List.mem_of_getElem? (i := 81) (by decide +kernel), by decide +kernel, by decide +kernel, by decide⟩, List.mem_of_getElem? (i := 1199) (by decide +kernel)⟩
theorem v_M_person : zCV m_M_person 1 := ⟨⟨List.mem_of_getElem? (i := 1196) (by decide +kernel), List.mem_of_getElem? (i := 81) (by decide +kernel), by decide +kernel, by decide +kernel, by decide⟩, List.mem_of_getElem? (i := 1194) (by decide +kernel), List.mem_of_getElem? (i := 1195) (by decide +kernel)⟩
theorem zk_M_111 : Cond.constantLong RX11 111 (99 : Int64) ∈ lw_tbl := List.mem_of_getElem? (i := 1197) (by decide +kernel)
theorem zp_11_6 : ((zcls 11).2.1 6).2.2.2 = false ∧ zty 11 6 = .int := by decide +kernel
theorem v_Shelves_isShelf : zCV m_Shelves_isShelf 1 := ⟨⟨List.mem_of_getElem? (i := 369) (by decide +kernel), List.mem_of_getElem? (i := 77) (by decide +kernel), by decide +kernel, by decide +kernel, by decide⟩, List.mem_of_getElem? (i := 367) (by decide +kernel), List.mem_of_getElem? (i := 368) (by decide +kernel)⟩
theorem zib_6 : (Int8.ofInt (6)).toInt32 = (6 : Int32) := by decide +kernel
theorem v_Shelves_held : zCV m_Shelves_held 1 := ⟨⟨List.mem_of_getElem? (i := 373) (by decide +kernel), List.mem_of_getElem? (i := 77) (by decide +kernel), by decide +kernel, by decide +kernel, by decide⟩, List.mem_of_getElem? (i := 371) (by decide +kernel), List.mem_of_getElem? (i := 372) (by decide +kernel)⟩
theorem v_Shelves_hasPlace : zCV m_Shelves_hasPlace 2 := ⟨⟨List.mem_of_getElem? (i := 382) (by decide +kernel), List.mem_of_getElem? (i := 77) (by decide +kernel), by decide +kernel, by decide +kernel, by decide⟩, List.mem_of_getElem? (i := 380) (by decide +kernel), List.mem_of_getElem? (i := 381) (by decide +kernel)⟩
theorem v_Shelves_valueAt : zCV m_Shelves_valueAt 2 := ⟨⟨List.mem_of_getElem? (i := 386) (by decide +kernel), List.mem_of_getElem? (i := 77) (by decide +kernel), by decide +kernel, by decide +kernel, by decide⟩, List.mem_of_getElem? (i := 384) (by decide +kernel), List.mem_of_getElem? (i := 385) (by decide +kernel)⟩
theorem zib_60 : (Int8.ofInt (60)).toInt32 = (60 : Int32) := by decide +kernel
theorem v_X_comesFrom : zCV m_X_comesFrom 2 := ⟨⟨List.mem_of_getElem? (i := 378) (by decide +kernel), List.mem_of_getElem? (i := 70) (by decide +kernel), by decide +kernel, by decide +kernel, by decide⟩, List.mem_of_getElem? (i := 377) (by decide +kernel), List.mem_of_getElem? (i := 0) (by decide +kernel)⟩
theorem v_X_people : zCV m_X_people 3 := ⟨⟨List.mem_of_getElem? (i := 365) (by decide +kernel), List.mem_of_getElem? (i := 70) (by decide +kernel), by decide +kernel, by decide +kernel, by decide⟩, List.mem_of_getElem? (i := 363) (by decide +kernel), List.mem_of_getElem? (i := 364) (by decide +kernel)⟩
theorem zib_m12 : (Int8.ofInt (-12)).toInt32 = (-12 : Int32) := by decide +kernel
theorem v_M_isShelf : zCS m_M_isShelf 1 := ⟨⟨List.mem_of_getElem? (i := 1207) (by decide +kernel), List.mem_of_getElem? (i := 81) (by decide +kernel), by decide +kernel, by decide +kernel, by decide⟩, List.mem_of_getElem? (i := 1206) (by decide +kernel)⟩
theorem zk_M_311 : Cond.constantLong RX11 311 (5 : Int64) ∈ lw_tbl := List.mem_of_getElem? (i := 1208) (by decide +kernel)
theorem v_M_people : zCV m_M_people 3 := ⟨⟨List.mem_of_getElem? (i := 1204) (by decide +kernel), List.mem_of_getElem? (i := 81) (by decide +kernel), by decide +kernel, by decide +kernel, by decide⟩, List.mem_of_getElem? (i := 1202) (by decide +kernel), List.mem_of_getElem? (i := 1203) (by decide +kernel)⟩
theorem zk_M_116 : Cond.constantLong RX11 116 (10 : Int64) ∈ lw_tbl := List.mem_of_getElem? (i := 1209) (by decide +kernel)
theorem zib_50 : (Int8.ofInt (50)).toInt32 = (50 : Int32) := by decide +kernel
theorem v_Council_isPerson : zCV m_Council_isPerson 1 := ⟨⟨List.mem_of_getElem? (i := 399) (by decide +kernel), List.mem_of_getElem? (i := 71) (by decide +kernel), by decide +kernel, by decide +kernel, by decide⟩, List.mem_of_getElem? (i := 397) (by decide +kernel), List.mem_of_getElem? (i := 398) (by decide +kernel)⟩
theorem v_Council_isTwo : zCV m_Council_isTwo 1 := ⟨⟨List.mem_of_getElem? (i := 395) (by decide +kernel), List.mem_of_getElem? (i := 71) (by decide +kernel), by decide +kernel, by decide +kernel, by decide⟩, List.mem_of_getElem? (i := 393) (by decide +kernel), List.mem_of_getElem? (i := 394) (by decide +kernel)⟩
theorem v_Council_stepsOf : zCV m_Council_stepsOf 2 := ⟨⟨List.mem_of_getElem? (i := 407) (by decide +kernel), List.mem_of_getElem? (i := 71) (by decide +kernel), by decide +kernel, by decide +kernel, by decide⟩, List.mem_of_getElem? (i := 405) (by decide +kernel), List.mem_of_getElem? (i := 406) (by decide +kernel)⟩
theorem zib_9 : (Int8.ofInt (9)).toInt32 = (9 : Int32) := by decide +kernel
theorem zib_100 : (Int8.ofInt (100)).toInt32 = (100 : Int32) := by decide +kernel
theorem v_Council_addPair : zCV m_Council_addPair 2 := ⟨⟨List.mem_of_getElem? (i := 403) (by decide +kernel), List.mem_of_getElem? (i := 71) (by decide +kernel), by decide +kernel, by decide +kernel, by decide⟩, List.mem_of_getElem? (i := 401) (by decide +kernel), List.mem_of_getElem? (i := 402) (by decide +kernel)⟩
theorem zic_2 : Int32.ofInt (2) = (2 : Int32) := by decide +kernel
theorem zib_12 : (Int8.ofInt (12)).toInt32 = (12 : Int32) := by decide +kernel
theorem zp_3_4 : ((zcls 3).2.1 4).2.2.2 = false ∧ zty 3 4 = .int := by decide +kernel
theorem v_X_cousins : zCV m_X_cousins 1 := ⟨⟨List.mem_of_getElem? (i := 391) (by decide +kernel), List.mem_of_getElem? (i := 70) (by decide +kernel), by decide +kernel, by decide +kernel, by decide⟩, List.mem_of_getElem? (i := 389) (by decide +kernel), List.mem_of_getElem? (i := 390) (by decide +kernel)⟩
theorem v_M_isPerson : zCV m_M_isPerson 1 := ⟨⟨List.mem_of_getElem? (i := 1217) (by decide +kernel), List.mem_of_getElem? (i := 81) (by decide +kernel), by decide +kernel, by decide +kernel, by decide⟩, List.mem_of_getElem? (i := 1216) (by decide +kernel), List.mem_of_getElem? (i := 28) (by decide +kernel)⟩
theorem v_M_isIn : zCS m_M_isIn 2 := ⟨⟨List.mem_of_getElem? (i := 1220) (by decide +kernel), List.mem_of_getElem? (i := 81) (by decide +kernel), by decide +kernel, by decide +kernel, by decide⟩, List.mem_of_getElem? (i := 1219) (by decide +kernel)⟩
theorem v_M_cousins : zCV m_M_cousins 1 := ⟨⟨List.mem_of_getElem? (i := 1213) (by decide +kernel), List.mem_of_getElem? (i := 81) (by decide +kernel), by decide +kernel, by decide +kernel, by decide⟩, List.mem_of_getElem? (i := 1211) (by decide +kernel), List.mem_of_getElem? (i := 1212) (by decide +kernel)⟩
theorem zp_11_9 : ((zcls 11).2.1 9).2.2.2 = false ∧ zty 11 9 = .int := by decide +kernel
theorem v_Council_tell : zCV m_Council_tell 2 := ⟨⟨List.mem_of_getElem? (i := 422) (by decide +kernel), List.mem_of_getElem? (i := 71) (by decide +kernel), by decide +kernel, by decide +kernel, by decide⟩, List.mem_of_getElem? (i := 420) (by decide +kernel), List.mem_of_getElem? (i := 421) (by decide +kernel)⟩
theorem v_Council_addMatter : zCV m_Council_addMatter 0 := ⟨⟨List.mem_of_getElem? (i := 418) (by decide +kernel), List.mem_of_getElem? (i := 71) (by decide +kernel), by decide +kernel, by decide +kernel, by decide⟩, List.mem_of_getElem? (i := 416) (by decide +kernel), List.mem_of_getElem? (i := 417) (by decide +kernel)⟩
theorem zis_200 : (Int16.ofInt (200)).toInt32 = (200 : Int32) := by decide +kernel
theorem zp_3_5 : ((zcls 3).2.1 5).2.2.2 = false ∧ zty 3 5 = .int := by decide +kernel
theorem v_X_matter : zCV m_X_matter 0 := ⟨⟨List.mem_of_getElem? (i := 414) (by decide +kernel), List.mem_of_getElem? (i := 70) (by decide +kernel), by decide +kernel, by decide +kernel, by decide⟩, List.mem_of_getElem? (i := 412) (by decide +kernel), List.mem_of_getElem? (i := 413) (by decide +kernel)⟩
theorem v_M_matter : zCV m_M_matter 0 := ⟨⟨List.mem_of_getElem? (i := 1224) (by decide +kernel), List.mem_of_getElem? (i := 81) (by decide +kernel), by decide +kernel, by decide +kernel, by decide⟩, List.mem_of_getElem? (i := 1222) (by decide +kernel), List.mem_of_getElem? (i := 1223) (by decide +kernel)⟩
theorem zib_120 : (Int8.ofInt (120)).toInt32 = (120 : Int32) := by decide +kernel
theorem zp_11_7 : ((zcls 11).2.1 7).2.2.2 = false ∧ zty 11 7 = .int := by decide +kernel
theorem v_Council_isMatter : zCV m_Council_isMatter 1 := ⟨⟨List.mem_of_getElem? (i := 434) (by decide +kernel), List.mem_of_getElem? (i := 71) (by decide +kernel), by decide +kernel, by decide +kernel, by decide⟩, List.mem_of_getElem? (i := 432) (by decide +kernel), List.mem_of_getElem? (i := 433) (by decide +kernel)⟩
theorem v_Council_slotOf : zCV m_Council_slotOf 2 := ⟨⟨List.mem_of_getElem? (i := 430) (by decide +kernel), List.mem_of_getElem? (i := 71) (by decide +kernel), by decide +kernel, by decide +kernel, by decide⟩, List.mem_of_getElem? (i := 428) (by decide +kernel), List.mem_of_getElem? (i := 429) (by decide +kernel)⟩
theorem v_Council_leastOf : zCS m_Council_leastOf 1 := ⟨⟨List.mem_of_getElem? (i := 437) (by decide +kernel), List.mem_of_getElem? (i := 71) (by decide +kernel), by decide +kernel, by decide +kernel, by decide⟩, List.mem_of_getElem? (i := 436) (by decide +kernel)⟩
theorem zib_m9 : (Int8.ofInt (-9)).toInt32 = (-9 : Int32) := by decide +kernel
theorem v_Council_mostOf : zCS m_Council_mostOf 1 := ⟨⟨List.mem_of_getElem? (i := 440) (by decide +kernel), List.mem_of_getElem? (i := 71) (by decide +kernel), by decide +kernel, by decide +kernel, by decide⟩, List.mem_of_getElem? (i := 439) (by decide +kernel)⟩
theorem v_Council_toldAt : zCV m_Council_toldAt 1 := ⟨⟨List.mem_of_getElem? (i := 449) (by decide +kernel), List.mem_of_getElem? (i := 71) (by decide +kernel), by decide +kernel, by decide +kernel, by decide⟩, List.mem_of_getElem? (i := 447) (by decide +kernel), List.mem_of_getElem? (i := 448) (by decide +kernel)⟩
theorem v_Changes_forgetOldest : zCV m_Changes_forgetOldest 0 := ⟨⟨List.mem_of_getElem? (i := 454) (by decide +kernel), List.mem_of_getElem? (i := 72) (by decide +kernel), by decide +kernel, by decide +kernel, by decide⟩, List.mem_of_getElem? (i := 453) (by decide +kernel), List.mem_of_getElem? (i := 1) (by decide +kernel)⟩
theorem zib_39 : (Int8.ofInt (39)).toInt32 = (39 : Int32) := by decide +kernel
theorem zp_1_4 : ((zcls 1).2.1 4).2.2.2 = false ∧ zty 1 4 = .int := by decide +kernel
theorem v_Changes_make : zCV m_Changes_make 2 := ⟨⟨List.mem_of_getElem? (i := 445) (by decide +kernel), List.mem_of_getElem? (i := 72) (by decide +kernel), by decide +kernel, by decide +kernel, by decide⟩, List.mem_of_getElem? (i := 443) (by decide +kernel), List.mem_of_getElem? (i := 444) (by decide +kernel)⟩
theorem zib_40 : (Int8.ofInt (40)).toInt32 = (40 : Int32) := by decide +kernel
theorem zp_1_5 : ((zcls 1).2.1 5).2.2.2 = false ∧ zty 1 5 = .int := by decide +kernel
theorem v_X_mend : zCV m_X_mend 3 := ⟨⟨List.mem_of_getElem? (i := 426) (by decide +kernel), List.mem_of_getElem? (i := 70) (by decide +kernel), by decide +kernel, by decide +kernel, by decide⟩, List.mem_of_getElem? (i := 424) (by decide +kernel), List.mem_of_getElem? (i := 425) (by decide +kernel)⟩
theorem zk_X_132 : Cond.constant RX10 132 (-2000000000 : Int32) ∈ lw_tbl := List.mem_of_getElem? (i := 441) (by decide +kernel)
theorem v_M_isMatter : zCV m_M_isMatter 1 := ⟨⟨List.mem_of_getElem? (i := 1236) (by decide +kernel), List.mem_of_getElem? (i := 81) (by decide +kernel), by decide +kernel, by decide +kernel, by decide⟩, List.mem_of_getElem? (i := 1235) (by decide +kernel), List.mem_of_getElem? (i := 30) (by decide +kernel)⟩
theorem v_M_isPm : zCV m_M_isPm 1 := ⟨⟨List.mem_of_getElem? (i := 1232) (by decide +kernel), List.mem_of_getElem? (i := 81) (by decide +kernel), by decide +kernel, by decide +kernel, by decide⟩, List.mem_of_getElem? (i := 1231) (by decide +kernel), List.mem_of_getElem? (i := 29) (by decide +kernel)⟩
theorem v_M_placeOf : zCS m_M_placeOf 2 := ⟨⟨List.mem_of_getElem? (i := 1239) (by decide +kernel), List.mem_of_getElem? (i := 81) (by decide +kernel), by decide +kernel, by decide +kernel, by decide⟩, List.mem_of_getElem? (i := 1238) (by decide +kernel)⟩
theorem v_M_becomes : zCV m_M_becomes 2 := ⟨⟨List.mem_of_getElem? (i := 1243) (by decide +kernel), List.mem_of_getElem? (i := 81) (by decide +kernel), by decide +kernel, by decide +kernel, by decide⟩, List.mem_of_getElem? (i := 1242) (by decide +kernel), List.mem_of_getElem? (i := 31) (by decide +kernel)⟩
theorem zp_11_5 : ((zcls 11).2.1 5).2.2.2 = false ∧ zty 11 5 = .int := by decide +kernel
theorem zp_11_4 : ((zcls 11).2.1 4).2.2.2 = false ∧ zty 11 4 = .int := by decide +kernel
theorem v_M_mend : zCV m_M_mend 3 := ⟨⟨List.mem_of_getElem? (i := 1228) (by decide +kernel), List.mem_of_getElem? (i := 81) (by decide +kernel), by decide +kernel, by decide +kernel, by decide⟩, List.mem_of_getElem? (i := 1226) (by decide +kernel), List.mem_of_getElem? (i := 1227) (by decide +kernel)⟩
theorem zk_M_135 : Cond.constant RX11 135 (-2000000000 : Int32) ∈ lw_tbl := List.mem_of_getElem? (i := 1244) (by decide +kernel)
theorem zk_M_136 : Cond.constantLong RX11 136 (-9 : Int64) ∈ lw_tbl := List.mem_of_getElem? (i := 1245) (by decide +kernel)
theorem zk_M_138 : Cond.constantLong RX11 138 (9 : Int64) ∈ lw_tbl := List.mem_of_getElem? (i := 1246) (by decide +kernel)
theorem zk_M_140 : Cond.constantLong RX11 140 (12 : Int64) ∈ lw_tbl := List.mem_of_getElem? (i := 1247) (by decide +kernel)
theorem v_X_rule : zCV m_X_rule 2 := ⟨⟨List.mem_of_getElem? (i := 461) (by decide +kernel), List.mem_of_getElem? (i := 70) (by decide +kernel), by decide +kernel, by decide +kernel, by decide⟩, List.mem_of_getElem? (i := 459) (by decide +kernel), List.mem_of_getElem? (i := 460) (by decide +kernel)⟩
theorem zp_3_7 : ((zcls 3).2.1 7).2.2.2 = false ∧ zty 3 7 = .int := by decide +kernel
theorem zic_4 : Int32.ofInt (4) = (4 : Int32) := by decide +kernel
theorem zp_3_6 : ((zcls 3).2.1 6).2.2.2 = false ∧ zty 3 6 = .int := by decide +kernel
theorem v_M_rule : zCV m_M_rule 2 := ⟨⟨List.mem_of_getElem? (i := 1251) (by decide +kernel), List.mem_of_getElem? (i := 81) (by decide +kernel), by decide +kernel, by decide +kernel, by decide⟩, List.mem_of_getElem? (i := 1249) (by decide +kernel), List.mem_of_getElem? (i := 1250) (by decide +kernel)⟩
theorem zp_11_11 : ((zcls 11).2.1 11).2.2.2 = false ∧ zty 11 11 = .int := by decide +kernel
theorem zp_11_12 : ((zcls 11).2.1 12).2.2.2 = false ∧ zty 11 12 = .int := by decide +kernel
theorem zk_M_142 : Cond.constantLong RX11 142 (4 : Int64) ∈ lw_tbl := List.mem_of_getElem? (i := 1252) (by decide +kernel)
theorem v_X_toldOrVoid : zCV m_X_toldOrVoid 1 := ⟨⟨List.mem_of_getElem? (i := 469) (by decide +kernel), List.mem_of_getElem? (i := 70) (by decide +kernel), by decide +kernel, by decide +kernel, by decide⟩, List.mem_of_getElem? (i := 468) (by decide +kernel), List.mem_of_getElem? (i := 2) (by decide +kernel)⟩
theorem v_Council_feeOf : zCV m_Council_feeOf 1 := ⟨⟨List.mem_of_getElem? (i := 475) (by decide +kernel), List.mem_of_getElem? (i := 71) (by decide +kernel), by decide +kernel, by decide +kernel, by decide⟩, List.mem_of_getElem? (i := 473) (by decide +kernel), List.mem_of_getElem? (i := 474) (by decide +kernel)⟩
theorem v_X_of : zCV m_X_of 2 := ⟨⟨List.mem_of_getElem? (i := 465) (by decide +kernel), List.mem_of_getElem? (i := 70) (by decide +kernel), by decide +kernel, by decide +kernel, by decide⟩, List.mem_of_getElem? (i := 463) (by decide +kernel), List.mem_of_getElem? (i := 464) (by decide +kernel)⟩
theorem v_M_stepsTo : zCV m_M_stepsTo 2 := ⟨⟨List.mem_of_getElem? (i := 1260) (by decide +kernel), List.mem_of_getElem? (i := 81) (by decide +kernel), by decide +kernel, by decide +kernel, by decide⟩, List.mem_of_getElem? (i := 1259) (by decide +kernel), List.mem_of_getElem? (i := 32) (by decide +kernel)⟩
theorem v_M_of : zCV m_M_of 2 := ⟨⟨List.mem_of_getElem? (i := 1256) (by decide +kernel), List.mem_of_getElem? (i := 81) (by decide +kernel), by decide +kernel, by decide +kernel, by decide⟩, List.mem_of_getElem? (i := 1254) (by decide +kernel), List.mem_of_getElem? (i := 1255) (by decide +kernel)⟩
theorem v_Reader_take : zCV m_Reader_take 1 := ⟨⟨List.mem_of_getElem? (i := 484) (by decide +kernel), List.mem_of_getElem? (i := 73) (by decide +kernel), by decide +kernel, by decide +kernel, by decide⟩, List.mem_of_getElem? (i := 482) (by decide +kernel), List.mem_of_getElem? (i := 483) (by decide +kernel)⟩
theorem zp_6_2 : ((zcls 6).2.1 2).2.2.2 = false ∧ zty 6 2 = .int := by decide +kernel
theorem v_X_feed : zCV m_X_feed 1 := ⟨⟨List.mem_of_getElem? (i := 480) (by decide +kernel), List.mem_of_getElem? (i := 70) (by decide +kernel), by decide +kernel, by decide +kernel, by decide⟩, List.mem_of_getElem? (i := 478) (by decide +kernel), List.mem_of_getElem? (i := 479) (by decide +kernel)⟩
theorem zis_255 : (Int16.ofInt (255)).toInt32 = (255 : Int32) := by decide +kernel
theorem v_M_feed : zCV m_M_feed 1 := ⟨⟨List.mem_of_getElem? (i := 1264) (by decide +kernel), List.mem_of_getElem? (i := 81) (by decide +kernel), by decide +kernel, by decide +kernel, by decide⟩, List.mem_of_getElem? (i := 1262) (by decide +kernel), List.mem_of_getElem? (i := 1263) (by decide +kernel)⟩
theorem zk_M_147 : Cond.constantLong RX11 147 (255 : Int64) ∈ lw_tbl := List.mem_of_getElem? (i := 1265) (by decide +kernel)
theorem zp_11_14 : ((zcls 11).2.1 14).2.2.2 = false ∧ zty 11 14 = .int := by decide +kernel
theorem v_Code_empty : zCV m_Code_empty 0 := ⟨⟨List.mem_of_getElem? (i := 496) (by decide +kernel), List.mem_of_getElem? (i := 74) (by decide +kernel), by decide +kernel, by decide +kernel, by decide⟩, List.mem_of_getElem? (i := 494) (by decide +kernel), List.mem_of_getElem? (i := 495) (by decide +kernel)⟩
theorem zp_2_3 : ((zcls 2).2.1 3).2.2.2 = false ∧ zty 2 3 = .int := by decide +kernel
theorem v_Reader_next : zCV m_Reader_next 0 := ⟨⟨List.mem_of_getElem? (i := 512) (by decide +kernel), List.mem_of_getElem? (i := 73) (by decide +kernel), by decide +kernel, by decide +kernel, by decide⟩, List.mem_of_getElem? (i := 511) (by decide +kernel), List.mem_of_getElem? (i := 6) (by decide +kernel)⟩
theorem v_Code_add : zCV m_Code_add 2 := ⟨⟨List.mem_of_getElem? (i := 520) (by decide +kernel), List.mem_of_getElem? (i := 74) (by decide +kernel), by decide +kernel, by decide +kernel, by decide⟩, List.mem_of_getElem? (i := 518) (by decide +kernel), List.mem_of_getElem? (i := 519) (by decide +kernel)⟩
theorem zis_128 : (Int16.ofInt (128)).toInt32 = (128 : Int32) := by decide +kernel
theorem v_Reader_isDigit : zCS m_Reader_isDigit 1 := ⟨⟨List.mem_of_getElem? (i := 523) (by decide +kernel), List.mem_of_getElem? (i := 73) (by decide +kernel), by decide +kernel, by decide +kernel, by decide⟩, List.mem_of_getElem? (i := 522) (by decide +kernel)⟩
theorem zib_48 : (Int8.ofInt (48)).toInt32 = (48 : Int32) := by decide +kernel
theorem zib_57 : (Int8.ofInt (57)).toInt32 = (57 : Int32) := by decide +kernel
theorem v_Reader_readNumber : zCV m_Reader_readNumber 0 := ⟨⟨List.mem_of_getElem? (i := 527) (by decide +kernel), List.mem_of_getElem? (i := 73) (by decide +kernel), by decide +kernel, by decide +kernel, by decide⟩, List.mem_of_getElem? (i := 526) (by decide +kernel), List.mem_of_getElem? (i := 8) (by decide +kernel)⟩
theorem zp_6_3 : ((zcls 6).2.1 3).2.2.2 = false ∧ zty 6 3 = .int := by decide +kernel
theorem v_Reader_nameOf : zCS m_Reader_nameOf 1 := ⟨⟨List.mem_of_getElem? (i := 530) (by decide +kernel), List.mem_of_getElem? (i := 73) (by decide +kernel), by decide +kernel, by decide +kernel, by decide⟩, List.mem_of_getElem? (i := 529) (by decide +kernel)⟩
theorem zic_5 : Int32.ofInt (5) = (5 : Int32) := by decide +kernel
theorem zic_3 : Int32.ofInt (3) = (3 : Int32) := by decide +kernel
theorem v_Reader_levelOf : zCS m_Reader_levelOf 1 := ⟨⟨List.mem_of_getElem? (i := 533) (by decide +kernel), List.mem_of_getElem? (i := 73) (by decide +kernel), by decide +kernel, by decide +kernel, by decide⟩, List.mem_of_getElem? (i := 532) (by decide +kernel)⟩
theorem v_Reader_readChain : zCV m_Reader_readChain 2 := ⟨⟨List.mem_of_getElem? (i := 504) (by decide +kernel), List.mem_of_getElem? (i := 73) (by decide +kernel), by decide +kernel, by decide +kernel, by decide⟩, List.mem_of_getElem? (i := 503) (by decide +kernel), List.mem_of_getElem? (i := 4) (by decide +kernel)⟩
theorem v_Reader_readOpened : zCV m_Reader_readOpened 2 := ⟨⟨List.mem_of_getElem? (i := 516) (by decide +kernel), List.mem_of_getElem? (i := 73) (by decide +kernel), by decide +kernel, by decide +kernel, by decide⟩, List.mem_of_getElem? (i := 515) (by decide +kernel), List.mem_of_getElem? (i := 7) (by decide +kernel)⟩
theorem zib_33 : (Int8.ofInt (33)).toInt32 = (33 : Int32) := by decide +kernel
theorem zib_126 : (Int8.ofInt (126)).toInt32 = (126 : Int32) := by decide +kernel
theorem zib_41 : (Int8.ofInt (41)).toInt32 = (41 : Int32) := by decide +kernel
theorem v_Reader_readOperand : zCV m_Reader_readOperand 1 := ⟨⟨List.mem_of_getElem? (i := 508) (by decide +kernel), List.mem_of_getElem? (i := 73) (by decide +kernel), by decide +kernel, by decide +kernel, by decide⟩, List.mem_of_getElem? (i := 507) (by decide +kernel), List.mem_of_getElem? (i := 5) (by decide +kernel)⟩
theorem zib_45 : (Int8.ofInt (45)).toInt32 = (45 : Int32) := by decide +kernel
theorem zib_97 : (Int8.ofInt (97)).toInt32 = (97 : Int32) := by decide +kernel
theorem v_Reader_readLine : zCV m_Reader_readLine 0 := ⟨⟨List.mem_of_getElem? (i := 500) (by decide +kernel), List.mem_of_getElem? (i := 73) (by decide +kernel), by decide +kernel, by decide +kernel, by decide⟩, List.mem_of_getElem? (i := 499) (by decide +kernel), List.mem_of_getElem? (i := 3) (by decide +kernel)⟩
theorem zib_63 : (Int8.ofInt (63)).toInt32 = (63 : Int32) := by decide +kernel
theorem zib_59 : (Int8.ofInt (59)).toInt32 = (59 : Int32) := by decide +kernel
theorem v_Reader_read : zCV m_Reader_read 0 := ⟨⟨List.mem_of_getElem? (i := 492) (by decide +kernel), List.mem_of_getElem? (i := 73) (by decide +kernel), by decide +kernel, by decide +kernel, by decide⟩, List.mem_of_getElem? (i := 490) (by decide +kernel), List.mem_of_getElem? (i := 491) (by decide +kernel)⟩
theorem v_Code_becomes : zCV m_Code_becomes 1 := ⟨⟨List.mem_of_getElem? (i := 537) (by decide +kernel), List.mem_of_getElem? (i := 74) (by decide +kernel), by decide +kernel, by decide +kernel, by decide⟩, List.mem_of_getElem? (i := 535) (by decide +kernel), List.mem_of_getElem? (i := 536) (by decide +kernel)⟩
theorem v_X_law : zCV m_X_law 0 := ⟨⟨List.mem_of_getElem? (i := 488) (by decide +kernel), List.mem_of_getElem? (i := 70) (by decide +kernel), by decide +kernel, by decide +kernel, by decide⟩, List.mem_of_getElem? (i := 486) (by decide +kernel), List.mem_of_getElem? (i := 487) (by decide +kernel)⟩
theorem zib_m100 : (Int8.ofInt (-100)).toInt32 = (-100 : Int32) := by decide +kernel
theorem v_M_byteAt : zCV m_M_byteAt 0 := ⟨⟨List.mem_of_getElem? (i := 1301) (by decide +kernel), List.mem_of_getElem? (i := 81) (by decide +kernel), by decide +kernel, by decide +kernel, by decide⟩, List.mem_of_getElem? (i := 1300) (by decide +kernel), List.mem_of_getElem? (i := 40) (by decide +kernel)⟩
theorem v_M_wrong : zCV m_M_wrong 0 := ⟨⟨List.mem_of_getElem? (i := 1305) (by decide +kernel), List.mem_of_getElem? (i := 81) (by decide +kernel), by decide +kernel, by decide +kernel, by decide⟩, List.mem_of_getElem? (i := 1304) (by decide +kernel), List.mem_of_getElem? (i := 41) (by decide +kernel)⟩
theorem zp_11_20 : ((zcls 11).2.1 20).2.2.2 = false ∧ zty 11 20 = .int := by decide +kernel
theorem v_M_takes : zCV m_M_takes 1 := ⟨⟨List.mem_of_getElem? (i := 1309) (by decide +kernel), List.mem_of_getElem? (i := 81) (by decide +kernel), by decide +kernel, by decide +kernel, by decide⟩, List.mem_of_getElem? (i := 1308) (by decide +kernel), List.mem_of_getElem? (i := 42) (by decide +kernel)⟩
theorem zp_11_18 : ((zcls 11).2.1 18).2.2.2 = false ∧ zty 11 18 = .int := by decide +kernel
theorem v_M_nameOf : zCS m_M_nameOf 1 := ⟨⟨List.mem_of_getElem? (i := 1312) (by decide +kernel), List.mem_of_getElem? (i := 81) (by decide +kernel), by decide +kernel, by decide +kernel, by decide⟩, List.mem_of_getElem? (i := 1311) (by decide +kernel)⟩
theorem v_M_both : zCV m_M_both 0 := ⟨⟨List.mem_of_getElem? (i := 1281) (by decide +kernel), List.mem_of_getElem? (i := 81) (by decide +kernel), by decide +kernel, by decide +kernel, by decide⟩, List.mem_of_getElem? (i := 1280) (by decide +kernel), List.mem_of_getElem? (i := 35) (by decide +kernel)⟩
theorem zib_38 : (Int8.ofInt (38)).toInt32 = (38 : Int32) := by decide +kernel
theorem v_M_compared : zCV m_M_compared 0 := ⟨⟨List.mem_of_getElem? (i := 1285) (by decide +kernel), List.mem_of_getElem? (i := 81) (by decide +kernel), by decide +kernel, by decide +kernel, by decide⟩, List.mem_of_getElem? (i := 1284) (by decide +kernel), List.mem_of_getElem? (i := 36) (by decide +kernel)⟩
theorem zib_61 : (Int8.ofInt (61)).toInt32 = (61 : Int32) := by decide +kernel
theorem zib_62 : (Int8.ofInt (62)).toInt32 = (62 : Int32) := by decide +kernel
theorem v_M_either : zCV m_M_either 0 := ⟨⟨List.mem_of_getElem? (i := 1277) (by decide +kernel), List.mem_of_getElem? (i := 81) (by decide +kernel), by decide +kernel, by decide +kernel, by decide⟩, List.mem_of_getElem? (i := 1276) (by decide +kernel), List.mem_of_getElem? (i := 34) (by decide +kernel)⟩
theorem zib_124 : (Int8.ofInt (124)).toInt32 = (124 : Int32) := by decide +kernel
theorem v_M_one : zCV m_M_one 0 := ⟨⟨List.mem_of_getElem? (i := 1297) (by decide +kernel), List.mem_of_getElem? (i := 81) (by decide +kernel), by decide +kernel, by decide +kernel, by decide⟩, List.mem_of_getElem? (i := 1296) (by decide +kernel), List.mem_of_getElem? (i := 39) (by decide +kernel)⟩
theorem zp_11_21 : ((zcls 11).2.1 21).2.2.2 = false ∧ zty 11 21 = .int := by decide +kernel
theorem v_M_product : zCV m_M_product 0 := ⟨⟨List.mem_of_getElem? (i := 1293) (by decide +kernel), List.mem_of_getElem? (i := 81) (by decide +kernel), by decide +kernel, by decide +kernel, by decide⟩, List.mem_of_getElem? (i := 1292) (by decide +kernel), List.mem_of_getElem? (i := 38) (by decide +kernel)⟩
theorem zib_42 : (Int8.ofInt (42)).toInt32 = (42 : Int32) := by decide +kernel
theorem zib_47 : (Int8.ofInt (47)).toInt32 = (47 : Int32) := by decide +kernel
theorem zib_37 : (Int8.ofInt (37)).toInt32 = (37 : Int32) := by decide +kernel
theorem v_M_sums : zCV m_M_sums 0 := ⟨⟨List.mem_of_getElem? (i := 1289) (by decide +kernel), List.mem_of_getElem? (i := 81) (by decide +kernel), by decide +kernel, by decide +kernel, by decide⟩, List.mem_of_getElem? (i := 1288) (by decide +kernel), List.mem_of_getElem? (i := 37) (by decide +kernel)⟩
theorem zib_43 : (Int8.ofInt (43)).toInt32 = (43 : Int32) := by decide +kernel
theorem v_M_workOut : zCV m_M_workOut 2 := ⟨⟨List.mem_of_getElem? (i := 1273) (by decide +kernel), List.mem_of_getElem? (i := 81) (by decide +kernel), by decide +kernel, by decide +kernel, by decide⟩, List.mem_of_getElem? (i := 1272) (by decide +kernel), List.mem_of_getElem? (i := 33) (by decide +kernel)⟩
theorem zp_11_17 : ((zcls 11).2.1 17).2.2.2 = false ∧ zty 11 17 = .int := by decide +kernel
theorem zp_11_19 : ((zcls 11).2.1 19).2.2.2 = false ∧ zty 11 19 = .int := by decide +kernel
theorem v_M_law : zCV m_M_law 0 := ⟨⟨List.mem_of_getElem? (i := 1269) (by decide +kernel), List.mem_of_getElem? (i := 81) (by decide +kernel), by decide +kernel, by decide +kernel, by decide⟩, List.mem_of_getElem? (i := 1267) (by decide +kernel), List.mem_of_getElem? (i := 1268) (by decide +kernel)⟩
theorem zp_11_16 : ((zcls 11).2.1 16).2.2.2 = false ∧ zty 11 16 = .int := by decide +kernel
theorem v_Council_everything : zCV m_Council_everything 0 := ⟨⟨List.mem_of_getElem? (i := 554) (by decide +kernel), List.mem_of_getElem? (i := 71) (by decide +kernel), by decide +kernel, by decide +kernel, by decide⟩, List.mem_of_getElem? (i := 552) (by decide +kernel), List.mem_of_getElem? (i := 553) (by decide +kernel)⟩
theorem v_Council_isBundle : zCV m_Council_isBundle 1 := ⟨⟨List.mem_of_getElem? (i := 550) (by decide +kernel), List.mem_of_getElem? (i := 71) (by decide +kernel), by decide +kernel, by decide +kernel, by decide⟩, List.mem_of_getElem? (i := 548) (by decide +kernel), List.mem_of_getElem? (i := 549) (by decide +kernel)⟩
theorem v_Council_everybody : zCV m_Council_everybody 0 := ⟨⟨List.mem_of_getElem? (i := 562) (by decide +kernel), List.mem_of_getElem? (i := 71) (by decide +kernel), by decide +kernel, by decide +kernel, by decide⟩, List.mem_of_getElem? (i := 560) (by decide +kernel), List.mem_of_getElem? (i := 561) (by decide +kernel)⟩
theorem v_Council_isGifts : zCV m_Council_isGifts 1 := ⟨⟨List.mem_of_getElem? (i := 558) (by decide +kernel), List.mem_of_getElem? (i := 71) (by decide +kernel), by decide +kernel, by decide +kernel, by decide⟩, List.mem_of_getElem? (i := 556) (by decide +kernel), List.mem_of_getElem? (i := 557) (by decide +kernel)⟩
theorem v_X_isPut : zCV m_X_isPut 2 := ⟨⟨List.mem_of_getElem? (i := 546) (by decide +kernel), List.mem_of_getElem? (i := 70) (by decide +kernel), by decide +kernel, by decide +kernel, by decide⟩, List.mem_of_getElem? (i := 545) (by decide +kernel), List.mem_of_getElem? (i := 9) (by decide +kernel)⟩
theorem v_Council_sumOf : zCV m_Council_sumOf 3 := ⟨⟨List.mem_of_getElem? (i := 574) (by decide +kernel), List.mem_of_getElem? (i := 71) (by decide +kernel), by decide +kernel, by decide +kernel, by decide⟩, List.mem_of_getElem? (i := 572) (by decide +kernel), List.mem_of_getElem? (i := 573) (by decide +kernel)⟩
theorem v_Ballot_weigh : zCV m_Ballot_weigh 2 := ⟨⟨List.mem_of_getElem? (i := 570) (by decide +kernel), List.mem_of_getElem? (i := 75) (by decide +kernel), by decide +kernel, by decide +kernel, by decide⟩, List.mem_of_getElem? (i := 569) (by decide +kernel), List.mem_of_getElem? (i := 10) (by decide +kernel)⟩
theorem zp_0_4 : ((zcls 0).2.1 4).2.2.2 = false ∧ zty 0 4 = .int := by decide +kernel
theorem v_Code_isEmpty : zCV m_Code_isEmpty 0 := ⟨⟨List.mem_of_getElem? (i := 579) (by decide +kernel), List.mem_of_getElem? (i := 74) (by decide +kernel), by decide +kernel, by decide +kernel, by decide⟩, List.mem_of_getElem? (i := 577) (by decide +kernel), List.mem_of_getElem? (i := 578) (by decide +kernel)⟩
theorem v_Ballot_nearOf : zCV m_Ballot_nearOf 1 := ⟨⟨List.mem_of_getElem? (i := 587) (by decide +kernel), List.mem_of_getElem? (i := 75) (by decide +kernel), by decide +kernel, by decide +kernel, by decide⟩, List.mem_of_getElem? (i := 586) (by decide +kernel), List.mem_of_getElem? (i := 12) (by decide +kernel)⟩
theorem v_Ballot_isFree : zCV m_Ballot_isFree 2 := ⟨⟨List.mem_of_getElem? (i := 583) (by decide +kernel), List.mem_of_getElem? (i := 75) (by decide +kernel), by decide +kernel, by decide +kernel, by decide⟩, List.mem_of_getElem? (i := 582) (by decide +kernel), List.mem_of_getElem? (i := 11) (by decide +kernel)⟩
theorem v_Int_bitCount : zCS m_Int_bitCount 1 := ⟨⟨List.mem_of_getElem? (i := 596) (by decide +kernel), List.mem_of_getElem? (i := 84) (by decide +kernel), by decide +kernel, by decide +kernel, by decide⟩, List.mem_of_getElem? (i := 595) (by decide +kernel)⟩
theorem zk_Int_265 : Cond.constant RJ6 265 (1431655765 : Int32) ∈ lw_tbl := List.mem_of_getElem? (i := 597) (by decide +kernel)
theorem zk_Int_266 : Cond.constant RJ6 266 (858993459 : Int32) ∈ lw_tbl := List.mem_of_getElem? (i := 598) (by decide +kernel)
theorem zk_Int_267 : Cond.constant RJ6 267 (252645135 : Int32) ∈ lw_tbl := List.mem_of_getElem? (i := 599) (by decide +kernel)
theorem zib_8 : (Int8.ofInt (8)).toInt32 = (8 : Int32) := by decide +kernel
theorem zib_16 : (Int8.ofInt (16)).toInt32 = (16 : Int32) := by decide +kernel
theorem v_Code_named : zCS m_Code_named 2 := ⟨⟨List.mem_of_getElem? (i := 606) (by decide +kernel), List.mem_of_getElem? (i := 74) (by decide +kernel), by decide +kernel, by decide +kernel, by decide⟩, List.mem_of_getElem? (i := 605) (by decide +kernel)⟩
theorem v_Code_needOf : zCS m_Code_needOf 1 := ⟨⟨List.mem_of_getElem? (i := 609) (by decide +kernel), List.mem_of_getElem? (i := 74) (by decide +kernel), by decide +kernel, by decide +kernel, by decide⟩, List.mem_of_getElem? (i := 608) (by decide +kernel)⟩
theorem v_Code_joined : zCS m_Code_joined 3 := ⟨⟨List.mem_of_getElem? (i := 612) (by decide +kernel), List.mem_of_getElem? (i := 74) (by decide +kernel), by decide +kernel, by decide +kernel, by decide⟩, List.mem_of_getElem? (i := 611) (by decide +kernel)⟩
theorem v_Code_worth : zCV m_Code_worth 1 := ⟨⟨List.mem_of_getElem? (i := 603) (by decide +kernel), List.mem_of_getElem? (i := 74) (by decide +kernel), by decide +kernel, by decide +kernel, by decide⟩, List.mem_of_getElem? (i := 601) (by decide +kernel), List.mem_of_getElem? (i := 602) (by decide +kernel)⟩
theorem zic_m2 : Int32.ofInt (-2) = (-2 : Int32) := by decide +kernel
theorem v_Ballot_isAllowed : zCV m_Ballot_isAllowed 3 := ⟨⟨List.mem_of_getElem? (i := 593) (by decide +kernel), List.mem_of_getElem? (i := 75) (by decide +kernel), by decide +kernel, by decide +kernel, by decide⟩, List.mem_of_getElem? (i := 592) (by decide +kernel), List.mem_of_getElem? (i := 13) (by decide +kernel)⟩
theorem v_Ballot_whoMay : zCV m_Ballot_whoMay 3 := ⟨⟨List.mem_of_getElem? (i := 566) (by decide +kernel), List.mem_of_getElem? (i := 75) (by decide +kernel), by decide +kernel, by decide +kernel, by decide⟩, List.mem_of_getElem? (i := 564) (by decide +kernel), List.mem_of_getElem? (i := 565) (by decide +kernel)⟩
theorem v_X_may : zCV m_X_may 3 := ⟨⟨List.mem_of_getElem? (i := 542) (by decide +kernel), List.mem_of_getElem? (i := 70) (by decide +kernel), by decide +kernel, by decide +kernel, by decide⟩, List.mem_of_getElem? (i := 540) (by decide +kernel), List.mem_of_getElem? (i := 541) (by decide +kernel)⟩
theorem v_M_isBundle : zCV m_M_isBundle 1 := ⟨⟨List.mem_of_getElem? (i := 1320) (by decide +kernel), List.mem_of_getElem? (i := 81) (by decide +kernel), by decide +kernel, by decide +kernel, by decide⟩, List.mem_of_getElem? (i := 1319) (by decide +kernel), List.mem_of_getElem? (i := 43) (by decide +kernel)⟩
theorem v_M_areGifts : zCV m_M_areGifts 1 := ⟨⟨List.mem_of_getElem? (i := 1324) (by decide +kernel), List.mem_of_getElem? (i := 81) (by decide +kernel), by decide +kernel, by decide +kernel, by decide⟩, List.mem_of_getElem? (i := 1323) (by decide +kernel), List.mem_of_getElem? (i := 44) (by decide +kernel)⟩
theorem v_M_touches : zCV m_M_touches 3 := ⟨⟨List.mem_of_getElem? (i := 1332) (by decide +kernel), List.mem_of_getElem? (i := 81) (by decide +kernel), by decide +kernel, by decide +kernel, by decide⟩, List.mem_of_getElem? (i := 1331) (by decide +kernel), List.mem_of_getElem? (i := 46) (by decide +kernel)⟩
theorem v_M_nearOf : zCV m_M_nearOf 1 := ⟨⟨List.mem_of_getElem? (i := 1340) (by decide +kernel), List.mem_of_getElem? (i := 81) (by decide +kernel), by decide +kernel, by decide +kernel, by decide⟩, List.mem_of_getElem? (i := 1339) (by decide +kernel), List.mem_of_getElem? (i := 48) (by decide +kernel)⟩
theorem v_M_bitsOf : zCS m_M_bitsOf 1 := ⟨⟨List.mem_of_getElem? (i := 1343) (by decide +kernel), List.mem_of_getElem? (i := 81) (by decide +kernel), by decide +kernel, by decide +kernel, by decide⟩, List.mem_of_getElem? (i := 1342) (by decide +kernel)⟩
theorem v_M_mayVote : zCV m_M_mayVote 3 := ⟨⟨List.mem_of_getElem? (i := 1336) (by decide +kernel), List.mem_of_getElem? (i := 81) (by decide +kernel), by decide +kernel, by decide +kernel, by decide⟩, List.mem_of_getElem? (i := 1335) (by decide +kernel), List.mem_of_getElem? (i := 47) (by decide +kernel)⟩
theorem v_M_asks : zCV m_M_asks 3 := ⟨⟨List.mem_of_getElem? (i := 1328) (by decide +kernel), List.mem_of_getElem? (i := 81) (by decide +kernel), by decide +kernel, by decide +kernel, by decide⟩, List.mem_of_getElem? (i := 1327) (by decide +kernel), List.mem_of_getElem? (i := 45) (by decide +kernel)⟩
theorem zp_11_25 : ((zcls 11).2.1 25).2.2.2 = false ∧ zty 11 25 = .int := by decide +kernel
theorem v_M_may : zCV m_M_may 3 := ⟨⟨List.mem_of_getElem? (i := 1316) (by decide +kernel), List.mem_of_getElem? (i := 81) (by decide +kernel), by decide +kernel, by decide +kernel, by decide⟩, List.mem_of_getElem? (i := 1314) (by decide +kernel), List.mem_of_getElem? (i := 1315) (by decide +kernel)⟩
theorem v_Ballot_whoLeans : zCV m_Ballot_whoLeans 2 := ⟨⟨List.mem_of_getElem? (i := 624) (by decide +kernel), List.mem_of_getElem? (i := 75) (by decide +kernel), by decide +kernel, by decide +kernel, by decide⟩, List.mem_of_getElem? (i := 623) (by decide +kernel), List.mem_of_getElem? (i := 14) (by decide +kernel)⟩
theorem v_Ballot_fans : zCV m_Ballot_fans 1 := ⟨⟨List.mem_of_getElem? (i := 620) (by decide +kernel), List.mem_of_getElem? (i := 75) (by decide +kernel), by decide +kernel, by decide +kernel, by decide⟩, List.mem_of_getElem? (i := 618) (by decide +kernel), List.mem_of_getElem? (i := 619) (by decide +kernel)⟩
theorem v_Ballot_foes : zCV m_Ballot_foes 1 := ⟨⟨List.mem_of_getElem? (i := 628) (by decide +kernel), List.mem_of_getElem? (i := 75) (by decide +kernel), by decide +kernel, by decide +kernel, by decide⟩, List.mem_of_getElem? (i := 626) (by decide +kernel), List.mem_of_getElem? (i := 627) (by decide +kernel)⟩
theorem v_Ballot_isMore : zCS m_Ballot_isMore 2 := ⟨⟨List.mem_of_getElem? (i := 642) (by decide +kernel), List.mem_of_getElem? (i := 75) (by decide +kernel), by decide +kernel, by decide +kernel, by decide⟩, List.mem_of_getElem? (i := 641) (by decide +kernel)⟩
theorem v_Ballot_isCarriedBy : zCV m_Ballot_isCarriedBy 3 := ⟨⟨List.mem_of_getElem? (i := 639) (by decide +kernel), List.mem_of_getElem? (i := 75) (by decide +kernel), by decide +kernel, by decide +kernel, by decide⟩, List.mem_of_getElem? (i := 637) (by decide +kernel), List.mem_of_getElem? (i := 638) (by decide +kernel)⟩
theorem v_Ballot_isCarried : zCV m_Ballot_isCarried 2 := ⟨⟨List.mem_of_getElem? (i := 632) (by decide +kernel), List.mem_of_getElem? (i := 75) (by decide +kernel), by decide +kernel, by decide +kernel, by decide⟩, List.mem_of_getElem? (i := 630) (by decide +kernel), List.mem_of_getElem? (i := 631) (by decide +kernel)⟩
theorem v_X_vote : zCV m_X_vote 3 := ⟨⟨List.mem_of_getElem? (i := 616) (by decide +kernel), List.mem_of_getElem? (i := 70) (by decide +kernel), by decide +kernel, by decide +kernel, by decide⟩, List.mem_of_getElem? (i := 614) (by decide +kernel), List.mem_of_getElem? (i := 615) (by decide +kernel)⟩
theorem v_M_sideOf : zCV m_M_sideOf 2 := ⟨⟨List.mem_of_getElem? (i := 1364) (by decide +kernel), List.mem_of_getElem? (i := 81) (by decide +kernel), by decide +kernel, by decide +kernel, by decide⟩, List.mem_of_getElem? (i := 1363) (by decide +kernel), List.mem_of_getElem? (i := 52) (by decide +kernel)⟩
theorem v_M_isMore : zCV m_M_isMore 1 := ⟨⟨List.mem_of_getElem? (i := 1360) (by decide +kernel), List.mem_of_getElem? (i := 81) (by decide +kernel), by decide +kernel, by decide +kernel, by decide⟩, List.mem_of_getElem? (i := 1359) (by decide +kernel), List.mem_of_getElem? (i := 51) (by decide +kernel)⟩
theorem v_M_isCarriedBy : zCV m_M_isCarriedBy 1 := ⟨⟨List.mem_of_getElem? (i := 1356) (by decide +kernel), List.mem_of_getElem? (i := 81) (by decide +kernel), by decide +kernel, by decide +kernel, by decide⟩, List.mem_of_getElem? (i := 1355) (by decide +kernel), List.mem_of_getElem? (i := 50) (by decide +kernel)⟩
theorem v_M_isCarried : zCV m_M_isCarried 2 := ⟨⟨List.mem_of_getElem? (i := 1352) (by decide +kernel), List.mem_of_getElem? (i := 81) (by decide +kernel), by decide +kernel, by decide +kernel, by decide⟩, List.mem_of_getElem? (i := 1351) (by decide +kernel), List.mem_of_getElem? (i := 49) (by decide +kernel)⟩
theorem v_M_vote : zCV m_M_vote 3 := ⟨⟨List.mem_of_getElem? (i := 1347) (by decide +kernel), List.mem_of_getElem? (i := 81) (by decide +kernel), by decide +kernel, by decide +kernel, by decide⟩, List.mem_of_getElem? (i := 1345) (by decide +kernel), List.mem_of_getElem? (i := 1346) (by decide +kernel)⟩
theorem zk_M_238 : Cond.constantLong RX11 238 (3 : Int64) ∈ lw_tbl := List.mem_of_getElem? (i := 1348) (by decide +kernel)
theorem v_Finder_isFewer : zCS m_Finder_isFewer 2 := ⟨⟨List.mem_of_getElem? (i := 655) (by decide +kernel), List.mem_of_getElem? (i := 76) (by decide +kernel), by decide +kernel, by decide +kernel, by decide⟩, List.mem_of_getElem? (i := 654) (by decide +kernel)⟩
theorem v_Finder_smallestCarriedWith : zCV m_Finder_smallestCarriedWith 1 := ⟨⟨List.mem_of_getElem? (i := 651) (by decide +kernel), List.mem_of_getElem? (i := 76) (by decide +kernel), by decide +kernel, by decide +kernel, by decide⟩, List.mem_of_getElem? (i := 649) (by decide +kernel), List.mem_of_getElem? (i := 650) (by decide +kernel)⟩
theorem zib_m2 : (Int8.ofInt (-2)).toInt32 = (-2 : Int32) := by decide +kernel
theorem v_X_together : zCV m_X_together 1 := ⟨⟨List.mem_of_getElem? (i := 646) (by decide +kernel), List.mem_of_getElem? (i := 70) (by decide +kernel), by decide +kernel, by decide +kernel, by decide⟩, List.mem_of_getElem? (i := 644) (by decide +kernel), List.mem_of_getElem? (i := 645) (by decide +kernel)⟩
theorem v_M_together : zCV m_M_together 1 := ⟨⟨List.mem_of_getElem? (i := 1368) (by decide +kernel), List.mem_of_getElem? (i := 81) (by decide +kernel), by decide +kernel, by decide +kernel, by decide⟩, List.mem_of_getElem? (i := 1366) (by decide +kernel), List.mem_of_getElem? (i := 1367) (by decide +kernel)⟩
theorem v_Council_feesOf : zCV m_Council_feesOf 1 := ⟨⟨List.mem_of_getElem? (i := 674) (by decide +kernel), List.mem_of_getElem? (i := 71) (by decide +kernel), by decide +kernel, by decide +kernel, by decide⟩, List.mem_of_getElem? (i := 672) (by decide +kernel), List.mem_of_getElem? (i := 673) (by decide +kernel)⟩
theorem v_Finder_isCheaper : zCV m_Finder_isCheaper 2 := ⟨⟨List.mem_of_getElem? (i := 670) (by decide +kernel), List.mem_of_getElem? (i := 76) (by decide +kernel), by decide +kernel, by decide +kernel, by decide⟩, List.mem_of_getElem? (i := 669) (by decide +kernel), List.mem_of_getElem? (i := 15) (by decide +kernel)⟩
theorem v_Finder_cheapestGifts : zCV m_Finder_cheapestGifts 1 := ⟨⟨List.mem_of_getElem? (i := 665) (by decide +kernel), List.mem_of_getElem? (i := 76) (by decide +kernel), by decide +kernel, by decide +kernel, by decide⟩, List.mem_of_getElem? (i := 663) (by decide +kernel), List.mem_of_getElem? (i := 664) (by decide +kernel)⟩
theorem v_X_silenced : zCV m_X_silenced 2 := ⟨⟨List.mem_of_getElem? (i := 661) (by decide +kernel), List.mem_of_getElem? (i := 70) (by decide +kernel), by decide +kernel, by decide +kernel, by decide⟩, List.mem_of_getElem? (i := 659) (by decide +kernel), List.mem_of_getElem? (i := 660) (by decide +kernel)⟩
theorem v_M_feesOf : zCV m_M_feesOf 1 := ⟨⟨List.mem_of_getElem? (i := 1376) (by decide +kernel), List.mem_of_getElem? (i := 81) (by decide +kernel), by decide +kernel, by decide +kernel, by decide⟩, List.mem_of_getElem? (i := 1375) (by decide +kernel), List.mem_of_getElem? (i := 53) (by decide +kernel)⟩
theorem v_M_silenced : zCV m_M_silenced 2 := ⟨⟨List.mem_of_getElem? (i := 1372) (by decide +kernel), List.mem_of_getElem? (i := 81) (by decide +kernel), by decide +kernel, by decide +kernel, by decide⟩, List.mem_of_getElem? (i := 1370) (by decide +kernel), List.mem_of_getElem? (i := 1371) (by decide +kernel)⟩
theorem v_Finder_fewestLeftOut : zCV m_Finder_fewestLeftOut 2 := ⟨⟨List.mem_of_getElem? (i := 683) (by decide +kernel), List.mem_of_getElem? (i := 76) (by decide +kernel), by decide +kernel, by decide +kernel, by decide⟩, List.mem_of_getElem? (i := 681) (by decide +kernel), List.mem_of_getElem? (i := 682) (by decide +kernel)⟩
theorem v_X_leaveOut : zCV m_X_leaveOut 2 := ⟨⟨List.mem_of_getElem? (i := 679) (by decide +kernel), List.mem_of_getElem? (i := 70) (by decide +kernel), by decide +kernel, by decide +kernel, by decide⟩, List.mem_of_getElem? (i := 677) (by decide +kernel), List.mem_of_getElem? (i := 678) (by decide +kernel)⟩
theorem v_M_leaveOut : zCV m_M_leaveOut 2 := ⟨⟨List.mem_of_getElem? (i := 1380) (by decide +kernel), List.mem_of_getElem? (i := 81) (by decide +kernel), by decide +kernel, by decide +kernel, by decide⟩, List.mem_of_getElem? (i := 1378) (by decide +kernel), List.mem_of_getElem? (i := 1379) (by decide +kernel)⟩
theorem v_Finder_carriedAlone : zCV m_Finder_carriedAlone 0 := ⟨⟨List.mem_of_getElem? (i := 692) (by decide +kernel), List.mem_of_getElem? (i := 76) (by decide +kernel), by decide +kernel, by decide +kernel, by decide⟩, List.mem_of_getElem? (i := 690) (by decide +kernel), List.mem_of_getElem? (i := 691) (by decide +kernel)⟩
theorem v_X_alone : zCV m_X_alone 0 := ⟨⟨List.mem_of_getElem? (i := 688) (by decide +kernel), List.mem_of_getElem? (i := 70) (by decide +kernel), by decide +kernel, by decide +kernel, by decide⟩, List.mem_of_getElem? (i := 686) (by decide +kernel), List.mem_of_getElem? (i := 687) (by decide +kernel)⟩
theorem v_M_alone : zCV m_M_alone 0 := ⟨⟨List.mem_of_getElem? (i := 1384) (by decide +kernel), List.mem_of_getElem? (i := 81) (by decide +kernel), by decide +kernel, by decide +kernel, by decide⟩, List.mem_of_getElem? (i := 1382) (by decide +kernel), List.mem_of_getElem? (i := 1383) (by decide +kernel)⟩
theorem v_Finder_part : zCV m_Finder_part 0 := ⟨⟨List.mem_of_getElem? (i := 700) (by decide +kernel), List.mem_of_getElem? (i := 76) (by decide +kernel), by decide +kernel, by decide +kernel, by decide⟩, List.mem_of_getElem? (i := 698) (by decide +kernel), List.mem_of_getElem? (i := 699) (by decide +kernel)⟩
theorem zib_64 : (Int8.ofInt (64)).toInt32 = (64 : Int32) := by decide +kernel
theorem v_Finder_mostCarried : zCV m_Finder_mostCarried 0 := ⟨⟨List.mem_of_getElem? (i := 704) (by decide +kernel), List.mem_of_getElem? (i := 76) (by decide +kernel), by decide +kernel, by decide +kernel, by decide⟩, List.mem_of_getElem? (i := 702) (by decide +kernel), List.mem_of_getElem? (i := 703) (by decide +kernel)⟩
theorem v_Finder_partOf : zCV m_Finder_partOf 1 := ⟨⟨List.mem_of_getElem? (i := 708) (by decide +kernel), List.mem_of_getElem? (i := 76) (by decide +kernel), by decide +kernel, by decide +kernel, by decide⟩, List.mem_of_getElem? (i := 706) (by decide +kernel), List.mem_of_getElem? (i := 707) (by decide +kernel)⟩
theorem v_X_parted : zCV m_X_parted 1 := ⟨⟨List.mem_of_getElem? (i := 696) (by decide +kernel), List.mem_of_getElem? (i := 70) (by decide +kernel), by decide +kernel, by decide +kernel, by decide⟩, List.mem_of_getElem? (i := 694) (by decide +kernel), List.mem_of_getElem? (i := 695) (by decide +kernel)⟩
theorem v_M_parts : zCV m_M_parts 0 := ⟨⟨List.mem_of_getElem? (i := 1392) (by decide +kernel), List.mem_of_getElem? (i := 81) (by decide +kernel), by decide +kernel, by decide +kernel, by decide⟩, List.mem_of_getElem? (i := 1391) (by decide +kernel), List.mem_of_getElem? (i := 54) (by decide +kernel)⟩
theorem v_M_parted : zCV m_M_parted 1 := ⟨⟨List.mem_of_getElem? (i := 1388) (by decide +kernel), List.mem_of_getElem? (i := 81) (by decide +kernel), by decide +kernel, by decide +kernel, by decide⟩, List.mem_of_getElem? (i := 1386) (by decide +kernel), List.mem_of_getElem? (i := 1387) (by decide +kernel)⟩
theorem v_Finder_countSays : zCV m_Finder_countSays 0 := ⟨⟨List.mem_of_getElem? (i := 720) (by decide +kernel), List.mem_of_getElem? (i := 76) (by decide +kernel), by decide +kernel, by decide +kernel, by decide⟩, List.mem_of_getElem? (i := 719) (by decide +kernel), List.mem_of_getElem? (i := 16) (by decide +kernel)⟩
theorem v_Finder_sayOf : zCV m_Finder_sayOf 1 := ⟨⟨List.mem_of_getElem? (i := 716) (by decide +kernel), List.mem_of_getElem? (i := 76) (by decide +kernel), by decide +kernel, by decide +kernel, by decide⟩, List.mem_of_getElem? (i := 714) (by decide +kernel), List.mem_of_getElem? (i := 715) (by decide +kernel)⟩
theorem v_Finder_powerOf : zCV m_Finder_powerOf 1 := ⟨⟨List.mem_of_getElem? (i := 724) (by decide +kernel), List.mem_of_getElem? (i := 76) (by decide +kernel), by decide +kernel, by decide +kernel, by decide⟩, List.mem_of_getElem? (i := 722) (by decide +kernel), List.mem_of_getElem? (i := 723) (by decide +kernel)⟩
theorem v_X_say : zCV m_X_say 2 := ⟨⟨List.mem_of_getElem? (i := 712) (by decide +kernel), List.mem_of_getElem? (i := 70) (by decide +kernel), by decide +kernel, by decide +kernel, by decide⟩, List.mem_of_getElem? (i := 710) (by decide +kernel), List.mem_of_getElem? (i := 711) (by decide +kernel)⟩
theorem v_M_sayOf : zCV m_M_sayOf 2 := ⟨⟨List.mem_of_getElem? (i := 1400) (by decide +kernel), List.mem_of_getElem? (i := 81) (by decide +kernel), by decide +kernel, by decide +kernel, by decide⟩, List.mem_of_getElem? (i := 1399) (by decide +kernel), List.mem_of_getElem? (i := 55) (by decide +kernel)⟩
theorem v_M_say : zCV m_M_say 2 := ⟨⟨List.mem_of_getElem? (i := 1396) (by decide +kernel), List.mem_of_getElem? (i := 81) (by decide +kernel), by decide +kernel, by decide +kernel, by decide⟩, List.mem_of_getElem? (i := 1394) (by decide +kernel), List.mem_of_getElem? (i := 1395) (by decide +kernel)⟩
theorem v_Finder_mostSaying : zCV m_Finder_mostSaying 0 := ⟨⟨List.mem_of_getElem? (i := 735) (by decide +kernel), List.mem_of_getElem? (i := 76) (by decide +kernel), by decide +kernel, by decide +kernel, by decide⟩, List.mem_of_getElem? (i := 733) (by decide +kernel), List.mem_of_getElem? (i := 734) (by decide +kernel)⟩
theorem v_X_hermit : zCV m_X_hermit 0 := ⟨⟨List.mem_of_getElem? (i := 731) (by decide +kernel), List.mem_of_getElem? (i := 70) (by decide +kernel), by decide +kernel, by decide +kernel, by decide⟩, List.mem_of_getElem? (i := 729) (by decide +kernel), List.mem_of_getElem? (i := 730) (by decide +kernel)⟩
theorem zib_m5 : (Int8.ofInt (-5)).toInt32 = (-5 : Int32) := by decide +kernel
theorem v_M_hermit : zCV m_M_hermit 0 := ⟨⟨List.mem_of_getElem? (i := 1404) (by decide +kernel), List.mem_of_getElem? (i := 81) (by decide +kernel), by decide +kernel, by decide +kernel, by decide⟩, List.mem_of_getElem? (i := 1402) (by decide +kernel), List.mem_of_getElem? (i := 1403) (by decide +kernel)⟩
theorem v_Council_rumourOf : zCV m_Council_rumourOf 1 := ⟨⟨List.mem_of_getElem? (i := 751) (by decide +kernel), List.mem_of_getElem? (i := 71) (by decide +kernel), by decide +kernel, by decide +kernel, by decide⟩, List.mem_of_getElem? (i := 749) (by decide +kernel), List.mem_of_getElem? (i := 750) (by decide +kernel)⟩
theorem v_Finder_weightOf : zCV m_Finder_weightOf 2 := ⟨⟨List.mem_of_getElem? (i := 747) (by decide +kernel), List.mem_of_getElem? (i := 76) (by decide +kernel), by decide +kernel, by decide +kernel, by decide⟩, List.mem_of_getElem? (i := 746) (by decide +kernel), List.mem_of_getElem? (i := 17) (by decide +kernel)⟩
theorem v_Finder_twelfthsCarried : zCV m_Finder_twelfthsCarried 1 := ⟨⟨List.mem_of_getElem? (i := 743) (by decide +kernel), List.mem_of_getElem? (i := 76) (by decide +kernel), by decide +kernel, by decide +kernel, by decide⟩, List.mem_of_getElem? (i := 741) (by decide +kernel), List.mem_of_getElem? (i := 742) (by decide +kernel)⟩
theorem v_Finder_twelfths : zCS m_Finder_twelfths 1 := ⟨⟨List.mem_of_getElem? (i := 754) (by decide +kernel), List.mem_of_getElem? (i := 76) (by decide +kernel), by decide +kernel, by decide +kernel, by decide⟩, List.mem_of_getElem? (i := 753) (by decide +kernel)⟩
theorem v_Finder_commonDivisor : zCS m_Finder_commonDivisor 2 := ⟨⟨List.mem_of_getElem? (i := 757) (by decide +kernel), List.mem_of_getElem? (i := 76) (by decide +kernel), by decide +kernel, by decide +kernel, by decide⟩, List.mem_of_getElem? (i := 756) (by decide +kernel)⟩
theorem v_X_chance : zCV m_X_chance 2 := ⟨⟨List.mem_of_getElem? (i := 739) (by decide +kernel), List.mem_of_getElem? (i := 70) (by decide +kernel), by decide +kernel, by decide +kernel, by decide⟩, List.mem_of_getElem? (i := 737) (by decide +kernel), List.mem_of_getElem? (i := 738) (by decide +kernel)⟩
theorem v_M_common : zCS m_M_common 2 := ⟨⟨List.mem_of_getElem? (i := 1411) (by decide +kernel), List.mem_of_getElem? (i := 81) (by decide +kernel), by decide +kernel, by decide +kernel, by decide⟩, List.mem_of_getElem? (i := 1410) (by decide +kernel)⟩
theorem v_M_chance : zCV m_M_chance 2 := ⟨⟨List.mem_of_getElem? (i := 1408) (by decide +kernel), List.mem_of_getElem? (i := 81) (by decide +kernel), by decide +kernel, by decide +kernel, by decide⟩, List.mem_of_getElem? (i := 1406) (by decide +kernel), List.mem_of_getElem? (i := 1407) (by decide +kernel)⟩
theorem v_Finder_fewestLies : zCV m_Finder_fewestLies 1 := ⟨⟨List.mem_of_getElem? (i := 765) (by decide +kernel), List.mem_of_getElem? (i := 76) (by decide +kernel), by decide +kernel, by decide +kernel, by decide⟩, List.mem_of_getElem? (i := 763) (by decide +kernel), List.mem_of_getElem? (i := 764) (by decide +kernel)⟩
theorem v_X_lies : zCV m_X_lies 1 := ⟨⟨List.mem_of_getElem? (i := 761) (by decide +kernel), List.mem_of_getElem? (i := 70) (by decide +kernel), by decide +kernel, by decide +kernel, by decide⟩, List.mem_of_getElem? (i := 759) (by decide +kernel), List.mem_of_getElem? (i := 760) (by decide +kernel)⟩
theorem v_M_lies : zCV m_M_lies 1 := ⟨⟨List.mem_of_getElem? (i := 1415) (by decide +kernel), List.mem_of_getElem? (i := 81) (by decide +kernel), by decide +kernel, by decide +kernel, by decide⟩, List.mem_of_getElem? (i := 1413) (by decide +kernel), List.mem_of_getElem? (i := 1414) (by decide +kernel)⟩
theorem v_Ballot_whoIsFree : zCV m_Ballot_whoIsFree 2 := ⟨⟨List.mem_of_getElem? (i := 777) (by decide +kernel), List.mem_of_getElem? (i := 75) (by decide +kernel), by decide +kernel, by decide +kernel, by decide⟩, List.mem_of_getElem? (i := 775) (by decide +kernel), List.mem_of_getElem? (i := 776) (by decide +kernel)⟩
theorem v_Finder_stepWithFewer : zCV m_Finder_stepWithFewer 2 := ⟨⟨List.mem_of_getElem? (i := 773) (by decide +kernel), List.mem_of_getElem? (i := 76) (by decide +kernel), by decide +kernel, by decide +kernel, by decide⟩, List.mem_of_getElem? (i := 771) (by decide +kernel), List.mem_of_getElem? (i := 772) (by decide +kernel)⟩
theorem v_X_step : zCV m_X_step 2 := ⟨⟨List.mem_of_getElem? (i := 769) (by decide +kernel), List.mem_of_getElem? (i := 70) (by decide +kernel), by decide +kernel, by decide +kernel, by decide⟩, List.mem_of_getElem? (i := 767) (by decide +kernel), List.mem_of_getElem? (i := 768) (by decide +kernel)⟩
theorem v_M_step : zCV m_M_step 2 := ⟨⟨List.mem_of_getElem? (i := 1419) (by decide +kernel), List.mem_of_getElem? (i := 81) (by decide +kernel), by decide +kernel, by decide +kernel, by decide⟩, List.mem_of_getElem? (i := 1417) (by decide +kernel), List.mem_of_getElem? (i := 1418) (by decide +kernel)⟩
theorem v_Finder_bitAt : zCS m_Finder_bitAt 2 := ⟨⟨List.mem_of_getElem? (i := 789) (by decide +kernel), List.mem_of_getElem? (i := 76) (by decide +kernel), by decide +kernel, by decide +kernel, by decide⟩, List.mem_of_getElem? (i := 788) (by decide +kernel)⟩
theorem v_Finder_oftenCarriedByLot : zCV m_Finder_oftenCarriedByLot 4 := ⟨⟨List.mem_of_getElem? (i := 785) (by decide +kernel), List.mem_of_getElem? (i := 76) (by decide +kernel), by decide +kernel, by decide +kernel, by decide⟩, List.mem_of_getElem? (i := 783) (by decide +kernel), List.mem_of_getElem? (i := 784) (by decide +kernel)⟩
theorem zk_Finder_96 : Cond.constant RX5 96 (1103515245 : Int32) ∈ lw_tbl := List.mem_of_getElem? (i := 786) (by decide +kernel)
theorem zis_12345 : (Int16.ofInt (12345)).toInt32 = (12345 : Int32) := by decide +kernel
theorem v_X_lots : zCV m_X_lots 3 := ⟨⟨List.mem_of_getElem? (i := 781) (by decide +kernel), List.mem_of_getElem? (i := 70) (by decide +kernel), by decide +kernel, by decide +kernel, by decide⟩, List.mem_of_getElem? (i := 779) (by decide +kernel), List.mem_of_getElem? (i := 780) (by decide +kernel)⟩
theorem zib_30 : (Int8.ofInt (30)).toInt32 = (30 : Int32) := by decide +kernel
theorem v_M_drawnOf : zCV m_M_drawnOf 2 := ⟨⟨List.mem_of_getElem? (i := 1429) (by decide +kernel), List.mem_of_getElem? (i := 81) (by decide +kernel), by decide +kernel, by decide +kernel, by decide⟩, List.mem_of_getElem? (i := 1428) (by decide +kernel), List.mem_of_getElem? (i := 56) (by decide +kernel)⟩
theorem v_M_lots : zCV m_M_lots 3 := ⟨⟨List.mem_of_getElem? (i := 1423) (by decide +kernel), List.mem_of_getElem? (i := 81) (by decide +kernel), by decide +kernel, by decide +kernel, by decide⟩, List.mem_of_getElem? (i := 1421) (by decide +kernel), List.mem_of_getElem? (i := 1422) (by decide +kernel)⟩
theorem zk_M_255 : Cond.constantLong RX11 255 (30 : Int64) ∈ lw_tbl := List.mem_of_getElem? (i := 1424) (by decide +kernel)
theorem zk_M_257 : Cond.constant RX11 257 (1103515245 : Int32) ∈ lw_tbl := List.mem_of_getElem? (i := 1425) (by decide +kernel)
theorem v_Shelves_refusedAsRow : zCV m_Shelves_refusedAsRow 2 := ⟨⟨List.mem_of_getElem? (i := 798) (by decide +kernel), List.mem_of_getElem? (i := 77) (by decide +kernel), by decide +kernel, by decide +kernel, by decide⟩, List.mem_of_getElem? (i := 796) (by decide +kernel), List.mem_of_getElem? (i := 797) (by decide +kernel)⟩
theorem zib_m11 : (Int8.ofInt (-11)).toInt32 = (-11 : Int32) := by decide +kernel
theorem v_Shelves_sizeOf : zCV m_Shelves_sizeOf 1 := ⟨⟨List.mem_of_getElem? (i := 806) (by decide +kernel), List.mem_of_getElem? (i := 77) (by decide +kernel), by decide +kernel, by decide +kernel, by decide⟩, List.mem_of_getElem? (i := 804) (by decide +kernel), List.mem_of_getElem? (i := 805) (by decide +kernel)⟩
theorem v_Years_bundleAt : zCV m_Years_bundleAt 2 := ⟨⟨List.mem_of_getElem? (i := 815) (by decide +kernel), List.mem_of_getElem? (i := 78) (by decide +kernel), by decide +kernel, by decide +kernel, by decide⟩, List.mem_of_getElem? (i := 814) (by decide +kernel), List.mem_of_getElem? (i := 19) (by decide +kernel)⟩
theorem v_Years_isWhole : zCV m_Years_isWhole 2 := ⟨⟨List.mem_of_getElem? (i := 810) (by decide +kernel), List.mem_of_getElem? (i := 78) (by decide +kernel), by decide +kernel, by decide +kernel, by decide⟩, List.mem_of_getElem? (i := 809) (by decide +kernel), List.mem_of_getElem? (i := 18) (by decide +kernel)⟩
theorem v_Years_silentAt : zCV m_Years_silentAt 2 := ⟨⟨List.mem_of_getElem? (i := 821) (by decide +kernel), List.mem_of_getElem? (i := 78) (by decide +kernel), by decide +kernel, by decide +kernel, by decide⟩, List.mem_of_getElem? (i := 820) (by decide +kernel), List.mem_of_getElem? (i := 20) (by decide +kernel)⟩
theorem v_Years_mustBeSilent : zCV m_Years_mustBeSilent 1 := ⟨⟨List.mem_of_getElem? (i := 825) (by decide +kernel), List.mem_of_getElem? (i := 78) (by decide +kernel), by decide +kernel, by decide +kernel, by decide⟩, List.mem_of_getElem? (i := 824) (by decide +kernel), List.mem_of_getElem? (i := 21) (by decide +kernel)⟩
theorem v_Years_firstWrong : zCV m_Years_firstWrong 1 := ⟨⟨List.mem_of_getElem? (i := 802) (by decide +kernel), List.mem_of_getElem? (i := 78) (by decide +kernel), by decide +kernel, by decide +kernel, by decide⟩, List.mem_of_getElem? (i := 800) (by decide +kernel), List.mem_of_getElem? (i := 801) (by decide +kernel)⟩
theorem v_X_judge : zCV m_X_judge 1 := ⟨⟨List.mem_of_getElem? (i := 794) (by decide +kernel), List.mem_of_getElem? (i := 70) (by decide +kernel), by decide +kernel, by decide +kernel, by decide⟩, List.mem_of_getElem? (i := 792) (by decide +kernel), List.mem_of_getElem? (i := 793) (by decide +kernel)⟩
theorem v_M_yearIs : zCV m_M_yearIs 1 := ⟨⟨List.mem_of_getElem? (i := 1437) (by decide +kernel), List.mem_of_getElem? (i := 81) (by decide +kernel), by decide +kernel, by decide +kernel, by decide⟩, List.mem_of_getElem? (i := 1436) (by decide +kernel), List.mem_of_getElem? (i := 57) (by decide +kernel)⟩
theorem zib_51 : (Int8.ofInt (51)).toInt32 = (51 : Int32) := by decide +kernel
theorem v_M_bundleAt : zCV m_M_bundleAt 2 := ⟨⟨List.mem_of_getElem? (i := 1441) (by decide +kernel), List.mem_of_getElem? (i := 81) (by decide +kernel), by decide +kernel, by decide +kernel, by decide⟩, List.mem_of_getElem? (i := 1440) (by decide +kernel), List.mem_of_getElem? (i := 58) (by decide +kernel)⟩
theorem v_M_silentAt : zCV m_M_silentAt 2 := ⟨⟨List.mem_of_getElem? (i := 1445) (by decide +kernel), List.mem_of_getElem? (i := 81) (by decide +kernel), by decide +kernel, by decide +kernel, by decide⟩, List.mem_of_getElem? (i := 1444) (by decide +kernel), List.mem_of_getElem? (i := 59) (by decide +kernel)⟩
theorem v_M_judge : zCV m_M_judge 1 := ⟨⟨List.mem_of_getElem? (i := 1433) (by decide +kernel), List.mem_of_getElem? (i := 81) (by decide +kernel), by decide +kernel, by decide +kernel, by decide⟩, List.mem_of_getElem? (i := 1431) (by decide +kernel), List.mem_of_getElem? (i := 1432) (by decide +kernel)⟩
theorem v_Years_isSilentFor : zCV m_Years_isSilentFor 4 := ⟨⟨List.mem_of_getElem? (i := 839) (by decide +kernel), List.mem_of_getElem? (i := 78) (by decide +kernel), by decide +kernel, by decide +kernel, by decide⟩, List.mem_of_getElem? (i := 838) (by decide +kernel), List.mem_of_getElem? (i := 22) (by decide +kernel)⟩
theorem v_Years_hasVotedOn : zCV m_Years_hasVotedOn 4 := ⟨⟨List.mem_of_getElem? (i := 843) (by decide +kernel), List.mem_of_getElem? (i := 78) (by decide +kernel), by decide +kernel, by decide +kernel, by decide⟩, List.mem_of_getElem? (i := 842) (by decide +kernel), List.mem_of_getElem? (i := 23) (by decide +kernel)⟩
theorem v_Years_isShown : zCV m_Years_isShown 3 := ⟨⟨List.mem_of_getElem? (i := 835) (by decide +kernel), List.mem_of_getElem? (i := 78) (by decide +kernel), by decide +kernel, by decide +kernel, by decide⟩, List.mem_of_getElem? (i := 833) (by decide +kernel), List.mem_of_getElem? (i := 834) (by decide +kernel)⟩
theorem v_X_must : zCV m_X_must 2 := ⟨⟨List.mem_of_getElem? (i := 831) (by decide +kernel), List.mem_of_getElem? (i := 70) (by decide +kernel), by decide +kernel, by decide +kernel, by decide⟩, List.mem_of_getElem? (i := 829) (by decide +kernel), List.mem_of_getElem? (i := 830) (by decide +kernel)⟩
theorem v_M_isVotedBeside : zCV m_M_isVotedBeside 4 := ⟨⟨List.mem_of_getElem? (i := 1453) (by decide +kernel), List.mem_of_getElem? (i := 81) (by decide +kernel), by decide +kernel, by decide +kernel, by decide⟩, List.mem_of_getElem? (i := 1452) (by decide +kernel), List.mem_of_getElem? (i := 60) (by decide +kernel)⟩
theorem v_M_must : zCV m_M_must 2 := ⟨⟨List.mem_of_getElem? (i := 1449) (by decide +kernel), List.mem_of_getElem? (i := 81) (by decide +kernel), by decide +kernel, by decide +kernel, by decide⟩, List.mem_of_getElem? (i := 1447) (by decide +kernel), List.mem_of_getElem? (i := 1448) (by decide +kernel)⟩
theorem v_Deeds_decided : zCV m_Deeds_decided 0 := ⟨⟨List.mem_of_getElem? (i := 851) (by decide +kernel), List.mem_of_getElem? (i := 79) (by decide +kernel), by decide +kernel, by decide +kernel, by decide⟩, List.mem_of_getElem? (i := 849) (by decide +kernel), List.mem_of_getElem? (i := 850) (by decide +kernel)⟩
theorem v_Deeds_enter : zCV m_Deeds_enter 4 := ⟨⟨List.mem_of_getElem? (i := 855) (by decide +kernel), List.mem_of_getElem? (i := 79) (by decide +kernel), by decide +kernel, by decide +kernel, by decide⟩, List.mem_of_getElem? (i := 853) (by decide +kernel), List.mem_of_getElem? (i := 854) (by decide +kernel)⟩
theorem v_X_decide : zCV m_X_decide 2 := ⟨⟨List.mem_of_getElem? (i := 847) (by decide +kernel), List.mem_of_getElem? (i := 70) (by decide +kernel), by decide +kernel, by decide +kernel, by decide⟩, List.mem_of_getElem? (i := 845) (by decide +kernel), List.mem_of_getElem? (i := 846) (by decide +kernel)⟩
theorem v_M_decide : zCV m_M_decide 2 := ⟨⟨List.mem_of_getElem? (i := 1457) (by decide +kernel), List.mem_of_getElem? (i := 81) (by decide +kernel), by decide +kernel, by decide +kernel, by decide⟩, List.mem_of_getElem? (i := 1455) (by decide +kernel), List.mem_of_getElem? (i := 1456) (by decide +kernel)⟩
theorem v_Deeds_isAny : zCV m_Deeds_isAny 0 := ⟨⟨List.mem_of_getElem? (i := 863) (by decide +kernel), List.mem_of_getElem? (i := 79) (by decide +kernel), by decide +kernel, by decide +kernel, by decide⟩, List.mem_of_getElem? (i := 861) (by decide +kernel), List.mem_of_getElem? (i := 862) (by decide +kernel)⟩
theorem v_Deeds_told : zCV m_Deeds_told 1 := ⟨⟨List.mem_of_getElem? (i := 867) (by decide +kernel), List.mem_of_getElem? (i := 79) (by decide +kernel), by decide +kernel, by decide +kernel, by decide⟩, List.mem_of_getElem? (i := 865) (by decide +kernel), List.mem_of_getElem? (i := 866) (by decide +kernel)⟩
theorem v_X_led : zCV m_X_led 1 := ⟨⟨List.mem_of_getElem? (i := 859) (by decide +kernel), List.mem_of_getElem? (i := 70) (by decide +kernel), by decide +kernel, by decide +kernel, by decide⟩, List.mem_of_getElem? (i := 857) (by decide +kernel), List.mem_of_getElem? (i := 858) (by decide +kernel)⟩
theorem v_M_led : zCV m_M_led 1 := ⟨⟨List.mem_of_getElem? (i := 1461) (by decide +kernel), List.mem_of_getElem? (i := 81) (by decide +kernel), by decide +kernel, by decide +kernel, by decide⟩, List.mem_of_getElem? (i := 1459) (by decide +kernel), List.mem_of_getElem? (i := 1460) (by decide +kernel)⟩
theorem v_Deeds_keepImage : zCV m_Deeds_keepImage 0 := ⟨⟨List.mem_of_getElem? (i := 875) (by decide +kernel), List.mem_of_getElem? (i := 79) (by decide +kernel), by decide +kernel, by decide +kernel, by decide⟩, List.mem_of_getElem? (i := 873) (by decide +kernel), List.mem_of_getElem? (i := 874) (by decide +kernel)⟩
theorem zp_4_2 : ((zcls 4).2.1 2).2.2.2 = false ∧ zty 4 2 = .boolean := by decide +kernel
theorem v_X_image : zCV m_X_image 0 := ⟨⟨List.mem_of_getElem? (i := 871) (by decide +kernel), List.mem_of_getElem? (i := 70) (by decide +kernel), by decide +kernel, by decide +kernel, by decide⟩, List.mem_of_getElem? (i := 869) (by decide +kernel), List.mem_of_getElem? (i := 870) (by decide +kernel)⟩
theorem v_M_image : zCV m_M_image 0 := ⟨⟨List.mem_of_getElem? (i := 1465) (by decide +kernel), List.mem_of_getElem? (i := 81) (by decide +kernel), by decide +kernel, by decide +kernel, by decide⟩, List.mem_of_getElem? (i := 1463) (by decide +kernel), List.mem_of_getElem? (i := 1464) (by decide +kernel)⟩
theorem zp_11_31 : ((zcls 11).2.1 31).2.2.2 = false ∧ zty 11 31 = .boolean := by decide +kernel
theorem v_Deeds_goBack : zCV m_Deeds_goBack 0 := ⟨⟨List.mem_of_getElem? (i := 884) (by decide +kernel), List.mem_of_getElem? (i := 79) (by decide +kernel), by decide +kernel, by decide +kernel, by decide⟩, List.mem_of_getElem? (i := 882) (by decide +kernel), List.mem_of_getElem? (i := 883) (by decide +kernel)⟩
theorem v_X_back : zCV m_X_back 0 := ⟨⟨List.mem_of_getElem? (i := 880) (by decide +kernel), List.mem_of_getElem? (i := 70) (by decide +kernel), by decide +kernel, by decide +kernel, by decide⟩, List.mem_of_getElem? (i := 878) (by decide +kernel), List.mem_of_getElem? (i := 879) (by decide +kernel)⟩
theorem v_M_back : zCV m_M_back 0 := ⟨⟨List.mem_of_getElem? (i := 1469) (by decide +kernel), List.mem_of_getElem? (i := 81) (by decide +kernel), by decide +kernel, by decide +kernel, by decide⟩, List.mem_of_getElem? (i := 1467) (by decide +kernel), List.mem_of_getElem? (i := 1468) (by decide +kernel)⟩
theorem v_Changes_takeBack : zCV m_Changes_takeBack 0 := ⟨⟨List.mem_of_getElem? (i := 892) (by decide +kernel), List.mem_of_getElem? (i := 72) (by decide +kernel), by decide +kernel, by decide +kernel, by decide⟩, List.mem_of_getElem? (i := 890) (by decide +kernel), List.mem_of_getElem? (i := 891) (by decide +kernel)⟩
theorem v_Changes_undoable : zCV m_Changes_undoable 0 := ⟨⟨List.mem_of_getElem? (i := 896) (by decide +kernel), List.mem_of_getElem? (i := 72) (by decide +kernel), by decide +kernel, by decide +kernel, by decide⟩, List.mem_of_getElem? (i := 894) (by decide +kernel), List.mem_of_getElem? (i := 895) (by decide +kernel)⟩
theorem v_X_undo : zCV m_X_undo 0 := ⟨⟨List.mem_of_getElem? (i := 888) (by decide +kernel), List.mem_of_getElem? (i := 70) (by decide +kernel), by decide +kernel, by decide +kernel, by decide⟩, List.mem_of_getElem? (i := 886) (by decide +kernel), List.mem_of_getElem? (i := 887) (by decide +kernel)⟩
theorem v_M_undo : zCV m_M_undo 0 := ⟨⟨List.mem_of_getElem? (i := 1188) (by decide +kernel), List.mem_of_getElem? (i := 81) (by decide +kernel), by decide +kernel, by decide +kernel, by decide⟩, List.mem_of_getElem? (i := 1186) (by decide +kernel), List.mem_of_getElem? (i := 1187) (by decide +kernel)⟩
theorem v_Changes_makeAgain : zCV m_Changes_makeAgain 0 := ⟨⟨List.mem_of_getElem? (i := 904) (by decide +kernel), List.mem_of_getElem? (i := 72) (by decide +kernel), by decide +kernel, by decide +kernel, by decide⟩, List.mem_of_getElem? (i := 902) (by decide +kernel), List.mem_of_getElem? (i := 903) (by decide +kernel)⟩
theorem v_Changes_redoable : zCV m_Changes_redoable 0 := ⟨⟨List.mem_of_getElem? (i := 908) (by decide +kernel), List.mem_of_getElem? (i := 72) (by decide +kernel), by decide +kernel, by decide +kernel, by decide⟩, List.mem_of_getElem? (i := 906) (by decide +kernel), List.mem_of_getElem? (i := 907) (by decide +kernel)⟩
theorem v_X_redo : zCV m_X_redo 0 := ⟨⟨List.mem_of_getElem? (i := 900) (by decide +kernel), List.mem_of_getElem? (i := 70) (by decide +kernel), by decide +kernel, by decide +kernel, by decide⟩, List.mem_of_getElem? (i := 898) (by decide +kernel), List.mem_of_getElem? (i := 899) (by decide +kernel)⟩
theorem v_M_redo : zCV m_M_redo 0 := ⟨⟨List.mem_of_getElem? (i := 1192) (by decide +kernel), List.mem_of_getElem? (i := 81) (by decide +kernel), by decide +kernel, by decide +kernel, by decide⟩, List.mem_of_getElem? (i := 1190) (by decide +kernel), List.mem_of_getElem? (i := 1191) (by decide +kernel)⟩
theorem v_Voters_isKind : zCS m_Voters_isKind 1 := ⟨⟨List.mem_of_getElem? (i := 915) (by decide +kernel), List.mem_of_getElem? (i := 80) (by decide +kernel), by decide +kernel, by decide +kernel, by decide⟩, List.mem_of_getElem? (i := 914) (by decide +kernel)⟩
theorem v_Voters_add : zCV m_Voters_add 1 := ⟨⟨List.mem_of_getElem? (i := 919) (by decide +kernel), List.mem_of_getElem? (i := 80) (by decide +kernel), by decide +kernel, by decide +kernel, by decide⟩, List.mem_of_getElem? (i := 917) (by decide +kernel), List.mem_of_getElem? (i := 918) (by decide +kernel)⟩
theorem zp_8_2 : ((zcls 8).2.1 2).2.2.2 = false ∧ zty 8 2 = .int := by decide +kernel
theorem v_X_body : zCV m_X_body 1 := ⟨⟨List.mem_of_getElem? (i := 912) (by decide +kernel), List.mem_of_getElem? (i := 70) (by decide +kernel), by decide +kernel, by decide +kernel, by decide⟩, List.mem_of_getElem? (i := 910) (by decide +kernel), List.mem_of_getElem? (i := 911) (by decide +kernel)⟩
theorem v_M_body : zCV m_M_body 1 := ⟨⟨List.mem_of_getElem? (i := 1473) (by decide +kernel), List.mem_of_getElem? (i := 81) (by decide +kernel), by decide +kernel, by decide +kernel, by decide⟩, List.mem_of_getElem? (i := 1471) (by decide +kernel), List.mem_of_getElem? (i := 1472) (by decide +kernel)⟩
theorem zk_M_281 : Cond.constantLong RX11 281 (7 : Int64) ∈ lw_tbl := List.mem_of_getElem? (i := 1474) (by decide +kernel)
theorem zp_11_32 : ((zcls 11).2.1 32).2.2.2 = false ∧ zty 11 32 = .int := by decide +kernel
theorem v_Voters_isVoter : zCV m_Voters_isVoter 1 := ⟨⟨List.mem_of_getElem? (i := 931) (by decide +kernel), List.mem_of_getElem? (i := 80) (by decide +kernel), by decide +kernel, by decide +kernel, by decide⟩, List.mem_of_getElem? (i := 929) (by decide +kernel), List.mem_of_getElem? (i := 930) (by decide +kernel)⟩
theorem v_Voters_kindOf : zCV m_Voters_kindOf 1 := ⟨⟨List.mem_of_getElem? (i := 939) (by decide +kernel), List.mem_of_getElem? (i := 80) (by decide +kernel), by decide +kernel, by decide +kernel, by decide⟩, List.mem_of_getElem? (i := 937) (by decide +kernel), List.mem_of_getElem? (i := 938) (by decide +kernel)⟩
theorem v_Voters_bodyAt : zCS m_Voters_bodyAt 2 := ⟨⟨List.mem_of_getElem? (i := 946) (by decide +kernel), List.mem_of_getElem? (i := 80) (by decide +kernel), by decide +kernel, by decide +kernel, by decide⟩, List.mem_of_getElem? (i := 945) (by decide +kernel)⟩
theorem zg_Voters_58 : Cond.fieldLink RX8 58 RX8 "BODIES" "[I" ∈ lw_tbl := List.mem_of_getElem? (i := 948) (by decide +kernel)
theorem v_Voters_aboveOf : zCS m_Voters_aboveOf 1 := ⟨⟨List.mem_of_getElem? (i := 952) (by decide +kernel), List.mem_of_getElem? (i := 80) (by decide +kernel), by decide +kernel, by decide +kernel, by decide⟩, List.mem_of_getElem? (i := 951) (by decide +kernel)⟩
theorem zg_Voters_61 : Cond.fieldLink RX8 61 RX8 "ABOVE" "[I" ∈ lw_tbl := List.mem_of_getElem? (i := 953) (by decide +kernel)
theorem v_Voters_begin : zCV m_Voters_begin 1 := ⟨⟨List.mem_of_getElem? (i := 958) (by decide +kernel), List.mem_of_getElem? (i := 80) (by decide +kernel), by decide +kernel, by decide +kernel, by decide⟩, List.mem_of_getElem? (i := 957) (by decide +kernel), List.mem_of_getElem? (i := 26) (by decide +kernel)⟩
theorem zib_24 : (Int8.ofInt (24)).toInt32 = (24 : Int32) := by decide +kernel
theorem zp_8_3 : ((zcls 8).2.1 3).2.2.2 = false ∧ zty 8 3 = .int := by decide +kernel
theorem v_Voters_own : zCV m_Voters_own 4 := ⟨⟨List.mem_of_getElem? (i := 935) (by decide +kernel), List.mem_of_getElem? (i := 80) (by decide +kernel), by decide +kernel, by decide +kernel, by decide⟩, List.mem_of_getElem? (i := 934) (by decide +kernel), List.mem_of_getElem? (i := 24) (by decide +kernel)⟩
theorem v_Voters_run : zCV m_Voters_run 5 := ⟨⟨List.mem_of_getElem? (i := 962) (by decide +kernel), List.mem_of_getElem? (i := 80) (by decide +kernel), by decide +kernel, by decide +kernel, by decide⟩, List.mem_of_getElem? (i := 961) (by decide +kernel), List.mem_of_getElem? (i := 27) (by decide +kernel)⟩
theorem v_Voters_runFrom : zCV m_Voters_runFrom 5 := ⟨⟨List.mem_of_getElem? (i := 943) (by decide +kernel), List.mem_of_getElem? (i := 80) (by decide +kernel), by decide +kernel, by decide +kernel, by decide⟩, List.mem_of_getElem? (i := 942) (by decide +kernel), List.mem_of_getElem? (i := 25) (by decide +kernel)⟩
theorem v_Voters_perform : zCV m_Voters_perform 3 := ⟨⟨List.mem_of_getElem? (i := 927) (by decide +kernel), List.mem_of_getElem? (i := 80) (by decide +kernel), by decide +kernel, by decide +kernel, by decide⟩, List.mem_of_getElem? (i := 925) (by decide +kernel), List.mem_of_getElem? (i := 926) (by decide +kernel)⟩
theorem v_X_act : zCV m_X_act 3 := ⟨⟨List.mem_of_getElem? (i := 923) (by decide +kernel), List.mem_of_getElem? (i := 70) (by decide +kernel), by decide +kernel, by decide +kernel, by decide⟩, List.mem_of_getElem? (i := 921) (by decide +kernel), List.mem_of_getElem? (i := 922) (by decide +kernel)⟩
theorem v_M_isBody : zCV m_M_isBody 1 := ⟨⟨List.mem_of_getElem? (i := 1482) (by decide +kernel), List.mem_of_getElem? (i := 81) (by decide +kernel), by decide +kernel, by decide +kernel, by decide⟩, List.mem_of_getElem? (i := 1481) (by decide +kernel), List.mem_of_getElem? (i := 61) (by decide +kernel)⟩
theorem v_M_begins : zCV m_M_begins 1 := ⟨⟨List.mem_of_getElem? (i := 1490) (by decide +kernel), List.mem_of_getElem? (i := 81) (by decide +kernel), by decide +kernel, by decide +kernel, by decide⟩, List.mem_of_getElem? (i := 1489) (by decide +kernel), List.mem_of_getElem? (i := 63) (by decide +kernel)⟩
theorem zp_11_35 : ((zcls 11).2.1 35).2.2.2 = false ∧ zty 11 35 = .int := by decide +kernel
theorem v_M_votesAs : zCV m_M_votesAs 2 := ⟨⟨List.mem_of_getElem? (i := 1486) (by decide +kernel), List.mem_of_getElem? (i := 81) (by decide +kernel), by decide +kernel, by decide +kernel, by decide⟩, List.mem_of_getElem? (i := 1485) (by decide +kernel), List.mem_of_getElem? (i := 62) (by decide +kernel)⟩
theorem zib_20 : (Int8.ofInt (20)).toInt32 = (20 : Int32) := by decide +kernel
theorem zib_7 : (Int8.ofInt (7)).toInt32 = (7 : Int32) := by decide +kernel
theorem zib_70 : (Int8.ofInt (70)).toInt32 = (70 : Int32) := by decide +kernel
theorem v_M_givesAs : zCV m_M_givesAs 2 := ⟨⟨List.mem_of_getElem? (i := 1498) (by decide +kernel), List.mem_of_getElem? (i := 81) (by decide +kernel), by decide +kernel, by decide +kernel, by decide⟩, List.mem_of_getElem? (i := 1497) (by decide +kernel), List.mem_of_getElem? (i := 65) (by decide +kernel)⟩
theorem zib_11 : (Int8.ofInt (11)).toInt32 = (11 : Int32) := by decide +kernel
theorem v_M_ownsAs : zCV m_M_ownsAs 2 := ⟨⟨List.mem_of_getElem? (i := 1494) (by decide +kernel), List.mem_of_getElem? (i := 81) (by decide +kernel), by decide +kernel, by decide +kernel, by decide⟩, List.mem_of_getElem? (i := 1493) (by decide +kernel), List.mem_of_getElem? (i := 64) (by decide +kernel)⟩
theorem zib_80 : (Int8.ofInt (80)).toInt32 = (80 : Int32) := by decide +kernel
theorem v_M_tellsAs : zCV m_M_tellsAs 2 := ⟨⟨List.mem_of_getElem? (i := 1502) (by decide +kernel), List.mem_of_getElem? (i := 81) (by decide +kernel), by decide +kernel, by decide +kernel, by decide⟩, List.mem_of_getElem? (i := 1501) (by decide +kernel), List.mem_of_getElem? (i := 66) (by decide +kernel)⟩
theorem zib_81 : (Int8.ofInt (81)).toInt32 = (81 : Int32) := by decide +kernel
theorem v_M_act : zCV m_M_act 3 := ⟨⟨List.mem_of_getElem? (i := 1478) (by decide +kernel), List.mem_of_getElem? (i := 81) (by decide +kernel), by decide +kernel, by decide +kernel, by decide⟩, List.mem_of_getElem? (i := 1476) (by decide +kernel), List.mem_of_getElem? (i := 1477) (by decide +kernel)⟩
theorem zp_11_36 : ((zcls 11).2.1 36).2.2.2 = false ∧ zty 11 36 = .int := by decide +kernel
theorem zp_11_37 : ((zcls 11).2.1 37).2.2.2 = false ∧ zty 11 37 = .int := by decide +kernel
theorem v_Voters_ranAt : zCV m_Voters_ranAt 1 := ⟨⟨List.mem_of_getElem? (i := 970) (by decide +kernel), List.mem_of_getElem? (i := 80) (by decide +kernel), by decide +kernel, by decide +kernel, by decide⟩, List.mem_of_getElem? (i := 968) (by decide +kernel), List.mem_of_getElem? (i := 969) (by decide +kernel)⟩
theorem v_X_trace : zCV m_X_trace 1 := ⟨⟨List.mem_of_getElem? (i := 966) (by decide +kernel), List.mem_of_getElem? (i := 70) (by decide +kernel), by decide +kernel, by decide +kernel, by decide⟩, List.mem_of_getElem? (i := 964) (by decide +kernel), List.mem_of_getElem? (i := 965) (by decide +kernel)⟩
theorem v_M_trace : zCV m_M_trace 1 := ⟨⟨List.mem_of_getElem? (i := 1506) (by decide +kernel), List.mem_of_getElem? (i := 81) (by decide +kernel), by decide +kernel, by decide +kernel, by decide⟩, List.mem_of_getElem? (i := 1504) (by decide +kernel), List.mem_of_getElem? (i := 1505) (by decide +kernel)⟩
theorem v_Shelves_holdVoter : zCV m_Shelves_holdVoter 2 := ⟨⟨List.mem_of_getElem? (i := 979) (by decide +kernel), List.mem_of_getElem? (i := 77) (by decide +kernel), by decide +kernel, by decide +kernel, by decide⟩, List.mem_of_getElem? (i := 977) (by decide +kernel), List.mem_of_getElem? (i := 978) (by decide +kernel)⟩
theorem v_X_keep : zCV m_X_keep 2 := ⟨⟨List.mem_of_getElem? (i := 974) (by decide +kernel), List.mem_of_getElem? (i := 70) (by decide +kernel), by decide +kernel, by decide +kernel, by decide⟩, List.mem_of_getElem? (i := 972) (by decide +kernel), List.mem_of_getElem? (i := 973) (by decide +kernel)⟩
theorem v_M_keep : zCV m_M_keep 2 := ⟨⟨List.mem_of_getElem? (i := 1510) (by decide +kernel), List.mem_of_getElem? (i := 81) (by decide +kernel), by decide +kernel, by decide +kernel, by decide⟩, List.mem_of_getElem? (i := 1508) (by decide +kernel), List.mem_of_getElem? (i := 1509) (by decide +kernel)⟩
theorem v_Shelves_isSort : zCS m_Shelves_isSort 1 := ⟨⟨List.mem_of_getElem? (i := 986) (by decide +kernel), List.mem_of_getElem? (i := 77) (by decide +kernel), by decide +kernel, by decide +kernel, by decide⟩, List.mem_of_getElem? (i := 985) (by decide +kernel)⟩
theorem v_Shelves_holdRow : zCV m_Shelves_holdRow 3 := ⟨⟨List.mem_of_getElem? (i := 990) (by decide +kernel), List.mem_of_getElem? (i := 77) (by decide +kernel), by decide +kernel, by decide +kernel, by decide⟩, List.mem_of_getElem? (i := 988) (by decide +kernel), List.mem_of_getElem? (i := 989) (by decide +kernel)⟩
theorem v_X_row : zCV m_X_row 3 := ⟨⟨List.mem_of_getElem? (i := 983) (by decide +kernel), List.mem_of_getElem? (i := 70) (by decide +kernel), by decide +kernel, by decide +kernel, by decide⟩, List.mem_of_getElem? (i := 981) (by decide +kernel), List.mem_of_getElem? (i := 982) (by decide +kernel)⟩
theorem zib_m14 : (Int8.ofInt (-14)).toInt32 = (-14 : Int32) := by decide +kernel
theorem v_M_row : zCV m_M_row 3 := ⟨⟨List.mem_of_getElem? (i := 1514) (by decide +kernel), List.mem_of_getElem? (i := 81) (by decide +kernel), by decide +kernel, by decide +kernel, by decide⟩, List.mem_of_getElem? (i := 1512) (by decide +kernel), List.mem_of_getElem? (i := 1513) (by decide +kernel)⟩
theorem v_Shelves_refusedAt : zCV m_Shelves_refusedAt 2 := ⟨⟨List.mem_of_getElem? (i := 998) (by decide +kernel), List.mem_of_getElem? (i := 77) (by decide +kernel), by decide +kernel, by decide +kernel, by decide⟩, List.mem_of_getElem? (i := 996) (by decide +kernel), List.mem_of_getElem? (i := 997) (by decide +kernel)⟩
theorem zib_m13 : (Int8.ofInt (-13)).toInt32 = (-13 : Int32) := by decide +kernel
theorem v_Shelves_lowestBits : zCS m_Shelves_lowestBits 2 := ⟨⟨List.mem_of_getElem? (i := 1006) (by decide +kernel), List.mem_of_getElem? (i := 77) (by decide +kernel), by decide +kernel, by decide +kernel, by decide⟩, List.mem_of_getElem? (i := 1005) (by decide +kernel)⟩
theorem v_Shelves_set : zCV m_Shelves_set 3 := ⟨⟨List.mem_of_getElem? (i := 1003) (by decide +kernel), List.mem_of_getElem? (i := 77) (by decide +kernel), by decide +kernel, by decide +kernel, by decide⟩, List.mem_of_getElem? (i := 1001) (by decide +kernel), List.mem_of_getElem? (i := 1002) (by decide +kernel)⟩
theorem v_X_put : zCV m_X_put 3 := ⟨⟨List.mem_of_getElem? (i := 994) (by decide +kernel), List.mem_of_getElem? (i := 70) (by decide +kernel), by decide +kernel, by decide +kernel, by decide⟩, List.mem_of_getElem? (i := 992) (by decide +kernel), List.mem_of_getElem? (i := 993) (by decide +kernel)⟩
theorem v_M_refusal : zCV m_M_refusal 2 := ⟨⟨List.mem_of_getElem? (i := 1522) (by decide +kernel), List.mem_of_getElem? (i := 81) (by decide +kernel), by decide +kernel, by decide +kernel, by decide⟩, List.mem_of_getElem? (i := 1521) (by decide +kernel), List.mem_of_getElem? (i := 67) (by decide +kernel)⟩
theorem v_M_asSort : zCS m_M_asSort 2 := ⟨⟨List.mem_of_getElem? (i := 1525) (by decide +kernel), List.mem_of_getElem? (i := 81) (by decide +kernel), by decide +kernel, by decide +kernel, by decide⟩, List.mem_of_getElem? (i := 1524) (by decide +kernel)⟩
theorem v_M_put : zCV m_M_put 3 := ⟨⟨List.mem_of_getElem? (i := 1518) (by decide +kernel), List.mem_of_getElem? (i := 81) (by decide +kernel), by decide +kernel, by decide +kernel, by decide⟩, List.mem_of_getElem? (i := 1516) (by decide +kernel), List.mem_of_getElem? (i := 1517) (by decide +kernel)⟩
theorem v_X_element : zCV m_X_element 2 := ⟨⟨List.mem_of_getElem? (i := 1010) (by decide +kernel), List.mem_of_getElem? (i := 70) (by decide +kernel), by decide +kernel, by decide +kernel, by decide⟩, List.mem_of_getElem? (i := 1008) (by decide +kernel), List.mem_of_getElem? (i := 1009) (by decide +kernel)⟩
theorem zk_X_326 : Cond.constantLong RX10 326 (-9223372036854775808 : Int64) ∈ lw_tbl := List.mem_of_getElem? (i := 1011) (by decide +kernel)
theorem v_M_element : zCV m_M_element 2 := ⟨⟨List.mem_of_getElem? (i := 1529) (by decide +kernel), List.mem_of_getElem? (i := 81) (by decide +kernel), by decide +kernel, by decide +kernel, by decide⟩, List.mem_of_getElem? (i := 1527) (by decide +kernel), List.mem_of_getElem? (i := 1528) (by decide +kernel)⟩
theorem zk_M_322 : Cond.constantLong RX11 322 (-9223372036854775808 : Int64) ∈ lw_tbl := List.mem_of_getElem? (i := 1530) (by decide +kernel)
theorem v_Shelves_hasPlaces : zCV m_Shelves_hasPlaces 3 := ⟨⟨List.mem_of_getElem? (i := 1019) (by decide +kernel), List.mem_of_getElem? (i := 77) (by decide +kernel), by decide +kernel, by decide +kernel, by decide⟩, List.mem_of_getElem? (i := 1017) (by decide +kernel), List.mem_of_getElem? (i := 1018) (by decide +kernel)⟩
theorem v_Shelves_copy : zCV m_Shelves_copy 5 := ⟨⟨List.mem_of_getElem? (i := 1024) (by decide +kernel), List.mem_of_getElem? (i := 77) (by decide +kernel), by decide +kernel, by decide +kernel, by decide⟩, List.mem_of_getElem? (i := 1022) (by decide +kernel), List.mem_of_getElem? (i := 1023) (by decide +kernel)⟩
theorem v_X_shift : zCV m_X_shift 5 := ⟨⟨List.mem_of_getElem? (i := 1015) (by decide +kernel), List.mem_of_getElem? (i := 70) (by decide +kernel), by decide +kernel, by decide +kernel, by decide⟩, List.mem_of_getElem? (i := 1013) (by decide +kernel), List.mem_of_getElem? (i := 1014) (by decide +kernel)⟩
theorem v_M_shift : zCV m_M_shift 5 := ⟨⟨List.mem_of_getElem? (i := 1534) (by decide +kernel), List.mem_of_getElem? (i := 81) (by decide +kernel), by decide +kernel, by decide +kernel, by decide⟩, List.mem_of_getElem? (i := 1532) (by decide +kernel), List.mem_of_getElem? (i := 1533) (by decide +kernel)⟩
theorem v_Shelves_voterOn : zCV m_Shelves_voterOn 1 := ⟨⟨List.mem_of_getElem? (i := 1034) (by decide +kernel), List.mem_of_getElem? (i := 77) (by decide +kernel), by decide +kernel, by decide +kernel, by decide⟩, List.mem_of_getElem? (i := 1032) (by decide +kernel), List.mem_of_getElem? (i := 1033) (by decide +kernel)⟩
theorem v_Voters_isUnder : zCS m_Voters_isUnder 2 := ⟨⟨List.mem_of_getElem? (i := 1038) (by decide +kernel), List.mem_of_getElem? (i := 80) (by decide +kernel), by decide +kernel, by decide +kernel, by decide⟩, List.mem_of_getElem? (i := 1037) (by decide +kernel)⟩
theorem v_X_taken : zCV m_X_taken 2 := ⟨⟨List.mem_of_getElem? (i := 1030) (by decide +kernel), List.mem_of_getElem? (i := 70) (by decide +kernel), by decide +kernel, by decide +kernel, by decide⟩, List.mem_of_getElem? (i := 1028) (by decide +kernel), List.mem_of_getElem? (i := 1029) (by decide +kernel)⟩
theorem v_M_kindOf : zCV m_M_kindOf 1 := ⟨⟨List.mem_of_getElem? (i := 1542) (by decide +kernel), List.mem_of_getElem? (i := 81) (by decide +kernel), by decide +kernel, by decide +kernel, by decide⟩, List.mem_of_getElem? (i := 1541) (by decide +kernel), List.mem_of_getElem? (i := 68) (by decide +kernel)⟩
theorem v_M_above : zCS m_M_above 1 := ⟨⟨List.mem_of_getElem? (i := 1545) (by decide +kernel), List.mem_of_getElem? (i := 81) (by decide +kernel), by decide +kernel, by decide +kernel, by decide⟩, List.mem_of_getElem? (i := 1544) (by decide +kernel)⟩
theorem v_M_taken : zCV m_M_taken 2 := ⟨⟨List.mem_of_getElem? (i := 1538) (by decide +kernel), List.mem_of_getElem? (i := 81) (by decide +kernel), by decide +kernel, by decide +kernel, by decide⟩, List.mem_of_getElem? (i := 1536) (by decide +kernel), List.mem_of_getElem? (i := 1537) (by decide +kernel)⟩
theorem v_Voters_size : zCV m_Voters_size 0 := ⟨⟨List.mem_of_getElem? (i := 1046) (by decide +kernel), List.mem_of_getElem? (i := 80) (by decide +kernel), by decide +kernel, by decide +kernel, by decide⟩, List.mem_of_getElem? (i := 1044) (by decide +kernel), List.mem_of_getElem? (i := 1045) (by decide +kernel)⟩
theorem v_Voters_ranInAll : zCV m_Voters_ranInAll 0 := ⟨⟨List.mem_of_getElem? (i := 1050) (by decide +kernel), List.mem_of_getElem? (i := 80) (by decide +kernel), by decide +kernel, by decide +kernel, by decide⟩, List.mem_of_getElem? (i := 1048) (by decide +kernel), List.mem_of_getElem? (i := 1049) (by decide +kernel)⟩
theorem v_X_count : zCV m_X_count 1 := ⟨⟨List.mem_of_getElem? (i := 1042) (by decide +kernel), List.mem_of_getElem? (i := 70) (by decide +kernel), by decide +kernel, by decide +kernel, by decide⟩, List.mem_of_getElem? (i := 1040) (by decide +kernel), List.mem_of_getElem? (i := 1041) (by decide +kernel)⟩
theorem v_M_count : zCV m_M_count 1 := ⟨⟨List.mem_of_getElem? (i := 1549) (by decide +kernel), List.mem_of_getElem? (i := 81) (by decide +kernel), by decide +kernel, by decide +kernel, by decide⟩, List.mem_of_getElem? (i := 1547) (by decide +kernel), List.mem_of_getElem? (i := 1548) (by decide +kernel)⟩
theorem zic_6 : Int32.ofInt (6) = (6 : Int32) := by decide +kernel
theorem zib_32 : (Int8.ofInt (32)).toInt32 = (32 : Int32) := by decide +kernel
theorem zk_L_157 : Cond.constantLong RL 157 (4294967295 : Int64) ∈ lw_tbl := List.mem_of_getElem? (i := 1550) (by decide +kernel)
