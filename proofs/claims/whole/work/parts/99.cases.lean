/-! ===== the law: its cases ===== -/
theorem vl_const : Cond.constantLong "InTheGardenLaw" 13 4294967295 ∈ g_tbl := g_in6 232 rfl rfl
theorem vl_15 : Cond.methodLink R_law 15 ⟨"InTheGarden", "feed", "(IJ)I"⟩ ∈ g_tbl := g_in2 117 rfl rfl
theorem vi_X9_feed : Cond.instanceMethod ⟨"InTheGarden", "feed", "(IJ)I"⟩ ∈ g_tbl := g_in2 118 rfl rfl
theorem vs_X9_feed : Cond.selects "InTheGarden" ⟨"InTheGarden", "feed", "(IJ)I"⟩ ⟨"InTheGarden", "feed", "(IJ)I"⟩ ∈ g_tbl := g_in2 119 rfl rfl
theorem vd_X9_feed : Cond.code ⟨"InTheGarden", "feed", "(IJ)I"⟩ prog_1_method_2_code 4 (some .int) ∈ g_tbl := g_in2 120 rfl rfl
theorem wv_X9_feed : g_cw g_mi 82 2 := ⟨vd_X9_feed, ni_9, ⟨by decide +kernel, by decide +kernel, by decide +kernel⟩, by decide +kernel⟩
theorem vl_19 : Cond.methodLink R_law 19 ⟨"InTheGardenModel", "feed", "(IJ)I"⟩ ∈ g_tbl := g_in5 135 rfl rfl
theorem vi_X10_feed : Cond.instanceMethod ⟨"InTheGardenModel", "feed", "(IJ)I"⟩ ∈ g_tbl := g_in5 136 rfl rfl
theorem vs_X10_feed : Cond.selects "InTheGardenModel" ⟨"InTheGardenModel", "feed", "(IJ)I"⟩ ⟨"InTheGardenModel", "feed", "(IJ)I"⟩ ∈ g_tbl := g_in5 137 rfl rfl
theorem vd_X10_feed : Cond.code ⟨"InTheGardenModel", "feed", "(IJ)I"⟩ prog_12_method_10_code 5 (some .int) ∈ g_tbl := g_in5 138 rfl rfl
theorem wv_X10_feed : g_cw g_mi 127 2 := ⟨vd_X10_feed, ni_10, ⟨by decide +kernel, by decide +kernel, by decide +kernel⟩, by decide +kernel⟩
theorem vl_20 : Cond.methodLink R_law 20 ⟨"InTheGarden", "garden", "()I"⟩ ∈ g_tbl := g_in2 130 rfl rfl
theorem vi_X9_garden : Cond.instanceMethod ⟨"InTheGarden", "garden", "()I"⟩ ∈ g_tbl := g_in2 131 rfl rfl
theorem vs_X9_garden : Cond.selects "InTheGarden" ⟨"InTheGarden", "garden", "()I"⟩ ⟨"InTheGarden", "garden", "()I"⟩ ∈ g_tbl := g_in2 132 rfl rfl
theorem vd_X9_garden : Cond.code ⟨"InTheGarden", "garden", "()I"⟩ prog_1_method_3_code 2 (some .int) ∈ g_tbl := g_in2 133 rfl rfl
theorem wv_X9_garden : g_cw g_mi 83 0 := ⟨vd_X9_garden, ni_9, ⟨by decide +kernel, by decide +kernel, by decide +kernel⟩, by decide +kernel⟩
theorem vl_24 : Cond.methodLink R_law 24 ⟨"InTheGardenModel", "garden", "()I"⟩ ∈ g_tbl := g_in5 144 rfl rfl
theorem vi_X10_garden : Cond.instanceMethod ⟨"InTheGardenModel", "garden", "()I"⟩ ∈ g_tbl := g_in5 145 rfl rfl
theorem vs_X10_garden : Cond.selects "InTheGardenModel" ⟨"InTheGardenModel", "garden", "()I"⟩ ⟨"InTheGardenModel", "garden", "()I"⟩ ∈ g_tbl := g_in5 146 rfl rfl
theorem vd_X10_garden : Cond.code ⟨"InTheGardenModel", "garden", "()I"⟩ prog_12_method_20_code 2 (some .int) ∈ g_tbl := g_in5 147 rfl rfl
theorem wv_X10_garden : g_cw g_mi 137 0 := ⟨vd_X10_garden, ni_10, ⟨by decide +kernel, by decide +kernel, by decide +kernel⟩, by decide +kernel⟩
theorem vl_25 : Cond.methodLink R_law 25 ⟨"InTheGarden", "place", "(II)I"⟩ ∈ g_tbl := g_in3 86 rfl rfl
theorem vi_X9_place : Cond.instanceMethod ⟨"InTheGarden", "place", "(II)I"⟩ ∈ g_tbl := g_in3 87 rfl rfl
theorem vs_X9_place : Cond.selects "InTheGarden" ⟨"InTheGarden", "place", "(II)I"⟩ ⟨"InTheGarden", "place", "(II)I"⟩ ∈ g_tbl := g_in3 88 rfl rfl
theorem vd_X9_place : Cond.code ⟨"InTheGarden", "place", "(II)I"⟩ prog_1_method_4_code 4 (some .int) ∈ g_tbl := g_in3 89 rfl rfl
theorem wv_X9_place : g_cw g_mi 84 2 := ⟨vd_X9_place, ni_9, ⟨by decide +kernel, by decide +kernel, by decide +kernel⟩, by decide +kernel⟩
theorem vl_29 : Cond.methodLink R_law 29 ⟨"InTheGardenModel", "place", "(II)I"⟩ ∈ g_tbl := g_in5 182 rfl rfl
theorem vi_X10_place : Cond.instanceMethod ⟨"InTheGardenModel", "place", "(II)I"⟩ ∈ g_tbl := g_in5 183 rfl rfl
theorem vs_X10_place : Cond.selects "InTheGardenModel" ⟨"InTheGardenModel", "place", "(II)I"⟩ ⟨"InTheGardenModel", "place", "(II)I"⟩ ∈ g_tbl := g_in5 184 rfl rfl
theorem vd_X10_place : Cond.code ⟨"InTheGardenModel", "place", "(II)I"⟩ prog_12_method_24_code 3 (some .int) ∈ g_tbl := g_in5 185 rfl rfl
theorem wv_X10_place : g_cw g_mi 141 2 := ⟨vd_X10_place, ni_10, ⟨by decide +kernel, by decide +kernel, by decide +kernel⟩, by decide +kernel⟩
theorem vl_30 : Cond.methodLink R_law 30 ⟨"InTheGarden", "sees", "(II)I"⟩ ∈ g_tbl := g_in3 91 rfl rfl
theorem vi_X9_sees : Cond.instanceMethod ⟨"InTheGarden", "sees", "(II)I"⟩ ∈ g_tbl := g_in3 92 rfl rfl
theorem vs_X9_sees : Cond.selects "InTheGarden" ⟨"InTheGarden", "sees", "(II)I"⟩ ⟨"InTheGarden", "sees", "(II)I"⟩ ∈ g_tbl := g_in3 93 rfl rfl
theorem vd_X9_sees : Cond.code ⟨"InTheGarden", "sees", "(II)I"⟩ prog_1_method_5_code 4 (some .int) ∈ g_tbl := g_in3 94 rfl rfl
theorem wv_X9_sees : g_cw g_mi 85 2 := ⟨vd_X9_sees, ni_9, ⟨by decide +kernel, by decide +kernel, by decide +kernel⟩, by decide +kernel⟩
theorem vl_33 : Cond.methodLink R_law 33 ⟨"InTheGardenModel", "sees", "(II)I"⟩ ∈ g_tbl := g_in5 197 rfl rfl
theorem vi_X10_sees : Cond.instanceMethod ⟨"InTheGardenModel", "sees", "(II)I"⟩ ∈ g_tbl := g_in5 198 rfl rfl
theorem vs_X10_sees : Cond.selects "InTheGardenModel" ⟨"InTheGardenModel", "sees", "(II)I"⟩ ⟨"InTheGardenModel", "sees", "(II)I"⟩ ∈ g_tbl := g_in5 199 rfl rfl
theorem vd_X10_sees : Cond.code ⟨"InTheGardenModel", "sees", "(II)I"⟩ prog_12_method_26_code 3 (some .int) ∈ g_tbl := g_in5 200 rfl rfl
theorem wv_X10_sees : g_cw g_mi 143 2 := ⟨vd_X10_sees, ni_10, ⟨by decide +kernel, by decide +kernel, by decide +kernel⟩, by decide +kernel⟩
theorem vl_34 : Cond.methodLink R_law 34 ⟨"InTheGarden", "far", "(II)I"⟩ ∈ g_tbl := g_in3 96 rfl rfl
theorem vi_X9_far : Cond.instanceMethod ⟨"InTheGarden", "far", "(II)I"⟩ ∈ g_tbl := g_in3 97 rfl rfl
theorem vs_X9_far : Cond.selects "InTheGarden" ⟨"InTheGarden", "far", "(II)I"⟩ ⟨"InTheGarden", "far", "(II)I"⟩ ∈ g_tbl := g_in3 98 rfl rfl
theorem vd_X9_far : Cond.code ⟨"InTheGarden", "far", "(II)I"⟩ prog_1_method_6_code 4 (some .int) ∈ g_tbl := g_in3 99 rfl rfl
theorem wv_X9_far : g_cw g_mi 86 2 := ⟨vd_X9_far, ni_9, ⟨by decide +kernel, by decide +kernel, by decide +kernel⟩, by decide +kernel⟩
theorem vl_37 : Cond.methodLink R_law 37 ⟨"InTheGardenModel", "far", "(II)I"⟩ ∈ g_tbl := g_in5 205 rfl rfl
theorem vi_X10_far : Cond.instanceMethod ⟨"InTheGardenModel", "far", "(II)I"⟩ ∈ g_tbl := g_in5 206 rfl rfl
theorem vs_X10_far : Cond.selects "InTheGardenModel" ⟨"InTheGardenModel", "far", "(II)I"⟩ ⟨"InTheGardenModel", "far", "(II)I"⟩ ∈ g_tbl := g_in5 207 rfl rfl
theorem vd_X10_far : Cond.code ⟨"InTheGardenModel", "far", "(II)I"⟩ prog_12_method_27_code 3 (some .int) ∈ g_tbl := g_in5 208 rfl rfl
theorem wv_X10_far : g_cw g_mi 144 2 := ⟨vd_X10_far, ni_10, ⟨by decide +kernel, by decide +kernel, by decide +kernel⟩, by decide +kernel⟩
theorem vl_38 : Cond.methodLink R_law 38 ⟨"InTheGarden", "hider", "(II)I"⟩ ∈ g_tbl := g_in3 104 rfl rfl
theorem vi_X9_hider : Cond.instanceMethod ⟨"InTheGarden", "hider", "(II)I"⟩ ∈ g_tbl := g_in3 105 rfl rfl
theorem vs_X9_hider : Cond.selects "InTheGarden" ⟨"InTheGarden", "hider", "(II)I"⟩ ⟨"InTheGarden", "hider", "(II)I"⟩ ∈ g_tbl := g_in3 106 rfl rfl
theorem vd_X9_hider : Cond.code ⟨"InTheGarden", "hider", "(II)I"⟩ prog_1_method_7_code 4 (some .int) ∈ g_tbl := g_in3 107 rfl rfl
theorem wv_X9_hider : g_cw g_mi 87 2 := ⟨vd_X9_hider, ni_9, ⟨by decide +kernel, by decide +kernel, by decide +kernel⟩, by decide +kernel⟩
theorem vl_41 : Cond.methodLink R_law 41 ⟨"InTheGardenModel", "hider", "(II)I"⟩ ∈ g_tbl := g_in5 222 rfl rfl
theorem vi_X10_hider : Cond.instanceMethod ⟨"InTheGardenModel", "hider", "(II)I"⟩ ∈ g_tbl := g_in5 223 rfl rfl
theorem vs_X10_hider : Cond.selects "InTheGardenModel" ⟨"InTheGardenModel", "hider", "(II)I"⟩ ⟨"InTheGardenModel", "hider", "(II)I"⟩ ∈ g_tbl := g_in5 224 rfl rfl
theorem vd_X10_hider : Cond.code ⟨"InTheGardenModel", "hider", "(II)I"⟩ prog_12_method_30_code 3 (some .int) ∈ g_tbl := g_in5 225 rfl rfl
theorem wv_X10_hider : g_cw g_mi 147 2 := ⟨vd_X10_hider, ni_10, ⟨by decide +kernel, by decide +kernel, by decide +kernel⟩, by decide +kernel⟩
theorem vl_42 : Cond.methodLink R_law 42 ⟨"InTheGarden", "times", "(II)I"⟩ ∈ g_tbl := g_in3 112 rfl rfl
theorem vi_X9_times : Cond.instanceMethod ⟨"InTheGarden", "times", "(II)I"⟩ ∈ g_tbl := g_in3 113 rfl rfl
theorem vs_X9_times : Cond.selects "InTheGarden" ⟨"InTheGarden", "times", "(II)I"⟩ ⟨"InTheGarden", "times", "(II)I"⟩ ∈ g_tbl := g_in3 114 rfl rfl
theorem vd_X9_times : Cond.code ⟨"InTheGarden", "times", "(II)I"⟩ prog_1_method_8_code 5 (some .int) ∈ g_tbl := g_in3 115 rfl rfl
theorem wv_X9_times : g_cw g_mi 88 2 := ⟨vd_X9_times, ni_9, ⟨by decide +kernel, by decide +kernel, by decide +kernel⟩, by decide +kernel⟩
theorem vl_45 : Cond.methodLink R_law 45 ⟨"InTheGardenModel", "times", "(II)I"⟩ ∈ g_tbl := g_in5 230 rfl rfl
theorem vi_X10_times : Cond.instanceMethod ⟨"InTheGardenModel", "times", "(II)I"⟩ ∈ g_tbl := g_in5 231 rfl rfl
theorem vs_X10_times : Cond.selects "InTheGardenModel" ⟨"InTheGardenModel", "times", "(II)I"⟩ ⟨"InTheGardenModel", "times", "(II)I"⟩ ∈ g_tbl := g_in5 232 rfl rfl
theorem vd_X10_times : Cond.code ⟨"InTheGardenModel", "times", "(II)I"⟩ prog_12_method_32_code 4 (some .int) ∈ g_tbl := g_in5 233 rfl rfl
theorem wv_X10_times : g_cw g_mi 149 2 := ⟨vd_X10_times, ni_10, ⟨by decide +kernel, by decide +kernel, by decide +kernel⟩, by decide +kernel⟩
theorem vl_46 : Cond.methodLink R_law 46 ⟨"InTheGarden", "set", "(II)I"⟩ ∈ g_tbl := g_in3 120 rfl rfl
theorem vi_X9_set : Cond.instanceMethod ⟨"InTheGarden", "set", "(II)I"⟩ ∈ g_tbl := g_in3 121 rfl rfl
theorem vs_X9_set : Cond.selects "InTheGarden" ⟨"InTheGarden", "set", "(II)I"⟩ ⟨"InTheGarden", "set", "(II)I"⟩ ∈ g_tbl := g_in3 122 rfl rfl
theorem vd_X9_set : Cond.code ⟨"InTheGarden", "set", "(II)I"⟩ prog_1_method_9_code 4 (some .int) ∈ g_tbl := g_in3 123 rfl rfl
theorem wv_X9_set : g_cw g_mi 89 2 := ⟨vd_X9_set, ni_9, ⟨by decide +kernel, by decide +kernel, by decide +kernel⟩, by decide +kernel⟩
theorem vl_49 : Cond.methodLink R_law 49 ⟨"InTheGardenModel", "set", "(II)I"⟩ ∈ g_tbl := g_in6 5 rfl rfl
theorem vi_X10_set : Cond.instanceMethod ⟨"InTheGardenModel", "set", "(II)I"⟩ ∈ g_tbl := g_in6 6 rfl rfl
theorem vs_X10_set : Cond.selects "InTheGardenModel" ⟨"InTheGardenModel", "set", "(II)I"⟩ ⟨"InTheGardenModel", "set", "(II)I"⟩ ∈ g_tbl := g_in6 7 rfl rfl
theorem vd_X10_set : Cond.code ⟨"InTheGardenModel", "set", "(II)I"⟩ prog_12_method_35_code 4 (some .int) ∈ g_tbl := g_in6 8 rfl rfl
theorem wv_X10_set : g_cw g_mi 152 2 := ⟨vd_X10_set, ni_10, ⟨by decide +kernel, by decide +kernel, by decide +kernel⟩, by decide +kernel⟩
theorem vl_50 : Cond.methodLink R_law 50 ⟨"InTheGarden", "order", "(IJ)I"⟩ ∈ g_tbl := g_in3 128 rfl rfl
theorem vi_X9_order : Cond.instanceMethod ⟨"InTheGarden", "order", "(IJ)I"⟩ ∈ g_tbl := g_in3 129 rfl rfl
theorem vs_X9_order : Cond.selects "InTheGarden" ⟨"InTheGarden", "order", "(IJ)I"⟩ ⟨"InTheGarden", "order", "(IJ)I"⟩ ∈ g_tbl := g_in3 130 rfl rfl
theorem vd_X9_order : Cond.code ⟨"InTheGarden", "order", "(IJ)I"⟩ prog_1_method_10_code 7 (some .int) ∈ g_tbl := g_in3 131 rfl rfl
theorem wv_X9_order : g_cw g_mi 90 2 := ⟨vd_X9_order, ni_9, ⟨by decide +kernel, by decide +kernel, by decide +kernel⟩, by decide +kernel⟩
theorem vl_53 : Cond.methodLink R_law 53 ⟨"InTheGardenModel", "order", "(IJ)I"⟩ ∈ g_tbl := g_in6 15 rfl rfl
theorem vi_X10_order : Cond.instanceMethod ⟨"InTheGardenModel", "order", "(IJ)I"⟩ ∈ g_tbl := g_in6 16 rfl rfl
theorem vs_X10_order : Cond.selects "InTheGardenModel" ⟨"InTheGardenModel", "order", "(IJ)I"⟩ ⟨"InTheGardenModel", "order", "(IJ)I"⟩ ∈ g_tbl := g_in6 17 rfl rfl
theorem vd_X10_order : Cond.code ⟨"InTheGardenModel", "order", "(IJ)I"⟩ prog_12_method_36_code 9 (some .int) ∈ g_tbl := g_in6 18 rfl rfl
theorem wv_X10_order : g_cw g_mi 153 2 := ⟨vd_X10_order, ni_10, ⟨by decide +kernel, by decide +kernel, by decide +kernel⟩, by decide +kernel⟩
theorem vl_54 : Cond.methodLink R_law 54 ⟨"InTheGarden", "cover", "(III)I"⟩ ∈ g_tbl := g_in3 139 rfl rfl
theorem vi_X9_cover : Cond.instanceMethod ⟨"InTheGarden", "cover", "(III)I"⟩ ∈ g_tbl := g_in3 140 rfl rfl
theorem vs_X9_cover : Cond.selects "InTheGarden" ⟨"InTheGarden", "cover", "(III)I"⟩ ⟨"InTheGarden", "cover", "(III)I"⟩ ∈ g_tbl := g_in3 141 rfl rfl
theorem vd_X9_cover : Cond.code ⟨"InTheGarden", "cover", "(III)I"⟩ prog_1_method_11_code 4 (some .int) ∈ g_tbl := g_in3 142 rfl rfl
theorem wv_X9_cover : g_cw g_mi 91 3 := ⟨vd_X9_cover, ni_9, ⟨by decide +kernel, by decide +kernel, by decide +kernel⟩, by decide +kernel⟩
theorem vl_58 : Cond.methodLink R_law 58 ⟨"InTheGardenModel", "cover", "(III)I"⟩ ∈ g_tbl := g_in6 20 rfl rfl
theorem vi_X10_cover : Cond.instanceMethod ⟨"InTheGardenModel", "cover", "(III)I"⟩ ∈ g_tbl := g_in6 21 rfl rfl
theorem vs_X10_cover : Cond.selects "InTheGardenModel" ⟨"InTheGardenModel", "cover", "(III)I"⟩ ⟨"InTheGardenModel", "cover", "(III)I"⟩ ∈ g_tbl := g_in6 22 rfl rfl
theorem vd_X10_cover : Cond.code ⟨"InTheGardenModel", "cover", "(III)I"⟩ prog_12_method_39_code 5 (some .int) ∈ g_tbl := g_in6 23 rfl rfl
theorem wv_X10_cover : g_cw g_mi 156 3 := ⟨vd_X10_cover, ni_10, ⟨by decide +kernel, by decide +kernel, by decide +kernel⟩, by decide +kernel⟩
theorem vl_59 : Cond.methodLink R_law 59 ⟨"InTheGarden", "run", "(II)I"⟩ ∈ g_tbl := g_in3 148 rfl rfl
theorem vi_X9_run : Cond.instanceMethod ⟨"InTheGarden", "run", "(II)I"⟩ ∈ g_tbl := g_in3 149 rfl rfl
theorem vs_X9_run : Cond.selects "InTheGarden" ⟨"InTheGarden", "run", "(II)I"⟩ ⟨"InTheGarden", "run", "(II)I"⟩ ∈ g_tbl := g_in3 150 rfl rfl
theorem vd_X9_run : Cond.code ⟨"InTheGarden", "run", "(II)I"⟩ prog_1_method_12_code 3 (some .int) ∈ g_tbl := g_in3 151 rfl rfl
theorem wv_X9_run : g_cw g_mi 92 2 := ⟨vd_X9_run, ni_9, ⟨by decide +kernel, by decide +kernel, by decide +kernel⟩, by decide +kernel⟩
theorem vl_62 : Cond.methodLink R_law 62 ⟨"InTheGardenModel", "run", "(II)I"⟩ ∈ g_tbl := g_in6 35 rfl rfl
theorem vi_X10_run : Cond.instanceMethod ⟨"InTheGardenModel", "run", "(II)I"⟩ ∈ g_tbl := g_in6 36 rfl rfl
theorem vs_X10_run : Cond.selects "InTheGardenModel" ⟨"InTheGardenModel", "run", "(II)I"⟩ ⟨"InTheGardenModel", "run", "(II)I"⟩ ∈ g_tbl := g_in6 37 rfl rfl
theorem vd_X10_run : Cond.code ⟨"InTheGardenModel", "run", "(II)I"⟩ prog_12_method_42_code 3 (some .int) ∈ g_tbl := g_in6 38 rfl rfl
theorem wv_X10_run : g_cw g_mi 159 2 := ⟨vd_X10_run, ni_10, ⟨by decide +kernel, by decide +kernel, by decide +kernel⟩, by decide +kernel⟩
theorem vl_63 : Cond.methodLink R_law 63 ⟨"InTheGarden", "round", "(I)I"⟩ ∈ g_tbl := g_in3 156 rfl rfl
theorem vi_X9_round : Cond.instanceMethod ⟨"InTheGarden", "round", "(I)I"⟩ ∈ g_tbl := g_in3 157 rfl rfl
theorem vs_X9_round : Cond.selects "InTheGarden" ⟨"InTheGarden", "round", "(I)I"⟩ ⟨"InTheGarden", "round", "(I)I"⟩ ∈ g_tbl := g_in3 158 rfl rfl
theorem vd_X9_round : Cond.code ⟨"InTheGarden", "round", "(I)I"⟩ prog_1_method_13_code 2 (some .int) ∈ g_tbl := g_in3 159 rfl rfl
theorem wv_X9_round : g_cw g_mi 93 1 := ⟨vd_X9_round, ni_9, ⟨by decide +kernel, by decide +kernel, by decide +kernel⟩, by decide +kernel⟩
theorem vl_67 : Cond.methodLink R_law 67 ⟨"InTheGardenModel", "round", "(I)I"⟩ ∈ g_tbl := g_in6 51 rfl rfl
theorem vi_X10_round : Cond.instanceMethod ⟨"InTheGardenModel", "round", "(I)I"⟩ ∈ g_tbl := g_in6 52 rfl rfl
theorem vs_X10_round : Cond.selects "InTheGardenModel" ⟨"InTheGardenModel", "round", "(I)I"⟩ ⟨"InTheGardenModel", "round", "(I)I"⟩ ∈ g_tbl := g_in6 53 rfl rfl
theorem vd_X10_round : Cond.code ⟨"InTheGardenModel", "round", "(I)I"⟩ prog_12_method_58_code 4 (some .int) ∈ g_tbl := g_in6 54 rfl rfl
theorem wv_X10_round : g_cw g_mi 175 1 := ⟨vd_X10_round, ni_10, ⟨by decide +kernel, by decide +kernel, by decide +kernel⟩, by decide +kernel⟩
theorem vl_68 : Cond.methodLink R_law 68 ⟨"InTheGarden", "mind", "(II)I"⟩ ∈ g_tbl := g_in4 62 rfl rfl
theorem vi_X9_mind : Cond.instanceMethod ⟨"InTheGarden", "mind", "(II)I"⟩ ∈ g_tbl := g_in4 63 rfl rfl
theorem vs_X9_mind : Cond.selects "InTheGarden" ⟨"InTheGarden", "mind", "(II)I"⟩ ⟨"InTheGarden", "mind", "(II)I"⟩ ∈ g_tbl := g_in4 64 rfl rfl
theorem vd_X9_mind : Cond.code ⟨"InTheGarden", "mind", "(II)I"⟩ prog_1_method_14_code 3 (some .int) ∈ g_tbl := g_in4 65 rfl rfl
theorem wv_X9_mind : g_cw g_mi 94 2 := ⟨vd_X9_mind, ni_9, ⟨by decide +kernel, by decide +kernel, by decide +kernel⟩, by decide +kernel⟩
theorem vl_71 : Cond.methodLink R_law 71 ⟨"InTheGardenModel", "mind", "(II)I"⟩ ∈ g_tbl := g_in6 122 rfl rfl
theorem vi_X10_mind : Cond.instanceMethod ⟨"InTheGardenModel", "mind", "(II)I"⟩ ∈ g_tbl := g_in6 123 rfl rfl
theorem vs_X10_mind : Cond.selects "InTheGardenModel" ⟨"InTheGardenModel", "mind", "(II)I"⟩ ⟨"InTheGardenModel", "mind", "(II)I"⟩ ∈ g_tbl := g_in6 124 rfl rfl
theorem vd_X10_mind : Cond.code ⟨"InTheGardenModel", "mind", "(II)I"⟩ prog_12_method_59_code 3 (some .int) ∈ g_tbl := g_in6 125 rfl rfl
theorem wv_X10_mind : g_cw g_mi 176 2 := ⟨vd_X10_mind, ni_10, ⟨by decide +kernel, by decide +kernel, by decide +kernel⟩, by decide +kernel⟩
theorem vl_72 : Cond.methodLink R_law 72 ⟨"InTheGarden", "of", "(II)I"⟩ ∈ g_tbl := g_in4 66 rfl rfl
theorem vi_X9_of : Cond.instanceMethod ⟨"InTheGarden", "of", "(II)I"⟩ ∈ g_tbl := g_in4 67 rfl rfl
theorem vs_X9_of : Cond.selects "InTheGarden" ⟨"InTheGarden", "of", "(II)I"⟩ ⟨"InTheGarden", "of", "(II)I"⟩ ∈ g_tbl := g_in4 68 rfl rfl
theorem vd_X9_of : Cond.code ⟨"InTheGarden", "of", "(II)I"⟩ prog_1_method_15_code 3 (some .int) ∈ g_tbl := g_in4 69 rfl rfl
theorem wv_X9_of : g_cw g_mi 95 2 := ⟨vd_X9_of, ni_9, ⟨by decide +kernel, by decide +kernel, by decide +kernel⟩, by decide +kernel⟩
theorem vl_75 : Cond.methodLink R_law 75 ⟨"InTheGardenModel", "of", "(II)I"⟩ ∈ g_tbl := g_in6 126 rfl rfl
theorem vi_X10_of : Cond.instanceMethod ⟨"InTheGardenModel", "of", "(II)I"⟩ ∈ g_tbl := g_in6 127 rfl rfl
theorem vs_X10_of : Cond.selects "InTheGardenModel" ⟨"InTheGardenModel", "of", "(II)I"⟩ ⟨"InTheGardenModel", "of", "(II)I"⟩ ∈ g_tbl := g_in6 128 rfl rfl
theorem vd_X10_of : Cond.code ⟨"InTheGardenModel", "of", "(II)I"⟩ prog_12_method_60_code 3 (some .int) ∈ g_tbl := g_in6 129 rfl rfl
theorem wv_X10_of : g_cw g_mi 177 2 := ⟨vd_X10_of, ni_10, ⟨by decide +kernel, by decide +kernel, by decide +kernel⟩, by decide +kernel⟩
theorem vl_76 : Cond.methodLink R_law 76 ⟨"InTheGarden", "found", "(I)I"⟩ ∈ g_tbl := g_in4 70 rfl rfl
theorem vi_X9_found : Cond.instanceMethod ⟨"InTheGarden", "found", "(I)I"⟩ ∈ g_tbl := g_in4 71 rfl rfl
theorem vs_X9_found : Cond.selects "InTheGarden" ⟨"InTheGarden", "found", "(I)I"⟩ ⟨"InTheGarden", "found", "(I)I"⟩ ∈ g_tbl := g_in4 72 rfl rfl
theorem vd_X9_found : Cond.code ⟨"InTheGarden", "found", "(I)I"⟩ prog_1_method_16_code 2 (some .int) ∈ g_tbl := g_in4 73 rfl rfl
theorem wv_X9_found : g_cw g_mi 96 1 := ⟨vd_X9_found, ni_9, ⟨by decide +kernel, by decide +kernel, by decide +kernel⟩, by decide +kernel⟩
theorem vl_79 : Cond.methodLink R_law 79 ⟨"InTheGardenModel", "found", "(I)I"⟩ ∈ g_tbl := g_in6 130 rfl rfl
theorem vi_X10_found : Cond.instanceMethod ⟨"InTheGardenModel", "found", "(I)I"⟩ ∈ g_tbl := g_in6 131 rfl rfl
theorem vs_X10_found : Cond.selects "InTheGardenModel" ⟨"InTheGardenModel", "found", "(I)I"⟩ ⟨"InTheGardenModel", "found", "(I)I"⟩ ∈ g_tbl := g_in6 132 rfl rfl
theorem vd_X10_found : Cond.code ⟨"InTheGardenModel", "found", "(I)I"⟩ prog_12_method_61_code 2 (some .int) ∈ g_tbl := g_in6 133 rfl rfl
theorem wv_X10_found : g_cw g_mi 178 1 := ⟨vd_X10_found, ni_10, ⟨by decide +kernel, by decide +kernel, by decide +kernel⟩, by decide +kernel⟩
theorem vl_80 : Cond.methodLink R_law 80 ⟨"InTheGarden", "table", "(II)I"⟩ ∈ g_tbl := g_in4 74 rfl rfl
theorem vi_X9_table : Cond.instanceMethod ⟨"InTheGarden", "table", "(II)I"⟩ ∈ g_tbl := g_in4 75 rfl rfl
theorem vs_X9_table : Cond.selects "InTheGarden" ⟨"InTheGarden", "table", "(II)I"⟩ ⟨"InTheGarden", "table", "(II)I"⟩ ∈ g_tbl := g_in4 76 rfl rfl
theorem vd_X9_table : Cond.code ⟨"InTheGarden", "table", "(II)I"⟩ prog_1_method_17_code 8 (some .int) ∈ g_tbl := g_in4 77 rfl rfl
theorem wv_X9_table : g_cw g_mi 97 2 := ⟨vd_X9_table, ni_9, ⟨by decide +kernel, by decide +kernel, by decide +kernel⟩, by decide +kernel⟩
theorem vl_83 : Cond.methodLink R_law 83 ⟨"InTheGardenModel", "table", "(II)I"⟩ ∈ g_tbl := g_in6 134 rfl rfl
theorem vi_X10_table : Cond.instanceMethod ⟨"InTheGardenModel", "table", "(II)I"⟩ ∈ g_tbl := g_in6 135 rfl rfl
theorem vs_X10_table : Cond.selects "InTheGardenModel" ⟨"InTheGardenModel", "table", "(II)I"⟩ ⟨"InTheGardenModel", "table", "(II)I"⟩ ∈ g_tbl := g_in6 136 rfl rfl
theorem vd_X10_table : Cond.code ⟨"InTheGardenModel", "table", "(II)I"⟩ prog_12_method_63_code 3 (some .int) ∈ g_tbl := g_in6 137 rfl rfl
theorem wv_X10_table : g_cw g_mi 180 2 := ⟨vd_X10_table, ni_10, ⟨by decide +kernel, by decide +kernel, by decide +kernel⟩, by decide +kernel⟩
theorem vl_84 : Cond.methodLink R_law 84 ⟨"InTheGarden", "mayGo", "()I"⟩ ∈ g_tbl := g_in4 79 rfl rfl
theorem vi_X9_mayGo : Cond.instanceMethod ⟨"InTheGarden", "mayGo", "()I"⟩ ∈ g_tbl := g_in4 80 rfl rfl
theorem vs_X9_mayGo : Cond.selects "InTheGarden" ⟨"InTheGarden", "mayGo", "()I"⟩ ⟨"InTheGarden", "mayGo", "()I"⟩ ∈ g_tbl := g_in4 81 rfl rfl
theorem vd_X9_mayGo : Cond.code ⟨"InTheGarden", "mayGo", "()I"⟩ prog_1_method_18_code 4 (some .int) ∈ g_tbl := g_in4 82 rfl rfl
theorem wv_X9_mayGo : g_cw g_mi 98 0 := ⟨vd_X9_mayGo, ni_9, ⟨by decide +kernel, by decide +kernel, by decide +kernel⟩, by decide +kernel⟩
theorem vl_87 : Cond.methodLink R_law 87 ⟨"InTheGardenModel", "mayGo", "()I"⟩ ∈ g_tbl := g_in6 142 rfl rfl
theorem vi_X10_mayGo : Cond.instanceMethod ⟨"InTheGardenModel", "mayGo", "()I"⟩ ∈ g_tbl := g_in6 143 rfl rfl
theorem vs_X10_mayGo : Cond.selects "InTheGardenModel" ⟨"InTheGardenModel", "mayGo", "()I"⟩ ⟨"InTheGardenModel", "mayGo", "()I"⟩ ∈ g_tbl := g_in6 144 rfl rfl
theorem vd_X10_mayGo : Cond.code ⟨"InTheGardenModel", "mayGo", "()I"⟩ prog_12_method_65_code 3 (some .int) ∈ g_tbl := g_in6 145 rfl rfl
theorem wv_X10_mayGo : g_cw g_mi 182 0 := ⟨vd_X10_mayGo, ni_10, ⟨by decide +kernel, by decide +kernel, by decide +kernel⟩, by decide +kernel⟩
theorem vl_88 : Cond.methodLink R_law 88 ⟨"InTheGarden", "allSeen", "()I"⟩ ∈ g_tbl := g_in4 87 rfl rfl
theorem vi_X9_allSeen : Cond.instanceMethod ⟨"InTheGarden", "allSeen", "()I"⟩ ∈ g_tbl := g_in4 88 rfl rfl
theorem vs_X9_allSeen : Cond.selects "InTheGarden" ⟨"InTheGarden", "allSeen", "()I"⟩ ⟨"InTheGarden", "allSeen", "()I"⟩ ∈ g_tbl := g_in4 89 rfl rfl
theorem vd_X9_allSeen : Cond.code ⟨"InTheGarden", "allSeen", "()I"⟩ prog_1_method_19_code 1 (some .int) ∈ g_tbl := g_in4 90 rfl rfl
theorem wv_X9_allSeen : g_cw g_mi 99 0 := ⟨vd_X9_allSeen, ni_9, ⟨by decide +kernel, by decide +kernel, by decide +kernel⟩, by decide +kernel⟩
theorem vl_91 : Cond.methodLink R_law 91 ⟨"InTheGardenModel", "allSeen", "()I"⟩ ∈ g_tbl := g_in6 150 rfl rfl
theorem vi_X10_allSeen : Cond.instanceMethod ⟨"InTheGardenModel", "allSeen", "()I"⟩ ∈ g_tbl := g_in6 151 rfl rfl
theorem vs_X10_allSeen : Cond.selects "InTheGardenModel" ⟨"InTheGardenModel", "allSeen", "()I"⟩ ⟨"InTheGardenModel", "allSeen", "()I"⟩ ∈ g_tbl := g_in6 152 rfl rfl
theorem vd_X10_allSeen : Cond.code ⟨"InTheGardenModel", "allSeen", "()I"⟩ prog_12_method_67_code 7 (some .int) ∈ g_tbl := g_in6 153 rfl rfl
theorem wv_X10_allSeen : g_cw g_mi 184 0 := ⟨vd_X10_allSeen, ni_10, ⟨by decide +kernel, by decide +kernel, by decide +kernel⟩, by decide +kernel⟩
theorem vl_92 : Cond.methodLink R_law 92 ⟨"InTheGarden", "fewest", "()I"⟩ ∈ g_tbl := g_in4 113 rfl rfl
theorem vi_X9_fewest : Cond.instanceMethod ⟨"InTheGarden", "fewest", "()I"⟩ ∈ g_tbl := g_in4 114 rfl rfl
theorem vs_X9_fewest : Cond.selects "InTheGarden" ⟨"InTheGarden", "fewest", "()I"⟩ ⟨"InTheGarden", "fewest", "()I"⟩ ∈ g_tbl := g_in4 115 rfl rfl
theorem vd_X9_fewest : Cond.code ⟨"InTheGarden", "fewest", "()I"⟩ prog_1_method_20_code 1 (some .int) ∈ g_tbl := g_in4 116 rfl rfl
theorem wv_X9_fewest : g_cw g_mi 100 0 := ⟨vd_X9_fewest, ni_9, ⟨by decide +kernel, by decide +kernel, by decide +kernel⟩, by decide +kernel⟩
theorem vl_95 : Cond.methodLink R_law 95 ⟨"InTheGardenModel", "fewest", "()I"⟩ ∈ g_tbl := g_in6 154 rfl rfl
theorem vi_X10_fewest : Cond.instanceMethod ⟨"InTheGardenModel", "fewest", "()I"⟩ ∈ g_tbl := g_in6 155 rfl rfl
theorem vs_X10_fewest : Cond.selects "InTheGardenModel" ⟨"InTheGardenModel", "fewest", "()I"⟩ ⟨"InTheGardenModel", "fewest", "()I"⟩ ∈ g_tbl := g_in6 156 rfl rfl
theorem vd_X10_fewest : Cond.code ⟨"InTheGardenModel", "fewest", "()I"⟩ prog_12_method_68_code 6 (some .int) ∈ g_tbl := g_in6 157 rfl rfl
theorem wv_X10_fewest : g_cw g_mi 185 0 := ⟨vd_X10_fewest, ni_10, ⟨by decide +kernel, by decide +kernel, by decide +kernel⟩, by decide +kernel⟩
theorem vl_96 : Cond.methodLink R_law 96 ⟨"InTheGarden", "game", "(IIII)I"⟩ ∈ g_tbl := g_in4 122 rfl rfl
theorem vi_X9_game : Cond.instanceMethod ⟨"InTheGarden", "game", "(IIII)I"⟩ ∈ g_tbl := g_in4 123 rfl rfl
theorem vs_X9_game : Cond.selects "InTheGarden" ⟨"InTheGarden", "game", "(IIII)I"⟩ ⟨"InTheGarden", "game", "(IIII)I"⟩ ∈ g_tbl := g_in4 124 rfl rfl
theorem vd_X9_game : Cond.code ⟨"InTheGarden", "game", "(IIII)I"⟩ prog_1_method_21_code 7 (some .int) ∈ g_tbl := g_in4 125 rfl rfl
theorem wv_X9_game : g_cw g_mi 101 4 := ⟨vd_X9_game, ni_9, ⟨by decide +kernel, by decide +kernel, by decide +kernel⟩, by decide +kernel⟩
theorem vl_100 : Cond.methodLink R_law 100 ⟨"InTheGardenModel", "game", "(IIII)I"⟩ ∈ g_tbl := g_in6 161 rfl rfl
theorem vi_X10_game : Cond.instanceMethod ⟨"InTheGardenModel", "game", "(IIII)I"⟩ ∈ g_tbl := g_in6 162 rfl rfl
theorem vs_X10_game : Cond.selects "InTheGardenModel" ⟨"InTheGardenModel", "game", "(IIII)I"⟩ ⟨"InTheGardenModel", "game", "(IIII)I"⟩ ∈ g_tbl := g_in6 163 rfl rfl
theorem vd_X10_game : Cond.code ⟨"InTheGardenModel", "game", "(IIII)I"⟩ prog_12_method_75_code 8 (some .int) ∈ g_tbl := g_in6 164 rfl rfl
theorem wv_X10_game : g_cw g_mi 192 4 := ⟨vd_X10_game, ni_10, ⟨by decide +kernel, by decide +kernel, by decide +kernel⟩, by decide +kernel⟩
theorem vl_101 : Cond.methodLink R_law 101 ⟨"InTheGarden", "taken", "(III)I"⟩ ∈ g_tbl := g_in4 182 rfl rfl
theorem vi_X9_taken : Cond.instanceMethod ⟨"InTheGarden", "taken", "(III)I"⟩ ∈ g_tbl := g_in4 183 rfl rfl
theorem vs_X9_taken : Cond.selects "InTheGarden" ⟨"InTheGarden", "taken", "(III)I"⟩ ⟨"InTheGarden", "taken", "(III)I"⟩ ∈ g_tbl := g_in4 184 rfl rfl
theorem vd_X9_taken : Cond.code ⟨"InTheGarden", "taken", "(III)I"⟩ prog_1_method_22_code 5 (some .int) ∈ g_tbl := g_in4 185 rfl rfl
theorem wv_X9_taken : g_cw g_mi 102 3 := ⟨vd_X9_taken, ni_9, ⟨by decide +kernel, by decide +kernel, by decide +kernel⟩, by decide +kernel⟩
theorem vl_104 : Cond.methodLink R_law 104 ⟨"InTheGardenModel", "taken", "(III)I"⟩ ∈ g_tbl := g_in6 188 rfl rfl
theorem vi_X10_taken : Cond.instanceMethod ⟨"InTheGardenModel", "taken", "(III)I"⟩ ∈ g_tbl := g_in6 189 rfl rfl
theorem vs_X10_taken : Cond.selects "InTheGardenModel" ⟨"InTheGardenModel", "taken", "(III)I"⟩ ⟨"InTheGardenModel", "taken", "(III)I"⟩ ∈ g_tbl := g_in6 190 rfl rfl
theorem vd_X10_taken : Cond.code ⟨"InTheGardenModel", "taken", "(III)I"⟩ prog_12_method_76_code 5 (some .int) ∈ g_tbl := g_in6 191 rfl rfl
theorem wv_X10_taken : g_cw g_mi 193 3 := ⟨vd_X10_taken, ni_10, ⟨by decide +kernel, by decide +kernel, by decide +kernel⟩, by decide +kernel⟩
theorem vl_105 : Cond.methodLink R_law 105 ⟨"InTheGarden", "summer", "(II)I"⟩ ∈ g_tbl := g_in4 186 rfl rfl
theorem vi_X9_summer : Cond.instanceMethod ⟨"InTheGarden", "summer", "(II)I"⟩ ∈ g_tbl := g_in4 187 rfl rfl
theorem vs_X9_summer : Cond.selects "InTheGarden" ⟨"InTheGarden", "summer", "(II)I"⟩ ⟨"InTheGarden", "summer", "(II)I"⟩ ∈ g_tbl := g_in4 188 rfl rfl
theorem vd_X9_summer : Cond.code ⟨"InTheGarden", "summer", "(II)I"⟩ prog_1_method_23_code 7 (some .int) ∈ g_tbl := g_in4 189 rfl rfl
theorem wv_X9_summer : g_cw g_mi 103 2 := ⟨vd_X9_summer, ni_9, ⟨by decide +kernel, by decide +kernel, by decide +kernel⟩, by decide +kernel⟩
theorem vl_108 : Cond.methodLink R_law 108 ⟨"InTheGardenModel", "summer", "(II)I"⟩ ∈ g_tbl := g_in6 192 rfl rfl
theorem vi_X10_summer : Cond.instanceMethod ⟨"InTheGardenModel", "summer", "(II)I"⟩ ∈ g_tbl := g_in6 193 rfl rfl
theorem vs_X10_summer : Cond.selects "InTheGardenModel" ⟨"InTheGardenModel", "summer", "(II)I"⟩ ⟨"InTheGardenModel", "summer", "(II)I"⟩ ∈ g_tbl := g_in6 194 rfl rfl
theorem vd_X10_summer : Cond.code ⟨"InTheGardenModel", "summer", "(II)I"⟩ prog_12_method_77_code 6 (some .int) ∈ g_tbl := g_in6 195 rfl rfl
theorem wv_X10_summer : g_cw g_mi 194 2 := ⟨vd_X10_summer, ni_10, ⟨by decide +kernel, by decide +kernel, by decide +kernel⟩, by decide +kernel⟩
theorem vl_109 : Cond.methodLink R_law 109 ⟨"InTheGarden", "odds", "(III)I"⟩ ∈ g_tbl := g_in4 191 rfl rfl
theorem vi_X9_odds : Cond.instanceMethod ⟨"InTheGarden", "odds", "(III)I"⟩ ∈ g_tbl := g_in4 192 rfl rfl
theorem vs_X9_odds : Cond.selects "InTheGarden" ⟨"InTheGarden", "odds", "(III)I"⟩ ⟨"InTheGarden", "odds", "(III)I"⟩ ∈ g_tbl := g_in4 193 rfl rfl
theorem vd_X9_odds : Cond.code ⟨"InTheGarden", "odds", "(III)I"⟩ prog_1_method_24_code 9 (some .int) ∈ g_tbl := g_in4 194 rfl rfl
theorem wv_X9_odds : g_cw g_mi 104 3 := ⟨vd_X9_odds, ni_9, ⟨by decide +kernel, by decide +kernel, by decide +kernel⟩, by decide +kernel⟩
theorem vl_112 : Cond.methodLink R_law 112 ⟨"InTheGardenModel", "odds", "(III)I"⟩ ∈ g_tbl := g_in6 196 rfl rfl
theorem vi_X10_odds : Cond.instanceMethod ⟨"InTheGardenModel", "odds", "(III)I"⟩ ∈ g_tbl := g_in6 197 rfl rfl
theorem vs_X10_odds : Cond.selects "InTheGardenModel" ⟨"InTheGardenModel", "odds", "(III)I"⟩ ⟨"InTheGardenModel", "odds", "(III)I"⟩ ∈ g_tbl := g_in6 198 rfl rfl
theorem vd_X10_odds : Cond.code ⟨"InTheGardenModel", "odds", "(III)I"⟩ prog_12_method_78_code 8 (some .int) ∈ g_tbl := g_in6 199 rfl rfl
theorem wv_X10_odds : g_cw g_mi 195 3 := ⟨vd_X10_odds, ni_10, ⟨by decide +kernel, by decide +kernel, by decide +kernel⟩, by decide +kernel⟩
theorem vl_113 : Cond.methodLink R_law 113 ⟨"InTheGarden", "bestOrder", "(IIII)I"⟩ ∈ g_tbl := g_in4 195 rfl rfl
theorem vi_X9_bestOrder : Cond.instanceMethod ⟨"InTheGarden", "bestOrder", "(IIII)I"⟩ ∈ g_tbl := g_in4 196 rfl rfl
theorem vs_X9_bestOrder : Cond.selects "InTheGarden" ⟨"InTheGarden", "bestOrder", "(IIII)I"⟩ ⟨"InTheGarden", "bestOrder", "(IIII)I"⟩ ∈ g_tbl := g_in4 197 rfl rfl
theorem vd_X9_bestOrder : Cond.code ⟨"InTheGarden", "bestOrder", "(IIII)I"⟩ prog_1_method_25_code 9 (some .int) ∈ g_tbl := g_in4 198 rfl rfl
theorem wv_X9_bestOrder : g_cw g_mi 105 4 := ⟨vd_X9_bestOrder, ni_9, ⟨by decide +kernel, by decide +kernel, by decide +kernel⟩, by decide +kernel⟩
theorem vl_116 : Cond.methodLink R_law 116 ⟨"InTheGardenModel", "bestOrder", "(IIII)I"⟩ ∈ g_tbl := g_in6 200 rfl rfl
theorem vi_X10_bestOrder : Cond.instanceMethod ⟨"InTheGardenModel", "bestOrder", "(IIII)I"⟩ ∈ g_tbl := g_in6 201 rfl rfl
theorem vs_X10_bestOrder : Cond.selects "InTheGardenModel" ⟨"InTheGardenModel", "bestOrder", "(IIII)I"⟩ ⟨"InTheGardenModel", "bestOrder", "(IIII)I"⟩ ∈ g_tbl := g_in6 202 rfl rfl
theorem vd_X10_bestOrder : Cond.code ⟨"InTheGardenModel", "bestOrder", "(IIII)I"⟩ prog_12_method_80_code 10 (some .int) ∈ g_tbl := g_in6 203 rfl rfl
theorem wv_X10_bestOrder : g_cw g_mi 197 4 := ⟨vd_X10_bestOrder, ni_10, ⟨by decide +kernel, by decide +kernel, by decide +kernel⟩, by decide +kernel⟩
theorem vl_117 : Cond.methodLink R_law 117 ⟨"InTheGarden", "bestRule", "(II)I"⟩ ∈ g_tbl := g_in4 214 rfl rfl
theorem vi_X9_bestRule : Cond.instanceMethod ⟨"InTheGarden", "bestRule", "(II)I"⟩ ∈ g_tbl := g_in4 215 rfl rfl
theorem vs_X9_bestRule : Cond.selects "InTheGarden" ⟨"InTheGarden", "bestRule", "(II)I"⟩ ⟨"InTheGarden", "bestRule", "(II)I"⟩ ∈ g_tbl := g_in4 216 rfl rfl
theorem vd_X9_bestRule : Cond.code ⟨"InTheGarden", "bestRule", "(II)I"⟩ prog_1_method_26_code 7 (some .int) ∈ g_tbl := g_in4 217 rfl rfl
theorem wv_X9_bestRule : g_cw g_mi 106 2 := ⟨vd_X9_bestRule, ni_9, ⟨by decide +kernel, by decide +kernel, by decide +kernel⟩, by decide +kernel⟩
theorem vl_120 : Cond.methodLink R_law 120 ⟨"InTheGardenModel", "bestRule", "(II)I"⟩ ∈ g_tbl := g_in6 208 rfl rfl
theorem vi_X10_bestRule : Cond.instanceMethod ⟨"InTheGardenModel", "bestRule", "(II)I"⟩ ∈ g_tbl := g_in6 209 rfl rfl
theorem vs_X10_bestRule : Cond.selects "InTheGardenModel" ⟨"InTheGardenModel", "bestRule", "(II)I"⟩ ⟨"InTheGardenModel", "bestRule", "(II)I"⟩ ∈ g_tbl := g_in6 210 rfl rfl
theorem vd_X10_bestRule : Cond.code ⟨"InTheGardenModel", "bestRule", "(II)I"⟩ prog_12_method_81_code 9 (some .int) ∈ g_tbl := g_in6 211 rfl rfl
theorem wv_X10_bestRule : g_cw g_mi 198 2 := ⟨vd_X10_bestRule, ni_10, ⟨by decide +kernel, by decide +kernel, by decide +kernel⟩, by decide +kernel⟩
theorem vl_121 : Cond.methodLink R_law 121 ⟨"InTheGarden", "row", "(I)I"⟩ ∈ g_tbl := g_in4 219 rfl rfl
theorem vi_X9_row : Cond.instanceMethod ⟨"InTheGarden", "row", "(I)I"⟩ ∈ g_tbl := g_in4 220 rfl rfl
theorem vs_X9_row : Cond.selects "InTheGarden" ⟨"InTheGarden", "row", "(I)I"⟩ ⟨"InTheGarden", "row", "(I)I"⟩ ∈ g_tbl := g_in4 221 rfl rfl
theorem vd_X9_row : Cond.code ⟨"InTheGarden", "row", "(I)I"⟩ prog_1_method_27_code 2 (some .int) ∈ g_tbl := g_in4 222 rfl rfl
theorem wv_X9_row : g_cw g_mi 107 1 := ⟨vd_X9_row, ni_9, ⟨by decide +kernel, by decide +kernel, by decide +kernel⟩, by decide +kernel⟩
theorem vl_124 : Cond.methodLink R_law 124 ⟨"InTheGardenModel", "row", "(I)I"⟩ ∈ g_tbl := g_in6 212 rfl rfl
theorem vi_X10_row : Cond.instanceMethod ⟨"InTheGardenModel", "row", "(I)I"⟩ ∈ g_tbl := g_in6 213 rfl rfl
theorem vs_X10_row : Cond.selects "InTheGardenModel" ⟨"InTheGardenModel", "row", "(I)I"⟩ ⟨"InTheGardenModel", "row", "(I)I"⟩ ∈ g_tbl := g_in6 214 rfl rfl
theorem vd_X10_row : Cond.code ⟨"InTheGardenModel", "row", "(I)I"⟩ prog_12_method_82_code 3 (some .int) ∈ g_tbl := g_in6 215 rfl rfl
theorem wv_X10_row : g_cw g_mi 199 1 := ⟨vd_X10_row, ni_10, ⟨by decide +kernel, by decide +kernel, by decide +kernel⟩, by decide +kernel⟩
theorem vl_125 : Cond.methodLink R_law 125 ⟨"InTheGarden", "judge", "()I"⟩ ∈ g_tbl := g_in4 223 rfl rfl
theorem vi_X9_judge : Cond.instanceMethod ⟨"InTheGarden", "judge", "()I"⟩ ∈ g_tbl := g_in4 224 rfl rfl
theorem vs_X9_judge : Cond.selects "InTheGarden" ⟨"InTheGarden", "judge", "()I"⟩ ⟨"InTheGarden", "judge", "()I"⟩ ∈ g_tbl := g_in4 225 rfl rfl
theorem vd_X9_judge : Cond.code ⟨"InTheGarden", "judge", "()I"⟩ prog_1_method_28_code 4 (some .int) ∈ g_tbl := g_in4 226 rfl rfl
theorem wv_X9_judge : g_cw g_mi 108 0 := ⟨vd_X9_judge, ni_9, ⟨by decide +kernel, by decide +kernel, by decide +kernel⟩, by decide +kernel⟩
theorem vl_128 : Cond.methodLink R_law 128 ⟨"InTheGardenModel", "judge", "()I"⟩ ∈ g_tbl := g_in6 216 rfl rfl
theorem vi_X10_judge : Cond.instanceMethod ⟨"InTheGardenModel", "judge", "()I"⟩ ∈ g_tbl := g_in6 217 rfl rfl
theorem vs_X10_judge : Cond.selects "InTheGardenModel" ⟨"InTheGardenModel", "judge", "()I"⟩ ⟨"InTheGardenModel", "judge", "()I"⟩ ∈ g_tbl := g_in6 218 rfl rfl
theorem vd_X10_judge : Cond.code ⟨"InTheGardenModel", "judge", "()I"⟩ prog_12_method_83_code 3 (some .int) ∈ g_tbl := g_in6 219 rfl rfl
theorem wv_X10_judge : g_cw g_mi 200 0 := ⟨vd_X10_judge, ni_10, ⟨by decide +kernel, by decide +kernel, by decide +kernel⟩, by decide +kernel⟩
theorem vl_129 : Cond.methodLink R_law 129 ⟨"InTheGarden", "image", "()I"⟩ ∈ g_tbl := g_in4 227 rfl rfl
theorem vi_X9_image : Cond.instanceMethod ⟨"InTheGarden", "image", "()I"⟩ ∈ g_tbl := g_in4 228 rfl rfl
theorem vs_X9_image : Cond.selects "InTheGarden" ⟨"InTheGarden", "image", "()I"⟩ ⟨"InTheGarden", "image", "()I"⟩ ∈ g_tbl := g_in4 229 rfl rfl
theorem vd_X9_image : Cond.code ⟨"InTheGarden", "image", "()I"⟩ prog_1_method_29_code 1 (some .int) ∈ g_tbl := g_in4 230 rfl rfl
theorem wv_X9_image : g_cw g_mi 109 0 := ⟨vd_X9_image, ni_9, ⟨by decide +kernel, by decide +kernel, by decide +kernel⟩, by decide +kernel⟩
theorem vl_132 : Cond.methodLink R_law 132 ⟨"InTheGardenModel", "image", "()I"⟩ ∈ g_tbl := g_in6 220 rfl rfl
theorem vi_X10_image : Cond.instanceMethod ⟨"InTheGardenModel", "image", "()I"⟩ ∈ g_tbl := g_in6 221 rfl rfl
theorem vs_X10_image : Cond.selects "InTheGardenModel" ⟨"InTheGardenModel", "image", "()I"⟩ ⟨"InTheGardenModel", "image", "()I"⟩ ∈ g_tbl := g_in6 222 rfl rfl
theorem vd_X10_image : Cond.code ⟨"InTheGardenModel", "image", "()I"⟩ prog_12_method_84_code 2 (some .int) ∈ g_tbl := g_in6 223 rfl rfl
theorem wv_X10_image : g_cw g_mi 201 0 := ⟨vd_X10_image, ni_10, ⟨by decide +kernel, by decide +kernel, by decide +kernel⟩, by decide +kernel⟩
theorem vl_133 : Cond.methodLink R_law 133 ⟨"InTheGarden", "on", "()I"⟩ ∈ g_tbl := g_in5 1 rfl rfl
theorem vi_X9_on : Cond.instanceMethod ⟨"InTheGarden", "on", "()I"⟩ ∈ g_tbl := g_in5 2 rfl rfl
theorem vs_X9_on : Cond.selects "InTheGarden" ⟨"InTheGarden", "on", "()I"⟩ ⟨"InTheGarden", "on", "()I"⟩ ∈ g_tbl := g_in5 3 rfl rfl
theorem vd_X9_on : Cond.code ⟨"InTheGarden", "on", "()I"⟩ prog_1_method_30_code 1 (some .int) ∈ g_tbl := g_in5 4 rfl rfl
theorem wv_X9_on : g_cw g_mi 110 0 := ⟨vd_X9_on, ni_9, ⟨by decide +kernel, by decide +kernel, by decide +kernel⟩, by decide +kernel⟩
theorem vl_136 : Cond.methodLink R_law 136 ⟨"InTheGardenModel", "on", "()I"⟩ ∈ g_tbl := g_in6 224 rfl rfl
theorem vi_X10_on : Cond.instanceMethod ⟨"InTheGardenModel", "on", "()I"⟩ ∈ g_tbl := g_in6 225 rfl rfl
theorem vs_X10_on : Cond.selects "InTheGardenModel" ⟨"InTheGardenModel", "on", "()I"⟩ ⟨"InTheGardenModel", "on", "()I"⟩ ∈ g_tbl := g_in6 226 rfl rfl
theorem vd_X10_on : Cond.code ⟨"InTheGardenModel", "on", "()I"⟩ prog_12_method_85_code 2 (some .int) ∈ g_tbl := g_in6 227 rfl rfl
theorem wv_X10_on : g_cw g_mi 202 0 := ⟨vd_X10_on, ni_10, ⟨by decide +kernel, by decide +kernel, by decide +kernel⟩, by decide +kernel⟩
theorem vl_137 : Cond.methodLink R_law 137 ⟨"InTheGarden", "count", "(I)I"⟩ ∈ g_tbl := g_in5 5 rfl rfl
theorem vi_X9_count : Cond.instanceMethod ⟨"InTheGarden", "count", "(I)I"⟩ ∈ g_tbl := g_in5 6 rfl rfl
theorem vs_X9_count : Cond.selects "InTheGarden" ⟨"InTheGarden", "count", "(I)I"⟩ ⟨"InTheGarden", "count", "(I)I"⟩ ∈ g_tbl := g_in5 7 rfl rfl
theorem vd_X9_count : Cond.code ⟨"InTheGarden", "count", "(I)I"⟩ prog_1_method_31_code 2 (some .int) ∈ g_tbl := g_in5 8 rfl rfl
theorem wv_X9_count : g_cw g_mi 111 1 := ⟨vd_X9_count, ni_9, ⟨by decide +kernel, by decide +kernel, by decide +kernel⟩, by decide +kernel⟩
theorem vl_140 : Cond.methodLink R_law 140 ⟨"InTheGardenModel", "count", "(I)I"⟩ ∈ g_tbl := g_in6 228 rfl rfl
theorem vi_X10_count : Cond.instanceMethod ⟨"InTheGardenModel", "count", "(I)I"⟩ ∈ g_tbl := g_in6 229 rfl rfl
theorem vs_X10_count : Cond.selects "InTheGardenModel" ⟨"InTheGardenModel", "count", "(I)I"⟩ ⟨"InTheGardenModel", "count", "(I)I"⟩ ∈ g_tbl := g_in6 230 rfl rfl
theorem vd_X10_count : Cond.code ⟨"InTheGardenModel", "count", "(I)I"⟩ prog_12_method_86_code 4 (some .int) ∈ g_tbl := g_in6 231 rfl rfl
theorem wv_X10_count : g_cw g_mi 203 1 := ⟨vd_X10_count, ni_10, ⟨by decide +kernel, by decide +kernel, by decide +kernel⟩, by decide +kernel⟩
section CASES
variable {p : Program} {l : Launch} {e : Env} {s : State} {m : MethodId} {below : List Frame} {meth : Method} {c : Code} {H : Heap} {locs : List Loc} {cells slots : Nat} {Q : State → Prop}
variable {b L : Nat} {xs : Nat → Int32} {D : va_G} {cA : Nat → ClassId} {μ ξ : Nat → Nat} {ls : Array Slot} {i : Nat}
theorem lw_c0 {n : Nat} {M : g_M} (C : l_Cx p s m c b L xs D cA ξ) (hl : lv_has ls 4 [(0, .ref b), (1, .ref (μ 0)), (2, .ref (μ 82)), (3, .int (nI i))]) (hi : i + 5 ≤ L) (hL : L ≤ 320) (hn : n < 1000) (I : Inv n M) (hP : va_P D g_cls (g_wld cA μ M S0) H) (hD : va_D (fun q => s.heap.size ≤ q) (g_wld cA μ M S0)) (hS : va_S (fun q => s.heap.size ≤ q) s.heap H locs) (hcl : cells ≤ 600000) (hsl : slots ≤ 7302250)
    (kk : ∀ (M' : g_M) (H1 : Heap) (locs1 : List Loc), Inv (n + 1) M' → va_P D g_cls (g_wld cA μ M' S0) H1 → va_D (fun q => s.heap.size ≤ q) (g_wld cA μ M' S0) → va_S (fun q => s.heap.size ≤ q) s.heap H1 locs1 → W p l e room_1 s m #[Value.ref b] below meth c H1 locs1 cells slots Q (F0 m 1108 ls [])) : W p l e room_1 s m #[Value.ref b] below meth c H locs cells slots Q (F0 m 168 ls []) := by
  refine lv_aload_n C.1 C.2.1 (show decode code 168 = .ok (.aload_n 1, 1) by decide +kernel) rfl (lv_at hl 1 rfl) ?_
  refine l_arg C hl hS hi hL 1 (by decide) (by decide) (show decode code 169 = .ok (.aload_n 0, 1) by decide +kernel) (show decode code 170 = .ok (.iload_n 3, 1) by decide +kernel) (show decode code 171 = .ok (.iconst 1, 1) by decide +kernel) (show decode code 172 = .ok (.iadd, 1) by decide +kernel) (show decode code 173 = .ok (.iaload, 1) by decide +kernel) ?_
  refine l_arg C hl hS hi hL 2 (by decide) (by decide) (show decode code 174 = .ok (.aload_n 0, 1) by decide +kernel) (show decode code 175 = .ok (.iload_n 3, 1) by decide +kernel) (show decode code 176 = .ok (.iconst 2, 1) by decide +kernel) (show decode code 177 = .ok (.iadd, 1) by decide +kernel) (show decode code 178 = .ok (.iaload, 1) by decide +kernel) ?_
  refine lv_i2l C.1 C.2.1 (show decode code 179 = .ok (.i2l, 1) by decide +kernel) rfl ?_
  refine lv_bipush (v := 32) C.1 C.2.1 (show decode code 180 = .ok (.bipush 32, 2) by decide +kernel) (by decide +kernel) ?_
  refine lv_lshl C.1 C.2.1 (show decode code 182 = .ok (.lshl, 1) by decide +kernel) rfl ?_
  refine l_arg C hl hS hi hL 3 (by decide) (by decide) (show decode code 183 = .ok (.aload_n 0, 1) by decide +kernel) (show decode code 184 = .ok (.iload_n 3, 1) by decide +kernel) (show decode code 185 = .ok (.iconst 3, 1) by decide +kernel) (show decode code 186 = .ok (.iadd, 1) by decide +kernel) (show decode code 187 = .ok (.iaload, 1) by decide +kernel) ?_
  refine lv_i2l C.1 C.2.1 (show decode code 188 = .ok (.i2l, 1) by decide +kernel) rfl ?_
  refine lv_ldc2 C.1 C.2.1 C.2.2.2.1 (C.2.2.2.2.1 _ vl_const) (show decode code 189 = .ok (.ldc2_w 13, 3) by decide +kernel) ?_
  refine lv_land C.1 C.2.1 (show decode code 192 = .ok (.land, 1) by decide +kernel) ?_
  refine lv_lor C.1 C.2.1 (show decode code 193 = .ok (.lor, 1) by decide +kernel) ?_
  refine l_call C (a := 0) rfl wv_X9_feed vl_15 vi_X9_feed vs_X9_feed (p_feed (d := 60) (by decide) I) (Nat.le_of_ble_eq_true rfl) rfl rfl hl.1 (Nat.le_of_ble_eq_true rfl) hP hD hS hcl hsl rfl (show decode code 194 = .ok (.invokevirtual 15, 3) by decide +kernel) (fun v M1 H locs hF hP hD hS => ?_)
  obtain ⟨r, rfl, h2⟩ := hF
  refine lv_aload_n C.1 C.2.1 (show decode code 197 = .ok (.aload_n 2, 1) by decide +kernel) rfl (lv_at hl 2 rfl) ?_
  refine l_arg C hl hS hi hL 1 (by decide) (by decide) (show decode code 198 = .ok (.aload_n 0, 1) by decide +kernel) (show decode code 199 = .ok (.iload_n 3, 1) by decide +kernel) (show decode code 200 = .ok (.iconst 1, 1) by decide +kernel) (show decode code 201 = .ok (.iadd, 1) by decide +kernel) (show decode code 202 = .ok (.iaload, 1) by decide +kernel) ?_
  refine l_arg C hl hS hi hL 2 (by decide) (by decide) (show decode code 203 = .ok (.aload_n 0, 1) by decide +kernel) (show decode code 204 = .ok (.iload_n 3, 1) by decide +kernel) (show decode code 205 = .ok (.iconst 2, 1) by decide +kernel) (show decode code 206 = .ok (.iadd, 1) by decide +kernel) (show decode code 207 = .ok (.iaload, 1) by decide +kernel) ?_
  refine lv_i2l C.1 C.2.1 (show decode code 208 = .ok (.i2l, 1) by decide +kernel) rfl ?_
  refine lv_bipush (v := 32) C.1 C.2.1 (show decode code 209 = .ok (.bipush 32, 2) by decide +kernel) (by decide +kernel) ?_
  refine lv_lshl C.1 C.2.1 (show decode code 211 = .ok (.lshl, 1) by decide +kernel) rfl ?_
  refine l_arg C hl hS hi hL 3 (by decide) (by decide) (show decode code 212 = .ok (.aload_n 0, 1) by decide +kernel) (show decode code 213 = .ok (.iload_n 3, 1) by decide +kernel) (show decode code 214 = .ok (.iconst 3, 1) by decide +kernel) (show decode code 215 = .ok (.iadd, 1) by decide +kernel) (show decode code 216 = .ok (.iaload, 1) by decide +kernel) ?_
  refine lv_i2l C.1 C.2.1 (show decode code 217 = .ok (.i2l, 1) by decide +kernel) rfl ?_
  refine lv_ldc2 C.1 C.2.1 C.2.2.2.1 (C.2.2.2.2.1 _ vl_const) (show decode code 218 = .ok (.ldc2_w 13, 3) by decide +kernel) ?_
  refine lv_land C.1 C.2.1 (show decode code 221 = .ok (.land, 1) by decide +kernel) ?_
  refine lv_lor C.1 C.2.1 (show decode code 222 = .ok (.lor, 1) by decide +kernel) ?_
  refine l_call C (a := 82) rfl wv_X10_feed vl_19 vi_X10_feed vs_X10_feed (h2) (Nat.le_of_ble_eq_true rfl) rfl rfl hl.1 (Nat.le_of_ble_eq_true rfl) hP hD hS hcl hsl rfl (show decode code 223 = .ok (.invokevirtual 19, 3) by decide +kernel) (fun v M2 H locs hF hP hD hS => ?_)
  obtain ⟨rfl, I2⟩ := hF
  refine lv_icmp_eq (tgt := 1108) C.1 C.2.1 (show decode code 226 = .ok (.if_icmp .eq 882, 3) by decide +kernel) (by decide) (fun _ => ?_) (fun z => absurd rfl z)
  exact kk M2 H locs I2 hP hD hS
theorem lw_c1 {n : Nat} {M : g_M} (C : l_Cx p s m c b L xs D cA ξ) (hl : lv_has ls 4 [(0, .ref b), (1, .ref (μ 0)), (2, .ref (μ 82)), (3, .int (nI i))]) (hi : i + 5 ≤ L) (hL : L ≤ 320) (hn : n < 1000) (I : Inv n M) (hP : va_P D g_cls (g_wld cA μ M S0) H) (hD : va_D (fun q => s.heap.size ≤ q) (g_wld cA μ M S0)) (hS : va_S (fun q => s.heap.size ≤ q) s.heap H locs) (hcl : cells ≤ 600000) (hsl : slots ≤ 7302250)
    (kk : ∀ (M' : g_M) (H1 : Heap) (locs1 : List Loc), Inv (n + 1) M' → va_P D g_cls (g_wld cA μ M' S0) H1 → va_D (fun q => s.heap.size ≤ q) (g_wld cA μ M' S0) → va_S (fun q => s.heap.size ≤ q) s.heap H1 locs1 → W p l e room_1 s m #[Value.ref b] below meth c H1 locs1 cells slots Q (F0 m 1108 ls [])) : W p l e room_1 s m #[Value.ref b] below meth c H locs cells slots Q (F0 m 231 ls []) := by
  refine lv_aload_n C.1 C.2.1 (show decode code 231 = .ok (.aload_n 1, 1) by decide +kernel) rfl (lv_at hl 1 rfl) ?_
  refine l_call C (a := 0) rfl wv_X9_garden vl_20 vi_X9_garden vs_X9_garden (p_garden (d := 60) (by decide) I) (Nat.le_of_ble_eq_true rfl) rfl rfl hl.1 (Nat.le_of_ble_eq_true rfl) hP hD hS hcl hsl rfl (show decode code 232 = .ok (.invokevirtual 20, 3) by decide +kernel) (fun v M1 H locs hF hP hD hS => ?_)
  obtain ⟨r, rfl, h2⟩ := hF
  refine lv_aload_n C.1 C.2.1 (show decode code 235 = .ok (.aload_n 2, 1) by decide +kernel) rfl (lv_at hl 2 rfl) ?_
  refine l_call C (a := 82) rfl wv_X10_garden vl_24 vi_X10_garden vs_X10_garden (h2) (Nat.le_of_ble_eq_true rfl) rfl rfl hl.1 (Nat.le_of_ble_eq_true rfl) hP hD hS hcl hsl rfl (show decode code 236 = .ok (.invokevirtual 24, 3) by decide +kernel) (fun v M2 H locs hF hP hD hS => ?_)
  obtain ⟨rfl, I2⟩ := hF
  refine lv_icmp_eq (tgt := 1108) C.1 C.2.1 (show decode code 239 = .ok (.if_icmp .eq 869, 3) by decide +kernel) (by decide) (fun _ => ?_) (fun z => absurd rfl z)
  exact kk M2 H locs I2 hP hD hS
theorem lw_c2 {n : Nat} {M : g_M} (C : l_Cx p s m c b L xs D cA ξ) (hl : lv_has ls 4 [(0, .ref b), (1, .ref (μ 0)), (2, .ref (μ 82)), (3, .int (nI i))]) (hi : i + 5 ≤ L) (hL : L ≤ 320) (hn : n < 1000) (I : Inv n M) (hP : va_P D g_cls (g_wld cA μ M S0) H) (hD : va_D (fun q => s.heap.size ≤ q) (g_wld cA μ M S0)) (hS : va_S (fun q => s.heap.size ≤ q) s.heap H locs) (hcl : cells ≤ 600000) (hsl : slots ≤ 7302250)
    (kk : ∀ (M' : g_M) (H1 : Heap) (locs1 : List Loc), Inv (n + 1) M' → va_P D g_cls (g_wld cA μ M' S0) H1 → va_D (fun q => s.heap.size ≤ q) (g_wld cA μ M' S0) → va_S (fun q => s.heap.size ≤ q) s.heap H1 locs1 → W p l e room_1 s m #[Value.ref b] below meth c H1 locs1 cells slots Q (F0 m 1108 ls [])) : W p l e room_1 s m #[Value.ref b] below meth c H locs cells slots Q (F0 m 244 ls []) := by
  refine lv_aload_n C.1 C.2.1 (show decode code 244 = .ok (.aload_n 1, 1) by decide +kernel) rfl (lv_at hl 1 rfl) ?_
  refine l_arg C hl hS hi hL 1 (by decide) (by decide) (show decode code 245 = .ok (.aload_n 0, 1) by decide +kernel) (show decode code 246 = .ok (.iload_n 3, 1) by decide +kernel) (show decode code 247 = .ok (.iconst 1, 1) by decide +kernel) (show decode code 248 = .ok (.iadd, 1) by decide +kernel) (show decode code 249 = .ok (.iaload, 1) by decide +kernel) ?_
  refine l_arg C hl hS hi hL 2 (by decide) (by decide) (show decode code 250 = .ok (.aload_n 0, 1) by decide +kernel) (show decode code 251 = .ok (.iload_n 3, 1) by decide +kernel) (show decode code 252 = .ok (.iconst 2, 1) by decide +kernel) (show decode code 253 = .ok (.iadd, 1) by decide +kernel) (show decode code 254 = .ok (.iaload, 1) by decide +kernel) ?_
  refine l_call C (a := 0) rfl wv_X9_place vl_25 vi_X9_place vs_X9_place (p_place (d := 60) (by decide) I) (Nat.le_of_ble_eq_true rfl) rfl rfl hl.1 (Nat.le_of_ble_eq_true rfl) hP hD hS hcl hsl rfl (show decode code 255 = .ok (.invokevirtual 25, 3) by decide +kernel) (fun v M1 H locs hF hP hD hS => ?_)
  obtain ⟨r, rfl, h2⟩ := hF
  refine lv_aload_n C.1 C.2.1 (show decode code 258 = .ok (.aload_n 2, 1) by decide +kernel) rfl (lv_at hl 2 rfl) ?_
  refine l_arg C hl hS hi hL 1 (by decide) (by decide) (show decode code 259 = .ok (.aload_n 0, 1) by decide +kernel) (show decode code 260 = .ok (.iload_n 3, 1) by decide +kernel) (show decode code 261 = .ok (.iconst 1, 1) by decide +kernel) (show decode code 262 = .ok (.iadd, 1) by decide +kernel) (show decode code 263 = .ok (.iaload, 1) by decide +kernel) ?_
  refine l_arg C hl hS hi hL 2 (by decide) (by decide) (show decode code 264 = .ok (.aload_n 0, 1) by decide +kernel) (show decode code 265 = .ok (.iload_n 3, 1) by decide +kernel) (show decode code 266 = .ok (.iconst 2, 1) by decide +kernel) (show decode code 267 = .ok (.iadd, 1) by decide +kernel) (show decode code 268 = .ok (.iaload, 1) by decide +kernel) ?_
  refine l_call C (a := 82) rfl wv_X10_place vl_29 vi_X10_place vs_X10_place (h2) (Nat.le_of_ble_eq_true rfl) rfl rfl hl.1 (Nat.le_of_ble_eq_true rfl) hP hD hS hcl hsl rfl (show decode code 269 = .ok (.invokevirtual 29, 3) by decide +kernel) (fun v M2 H locs hF hP hD hS => ?_)
  obtain ⟨rfl, I2⟩ := hF
  refine lv_icmp_eq (tgt := 1108) C.1 C.2.1 (show decode code 272 = .ok (.if_icmp .eq 836, 3) by decide +kernel) (by decide) (fun _ => ?_) (fun z => absurd rfl z)
  exact kk M2 H locs I2 hP hD hS
theorem lw_c3 {n : Nat} {M : g_M} (C : l_Cx p s m c b L xs D cA ξ) (hl : lv_has ls 4 [(0, .ref b), (1, .ref (μ 0)), (2, .ref (μ 82)), (3, .int (nI i))]) (hi : i + 5 ≤ L) (hL : L ≤ 320) (hn : n < 1000) (I : Inv n M) (hP : va_P D g_cls (g_wld cA μ M S0) H) (hD : va_D (fun q => s.heap.size ≤ q) (g_wld cA μ M S0)) (hS : va_S (fun q => s.heap.size ≤ q) s.heap H locs) (hcl : cells ≤ 600000) (hsl : slots ≤ 7302250)
    (kk : ∀ (M' : g_M) (H1 : Heap) (locs1 : List Loc), Inv (n + 1) M' → va_P D g_cls (g_wld cA μ M' S0) H1 → va_D (fun q => s.heap.size ≤ q) (g_wld cA μ M' S0) → va_S (fun q => s.heap.size ≤ q) s.heap H1 locs1 → W p l e room_1 s m #[Value.ref b] below meth c H1 locs1 cells slots Q (F0 m 1108 ls [])) : W p l e room_1 s m #[Value.ref b] below meth c H locs cells slots Q (F0 m 277 ls []) := by
  refine lv_aload_n C.1 C.2.1 (show decode code 277 = .ok (.aload_n 1, 1) by decide +kernel) rfl (lv_at hl 1 rfl) ?_
  refine l_arg C hl hS hi hL 1 (by decide) (by decide) (show decode code 278 = .ok (.aload_n 0, 1) by decide +kernel) (show decode code 279 = .ok (.iload_n 3, 1) by decide +kernel) (show decode code 280 = .ok (.iconst 1, 1) by decide +kernel) (show decode code 281 = .ok (.iadd, 1) by decide +kernel) (show decode code 282 = .ok (.iaload, 1) by decide +kernel) ?_
  refine l_arg C hl hS hi hL 2 (by decide) (by decide) (show decode code 283 = .ok (.aload_n 0, 1) by decide +kernel) (show decode code 284 = .ok (.iload_n 3, 1) by decide +kernel) (show decode code 285 = .ok (.iconst 2, 1) by decide +kernel) (show decode code 286 = .ok (.iadd, 1) by decide +kernel) (show decode code 287 = .ok (.iaload, 1) by decide +kernel) ?_
  refine l_call C (a := 0) rfl wv_X9_sees vl_30 vi_X9_sees vs_X9_sees (p_sees (d := 60) (by decide) I) (Nat.le_of_ble_eq_true rfl) rfl rfl hl.1 (Nat.le_of_ble_eq_true rfl) hP hD hS hcl hsl rfl (show decode code 288 = .ok (.invokevirtual 30, 3) by decide +kernel) (fun v M1 H locs hF hP hD hS => ?_)
  obtain ⟨r, rfl, h2⟩ := hF
  refine lv_aload_n C.1 C.2.1 (show decode code 291 = .ok (.aload_n 2, 1) by decide +kernel) rfl (lv_at hl 2 rfl) ?_
  refine l_arg C hl hS hi hL 1 (by decide) (by decide) (show decode code 292 = .ok (.aload_n 0, 1) by decide +kernel) (show decode code 293 = .ok (.iload_n 3, 1) by decide +kernel) (show decode code 294 = .ok (.iconst 1, 1) by decide +kernel) (show decode code 295 = .ok (.iadd, 1) by decide +kernel) (show decode code 296 = .ok (.iaload, 1) by decide +kernel) ?_
  refine l_arg C hl hS hi hL 2 (by decide) (by decide) (show decode code 297 = .ok (.aload_n 0, 1) by decide +kernel) (show decode code 298 = .ok (.iload_n 3, 1) by decide +kernel) (show decode code 299 = .ok (.iconst 2, 1) by decide +kernel) (show decode code 300 = .ok (.iadd, 1) by decide +kernel) (show decode code 301 = .ok (.iaload, 1) by decide +kernel) ?_
  refine l_call C (a := 82) rfl wv_X10_sees vl_33 vi_X10_sees vs_X10_sees (h2) (Nat.le_of_ble_eq_true rfl) rfl rfl hl.1 (Nat.le_of_ble_eq_true rfl) hP hD hS hcl hsl rfl (show decode code 302 = .ok (.invokevirtual 33, 3) by decide +kernel) (fun v M2 H locs hF hP hD hS => ?_)
  obtain ⟨rfl, I2⟩ := hF
  refine lv_icmp_eq (tgt := 1108) C.1 C.2.1 (show decode code 305 = .ok (.if_icmp .eq 803, 3) by decide +kernel) (by decide) (fun _ => ?_) (fun z => absurd rfl z)
  exact kk M2 H locs I2 hP hD hS
theorem lw_c4 {n : Nat} {M : g_M} (C : l_Cx p s m c b L xs D cA ξ) (hl : lv_has ls 4 [(0, .ref b), (1, .ref (μ 0)), (2, .ref (μ 82)), (3, .int (nI i))]) (hi : i + 5 ≤ L) (hL : L ≤ 320) (hn : n < 1000) (I : Inv n M) (hP : va_P D g_cls (g_wld cA μ M S0) H) (hD : va_D (fun q => s.heap.size ≤ q) (g_wld cA μ M S0)) (hS : va_S (fun q => s.heap.size ≤ q) s.heap H locs) (hcl : cells ≤ 600000) (hsl : slots ≤ 7302250)
    (kk : ∀ (M' : g_M) (H1 : Heap) (locs1 : List Loc), Inv (n + 1) M' → va_P D g_cls (g_wld cA μ M' S0) H1 → va_D (fun q => s.heap.size ≤ q) (g_wld cA μ M' S0) → va_S (fun q => s.heap.size ≤ q) s.heap H1 locs1 → W p l e room_1 s m #[Value.ref b] below meth c H1 locs1 cells slots Q (F0 m 1108 ls [])) : W p l e room_1 s m #[Value.ref b] below meth c H locs cells slots Q (F0 m 310 ls []) := by
  refine lv_aload_n C.1 C.2.1 (show decode code 310 = .ok (.aload_n 1, 1) by decide +kernel) rfl (lv_at hl 1 rfl) ?_
  refine l_arg C hl hS hi hL 1 (by decide) (by decide) (show decode code 311 = .ok (.aload_n 0, 1) by decide +kernel) (show decode code 312 = .ok (.iload_n 3, 1) by decide +kernel) (show decode code 313 = .ok (.iconst 1, 1) by decide +kernel) (show decode code 314 = .ok (.iadd, 1) by decide +kernel) (show decode code 315 = .ok (.iaload, 1) by decide +kernel) ?_
  refine l_arg C hl hS hi hL 2 (by decide) (by decide) (show decode code 316 = .ok (.aload_n 0, 1) by decide +kernel) (show decode code 317 = .ok (.iload_n 3, 1) by decide +kernel) (show decode code 318 = .ok (.iconst 2, 1) by decide +kernel) (show decode code 319 = .ok (.iadd, 1) by decide +kernel) (show decode code 320 = .ok (.iaload, 1) by decide +kernel) ?_
  refine l_call C (a := 0) rfl wv_X9_far vl_34 vi_X9_far vs_X9_far (p_far (d := 60) (by decide) I) (Nat.le_of_ble_eq_true rfl) rfl rfl hl.1 (Nat.le_of_ble_eq_true rfl) hP hD hS hcl hsl rfl (show decode code 321 = .ok (.invokevirtual 34, 3) by decide +kernel) (fun v M1 H locs hF hP hD hS => ?_)
  obtain ⟨r, rfl, h2⟩ := hF
  refine lv_aload_n C.1 C.2.1 (show decode code 324 = .ok (.aload_n 2, 1) by decide +kernel) rfl (lv_at hl 2 rfl) ?_
  refine l_arg C hl hS hi hL 1 (by decide) (by decide) (show decode code 325 = .ok (.aload_n 0, 1) by decide +kernel) (show decode code 326 = .ok (.iload_n 3, 1) by decide +kernel) (show decode code 327 = .ok (.iconst 1, 1) by decide +kernel) (show decode code 328 = .ok (.iadd, 1) by decide +kernel) (show decode code 329 = .ok (.iaload, 1) by decide +kernel) ?_
  refine l_arg C hl hS hi hL 2 (by decide) (by decide) (show decode code 330 = .ok (.aload_n 0, 1) by decide +kernel) (show decode code 331 = .ok (.iload_n 3, 1) by decide +kernel) (show decode code 332 = .ok (.iconst 2, 1) by decide +kernel) (show decode code 333 = .ok (.iadd, 1) by decide +kernel) (show decode code 334 = .ok (.iaload, 1) by decide +kernel) ?_
  refine l_call C (a := 82) rfl wv_X10_far vl_37 vi_X10_far vs_X10_far (h2) (Nat.le_of_ble_eq_true rfl) rfl rfl hl.1 (Nat.le_of_ble_eq_true rfl) hP hD hS hcl hsl rfl (show decode code 335 = .ok (.invokevirtual 37, 3) by decide +kernel) (fun v M2 H locs hF hP hD hS => ?_)
  obtain ⟨rfl, I2⟩ := hF
  refine lv_icmp_eq (tgt := 1108) C.1 C.2.1 (show decode code 338 = .ok (.if_icmp .eq 770, 3) by decide +kernel) (by decide) (fun _ => ?_) (fun z => absurd rfl z)
  exact kk M2 H locs I2 hP hD hS
theorem lw_c5 {n : Nat} {M : g_M} (C : l_Cx p s m c b L xs D cA ξ) (hl : lv_has ls 4 [(0, .ref b), (1, .ref (μ 0)), (2, .ref (μ 82)), (3, .int (nI i))]) (hi : i + 5 ≤ L) (hL : L ≤ 320) (hn : n < 1000) (I : Inv n M) (hP : va_P D g_cls (g_wld cA μ M S0) H) (hD : va_D (fun q => s.heap.size ≤ q) (g_wld cA μ M S0)) (hS : va_S (fun q => s.heap.size ≤ q) s.heap H locs) (hcl : cells ≤ 600000) (hsl : slots ≤ 7302250)
    (kk : ∀ (M' : g_M) (H1 : Heap) (locs1 : List Loc), Inv (n + 1) M' → va_P D g_cls (g_wld cA μ M' S0) H1 → va_D (fun q => s.heap.size ≤ q) (g_wld cA μ M' S0) → va_S (fun q => s.heap.size ≤ q) s.heap H1 locs1 → W p l e room_1 s m #[Value.ref b] below meth c H1 locs1 cells slots Q (F0 m 1108 ls [])) : W p l e room_1 s m #[Value.ref b] below meth c H locs cells slots Q (F0 m 343 ls []) := by
  refine lv_aload_n C.1 C.2.1 (show decode code 343 = .ok (.aload_n 1, 1) by decide +kernel) rfl (lv_at hl 1 rfl) ?_
  refine l_arg C hl hS hi hL 1 (by decide) (by decide) (show decode code 344 = .ok (.aload_n 0, 1) by decide +kernel) (show decode code 345 = .ok (.iload_n 3, 1) by decide +kernel) (show decode code 346 = .ok (.iconst 1, 1) by decide +kernel) (show decode code 347 = .ok (.iadd, 1) by decide +kernel) (show decode code 348 = .ok (.iaload, 1) by decide +kernel) ?_
  refine l_arg C hl hS hi hL 2 (by decide) (by decide) (show decode code 349 = .ok (.aload_n 0, 1) by decide +kernel) (show decode code 350 = .ok (.iload_n 3, 1) by decide +kernel) (show decode code 351 = .ok (.iconst 2, 1) by decide +kernel) (show decode code 352 = .ok (.iadd, 1) by decide +kernel) (show decode code 353 = .ok (.iaload, 1) by decide +kernel) ?_
  refine l_call C (a := 0) rfl wv_X9_hider vl_38 vi_X9_hider vs_X9_hider (p_hider (d := 60) (by decide) I) (Nat.le_of_ble_eq_true rfl) rfl rfl hl.1 (Nat.le_of_ble_eq_true rfl) hP hD hS hcl hsl rfl (show decode code 354 = .ok (.invokevirtual 38, 3) by decide +kernel) (fun v M1 H locs hF hP hD hS => ?_)
  obtain ⟨r, rfl, h2⟩ := hF
  refine lv_aload_n C.1 C.2.1 (show decode code 357 = .ok (.aload_n 2, 1) by decide +kernel) rfl (lv_at hl 2 rfl) ?_
  refine l_arg C hl hS hi hL 1 (by decide) (by decide) (show decode code 358 = .ok (.aload_n 0, 1) by decide +kernel) (show decode code 359 = .ok (.iload_n 3, 1) by decide +kernel) (show decode code 360 = .ok (.iconst 1, 1) by decide +kernel) (show decode code 361 = .ok (.iadd, 1) by decide +kernel) (show decode code 362 = .ok (.iaload, 1) by decide +kernel) ?_
  refine l_arg C hl hS hi hL 2 (by decide) (by decide) (show decode code 363 = .ok (.aload_n 0, 1) by decide +kernel) (show decode code 364 = .ok (.iload_n 3, 1) by decide +kernel) (show decode code 365 = .ok (.iconst 2, 1) by decide +kernel) (show decode code 366 = .ok (.iadd, 1) by decide +kernel) (show decode code 367 = .ok (.iaload, 1) by decide +kernel) ?_
  refine l_call C (a := 82) rfl wv_X10_hider vl_41 vi_X10_hider vs_X10_hider (h2) (Nat.le_of_ble_eq_true rfl) rfl rfl hl.1 (Nat.le_of_ble_eq_true rfl) hP hD hS hcl hsl rfl (show decode code 368 = .ok (.invokevirtual 41, 3) by decide +kernel) (fun v M2 H locs hF hP hD hS => ?_)
  obtain ⟨rfl, I2⟩ := hF
  refine lv_icmp_eq (tgt := 1108) C.1 C.2.1 (show decode code 371 = .ok (.if_icmp .eq 737, 3) by decide +kernel) (by decide) (fun _ => ?_) (fun z => absurd rfl z)
  exact kk M2 H locs I2 hP hD hS
theorem lw_c6 {n : Nat} {M : g_M} (C : l_Cx p s m c b L xs D cA ξ) (hl : lv_has ls 4 [(0, .ref b), (1, .ref (μ 0)), (2, .ref (μ 82)), (3, .int (nI i))]) (hi : i + 5 ≤ L) (hL : L ≤ 320) (hn : n < 1000) (I : Inv n M) (hP : va_P D g_cls (g_wld cA μ M S0) H) (hD : va_D (fun q => s.heap.size ≤ q) (g_wld cA μ M S0)) (hS : va_S (fun q => s.heap.size ≤ q) s.heap H locs) (hcl : cells ≤ 600000) (hsl : slots ≤ 7302250)
    (kk : ∀ (M' : g_M) (H1 : Heap) (locs1 : List Loc), Inv (n + 1) M' → va_P D g_cls (g_wld cA μ M' S0) H1 → va_D (fun q => s.heap.size ≤ q) (g_wld cA μ M' S0) → va_S (fun q => s.heap.size ≤ q) s.heap H1 locs1 → W p l e room_1 s m #[Value.ref b] below meth c H1 locs1 cells slots Q (F0 m 1108 ls [])) : W p l e room_1 s m #[Value.ref b] below meth c H locs cells slots Q (F0 m 376 ls []) := by
  refine lv_aload_n C.1 C.2.1 (show decode code 376 = .ok (.aload_n 1, 1) by decide +kernel) rfl (lv_at hl 1 rfl) ?_
  refine l_arg C hl hS hi hL 1 (by decide) (by decide) (show decode code 377 = .ok (.aload_n 0, 1) by decide +kernel) (show decode code 378 = .ok (.iload_n 3, 1) by decide +kernel) (show decode code 379 = .ok (.iconst 1, 1) by decide +kernel) (show decode code 380 = .ok (.iadd, 1) by decide +kernel) (show decode code 381 = .ok (.iaload, 1) by decide +kernel) ?_
  refine l_arg C hl hS hi hL 2 (by decide) (by decide) (show decode code 382 = .ok (.aload_n 0, 1) by decide +kernel) (show decode code 383 = .ok (.iload_n 3, 1) by decide +kernel) (show decode code 384 = .ok (.iconst 2, 1) by decide +kernel) (show decode code 385 = .ok (.iadd, 1) by decide +kernel) (show decode code 386 = .ok (.iaload, 1) by decide +kernel) ?_
  refine l_call C (a := 0) rfl wv_X9_times vl_42 vi_X9_times vs_X9_times (p_times (d := 60) (by decide) I) (Nat.le_of_ble_eq_true rfl) rfl rfl hl.1 (Nat.le_of_ble_eq_true rfl) hP hD hS hcl hsl rfl (show decode code 387 = .ok (.invokevirtual 42, 3) by decide +kernel) (fun v M1 H locs hF hP hD hS => ?_)
  obtain ⟨r, rfl, h2⟩ := hF
  refine lv_aload_n C.1 C.2.1 (show decode code 390 = .ok (.aload_n 2, 1) by decide +kernel) rfl (lv_at hl 2 rfl) ?_
  refine l_arg C hl hS hi hL 1 (by decide) (by decide) (show decode code 391 = .ok (.aload_n 0, 1) by decide +kernel) (show decode code 392 = .ok (.iload_n 3, 1) by decide +kernel) (show decode code 393 = .ok (.iconst 1, 1) by decide +kernel) (show decode code 394 = .ok (.iadd, 1) by decide +kernel) (show decode code 395 = .ok (.iaload, 1) by decide +kernel) ?_
  refine l_arg C hl hS hi hL 2 (by decide) (by decide) (show decode code 396 = .ok (.aload_n 0, 1) by decide +kernel) (show decode code 397 = .ok (.iload_n 3, 1) by decide +kernel) (show decode code 398 = .ok (.iconst 2, 1) by decide +kernel) (show decode code 399 = .ok (.iadd, 1) by decide +kernel) (show decode code 400 = .ok (.iaload, 1) by decide +kernel) ?_
  refine l_call C (a := 82) rfl wv_X10_times vl_45 vi_X10_times vs_X10_times (h2) (Nat.le_of_ble_eq_true rfl) rfl rfl hl.1 (Nat.le_of_ble_eq_true rfl) hP hD hS hcl hsl rfl (show decode code 401 = .ok (.invokevirtual 45, 3) by decide +kernel) (fun v M2 H locs hF hP hD hS => ?_)
  obtain ⟨rfl, I2⟩ := hF
  refine lv_icmp_eq (tgt := 1108) C.1 C.2.1 (show decode code 404 = .ok (.if_icmp .eq 704, 3) by decide +kernel) (by decide) (fun _ => ?_) (fun z => absurd rfl z)
  exact kk M2 H locs I2 hP hD hS
theorem lw_c7 {n : Nat} {M : g_M} (C : l_Cx p s m c b L xs D cA ξ) (hl : lv_has ls 4 [(0, .ref b), (1, .ref (μ 0)), (2, .ref (μ 82)), (3, .int (nI i))]) (hi : i + 5 ≤ L) (hL : L ≤ 320) (hn : n < 1000) (I : Inv n M) (hP : va_P D g_cls (g_wld cA μ M S0) H) (hD : va_D (fun q => s.heap.size ≤ q) (g_wld cA μ M S0)) (hS : va_S (fun q => s.heap.size ≤ q) s.heap H locs) (hcl : cells ≤ 600000) (hsl : slots ≤ 7302250)
    (kk : ∀ (M' : g_M) (H1 : Heap) (locs1 : List Loc), Inv (n + 1) M' → va_P D g_cls (g_wld cA μ M' S0) H1 → va_D (fun q => s.heap.size ≤ q) (g_wld cA μ M' S0) → va_S (fun q => s.heap.size ≤ q) s.heap H1 locs1 → W p l e room_1 s m #[Value.ref b] below meth c H1 locs1 cells slots Q (F0 m 1108 ls [])) : W p l e room_1 s m #[Value.ref b] below meth c H locs cells slots Q (F0 m 409 ls []) := by
  refine lv_aload_n C.1 C.2.1 (show decode code 409 = .ok (.aload_n 1, 1) by decide +kernel) rfl (lv_at hl 1 rfl) ?_
  refine l_arg C hl hS hi hL 1 (by decide) (by decide) (show decode code 410 = .ok (.aload_n 0, 1) by decide +kernel) (show decode code 411 = .ok (.iload_n 3, 1) by decide +kernel) (show decode code 412 = .ok (.iconst 1, 1) by decide +kernel) (show decode code 413 = .ok (.iadd, 1) by decide +kernel) (show decode code 414 = .ok (.iaload, 1) by decide +kernel) ?_
  refine l_arg C hl hS hi hL 2 (by decide) (by decide) (show decode code 415 = .ok (.aload_n 0, 1) by decide +kernel) (show decode code 416 = .ok (.iload_n 3, 1) by decide +kernel) (show decode code 417 = .ok (.iconst 2, 1) by decide +kernel) (show decode code 418 = .ok (.iadd, 1) by decide +kernel) (show decode code 419 = .ok (.iaload, 1) by decide +kernel) ?_
  refine l_call C (a := 0) rfl wv_X9_set vl_46 vi_X9_set vs_X9_set (p_set (d := 60) (by decide) I) (Nat.le_of_ble_eq_true rfl) rfl rfl hl.1 (Nat.le_of_ble_eq_true rfl) hP hD hS hcl hsl rfl (show decode code 420 = .ok (.invokevirtual 46, 3) by decide +kernel) (fun v M1 H locs hF hP hD hS => ?_)
  obtain ⟨r, rfl, h2⟩ := hF
  refine lv_aload_n C.1 C.2.1 (show decode code 423 = .ok (.aload_n 2, 1) by decide +kernel) rfl (lv_at hl 2 rfl) ?_
  refine l_arg C hl hS hi hL 1 (by decide) (by decide) (show decode code 424 = .ok (.aload_n 0, 1) by decide +kernel) (show decode code 425 = .ok (.iload_n 3, 1) by decide +kernel) (show decode code 426 = .ok (.iconst 1, 1) by decide +kernel) (show decode code 427 = .ok (.iadd, 1) by decide +kernel) (show decode code 428 = .ok (.iaload, 1) by decide +kernel) ?_
  refine l_arg C hl hS hi hL 2 (by decide) (by decide) (show decode code 429 = .ok (.aload_n 0, 1) by decide +kernel) (show decode code 430 = .ok (.iload_n 3, 1) by decide +kernel) (show decode code 431 = .ok (.iconst 2, 1) by decide +kernel) (show decode code 432 = .ok (.iadd, 1) by decide +kernel) (show decode code 433 = .ok (.iaload, 1) by decide +kernel) ?_
  refine l_call C (a := 82) rfl wv_X10_set vl_49 vi_X10_set vs_X10_set (h2) (Nat.le_of_ble_eq_true rfl) rfl rfl hl.1 (Nat.le_of_ble_eq_true rfl) hP hD hS hcl hsl rfl (show decode code 434 = .ok (.invokevirtual 49, 3) by decide +kernel) (fun v M2 H locs hF hP hD hS => ?_)
  obtain ⟨rfl, I2⟩ := hF
  refine lv_icmp_eq (tgt := 1108) C.1 C.2.1 (show decode code 437 = .ok (.if_icmp .eq 671, 3) by decide +kernel) (by decide) (fun _ => ?_) (fun z => absurd rfl z)
  exact kk M2 H locs I2 hP hD hS
theorem lw_c8 {n : Nat} {M : g_M} (C : l_Cx p s m c b L xs D cA ξ) (hl : lv_has ls 4 [(0, .ref b), (1, .ref (μ 0)), (2, .ref (μ 82)), (3, .int (nI i))]) (hi : i + 5 ≤ L) (hL : L ≤ 320) (hn : n < 1000) (I : Inv n M) (hP : va_P D g_cls (g_wld cA μ M S0) H) (hD : va_D (fun q => s.heap.size ≤ q) (g_wld cA μ M S0)) (hS : va_S (fun q => s.heap.size ≤ q) s.heap H locs) (hcl : cells ≤ 600000) (hsl : slots ≤ 7302250)
    (kk : ∀ (M' : g_M) (H1 : Heap) (locs1 : List Loc), Inv (n + 1) M' → va_P D g_cls (g_wld cA μ M' S0) H1 → va_D (fun q => s.heap.size ≤ q) (g_wld cA μ M' S0) → va_S (fun q => s.heap.size ≤ q) s.heap H1 locs1 → W p l e room_1 s m #[Value.ref b] below meth c H1 locs1 cells slots Q (F0 m 1108 ls [])) : W p l e room_1 s m #[Value.ref b] below meth c H locs cells slots Q (F0 m 442 ls []) := by
  refine lv_aload_n C.1 C.2.1 (show decode code 442 = .ok (.aload_n 1, 1) by decide +kernel) rfl (lv_at hl 1 rfl) ?_
  refine l_arg C hl hS hi hL 1 (by decide) (by decide) (show decode code 443 = .ok (.aload_n 0, 1) by decide +kernel) (show decode code 444 = .ok (.iload_n 3, 1) by decide +kernel) (show decode code 445 = .ok (.iconst 1, 1) by decide +kernel) (show decode code 446 = .ok (.iadd, 1) by decide +kernel) (show decode code 447 = .ok (.iaload, 1) by decide +kernel) ?_
  refine l_arg C hl hS hi hL 2 (by decide) (by decide) (show decode code 448 = .ok (.aload_n 0, 1) by decide +kernel) (show decode code 449 = .ok (.iload_n 3, 1) by decide +kernel) (show decode code 450 = .ok (.iconst 2, 1) by decide +kernel) (show decode code 451 = .ok (.iadd, 1) by decide +kernel) (show decode code 452 = .ok (.iaload, 1) by decide +kernel) ?_
  refine lv_i2l C.1 C.2.1 (show decode code 453 = .ok (.i2l, 1) by decide +kernel) rfl ?_
  refine lv_bipush (v := 32) C.1 C.2.1 (show decode code 454 = .ok (.bipush 32, 2) by decide +kernel) (by decide +kernel) ?_
  refine lv_lshl C.1 C.2.1 (show decode code 456 = .ok (.lshl, 1) by decide +kernel) rfl ?_
  refine l_arg C hl hS hi hL 3 (by decide) (by decide) (show decode code 457 = .ok (.aload_n 0, 1) by decide +kernel) (show decode code 458 = .ok (.iload_n 3, 1) by decide +kernel) (show decode code 459 = .ok (.iconst 3, 1) by decide +kernel) (show decode code 460 = .ok (.iadd, 1) by decide +kernel) (show decode code 461 = .ok (.iaload, 1) by decide +kernel) ?_
  refine lv_i2l C.1 C.2.1 (show decode code 462 = .ok (.i2l, 1) by decide +kernel) rfl ?_
  refine lv_ldc2 C.1 C.2.1 C.2.2.2.1 (C.2.2.2.2.1 _ vl_const) (show decode code 463 = .ok (.ldc2_w 13, 3) by decide +kernel) ?_
  refine lv_land C.1 C.2.1 (show decode code 466 = .ok (.land, 1) by decide +kernel) ?_
  refine lv_lor C.1 C.2.1 (show decode code 467 = .ok (.lor, 1) by decide +kernel) ?_
  refine l_call C (a := 0) rfl wv_X9_order vl_50 vi_X9_order vs_X9_order (p_order (d := 60) (by decide) I) (Nat.le_of_ble_eq_true rfl) rfl rfl hl.1 (Nat.le_of_ble_eq_true rfl) hP hD hS hcl hsl rfl (show decode code 468 = .ok (.invokevirtual 50, 3) by decide +kernel) (fun v M1 H locs hF hP hD hS => ?_)
  obtain ⟨r, rfl, h2⟩ := hF
  refine lv_aload_n C.1 C.2.1 (show decode code 471 = .ok (.aload_n 2, 1) by decide +kernel) rfl (lv_at hl 2 rfl) ?_
  refine l_arg C hl hS hi hL 1 (by decide) (by decide) (show decode code 472 = .ok (.aload_n 0, 1) by decide +kernel) (show decode code 473 = .ok (.iload_n 3, 1) by decide +kernel) (show decode code 474 = .ok (.iconst 1, 1) by decide +kernel) (show decode code 475 = .ok (.iadd, 1) by decide +kernel) (show decode code 476 = .ok (.iaload, 1) by decide +kernel) ?_
  refine l_arg C hl hS hi hL 2 (by decide) (by decide) (show decode code 477 = .ok (.aload_n 0, 1) by decide +kernel) (show decode code 478 = .ok (.iload_n 3, 1) by decide +kernel) (show decode code 479 = .ok (.iconst 2, 1) by decide +kernel) (show decode code 480 = .ok (.iadd, 1) by decide +kernel) (show decode code 481 = .ok (.iaload, 1) by decide +kernel) ?_
  refine lv_i2l C.1 C.2.1 (show decode code 482 = .ok (.i2l, 1) by decide +kernel) rfl ?_
  refine lv_bipush (v := 32) C.1 C.2.1 (show decode code 483 = .ok (.bipush 32, 2) by decide +kernel) (by decide +kernel) ?_
  refine lv_lshl C.1 C.2.1 (show decode code 485 = .ok (.lshl, 1) by decide +kernel) rfl ?_
  refine l_arg C hl hS hi hL 3 (by decide) (by decide) (show decode code 486 = .ok (.aload_n 0, 1) by decide +kernel) (show decode code 487 = .ok (.iload_n 3, 1) by decide +kernel) (show decode code 488 = .ok (.iconst 3, 1) by decide +kernel) (show decode code 489 = .ok (.iadd, 1) by decide +kernel) (show decode code 490 = .ok (.iaload, 1) by decide +kernel) ?_
  refine lv_i2l C.1 C.2.1 (show decode code 491 = .ok (.i2l, 1) by decide +kernel) rfl ?_
  refine lv_ldc2 C.1 C.2.1 C.2.2.2.1 (C.2.2.2.2.1 _ vl_const) (show decode code 492 = .ok (.ldc2_w 13, 3) by decide +kernel) ?_
  refine lv_land C.1 C.2.1 (show decode code 495 = .ok (.land, 1) by decide +kernel) ?_
  refine lv_lor C.1 C.2.1 (show decode code 496 = .ok (.lor, 1) by decide +kernel) ?_
  refine l_call C (a := 82) rfl wv_X10_order vl_53 vi_X10_order vs_X10_order (h2) (Nat.le_of_ble_eq_true rfl) rfl rfl hl.1 (Nat.le_of_ble_eq_true rfl) hP hD hS hcl hsl rfl (show decode code 497 = .ok (.invokevirtual 53, 3) by decide +kernel) (fun v M2 H locs hF hP hD hS => ?_)
  obtain ⟨rfl, I2⟩ := hF
  refine lv_icmp_eq (tgt := 1108) C.1 C.2.1 (show decode code 500 = .ok (.if_icmp .eq 608, 3) by decide +kernel) (by decide) (fun _ => ?_) (fun z => absurd rfl z)
  exact kk M2 H locs I2 hP hD hS
theorem lw_c9 {n : Nat} {M : g_M} (C : l_Cx p s m c b L xs D cA ξ) (hl : lv_has ls 4 [(0, .ref b), (1, .ref (μ 0)), (2, .ref (μ 82)), (3, .int (nI i))]) (hi : i + 5 ≤ L) (hL : L ≤ 320) (hn : n < 1000) (I : Inv n M) (hP : va_P D g_cls (g_wld cA μ M S0) H) (hD : va_D (fun q => s.heap.size ≤ q) (g_wld cA μ M S0)) (hS : va_S (fun q => s.heap.size ≤ q) s.heap H locs) (hcl : cells ≤ 600000) (hsl : slots ≤ 7302250)
    (kk : ∀ (M' : g_M) (H1 : Heap) (locs1 : List Loc), Inv (n + 1) M' → va_P D g_cls (g_wld cA μ M' S0) H1 → va_D (fun q => s.heap.size ≤ q) (g_wld cA μ M' S0) → va_S (fun q => s.heap.size ≤ q) s.heap H1 locs1 → W p l e room_1 s m #[Value.ref b] below meth c H1 locs1 cells slots Q (F0 m 1108 ls [])) : W p l e room_1 s m #[Value.ref b] below meth c H locs cells slots Q (F0 m 505 ls []) := by
  refine lv_aload_n C.1 C.2.1 (show decode code 505 = .ok (.aload_n 1, 1) by decide +kernel) rfl (lv_at hl 1 rfl) ?_
  refine l_arg C hl hS hi hL 1 (by decide) (by decide) (show decode code 506 = .ok (.aload_n 0, 1) by decide +kernel) (show decode code 507 = .ok (.iload_n 3, 1) by decide +kernel) (show decode code 508 = .ok (.iconst 1, 1) by decide +kernel) (show decode code 509 = .ok (.iadd, 1) by decide +kernel) (show decode code 510 = .ok (.iaload, 1) by decide +kernel) ?_
  refine l_arg C hl hS hi hL 2 (by decide) (by decide) (show decode code 511 = .ok (.aload_n 0, 1) by decide +kernel) (show decode code 512 = .ok (.iload_n 3, 1) by decide +kernel) (show decode code 513 = .ok (.iconst 2, 1) by decide +kernel) (show decode code 514 = .ok (.iadd, 1) by decide +kernel) (show decode code 515 = .ok (.iaload, 1) by decide +kernel) ?_
  refine l_arg C hl hS hi hL 3 (by decide) (by decide) (show decode code 516 = .ok (.aload_n 0, 1) by decide +kernel) (show decode code 517 = .ok (.iload_n 3, 1) by decide +kernel) (show decode code 518 = .ok (.iconst 3, 1) by decide +kernel) (show decode code 519 = .ok (.iadd, 1) by decide +kernel) (show decode code 520 = .ok (.iaload, 1) by decide +kernel) ?_
  refine l_call C (a := 0) rfl wv_X9_cover vl_54 vi_X9_cover vs_X9_cover (p_cover (d := 60) (by decide) I) (Nat.le_of_ble_eq_true rfl) rfl rfl hl.1 (Nat.le_of_ble_eq_true rfl) hP hD hS hcl hsl rfl (show decode code 521 = .ok (.invokevirtual 54, 3) by decide +kernel) (fun v M1 H locs hF hP hD hS => ?_)
  obtain ⟨r, rfl, h2⟩ := hF
  refine lv_aload_n C.1 C.2.1 (show decode code 524 = .ok (.aload_n 2, 1) by decide +kernel) rfl (lv_at hl 2 rfl) ?_
  refine l_arg C hl hS hi hL 1 (by decide) (by decide) (show decode code 525 = .ok (.aload_n 0, 1) by decide +kernel) (show decode code 526 = .ok (.iload_n 3, 1) by decide +kernel) (show decode code 527 = .ok (.iconst 1, 1) by decide +kernel) (show decode code 528 = .ok (.iadd, 1) by decide +kernel) (show decode code 529 = .ok (.iaload, 1) by decide +kernel) ?_
  refine l_arg C hl hS hi hL 2 (by decide) (by decide) (show decode code 530 = .ok (.aload_n 0, 1) by decide +kernel) (show decode code 531 = .ok (.iload_n 3, 1) by decide +kernel) (show decode code 532 = .ok (.iconst 2, 1) by decide +kernel) (show decode code 533 = .ok (.iadd, 1) by decide +kernel) (show decode code 534 = .ok (.iaload, 1) by decide +kernel) ?_
  refine l_arg C hl hS hi hL 3 (by decide) (by decide) (show decode code 535 = .ok (.aload_n 0, 1) by decide +kernel) (show decode code 536 = .ok (.iload_n 3, 1) by decide +kernel) (show decode code 537 = .ok (.iconst 3, 1) by decide +kernel) (show decode code 538 = .ok (.iadd, 1) by decide +kernel) (show decode code 539 = .ok (.iaload, 1) by decide +kernel) ?_
  refine l_call C (a := 82) rfl wv_X10_cover vl_58 vi_X10_cover vs_X10_cover (h2) (Nat.le_of_ble_eq_true rfl) rfl rfl hl.1 (Nat.le_of_ble_eq_true rfl) hP hD hS hcl hsl rfl (show decode code 540 = .ok (.invokevirtual 58, 3) by decide +kernel) (fun v M2 H locs hF hP hD hS => ?_)
  obtain ⟨rfl, I2⟩ := hF
  refine lv_icmp_eq (tgt := 1108) C.1 C.2.1 (show decode code 543 = .ok (.if_icmp .eq 565, 3) by decide +kernel) (by decide) (fun _ => ?_) (fun z => absurd rfl z)
  exact kk M2 H locs I2 hP hD hS
theorem lw_c10 {n : Nat} {M : g_M} (C : l_Cx p s m c b L xs D cA ξ) (hl : lv_has ls 4 [(0, .ref b), (1, .ref (μ 0)), (2, .ref (μ 82)), (3, .int (nI i))]) (hi : i + 5 ≤ L) (hL : L ≤ 320) (hn : n < 1000) (I : Inv n M) (hP : va_P D g_cls (g_wld cA μ M S0) H) (hD : va_D (fun q => s.heap.size ≤ q) (g_wld cA μ M S0)) (hS : va_S (fun q => s.heap.size ≤ q) s.heap H locs) (hcl : cells ≤ 600000) (hsl : slots ≤ 7302250)
    (kk : ∀ (M' : g_M) (H1 : Heap) (locs1 : List Loc), Inv (n + 1) M' → va_P D g_cls (g_wld cA μ M' S0) H1 → va_D (fun q => s.heap.size ≤ q) (g_wld cA μ M' S0) → va_S (fun q => s.heap.size ≤ q) s.heap H1 locs1 → W p l e room_1 s m #[Value.ref b] below meth c H1 locs1 cells slots Q (F0 m 1108 ls [])) : W p l e room_1 s m #[Value.ref b] below meth c H locs cells slots Q (F0 m 548 ls []) := by
  refine lv_aload_n C.1 C.2.1 (show decode code 548 = .ok (.aload_n 1, 1) by decide +kernel) rfl (lv_at hl 1 rfl) ?_
  refine l_arg C hl hS hi hL 1 (by decide) (by decide) (show decode code 549 = .ok (.aload_n 0, 1) by decide +kernel) (show decode code 550 = .ok (.iload_n 3, 1) by decide +kernel) (show decode code 551 = .ok (.iconst 1, 1) by decide +kernel) (show decode code 552 = .ok (.iadd, 1) by decide +kernel) (show decode code 553 = .ok (.iaload, 1) by decide +kernel) ?_
  refine l_arg C hl hS hi hL 2 (by decide) (by decide) (show decode code 554 = .ok (.aload_n 0, 1) by decide +kernel) (show decode code 555 = .ok (.iload_n 3, 1) by decide +kernel) (show decode code 556 = .ok (.iconst 2, 1) by decide +kernel) (show decode code 557 = .ok (.iadd, 1) by decide +kernel) (show decode code 558 = .ok (.iaload, 1) by decide +kernel) ?_
  refine l_call C (a := 0) rfl wv_X9_run vl_59 vi_X9_run vs_X9_run (p_run (d := 60) (by decide) I) (Nat.le_of_ble_eq_true rfl) rfl rfl hl.1 (Nat.le_of_ble_eq_true rfl) hP hD hS hcl hsl rfl (show decode code 559 = .ok (.invokevirtual 59, 3) by decide +kernel) (fun v M1 H locs hF hP hD hS => ?_)
  obtain ⟨r, rfl, h2⟩ := hF
  refine lv_aload_n C.1 C.2.1 (show decode code 562 = .ok (.aload_n 2, 1) by decide +kernel) rfl (lv_at hl 2 rfl) ?_
  refine l_arg C hl hS hi hL 1 (by decide) (by decide) (show decode code 563 = .ok (.aload_n 0, 1) by decide +kernel) (show decode code 564 = .ok (.iload_n 3, 1) by decide +kernel) (show decode code 565 = .ok (.iconst 1, 1) by decide +kernel) (show decode code 566 = .ok (.iadd, 1) by decide +kernel) (show decode code 567 = .ok (.iaload, 1) by decide +kernel) ?_
  refine l_arg C hl hS hi hL 2 (by decide) (by decide) (show decode code 568 = .ok (.aload_n 0, 1) by decide +kernel) (show decode code 569 = .ok (.iload_n 3, 1) by decide +kernel) (show decode code 570 = .ok (.iconst 2, 1) by decide +kernel) (show decode code 571 = .ok (.iadd, 1) by decide +kernel) (show decode code 572 = .ok (.iaload, 1) by decide +kernel) ?_
  refine l_call C (a := 82) rfl wv_X10_run vl_62 vi_X10_run vs_X10_run (h2) (Nat.le_of_ble_eq_true rfl) rfl rfl hl.1 (Nat.le_of_ble_eq_true rfl) hP hD hS hcl hsl rfl (show decode code 573 = .ok (.invokevirtual 62, 3) by decide +kernel) (fun v M2 H locs hF hP hD hS => ?_)
  obtain ⟨rfl, I2⟩ := hF
  refine lv_icmp_eq (tgt := 1108) C.1 C.2.1 (show decode code 576 = .ok (.if_icmp .eq 532, 3) by decide +kernel) (by decide) (fun _ => ?_) (fun z => absurd rfl z)
  exact kk M2 H locs I2 hP hD hS
theorem lw_c11 {n : Nat} {M : g_M} (C : l_Cx p s m c b L xs D cA ξ) (hl : lv_has ls 4 [(0, .ref b), (1, .ref (μ 0)), (2, .ref (μ 82)), (3, .int (nI i))]) (hi : i + 5 ≤ L) (hL : L ≤ 320) (hn : n < 1000) (I : Inv n M) (hP : va_P D g_cls (g_wld cA μ M S0) H) (hD : va_D (fun q => s.heap.size ≤ q) (g_wld cA μ M S0)) (hS : va_S (fun q => s.heap.size ≤ q) s.heap H locs) (hcl : cells ≤ 600000) (hsl : slots ≤ 7302250)
    (kk : ∀ (M' : g_M) (H1 : Heap) (locs1 : List Loc), Inv (n + 1) M' → va_P D g_cls (g_wld cA μ M' S0) H1 → va_D (fun q => s.heap.size ≤ q) (g_wld cA μ M' S0) → va_S (fun q => s.heap.size ≤ q) s.heap H1 locs1 → W p l e room_1 s m #[Value.ref b] below meth c H1 locs1 cells slots Q (F0 m 1108 ls [])) : W p l e room_1 s m #[Value.ref b] below meth c H locs cells slots Q (F0 m 581 ls []) := by
  refine lv_aload_n C.1 C.2.1 (show decode code 581 = .ok (.aload_n 1, 1) by decide +kernel) rfl (lv_at hl 1 rfl) ?_
  refine l_arg C hl hS hi hL 1 (by decide) (by decide) (show decode code 582 = .ok (.aload_n 0, 1) by decide +kernel) (show decode code 583 = .ok (.iload_n 3, 1) by decide +kernel) (show decode code 584 = .ok (.iconst 1, 1) by decide +kernel) (show decode code 585 = .ok (.iadd, 1) by decide +kernel) (show decode code 586 = .ok (.iaload, 1) by decide +kernel) ?_
  refine l_call C (a := 0) rfl wv_X9_round vl_63 vi_X9_round vs_X9_round (p_round (d := 60) (by decide) hn I) (Nat.le_of_ble_eq_true rfl) rfl rfl hl.1 (Nat.le_of_ble_eq_true rfl) hP hD hS hcl hsl rfl (show decode code 587 = .ok (.invokevirtual 63, 3) by decide +kernel) (fun v M1 H locs hF hP hD hS => ?_)
  obtain ⟨r, rfl, h2⟩ := hF
  refine lv_aload_n C.1 C.2.1 (show decode code 590 = .ok (.aload_n 2, 1) by decide +kernel) rfl (lv_at hl 2 rfl) ?_
  refine l_arg C hl hS hi hL 1 (by decide) (by decide) (show decode code 591 = .ok (.aload_n 0, 1) by decide +kernel) (show decode code 592 = .ok (.iload_n 3, 1) by decide +kernel) (show decode code 593 = .ok (.iconst 1, 1) by decide +kernel) (show decode code 594 = .ok (.iadd, 1) by decide +kernel) (show decode code 595 = .ok (.iaload, 1) by decide +kernel) ?_
  refine l_call C (a := 82) rfl wv_X10_round vl_67 vi_X10_round vs_X10_round (h2) (Nat.le_of_ble_eq_true rfl) rfl rfl hl.1 (Nat.le_of_ble_eq_true rfl) hP hD hS hcl hsl rfl (show decode code 596 = .ok (.invokevirtual 67, 3) by decide +kernel) (fun v M2 H locs hF hP hD hS => ?_)
  obtain ⟨rfl, I2⟩ := hF
  refine lv_icmp_eq (tgt := 1108) C.1 C.2.1 (show decode code 599 = .ok (.if_icmp .eq 509, 3) by decide +kernel) (by decide) (fun _ => ?_) (fun z => absurd rfl z)
  exact kk M2 H locs I2 hP hD hS
theorem lw_c12 {n : Nat} {M : g_M} (C : l_Cx p s m c b L xs D cA ξ) (hl : lv_has ls 4 [(0, .ref b), (1, .ref (μ 0)), (2, .ref (μ 82)), (3, .int (nI i))]) (hi : i + 5 ≤ L) (hL : L ≤ 320) (hn : n < 1000) (I : Inv n M) (hP : va_P D g_cls (g_wld cA μ M S0) H) (hD : va_D (fun q => s.heap.size ≤ q) (g_wld cA μ M S0)) (hS : va_S (fun q => s.heap.size ≤ q) s.heap H locs) (hcl : cells ≤ 600000) (hsl : slots ≤ 7302250)
    (kk : ∀ (M' : g_M) (H1 : Heap) (locs1 : List Loc), Inv (n + 1) M' → va_P D g_cls (g_wld cA μ M' S0) H1 → va_D (fun q => s.heap.size ≤ q) (g_wld cA μ M' S0) → va_S (fun q => s.heap.size ≤ q) s.heap H1 locs1 → W p l e room_1 s m #[Value.ref b] below meth c H1 locs1 cells slots Q (F0 m 1108 ls [])) : W p l e room_1 s m #[Value.ref b] below meth c H locs cells slots Q (F0 m 604 ls []) := by
  refine lv_aload_n C.1 C.2.1 (show decode code 604 = .ok (.aload_n 1, 1) by decide +kernel) rfl (lv_at hl 1 rfl) ?_
  refine l_arg C hl hS hi hL 1 (by decide) (by decide) (show decode code 605 = .ok (.aload_n 0, 1) by decide +kernel) (show decode code 606 = .ok (.iload_n 3, 1) by decide +kernel) (show decode code 607 = .ok (.iconst 1, 1) by decide +kernel) (show decode code 608 = .ok (.iadd, 1) by decide +kernel) (show decode code 609 = .ok (.iaload, 1) by decide +kernel) ?_
  refine l_arg C hl hS hi hL 2 (by decide) (by decide) (show decode code 610 = .ok (.aload_n 0, 1) by decide +kernel) (show decode code 611 = .ok (.iload_n 3, 1) by decide +kernel) (show decode code 612 = .ok (.iconst 2, 1) by decide +kernel) (show decode code 613 = .ok (.iadd, 1) by decide +kernel) (show decode code 614 = .ok (.iaload, 1) by decide +kernel) ?_
  refine l_call C (a := 0) rfl wv_X9_mind vl_68 vi_X9_mind vs_X9_mind (p_mind (d := 60) (by decide) I) (Nat.le_of_ble_eq_true rfl) rfl rfl hl.1 (Nat.le_of_ble_eq_true rfl) hP hD hS hcl hsl rfl (show decode code 615 = .ok (.invokevirtual 68, 3) by decide +kernel) (fun v M1 H locs hF hP hD hS => ?_)
  obtain ⟨r, rfl, h2⟩ := hF
  refine lv_aload_n C.1 C.2.1 (show decode code 618 = .ok (.aload_n 2, 1) by decide +kernel) rfl (lv_at hl 2 rfl) ?_
  refine l_arg C hl hS hi hL 1 (by decide) (by decide) (show decode code 619 = .ok (.aload_n 0, 1) by decide +kernel) (show decode code 620 = .ok (.iload_n 3, 1) by decide +kernel) (show decode code 621 = .ok (.iconst 1, 1) by decide +kernel) (show decode code 622 = .ok (.iadd, 1) by decide +kernel) (show decode code 623 = .ok (.iaload, 1) by decide +kernel) ?_
  refine l_arg C hl hS hi hL 2 (by decide) (by decide) (show decode code 624 = .ok (.aload_n 0, 1) by decide +kernel) (show decode code 625 = .ok (.iload_n 3, 1) by decide +kernel) (show decode code 626 = .ok (.iconst 2, 1) by decide +kernel) (show decode code 627 = .ok (.iadd, 1) by decide +kernel) (show decode code 628 = .ok (.iaload, 1) by decide +kernel) ?_
  refine l_call C (a := 82) rfl wv_X10_mind vl_71 vi_X10_mind vs_X10_mind (h2) (Nat.le_of_ble_eq_true rfl) rfl rfl hl.1 (Nat.le_of_ble_eq_true rfl) hP hD hS hcl hsl rfl (show decode code 629 = .ok (.invokevirtual 71, 3) by decide +kernel) (fun v M2 H locs hF hP hD hS => ?_)
  obtain ⟨rfl, I2⟩ := hF
  refine lv_icmp_eq (tgt := 1108) C.1 C.2.1 (show decode code 632 = .ok (.if_icmp .eq 476, 3) by decide +kernel) (by decide) (fun _ => ?_) (fun z => absurd rfl z)
  exact kk M2 H locs I2 hP hD hS
theorem lw_c13 {n : Nat} {M : g_M} (C : l_Cx p s m c b L xs D cA ξ) (hl : lv_has ls 4 [(0, .ref b), (1, .ref (μ 0)), (2, .ref (μ 82)), (3, .int (nI i))]) (hi : i + 5 ≤ L) (hL : L ≤ 320) (hn : n < 1000) (I : Inv n M) (hP : va_P D g_cls (g_wld cA μ M S0) H) (hD : va_D (fun q => s.heap.size ≤ q) (g_wld cA μ M S0)) (hS : va_S (fun q => s.heap.size ≤ q) s.heap H locs) (hcl : cells ≤ 600000) (hsl : slots ≤ 7302250)
    (kk : ∀ (M' : g_M) (H1 : Heap) (locs1 : List Loc), Inv (n + 1) M' → va_P D g_cls (g_wld cA μ M' S0) H1 → va_D (fun q => s.heap.size ≤ q) (g_wld cA μ M' S0) → va_S (fun q => s.heap.size ≤ q) s.heap H1 locs1 → W p l e room_1 s m #[Value.ref b] below meth c H1 locs1 cells slots Q (F0 m 1108 ls [])) : W p l e room_1 s m #[Value.ref b] below meth c H locs cells slots Q (F0 m 637 ls []) := by
  refine lv_aload_n C.1 C.2.1 (show decode code 637 = .ok (.aload_n 1, 1) by decide +kernel) rfl (lv_at hl 1 rfl) ?_
  refine l_arg C hl hS hi hL 1 (by decide) (by decide) (show decode code 638 = .ok (.aload_n 0, 1) by decide +kernel) (show decode code 639 = .ok (.iload_n 3, 1) by decide +kernel) (show decode code 640 = .ok (.iconst 1, 1) by decide +kernel) (show decode code 641 = .ok (.iadd, 1) by decide +kernel) (show decode code 642 = .ok (.iaload, 1) by decide +kernel) ?_
  refine l_arg C hl hS hi hL 2 (by decide) (by decide) (show decode code 643 = .ok (.aload_n 0, 1) by decide +kernel) (show decode code 644 = .ok (.iload_n 3, 1) by decide +kernel) (show decode code 645 = .ok (.iconst 2, 1) by decide +kernel) (show decode code 646 = .ok (.iadd, 1) by decide +kernel) (show decode code 647 = .ok (.iaload, 1) by decide +kernel) ?_
  refine l_call C (a := 0) rfl wv_X9_of vl_72 vi_X9_of vs_X9_of (p_of (d := 60) (by decide) I hn) (Nat.le_of_ble_eq_true rfl) rfl rfl hl.1 (Nat.le_of_ble_eq_true rfl) hP hD hS hcl hsl rfl (show decode code 648 = .ok (.invokevirtual 72, 3) by decide +kernel) (fun v M1 H locs hF hP hD hS => ?_)
  obtain ⟨r, rfl, h2⟩ := hF
  refine lv_aload_n C.1 C.2.1 (show decode code 651 = .ok (.aload_n 2, 1) by decide +kernel) rfl (lv_at hl 2 rfl) ?_
  refine l_arg C hl hS hi hL 1 (by decide) (by decide) (show decode code 652 = .ok (.aload_n 0, 1) by decide +kernel) (show decode code 653 = .ok (.iload_n 3, 1) by decide +kernel) (show decode code 654 = .ok (.iconst 1, 1) by decide +kernel) (show decode code 655 = .ok (.iadd, 1) by decide +kernel) (show decode code 656 = .ok (.iaload, 1) by decide +kernel) ?_
  refine l_arg C hl hS hi hL 2 (by decide) (by decide) (show decode code 657 = .ok (.aload_n 0, 1) by decide +kernel) (show decode code 658 = .ok (.iload_n 3, 1) by decide +kernel) (show decode code 659 = .ok (.iconst 2, 1) by decide +kernel) (show decode code 660 = .ok (.iadd, 1) by decide +kernel) (show decode code 661 = .ok (.iaload, 1) by decide +kernel) ?_
  refine l_call C (a := 82) rfl wv_X10_of vl_75 vi_X10_of vs_X10_of (h2) (Nat.le_of_ble_eq_true rfl) rfl rfl hl.1 (Nat.le_of_ble_eq_true rfl) hP hD hS hcl hsl rfl (show decode code 662 = .ok (.invokevirtual 75, 3) by decide +kernel) (fun v M2 H locs hF hP hD hS => ?_)
  obtain ⟨rfl, I2⟩ := hF
  refine lv_icmp_eq (tgt := 1108) C.1 C.2.1 (show decode code 665 = .ok (.if_icmp .eq 443, 3) by decide +kernel) (by decide) (fun _ => ?_) (fun z => absurd rfl z)
  exact kk M2 H locs I2 hP hD hS
theorem lw_c14 {n : Nat} {M : g_M} (C : l_Cx p s m c b L xs D cA ξ) (hl : lv_has ls 4 [(0, .ref b), (1, .ref (μ 0)), (2, .ref (μ 82)), (3, .int (nI i))]) (hi : i + 5 ≤ L) (hL : L ≤ 320) (hn : n < 1000) (I : Inv n M) (hP : va_P D g_cls (g_wld cA μ M S0) H) (hD : va_D (fun q => s.heap.size ≤ q) (g_wld cA μ M S0)) (hS : va_S (fun q => s.heap.size ≤ q) s.heap H locs) (hcl : cells ≤ 600000) (hsl : slots ≤ 7302250)
    (kk : ∀ (M' : g_M) (H1 : Heap) (locs1 : List Loc), Inv (n + 1) M' → va_P D g_cls (g_wld cA μ M' S0) H1 → va_D (fun q => s.heap.size ≤ q) (g_wld cA μ M' S0) → va_S (fun q => s.heap.size ≤ q) s.heap H1 locs1 → W p l e room_1 s m #[Value.ref b] below meth c H1 locs1 cells slots Q (F0 m 1108 ls [])) : W p l e room_1 s m #[Value.ref b] below meth c H locs cells slots Q (F0 m 670 ls []) := by
  refine lv_aload_n C.1 C.2.1 (show decode code 670 = .ok (.aload_n 1, 1) by decide +kernel) rfl (lv_at hl 1 rfl) ?_
  refine l_arg C hl hS hi hL 1 (by decide) (by decide) (show decode code 671 = .ok (.aload_n 0, 1) by decide +kernel) (show decode code 672 = .ok (.iload_n 3, 1) by decide +kernel) (show decode code 673 = .ok (.iconst 1, 1) by decide +kernel) (show decode code 674 = .ok (.iadd, 1) by decide +kernel) (show decode code 675 = .ok (.iaload, 1) by decide +kernel) ?_
  refine l_call C (a := 0) rfl wv_X9_found vl_76 vi_X9_found vs_X9_found (p_found (d := 60) (by decide) I hn) (Nat.le_of_ble_eq_true rfl) rfl rfl hl.1 (Nat.le_of_ble_eq_true rfl) hP hD hS hcl hsl rfl (show decode code 676 = .ok (.invokevirtual 76, 3) by decide +kernel) (fun v M1 H locs hF hP hD hS => ?_)
  obtain ⟨r, rfl, h2⟩ := hF
  refine lv_aload_n C.1 C.2.1 (show decode code 679 = .ok (.aload_n 2, 1) by decide +kernel) rfl (lv_at hl 2 rfl) ?_
  refine l_arg C hl hS hi hL 1 (by decide) (by decide) (show decode code 680 = .ok (.aload_n 0, 1) by decide +kernel) (show decode code 681 = .ok (.iload_n 3, 1) by decide +kernel) (show decode code 682 = .ok (.iconst 1, 1) by decide +kernel) (show decode code 683 = .ok (.iadd, 1) by decide +kernel) (show decode code 684 = .ok (.iaload, 1) by decide +kernel) ?_
  refine l_call C (a := 82) rfl wv_X10_found vl_79 vi_X10_found vs_X10_found (h2) (Nat.le_of_ble_eq_true rfl) rfl rfl hl.1 (Nat.le_of_ble_eq_true rfl) hP hD hS hcl hsl rfl (show decode code 685 = .ok (.invokevirtual 79, 3) by decide +kernel) (fun v M2 H locs hF hP hD hS => ?_)
  obtain ⟨rfl, I2⟩ := hF
  refine lv_icmp_eq (tgt := 1108) C.1 C.2.1 (show decode code 688 = .ok (.if_icmp .eq 420, 3) by decide +kernel) (by decide) (fun _ => ?_) (fun z => absurd rfl z)
  exact kk M2 H locs I2 hP hD hS
theorem lw_c15 {n : Nat} {M : g_M} (C : l_Cx p s m c b L xs D cA ξ) (hl : lv_has ls 4 [(0, .ref b), (1, .ref (μ 0)), (2, .ref (μ 82)), (3, .int (nI i))]) (hi : i + 5 ≤ L) (hL : L ≤ 320) (hn : n < 1000) (I : Inv n M) (hP : va_P D g_cls (g_wld cA μ M S0) H) (hD : va_D (fun q => s.heap.size ≤ q) (g_wld cA μ M S0)) (hS : va_S (fun q => s.heap.size ≤ q) s.heap H locs) (hcl : cells ≤ 600000) (hsl : slots ≤ 7302250)
    (kk : ∀ (M' : g_M) (H1 : Heap) (locs1 : List Loc), Inv (n + 1) M' → va_P D g_cls (g_wld cA μ M' S0) H1 → va_D (fun q => s.heap.size ≤ q) (g_wld cA μ M' S0) → va_S (fun q => s.heap.size ≤ q) s.heap H1 locs1 → W p l e room_1 s m #[Value.ref b] below meth c H1 locs1 cells slots Q (F0 m 1108 ls [])) : W p l e room_1 s m #[Value.ref b] below meth c H locs cells slots Q (F0 m 693 ls []) := by
  refine lv_aload_n C.1 C.2.1 (show decode code 693 = .ok (.aload_n 1, 1) by decide +kernel) rfl (lv_at hl 1 rfl) ?_
  refine l_arg C hl hS hi hL 1 (by decide) (by decide) (show decode code 694 = .ok (.aload_n 0, 1) by decide +kernel) (show decode code 695 = .ok (.iload_n 3, 1) by decide +kernel) (show decode code 696 = .ok (.iconst 1, 1) by decide +kernel) (show decode code 697 = .ok (.iadd, 1) by decide +kernel) (show decode code 698 = .ok (.iaload, 1) by decide +kernel) ?_
  refine l_arg C hl hS hi hL 2 (by decide) (by decide) (show decode code 699 = .ok (.aload_n 0, 1) by decide +kernel) (show decode code 700 = .ok (.iload_n 3, 1) by decide +kernel) (show decode code 701 = .ok (.iconst 2, 1) by decide +kernel) (show decode code 702 = .ok (.iadd, 1) by decide +kernel) (show decode code 703 = .ok (.iaload, 1) by decide +kernel) ?_
  refine l_call C (a := 0) rfl wv_X9_table vl_80 vi_X9_table vs_X9_table (p_table (d := 60) (by decide) I) (Nat.le_of_ble_eq_true rfl) rfl rfl hl.1 (Nat.le_of_ble_eq_true rfl) hP hD hS hcl hsl rfl (show decode code 704 = .ok (.invokevirtual 80, 3) by decide +kernel) (fun v M1 H locs hF hP hD hS => ?_)
  obtain ⟨r, rfl, h2⟩ := hF
  refine lv_aload_n C.1 C.2.1 (show decode code 707 = .ok (.aload_n 2, 1) by decide +kernel) rfl (lv_at hl 2 rfl) ?_
  refine l_arg C hl hS hi hL 1 (by decide) (by decide) (show decode code 708 = .ok (.aload_n 0, 1) by decide +kernel) (show decode code 709 = .ok (.iload_n 3, 1) by decide +kernel) (show decode code 710 = .ok (.iconst 1, 1) by decide +kernel) (show decode code 711 = .ok (.iadd, 1) by decide +kernel) (show decode code 712 = .ok (.iaload, 1) by decide +kernel) ?_
  refine l_arg C hl hS hi hL 2 (by decide) (by decide) (show decode code 713 = .ok (.aload_n 0, 1) by decide +kernel) (show decode code 714 = .ok (.iload_n 3, 1) by decide +kernel) (show decode code 715 = .ok (.iconst 2, 1) by decide +kernel) (show decode code 716 = .ok (.iadd, 1) by decide +kernel) (show decode code 717 = .ok (.iaload, 1) by decide +kernel) ?_
  refine l_call C (a := 82) rfl wv_X10_table vl_83 vi_X10_table vs_X10_table (h2) (Nat.le_of_ble_eq_true rfl) rfl rfl hl.1 (Nat.le_of_ble_eq_true rfl) hP hD hS hcl hsl rfl (show decode code 718 = .ok (.invokevirtual 83, 3) by decide +kernel) (fun v M2 H locs hF hP hD hS => ?_)
  obtain ⟨rfl, I2⟩ := hF
  refine lv_icmp_eq (tgt := 1108) C.1 C.2.1 (show decode code 721 = .ok (.if_icmp .eq 387, 3) by decide +kernel) (by decide) (fun _ => ?_) (fun z => absurd rfl z)
  exact kk M2 H locs I2 hP hD hS
theorem lw_c16 {n : Nat} {M : g_M} (C : l_Cx p s m c b L xs D cA ξ) (hl : lv_has ls 4 [(0, .ref b), (1, .ref (μ 0)), (2, .ref (μ 82)), (3, .int (nI i))]) (hi : i + 5 ≤ L) (hL : L ≤ 320) (hn : n < 1000) (I : Inv n M) (hP : va_P D g_cls (g_wld cA μ M S0) H) (hD : va_D (fun q => s.heap.size ≤ q) (g_wld cA μ M S0)) (hS : va_S (fun q => s.heap.size ≤ q) s.heap H locs) (hcl : cells ≤ 600000) (hsl : slots ≤ 7302250)
    (kk : ∀ (M' : g_M) (H1 : Heap) (locs1 : List Loc), Inv (n + 1) M' → va_P D g_cls (g_wld cA μ M' S0) H1 → va_D (fun q => s.heap.size ≤ q) (g_wld cA μ M' S0) → va_S (fun q => s.heap.size ≤ q) s.heap H1 locs1 → W p l e room_1 s m #[Value.ref b] below meth c H1 locs1 cells slots Q (F0 m 1108 ls [])) : W p l e room_1 s m #[Value.ref b] below meth c H locs cells slots Q (F0 m 726 ls []) := by
  refine lv_aload_n C.1 C.2.1 (show decode code 726 = .ok (.aload_n 1, 1) by decide +kernel) rfl (lv_at hl 1 rfl) ?_
  refine l_call C (a := 0) rfl wv_X9_mayGo vl_84 vi_X9_mayGo vs_X9_mayGo (p_mayGo (d := 60) (by decide) I) (Nat.le_of_ble_eq_true rfl) rfl rfl hl.1 (Nat.le_of_ble_eq_true rfl) hP hD hS hcl hsl rfl (show decode code 727 = .ok (.invokevirtual 84, 3) by decide +kernel) (fun v M1 H locs hF hP hD hS => ?_)
  obtain ⟨r, rfl, h2⟩ := hF
  refine lv_aload_n C.1 C.2.1 (show decode code 730 = .ok (.aload_n 2, 1) by decide +kernel) rfl (lv_at hl 2 rfl) ?_
  refine l_call C (a := 82) rfl wv_X10_mayGo vl_87 vi_X10_mayGo vs_X10_mayGo (h2) (Nat.le_of_ble_eq_true rfl) rfl rfl hl.1 (Nat.le_of_ble_eq_true rfl) hP hD hS hcl hsl rfl (show decode code 731 = .ok (.invokevirtual 87, 3) by decide +kernel) (fun v M2 H locs hF hP hD hS => ?_)
  obtain ⟨rfl, I2⟩ := hF
  refine lv_icmp_eq (tgt := 1108) C.1 C.2.1 (show decode code 734 = .ok (.if_icmp .eq 374, 3) by decide +kernel) (by decide) (fun _ => ?_) (fun z => absurd rfl z)
  exact kk M2 H locs I2 hP hD hS
theorem lw_c17 {n : Nat} {M : g_M} (C : l_Cx p s m c b L xs D cA ξ) (hl : lv_has ls 4 [(0, .ref b), (1, .ref (μ 0)), (2, .ref (μ 82)), (3, .int (nI i))]) (hi : i + 5 ≤ L) (hL : L ≤ 320) (hn : n < 1000) (I : Inv n M) (hP : va_P D g_cls (g_wld cA μ M S0) H) (hD : va_D (fun q => s.heap.size ≤ q) (g_wld cA μ M S0)) (hS : va_S (fun q => s.heap.size ≤ q) s.heap H locs) (hcl : cells ≤ 600000) (hsl : slots ≤ 7302250)
    (kk : ∀ (M' : g_M) (H1 : Heap) (locs1 : List Loc), Inv (n + 1) M' → va_P D g_cls (g_wld cA μ M' S0) H1 → va_D (fun q => s.heap.size ≤ q) (g_wld cA μ M' S0) → va_S (fun q => s.heap.size ≤ q) s.heap H1 locs1 → W p l e room_1 s m #[Value.ref b] below meth c H1 locs1 cells slots Q (F0 m 1108 ls [])) : W p l e room_1 s m #[Value.ref b] below meth c H locs cells slots Q (F0 m 739 ls []) := by
  refine lv_aload_n C.1 C.2.1 (show decode code 739 = .ok (.aload_n 1, 1) by decide +kernel) rfl (lv_at hl 1 rfl) ?_
  refine l_call C (a := 0) rfl wv_X9_allSeen vl_88 vi_X9_allSeen vs_X9_allSeen (p_allSeen (d := 60) (by decide) I) (Nat.le_of_ble_eq_true rfl) rfl rfl hl.1 (Nat.le_of_ble_eq_true rfl) hP hD hS hcl hsl rfl (show decode code 740 = .ok (.invokevirtual 88, 3) by decide +kernel) (fun v M1 H locs hF hP hD hS => ?_)
  obtain ⟨r, rfl, h2⟩ := hF
  refine lv_aload_n C.1 C.2.1 (show decode code 743 = .ok (.aload_n 2, 1) by decide +kernel) rfl (lv_at hl 2 rfl) ?_
  refine l_call C (a := 82) rfl wv_X10_allSeen vl_91 vi_X10_allSeen vs_X10_allSeen (h2) (Nat.le_of_ble_eq_true rfl) rfl rfl hl.1 (Nat.le_of_ble_eq_true rfl) hP hD hS hcl hsl rfl (show decode code 744 = .ok (.invokevirtual 91, 3) by decide +kernel) (fun v M2 H locs hF hP hD hS => ?_)
  obtain ⟨rfl, I2⟩ := hF
  refine lv_icmp_eq (tgt := 1108) C.1 C.2.1 (show decode code 747 = .ok (.if_icmp .eq 361, 3) by decide +kernel) (by decide) (fun _ => ?_) (fun z => absurd rfl z)
  exact kk M2 H locs I2 hP hD hS
theorem lw_c18 {n : Nat} {M : g_M} (C : l_Cx p s m c b L xs D cA ξ) (hl : lv_has ls 4 [(0, .ref b), (1, .ref (μ 0)), (2, .ref (μ 82)), (3, .int (nI i))]) (hi : i + 5 ≤ L) (hL : L ≤ 320) (hn : n < 1000) (I : Inv n M) (hP : va_P D g_cls (g_wld cA μ M S0) H) (hD : va_D (fun q => s.heap.size ≤ q) (g_wld cA μ M S0)) (hS : va_S (fun q => s.heap.size ≤ q) s.heap H locs) (hcl : cells ≤ 600000) (hsl : slots ≤ 7302250)
    (kk : ∀ (M' : g_M) (H1 : Heap) (locs1 : List Loc), Inv (n + 1) M' → va_P D g_cls (g_wld cA μ M' S0) H1 → va_D (fun q => s.heap.size ≤ q) (g_wld cA μ M' S0) → va_S (fun q => s.heap.size ≤ q) s.heap H1 locs1 → W p l e room_1 s m #[Value.ref b] below meth c H1 locs1 cells slots Q (F0 m 1108 ls [])) : W p l e room_1 s m #[Value.ref b] below meth c H locs cells slots Q (F0 m 752 ls []) := by
  refine lv_aload_n C.1 C.2.1 (show decode code 752 = .ok (.aload_n 1, 1) by decide +kernel) rfl (lv_at hl 1 rfl) ?_
  refine l_call C (a := 0) rfl wv_X9_fewest vl_92 vi_X9_fewest vs_X9_fewest (p_fewest (d := 60) (by decide) I) (Nat.le_of_ble_eq_true rfl) rfl rfl hl.1 (Nat.le_of_ble_eq_true rfl) hP hD hS hcl hsl rfl (show decode code 753 = .ok (.invokevirtual 92, 3) by decide +kernel) (fun v M1 H locs hF hP hD hS => ?_)
  obtain ⟨r, rfl, h2⟩ := hF
  refine lv_aload_n C.1 C.2.1 (show decode code 756 = .ok (.aload_n 2, 1) by decide +kernel) rfl (lv_at hl 2 rfl) ?_
  refine l_call C (a := 82) rfl wv_X10_fewest vl_95 vi_X10_fewest vs_X10_fewest (h2) (Nat.le_of_ble_eq_true rfl) rfl rfl hl.1 (Nat.le_of_ble_eq_true rfl) hP hD hS hcl hsl rfl (show decode code 757 = .ok (.invokevirtual 95, 3) by decide +kernel) (fun v M2 H locs hF hP hD hS => ?_)
  obtain ⟨rfl, I2⟩ := hF
  refine lv_icmp_eq (tgt := 1108) C.1 C.2.1 (show decode code 760 = .ok (.if_icmp .eq 348, 3) by decide +kernel) (by decide) (fun _ => ?_) (fun z => absurd rfl z)
  exact kk M2 H locs I2 hP hD hS
theorem lw_c19 {n : Nat} {M : g_M} (C : l_Cx p s m c b L xs D cA ξ) (hl : lv_has ls 4 [(0, .ref b), (1, .ref (μ 0)), (2, .ref (μ 82)), (3, .int (nI i))]) (hi : i + 5 ≤ L) (hL : L ≤ 320) (hn : n < 1000) (I : Inv n M) (hP : va_P D g_cls (g_wld cA μ M S0) H) (hD : va_D (fun q => s.heap.size ≤ q) (g_wld cA μ M S0)) (hS : va_S (fun q => s.heap.size ≤ q) s.heap H locs) (hcl : cells ≤ 600000) (hsl : slots ≤ 7302250)
    (kk : ∀ (M' : g_M) (H1 : Heap) (locs1 : List Loc), Inv (n + 1) M' → va_P D g_cls (g_wld cA μ M' S0) H1 → va_D (fun q => s.heap.size ≤ q) (g_wld cA μ M' S0) → va_S (fun q => s.heap.size ≤ q) s.heap H1 locs1 → W p l e room_1 s m #[Value.ref b] below meth c H1 locs1 cells slots Q (F0 m 1108 ls [])) : W p l e room_1 s m #[Value.ref b] below meth c H locs cells slots Q (F0 m 765 ls []) := by
  refine lv_aload_n C.1 C.2.1 (show decode code 765 = .ok (.aload_n 1, 1) by decide +kernel) rfl (lv_at hl 1 rfl) ?_
  refine l_arg C hl hS hi hL 1 (by decide) (by decide) (show decode code 766 = .ok (.aload_n 0, 1) by decide +kernel) (show decode code 767 = .ok (.iload_n 3, 1) by decide +kernel) (show decode code 768 = .ok (.iconst 1, 1) by decide +kernel) (show decode code 769 = .ok (.iadd, 1) by decide +kernel) (show decode code 770 = .ok (.iaload, 1) by decide +kernel) ?_
  refine l_arg C hl hS hi hL 2 (by decide) (by decide) (show decode code 771 = .ok (.aload_n 0, 1) by decide +kernel) (show decode code 772 = .ok (.iload_n 3, 1) by decide +kernel) (show decode code 773 = .ok (.iconst 2, 1) by decide +kernel) (show decode code 774 = .ok (.iadd, 1) by decide +kernel) (show decode code 775 = .ok (.iaload, 1) by decide +kernel) ?_
  refine l_arg C hl hS hi hL 3 (by decide) (by decide) (show decode code 776 = .ok (.aload_n 0, 1) by decide +kernel) (show decode code 777 = .ok (.iload_n 3, 1) by decide +kernel) (show decode code 778 = .ok (.iconst 3, 1) by decide +kernel) (show decode code 779 = .ok (.iadd, 1) by decide +kernel) (show decode code 780 = .ok (.iaload, 1) by decide +kernel) ?_
  refine l_arg C hl hS hi hL 4 (by decide) (by decide) (show decode code 781 = .ok (.aload_n 0, 1) by decide +kernel) (show decode code 782 = .ok (.iload_n 3, 1) by decide +kernel) (show decode code 783 = .ok (.iconst 4, 1) by decide +kernel) (show decode code 784 = .ok (.iadd, 1) by decide +kernel) (show decode code 785 = .ok (.iaload, 1) by decide +kernel) ?_
  refine l_call C (a := 0) rfl wv_X9_game vl_96 vi_X9_game vs_X9_game (p_game (d := 60) (by decide) I) (Nat.le_of_ble_eq_true rfl) rfl rfl hl.1 (Nat.le_of_ble_eq_true rfl) hP hD hS hcl hsl rfl (show decode code 786 = .ok (.invokevirtual 96, 3) by decide +kernel) (fun v M1 H locs hF hP hD hS => ?_)
  obtain ⟨r, rfl, h2⟩ := hF
  refine lv_aload_n C.1 C.2.1 (show decode code 789 = .ok (.aload_n 2, 1) by decide +kernel) rfl (lv_at hl 2 rfl) ?_
  refine l_arg C hl hS hi hL 1 (by decide) (by decide) (show decode code 790 = .ok (.aload_n 0, 1) by decide +kernel) (show decode code 791 = .ok (.iload_n 3, 1) by decide +kernel) (show decode code 792 = .ok (.iconst 1, 1) by decide +kernel) (show decode code 793 = .ok (.iadd, 1) by decide +kernel) (show decode code 794 = .ok (.iaload, 1) by decide +kernel) ?_
  refine l_arg C hl hS hi hL 2 (by decide) (by decide) (show decode code 795 = .ok (.aload_n 0, 1) by decide +kernel) (show decode code 796 = .ok (.iload_n 3, 1) by decide +kernel) (show decode code 797 = .ok (.iconst 2, 1) by decide +kernel) (show decode code 798 = .ok (.iadd, 1) by decide +kernel) (show decode code 799 = .ok (.iaload, 1) by decide +kernel) ?_
  refine l_arg C hl hS hi hL 3 (by decide) (by decide) (show decode code 800 = .ok (.aload_n 0, 1) by decide +kernel) (show decode code 801 = .ok (.iload_n 3, 1) by decide +kernel) (show decode code 802 = .ok (.iconst 3, 1) by decide +kernel) (show decode code 803 = .ok (.iadd, 1) by decide +kernel) (show decode code 804 = .ok (.iaload, 1) by decide +kernel) ?_
  refine l_arg C hl hS hi hL 4 (by decide) (by decide) (show decode code 805 = .ok (.aload_n 0, 1) by decide +kernel) (show decode code 806 = .ok (.iload_n 3, 1) by decide +kernel) (show decode code 807 = .ok (.iconst 4, 1) by decide +kernel) (show decode code 808 = .ok (.iadd, 1) by decide +kernel) (show decode code 809 = .ok (.iaload, 1) by decide +kernel) ?_
  refine l_call C (a := 82) rfl wv_X10_game vl_100 vi_X10_game vs_X10_game (h2) (Nat.le_of_ble_eq_true rfl) rfl rfl hl.1 (Nat.le_of_ble_eq_true rfl) hP hD hS hcl hsl rfl (show decode code 810 = .ok (.invokevirtual 100, 3) by decide +kernel) (fun v M2 H locs hF hP hD hS => ?_)
  obtain ⟨rfl, I2⟩ := hF
  refine lv_icmp_eq (tgt := 1108) C.1 C.2.1 (show decode code 813 = .ok (.if_icmp .eq 295, 3) by decide +kernel) (by decide) (fun _ => ?_) (fun z => absurd rfl z)
  exact kk M2 H locs I2 hP hD hS
theorem lw_c20 {n : Nat} {M : g_M} (C : l_Cx p s m c b L xs D cA ξ) (hl : lv_has ls 4 [(0, .ref b), (1, .ref (μ 0)), (2, .ref (μ 82)), (3, .int (nI i))]) (hi : i + 5 ≤ L) (hL : L ≤ 320) (hn : n < 1000) (I : Inv n M) (hP : va_P D g_cls (g_wld cA μ M S0) H) (hD : va_D (fun q => s.heap.size ≤ q) (g_wld cA μ M S0)) (hS : va_S (fun q => s.heap.size ≤ q) s.heap H locs) (hcl : cells ≤ 600000) (hsl : slots ≤ 7302250)
    (kk : ∀ (M' : g_M) (H1 : Heap) (locs1 : List Loc), Inv (n + 1) M' → va_P D g_cls (g_wld cA μ M' S0) H1 → va_D (fun q => s.heap.size ≤ q) (g_wld cA μ M' S0) → va_S (fun q => s.heap.size ≤ q) s.heap H1 locs1 → W p l e room_1 s m #[Value.ref b] below meth c H1 locs1 cells slots Q (F0 m 1108 ls [])) : W p l e room_1 s m #[Value.ref b] below meth c H locs cells slots Q (F0 m 818 ls []) := by
  refine lv_aload_n C.1 C.2.1 (show decode code 818 = .ok (.aload_n 1, 1) by decide +kernel) rfl (lv_at hl 1 rfl) ?_
  refine l_arg C hl hS hi hL 1 (by decide) (by decide) (show decode code 819 = .ok (.aload_n 0, 1) by decide +kernel) (show decode code 820 = .ok (.iload_n 3, 1) by decide +kernel) (show decode code 821 = .ok (.iconst 1, 1) by decide +kernel) (show decode code 822 = .ok (.iadd, 1) by decide +kernel) (show decode code 823 = .ok (.iaload, 1) by decide +kernel) ?_
  refine l_arg C hl hS hi hL 2 (by decide) (by decide) (show decode code 824 = .ok (.aload_n 0, 1) by decide +kernel) (show decode code 825 = .ok (.iload_n 3, 1) by decide +kernel) (show decode code 826 = .ok (.iconst 2, 1) by decide +kernel) (show decode code 827 = .ok (.iadd, 1) by decide +kernel) (show decode code 828 = .ok (.iaload, 1) by decide +kernel) ?_
  refine l_arg C hl hS hi hL 3 (by decide) (by decide) (show decode code 829 = .ok (.aload_n 0, 1) by decide +kernel) (show decode code 830 = .ok (.iload_n 3, 1) by decide +kernel) (show decode code 831 = .ok (.iconst 3, 1) by decide +kernel) (show decode code 832 = .ok (.iadd, 1) by decide +kernel) (show decode code 833 = .ok (.iaload, 1) by decide +kernel) ?_
  refine l_call C (a := 0) rfl wv_X9_taken vl_101 vi_X9_taken vs_X9_taken (p_taken (d := 60) (by decide) I) (Nat.le_of_ble_eq_true rfl) rfl rfl hl.1 (Nat.le_of_ble_eq_true rfl) hP hD hS hcl hsl rfl (show decode code 834 = .ok (.invokevirtual 101, 3) by decide +kernel) (fun v M1 H locs hF hP hD hS => ?_)
  obtain ⟨r, rfl, h2⟩ := hF
  refine lv_aload_n C.1 C.2.1 (show decode code 837 = .ok (.aload_n 2, 1) by decide +kernel) rfl (lv_at hl 2 rfl) ?_
  refine l_arg C hl hS hi hL 1 (by decide) (by decide) (show decode code 838 = .ok (.aload_n 0, 1) by decide +kernel) (show decode code 839 = .ok (.iload_n 3, 1) by decide +kernel) (show decode code 840 = .ok (.iconst 1, 1) by decide +kernel) (show decode code 841 = .ok (.iadd, 1) by decide +kernel) (show decode code 842 = .ok (.iaload, 1) by decide +kernel) ?_
  refine l_arg C hl hS hi hL 2 (by decide) (by decide) (show decode code 843 = .ok (.aload_n 0, 1) by decide +kernel) (show decode code 844 = .ok (.iload_n 3, 1) by decide +kernel) (show decode code 845 = .ok (.iconst 2, 1) by decide +kernel) (show decode code 846 = .ok (.iadd, 1) by decide +kernel) (show decode code 847 = .ok (.iaload, 1) by decide +kernel) ?_
  refine l_arg C hl hS hi hL 3 (by decide) (by decide) (show decode code 848 = .ok (.aload_n 0, 1) by decide +kernel) (show decode code 849 = .ok (.iload_n 3, 1) by decide +kernel) (show decode code 850 = .ok (.iconst 3, 1) by decide +kernel) (show decode code 851 = .ok (.iadd, 1) by decide +kernel) (show decode code 852 = .ok (.iaload, 1) by decide +kernel) ?_
  refine l_call C (a := 82) rfl wv_X10_taken vl_104 vi_X10_taken vs_X10_taken (h2) (Nat.le_of_ble_eq_true rfl) rfl rfl hl.1 (Nat.le_of_ble_eq_true rfl) hP hD hS hcl hsl rfl (show decode code 853 = .ok (.invokevirtual 104, 3) by decide +kernel) (fun v M2 H locs hF hP hD hS => ?_)
  obtain ⟨rfl, I2⟩ := hF
  refine lv_icmp_eq (tgt := 1108) C.1 C.2.1 (show decode code 856 = .ok (.if_icmp .eq 252, 3) by decide +kernel) (by decide) (fun _ => ?_) (fun z => absurd rfl z)
  exact kk M2 H locs I2 hP hD hS
theorem lw_c21 {n : Nat} {M : g_M} (C : l_Cx p s m c b L xs D cA ξ) (hl : lv_has ls 4 [(0, .ref b), (1, .ref (μ 0)), (2, .ref (μ 82)), (3, .int (nI i))]) (hi : i + 5 ≤ L) (hL : L ≤ 320) (hn : n < 1000) (I : Inv n M) (hP : va_P D g_cls (g_wld cA μ M S0) H) (hD : va_D (fun q => s.heap.size ≤ q) (g_wld cA μ M S0)) (hS : va_S (fun q => s.heap.size ≤ q) s.heap H locs) (hcl : cells ≤ 600000) (hsl : slots ≤ 7302250)
    (kk : ∀ (M' : g_M) (H1 : Heap) (locs1 : List Loc), Inv (n + 1) M' → va_P D g_cls (g_wld cA μ M' S0) H1 → va_D (fun q => s.heap.size ≤ q) (g_wld cA μ M' S0) → va_S (fun q => s.heap.size ≤ q) s.heap H1 locs1 → W p l e room_1 s m #[Value.ref b] below meth c H1 locs1 cells slots Q (F0 m 1108 ls [])) : W p l e room_1 s m #[Value.ref b] below meth c H locs cells slots Q (F0 m 861 ls []) := by
  refine lv_aload_n C.1 C.2.1 (show decode code 861 = .ok (.aload_n 1, 1) by decide +kernel) rfl (lv_at hl 1 rfl) ?_
  refine l_arg C hl hS hi hL 1 (by decide) (by decide) (show decode code 862 = .ok (.aload_n 0, 1) by decide +kernel) (show decode code 863 = .ok (.iload_n 3, 1) by decide +kernel) (show decode code 864 = .ok (.iconst 1, 1) by decide +kernel) (show decode code 865 = .ok (.iadd, 1) by decide +kernel) (show decode code 866 = .ok (.iaload, 1) by decide +kernel) ?_
  refine l_arg C hl hS hi hL 2 (by decide) (by decide) (show decode code 867 = .ok (.aload_n 0, 1) by decide +kernel) (show decode code 868 = .ok (.iload_n 3, 1) by decide +kernel) (show decode code 869 = .ok (.iconst 2, 1) by decide +kernel) (show decode code 870 = .ok (.iadd, 1) by decide +kernel) (show decode code 871 = .ok (.iaload, 1) by decide +kernel) ?_
  refine l_call C (a := 0) rfl wv_X9_summer vl_105 vi_X9_summer vs_X9_summer (p_summer (d := 60) (by decide) I) (Nat.le_of_ble_eq_true rfl) rfl rfl hl.1 (Nat.le_of_ble_eq_true rfl) hP hD hS hcl hsl rfl (show decode code 872 = .ok (.invokevirtual 105, 3) by decide +kernel) (fun v M1 H locs hF hP hD hS => ?_)
  obtain ⟨r, rfl, h2⟩ := hF
  refine lv_aload_n C.1 C.2.1 (show decode code 875 = .ok (.aload_n 2, 1) by decide +kernel) rfl (lv_at hl 2 rfl) ?_
  refine l_arg C hl hS hi hL 1 (by decide) (by decide) (show decode code 876 = .ok (.aload_n 0, 1) by decide +kernel) (show decode code 877 = .ok (.iload_n 3, 1) by decide +kernel) (show decode code 878 = .ok (.iconst 1, 1) by decide +kernel) (show decode code 879 = .ok (.iadd, 1) by decide +kernel) (show decode code 880 = .ok (.iaload, 1) by decide +kernel) ?_
  refine l_arg C hl hS hi hL 2 (by decide) (by decide) (show decode code 881 = .ok (.aload_n 0, 1) by decide +kernel) (show decode code 882 = .ok (.iload_n 3, 1) by decide +kernel) (show decode code 883 = .ok (.iconst 2, 1) by decide +kernel) (show decode code 884 = .ok (.iadd, 1) by decide +kernel) (show decode code 885 = .ok (.iaload, 1) by decide +kernel) ?_
  refine l_call C (a := 82) rfl wv_X10_summer vl_108 vi_X10_summer vs_X10_summer (h2) (Nat.le_of_ble_eq_true rfl) rfl rfl hl.1 (Nat.le_of_ble_eq_true rfl) hP hD hS hcl hsl rfl (show decode code 886 = .ok (.invokevirtual 108, 3) by decide +kernel) (fun v M2 H locs hF hP hD hS => ?_)
  obtain ⟨rfl, I2⟩ := hF
  refine lv_icmp_eq (tgt := 1108) C.1 C.2.1 (show decode code 889 = .ok (.if_icmp .eq 219, 3) by decide +kernel) (by decide) (fun _ => ?_) (fun z => absurd rfl z)
  exact kk M2 H locs I2 hP hD hS
theorem lw_c22 {n : Nat} {M : g_M} (C : l_Cx p s m c b L xs D cA ξ) (hl : lv_has ls 4 [(0, .ref b), (1, .ref (μ 0)), (2, .ref (μ 82)), (3, .int (nI i))]) (hi : i + 5 ≤ L) (hL : L ≤ 320) (hn : n < 1000) (I : Inv n M) (hP : va_P D g_cls (g_wld cA μ M S0) H) (hD : va_D (fun q => s.heap.size ≤ q) (g_wld cA μ M S0)) (hS : va_S (fun q => s.heap.size ≤ q) s.heap H locs) (hcl : cells ≤ 600000) (hsl : slots ≤ 7302250)
    (kk : ∀ (M' : g_M) (H1 : Heap) (locs1 : List Loc), Inv (n + 1) M' → va_P D g_cls (g_wld cA μ M' S0) H1 → va_D (fun q => s.heap.size ≤ q) (g_wld cA μ M' S0) → va_S (fun q => s.heap.size ≤ q) s.heap H1 locs1 → W p l e room_1 s m #[Value.ref b] below meth c H1 locs1 cells slots Q (F0 m 1108 ls [])) : W p l e room_1 s m #[Value.ref b] below meth c H locs cells slots Q (F0 m 894 ls []) := by
  refine lv_aload_n C.1 C.2.1 (show decode code 894 = .ok (.aload_n 1, 1) by decide +kernel) rfl (lv_at hl 1 rfl) ?_
  refine l_arg C hl hS hi hL 1 (by decide) (by decide) (show decode code 895 = .ok (.aload_n 0, 1) by decide +kernel) (show decode code 896 = .ok (.iload_n 3, 1) by decide +kernel) (show decode code 897 = .ok (.iconst 1, 1) by decide +kernel) (show decode code 898 = .ok (.iadd, 1) by decide +kernel) (show decode code 899 = .ok (.iaload, 1) by decide +kernel) ?_
  refine l_arg C hl hS hi hL 2 (by decide) (by decide) (show decode code 900 = .ok (.aload_n 0, 1) by decide +kernel) (show decode code 901 = .ok (.iload_n 3, 1) by decide +kernel) (show decode code 902 = .ok (.iconst 2, 1) by decide +kernel) (show decode code 903 = .ok (.iadd, 1) by decide +kernel) (show decode code 904 = .ok (.iaload, 1) by decide +kernel) ?_
  refine l_arg C hl hS hi hL 3 (by decide) (by decide) (show decode code 905 = .ok (.aload_n 0, 1) by decide +kernel) (show decode code 906 = .ok (.iload_n 3, 1) by decide +kernel) (show decode code 907 = .ok (.iconst 3, 1) by decide +kernel) (show decode code 908 = .ok (.iadd, 1) by decide +kernel) (show decode code 909 = .ok (.iaload, 1) by decide +kernel) ?_
  refine l_call C (a := 0) rfl wv_X9_odds vl_109 vi_X9_odds vs_X9_odds (p_odds (d := 60) (by decide) I) (Nat.le_of_ble_eq_true rfl) rfl rfl hl.1 (Nat.le_of_ble_eq_true rfl) hP hD hS hcl hsl rfl (show decode code 910 = .ok (.invokevirtual 109, 3) by decide +kernel) (fun v M1 H locs hF hP hD hS => ?_)
  obtain ⟨r, rfl, h2⟩ := hF
  refine lv_aload_n C.1 C.2.1 (show decode code 913 = .ok (.aload_n 2, 1) by decide +kernel) rfl (lv_at hl 2 rfl) ?_
  refine l_arg C hl hS hi hL 1 (by decide) (by decide) (show decode code 914 = .ok (.aload_n 0, 1) by decide +kernel) (show decode code 915 = .ok (.iload_n 3, 1) by decide +kernel) (show decode code 916 = .ok (.iconst 1, 1) by decide +kernel) (show decode code 917 = .ok (.iadd, 1) by decide +kernel) (show decode code 918 = .ok (.iaload, 1) by decide +kernel) ?_
  refine l_arg C hl hS hi hL 2 (by decide) (by decide) (show decode code 919 = .ok (.aload_n 0, 1) by decide +kernel) (show decode code 920 = .ok (.iload_n 3, 1) by decide +kernel) (show decode code 921 = .ok (.iconst 2, 1) by decide +kernel) (show decode code 922 = .ok (.iadd, 1) by decide +kernel) (show decode code 923 = .ok (.iaload, 1) by decide +kernel) ?_
  refine l_arg C hl hS hi hL 3 (by decide) (by decide) (show decode code 924 = .ok (.aload_n 0, 1) by decide +kernel) (show decode code 925 = .ok (.iload_n 3, 1) by decide +kernel) (show decode code 926 = .ok (.iconst 3, 1) by decide +kernel) (show decode code 927 = .ok (.iadd, 1) by decide +kernel) (show decode code 928 = .ok (.iaload, 1) by decide +kernel) ?_
  refine l_call C (a := 82) rfl wv_X10_odds vl_112 vi_X10_odds vs_X10_odds (h2) (Nat.le_of_ble_eq_true rfl) rfl rfl hl.1 (Nat.le_of_ble_eq_true rfl) hP hD hS hcl hsl rfl (show decode code 929 = .ok (.invokevirtual 112, 3) by decide +kernel) (fun v M2 H locs hF hP hD hS => ?_)
  obtain ⟨rfl, I2⟩ := hF
  refine lv_icmp_eq (tgt := 1108) C.1 C.2.1 (show decode code 932 = .ok (.if_icmp .eq 176, 3) by decide +kernel) (by decide) (fun _ => ?_) (fun z => absurd rfl z)
  exact kk M2 H locs I2 hP hD hS
theorem lw_c23 {n : Nat} {M : g_M} (C : l_Cx p s m c b L xs D cA ξ) (hl : lv_has ls 4 [(0, .ref b), (1, .ref (μ 0)), (2, .ref (μ 82)), (3, .int (nI i))]) (hi : i + 5 ≤ L) (hL : L ≤ 320) (hn : n < 1000) (I : Inv n M) (hP : va_P D g_cls (g_wld cA μ M S0) H) (hD : va_D (fun q => s.heap.size ≤ q) (g_wld cA μ M S0)) (hS : va_S (fun q => s.heap.size ≤ q) s.heap H locs) (hcl : cells ≤ 600000) (hsl : slots ≤ 7302250)
    (kk : ∀ (M' : g_M) (H1 : Heap) (locs1 : List Loc), Inv (n + 1) M' → va_P D g_cls (g_wld cA μ M' S0) H1 → va_D (fun q => s.heap.size ≤ q) (g_wld cA μ M' S0) → va_S (fun q => s.heap.size ≤ q) s.heap H1 locs1 → W p l e room_1 s m #[Value.ref b] below meth c H1 locs1 cells slots Q (F0 m 1108 ls [])) : W p l e room_1 s m #[Value.ref b] below meth c H locs cells slots Q (F0 m 937 ls []) := by
  refine lv_aload_n C.1 C.2.1 (show decode code 937 = .ok (.aload_n 1, 1) by decide +kernel) rfl (lv_at hl 1 rfl) ?_
  refine l_arg C hl hS hi hL 1 (by decide) (by decide) (show decode code 938 = .ok (.aload_n 0, 1) by decide +kernel) (show decode code 939 = .ok (.iload_n 3, 1) by decide +kernel) (show decode code 940 = .ok (.iconst 1, 1) by decide +kernel) (show decode code 941 = .ok (.iadd, 1) by decide +kernel) (show decode code 942 = .ok (.iaload, 1) by decide +kernel) ?_
  refine l_arg C hl hS hi hL 2 (by decide) (by decide) (show decode code 943 = .ok (.aload_n 0, 1) by decide +kernel) (show decode code 944 = .ok (.iload_n 3, 1) by decide +kernel) (show decode code 945 = .ok (.iconst 2, 1) by decide +kernel) (show decode code 946 = .ok (.iadd, 1) by decide +kernel) (show decode code 947 = .ok (.iaload, 1) by decide +kernel) ?_
  refine l_arg C hl hS hi hL 3 (by decide) (by decide) (show decode code 948 = .ok (.aload_n 0, 1) by decide +kernel) (show decode code 949 = .ok (.iload_n 3, 1) by decide +kernel) (show decode code 950 = .ok (.iconst 3, 1) by decide +kernel) (show decode code 951 = .ok (.iadd, 1) by decide +kernel) (show decode code 952 = .ok (.iaload, 1) by decide +kernel) ?_
  refine l_arg C hl hS hi hL 4 (by decide) (by decide) (show decode code 953 = .ok (.aload_n 0, 1) by decide +kernel) (show decode code 954 = .ok (.iload_n 3, 1) by decide +kernel) (show decode code 955 = .ok (.iconst 4, 1) by decide +kernel) (show decode code 956 = .ok (.iadd, 1) by decide +kernel) (show decode code 957 = .ok (.iaload, 1) by decide +kernel) ?_
  refine l_call C (a := 0) rfl wv_X9_bestOrder vl_113 vi_X9_bestOrder vs_X9_bestOrder (p_bestOrder (d := 60) (by decide) I) (Nat.le_of_ble_eq_true rfl) rfl rfl hl.1 (Nat.le_of_ble_eq_true rfl) hP hD hS hcl hsl rfl (show decode code 958 = .ok (.invokevirtual 113, 3) by decide +kernel) (fun v M1 H locs hF hP hD hS => ?_)
  obtain ⟨r, rfl, h2⟩ := hF
  refine lv_aload_n C.1 C.2.1 (show decode code 961 = .ok (.aload_n 2, 1) by decide +kernel) rfl (lv_at hl 2 rfl) ?_
  refine l_arg C hl hS hi hL 1 (by decide) (by decide) (show decode code 962 = .ok (.aload_n 0, 1) by decide +kernel) (show decode code 963 = .ok (.iload_n 3, 1) by decide +kernel) (show decode code 964 = .ok (.iconst 1, 1) by decide +kernel) (show decode code 965 = .ok (.iadd, 1) by decide +kernel) (show decode code 966 = .ok (.iaload, 1) by decide +kernel) ?_
  refine l_arg C hl hS hi hL 2 (by decide) (by decide) (show decode code 967 = .ok (.aload_n 0, 1) by decide +kernel) (show decode code 968 = .ok (.iload_n 3, 1) by decide +kernel) (show decode code 969 = .ok (.iconst 2, 1) by decide +kernel) (show decode code 970 = .ok (.iadd, 1) by decide +kernel) (show decode code 971 = .ok (.iaload, 1) by decide +kernel) ?_
  refine l_arg C hl hS hi hL 3 (by decide) (by decide) (show decode code 972 = .ok (.aload_n 0, 1) by decide +kernel) (show decode code 973 = .ok (.iload_n 3, 1) by decide +kernel) (show decode code 974 = .ok (.iconst 3, 1) by decide +kernel) (show decode code 975 = .ok (.iadd, 1) by decide +kernel) (show decode code 976 = .ok (.iaload, 1) by decide +kernel) ?_
  refine l_arg C hl hS hi hL 4 (by decide) (by decide) (show decode code 977 = .ok (.aload_n 0, 1) by decide +kernel) (show decode code 978 = .ok (.iload_n 3, 1) by decide +kernel) (show decode code 979 = .ok (.iconst 4, 1) by decide +kernel) (show decode code 980 = .ok (.iadd, 1) by decide +kernel) (show decode code 981 = .ok (.iaload, 1) by decide +kernel) ?_
  refine l_call C (a := 82) rfl wv_X10_bestOrder vl_116 vi_X10_bestOrder vs_X10_bestOrder (h2) (Nat.le_of_ble_eq_true rfl) rfl rfl hl.1 (Nat.le_of_ble_eq_true rfl) hP hD hS hcl hsl rfl (show decode code 982 = .ok (.invokevirtual 116, 3) by decide +kernel) (fun v M2 H locs hF hP hD hS => ?_)
  obtain ⟨rfl, I2⟩ := hF
  refine lv_icmp_eq (tgt := 1108) C.1 C.2.1 (show decode code 985 = .ok (.if_icmp .eq 123, 3) by decide +kernel) (by decide) (fun _ => ?_) (fun z => absurd rfl z)
  exact kk M2 H locs I2 hP hD hS
theorem lw_c24 {n : Nat} {M : g_M} (C : l_Cx p s m c b L xs D cA ξ) (hl : lv_has ls 4 [(0, .ref b), (1, .ref (μ 0)), (2, .ref (μ 82)), (3, .int (nI i))]) (hi : i + 5 ≤ L) (hL : L ≤ 320) (hn : n < 1000) (I : Inv n M) (hP : va_P D g_cls (g_wld cA μ M S0) H) (hD : va_D (fun q => s.heap.size ≤ q) (g_wld cA μ M S0)) (hS : va_S (fun q => s.heap.size ≤ q) s.heap H locs) (hcl : cells ≤ 600000) (hsl : slots ≤ 7302250)
    (kk : ∀ (M' : g_M) (H1 : Heap) (locs1 : List Loc), Inv (n + 1) M' → va_P D g_cls (g_wld cA μ M' S0) H1 → va_D (fun q => s.heap.size ≤ q) (g_wld cA μ M' S0) → va_S (fun q => s.heap.size ≤ q) s.heap H1 locs1 → W p l e room_1 s m #[Value.ref b] below meth c H1 locs1 cells slots Q (F0 m 1108 ls [])) : W p l e room_1 s m #[Value.ref b] below meth c H locs cells slots Q (F0 m 990 ls []) := by
  refine lv_aload_n C.1 C.2.1 (show decode code 990 = .ok (.aload_n 1, 1) by decide +kernel) rfl (lv_at hl 1 rfl) ?_
  refine l_arg C hl hS hi hL 1 (by decide) (by decide) (show decode code 991 = .ok (.aload_n 0, 1) by decide +kernel) (show decode code 992 = .ok (.iload_n 3, 1) by decide +kernel) (show decode code 993 = .ok (.iconst 1, 1) by decide +kernel) (show decode code 994 = .ok (.iadd, 1) by decide +kernel) (show decode code 995 = .ok (.iaload, 1) by decide +kernel) ?_
  refine l_arg C hl hS hi hL 2 (by decide) (by decide) (show decode code 996 = .ok (.aload_n 0, 1) by decide +kernel) (show decode code 997 = .ok (.iload_n 3, 1) by decide +kernel) (show decode code 998 = .ok (.iconst 2, 1) by decide +kernel) (show decode code 999 = .ok (.iadd, 1) by decide +kernel) (show decode code 1000 = .ok (.iaload, 1) by decide +kernel) ?_
  refine l_call C (a := 0) rfl wv_X9_bestRule vl_117 vi_X9_bestRule vs_X9_bestRule (p_bestRule (d := 60) (by decide) I) (Nat.le_of_ble_eq_true rfl) rfl rfl hl.1 (Nat.le_of_ble_eq_true rfl) hP hD hS hcl hsl rfl (show decode code 1001 = .ok (.invokevirtual 117, 3) by decide +kernel) (fun v M1 H locs hF hP hD hS => ?_)
  obtain ⟨r, rfl, h2⟩ := hF
  refine lv_aload_n C.1 C.2.1 (show decode code 1004 = .ok (.aload_n 2, 1) by decide +kernel) rfl (lv_at hl 2 rfl) ?_
  refine l_arg C hl hS hi hL 1 (by decide) (by decide) (show decode code 1005 = .ok (.aload_n 0, 1) by decide +kernel) (show decode code 1006 = .ok (.iload_n 3, 1) by decide +kernel) (show decode code 1007 = .ok (.iconst 1, 1) by decide +kernel) (show decode code 1008 = .ok (.iadd, 1) by decide +kernel) (show decode code 1009 = .ok (.iaload, 1) by decide +kernel) ?_
  refine l_arg C hl hS hi hL 2 (by decide) (by decide) (show decode code 1010 = .ok (.aload_n 0, 1) by decide +kernel) (show decode code 1011 = .ok (.iload_n 3, 1) by decide +kernel) (show decode code 1012 = .ok (.iconst 2, 1) by decide +kernel) (show decode code 1013 = .ok (.iadd, 1) by decide +kernel) (show decode code 1014 = .ok (.iaload, 1) by decide +kernel) ?_
  refine l_call C (a := 82) rfl wv_X10_bestRule vl_120 vi_X10_bestRule vs_X10_bestRule (h2) (Nat.le_of_ble_eq_true rfl) rfl rfl hl.1 (Nat.le_of_ble_eq_true rfl) hP hD hS hcl hsl rfl (show decode code 1015 = .ok (.invokevirtual 120, 3) by decide +kernel) (fun v M2 H locs hF hP hD hS => ?_)
  obtain ⟨rfl, I2⟩ := hF
  refine lv_icmp_eq (tgt := 1108) C.1 C.2.1 (show decode code 1018 = .ok (.if_icmp .eq 90, 3) by decide +kernel) (by decide) (fun _ => ?_) (fun z => absurd rfl z)
  exact kk M2 H locs I2 hP hD hS
theorem lw_c25 {n : Nat} {M : g_M} (C : l_Cx p s m c b L xs D cA ξ) (hl : lv_has ls 4 [(0, .ref b), (1, .ref (μ 0)), (2, .ref (μ 82)), (3, .int (nI i))]) (hi : i + 5 ≤ L) (hL : L ≤ 320) (hn : n < 1000) (I : Inv n M) (hP : va_P D g_cls (g_wld cA μ M S0) H) (hD : va_D (fun q => s.heap.size ≤ q) (g_wld cA μ M S0)) (hS : va_S (fun q => s.heap.size ≤ q) s.heap H locs) (hcl : cells ≤ 600000) (hsl : slots ≤ 7302250)
    (kk : ∀ (M' : g_M) (H1 : Heap) (locs1 : List Loc), Inv (n + 1) M' → va_P D g_cls (g_wld cA μ M' S0) H1 → va_D (fun q => s.heap.size ≤ q) (g_wld cA μ M' S0) → va_S (fun q => s.heap.size ≤ q) s.heap H1 locs1 → W p l e room_1 s m #[Value.ref b] below meth c H1 locs1 cells slots Q (F0 m 1108 ls [])) : W p l e room_1 s m #[Value.ref b] below meth c H locs cells slots Q (F0 m 1023 ls []) := by
  refine lv_aload_n C.1 C.2.1 (show decode code 1023 = .ok (.aload_n 1, 1) by decide +kernel) rfl (lv_at hl 1 rfl) ?_
  refine l_arg C hl hS hi hL 1 (by decide) (by decide) (show decode code 1024 = .ok (.aload_n 0, 1) by decide +kernel) (show decode code 1025 = .ok (.iload_n 3, 1) by decide +kernel) (show decode code 1026 = .ok (.iconst 1, 1) by decide +kernel) (show decode code 1027 = .ok (.iadd, 1) by decide +kernel) (show decode code 1028 = .ok (.iaload, 1) by decide +kernel) ?_
  refine l_call C (a := 0) rfl wv_X9_row vl_121 vi_X9_row vs_X9_row (p_row (d := 60) (by decide) I) (Nat.le_of_ble_eq_true rfl) rfl rfl hl.1 (Nat.le_of_ble_eq_true rfl) hP hD hS hcl hsl rfl (show decode code 1029 = .ok (.invokevirtual 121, 3) by decide +kernel) (fun v M1 H locs hF hP hD hS => ?_)
  obtain ⟨r, rfl, h2⟩ := hF
  refine lv_aload_n C.1 C.2.1 (show decode code 1032 = .ok (.aload_n 2, 1) by decide +kernel) rfl (lv_at hl 2 rfl) ?_
  refine l_arg C hl hS hi hL 1 (by decide) (by decide) (show decode code 1033 = .ok (.aload_n 0, 1) by decide +kernel) (show decode code 1034 = .ok (.iload_n 3, 1) by decide +kernel) (show decode code 1035 = .ok (.iconst 1, 1) by decide +kernel) (show decode code 1036 = .ok (.iadd, 1) by decide +kernel) (show decode code 1037 = .ok (.iaload, 1) by decide +kernel) ?_
  refine l_call C (a := 82) rfl wv_X10_row vl_124 vi_X10_row vs_X10_row (h2) (Nat.le_of_ble_eq_true rfl) rfl rfl hl.1 (Nat.le_of_ble_eq_true rfl) hP hD hS hcl hsl rfl (show decode code 1038 = .ok (.invokevirtual 124, 3) by decide +kernel) (fun v M2 H locs hF hP hD hS => ?_)
  obtain ⟨rfl, I2⟩ := hF
  refine lv_icmp_eq (tgt := 1108) C.1 C.2.1 (show decode code 1041 = .ok (.if_icmp .eq 67, 3) by decide +kernel) (by decide) (fun _ => ?_) (fun z => absurd rfl z)
  exact kk M2 H locs I2 hP hD hS
theorem lw_c26 {n : Nat} {M : g_M} (C : l_Cx p s m c b L xs D cA ξ) (hl : lv_has ls 4 [(0, .ref b), (1, .ref (μ 0)), (2, .ref (μ 82)), (3, .int (nI i))]) (hi : i + 5 ≤ L) (hL : L ≤ 320) (hn : n < 1000) (I : Inv n M) (hP : va_P D g_cls (g_wld cA μ M S0) H) (hD : va_D (fun q => s.heap.size ≤ q) (g_wld cA μ M S0)) (hS : va_S (fun q => s.heap.size ≤ q) s.heap H locs) (hcl : cells ≤ 600000) (hsl : slots ≤ 7302250)
    (kk : ∀ (M' : g_M) (H1 : Heap) (locs1 : List Loc), Inv (n + 1) M' → va_P D g_cls (g_wld cA μ M' S0) H1 → va_D (fun q => s.heap.size ≤ q) (g_wld cA μ M' S0) → va_S (fun q => s.heap.size ≤ q) s.heap H1 locs1 → W p l e room_1 s m #[Value.ref b] below meth c H1 locs1 cells slots Q (F0 m 1108 ls [])) : W p l e room_1 s m #[Value.ref b] below meth c H locs cells slots Q (F0 m 1046 ls []) := by
  refine lv_aload_n C.1 C.2.1 (show decode code 1046 = .ok (.aload_n 1, 1) by decide +kernel) rfl (lv_at hl 1 rfl) ?_
  refine l_call C (a := 0) rfl wv_X9_judge vl_125 vi_X9_judge vs_X9_judge (p_judge (d := 60) (by decide) I hn) (Nat.le_of_ble_eq_true rfl) rfl rfl hl.1 (Nat.le_of_ble_eq_true rfl) hP hD hS hcl hsl rfl (show decode code 1047 = .ok (.invokevirtual 125, 3) by decide +kernel) (fun v M1 H locs hF hP hD hS => ?_)
  obtain ⟨r, rfl, h2⟩ := hF
  refine lv_aload_n C.1 C.2.1 (show decode code 1050 = .ok (.aload_n 2, 1) by decide +kernel) rfl (lv_at hl 2 rfl) ?_
  refine l_call C (a := 82) rfl wv_X10_judge vl_128 vi_X10_judge vs_X10_judge (h2) (Nat.le_of_ble_eq_true rfl) rfl rfl hl.1 (Nat.le_of_ble_eq_true rfl) hP hD hS hcl hsl rfl (show decode code 1051 = .ok (.invokevirtual 128, 3) by decide +kernel) (fun v M2 H locs hF hP hD hS => ?_)
  obtain ⟨rfl, I2⟩ := hF
  refine lv_icmp_eq (tgt := 1108) C.1 C.2.1 (show decode code 1054 = .ok (.if_icmp .eq 54, 3) by decide +kernel) (by decide) (fun _ => ?_) (fun z => absurd rfl z)
  exact kk M2 H locs I2 hP hD hS
theorem lw_c27 {n : Nat} {M : g_M} (C : l_Cx p s m c b L xs D cA ξ) (hl : lv_has ls 4 [(0, .ref b), (1, .ref (μ 0)), (2, .ref (μ 82)), (3, .int (nI i))]) (hi : i + 5 ≤ L) (hL : L ≤ 320) (hn : n < 1000) (I : Inv n M) (hP : va_P D g_cls (g_wld cA μ M S0) H) (hD : va_D (fun q => s.heap.size ≤ q) (g_wld cA μ M S0)) (hS : va_S (fun q => s.heap.size ≤ q) s.heap H locs) (hcl : cells ≤ 600000) (hsl : slots ≤ 7302250)
    (kk : ∀ (M' : g_M) (H1 : Heap) (locs1 : List Loc), Inv (n + 1) M' → va_P D g_cls (g_wld cA μ M' S0) H1 → va_D (fun q => s.heap.size ≤ q) (g_wld cA μ M' S0) → va_S (fun q => s.heap.size ≤ q) s.heap H1 locs1 → W p l e room_1 s m #[Value.ref b] below meth c H1 locs1 cells slots Q (F0 m 1108 ls [])) : W p l e room_1 s m #[Value.ref b] below meth c H locs cells slots Q (F0 m 1059 ls []) := by
  refine lv_aload_n C.1 C.2.1 (show decode code 1059 = .ok (.aload_n 1, 1) by decide +kernel) rfl (lv_at hl 1 rfl) ?_
  refine l_call C (a := 0) rfl wv_X9_image vl_129 vi_X9_image vs_X9_image (p_image (d := 60) (by decide) I) (Nat.le_of_ble_eq_true rfl) rfl rfl hl.1 (Nat.le_of_ble_eq_true rfl) hP hD hS hcl hsl rfl (show decode code 1060 = .ok (.invokevirtual 129, 3) by decide +kernel) (fun v M1 H locs hF hP hD hS => ?_)
  obtain ⟨r, rfl, h2⟩ := hF
  refine lv_aload_n C.1 C.2.1 (show decode code 1063 = .ok (.aload_n 2, 1) by decide +kernel) rfl (lv_at hl 2 rfl) ?_
  refine l_call C (a := 82) rfl wv_X10_image vl_132 vi_X10_image vs_X10_image (h2) (Nat.le_of_ble_eq_true rfl) rfl rfl hl.1 (Nat.le_of_ble_eq_true rfl) hP hD hS hcl hsl rfl (show decode code 1064 = .ok (.invokevirtual 132, 3) by decide +kernel) (fun v M2 H locs hF hP hD hS => ?_)
  obtain ⟨rfl, I2⟩ := hF
  refine lv_icmp_eq (tgt := 1108) C.1 C.2.1 (show decode code 1067 = .ok (.if_icmp .eq 41, 3) by decide +kernel) (by decide) (fun _ => ?_) (fun z => absurd rfl z)
  exact kk M2 H locs I2 hP hD hS
theorem lw_c28 {n : Nat} {M : g_M} (C : l_Cx p s m c b L xs D cA ξ) (hl : lv_has ls 4 [(0, .ref b), (1, .ref (μ 0)), (2, .ref (μ 82)), (3, .int (nI i))]) (hi : i + 5 ≤ L) (hL : L ≤ 320) (hn : n < 1000) (I : Inv n M) (hP : va_P D g_cls (g_wld cA μ M S0) H) (hD : va_D (fun q => s.heap.size ≤ q) (g_wld cA μ M S0)) (hS : va_S (fun q => s.heap.size ≤ q) s.heap H locs) (hcl : cells ≤ 600000) (hsl : slots ≤ 7302250)
    (kk : ∀ (M' : g_M) (H1 : Heap) (locs1 : List Loc), Inv (n + 1) M' → va_P D g_cls (g_wld cA μ M' S0) H1 → va_D (fun q => s.heap.size ≤ q) (g_wld cA μ M' S0) → va_S (fun q => s.heap.size ≤ q) s.heap H1 locs1 → W p l e room_1 s m #[Value.ref b] below meth c H1 locs1 cells slots Q (F0 m 1108 ls [])) : W p l e room_1 s m #[Value.ref b] below meth c H locs cells slots Q (F0 m 1072 ls []) := by
  refine lv_aload_n C.1 C.2.1 (show decode code 1072 = .ok (.aload_n 1, 1) by decide +kernel) rfl (lv_at hl 1 rfl) ?_
  refine l_call C (a := 0) rfl wv_X9_on vl_133 vi_X9_on vs_X9_on (p_on (d := 60) (by decide) I) (Nat.le_of_ble_eq_true rfl) rfl rfl hl.1 (Nat.le_of_ble_eq_true rfl) hP hD hS hcl hsl rfl (show decode code 1073 = .ok (.invokevirtual 133, 3) by decide +kernel) (fun v M1 H locs hF hP hD hS => ?_)
  obtain ⟨r, rfl, h2⟩ := hF
  refine lv_aload_n C.1 C.2.1 (show decode code 1076 = .ok (.aload_n 2, 1) by decide +kernel) rfl (lv_at hl 2 rfl) ?_
  refine l_call C (a := 82) rfl wv_X10_on vl_136 vi_X10_on vs_X10_on (h2) (Nat.le_of_ble_eq_true rfl) rfl rfl hl.1 (Nat.le_of_ble_eq_true rfl) hP hD hS hcl hsl rfl (show decode code 1077 = .ok (.invokevirtual 136, 3) by decide +kernel) (fun v M2 H locs hF hP hD hS => ?_)
  obtain ⟨rfl, I2⟩ := hF
  refine lv_icmp_eq (tgt := 1108) C.1 C.2.1 (show decode code 1080 = .ok (.if_icmp .eq 28, 3) by decide +kernel) (by decide) (fun _ => ?_) (fun z => absurd rfl z)
  exact kk M2 H locs I2 hP hD hS
theorem lw_c29 {n : Nat} {M : g_M} (C : l_Cx p s m c b L xs D cA ξ) (hl : lv_has ls 4 [(0, .ref b), (1, .ref (μ 0)), (2, .ref (μ 82)), (3, .int (nI i))]) (hi : i + 5 ≤ L) (hL : L ≤ 320) (hn : n < 1000) (I : Inv n M) (hP : va_P D g_cls (g_wld cA μ M S0) H) (hD : va_D (fun q => s.heap.size ≤ q) (g_wld cA μ M S0)) (hS : va_S (fun q => s.heap.size ≤ q) s.heap H locs) (hcl : cells ≤ 600000) (hsl : slots ≤ 7302250)
    (kk : ∀ (M' : g_M) (H1 : Heap) (locs1 : List Loc), Inv (n + 1) M' → va_P D g_cls (g_wld cA μ M' S0) H1 → va_D (fun q => s.heap.size ≤ q) (g_wld cA μ M' S0) → va_S (fun q => s.heap.size ≤ q) s.heap H1 locs1 → W p l e room_1 s m #[Value.ref b] below meth c H1 locs1 cells slots Q (F0 m 1108 ls [])) : W p l e room_1 s m #[Value.ref b] below meth c H locs cells slots Q (F0 m 1085 ls []) := by
  refine lv_aload_n C.1 C.2.1 (show decode code 1085 = .ok (.aload_n 1, 1) by decide +kernel) rfl (lv_at hl 1 rfl) ?_
  refine l_arg C hl hS hi hL 1 (by decide) (by decide) (show decode code 1086 = .ok (.aload_n 0, 1) by decide +kernel) (show decode code 1087 = .ok (.iload_n 3, 1) by decide +kernel) (show decode code 1088 = .ok (.iconst 1, 1) by decide +kernel) (show decode code 1089 = .ok (.iadd, 1) by decide +kernel) (show decode code 1090 = .ok (.iaload, 1) by decide +kernel) ?_
  refine l_call C (a := 0) rfl wv_X9_count vl_137 vi_X9_count vs_X9_count (p_count (d := 60) (by decide) I) (Nat.le_of_ble_eq_true rfl) rfl rfl hl.1 (Nat.le_of_ble_eq_true rfl) hP hD hS hcl hsl rfl (show decode code 1091 = .ok (.invokevirtual 137, 3) by decide +kernel) (fun v M1 H locs hF hP hD hS => ?_)
  obtain ⟨r, rfl, h2⟩ := hF
  refine lv_aload_n C.1 C.2.1 (show decode code 1094 = .ok (.aload_n 2, 1) by decide +kernel) rfl (lv_at hl 2 rfl) ?_
  refine l_arg C hl hS hi hL 1 (by decide) (by decide) (show decode code 1095 = .ok (.aload_n 0, 1) by decide +kernel) (show decode code 1096 = .ok (.iload_n 3, 1) by decide +kernel) (show decode code 1097 = .ok (.iconst 1, 1) by decide +kernel) (show decode code 1098 = .ok (.iadd, 1) by decide +kernel) (show decode code 1099 = .ok (.iaload, 1) by decide +kernel) ?_
  refine l_call C (a := 82) rfl wv_X10_count vl_140 vi_X10_count vs_X10_count (h2) (Nat.le_of_ble_eq_true rfl) rfl rfl hl.1 (Nat.le_of_ble_eq_true rfl) hP hD hS hcl hsl rfl (show decode code 1100 = .ok (.invokevirtual 140, 3) by decide +kernel) (fun v M2 H locs hF hP hD hS => ?_)
  obtain ⟨rfl, I2⟩ := hF
  refine lv_icmp_eq (tgt := 1108) C.1 C.2.1 (show decode code 1103 = .ok (.if_icmp .eq 5, 3) by decide +kernel) (by decide) (fun _ => ?_) (fun z => absurd rfl z)
  exact kk M2 H locs I2 hP hD hS
end CASES
