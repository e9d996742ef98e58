/-! ===== constructors ===== -/
theorem nc_0 : Cond.code ⟨"InTheGarden$Game", "<init>", "()V"⟩ prog_2_method_1_code 1 none ∈ g_tbl := g_in2 34 rfl rfl
theorem ni_0 : Cond.initialized "InTheGarden$Game" ∈ g_tbl := g_in1 11 rfl rfl
theorem nt_0 : Cond.instantiable "InTheGarden$Game" 6 ∈ g_tbl := g_in2 31 rfl rfl
theorem nm_0 : Cond.instanceMethod ⟨"InTheGarden$Game", "<init>", "()V"⟩ ∈ g_tbl := g_in2 33 rfl rfl
theorem nc_1 : Cond.code ⟨"InTheGarden$Garden", "<init>", "()V"⟩ prog_3_method_1_code 1 none ∈ g_tbl := g_in1 39 rfl rfl
theorem ni_1 : Cond.initialized "InTheGarden$Garden" ∈ g_tbl := g_in1 3 rfl rfl
theorem nt_1 : Cond.instantiable "InTheGarden$Garden" 14 ∈ g_tbl := g_in1 36 rfl rfl
theorem nm_1 : Cond.instanceMethod ⟨"InTheGarden$Garden", "<init>", "()V"⟩ ∈ g_tbl := g_in1 38 rfl rfl
theorem nc_2 : Cond.code ⟨"InTheGarden$Orders", "<init>", "()V"⟩ prog_4_method_1_code 1 none ∈ g_tbl := g_in2 60 rfl rfl
theorem ni_2 : Cond.initialized "InTheGarden$Orders" ∈ g_tbl := g_in1 12 rfl rfl
theorem nt_2 : Cond.instantiable "InTheGarden$Orders" 2 ∈ g_tbl := g_in2 57 rfl rfl
theorem nm_2 : Cond.instanceMethod ⟨"InTheGarden$Orders", "<init>", "()V"⟩ ∈ g_tbl := g_in2 59 rfl rfl
theorem nc_3 : Cond.code ⟨"InTheGarden$Reader", "<init>", "()V"⟩ prog_5_method_1_code 1 none ∈ g_tbl := g_in2 4 rfl rfl
theorem ni_3 : Cond.initialized "InTheGarden$Reader" ∈ g_tbl := g_in1 9 rfl rfl
theorem nt_3 : Cond.instantiable "InTheGarden$Reader" 4 ∈ g_tbl := g_in2 1 rfl rfl
theorem nm_3 : Cond.instanceMethod ⟨"InTheGarden$Reader", "<init>", "()V"⟩ ∈ g_tbl := g_in2 3 rfl rfl
theorem nc_4 : Cond.code ⟨"InTheGarden$Round", "<init>", "()V"⟩ prog_6_method_1_code 1 none ∈ g_tbl := g_in1 153 rfl rfl
theorem ni_4 : Cond.initialized "InTheGarden$Round" ∈ g_tbl := g_in1 7 rfl rfl
theorem nt_4 : Cond.instantiable "InTheGarden$Round" 10 ∈ g_tbl := g_in1 150 rfl rfl
theorem nm_4 : Cond.instanceMethod ⟨"InTheGarden$Round", "<init>", "()V"⟩ ∈ g_tbl := g_in1 152 rfl rfl
theorem nc_5 : Cond.code ⟨"InTheGarden$Seeker", "<init>", "()V"⟩ prog_7_method_1_code 1 none ∈ g_tbl := g_in1 220 rfl rfl
theorem ni_5 : Cond.initialized "InTheGarden$Seeker" ∈ g_tbl := g_in1 8 rfl rfl
theorem nt_5 : Cond.instantiable "InTheGarden$Seeker" 5 ∈ g_tbl := g_in1 217 rfl rfl
theorem nm_5 : Cond.instanceMethod ⟨"InTheGarden$Seeker", "<init>", "()V"⟩ ∈ g_tbl := g_in1 219 rfl rfl
theorem nc_6 : Cond.code ⟨"InTheGarden$Sight", "<init>", "()V"⟩ prog_8_method_1_code 1 none ∈ g_tbl := g_in2 24 rfl rfl
theorem ni_6 : Cond.initialized "InTheGarden$Sight" ∈ g_tbl := g_in1 10 rfl rfl
theorem nt_6 : Cond.instantiable "InTheGarden$Sight" 1 ∈ g_tbl := g_in2 21 rfl rfl
theorem nm_6 : Cond.instanceMethod ⟨"InTheGarden$Sight", "<init>", "()V"⟩ ∈ g_tbl := g_in2 23 rfl rfl
theorem nc_7 : Cond.code ⟨"InTheGarden$Told", "<init>", "()V"⟩ prog_9_method_1_code 1 none ∈ g_tbl := g_in1 127 rfl rfl
theorem ni_7 : Cond.initialized "InTheGarden$Told" ∈ g_tbl := g_in1 5 rfl rfl
theorem nt_7 : Cond.instantiable "InTheGarden$Told" 3 ∈ g_tbl := g_in1 124 rfl rfl
theorem nm_7 : Cond.instanceMethod ⟨"InTheGarden$Told", "<init>", "()V"⟩ ∈ g_tbl := g_in1 126 rfl rfl
theorem nc_8 : Cond.code ⟨"InTheGarden$World", "<init>", "()V"⟩ prog_10_method_1_code 1 none ∈ g_tbl := g_in1 33 rfl rfl
theorem ni_8 : Cond.initialized "InTheGarden$World" ∈ g_tbl := g_in1 2 rfl rfl
theorem nt_8 : Cond.instantiable "InTheGarden$World" 4 ∈ g_tbl := g_in1 30 rfl rfl
theorem nm_8 : Cond.instanceMethod ⟨"InTheGarden$World", "<init>", "()V"⟩ ∈ g_tbl := g_in1 32 rfl rfl
theorem nc_9 : Cond.code ⟨"InTheGarden", "<init>", "()V"⟩ prog_1_method_1_code 1 none ∈ g_tbl := g_in1 25 rfl rfl
theorem ni_9 : Cond.initialized "InTheGarden" ∈ g_tbl := g_in1 1 rfl rfl
theorem nt_9 : Cond.instantiable "InTheGarden" 15 ∈ g_tbl := g_in1 22 rfl rfl
theorem nm_9 : Cond.instanceMethod ⟨"InTheGarden", "<init>", "()V"⟩ ∈ g_tbl := g_in1 24 rfl rfl
theorem nc_10 : Cond.code ⟨"InTheGardenModel", "<init>", "()V"⟩ prog_12_method_1_code 1 none ∈ g_tbl := g_in5 17 rfl rfl
theorem ni_10 : Cond.initialized "InTheGardenModel" ∈ g_tbl := g_in1 13 rfl rfl
theorem nt_10 : Cond.instantiable "InTheGardenModel" 38 ∈ g_tbl := g_in5 14 rfl rfl
theorem nm_10 : Cond.instanceMethod ⟨"InTheGardenModel", "<init>", "()V"⟩ ∈ g_tbl := g_in5 16 rfl rfl
theorem no_inst : Cond.instanceMethod objectInit ∈ g_tbl := g_in1 27 rfl rfl
theorem no_code : Cond.code objectInit ⟨#[0xb1]⟩ 1 none ∈ g_tbl := g_in1 28 rfl rfl
theorem na_int : Cond.arrayClass .int ∈ g_tbl := g_in1 122 rfl rfl
theorem na_bool : Cond.arrayClass .boolean ∈ g_tbl := g_in5 134 rfl rfl
theorem no_0 : Cond.methodLink "InTheGarden$Game" 3 objectInit ∈ g_tbl := g_in2 35 rfl rfl
theorem nf_0_9 : Cond.fieldLink "InTheGarden$Game" 9 "InTheGarden$Game" "tells" "[I" ∈ g_tbl := g_in2 36 rfl rfl
theorem nf_0_15 : Cond.fieldLink "InTheGarden$Game" 15 "InTheGarden$Game" "placeSums" "[I" ∈ g_tbl := g_in2 37 rfl rfl
theorem nf_0_18 : Cond.fieldLink "InTheGarden$Game" 18 "InTheGarden$Game" "orderSums" "[I" ∈ g_tbl := g_in2 38 rfl rfl
theorem nf_0_21 : Cond.fieldLink "InTheGarden$Game" 21 "InTheGarden$Game" "takenPlaces" "[I" ∈ g_tbl := g_in2 39 rfl rfl
theorem no_2 : Cond.methodLink "InTheGarden$Orders" 3 objectInit ∈ g_tbl := g_in2 61 rfl rfl
theorem nf_2_9 : Cond.fieldLink "InTheGarden$Orders" 9 "InTheGarden$Orders" "row" "[I" ∈ g_tbl := g_in2 62 rfl rfl
theorem no_3 : Cond.methodLink "InTheGarden$Reader" 3 objectInit ∈ g_tbl := g_in2 5 rfl rfl
theorem nf_3_9 : Cond.fieldLink "InTheGarden$Reader" 9 "InTheGarden$Reader" "tape" "[I" ∈ g_tbl := g_in2 6 rfl rfl
theorem nf_3_15 : Cond.fieldLink "InTheGarden$Reader" 15 "InTheGarden$Reader" "value" "[I" ∈ g_tbl := g_in2 7 rfl rfl
theorem no_4 : Cond.methodLink "InTheGarden$Round" 3 objectInit ∈ g_tbl := g_in1 154 rfl rfl
theorem nf_4_9 : Cond.fieldLink "InTheGarden$Round" 9 "InTheGarden$Round" "spot" "[I" ∈ g_tbl := g_in1 155 rfl rfl
theorem nf_4_15 : Cond.fieldLink "InTheGarden$Round" 15 "InTheGarden$Round" "state" "[I" ∈ g_tbl := g_in1 157 rfl rfl
theorem nf_4_18 : Cond.fieldLink "InTheGarden$Round" 18 "InTheGarden$Round" "when" "[I" ∈ g_tbl := g_in1 159 rfl rfl
theorem nf_4_21 : Cond.fieldLink "InTheGarden$Round" 21 "InTheGarden$Round" "foundOnes" "[I" ∈ g_tbl := g_in1 161 rfl rfl
theorem nf_4_24 : Cond.fieldLink "InTheGarden$Round" 24 "InTheGarden$Round" "roomLeft" "[I" ∈ g_tbl := g_in1 163 rfl rfl
theorem no_5 : Cond.methodLink "InTheGarden$Seeker" 3 objectInit ∈ g_tbl := g_in1 221 rfl rfl
theorem no_6 : Cond.methodLink "InTheGarden$Sight" 3 objectInit ∈ g_tbl := g_in2 25 rfl rfl
theorem nf_6_11 : Cond.fieldLink "InTheGarden$Sight" 11 "InTheGarden$Sight" "cost" "[I" ∈ g_tbl := g_in2 26 rfl rfl
theorem no_7 : Cond.methodLink "InTheGarden$Told" 3 objectInit ∈ g_tbl := g_in1 128 rfl rfl
theorem nf_7_9 : Cond.fieldLink "InTheGarden$Told" 9 "InTheGarden$Told" "setting" "[I" ∈ g_tbl := g_in1 134 rfl rfl
theorem nf_7_15 : Cond.fieldLink "InTheGarden$Told" 15 "InTheGarden$Told" "places" "[I" ∈ g_tbl := g_in1 137 rfl rfl
theorem no_1 : Cond.methodLink "InTheGarden$Garden" 3 objectInit ∈ g_tbl := g_in1 40 rfl rfl
theorem nf_1_9 : Cond.fieldLink "InTheGarden$Garden" 9 "InTheGarden$Garden" "places" "I" ∈ g_tbl := g_in1 60 rfl rfl
theorem nf_1_15 : Cond.fieldLink "InTheGarden$Garden" 15 "InTheGarden$Garden" "kind" "[I" ∈ g_tbl := g_in1 69 rfl rfl
theorem nf_1_19 : Cond.fieldLink "InTheGarden$Garden" 19 "InTheGarden$Garden" "room" "[I" ∈ g_tbl := g_in1 71 rfl rfl
theorem nf_1_22 : Cond.fieldLink "InTheGarden$Garden" 22 "InTheGarden$Garden" "hidden" "[I" ∈ g_tbl := g_in1 74 rfl rfl
theorem nf_1_25 : Cond.fieldLink "InTheGarden$Garden" 25 "InTheGarden$Garden" "times" "[I" ∈ g_tbl := g_in1 77 rfl rfl
theorem nf_1_28 : Cond.fieldLink "InTheGarden$Garden" 28 "InTheGarden$Garden" "views" "[I" ∈ g_tbl := g_in1 80 rfl rfl
theorem nf_1_31 : Cond.fieldLink "InTheGarden$Garden" 31 "InTheGarden$Garden" "age" "[I" ∈ g_tbl := g_in1 84 rfl rfl
theorem nf_1_34 : Cond.fieldLink "InTheGarden$Garden" 34 "InTheGarden$Garden" "pace" "[I" ∈ g_tbl := g_in1 87 rfl rfl
theorem nf_1_37 : Cond.fieldLink "InTheGarden$Garden" 37 "InTheGarden$Garden" "way" "[I" ∈ g_tbl := g_in1 89 rfl rfl
theorem nf_1_40 : Cond.fieldLink "InTheGarden$Garden" 40 "InTheGarden$Garden" "far" "[I" ∈ g_tbl := g_in1 90 rfl rfl
theorem nf_1_43 : Cond.fieldLink "InTheGarden$Garden" 43 "InTheGarden$Garden" "walk" "[I" ∈ g_tbl := g_in1 91 rfl rfl
theorem nf_1_46 : Cond.fieldLink "InTheGarden$Garden" 46 "InTheGarden$Garden" "flight" "[I" ∈ g_tbl := g_in1 92 rfl rfl
theorem no_8 : Cond.methodLink "InTheGarden$World" 1 objectInit ∈ g_tbl := g_in1 34 rfl rfl
theorem nf_8_10 : Cond.fieldLink "InTheGarden$World" 10 "InTheGarden$World" "garden" "LInTheGarden$Garden;" ∈ g_tbl := g_in1 193 rfl rfl
theorem nl_8_7 : Cond.classLink "InTheGarden$World" 7 "InTheGarden$Garden" ∈ g_tbl := g_in1 35 rfl rfl
theorem nk_8_9 : Cond.methodLink "InTheGarden$World" 9 ⟨"InTheGarden$Garden", "<init>", "()V"⟩ ∈ g_tbl := g_in1 37 rfl rfl
theorem nf_8_19 : Cond.fieldLink "InTheGarden$World" 19 "InTheGarden$World" "told" "LInTheGarden$Told;" ∈ g_tbl := g_in1 195 rfl rfl
theorem nl_8_16 : Cond.classLink "InTheGarden$World" 16 "InTheGarden$Told" ∈ g_tbl := g_in1 123 rfl rfl
theorem nk_8_18 : Cond.methodLink "InTheGarden$World" 18 ⟨"InTheGarden$Told", "<init>", "()V"⟩ ∈ g_tbl := g_in1 125 rfl rfl
theorem nf_8_26 : Cond.fieldLink "InTheGarden$World" 26 "InTheGarden$World" "latest" "LInTheGarden$Round;" ∈ g_tbl := g_in1 197 rfl rfl
theorem nl_8_23 : Cond.classLink "InTheGarden$World" 23 "InTheGarden$Round" ∈ g_tbl := g_in1 149 rfl rfl
theorem nk_8_25 : Cond.methodLink "InTheGarden$World" 25 ⟨"InTheGarden$Round", "<init>", "()V"⟩ ∈ g_tbl := g_in1 151 rfl rfl
theorem no_9 : Cond.methodLink "InTheGarden" 1 objectInit ∈ g_tbl := g_in1 26 rfl rfl
theorem nf_9_10 : Cond.fieldLink "InTheGarden" 10 "InTheGarden" "now" "LInTheGarden$World;" ∈ g_tbl := g_in2 71 rfl rfl
theorem nl_9_7 : Cond.classLink "InTheGarden" 7 "InTheGarden$World" ∈ g_tbl := g_in1 29 rfl rfl
theorem nk_9_9 : Cond.methodLink "InTheGarden" 9 ⟨"InTheGarden$World", "<init>", "()V"⟩ ∈ g_tbl := g_in1 31 rfl rfl
theorem nf_9_16 : Cond.fieldLink "InTheGarden" 16 "InTheGarden" "kept" "LInTheGarden$World;" ∈ g_tbl := g_in2 72 rfl rfl
theorem nf_9_22 : Cond.fieldLink "InTheGarden" 22 "InTheGarden" "draft" "LInTheGarden$Garden;" ∈ g_tbl := g_in2 73 rfl rfl
theorem nl_9_19 : Cond.classLink "InTheGarden" 19 "InTheGarden$Garden" ∈ g_tbl := g_in1 210 rfl rfl
theorem nk_9_21 : Cond.methodLink "InTheGarden" 21 ⟨"InTheGarden$Garden", "<init>", "()V"⟩ ∈ g_tbl := g_in1 211 rfl rfl
theorem nf_9_29 : Cond.fieldLink "InTheGarden" 29 "InTheGarden" "trial" "LInTheGarden$Told;" ∈ g_tbl := g_in2 74 rfl rfl
theorem nl_9_26 : Cond.classLink "InTheGarden" 26 "InTheGarden$Told" ∈ g_tbl := g_in1 212 rfl rfl
theorem nk_9_28 : Cond.methodLink "InTheGarden" 28 ⟨"InTheGarden$Told", "<init>", "()V"⟩ ∈ g_tbl := g_in1 213 rfl rfl
theorem nf_9_36 : Cond.fieldLink "InTheGarden" 36 "InTheGarden" "thought" "LInTheGarden$Round;" ∈ g_tbl := g_in2 75 rfl rfl
theorem nl_9_33 : Cond.classLink "InTheGarden" 33 "InTheGarden$Round" ∈ g_tbl := g_in1 214 rfl rfl
theorem nk_9_35 : Cond.methodLink "InTheGarden" 35 ⟨"InTheGarden$Round", "<init>", "()V"⟩ ∈ g_tbl := g_in1 215 rfl rfl
theorem nf_9_43 : Cond.fieldLink "InTheGarden" 43 "InTheGarden" "seeker" "LInTheGarden$Seeker;" ∈ g_tbl := g_in2 76 rfl rfl
theorem nl_9_40 : Cond.classLink "InTheGarden" 40 "InTheGarden$Seeker" ∈ g_tbl := g_in1 216 rfl rfl
theorem nk_9_42 : Cond.methodLink "InTheGarden" 42 ⟨"InTheGarden$Seeker", "<init>", "()V"⟩ ∈ g_tbl := g_in1 218 rfl rfl
theorem nf_9_50 : Cond.fieldLink "InTheGarden" 50 "InTheGarden" "reader" "LInTheGarden$Reader;" ∈ g_tbl := g_in2 77 rfl rfl
theorem nl_9_47 : Cond.classLink "InTheGarden" 47 "InTheGarden$Reader" ∈ g_tbl := g_in2 0 rfl rfl
theorem nk_9_49 : Cond.methodLink "InTheGarden" 49 ⟨"InTheGarden$Reader", "<init>", "()V"⟩ ∈ g_tbl := g_in2 2 rfl rfl
theorem nf_9_57 : Cond.fieldLink "InTheGarden" 57 "InTheGarden" "sight" "LInTheGarden$Sight;" ∈ g_tbl := g_in2 78 rfl rfl
theorem nl_9_54 : Cond.classLink "InTheGarden" 54 "InTheGarden$Sight" ∈ g_tbl := g_in2 20 rfl rfl
theorem nk_9_56 : Cond.methodLink "InTheGarden" 56 ⟨"InTheGarden$Sight", "<init>", "()V"⟩ ∈ g_tbl := g_in2 22 rfl rfl
theorem nf_9_64 : Cond.fieldLink "InTheGarden" 64 "InTheGarden" "contest" "LInTheGarden$Game;" ∈ g_tbl := g_in2 79 rfl rfl
theorem nl_9_61 : Cond.classLink "InTheGarden" 61 "InTheGarden$Game" ∈ g_tbl := g_in2 30 rfl rfl
theorem nk_9_63 : Cond.methodLink "InTheGarden" 63 ⟨"InTheGarden$Game", "<init>", "()V"⟩ ∈ g_tbl := g_in2 32 rfl rfl
theorem nf_9_71 : Cond.fieldLink "InTheGarden" 71 "InTheGarden" "orders" "LInTheGarden$Orders;" ∈ g_tbl := g_in2 80 rfl rfl
theorem nl_9_68 : Cond.classLink "InTheGarden" 68 "InTheGarden$Orders" ∈ g_tbl := g_in2 56 rfl rfl
theorem nk_9_70 : Cond.methodLink "InTheGarden" 70 ⟨"InTheGarden$Orders", "<init>", "()V"⟩ ∈ g_tbl := g_in2 58 rfl rfl
theorem nf_9_75 : Cond.fieldLink "InTheGarden" 75 "InTheGarden" "bestPlaces" "[I" ∈ g_tbl := g_in2 81 rfl rfl
theorem nf_9_79 : Cond.fieldLink "InTheGarden" 79 "InTheGarden" "toldFinds" "[I" ∈ g_tbl := g_in2 82 rfl rfl
theorem nf_9_82 : Cond.fieldLink "InTheGarden" 82 "InTheGarden" "refusals" "[I" ∈ g_tbl := g_in2 83 rfl rfl
theorem no_10 : Cond.methodLink "InTheGardenModel" 1 objectInit ∈ g_tbl := g_in5 18 rfl rfl
theorem nf_10_7 : Cond.fieldLink "InTheGardenModel" 7 "InTheGardenModel" "refusals" "[I" ∈ g_tbl := g_in5 19 rfl rfl
theorem nf_10_13 : Cond.fieldLink "InTheGardenModel" 13 "InTheGardenModel" "s" "[I" ∈ g_tbl := g_in5 20 rfl rfl
theorem nf_10_16 : Cond.fieldLink "InTheGardenModel" 16 "InTheGardenModel" "image" "[I" ∈ g_tbl := g_in5 21 rfl rfl
theorem nf_10_19 : Cond.fieldLink "InTheGardenModel" 19 "InTheGardenModel" "read" "[I" ∈ g_tbl := g_in5 22 rfl rfl
theorem nf_10_22 : Cond.fieldLink "InTheGardenModel" 22 "InTheGardenModel" "tape" "[I" ∈ g_tbl := g_in5 24 rfl rfl
theorem nf_10_25 : Cond.fieldLink "InTheGardenModel" 25 "InTheGardenModel" "told" "[I" ∈ g_tbl := g_in5 25 rfl rfl
theorem nf_10_28 : Cond.fieldLink "InTheGardenModel" 28 "InTheGardenModel" "far" "[I" ∈ g_tbl := g_in5 28 rfl rfl
theorem nf_10_31 : Cond.fieldLink "InTheGardenModel" 31 "InTheGardenModel" "direct" "[I" ∈ g_tbl := g_in5 29 rfl rfl
theorem nf_10_34 : Cond.fieldLink "InTheGardenModel" 34 "InTheGardenModel" "where" "[I" ∈ g_tbl := g_in5 30 rfl rfl
theorem nf_10_37 : Cond.fieldLink "InTheGardenModel" 37 "InTheGardenModel" "how" "[I" ∈ g_tbl := g_in5 31 rfl rfl
theorem nf_10_40 : Cond.fieldLink "InTheGardenModel" 40 "InTheGardenModel" "when" "[I" ∈ g_tbl := g_in5 32 rfl rfl
theorem nf_10_43 : Cond.fieldLink "InTheGardenModel" 43 "InTheGardenModel" "comesAt" "[I" ∈ g_tbl := g_in5 33 rfl rfl
theorem nf_10_46 : Cond.fieldLink "InTheGardenModel" 46 "InTheGardenModel" "caught" "[I" ∈ g_tbl := g_in5 34 rfl rfl
theorem nf_10_49 : Cond.fieldLink "InTheGardenModel" 49 "InTheGardenModel" "caughtAt" "[I" ∈ g_tbl := g_in5 35 rfl rfl
theorem nf_10_52 : Cond.fieldLink "InTheGardenModel" 52 "InTheGardenModel" "least" "[I" ∈ g_tbl := g_in5 45 rfl rfl
theorem nf_10_55 : Cond.fieldLink "InTheGardenModel" 55 "InTheGardenModel" "settled" "[Z" ∈ g_tbl := g_in5 46 rfl rfl
theorem nf_10_59 : Cond.fieldLink "InTheGardenModel" 59 "InTheGardenModel" "tells" "[I" ∈ g_tbl := g_in5 47 rfl rfl
theorem nf_10_62 : Cond.fieldLink "InTheGardenModel" 62 "InTheGardenModel" "orders" "[I" ∈ g_tbl := g_in5 48 rfl rfl
theorem nf_10_65 : Cond.fieldLink "InTheGardenModel" 65 "InTheGardenModel" "placeSum" "[I" ∈ g_tbl := g_in5 49 rfl rfl
theorem nf_10_68 : Cond.fieldLink "InTheGardenModel" 68 "InTheGardenModel" "orderSum" "[I" ∈ g_tbl := g_in5 50 rfl rfl
theorem nf_10_71 : Cond.fieldLink "InTheGardenModel" 71 "InTheGardenModel" "takenOf" "[I" ∈ g_tbl := g_in5 51 rfl rfl
theorem nf_10_74 : Cond.fieldLink "InTheGardenModel" 74 "InTheGardenModel" "kept" "[I" ∈ g_tbl := g_in5 53 rfl rfl
theorem nf_10_77 : Cond.fieldLink "InTheGardenModel" 77 "InTheGardenModel" "bestOrder" "[I" ∈ g_tbl := g_in5 54 rfl rfl
theorem nf_10_80 : Cond.fieldLink "InTheGardenModel" 80 "InTheGardenModel" "row" "[I" ∈ g_tbl := g_in5 55 rfl rfl
theorem nk_1_49 : Cond.methodLink "InTheGarden$Garden" 49 ⟨"InTheGarden$Garden", "measure", "()V"⟩ ∈ g_tbl := g_in1 41 rfl rfl
theorem iP10_k : ∀ k, k < 154 → (upd (upd (upd (upd (upd (upd (upd (fun _ => 0) 0 1) 16 8) 20 1) 9 40) 11 5) 14 300) 15 1) k = nI (a0 k) := by decide +kernel
theorem iK0 : i_cl gR0 0 gT0 6 gY0 := ⟨rfl, gI0, gYok0, gN0⟩
theorem iK1 : i_cl gR1 1 gT1 14 gY1 := ⟨rfl, gI1, gYok1, gN1⟩
theorem iK2 : i_cl gR2 2 gT2 2 gY2 := ⟨rfl, gI2, gYok2, gN2⟩
theorem iK3 : i_cl gR3 3 gT3 4 gY3 := ⟨rfl, gI3, gYok3, gN3⟩
theorem iK4 : i_cl gR4 4 gT4 10 gY4 := ⟨rfl, gI4, gYok4, gN4⟩
theorem iK5 : i_cl gR5 5 gT5 5 gY5 := ⟨rfl, gI5, gYok5, gN5⟩
theorem iK6 : i_cl gR6 6 gT6 1 gY6 := ⟨rfl, gI6, gYok6, gN6⟩
theorem iK7 : i_cl gR7 7 gT7 3 gY7 := ⟨rfl, gI7, gYok7, gN7⟩
theorem iK8 : i_cl gR8 8 gT8 4 gY8 := ⟨rfl, gI8, gYok8, gN8⟩
theorem iK9 : i_cl gR9 9 gT9 15 gY9 := ⟨rfl, gI9, gYok9, gN9⟩
theorem iK10 : i_cl gR10 10 gT10 38 gY10 := ⟨rfl, gI10, gYok10, gN10⟩
def S_0 : g_Sh := (5, (g_kt 2 (g_kt 1 (fun _ => .inr (0, [some 1, some 2, some 3, some 4, none, none])) (fun _ => .inl (0, 96))) (g_kt 3 (fun _ => .inl (0, 4)) (g_kt 4 (fun _ => .inl (0, 24)) (fun _ => .inl (0, 4))))))
def S_2 : g_Sh := (2, (g_kt 1 (fun _ => .inr (2, [some 1, none])) (fun _ => .inl (0, 4))))
def S_3 : g_Sh := (3, (g_kt 1 (fun _ => .inr (3, [some 1, some 2, none, none])) (g_kt 2 (fun _ => .inl (0, 64)) (fun _ => .inl (0, 3)))))
def S_4 : g_Sh := (6, (g_kt 3 (g_kt 1 (fun _ => .inr (4, [some 1, some 2, some 3, some 4, some 5, none, none, none, none, none])) (g_kt 2 (fun _ => .inl (0, 8)) (fun _ => .inl (0, 8)))) (g_kt 4 (fun _ => .inl (0, 8)) (g_kt 5 (fun _ => .inl (0, 8)) (fun _ => .inl (0, 8))))))
def S_5 : g_Sh := (1, (fun _ => .inr (5, [none, none, none, none, none])))
def S_6 : g_Sh := (2, (g_kt 1 (fun _ => .inr (6, [some 1])) (fun _ => .inl (0, 1024))))
def S_7 : g_Sh := (3, (g_kt 1 (fun _ => .inr (7, [some 1, some 2, none])) (g_kt 2 (fun _ => .inl (0, 7)) (fun _ => .inl (0, 8)))))
def S_8 : g_Sh := (22, (g_kt 11 (g_kt 5 (g_kt 2 (g_kt 1 (fun _ => .inr (8, [some 1, some 13, some 16, none])) (fun _ => .inr (1, [none, none, none, some 2, some 3, some 4, some 5, some 6, some 7, some 8, some 9, some 10, some 11, some 12]))) (g_kt 3 (fun _ => .inl (0, 8)) (g_kt 4 (fun _ => .inl (0, 8)) (fun _ => .inl (0, 8))))) (g_kt 8 (g_kt 6 (fun _ => .inl (0, 8)) (g_kt 7 (fun _ => .inl (0, 8)) (fun _ => .inl (0, 8)))) (g_kt 9 (fun _ => .inl (0, 8)) (g_kt 10 (fun _ => .inl (0, 64)) (fun _ => .inl (0, 64)))))) (g_kt 16 (g_kt 13 (g_kt 12 (fun _ => .inl (0, 64)) (fun _ => .inl (0, 64))) (g_kt 14 (fun _ => .inr (7, [some 14, some 15, none])) (g_kt 15 (fun _ => .inl (0, 7)) (fun _ => .inl (0, 8))))) (g_kt 19 (g_kt 17 (fun _ => .inr (4, [some 17, some 18, some 19, some 20, some 21, none, none, none, none, none])) (g_kt 18 (fun _ => .inl (0, 8)) (fun _ => .inl (0, 8)))) (g_kt 20 (fun _ => .inl (0, 8)) (g_kt 21 (fun _ => .inl (0, 8)) (fun _ => .inl (0, 8))))))))
def S_9 : g_Sh := (82, (g_kt 41 (g_kt 20 (g_kt 10 (g_kt 5 (g_kt 2 (g_kt 1 (fun _ => .inr (9, [some 1, some 23, some 45, some 57, some 60, some 66, some 67, some 70, some 72, some 77, some 79, some 80, some 81, none, none])) (fun _ => .inr (8, [some 2, some 14, some 17, none]))) (g_kt 3 (fun _ => .inr (1, [none, none, none, some 3, some 4, some 5, some 6, some 7, some 8, some 9, some 10, some 11, some 12, some 13])) (g_kt 4 (fun _ => .inl (0, 8)) (fun _ => .inl (0, 8))))) (g_kt 7 (g_kt 6 (fun _ => .inl (0, 8)) (fun _ => .inl (0, 8))) (g_kt 8 (fun _ => .inl (0, 8)) (g_kt 9 (fun _ => .inl (0, 8)) (fun _ => .inl (0, 8)))))) (g_kt 15 (g_kt 12 (g_kt 11 (fun _ => .inl (0, 64)) (fun _ => .inl (0, 64))) (g_kt 13 (fun _ => .inl (0, 64)) (g_kt 14 (fun _ => .inl (0, 64)) (fun _ => .inr (7, [some 15, some 16, none]))))) (g_kt 17 (g_kt 16 (fun _ => .inl (0, 7)) (fun _ => .inl (0, 8))) (g_kt 18 (fun _ => .inr (4, [some 18, some 19, some 20, some 21, some 22, none, none, none, none, none])) (g_kt 19 (fun _ => .inl (0, 8)) (fun _ => .inl (0, 8))))))) (g_kt 30 (g_kt 25 (g_kt 22 (g_kt 21 (fun _ => .inl (0, 8)) (fun _ => .inl (0, 8))) (g_kt 23 (fun _ => .inl (0, 8)) (g_kt 24 (fun _ => .inr (8, [some 24, some 36, some 39, none])) (fun _ => .inr (1, [none, none, none, some 25, some 26, some 27, some 28, some 29, some 30, some 31, some 32, some 33, some 34, some 35]))))) (g_kt 27 (g_kt 26 (fun _ => .inl (0, 8)) (fun _ => .inl (0, 8))) (g_kt 28 (fun _ => .inl (0, 8)) (g_kt 29 (fun _ => .inl (0, 8)) (fun _ => .inl (0, 8)))))) (g_kt 35 (g_kt 32 (g_kt 31 (fun _ => .inl (0, 8)) (fun _ => .inl (0, 8))) (g_kt 33 (fun _ => .inl (0, 64)) (g_kt 34 (fun _ => .inl (0, 64)) (fun _ => .inl (0, 64))))) (g_kt 38 (g_kt 36 (fun _ => .inl (0, 64)) (g_kt 37 (fun _ => .inr (7, [some 37, some 38, none])) (fun _ => .inl (0, 7)))) (g_kt 39 (fun _ => .inl (0, 8)) (g_kt 40 (fun _ => .inr (4, [some 40, some 41, some 42, some 43, some 44, none, none, none, none, none])) (fun _ => .inl (0, 8)))))))) (g_kt 61 (g_kt 51 (g_kt 46 (g_kt 43 (g_kt 42 (fun _ => .inl (0, 8)) (fun _ => .inl (0, 8))) (g_kt 44 (fun _ => .inl (0, 8)) (g_kt 45 (fun _ => .inl (0, 8)) (fun _ => .inr (1, [none, none, none, some 46, some 47, some 48, some 49, some 50, some 51, some 52, some 53, some 54, some 55, some 56]))))) (g_kt 48 (g_kt 47 (fun _ => .inl (0, 8)) (fun _ => .inl (0, 8))) (g_kt 49 (fun _ => .inl (0, 8)) (g_kt 50 (fun _ => .inl (0, 8)) (fun _ => .inl (0, 8)))))) (g_kt 56 (g_kt 53 (g_kt 52 (fun _ => .inl (0, 8)) (fun _ => .inl (0, 8))) (g_kt 54 (fun _ => .inl (0, 64)) (g_kt 55 (fun _ => .inl (0, 64)) (fun _ => .inl (0, 64))))) (g_kt 58 (g_kt 57 (fun _ => .inl (0, 64)) (fun _ => .inr (7, [some 58, some 59, none]))) (g_kt 59 (fun _ => .inl (0, 7)) (g_kt 60 (fun _ => .inl (0, 8)) (fun _ => .inr (4, [some 61, some 62, some 63, some 64, some 65, none, none, none, none, none]))))))) (g_kt 71 (g_kt 66 (g_kt 63 (g_kt 62 (fun _ => .inl (0, 8)) (fun _ => .inl (0, 8))) (g_kt 64 (fun _ => .inl (0, 8)) (g_kt 65 (fun _ => .inl (0, 8)) (fun _ => .inl (0, 8))))) (g_kt 68 (g_kt 67 (fun _ => .inr (5, [none, none, none, none, none])) (fun _ => .inr (3, [some 68, some 69, none, none]))) (g_kt 69 (fun _ => .inl (0, 64)) (g_kt 70 (fun _ => .inl (0, 3)) (fun _ => .inr (6, [some 71])))))) (g_kt 76 (g_kt 73 (g_kt 72 (fun _ => .inl (0, 1024)) (fun _ => .inr (0, [some 73, some 74, some 75, some 76, none, none]))) (g_kt 74 (fun _ => .inl (0, 96)) (g_kt 75 (fun _ => .inl (0, 4)) (fun _ => .inl (0, 24))))) (g_kt 79 (g_kt 77 (fun _ => .inl (0, 4)) (g_kt 78 (fun _ => .inr (2, [some 78, none])) (fun _ => .inl (0, 4)))) (g_kt 80 (fun _ => .inl (0, 4)) (g_kt 81 (fun _ => .inl (0, 8)) (fun _ => .inl (0, 7))))))))))
def S_10 : g_Sh := (25, (g_kt 12 (g_kt 6 (g_kt 3 (g_kt 1 (fun _ => .inr (10, [some 1, some 2, some 3, some 4, none, some 5, some 6, none, none, some 7, some 8, some 9, some 10, some 11, some 12, some 13, some 14, none, none, none, none, none, none, none, none, none, some 15, some 16, some 17, some 18, some 19, some 20, some 21, none, some 22, some 23, some 24, none])) (g_kt 2 (fun _ => .inl (0, 7)) (fun _ => .inl (0, 154)))) (g_kt 4 (fun _ => .inl (0, 154)) (g_kt 5 (fun _ => .inl (0, 154)) (fun _ => .inl (0, 64))))) (g_kt 9 (g_kt 7 (fun _ => .inl (0, 3)) (g_kt 8 (fun _ => .inl (0, 64)) (fun _ => .inl (0, 64)))) (g_kt 10 (fun _ => .inl (0, 8)) (g_kt 11 (fun _ => .inl (0, 8)) (fun _ => .inl (0, 8)))))) (g_kt 18 (g_kt 15 (g_kt 13 (fun _ => .inl (0, 8)) (g_kt 14 (fun _ => .inl (0, 8)) (fun _ => .inl (0, 8)))) (g_kt 16 (fun _ => .inl (0, 2048)) (g_kt 17 (fun _ => .inl (1, 2048)) (fun _ => .inl (0, 96))))) (g_kt 21 (g_kt 19 (fun _ => .inl (0, 96)) (g_kt 20 (fun _ => .inl (0, 4)) (fun _ => .inl (0, 24)))) (g_kt 23 (g_kt 22 (fun _ => .inl (0, 4)) (fun _ => .inl (0, 154))) (g_kt 24 (fun _ => .inl (0, 4)) (fun _ => .inl (0, 8))))))))
set_option maxHeartbeats 4000000 in
set_option maxRecDepth 100000 in
theorem c_init0 (l : Launch) (D : va_G) (cA : Nat → ClassId) (ξ : Nat → Nat) : i_met l D cA ξ ⟨"InTheGarden$Game", "<init>", "()V"⟩ prog_2_method_1_code 2 100 4 128 0 [.null, .null, .null, .null, .int 0, .int 0] S_0 iP0 := by
  intro h0 sz
  refine Met.ofW (cc := prog_2_method_1_code) (maxL := 1) (ret := none) (by decide) rfl ?_
  intro p e s m args below meth c s₁ B hml hv
  obtain ⟨rfl, hsz, hP, hK, hD0, hE⟩ := hv
  have hts := atoms_spec (ws := Cond.code ⟨"InTheGarden$Game", "<init>", "()V"⟩ prog_2_method_1_code 1 none :: g_tbl) B.pre
  have hin : meth.name = "<init>" := (name_of_methodNamed B.named B.method).1
  have hlocks := B.notSynchronized
  have hx := B.exec
  have hb := B.bytes
  have hr := B.returns
  subst hsz
  have hD := hD0.self (sz := s.heap.size)
  generalize hAe : va_A [(h0, (.inr (0, [.null, .null, .null, .null, .int 0, .int 0]) : va_E))] s.heap.size = A at hD hE ⊢
  have hA : ∀ q : Nat, s.heap.size ≤ q → A q := fun q h => by rw [← hAe]; exact Or.inr h
  have C : i_Cx gR0 prog_2_method_1_code 1 p s m [Value.ref h0].toArray c D cA ξ A := ⟨B.exec, B.bytes, hml, findClass_of_methodNamed B.named, fun w hw => hts w (List.mem_cons_of_mem _ hw), hK, hA, hE⟩
  have hS : va_S A s.heap s.heap [] := va_S.rf
  have hl := lv_entry ([.ref h0]) (n := 1) (Nat.le_of_ble_eq_true rfl)
  rw [lg_entry_eq]
  generalize (lg_sl ([.ref h0]) ++ List.replicate (1 - (lg_sl ([.ref h0])).length) Slot.unset).toArray = ls at hl ⊢
  have hl : lv_has ls 1 [(0, .ref h0)] := hl
  refine i_begin C hl no_0 no_inst no_code (by decide) (by decide) (show decode prog_2_method_1_code 0 = .ok (.aload_n 0, 1) by decide +kernel) (show decode prog_2_method_1_code 1 = .ok (.invokespecial 3, 3) by decide +kernel) ?_
  refine i_arr (k := 0) (N := 96) (n := 96) (pc := 4) (pc2 := 7) C hin hl iK0 na_int hP hD hS (show decode prog_2_method_1_code 4 = .ok (.aload_n 0, 1) by decide +kernel) (fun z => lv_bipush (v := 96) hx hb (show decode prog_2_method_1_code 5 = .ok (.bipush 96, 2) by decide +kernel) (by decide +kernel) z) (show decode prog_2_method_1_code 7 = .ok (.newarray .int, 2) by decide +kernel) (show decode prog_2_method_1_code 9 = .ok (.putfield 9, 3) by decide +kernel) (by decide) (by decide) (by decide) (by decide) (by decide) (by decide) nf_0_9 rfl rfl rfl (Nat.le_of_ble_eq_true rfl) (fun q1 H locs hP hD hS => ?_)
  refine i_arr (k := 1) (N := 4) (n := 4) (pc := 12) (pc2 := 14) C hin hl iK0 na_int hP hD hS (show decode prog_2_method_1_code 12 = .ok (.aload_n 0, 1) by decide +kernel) (fun z => lv_iconst (v := 4) hx hb (show decode prog_2_method_1_code 13 = .ok (.iconst 4, 1) by decide +kernel) (by decide +kernel) z) (show decode prog_2_method_1_code 14 = .ok (.newarray .int, 2) by decide +kernel) (show decode prog_2_method_1_code 16 = .ok (.putfield 15, 3) by decide +kernel) (by decide) (by decide) (by decide) (by decide) (by decide) (by decide) nf_0_15 rfl rfl rfl (Nat.le_of_ble_eq_true rfl) (fun q2 H locs hP hD hS => ?_)
  refine i_arr (k := 2) (N := 24) (n := 24) (pc := 19) (pc2 := 22) C hin hl iK0 na_int hP hD hS (show decode prog_2_method_1_code 19 = .ok (.aload_n 0, 1) by decide +kernel) (fun z => lv_bipush (v := 24) hx hb (show decode prog_2_method_1_code 20 = .ok (.bipush 24, 2) by decide +kernel) (by decide +kernel) z) (show decode prog_2_method_1_code 22 = .ok (.newarray .int, 2) by decide +kernel) (show decode prog_2_method_1_code 24 = .ok (.putfield 18, 3) by decide +kernel) (by decide) (by decide) (by decide) (by decide) (by decide) (by decide) nf_0_18 rfl rfl rfl (Nat.le_of_ble_eq_true rfl) (fun q3 H locs hP hD hS => ?_)
  refine i_arr (k := 3) (N := 4) (n := 4) (pc := 27) (pc2 := 29) C hin hl iK0 na_int hP hD hS (show decode prog_2_method_1_code 27 = .ok (.aload_n 0, 1) by decide +kernel) (fun z => lv_iconst (v := 4) hx hb (show decode prog_2_method_1_code 28 = .ok (.iconst 4, 1) by decide +kernel) (by decide +kernel) z) (show decode prog_2_method_1_code 29 = .ok (.newarray .int, 2) by decide +kernel) (show decode prog_2_method_1_code 31 = .ok (.putfield 21, 3) by decide +kernel) (by decide) (by decide) (by decide) (by decide) (by decide) (by decide) nf_0_21 rfl rfl rfl (Nat.le_of_ble_eq_true rfl) (fun q4 H locs hP hD hS => ?_)
  obtain ⟨μ, hμ⟩ : ∃ μ : Nat → Nat, μ = (g_kt 2 (g_kt 1 (fun _ => h0) (fun _ => q1)) (g_kt 3 (fun _ => q2) (g_kt 4 (fun _ => q3) (fun _ => q4)))) := ⟨_, rfl⟩
  obtain ⟨M, hM⟩ : ∃ M : g_M, M = (g_kt 2 (g_kt 1 (fun _ => fun _ => 0) (fun _ => fun _ => 0)) (g_kt 3 (fun _ => fun _ => 0) (g_kt 4 (fun _ => fun _ => 0) (fun _ => fun _ => 0)))) := ⟨_, rfl⟩
  have hP9 : va_P D g_cls (g_wld cA μ M S_0) H := by rw [hμ, hM, g_wld_eq]; exact hP
  have hD9 : va_D A (g_wld cA μ M S_0) := by rw [hμ, hM, g_wld_eq]; exact hD
  have hm0 : μ 0 = h0 := by rw [hμ]; rfl
  have hpost : iP0 μ M := by
    rw [hM]
    intro a k
    unfold g_kt
    repeat (first | rfl | (cases Nat.ble _ a))
    all_goals rfl
  clear hμ hM hP hD
  exact W.vret hx hb hr (fun t ht hW => ⟨⟨(μ, M), rfl, ⟨hm0, hpost⟩, by rw [ht]; exact hP9, va_K.moved hW.alike hK, hD9⟩, hS.F ht⟩) hS.2.2 (show decode prog_2_method_1_code 34 = .ok (.return_, 1) by decide +kernel)
set_option maxHeartbeats 4000000 in
set_option maxRecDepth 100000 in
theorem c_init2 (l : Launch) (D : va_G) (cA : Nat → ClassId) (ξ : Nat → Nat) : i_met l D cA ξ ⟨"InTheGarden$Orders", "<init>", "()V"⟩ prog_4_method_1_code 2 100 1 4 2 [.null, .int 0] S_2 iP0 := by
  intro h0 sz
  refine Met.ofW (cc := prog_4_method_1_code) (maxL := 1) (ret := none) (by decide) rfl ?_
  intro p e s m args below meth c s₁ B hml hv
  obtain ⟨rfl, hsz, hP, hK, hD0, hE⟩ := hv
  have hts := atoms_spec (ws := Cond.code ⟨"InTheGarden$Orders", "<init>", "()V"⟩ prog_4_method_1_code 1 none :: g_tbl) B.pre
  have hin : meth.name = "<init>" := (name_of_methodNamed B.named B.method).1
  have hlocks := B.notSynchronized
  have hx := B.exec
  have hb := B.bytes
  have hr := B.returns
  subst hsz
  have hD := hD0.self (sz := s.heap.size)
  generalize hAe : va_A [(h0, (.inr (2, [.null, .int 0]) : va_E))] s.heap.size = A at hD hE ⊢
  have hA : ∀ q : Nat, s.heap.size ≤ q → A q := fun q h => by rw [← hAe]; exact Or.inr h
  have C : i_Cx gR2 prog_4_method_1_code 1 p s m [Value.ref h0].toArray c D cA ξ A := ⟨B.exec, B.bytes, hml, findClass_of_methodNamed B.named, fun w hw => hts w (List.mem_cons_of_mem _ hw), hK, hA, hE⟩
  have hS : va_S A s.heap s.heap [] := va_S.rf
  have hl := lv_entry ([.ref h0]) (n := 1) (Nat.le_of_ble_eq_true rfl)
  rw [lg_entry_eq]
  generalize (lg_sl ([.ref h0]) ++ List.replicate (1 - (lg_sl ([.ref h0])).length) Slot.unset).toArray = ls at hl ⊢
  have hl : lv_has ls 1 [(0, .ref h0)] := hl
  refine i_begin C hl no_2 no_inst no_code (by decide) (by decide) (show decode prog_4_method_1_code 0 = .ok (.aload_n 0, 1) by decide +kernel) (show decode prog_4_method_1_code 1 = .ok (.invokespecial 3, 3) by decide +kernel) ?_
  refine i_arr (k := 0) (N := 4) (n := 4) (pc := 4) (pc2 := 6) C hin hl iK2 na_int hP hD hS (show decode prog_4_method_1_code 4 = .ok (.aload_n 0, 1) by decide +kernel) (fun z => lv_iconst (v := 4) hx hb (show decode prog_4_method_1_code 5 = .ok (.iconst 4, 1) by decide +kernel) (by decide +kernel) z) (show decode prog_4_method_1_code 6 = .ok (.newarray .int, 2) by decide +kernel) (show decode prog_4_method_1_code 8 = .ok (.putfield 9, 3) by decide +kernel) (by decide) (by decide) (by decide) (by decide) (by decide) (by decide) nf_2_9 rfl rfl rfl (Nat.le_of_ble_eq_true rfl) (fun q1 H locs hP hD hS => ?_)
  obtain ⟨μ, hμ⟩ : ∃ μ : Nat → Nat, μ = (g_kt 1 (fun _ => h0) (fun _ => q1)) := ⟨_, rfl⟩
  obtain ⟨M, hM⟩ : ∃ M : g_M, M = (g_kt 1 (fun _ => fun _ => 0) (fun _ => fun _ => 0)) := ⟨_, rfl⟩
  have hP9 : va_P D g_cls (g_wld cA μ M S_2) H := by rw [hμ, hM, g_wld_eq]; exact hP
  have hD9 : va_D A (g_wld cA μ M S_2) := by rw [hμ, hM, g_wld_eq]; exact hD
  have hm0 : μ 0 = h0 := by rw [hμ]; rfl
  have hpost : iP0 μ M := by
    rw [hM]
    intro a k
    unfold g_kt
    repeat (first | rfl | (cases Nat.ble _ a))
    all_goals rfl
  clear hμ hM hP hD
  exact W.vret hx hb hr (fun t ht hW => ⟨⟨(μ, M), rfl, ⟨hm0, hpost⟩, by rw [ht]; exact hP9, va_K.moved hW.alike hK, hD9⟩, hS.F ht⟩) hS.2.2 (show decode prog_4_method_1_code 11 = .ok (.return_, 1) by decide +kernel)
set_option maxHeartbeats 4000000 in
set_option maxRecDepth 100000 in
theorem c_init3 (l : Launch) (D : va_G) (cA : Nat → ClassId) (ξ : Nat → Nat) : i_met l D cA ξ ⟨"InTheGarden$Reader", "<init>", "()V"⟩ prog_5_method_1_code 2 100 2 67 3 [.null, .null, .int 0, .int 0] S_3 iP0 := by
  intro h0 sz
  refine Met.ofW (cc := prog_5_method_1_code) (maxL := 1) (ret := none) (by decide) rfl ?_
  intro p e s m args below meth c s₁ B hml hv
  obtain ⟨rfl, hsz, hP, hK, hD0, hE⟩ := hv
  have hts := atoms_spec (ws := Cond.code ⟨"InTheGarden$Reader", "<init>", "()V"⟩ prog_5_method_1_code 1 none :: g_tbl) B.pre
  have hin : meth.name = "<init>" := (name_of_methodNamed B.named B.method).1
  have hlocks := B.notSynchronized
  have hx := B.exec
  have hb := B.bytes
  have hr := B.returns
  subst hsz
  have hD := hD0.self (sz := s.heap.size)
  generalize hAe : va_A [(h0, (.inr (3, [.null, .null, .int 0, .int 0]) : va_E))] s.heap.size = A at hD hE ⊢
  have hA : ∀ q : Nat, s.heap.size ≤ q → A q := fun q h => by rw [← hAe]; exact Or.inr h
  have C : i_Cx gR3 prog_5_method_1_code 1 p s m [Value.ref h0].toArray c D cA ξ A := ⟨B.exec, B.bytes, hml, findClass_of_methodNamed B.named, fun w hw => hts w (List.mem_cons_of_mem _ hw), hK, hA, hE⟩
  have hS : va_S A s.heap s.heap [] := va_S.rf
  have hl := lv_entry ([.ref h0]) (n := 1) (Nat.le_of_ble_eq_true rfl)
  rw [lg_entry_eq]
  generalize (lg_sl ([.ref h0]) ++ List.replicate (1 - (lg_sl ([.ref h0])).length) Slot.unset).toArray = ls at hl ⊢
  have hl : lv_has ls 1 [(0, .ref h0)] := hl
  refine i_begin C hl no_3 no_inst no_code (by decide) (by decide) (show decode prog_5_method_1_code 0 = .ok (.aload_n 0, 1) by decide +kernel) (show decode prog_5_method_1_code 1 = .ok (.invokespecial 3, 3) by decide +kernel) ?_
  refine i_arr (k := 0) (N := 64) (n := 64) (pc := 4) (pc2 := 7) C hin hl iK3 na_int hP hD hS (show decode prog_5_method_1_code 4 = .ok (.aload_n 0, 1) by decide +kernel) (fun z => lv_bipush (v := 64) hx hb (show decode prog_5_method_1_code 5 = .ok (.bipush 64, 2) by decide +kernel) (by decide +kernel) z) (show decode prog_5_method_1_code 7 = .ok (.newarray .int, 2) by decide +kernel) (show decode prog_5_method_1_code 9 = .ok (.putfield 9, 3) by decide +kernel) (by decide) (by decide) (by decide) (by decide) (by decide) (by decide) nf_3_9 rfl rfl rfl (Nat.le_of_ble_eq_true rfl) (fun q1 H locs hP hD hS => ?_)
  refine i_arr (k := 1) (N := 3) (n := 3) (pc := 12) (pc2 := 14) C hin hl iK3 na_int hP hD hS (show decode prog_5_method_1_code 12 = .ok (.aload_n 0, 1) by decide +kernel) (fun z => lv_iconst (v := 3) hx hb (show decode prog_5_method_1_code 13 = .ok (.iconst 3, 1) by decide +kernel) (by decide +kernel) z) (show decode prog_5_method_1_code 14 = .ok (.newarray .int, 2) by decide +kernel) (show decode prog_5_method_1_code 16 = .ok (.putfield 15, 3) by decide +kernel) (by decide) (by decide) (by decide) (by decide) (by decide) (by decide) nf_3_15 rfl rfl rfl (Nat.le_of_ble_eq_true rfl) (fun q2 H locs hP hD hS => ?_)
  obtain ⟨μ, hμ⟩ : ∃ μ : Nat → Nat, μ = (g_kt 1 (fun _ => h0) (g_kt 2 (fun _ => q1) (fun _ => q2))) := ⟨_, rfl⟩
  obtain ⟨M, hM⟩ : ∃ M : g_M, M = (g_kt 1 (fun _ => fun _ => 0) (g_kt 2 (fun _ => fun _ => 0) (fun _ => fun _ => 0))) := ⟨_, rfl⟩
  have hP9 : va_P D g_cls (g_wld cA μ M S_3) H := by rw [hμ, hM, g_wld_eq]; exact hP
  have hD9 : va_D A (g_wld cA μ M S_3) := by rw [hμ, hM, g_wld_eq]; exact hD
  have hm0 : μ 0 = h0 := by rw [hμ]; rfl
  have hpost : iP0 μ M := by
    rw [hM]
    intro a k
    unfold g_kt
    repeat (first | rfl | (cases Nat.ble _ a))
    all_goals rfl
  clear hμ hM hP hD
  exact W.vret hx hb hr (fun t ht hW => ⟨⟨(μ, M), rfl, ⟨hm0, hpost⟩, by rw [ht]; exact hP9, va_K.moved hW.alike hK, hD9⟩, hS.F ht⟩) hS.2.2 (show decode prog_5_method_1_code 19 = .ok (.return_, 1) by decide +kernel)
set_option maxHeartbeats 4000000 in
set_option maxRecDepth 100000 in
theorem c_init4 (l : Launch) (D : va_G) (cA : Nat → ClassId) (ξ : Nat → Nat) : i_met l D cA ξ ⟨"InTheGarden$Round", "<init>", "()V"⟩ prog_6_method_1_code 2 100 5 40 4 [.null, .null, .null, .null, .null, .int 0, .int 0, .int 0, .int 0, .int 0] S_4 iP0 := by
  intro h0 sz
  refine Met.ofW (cc := prog_6_method_1_code) (maxL := 1) (ret := none) (by decide) rfl ?_
  intro p e s m args below meth c s₁ B hml hv
  obtain ⟨rfl, hsz, hP, hK, hD0, hE⟩ := hv
  have hts := atoms_spec (ws := Cond.code ⟨"InTheGarden$Round", "<init>", "()V"⟩ prog_6_method_1_code 1 none :: g_tbl) B.pre
  have hin : meth.name = "<init>" := (name_of_methodNamed B.named B.method).1
  have hlocks := B.notSynchronized
  have hx := B.exec
  have hb := B.bytes
  have hr := B.returns
  subst hsz
  have hD := hD0.self (sz := s.heap.size)
  generalize hAe : va_A [(h0, (.inr (4, [.null, .null, .null, .null, .null, .int 0, .int 0, .int 0, .int 0, .int 0]) : va_E))] s.heap.size = A at hD hE ⊢
  have hA : ∀ q : Nat, s.heap.size ≤ q → A q := fun q h => by rw [← hAe]; exact Or.inr h
  have C : i_Cx gR4 prog_6_method_1_code 1 p s m [Value.ref h0].toArray c D cA ξ A := ⟨B.exec, B.bytes, hml, findClass_of_methodNamed B.named, fun w hw => hts w (List.mem_cons_of_mem _ hw), hK, hA, hE⟩
  have hS : va_S A s.heap s.heap [] := va_S.rf
  have hl := lv_entry ([.ref h0]) (n := 1) (Nat.le_of_ble_eq_true rfl)
  rw [lg_entry_eq]
  generalize (lg_sl ([.ref h0]) ++ List.replicate (1 - (lg_sl ([.ref h0])).length) Slot.unset).toArray = ls at hl ⊢
  have hl : lv_has ls 1 [(0, .ref h0)] := hl
  refine i_begin C hl no_4 no_inst no_code (by decide) (by decide) (show decode prog_6_method_1_code 0 = .ok (.aload_n 0, 1) by decide +kernel) (show decode prog_6_method_1_code 1 = .ok (.invokespecial 3, 3) by decide +kernel) ?_
  refine i_arr (k := 0) (N := 8) (n := 8) (pc := 4) (pc2 := 7) C hin hl iK4 na_int hP hD hS (show decode prog_6_method_1_code 4 = .ok (.aload_n 0, 1) by decide +kernel) (fun z => lv_bipush (v := 8) hx hb (show decode prog_6_method_1_code 5 = .ok (.bipush 8, 2) by decide +kernel) (by decide +kernel) z) (show decode prog_6_method_1_code 7 = .ok (.newarray .int, 2) by decide +kernel) (show decode prog_6_method_1_code 9 = .ok (.putfield 9, 3) by decide +kernel) (by decide) (by decide) (by decide) (by decide) (by decide) (by decide) nf_4_9 rfl rfl rfl (Nat.le_of_ble_eq_true rfl) (fun q1 H locs hP hD hS => ?_)
  refine i_arr (k := 1) (N := 8) (n := 8) (pc := 12) (pc2 := 15) C hin hl iK4 na_int hP hD hS (show decode prog_6_method_1_code 12 = .ok (.aload_n 0, 1) by decide +kernel) (fun z => lv_bipush (v := 8) hx hb (show decode prog_6_method_1_code 13 = .ok (.bipush 8, 2) by decide +kernel) (by decide +kernel) z) (show decode prog_6_method_1_code 15 = .ok (.newarray .int, 2) by decide +kernel) (show decode prog_6_method_1_code 17 = .ok (.putfield 15, 3) by decide +kernel) (by decide) (by decide) (by decide) (by decide) (by decide) (by decide) nf_4_15 rfl rfl rfl (Nat.le_of_ble_eq_true rfl) (fun q2 H locs hP hD hS => ?_)
  refine i_arr (k := 2) (N := 8) (n := 8) (pc := 20) (pc2 := 23) C hin hl iK4 na_int hP hD hS (show decode prog_6_method_1_code 20 = .ok (.aload_n 0, 1) by decide +kernel) (fun z => lv_bipush (v := 8) hx hb (show decode prog_6_method_1_code 21 = .ok (.bipush 8, 2) by decide +kernel) (by decide +kernel) z) (show decode prog_6_method_1_code 23 = .ok (.newarray .int, 2) by decide +kernel) (show decode prog_6_method_1_code 25 = .ok (.putfield 18, 3) by decide +kernel) (by decide) (by decide) (by decide) (by decide) (by decide) (by decide) nf_4_18 rfl rfl rfl (Nat.le_of_ble_eq_true rfl) (fun q3 H locs hP hD hS => ?_)
  refine i_arr (k := 3) (N := 8) (n := 8) (pc := 28) (pc2 := 31) C hin hl iK4 na_int hP hD hS (show decode prog_6_method_1_code 28 = .ok (.aload_n 0, 1) by decide +kernel) (fun z => lv_bipush (v := 8) hx hb (show decode prog_6_method_1_code 29 = .ok (.bipush 8, 2) by decide +kernel) (by decide +kernel) z) (show decode prog_6_method_1_code 31 = .ok (.newarray .int, 2) by decide +kernel) (show decode prog_6_method_1_code 33 = .ok (.putfield 21, 3) by decide +kernel) (by decide) (by decide) (by decide) (by decide) (by decide) (by decide) nf_4_21 rfl rfl rfl (Nat.le_of_ble_eq_true rfl) (fun q4 H locs hP hD hS => ?_)
  refine i_arr (k := 4) (N := 8) (n := 8) (pc := 36) (pc2 := 39) C hin hl iK4 na_int hP hD hS (show decode prog_6_method_1_code 36 = .ok (.aload_n 0, 1) by decide +kernel) (fun z => lv_bipush (v := 8) hx hb (show decode prog_6_method_1_code 37 = .ok (.bipush 8, 2) by decide +kernel) (by decide +kernel) z) (show decode prog_6_method_1_code 39 = .ok (.newarray .int, 2) by decide +kernel) (show decode prog_6_method_1_code 41 = .ok (.putfield 24, 3) by decide +kernel) (by decide) (by decide) (by decide) (by decide) (by decide) (by decide) nf_4_24 rfl rfl rfl (Nat.le_of_ble_eq_true rfl) (fun q5 H locs hP hD hS => ?_)
  obtain ⟨μ, hμ⟩ : ∃ μ : Nat → Nat, μ = (g_kt 3 (g_kt 1 (fun _ => h0) (g_kt 2 (fun _ => q1) (fun _ => q2))) (g_kt 4 (fun _ => q3) (g_kt 5 (fun _ => q4) (fun _ => q5)))) := ⟨_, rfl⟩
  obtain ⟨M, hM⟩ : ∃ M : g_M, M = (g_kt 3 (g_kt 1 (fun _ => fun _ => 0) (g_kt 2 (fun _ => fun _ => 0) (fun _ => fun _ => 0))) (g_kt 4 (fun _ => fun _ => 0) (g_kt 5 (fun _ => fun _ => 0) (fun _ => fun _ => 0)))) := ⟨_, rfl⟩
  have hP9 : va_P D g_cls (g_wld cA μ M S_4) H := by rw [hμ, hM, g_wld_eq]; exact hP
  have hD9 : va_D A (g_wld cA μ M S_4) := by rw [hμ, hM, g_wld_eq]; exact hD
  have hm0 : μ 0 = h0 := by rw [hμ]; rfl
  have hpost : iP0 μ M := by
    rw [hM]
    intro a k
    unfold g_kt
    repeat (first | rfl | (cases Nat.ble _ a))
    all_goals rfl
  clear hμ hM hP hD
  exact W.vret hx hb hr (fun t ht hW => ⟨⟨(μ, M), rfl, ⟨hm0, hpost⟩, by rw [ht]; exact hP9, va_K.moved hW.alike hK, hD9⟩, hS.F ht⟩) hS.2.2 (show decode prog_6_method_1_code 44 = .ok (.return_, 1) by decide +kernel)
set_option maxHeartbeats 4000000 in
set_option maxRecDepth 100000 in
theorem c_init5 (l : Launch) (D : va_G) (cA : Nat → ClassId) (ξ : Nat → Nat) : i_met l D cA ξ ⟨"InTheGarden$Seeker", "<init>", "()V"⟩ prog_7_method_1_code 2 100 0 0 5 [.int 0, .int 0, .int 0, .int 0, .int 0] S_5 iP0 := by
  intro h0 sz
  refine Met.ofW (cc := prog_7_method_1_code) (maxL := 1) (ret := none) (by decide) rfl ?_
  intro p e s m args below meth c s₁ B hml hv
  obtain ⟨rfl, hsz, hP, hK, hD0, hE⟩ := hv
  have hts := atoms_spec (ws := Cond.code ⟨"InTheGarden$Seeker", "<init>", "()V"⟩ prog_7_method_1_code 1 none :: g_tbl) B.pre
  have hin : meth.name = "<init>" := (name_of_methodNamed B.named B.method).1
  have hlocks := B.notSynchronized
  have hx := B.exec
  have hb := B.bytes
  have hr := B.returns
  subst hsz
  have hD := hD0.self (sz := s.heap.size)
  generalize hAe : va_A [(h0, (.inr (5, [.int 0, .int 0, .int 0, .int 0, .int 0]) : va_E))] s.heap.size = A at hD hE ⊢
  have hA : ∀ q : Nat, s.heap.size ≤ q → A q := fun q h => by rw [← hAe]; exact Or.inr h
  have C : i_Cx gR5 prog_7_method_1_code 1 p s m [Value.ref h0].toArray c D cA ξ A := ⟨B.exec, B.bytes, hml, findClass_of_methodNamed B.named, fun w hw => hts w (List.mem_cons_of_mem _ hw), hK, hA, hE⟩
  have hS : va_S A s.heap s.heap [] := va_S.rf
  have hl := lv_entry ([.ref h0]) (n := 1) (Nat.le_of_ble_eq_true rfl)
  rw [lg_entry_eq]
  generalize (lg_sl ([.ref h0]) ++ List.replicate (1 - (lg_sl ([.ref h0])).length) Slot.unset).toArray = ls at hl ⊢
  have hl : lv_has ls 1 [(0, .ref h0)] := hl
  refine i_begin C hl no_5 no_inst no_code (by decide) (by decide) (show decode prog_7_method_1_code 0 = .ok (.aload_n 0, 1) by decide +kernel) (show decode prog_7_method_1_code 1 = .ok (.invokespecial 3, 3) by decide +kernel) ?_
  have hP9 : va_P D g_cls (g_wld cA (fun _ => h0) (fun _ => fun _ => 0) S_5) s.heap := hP
  have hD9 : va_D A (g_wld cA (fun _ => h0) (fun _ => fun _ => 0) S_5) := hD
  have hpost : iP0 (fun _ => h0) (fun _ => fun _ => 0) := fun a k => rfl
  exact W.vret hx hb hr (fun t ht hW => ⟨⟨((fun _ => h0), (fun _ => fun _ => 0)), rfl, ⟨rfl, hpost⟩, by rw [ht]; exact hP9, va_K.moved hW.alike hK, hD9⟩, hS.F ht⟩) hS.2.2 (show decode prog_7_method_1_code 4 = .ok (.return_, 1) by decide +kernel)
set_option maxHeartbeats 4000000 in
set_option maxRecDepth 100000 in
theorem c_init6 (l : Launch) (D : va_G) (cA : Nat → ClassId) (ξ : Nat → Nat) : i_met l D cA ξ ⟨"InTheGarden$Sight", "<init>", "()V"⟩ prog_8_method_1_code 2 100 1 1024 6 [.null] S_6 iP0 := by
  intro h0 sz
  refine Met.ofW (cc := prog_8_method_1_code) (maxL := 1) (ret := none) (by decide) rfl ?_
  intro p e s m args below meth c s₁ B hml hv
  obtain ⟨rfl, hsz, hP, hK, hD0, hE⟩ := hv
  have hts := atoms_spec (ws := Cond.code ⟨"InTheGarden$Sight", "<init>", "()V"⟩ prog_8_method_1_code 1 none :: g_tbl) B.pre
  have hin : meth.name = "<init>" := (name_of_methodNamed B.named B.method).1
  have hlocks := B.notSynchronized
  have hx := B.exec
  have hb := B.bytes
  have hr := B.returns
  subst hsz
  have hD := hD0.self (sz := s.heap.size)
  generalize hAe : va_A [(h0, (.inr (6, [.null]) : va_E))] s.heap.size = A at hD hE ⊢
  have hA : ∀ q : Nat, s.heap.size ≤ q → A q := fun q h => by rw [← hAe]; exact Or.inr h
  have C : i_Cx gR6 prog_8_method_1_code 1 p s m [Value.ref h0].toArray c D cA ξ A := ⟨B.exec, B.bytes, hml, findClass_of_methodNamed B.named, fun w hw => hts w (List.mem_cons_of_mem _ hw), hK, hA, hE⟩
  have hS : va_S A s.heap s.heap [] := va_S.rf
  have hl := lv_entry ([.ref h0]) (n := 1) (Nat.le_of_ble_eq_true rfl)
  rw [lg_entry_eq]
  generalize (lg_sl ([.ref h0]) ++ List.replicate (1 - (lg_sl ([.ref h0])).length) Slot.unset).toArray = ls at hl ⊢
  have hl : lv_has ls 1 [(0, .ref h0)] := hl
  refine i_begin C hl no_6 no_inst no_code (by decide) (by decide) (show decode prog_8_method_1_code 0 = .ok (.aload_n 0, 1) by decide +kernel) (show decode prog_8_method_1_code 1 = .ok (.invokespecial 3, 3) by decide +kernel) ?_
  refine i_arr (k := 0) (N := 1024) (n := 1024) (pc := 4) (pc2 := 8) C hin hl iK6 na_int hP hD hS (show decode prog_8_method_1_code 4 = .ok (.aload_n 0, 1) by decide +kernel) (fun z => lv_sipush (v := 1024) hx hb (show decode prog_8_method_1_code 5 = .ok (.sipush 1024, 3) by decide +kernel) (by decide +kernel) z) (show decode prog_8_method_1_code 8 = .ok (.newarray .int, 2) by decide +kernel) (show decode prog_8_method_1_code 10 = .ok (.putfield 11, 3) by decide +kernel) (by decide) (by decide) (by decide) (by decide) (by decide) (by decide) nf_6_11 rfl rfl rfl (Nat.le_of_ble_eq_true rfl) (fun q1 H locs hP hD hS => ?_)
  obtain ⟨μ, hμ⟩ : ∃ μ : Nat → Nat, μ = (g_kt 1 (fun _ => h0) (fun _ => q1)) := ⟨_, rfl⟩
  obtain ⟨M, hM⟩ : ∃ M : g_M, M = (g_kt 1 (fun _ => fun _ => 0) (fun _ => fun _ => 0)) := ⟨_, rfl⟩
  have hP9 : va_P D g_cls (g_wld cA μ M S_6) H := by rw [hμ, hM, g_wld_eq]; exact hP
  have hD9 : va_D A (g_wld cA μ M S_6) := by rw [hμ, hM, g_wld_eq]; exact hD
  have hm0 : μ 0 = h0 := by rw [hμ]; rfl
  have hpost : iP0 μ M := by
    rw [hM]
    intro a k
    unfold g_kt
    repeat (first | rfl | (cases Nat.ble _ a))
    all_goals rfl
  clear hμ hM hP hD
  exact W.vret hx hb hr (fun t ht hW => ⟨⟨(μ, M), rfl, ⟨hm0, hpost⟩, by rw [ht]; exact hP9, va_K.moved hW.alike hK, hD9⟩, hS.F ht⟩) hS.2.2 (show decode prog_8_method_1_code 13 = .ok (.return_, 1) by decide +kernel)
set_option maxHeartbeats 4000000 in
set_option maxRecDepth 100000 in
theorem c_init7 (l : Launch) (D : va_G) (cA : Nat → ClassId) (ξ : Nat → Nat) : i_met l D cA ξ ⟨"InTheGarden$Told", "<init>", "()V"⟩ prog_9_method_1_code 2 100 2 15 7 [.null, .null, .int 0] S_7 iP7 := by
  intro h0 sz
  refine Met.ofW (cc := prog_9_method_1_code) (maxL := 1) (ret := none) (by decide) rfl ?_
  intro p e s m args below meth c s₁ B hml hv
  obtain ⟨rfl, hsz, hP, hK, hD0, hE⟩ := hv
  have hts := atoms_spec (ws := Cond.code ⟨"InTheGarden$Told", "<init>", "()V"⟩ prog_9_method_1_code 1 none :: g_tbl) B.pre
  have hin : meth.name = "<init>" := (name_of_methodNamed B.named B.method).1
  have hlocks := B.notSynchronized
  have hx := B.exec
  have hb := B.bytes
  have hr := B.returns
  subst hsz
  have hD := hD0.self (sz := s.heap.size)
  generalize hAe : va_A [(h0, (.inr (7, [.null, .null, .int 0]) : va_E))] s.heap.size = A at hD hE ⊢
  have hA : ∀ q : Nat, s.heap.size ≤ q → A q := fun q h => by rw [← hAe]; exact Or.inr h
  have C : i_Cx gR7 prog_9_method_1_code 1 p s m [Value.ref h0].toArray c D cA ξ A := ⟨B.exec, B.bytes, hml, findClass_of_methodNamed B.named, fun w hw => hts w (List.mem_cons_of_mem _ hw), hK, hA, hE⟩
  have hS : va_S A s.heap s.heap [] := va_S.rf
  have hl := lv_entry ([.ref h0]) (n := 1) (Nat.le_of_ble_eq_true rfl)
  rw [lg_entry_eq]
  generalize (lg_sl ([.ref h0]) ++ List.replicate (1 - (lg_sl ([.ref h0])).length) Slot.unset).toArray = ls at hl ⊢
  have hl : lv_has ls 1 [(0, .ref h0)] := hl
  refine i_begin C hl no_7 no_inst no_code (by decide) (by decide) (show decode prog_9_method_1_code 0 = .ok (.aload_n 0, 1) by decide +kernel) (show decode prog_9_method_1_code 1 = .ok (.invokespecial 3, 3) by decide +kernel) ?_
  refine i_arr (k := 0) (N := 7) (n := 7) (pc := 4) (pc2 := 7) C hin hl iK7 na_int hP hD hS (show decode prog_9_method_1_code 4 = .ok (.aload_n 0, 1) by decide +kernel) (fun z => lv_bipush (v := 7) hx hb (show decode prog_9_method_1_code 5 = .ok (.bipush 7, 2) by decide +kernel) (by decide +kernel) z) (show decode prog_9_method_1_code 7 = .ok (.newarray .int, 2) by decide +kernel) (show decode prog_9_method_1_code 9 = .ok (.putfield 9, 3) by decide +kernel) (by decide) (by decide) (by decide) (by decide) (by decide) (by decide) nf_7_9 rfl rfl rfl (Nat.le_of_ble_eq_true rfl) (fun q1 H locs hP hD hS => ?_)
  refine i_arr (k := 1) (N := 8) (n := 8) (pc := 12) (pc2 := 15) C hin hl iK7 na_int hP hD hS (show decode prog_9_method_1_code 12 = .ok (.aload_n 0, 1) by decide +kernel) (fun z => lv_bipush (v := 8) hx hb (show decode prog_9_method_1_code 13 = .ok (.bipush 8, 2) by decide +kernel) (by decide +kernel) z) (show decode prog_9_method_1_code 15 = .ok (.newarray .int, 2) by decide +kernel) (show decode prog_9_method_1_code 17 = .ok (.putfield 15, 3) by decide +kernel) (by decide) (by decide) (by decide) (by decide) (by decide) (by decide) nf_7_15 rfl rfl rfl (Nat.le_of_ble_eq_true rfl) (fun q2 H locs hP hD hS => ?_)
  refine va_getsN hx hb hE.2.2.2.1 hS C.2.2.2.1 (hE.2.2.2.2.2.2.2.2.2.2.2.2.2.2.2.2.2.2.use rfl) (fun _ h => h) (show decode prog_9_method_1_code 20 = .ok (.getstatic 18, 3) by decide +kernel) ?_
  refine lv_iconst (v := 0) hx hb (show decode prog_9_method_1_code 23 = .ok (.iconst 0, 1) by decide +kernel) (by decide +kernel) ?_
  refine lv_aload_n hx hb (show decode prog_9_method_1_code 24 = .ok (.aload_n 0, 1) by decide +kernel) rfl (lv_at hl 0 rfl) ?_
  refine va_get (D := D) (cl := g_cls) (ci := 7) hx hb C.2.2.2.2.1 gI7 C.2.2.2.1 hK hP 0 rfl rfl 0 (by decide) (C.2.2.2.2.1 _ nf_7_9) (fun _ h9 => h9) rfl (show decode prog_9_method_1_code 25 = .ok (.getfield 9, 3) by decide +kernel) ?_
  refine lv_iconst (v := 0) hx hb (show decode prog_9_method_1_code 28 = .ok (.iconst 0, 1) by decide +kernel) (by decide +kernel) ?_
  refine lv_bipush (v := 7) hx hb (show decode prog_9_method_1_code 29 = .ok (.bipush 7, 2) by decide +kernel) (by decide +kernel) ?_
  refine i_copyT hx hb (hml.trans hl.1.symm) C.2.2.2.1 (C.2.2.2.2.1 _ lm_7_21) (C.2.2.2.2.1 _ lw_native) (C.2.2.2.2.1 _ lw_static_copy) (C.2.2.2.2.1 _ lw_ini_System) hK hP hD hS hE.1 1 0 rfl rfl (by decide) (by decide) (by decide) (by decide) (by decide +kernel) (show decode prog_9_method_1_code 31 = .ok (.invokestatic 21, 3) by decide +kernel) (fun H locs hP hD hS => ?_)
  have hP9 : va_P D g_cls (g_wld cA (g_kt 1 (fun _ => h0) (g_kt 2 (fun _ => q1) (fun _ => q2))) (fun a => if a = 1 then va_cpy (fun j => (g_st 1).getD j 0) (fun _ => 0) 0 0 7 else fun _ => 0) S_7) H := hP
  have hD9 : va_D A (g_wld cA (g_kt 1 (fun _ => h0) (g_kt 2 (fun _ => q1) (fun _ => q2))) (fun a => if a = 1 then va_cpy (fun j => (g_st 1).getD j 0) (fun _ => 0) 0 0 7 else fun _ => 0) S_7) := hD
  have hpost : iP7 (g_kt 1 (fun _ => h0) (g_kt 2 (fun _ => q1) (fun _ => q2))) (fun a => if a = 1 then va_cpy (fun j => (g_st 1).getD j 0) (fun _ => 0) 0 0 7 else fun _ => 0) := ⟨fun k hk => by rcases (show k = 0 ∨ k = 1 ∨ k = 2 ∨ k = 3 ∨ k = 4 ∨ k = 5 ∨ k = 6 by omega) with rfl | rfl | rfl | rfl | rfl | rfl | rfl <;> decide +kernel, rfl, fun i hi => absurd hi (by show ¬ i < a0 3; rw [show a0 3 = 0 from by decide]; omega)⟩
  exact W.vret hx hb hr (fun t ht hW => ⟨⟨((g_kt 1 (fun _ => h0) (g_kt 2 (fun _ => q1) (fun _ => q2))), (fun a => if a = 1 then va_cpy (fun j => (g_st 1).getD j 0) (fun _ => 0) 0 0 7 else fun _ => 0)), rfl, ⟨rfl, hpost⟩, by rw [ht]; exact hP9, va_K.moved hW.alike hK, hD9⟩, hS.F ht⟩) hS.2.2 (show decode prog_9_method_1_code 34 = .ok (.return_, 1) by decide +kernel)
set_option maxHeartbeats 4000000 in
set_option maxRecDepth 100000 in
theorem c_init1 (l : Launch) (D : va_G) (cA : Nat → ClassId) (ξ : Nat → Nat) : i_met l D cA ξ ⟨"InTheGarden$Garden", "<init>", "()V"⟩ prog_3_method_1_code 5 300 11 312 1 [.int 0, .int 0, .int 0, .null, .null, .null, .null, .null, .null, .null, .null, .null, .null, .null] SG iP1 := by
  intro h0 sz
  refine Met.ofW (cc := prog_3_method_1_code) (maxL := 1) (ret := none) (by decide) rfl ?_
  intro p e s m args below meth c s₁ B hml hv
  obtain ⟨rfl, hsz, hP, hK, hD0, hE⟩ := hv
  have hts := atoms_spec (ws := Cond.code ⟨"InTheGarden$Garden", "<init>", "()V"⟩ prog_3_method_1_code 1 none :: g_tbl) B.pre
  have hin : meth.name = "<init>" := (name_of_methodNamed B.named B.method).1
  have hlocks := B.notSynchronized
  have hx := B.exec
  have hb := B.bytes
  have hr := B.returns
  subst hsz
  have hD := hD0.self (sz := s.heap.size)
  generalize hAe : va_A [(h0, (.inr (1, [.int 0, .int 0, .int 0, .null, .null, .null, .null, .null, .null, .null, .null, .null, .null, .null]) : va_E))] s.heap.size = A at hD hE ⊢
  have hA : ∀ q : Nat, s.heap.size ≤ q → A q := fun q h => by rw [← hAe]; exact Or.inr h
  have C : i_Cx gR1 prog_3_method_1_code 1 p s m [Value.ref h0].toArray c D cA ξ A := ⟨B.exec, B.bytes, hml, findClass_of_methodNamed B.named, fun w hw => hts w (List.mem_cons_of_mem _ hw), hK, hA, hE⟩
  have hS : va_S A s.heap s.heap [] := va_S.rf
  have hl := lv_entry ([.ref h0]) (n := 1) (Nat.le_of_ble_eq_true rfl)
  rw [lg_entry_eq]
  generalize (lg_sl ([.ref h0]) ++ List.replicate (1 - (lg_sl ([.ref h0])).length) Slot.unset).toArray = ls at hl ⊢
  have hl : lv_has ls 1 [(0, .ref h0)] := hl
  refine i_begin C hl no_1 no_inst no_code (by decide) (by decide) (show decode prog_3_method_1_code 0 = .ok (.aload_n 0, 1) by decide +kernel) (show decode prog_3_method_1_code 1 = .ok (.invokespecial 3, 3) by decide +kernel) ?_
  refine lv_aload_n hx hb (show decode prog_3_method_1_code 4 = .ok (.aload_n 0, 1) by decide +kernel) rfl (lv_at hl 0 rfl) ?_
  refine lv_iconst (v := 1) hx hb (show decode prog_3_method_1_code 5 = .ok (.iconst 1, 1) by decide +kernel) (by decide +kernel) ?_
  refine i_put (pc := 6) C iK1 (k := 0) (by decide) nf_1_9 rfl rfl rfl rfl (Nat.le_of_ble_eq_true rfl) hP hD hS (show decode prog_3_method_1_code 6 = .ok (.putfield 9, 3) by decide +kernel) (fun H locs hP hD hS => ?_)
  refine i_arr (k := 3) (N := 8) (n := 8) (pc := 9) (pc2 := 12) C hin hl iK1 na_int hP hD hS (show decode prog_3_method_1_code 9 = .ok (.aload_n 0, 1) by decide +kernel) (fun z => lv_bipush (v := 8) hx hb (show decode prog_3_method_1_code 10 = .ok (.bipush 8, 2) by decide +kernel) (by decide +kernel) z) (show decode prog_3_method_1_code 12 = .ok (.newarray .int, 2) by decide +kernel) (show decode prog_3_method_1_code 14 = .ok (.putfield 15, 3) by decide +kernel) (by decide) (by decide) (by decide) (by decide) (by decide) (by decide) nf_1_15 rfl rfl rfl (Nat.le_of_ble_eq_true rfl) (fun q1 H locs hP hD hS => ?_)
  refine i_arr (k := 4) (N := 8) (n := 8) (pc := 17) (pc2 := 20) C hin hl iK1 na_int hP hD hS (show decode prog_3_method_1_code 17 = .ok (.aload_n 0, 1) by decide +kernel) (fun z => lv_bipush (v := 8) hx hb (show decode prog_3_method_1_code 18 = .ok (.bipush 8, 2) by decide +kernel) (by decide +kernel) z) (show decode prog_3_method_1_code 20 = .ok (.newarray .int, 2) by decide +kernel) (show decode prog_3_method_1_code 22 = .ok (.putfield 19, 3) by decide +kernel) (by decide) (by decide) (by decide) (by decide) (by decide) (by decide) nf_1_19 rfl rfl rfl (Nat.le_of_ble_eq_true rfl) (fun q2 H locs hP hD hS => ?_)
  refine i_arr (k := 5) (N := 8) (n := 8) (pc := 25) (pc2 := 28) C hin hl iK1 na_int hP hD hS (show decode prog_3_method_1_code 25 = .ok (.aload_n 0, 1) by decide +kernel) (fun z => lv_bipush (v := 8) hx hb (show decode prog_3_method_1_code 26 = .ok (.bipush 8, 2) by decide +kernel) (by decide +kernel) z) (show decode prog_3_method_1_code 28 = .ok (.newarray .int, 2) by decide +kernel) (show decode prog_3_method_1_code 30 = .ok (.putfield 22, 3) by decide +kernel) (by decide) (by decide) (by decide) (by decide) (by decide) (by decide) nf_1_22 rfl rfl rfl (Nat.le_of_ble_eq_true rfl) (fun q3 H locs hP hD hS => ?_)
  refine i_arr (k := 6) (N := 8) (n := 8) (pc := 33) (pc2 := 36) C hin hl iK1 na_int hP hD hS (show decode prog_3_method_1_code 33 = .ok (.aload_n 0, 1) by decide +kernel) (fun z => lv_bipush (v := 8) hx hb (show decode prog_3_method_1_code 34 = .ok (.bipush 8, 2) by decide +kernel) (by decide +kernel) z) (show decode prog_3_method_1_code 36 = .ok (.newarray .int, 2) by decide +kernel) (show decode prog_3_method_1_code 38 = .ok (.putfield 25, 3) by decide +kernel) (by decide) (by decide) (by decide) (by decide) (by decide) (by decide) nf_1_25 rfl rfl rfl (Nat.le_of_ble_eq_true rfl) (fun q4 H locs hP hD hS => ?_)
  refine i_arr (k := 7) (N := 8) (n := 8) (pc := 41) (pc2 := 44) C hin hl iK1 na_int hP hD hS (show decode prog_3_method_1_code 41 = .ok (.aload_n 0, 1) by decide +kernel) (fun z => lv_bipush (v := 8) hx hb (show decode prog_3_method_1_code 42 = .ok (.bipush 8, 2) by decide +kernel) (by decide +kernel) z) (show decode prog_3_method_1_code 44 = .ok (.newarray .int, 2) by decide +kernel) (show decode prog_3_method_1_code 46 = .ok (.putfield 28, 3) by decide +kernel) (by decide) (by decide) (by decide) (by decide) (by decide) (by decide) nf_1_28 rfl rfl rfl (Nat.le_of_ble_eq_true rfl) (fun q5 H locs hP hD hS => ?_)
  refine i_arr (k := 8) (N := 8) (n := 8) (pc := 49) (pc2 := 52) C hin hl iK1 na_int hP hD hS (show decode prog_3_method_1_code 49 = .ok (.aload_n 0, 1) by decide +kernel) (fun z => lv_bipush (v := 8) hx hb (show decode prog_3_method_1_code 50 = .ok (.bipush 8, 2) by decide +kernel) (by decide +kernel) z) (show decode prog_3_method_1_code 52 = .ok (.newarray .int, 2) by decide +kernel) (show decode prog_3_method_1_code 54 = .ok (.putfield 31, 3) by decide +kernel) (by decide) (by decide) (by decide) (by decide) (by decide) (by decide) nf_1_31 rfl rfl rfl (Nat.le_of_ble_eq_true rfl) (fun q6 H locs hP hD hS => ?_)
  refine i_arr (k := 9) (N := 8) (n := 8) (pc := 57) (pc2 := 60) C hin hl iK1 na_int hP hD hS (show decode prog_3_method_1_code 57 = .ok (.aload_n 0, 1) by decide +kernel) (fun z => lv_bipush (v := 8) hx hb (show decode prog_3_method_1_code 58 = .ok (.bipush 8, 2) by decide +kernel) (by decide +kernel) z) (show decode prog_3_method_1_code 60 = .ok (.newarray .int, 2) by decide +kernel) (show decode prog_3_method_1_code 62 = .ok (.putfield 34, 3) by decide +kernel) (by decide) (by decide) (by decide) (by decide) (by decide) (by decide) nf_1_34 rfl rfl rfl (Nat.le_of_ble_eq_true rfl) (fun q7 H locs hP hD hS => ?_)
  refine i_arr (k := 10) (N := 64) (n := 64) (pc := 65) (pc2 := 68) C hin hl iK1 na_int hP hD hS (show decode prog_3_method_1_code 65 = .ok (.aload_n 0, 1) by decide +kernel) (fun z => lv_bipush (v := 64) hx hb (show decode prog_3_method_1_code 66 = .ok (.bipush 64, 2) by decide +kernel) (by decide +kernel) z) (show decode prog_3_method_1_code 68 = .ok (.newarray .int, 2) by decide +kernel) (show decode prog_3_method_1_code 70 = .ok (.putfield 37, 3) by decide +kernel) (by decide) (by decide) (by decide) (by decide) (by decide) (by decide) nf_1_37 rfl rfl rfl (Nat.le_of_ble_eq_true rfl) (fun q8 H locs hP hD hS => ?_)
  refine i_arr (k := 11) (N := 64) (n := 64) (pc := 73) (pc2 := 76) C hin hl iK1 na_int hP hD hS (show decode prog_3_method_1_code 73 = .ok (.aload_n 0, 1) by decide +kernel) (fun z => lv_bipush (v := 64) hx hb (show decode prog_3_method_1_code 74 = .ok (.bipush 64, 2) by decide +kernel) (by decide +kernel) z) (show decode prog_3_method_1_code 76 = .ok (.newarray .int, 2) by decide +kernel) (show decode prog_3_method_1_code 78 = .ok (.putfield 40, 3) by decide +kernel) (by decide) (by decide) (by decide) (by decide) (by decide) (by decide) nf_1_40 rfl rfl rfl (Nat.le_of_ble_eq_true rfl) (fun q9 H locs hP hD hS => ?_)
  refine i_arr (k := 12) (N := 64) (n := 64) (pc := 81) (pc2 := 84) C hin hl iK1 na_int hP hD hS (show decode prog_3_method_1_code 81 = .ok (.aload_n 0, 1) by decide +kernel) (fun z => lv_bipush (v := 64) hx hb (show decode prog_3_method_1_code 82 = .ok (.bipush 64, 2) by decide +kernel) (by decide +kernel) z) (show decode prog_3_method_1_code 84 = .ok (.newarray .int, 2) by decide +kernel) (show decode prog_3_method_1_code 86 = .ok (.putfield 43, 3) by decide +kernel) (by decide) (by decide) (by decide) (by decide) (by decide) (by decide) nf_1_43 rfl rfl rfl (Nat.le_of_ble_eq_true rfl) (fun q10 H locs hP hD hS => ?_)
  refine i_arr (k := 13) (N := 64) (n := 64) (pc := 89) (pc2 := 92) C hin hl iK1 na_int hP hD hS (show decode prog_3_method_1_code 89 = .ok (.aload_n 0, 1) by decide +kernel) (fun z => lv_bipush (v := 64) hx hb (show decode prog_3_method_1_code 90 = .ok (.bipush 64, 2) by decide +kernel) (by decide +kernel) z) (show decode prog_3_method_1_code 92 = .ok (.newarray .int, 2) by decide +kernel) (show decode prog_3_method_1_code 94 = .ok (.putfield 46, 3) by decide +kernel) (by decide) (by decide) (by decide) (by decide) (by decide) (by decide) nf_1_46 rfl rfl rfl (Nat.le_of_ble_eq_true rfl) (fun q11 H locs hP hD hS => ?_)
  refine i_sto (pc := 97) (pc3 := 104) (k := 3) (q0 := 1) (i := 0) (v := 8) C hl iK1 hP hD hS (show decode prog_3_method_1_code 97 = .ok (.aload_n 0, 1) by decide +kernel) nf_1_15 (show decode prog_3_method_1_code 98 = .ok (.getfield 15, 3) by decide +kernel) (fun z => lv_iconst (v := 0) hx hb (show decode prog_3_method_1_code 101 = .ok (.iconst 0, 1) by decide +kernel) (by decide +kernel) (lv_bipush (v := 8) hx hb (show decode prog_3_method_1_code 102 = .ok (.bipush 8, 2) by decide +kernel) (by decide +kernel) z)) (show decode prog_3_method_1_code 104 = .ok (.iastore, 1) by decide +kernel) rfl rfl rfl rfl (by decide) (by unfold vp_in; decide) (fun H locs hP hD hS => ?_)
  refine i_sto (pc := 105) (pc3 := 111) (k := 7) (q0 := 5) (i := 0) (v := 1) C hl iK1 hP hD hS (show decode prog_3_method_1_code 105 = .ok (.aload_n 0, 1) by decide +kernel) nf_1_28 (show decode prog_3_method_1_code 106 = .ok (.getfield 28, 3) by decide +kernel) (fun z => lv_iconst (v := 0) hx hb (show decode prog_3_method_1_code 109 = .ok (.iconst 0, 1) by decide +kernel) (by decide +kernel) (lv_iconst (v := 1) hx hb (show decode prog_3_method_1_code 110 = .ok (.iconst 1, 1) by decide +kernel) (by decide +kernel) z)) (show decode prog_3_method_1_code 111 = .ok (.iastore, 1) by decide +kernel) rfl rfl rfl rfl (by decide) (by unfold vp_in; decide) (fun H locs hP hD hS => ?_)
  obtain ⟨μ, hμ⟩ : ∃ μ : Nat → Nat, μ = (g_kt 6 (g_kt 3 (g_kt 1 (fun _ => h0) (g_kt 2 (fun _ => q1) (fun _ => q2))) (g_kt 4 (fun _ => q3) (g_kt 5 (fun _ => q4) (fun _ => q5)))) (g_kt 9 (g_kt 7 (fun _ => q6) (g_kt 8 (fun _ => q7) (fun _ => q8))) (g_kt 10 (fun _ => q9) (g_kt 11 (fun _ => q10) (fun _ => q11))))) := ⟨_, rfl⟩
  obtain ⟨M, hM⟩ : ∃ M : g_M, M = (g_kt 6 (g_kt 3 (g_kt 1 (fun _ => upd (fun _ => 0) 0 1) (g_kt 2 (fun _ => upd (fun _ => 0) 0 8) (fun _ => fun _ => 0))) (g_kt 4 (fun _ => fun _ => 0) (g_kt 5 (fun _ => fun _ => 0) (fun _ => upd (fun _ => 0) 0 1)))) (g_kt 9 (g_kt 7 (fun _ => fun _ => 0) (g_kt 8 (fun _ => fun _ => 0) (fun _ => fun _ => 0))) (g_kt 10 (fun _ => fun _ => 0) (g_kt 11 (fun _ => fun _ => 0) (fun _ => fun _ => 0))))) := ⟨_, rfl⟩
  have hP9 : va_P D g_cls (g_wld cA μ M SG) H := by rw [hμ, hM, g_wld_eq]; exact hP
  have hD9 : va_D A (g_wld cA μ M SG) := by rw [hμ, hM, g_wld_eq]; exact hD
  have hm0 : μ 0 = h0 := by rw [hμ]; rfl
  refine lv_aload_n hx hb (show decode prog_3_method_1_code 112 = .ok (.aload_n 0, 1) by decide +kernel) rfl (lv_at hl 0 rfl) ?_
  have run : g_calG 3 k_X1_measure [.ref 0] M (fun v N => v = none ∧ F9G M N ∧ ∀ x y, x < 8 → y < 8 → N 9 (x * 8 + y) = cD (ds a0 x y)) := x_measG (by decide) a0_v1 (by rw [hM]; rfl) (fun x y _ _ => by rw [hM, a0_wy]; rfl) (fun N h1 h2 => ⟨rfl, h1, h2⟩)
  obtain ⟨d', hd', hMet⟩ := g_sound (g_prg SG) l D cA μ ξ 3 _ _ _ _ run
  have e' : d' = 2 := by omega
  subst e'
  have hrun := hMet H.size
  refine g_callK (va_runV (As := []) (b := μ 0) (rest := []) (n := 0) ⟨hx, hb, hml, C.2.2.2.1, C.2.2.2.2.1⟩ hrun ⟨callB_of 0 C.2.2.2.2.1 (g_good cw_X1_measure) rfl rfl rfl (C.2.2.2.2.1 _ lw_ini_1) (C.2.2.2.2.1 _ nk_1_49) cw_X1_measure.2.2.1 ⟨by decide, by decide⟩, C.2.2.2.2.1 _ li_X1_measure, C.2.2.2.2.1 _ lsel_X1_measure⟩ ⟨g_blind, va_recv hK hP9 (ci := 1) (q0 := 0) rfl rfl, fun U hU hW => g_preAt hK hP9 hD9 hS hA hE U hU hW⟩ rfl rfl hl.1 (by rw [hm0]; rfl) (lv_room (by decide)) (show decode prog_3_method_1_code 113 = .ok (.invokevirtual 49, 3) by decide +kernel) ⟨by decide, by decide⟩) hS (g_free hD9 hS hA) (fun v N H1 locs1 hq hP1 hD1 hS1 => ?_)
  obtain ⟨rfl, n1, n2⟩ := hq
  have hpost : iP1 μ N := by
    have e0 : a0 0 = 1 := by decide
    have e2 : a0 2 = 0 := by decide
    have k : ∀ c, c ≠ 9 → N c = M c := n1
    refine ⟨⟨?_, ?_, ?_, fun p hp => ?_, fun h hh => by omega, fun x y hx hy => ?_⟩, n2, fun h p hh => by omega⟩
    · rw [k 0 (by decide), hM]; rfl
    · rw [k 0 (by decide), hM]; rfl
    · rw [k 0 (by decide), hM]; rfl
    · have ep : p = 0 := by omega
      subst ep
      rw [k (0 + 1) (by decide), k (0 + 2) (by decide), k (0 + 3) (by decide), k (0 + 4) (by decide), k (0 + 5) (by decide), hM]
      exact ⟨rfl, rfl, rfl, rfl, rfl⟩
    · rw [k (0 + 8) (by decide), hM, a0_wy]; rfl
  exact W.vret hx hb hr (fun t ht hW => ⟨⟨(μ, N), rfl, ⟨hm0, hpost⟩, by rw [ht]; exact hP1, va_K.moved hW.alike hK, hD1⟩, hS1.F ht⟩) hS1.2.2 (show decode prog_3_method_1_code 116 = .ok (.return_, 1) by decide +kernel)
set_option maxHeartbeats 4000000 in
set_option maxRecDepth 100000 in
theorem c_init8 (l : Launch) (D : va_G) (cA : Nat → ClassId) (ξ : Nat → Nat) : i_met l D cA ξ ⟨"InTheGarden$World", "<init>", "()V"⟩ prog_10_method_1_code 6 340 21 394 8 [.null, .null, .null, .int 0] S_8 iP8 := by
  intro h0 sz
  refine Met.ofW (cc := prog_10_method_1_code) (maxL := 1) (ret := none) (by decide) rfl ?_
  intro p e s m args below meth c s₁ B hml hv
  obtain ⟨rfl, hsz, hP, hK, hD0, hE⟩ := hv
  have hts := atoms_spec (ws := Cond.code ⟨"InTheGarden$World", "<init>", "()V"⟩ prog_10_method_1_code 1 none :: g_tbl) B.pre
  have hin : meth.name = "<init>" := (name_of_methodNamed B.named B.method).1
  have hlocks := B.notSynchronized
  have hx := B.exec
  have hb := B.bytes
  have hr := B.returns
  subst hsz
  have hD := hD0.self (sz := s.heap.size)
  generalize hAe : va_A [(h0, (.inr (8, [.null, .null, .null, .int 0]) : va_E))] s.heap.size = A at hD hE ⊢
  have hA : ∀ q : Nat, s.heap.size ≤ q → A q := fun q h => by rw [← hAe]; exact Or.inr h
  have C : i_Cx gR8 prog_10_method_1_code 1 p s m [Value.ref h0].toArray c D cA ξ A := ⟨B.exec, B.bytes, hml, findClass_of_methodNamed B.named, fun w hw => hts w (List.mem_cons_of_mem _ hw), hK, hA, hE⟩
  have hS : va_S A s.heap s.heap [] := va_S.rf
  have hl := lv_entry ([.ref h0]) (n := 1) (Nat.le_of_ble_eq_true rfl)
  rw [lg_entry_eq]
  generalize (lg_sl ([.ref h0]) ++ List.replicate (1 - (lg_sl ([.ref h0])).length) Slot.unset).toArray = ls at hl ⊢
  have hl : lv_has ls 1 [(0, .ref h0)] := hl
  refine i_begin C hl no_8 no_inst no_code (by decide) (by decide) (show decode prog_10_method_1_code 0 = .ok (.aload_n 0, 1) by decide +kernel) (show decode prog_10_method_1_code 1 = .ok (.invokespecial 1, 3) by decide +kernel) ?_
  refine lv_aload_n hx hb (show decode prog_10_method_1_code 4 = .ok (.aload_n 0, 1) by decide +kernel) rfl (lv_at hl 0 rfl) ?_
  refine i_make (pc := 5) C hl.1 iK1 ⟨rfl, rfl, by decide +kernel, nc_1, ni_1, nl_8_7, nt_1, nk_8_9, nm_1⟩ (c_init1 l D cA ξ) (fun j hj => by rcases (show j = 0 ∨ j = 1 ∨ j = 2 ∨ j = 3 ∨ j = 4 ∨ j = 5 ∨ j = 6 ∨ j = 7 ∨ j = 8 ∨ j = 9 ∨ j = 10 ∨ j = 11 ∨ j = 12 ∨ j = 13 by omega) with rfl | rfl | rfl | rfl | rfl | rfl | rfl | rfl | rfl | rfl | rfl | rfl | rfl | rfl <;> rfl) hP hD hS (by decide) (by decide) (by decide) (by decide) (Nat.le_of_ble_eq_true rfl) (show decode prog_10_method_1_code 5 = .ok (.new 7, 3) by decide +kernel) (show decode prog_10_method_1_code 8 = .ok (.dup, 1) by decide +kernel) (show decode prog_10_method_1_code 9 = .ok (.invokespecial 9, 3) by decide +kernel) (fun μ1 M1 H locs p1 hP hD hS => ?_)
  refine i_putF (pc := 12) C hin iK8 (k := 0) (by decide) nf_8_10 rfl rfl rfl rfl (Nat.le_of_ble_eq_true rfl) hP hD hS (show decode prog_10_method_1_code 12 = .ok (.putfield 10, 3) by decide +kernel) (fun H locs hP hD hS => ?_)
  refine lv_aload_n hx hb (show decode prog_10_method_1_code 15 = .ok (.aload_n 0, 1) by decide +kernel) rfl (lv_at hl 0 rfl) ?_
  refine i_make (pc := 16) C hl.1 iK7 ⟨rfl, rfl, by decide +kernel, nc_7, ni_7, nl_8_16, nt_7, nk_8_18, nm_7⟩ (c_init7 l D cA ξ) (fun j hj => by rcases (show j = 0 ∨ j = 1 ∨ j = 2 by omega) with rfl | rfl | rfl <;> rfl) hP hD hS (by decide) (by decide) (by decide) (by decide) (Nat.le_of_ble_eq_true rfl) (show decode prog_10_method_1_code 16 = .ok (.new 16, 3) by decide +kernel) (show decode prog_10_method_1_code 19 = .ok (.dup, 1) by decide +kernel) (show decode prog_10_method_1_code 20 = .ok (.invokespecial 18, 3) by decide +kernel) (fun μ2 M2 H locs p2 hP hD hS => ?_)
  refine i_putF (pc := 23) C hin iK8 (k := 1) (by decide) nf_8_19 rfl rfl rfl rfl (Nat.le_of_ble_eq_true rfl) hP hD hS (show decode prog_10_method_1_code 23 = .ok (.putfield 19, 3) by decide +kernel) (fun H locs hP hD hS => ?_)
  refine lv_aload_n hx hb (show decode prog_10_method_1_code 26 = .ok (.aload_n 0, 1) by decide +kernel) rfl (lv_at hl 0 rfl) ?_
  refine i_make (pc := 27) C hl.1 iK4 ⟨rfl, rfl, by decide +kernel, nc_4, ni_4, nl_8_23, nt_4, nk_8_25, nm_4⟩ (c_init4 l D cA ξ) (fun j hj => by rcases (show j = 0 ∨ j = 1 ∨ j = 2 ∨ j = 3 ∨ j = 4 ∨ j = 5 ∨ j = 6 ∨ j = 7 ∨ j = 8 ∨ j = 9 by omega) with rfl | rfl | rfl | rfl | rfl | rfl | rfl | rfl | rfl | rfl <;> rfl) hP hD hS (by decide) (by decide) (by decide) (by decide) (Nat.le_of_ble_eq_true rfl) (show decode prog_10_method_1_code 27 = .ok (.new 23, 3) by decide +kernel) (show decode prog_10_method_1_code 30 = .ok (.dup, 1) by decide +kernel) (show decode prog_10_method_1_code 31 = .ok (.invokespecial 25, 3) by decide +kernel) (fun μ3 M3 H locs p3 hP hD hS => ?_)
  refine i_putF (pc := 34) C hin iK8 (k := 2) (by decide) nf_8_26 rfl rfl rfl rfl (Nat.le_of_ble_eq_true rfl) hP hD hS (show decode prog_10_method_1_code 34 = .ok (.putfield 26, 3) by decide +kernel) (fun H locs hP hD hS => ?_)
  obtain ⟨μ, hμ⟩ : ∃ μ : Nat → Nat, μ = (g_kt 11 (g_kt 5 (g_kt 2 (g_kt 1 (fun _ => h0) (fun _ => μ1 0)) (g_kt 3 (fun _ => μ1 1) (g_kt 4 (fun _ => μ1 2) (fun _ => μ1 3)))) (g_kt 8 (g_kt 6 (fun _ => μ1 4) (g_kt 7 (fun _ => μ1 5) (fun _ => μ1 6))) (g_kt 9 (fun _ => μ1 7) (g_kt 10 (fun _ => μ1 8) (fun _ => μ1 9))))) (g_kt 16 (g_kt 13 (g_kt 12 (fun _ => μ1 10) (fun _ => μ1 11)) (g_kt 14 (fun _ => μ2 0) (g_kt 15 (fun _ => μ2 1) (fun _ => μ2 2)))) (g_kt 19 (g_kt 17 (fun _ => μ3 0) (g_kt 18 (fun _ => μ3 1) (fun _ => μ3 2))) (g_kt 20 (fun _ => μ3 3) (g_kt 21 (fun _ => μ3 4) (fun _ => μ3 5)))))) := ⟨_, rfl⟩
  obtain ⟨M, hM⟩ : ∃ M : g_M, M = (g_kt 11 (g_kt 5 (g_kt 2 (g_kt 1 (fun _ => fun _ => 0) (fun _ => M1 0)) (g_kt 3 (fun _ => M1 1) (g_kt 4 (fun _ => M1 2) (fun _ => M1 3)))) (g_kt 8 (g_kt 6 (fun _ => M1 4) (g_kt 7 (fun _ => M1 5) (fun _ => M1 6))) (g_kt 9 (fun _ => M1 7) (g_kt 10 (fun _ => M1 8) (fun _ => M1 9))))) (g_kt 16 (g_kt 13 (g_kt 12 (fun _ => M1 10) (fun _ => M1 11)) (g_kt 14 (fun _ => M2 0) (g_kt 15 (fun _ => M2 1) (fun _ => M2 2)))) (g_kt 19 (g_kt 17 (fun _ => M3 0) (g_kt 18 (fun _ => M3 1) (fun _ => M3 2))) (g_kt 20 (fun _ => M3 3) (g_kt 21 (fun _ => M3 4) (fun _ => M3 5)))))) := ⟨_, rfl⟩
  have hP9 : va_P D g_cls (g_wld cA μ M S_8) H := by rw [hμ, hM, g_wld_eq]; exact hP
  have hD9 : va_D A (g_wld cA μ M S_8) := by rw [hμ, hM, g_wld_eq]; exact hD
  have hm0 : μ 0 = h0 := by rw [hμ]; rfl
  have hpost : iP8 μ M := by rw [hM]; exact ⟨p1.1, p1.2, p2, ⟨p3 0 5, p3 0 6, fun h hh => absurd hh (by show ¬ h < a0 5; rw [show a0 5 = 0 from by decide]; omega), fun i hi => absurd hi (by show ¬ i < a0 6; rw [show a0 6 = 0 from by decide]; omega)⟩, rfl⟩
  clear hμ hM hP hD
  exact W.vret hx hb hr (fun t ht hW => ⟨⟨(μ, M), rfl, ⟨hm0, hpost⟩, by rw [ht]; exact hP9, va_K.moved hW.alike hK, hD9⟩, hS.F ht⟩) hS.2.2 (show decode prog_10_method_1_code 37 = .ok (.return_, 1) by decide +kernel)
