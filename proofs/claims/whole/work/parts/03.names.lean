/-! ===== names: classes, fields, methods; words by their places ===== -/
def g_tbl : List Cond := lw_tbl.filter goodWord
theorem g_in {w : Cond} (i : Nat) (h : lw_tbl[i]? = some w) (hg : goodWord w = true) : w ∈ g_tbl := List.mem_filter.mpr ⟨List.mem_of_getElem? h, hg⟩
theorem g_in0 {w : Cond} (i : Nat) (h : (k2_sels lw_privs)[i]? = some w) (hg : goodWord w = true) : w ∈ g_tbl := List.mem_filter.mpr ⟨List.mem_append_left _ (List.mem_of_getElem? h), hg⟩
theorem g_in1 {w : Cond} (i : Nat) (h : tables_1_1[i]? = some w) (hg : goodWord w = true) : w ∈ g_tbl := List.mem_filter.mpr ⟨List.mem_append_right _ (List.mem_append_left _ (List.mem_of_getElem? h)), hg⟩
theorem g_in2 {w : Cond} (i : Nat) (h : tables_1_2[i]? = some w) (hg : goodWord w = true) : w ∈ g_tbl := List.mem_filter.mpr ⟨List.mem_append_right _ (List.mem_append_right _ (List.mem_append_left _ (List.mem_of_getElem? h))), hg⟩
theorem g_in3 {w : Cond} (i : Nat) (h : tables_1_3[i]? = some w) (hg : goodWord w = true) : w ∈ g_tbl := List.mem_filter.mpr ⟨List.mem_append_right _ (List.mem_append_right _ (List.mem_append_right _ (List.mem_append_left _ (List.mem_of_getElem? h)))), hg⟩
theorem g_in4 {w : Cond} (i : Nat) (h : tables_1_4[i]? = some w) (hg : goodWord w = true) : w ∈ g_tbl := List.mem_filter.mpr ⟨List.mem_append_right _ (List.mem_append_right _ (List.mem_append_right _ (List.mem_append_right _ (List.mem_append_left _ (List.mem_of_getElem? h))))), hg⟩
theorem g_in5 {w : Cond} (i : Nat) (h : tables_1_5[i]? = some w) (hg : goodWord w = true) : w ∈ g_tbl := List.mem_filter.mpr ⟨List.mem_append_right _ (List.mem_append_right _ (List.mem_append_right _ (List.mem_append_right _ (List.mem_append_right _ (List.mem_append_left _ (List.mem_of_getElem? h)))))), hg⟩
theorem g_in6 {w : Cond} (i : Nat) (h : tables_1_6[i]? = some w) (hg : goodWord w = true) : w ∈ g_tbl := List.mem_filter.mpr ⟨List.mem_append_right _ (List.mem_append_right _ (List.mem_append_right _ (List.mem_append_right _ (List.mem_append_right _ (List.mem_append_right _ (List.mem_of_getElem? h)))))), hg⟩
theorem g_tbl_good : GoodIn g_tbl g_tbl := fun w hw => ⟨hw, good_of_word (List.mem_filter.mp hw).2⟩
def gR0 : String := "InTheGarden$Game"
def gT0 : u_T := fun k => match k with
  | 0 => ("InTheGarden$Game", "tells", "[I", true)
  | 1 => ("InTheGarden$Game", "placeSums", "[I", true)
  | 2 => ("InTheGarden$Game", "orderSums", "[I", true)
  | 3 => ("InTheGarden$Game", "takenPlaces", "[I", true)
  | 4 => ("InTheGarden$Game", "placeCount", "I", false)
  | _ => ("InTheGarden$Game", "orderCount", "I", false)
def gY0 : Nat → FieldType := fun k => match k with
  | 0 => .array .int
  | 1 => .array .int
  | 2 => .array .int
  | 3 => .array .int
  | 4 => .int
  | _ => .int
theorem gN0 : ∀ a, a < 6 → ∀ b, b < 6 → a ≠ b → (gT0 a).2.1 ≠ (gT0 b).2.1 := by decide +kernel
theorem gYok0 : ∀ k, k < 6 → parseFieldDescriptor (gT0 k).2.2.1 = some (gY0 k) := by decide +kernel
theorem gI0_0 : u_lay gR0 gT0 0 ∈ g_tbl := g_in2 43 (by decide +kernel) (by decide +kernel)
theorem gI0_1 : u_lay gR0 gT0 1 ∈ g_tbl := g_in2 45 (by decide +kernel) (by decide +kernel)
theorem gI0_2 : u_lay gR0 gT0 2 ∈ g_tbl := g_in2 47 (by decide +kernel) (by decide +kernel)
theorem gI0_3 : u_lay gR0 gT0 3 ∈ g_tbl := g_in2 49 (by decide +kernel) (by decide +kernel)
theorem gI0_4 : u_lay gR0 gT0 4 ∈ g_tbl := g_in2 51 (by decide +kernel) (by decide +kernel)
theorem gI0_5 : u_lay gR0 gT0 5 ∈ g_tbl := g_in2 53 (by decide +kernel) (by decide +kernel)
theorem gI0 : ∀ w ∈ u_ws gR0 gT0 6, w ∈ g_tbl := by
  intro w hw
  obtain ⟨k, hk, rfl⟩ := List.mem_map.mp hw
  have hk := List.mem_range.mp hk
  match k, hk with
  | 0, _ => exact gI0_0
  | 1, _ => exact gI0_1
  | 2, _ => exact gI0_2
  | 3, _ => exact gI0_3
  | 4, _ => exact gI0_4
  | 5, _ => exact gI0_5
  | k + 6, h => exact absurd h (by omega)
def gR1 : String := "InTheGarden$Garden"
def gT1 : u_T := fun k => match k with
  | 0 => ("InTheGarden$Garden", "places", "I", false)
  | 1 => ("InTheGarden$Garden", "ways", "I", false)
  | 2 => ("InTheGarden$Garden", "hiders", "I", false)
  | 3 => ("InTheGarden$Garden", "kind", "[I", true)
  | 4 => ("InTheGarden$Garden", "room", "[I", true)
  | 5 => ("InTheGarden$Garden", "hidden", "[I", true)
  | 6 => ("InTheGarden$Garden", "times", "[I", true)
  | 7 => ("InTheGarden$Garden", "views", "[I", true)
  | 8 => ("InTheGarden$Garden", "age", "[I", true)
  | 9 => ("InTheGarden$Garden", "pace", "[I", true)
  | 10 => ("InTheGarden$Garden", "way", "[I", true)
  | 11 => ("InTheGarden$Garden", "far", "[I", true)
  | 12 => ("InTheGarden$Garden", "walk", "[I", true)
  | _ => ("InTheGarden$Garden", "flight", "[I", true)
def gY1 : Nat → FieldType := fun k => match k with
  | 0 => .int
  | 1 => .int
  | 2 => .int
  | 3 => .array .int
  | 4 => .array .int
  | 5 => .array .int
  | 6 => .array .int
  | 7 => .array .int
  | 8 => .array .int
  | 9 => .array .int
  | 10 => .array .int
  | 11 => .array .int
  | 12 => .array .int
  | _ => .array .int
theorem gN1 : ∀ a, a < 14 → ∀ b, b < 14 → a ≠ b → (gT1 a).2.1 ≠ (gT1 b).2.1 := by decide +kernel
theorem gYok1 : ∀ k, k < 14 → parseFieldDescriptor (gT1 k).2.2.1 = some (gY1 k) := by decide +kernel
theorem gI1_0 : u_lay gR1 gT1 0 ∈ g_tbl := g_in1 93 (by decide +kernel) (by decide +kernel)
theorem gI1_1 : u_lay gR1 gT1 1 ∈ g_tbl := g_in1 95 (by decide +kernel) (by decide +kernel)
theorem gI1_2 : u_lay gR1 gT1 2 ∈ g_tbl := g_in1 97 (by decide +kernel) (by decide +kernel)
theorem gI1_3 : u_lay gR1 gT1 3 ∈ g_tbl := g_in1 99 (by decide +kernel) (by decide +kernel)
theorem gI1_4 : u_lay gR1 gT1 4 ∈ g_tbl := g_in1 101 (by decide +kernel) (by decide +kernel)
theorem gI1_5 : u_lay gR1 gT1 5 ∈ g_tbl := g_in1 103 (by decide +kernel) (by decide +kernel)
theorem gI1_6 : u_lay gR1 gT1 6 ∈ g_tbl := g_in1 105 (by decide +kernel) (by decide +kernel)
theorem gI1_7 : u_lay gR1 gT1 7 ∈ g_tbl := g_in1 107 (by decide +kernel) (by decide +kernel)
theorem gI1_8 : u_lay gR1 gT1 8 ∈ g_tbl := g_in1 109 (by decide +kernel) (by decide +kernel)
theorem gI1_9 : u_lay gR1 gT1 9 ∈ g_tbl := g_in1 111 (by decide +kernel) (by decide +kernel)
theorem gI1_10 : u_lay gR1 gT1 10 ∈ g_tbl := g_in1 113 (by decide +kernel) (by decide +kernel)
theorem gI1_11 : u_lay gR1 gT1 11 ∈ g_tbl := g_in1 115 (by decide +kernel) (by decide +kernel)
theorem gI1_12 : u_lay gR1 gT1 12 ∈ g_tbl := g_in1 117 (by decide +kernel) (by decide +kernel)
theorem gI1_13 : u_lay gR1 gT1 13 ∈ g_tbl := g_in1 119 (by decide +kernel) (by decide +kernel)
theorem gI1 : ∀ w ∈ u_ws gR1 gT1 14, w ∈ g_tbl := by
  intro w hw
  obtain ⟨k, hk, rfl⟩ := List.mem_map.mp hw
  have hk := List.mem_range.mp hk
  match k, hk with
  | 0, _ => exact gI1_0
  | 1, _ => exact gI1_1
  | 2, _ => exact gI1_2
  | 3, _ => exact gI1_3
  | 4, _ => exact gI1_4
  | 5, _ => exact gI1_5
  | 6, _ => exact gI1_6
  | 7, _ => exact gI1_7
  | 8, _ => exact gI1_8
  | 9, _ => exact gI1_9
  | 10, _ => exact gI1_10
  | 11, _ => exact gI1_11
  | 12, _ => exact gI1_12
  | 13, _ => exact gI1_13
  | k + 14, h => exact absurd h (by omega)
def gR2 : String := "InTheGarden$Orders"
def gT2 : u_T := fun k => match k with
  | 0 => ("InTheGarden$Orders", "row", "[I", true)
  | _ => ("InTheGarden$Orders", "length", "I", false)
def gY2 : Nat → FieldType := fun k => match k with
  | 0 => .array .int
  | _ => .int
theorem gN2 : ∀ a, a < 2 → ∀ b, b < 2 → a ≠ b → (gT2 a).2.1 ≠ (gT2 b).2.1 := by decide +kernel
theorem gYok2 : ∀ k, k < 2 → parseFieldDescriptor (gT2 k).2.2.1 = some (gY2 k) := by decide +kernel
theorem gI2_0 : u_lay gR2 gT2 0 ∈ g_tbl := g_in2 66 (by decide +kernel) (by decide +kernel)
theorem gI2_1 : u_lay gR2 gT2 1 ∈ g_tbl := g_in2 68 (by decide +kernel) (by decide +kernel)
theorem gI2 : ∀ w ∈ u_ws gR2 gT2 2, w ∈ g_tbl := by
  intro w hw
  obtain ⟨k, hk, rfl⟩ := List.mem_map.mp hw
  have hk := List.mem_range.mp hk
  match k, hk with
  | 0, _ => exact gI2_0
  | 1, _ => exact gI2_1
  | k + 2, h => exact absurd h (by omega)
def gR3 : String := "InTheGarden$Reader"
def gT3 : u_T := fun k => match k with
  | 0 => ("InTheGarden$Reader", "tape", "[I", true)
  | 1 => ("InTheGarden$Reader", "value", "[I", true)
  | 2 => ("InTheGarden$Reader", "length", "I", false)
  | _ => ("InTheGarden$Reader", "at", "I", false)
def gY3 : Nat → FieldType := fun k => match k with
  | 0 => .array .int
  | 1 => .array .int
  | 2 => .int
  | _ => .int
theorem gN3 : ∀ a, a < 4 → ∀ b, b < 4 → a ≠ b → (gT3 a).2.1 ≠ (gT3 b).2.1 := by decide +kernel
theorem gYok3 : ∀ k, k < 4 → parseFieldDescriptor (gT3 k).2.2.1 = some (gY3 k) := by decide +kernel
theorem gI3_0 : u_lay gR3 gT3 0 ∈ g_tbl := g_in2 11 (by decide +kernel) (by decide +kernel)
theorem gI3_1 : u_lay gR3 gT3 1 ∈ g_tbl := g_in2 13 (by decide +kernel) (by decide +kernel)
theorem gI3_2 : u_lay gR3 gT3 2 ∈ g_tbl := g_in2 15 (by decide +kernel) (by decide +kernel)
theorem gI3_3 : u_lay gR3 gT3 3 ∈ g_tbl := g_in2 17 (by decide +kernel) (by decide +kernel)
theorem gI3 : ∀ w ∈ u_ws gR3 gT3 4, w ∈ g_tbl := by
  intro w hw
  obtain ⟨k, hk, rfl⟩ := List.mem_map.mp hw
  have hk := List.mem_range.mp hk
  match k, hk with
  | 0, _ => exact gI3_0
  | 1, _ => exact gI3_1
  | 2, _ => exact gI3_2
  | 3, _ => exact gI3_3
  | k + 4, h => exact absurd h (by omega)
def gR4 : String := "InTheGarden$Round"
def gT4 : u_T := fun k => match k with
  | 0 => ("InTheGarden$Round", "spot", "[I", true)
  | 1 => ("InTheGarden$Round", "state", "[I", true)
  | 2 => ("InTheGarden$Round", "when", "[I", true)
  | 3 => ("InTheGarden$Round", "foundOnes", "[I", true)
  | 4 => ("InTheGarden$Round", "roomLeft", "[I", true)
  | 5 => ("InTheGarden$Round", "hiders", "I", false)
  | 6 => ("InTheGarden$Round", "findCount", "I", false)
  | 7 => ("InTheGarden$Round", "lastSecond", "I", false)
  | 8 => ("InTheGarden$Round", "lookedAt", "I", false)
  | _ => ("InTheGarden$Round", "seed", "I", false)
def gY4 : Nat → FieldType := fun k => match k with
  | 0 => .array .int
  | 1 => .array .int
  | 2 => .array .int
  | 3 => .array .int
  | 4 => .array .int
  | 5 => .int
  | 6 => .int
  | 7 => .int
  | 8 => .int
  | _ => .int
theorem gN4 : ∀ a, a < 10 → ∀ b, b < 10 → a ≠ b → (gT4 a).2.1 ≠ (gT4 b).2.1 := by decide +kernel
theorem gYok4 : ∀ k, k < 10 → parseFieldDescriptor (gT4 k).2.2.1 = some (gY4 k) := by decide +kernel
theorem gI4_0 : u_lay gR4 gT4 0 ∈ g_tbl := g_in1 172 (by decide +kernel) (by decide +kernel)
theorem gI4_1 : u_lay gR4 gT4 1 ∈ g_tbl := g_in1 174 (by decide +kernel) (by decide +kernel)
theorem gI4_2 : u_lay gR4 gT4 2 ∈ g_tbl := g_in1 176 (by decide +kernel) (by decide +kernel)
theorem gI4_3 : u_lay gR4 gT4 3 ∈ g_tbl := g_in1 178 (by decide +kernel) (by decide +kernel)
theorem gI4_4 : u_lay gR4 gT4 4 ∈ g_tbl := g_in1 180 (by decide +kernel) (by decide +kernel)
theorem gI4_5 : u_lay gR4 gT4 5 ∈ g_tbl := g_in1 182 (by decide +kernel) (by decide +kernel)
theorem gI4_6 : u_lay gR4 gT4 6 ∈ g_tbl := g_in1 184 (by decide +kernel) (by decide +kernel)
theorem gI4_7 : u_lay gR4 gT4 7 ∈ g_tbl := g_in1 186 (by decide +kernel) (by decide +kernel)
theorem gI4_8 : u_lay gR4 gT4 8 ∈ g_tbl := g_in1 188 (by decide +kernel) (by decide +kernel)
theorem gI4_9 : u_lay gR4 gT4 9 ∈ g_tbl := g_in1 190 (by decide +kernel) (by decide +kernel)
theorem gI4 : ∀ w ∈ u_ws gR4 gT4 10, w ∈ g_tbl := by
  intro w hw
  obtain ⟨k, hk, rfl⟩ := List.mem_map.mp hw
  have hk := List.mem_range.mp hk
  match k, hk with
  | 0, _ => exact gI4_0
  | 1, _ => exact gI4_1
  | 2, _ => exact gI4_2
  | 3, _ => exact gI4_3
  | 4, _ => exact gI4_4
  | 5, _ => exact gI4_5
  | 6, _ => exact gI4_6
  | 7, _ => exact gI4_7
  | 8, _ => exact gI4_8
  | 9, _ => exact gI4_9
  | k + 10, h => exact absurd h (by omega)
def gR5 : String := "InTheGarden$Seeker"
def gT5 : u_T := fun k => match k with
  | 0 => ("InTheGarden$Seeker", "at", "I", false)
  | 1 => ("InTheGarden$Seeker", "next", "I", false)
  | 2 => ("InTheGarden$Seeker", "passed", "I", false)
  | 3 => ("InTheGarden$Seeker", "moment", "I", false)
  | _ => ("InTheGarden$Seeker", "walks", "Z", false)
def gY5 : Nat → FieldType := fun k => match k with
  | 0 => .int
  | 1 => .int
  | 2 => .int
  | 3 => .int
  | _ => .boolean
theorem gN5 : ∀ a, a < 5 → ∀ b, b < 5 → a ≠ b → (gT5 a).2.1 ≠ (gT5 b).2.1 := by decide +kernel
theorem gYok5 : ∀ k, k < 5 → parseFieldDescriptor (gT5 k).2.2.1 = some (gY5 k) := by decide +kernel
theorem gI5_0 : u_lay gR5 gT5 0 ∈ g_tbl := g_in1 229 (by decide +kernel) (by decide +kernel)
theorem gI5_1 : u_lay gR5 gT5 1 ∈ g_tbl := g_in1 231 (by decide +kernel) (by decide +kernel)
theorem gI5_2 : u_lay gR5 gT5 2 ∈ g_tbl := g_in1 233 (by decide +kernel) (by decide +kernel)
theorem gI5_3 : u_lay gR5 gT5 3 ∈ g_tbl := g_in1 235 (by decide +kernel) (by decide +kernel)
theorem gI5_4 : u_lay gR5 gT5 4 ∈ g_tbl := g_in1 237 (by decide +kernel) (by decide +kernel)
theorem gI5 : ∀ w ∈ u_ws gR5 gT5 5, w ∈ g_tbl := by
  intro w hw
  obtain ⟨k, hk, rfl⟩ := List.mem_map.mp hw
  have hk := List.mem_range.mp hk
  match k, hk with
  | 0, _ => exact gI5_0
  | 1, _ => exact gI5_1
  | 2, _ => exact gI5_2
  | 3, _ => exact gI5_3
  | 4, _ => exact gI5_4
  | k + 5, h => exact absurd h (by omega)
def gR6 : String := "InTheGarden$Sight"
def gT6 : u_T := fun k => match k with
  | _ => ("InTheGarden$Sight", "cost", "[I", true)
def gY6 : Nat → FieldType := fun k => match k with
  | _ => .array .int
theorem gN6 : ∀ a, a < 1 → ∀ b, b < 1 → a ≠ b → (gT6 a).2.1 ≠ (gT6 b).2.1 := by decide +kernel
theorem gYok6 : ∀ k, k < 1 → parseFieldDescriptor (gT6 k).2.2.1 = some (gY6 k) := by decide +kernel
theorem gI6_0 : u_lay gR6 gT6 0 ∈ g_tbl := g_in2 27 (by decide +kernel) (by decide +kernel)
theorem gI6 : ∀ w ∈ u_ws gR6 gT6 1, w ∈ g_tbl := by
  intro w hw
  obtain ⟨k, hk, rfl⟩ := List.mem_map.mp hw
  have hk := List.mem_range.mp hk
  match k, hk with
  | 0, _ => exact gI6_0
  | k + 1, h => exact absurd h (by omega)
def gR7 : String := "InTheGarden$Told"
def gT7 : u_T := fun k => match k with
  | 0 => ("InTheGarden$Told", "setting", "[I", true)
  | 1 => ("InTheGarden$Told", "places", "[I", true)
  | _ => ("InTheGarden$Told", "length", "I", false)
def gY7 : Nat → FieldType := fun k => match k with
  | 0 => .array .int
  | 1 => .array .int
  | _ => .int
theorem gN7 : ∀ a, a < 3 → ∀ b, b < 3 → a ≠ b → (gT7 a).2.1 ≠ (gT7 b).2.1 := by decide +kernel
theorem gYok7 : ∀ k, k < 3 → parseFieldDescriptor (gT7 k).2.2.1 = some (gY7 k) := by decide +kernel
theorem gI7_0 : u_lay gR7 gT7 0 ∈ g_tbl := g_in1 142 (by decide +kernel) (by decide +kernel)
theorem gI7_1 : u_lay gR7 gT7 1 ∈ g_tbl := g_in1 144 (by decide +kernel) (by decide +kernel)
theorem gI7_2 : u_lay gR7 gT7 2 ∈ g_tbl := g_in1 146 (by decide +kernel) (by decide +kernel)
theorem gI7 : ∀ w ∈ u_ws gR7 gT7 3, w ∈ g_tbl := by
  intro w hw
  obtain ⟨k, hk, rfl⟩ := List.mem_map.mp hw
  have hk := List.mem_range.mp hk
  match k, hk with
  | 0, _ => exact gI7_0
  | 1, _ => exact gI7_1
  | 2, _ => exact gI7_2
  | k + 3, h => exact absurd h (by omega)
def gR8 : String := "InTheGarden$World"
def gT8 : u_T := fun k => match k with
  | 0 => ("InTheGarden$World", "garden", "LInTheGarden$Garden;", true)
  | 1 => ("InTheGarden$World", "told", "LInTheGarden$Told;", true)
  | 2 => ("InTheGarden$World", "latest", "LInTheGarden$Round;", true)
  | _ => ("InTheGarden$World", "played", "I", false)
def gY8 : Nat → FieldType := fun k => match k with
  | 0 => .object "InTheGarden$Garden"
  | 1 => .object "InTheGarden$Told"
  | 2 => .object "InTheGarden$Round"
  | _ => .int
theorem gN8 : ∀ a, a < 4 → ∀ b, b < 4 → a ≠ b → (gT8 a).2.1 ≠ (gT8 b).2.1 := by decide +kernel
theorem gYok8 : ∀ k, k < 4 → parseFieldDescriptor (gT8 k).2.2.1 = some (gY8 k) := by decide +kernel
theorem gI8_0 : u_lay gR8 gT8 0 ∈ g_tbl := g_in1 201 (by decide +kernel) (by decide +kernel)
theorem gI8_1 : u_lay gR8 gT8 1 ∈ g_tbl := g_in1 203 (by decide +kernel) (by decide +kernel)
theorem gI8_2 : u_lay gR8 gT8 2 ∈ g_tbl := g_in1 205 (by decide +kernel) (by decide +kernel)
theorem gI8_3 : u_lay gR8 gT8 3 ∈ g_tbl := g_in1 207 (by decide +kernel) (by decide +kernel)
theorem gI8 : ∀ w ∈ u_ws gR8 gT8 4, w ∈ g_tbl := by
  intro w hw
  obtain ⟨k, hk, rfl⟩ := List.mem_map.mp hw
  have hk := List.mem_range.mp hk
  match k, hk with
  | 0, _ => exact gI8_0
  | 1, _ => exact gI8_1
  | 2, _ => exact gI8_2
  | 3, _ => exact gI8_3
  | k + 4, h => exact absurd h (by omega)
def gR9 : String := "InTheGarden"
def gT9 : u_T := fun k => match k with
  | 0 => ("InTheGarden", "now", "LInTheGarden$World;", true)
  | 1 => ("InTheGarden", "kept", "LInTheGarden$World;", true)
  | 2 => ("InTheGarden", "draft", "LInTheGarden$Garden;", true)
  | 3 => ("InTheGarden", "trial", "LInTheGarden$Told;", true)
  | 4 => ("InTheGarden", "thought", "LInTheGarden$Round;", true)
  | 5 => ("InTheGarden", "seeker", "LInTheGarden$Seeker;", true)
  | 6 => ("InTheGarden", "reader", "LInTheGarden$Reader;", true)
  | 7 => ("InTheGarden", "sight", "LInTheGarden$Sight;", true)
  | 8 => ("InTheGarden", "contest", "LInTheGarden$Game;", true)
  | 9 => ("InTheGarden", "orders", "LInTheGarden$Orders;", true)
  | 10 => ("InTheGarden", "bestPlaces", "[I", true)
  | 11 => ("InTheGarden", "toldFinds", "[I", true)
  | 12 => ("InTheGarden", "refusals", "[I", true)
  | 13 => ("InTheGarden", "toldCount", "I", false)
  | _ => ("InTheGarden", "hasImage", "Z", false)
def gY9 : Nat → FieldType := fun k => match k with
  | 0 => .object "InTheGarden$World"
  | 1 => .object "InTheGarden$World"
  | 2 => .object "InTheGarden$Garden"
  | 3 => .object "InTheGarden$Told"
  | 4 => .object "InTheGarden$Round"
  | 5 => .object "InTheGarden$Seeker"
  | 6 => .object "InTheGarden$Reader"
  | 7 => .object "InTheGarden$Sight"
  | 8 => .object "InTheGarden$Game"
  | 9 => .object "InTheGarden$Orders"
  | 10 => .array .int
  | 11 => .array .int
  | 12 => .array .int
  | 13 => .int
  | _ => .boolean
theorem gN9 : ∀ a, a < 15 → ∀ b, b < 15 → a ≠ b → (gT9 a).2.1 ≠ (gT9 b).2.1 := by decide +kernel
theorem gYok9 : ∀ k, k < 15 → parseFieldDescriptor (gT9 k).2.2.1 = some (gY9 k) := by decide +kernel
theorem gI9_0 : u_lay gR9 gT9 0 ∈ g_tbl := g_in2 86 (by decide +kernel) (by decide +kernel)
theorem gI9_1 : u_lay gR9 gT9 1 ∈ g_tbl := g_in2 88 (by decide +kernel) (by decide +kernel)
theorem gI9_2 : u_lay gR9 gT9 2 ∈ g_tbl := g_in2 90 (by decide +kernel) (by decide +kernel)
theorem gI9_3 : u_lay gR9 gT9 3 ∈ g_tbl := g_in2 92 (by decide +kernel) (by decide +kernel)
theorem gI9_4 : u_lay gR9 gT9 4 ∈ g_tbl := g_in2 94 (by decide +kernel) (by decide +kernel)
theorem gI9_5 : u_lay gR9 gT9 5 ∈ g_tbl := g_in2 96 (by decide +kernel) (by decide +kernel)
theorem gI9_6 : u_lay gR9 gT9 6 ∈ g_tbl := g_in2 98 (by decide +kernel) (by decide +kernel)
theorem gI9_7 : u_lay gR9 gT9 7 ∈ g_tbl := g_in2 100 (by decide +kernel) (by decide +kernel)
theorem gI9_8 : u_lay gR9 gT9 8 ∈ g_tbl := g_in2 102 (by decide +kernel) (by decide +kernel)
theorem gI9_9 : u_lay gR9 gT9 9 ∈ g_tbl := g_in2 104 (by decide +kernel) (by decide +kernel)
theorem gI9_10 : u_lay gR9 gT9 10 ∈ g_tbl := g_in2 106 (by decide +kernel) (by decide +kernel)
theorem gI9_11 : u_lay gR9 gT9 11 ∈ g_tbl := g_in2 108 (by decide +kernel) (by decide +kernel)
theorem gI9_12 : u_lay gR9 gT9 12 ∈ g_tbl := g_in2 110 (by decide +kernel) (by decide +kernel)
theorem gI9_13 : u_lay gR9 gT9 13 ∈ g_tbl := g_in2 112 (by decide +kernel) (by decide +kernel)
theorem gI9_14 : u_lay gR9 gT9 14 ∈ g_tbl := g_in2 114 (by decide +kernel) (by decide +kernel)
theorem gI9 : ∀ w ∈ u_ws gR9 gT9 15, w ∈ g_tbl := by
  intro w hw
  obtain ⟨k, hk, rfl⟩ := List.mem_map.mp hw
  have hk := List.mem_range.mp hk
  match k, hk with
  | 0, _ => exact gI9_0
  | 1, _ => exact gI9_1
  | 2, _ => exact gI9_2
  | 3, _ => exact gI9_3
  | 4, _ => exact gI9_4
  | 5, _ => exact gI9_5
  | 6, _ => exact gI9_6
  | 7, _ => exact gI9_7
  | 8, _ => exact gI9_8
  | 9, _ => exact gI9_9
  | 10, _ => exact gI9_10
  | 11, _ => exact gI9_11
  | 12, _ => exact gI9_12
  | 13, _ => exact gI9_13
  | 14, _ => exact gI9_14
  | k + 15, h => exact absurd h (by omega)
def gR10 : String := "InTheGardenModel"
def gT10 : u_T := fun k => match k with
  | 0 => ("InTheGardenModel", "refusals", "[I", true)
  | 1 => ("InTheGardenModel", "s", "[I", true)
  | 2 => ("InTheGardenModel", "image", "[I", true)
  | 3 => ("InTheGardenModel", "read", "[I", true)
  | 4 => ("InTheGardenModel", "isImage", "Z", false)
  | 5 => ("InTheGardenModel", "tape", "[I", true)
  | 6 => ("InTheGardenModel", "told", "[I", true)
  | 7 => ("InTheGardenModel", "taped", "I", false)
  | 8 => ("InTheGardenModel", "at", "I", false)
  | 9 => ("InTheGardenModel", "far", "[I", true)
  | 10 => ("InTheGardenModel", "direct", "[I", true)
  | 11 => ("InTheGardenModel", "where", "[I", true)
  | 12 => ("InTheGardenModel", "how", "[I", true)
  | 13 => ("InTheGardenModel", "when", "[I", true)
  | 14 => ("InTheGardenModel", "comesAt", "[I", true)
  | 15 => ("InTheGardenModel", "caught", "[I", true)
  | 16 => ("InTheGardenModel", "caughtAt", "[I", true)
  | 17 => ("InTheGardenModel", "seed", "I", false)
  | 18 => ("InTheGardenModel", "caughtMany", "I", false)
  | 19 => ("InTheGardenModel", "last", "I", false)
  | 20 => ("InTheGardenModel", "spot", "I", false)
  | 21 => ("InTheGardenModel", "to", "I", false)
  | 22 => ("InTheGardenModel", "comesNext", "I", false)
  | 23 => ("InTheGardenModel", "goesNext", "I", false)
  | 24 => ("InTheGardenModel", "inOrder", "I", false)
  | 25 => ("InTheGardenModel", "isOnWay", "Z", false)
  | 26 => ("InTheGardenModel", "least", "[I", true)
  | 27 => ("InTheGardenModel", "settled", "[Z", true)
  | 28 => ("InTheGardenModel", "tells", "[I", true)
  | 29 => ("InTheGardenModel", "orders", "[I", true)
  | 30 => ("InTheGardenModel", "placeSum", "[I", true)
  | 31 => ("InTheGardenModel", "orderSum", "[I", true)
  | 32 => ("InTheGardenModel", "takenOf", "[I", true)
  | 33 => ("InTheGardenModel", "orderMany", "I", false)
  | 34 => ("InTheGardenModel", "kept", "[I", true)
  | 35 => ("InTheGardenModel", "bestOrder", "[I", true)
  | 36 => ("InTheGardenModel", "row", "[I", true)
  | _ => ("InTheGardenModel", "rowed", "I", false)
def gY10 : Nat → FieldType := fun k => match k with
  | 0 => .array .int
  | 1 => .array .int
  | 2 => .array .int
  | 3 => .array .int
  | 4 => .boolean
  | 5 => .array .int
  | 6 => .array .int
  | 7 => .int
  | 8 => .int
  | 9 => .array .int
  | 10 => .array .int
  | 11 => .array .int
  | 12 => .array .int
  | 13 => .array .int
  | 14 => .array .int
  | 15 => .array .int
  | 16 => .array .int
  | 17 => .int
  | 18 => .int
  | 19 => .int
  | 20 => .int
  | 21 => .int
  | 22 => .int
  | 23 => .int
  | 24 => .int
  | 25 => .boolean
  | 26 => .array .int
  | 27 => .array .boolean
  | 28 => .array .int
  | 29 => .array .int
  | 30 => .array .int
  | 31 => .array .int
  | 32 => .array .int
  | 33 => .int
  | 34 => .array .int
  | 35 => .array .int
  | 36 => .array .int
  | _ => .int
theorem gN10 : ∀ a, a < 38 → ∀ b, b < 38 → a ≠ b → (gT10 a).2.1 ≠ (gT10 b).2.1 := by decide +kernel
theorem gYok10 : ∀ k, k < 38 → parseFieldDescriptor (gT10 k).2.2.1 = some (gY10 k) := by decide +kernel
theorem gI10_0 : u_lay gR10 gT10 0 ∈ g_tbl := g_in5 57 (by decide +kernel) (by decide +kernel)
theorem gI10_1 : u_lay gR10 gT10 1 ∈ g_tbl := g_in5 59 (by decide +kernel) (by decide +kernel)
theorem gI10_2 : u_lay gR10 gT10 2 ∈ g_tbl := g_in5 61 (by decide +kernel) (by decide +kernel)
theorem gI10_3 : u_lay gR10 gT10 3 ∈ g_tbl := g_in5 63 (by decide +kernel) (by decide +kernel)
theorem gI10_4 : u_lay gR10 gT10 4 ∈ g_tbl := g_in5 65 (by decide +kernel) (by decide +kernel)
theorem gI10_5 : u_lay gR10 gT10 5 ∈ g_tbl := g_in5 67 (by decide +kernel) (by decide +kernel)
theorem gI10_6 : u_lay gR10 gT10 6 ∈ g_tbl := g_in5 69 (by decide +kernel) (by decide +kernel)
theorem gI10_7 : u_lay gR10 gT10 7 ∈ g_tbl := g_in5 71 (by decide +kernel) (by decide +kernel)
theorem gI10_8 : u_lay gR10 gT10 8 ∈ g_tbl := g_in5 73 (by decide +kernel) (by decide +kernel)
theorem gI10_9 : u_lay gR10 gT10 9 ∈ g_tbl := g_in5 75 (by decide +kernel) (by decide +kernel)
theorem gI10_10 : u_lay gR10 gT10 10 ∈ g_tbl := g_in5 77 (by decide +kernel) (by decide +kernel)
theorem gI10_11 : u_lay gR10 gT10 11 ∈ g_tbl := g_in5 79 (by decide +kernel) (by decide +kernel)
theorem gI10_12 : u_lay gR10 gT10 12 ∈ g_tbl := g_in5 81 (by decide +kernel) (by decide +kernel)
theorem gI10_13 : u_lay gR10 gT10 13 ∈ g_tbl := g_in5 83 (by decide +kernel) (by decide +kernel)
theorem gI10_14 : u_lay gR10 gT10 14 ∈ g_tbl := g_in5 85 (by decide +kernel) (by decide +kernel)
theorem gI10_15 : u_lay gR10 gT10 15 ∈ g_tbl := g_in5 87 (by decide +kernel) (by decide +kernel)
theorem gI10_16 : u_lay gR10 gT10 16 ∈ g_tbl := g_in5 89 (by decide +kernel) (by decide +kernel)
theorem gI10_17 : u_lay gR10 gT10 17 ∈ g_tbl := g_in5 91 (by decide +kernel) (by decide +kernel)
theorem gI10_18 : u_lay gR10 gT10 18 ∈ g_tbl := g_in5 93 (by decide +kernel) (by decide +kernel)
theorem gI10_19 : u_lay gR10 gT10 19 ∈ g_tbl := g_in5 95 (by decide +kernel) (by decide +kernel)
theorem gI10_20 : u_lay gR10 gT10 20 ∈ g_tbl := g_in5 97 (by decide +kernel) (by decide +kernel)
theorem gI10_21 : u_lay gR10 gT10 21 ∈ g_tbl := g_in5 99 (by decide +kernel) (by decide +kernel)
theorem gI10_22 : u_lay gR10 gT10 22 ∈ g_tbl := g_in5 101 (by decide +kernel) (by decide +kernel)
theorem gI10_23 : u_lay gR10 gT10 23 ∈ g_tbl := g_in5 103 (by decide +kernel) (by decide +kernel)
theorem gI10_24 : u_lay gR10 gT10 24 ∈ g_tbl := g_in5 105 (by decide +kernel) (by decide +kernel)
theorem gI10_25 : u_lay gR10 gT10 25 ∈ g_tbl := g_in5 107 (by decide +kernel) (by decide +kernel)
theorem gI10_26 : u_lay gR10 gT10 26 ∈ g_tbl := g_in5 109 (by decide +kernel) (by decide +kernel)
theorem gI10_27 : u_lay gR10 gT10 27 ∈ g_tbl := g_in5 111 (by decide +kernel) (by decide +kernel)
theorem gI10_28 : u_lay gR10 gT10 28 ∈ g_tbl := g_in5 113 (by decide +kernel) (by decide +kernel)
theorem gI10_29 : u_lay gR10 gT10 29 ∈ g_tbl := g_in5 115 (by decide +kernel) (by decide +kernel)
theorem gI10_30 : u_lay gR10 gT10 30 ∈ g_tbl := g_in5 117 (by decide +kernel) (by decide +kernel)
theorem gI10_31 : u_lay gR10 gT10 31 ∈ g_tbl := g_in5 119 (by decide +kernel) (by decide +kernel)
theorem gI10_32 : u_lay gR10 gT10 32 ∈ g_tbl := g_in5 121 (by decide +kernel) (by decide +kernel)
theorem gI10_33 : u_lay gR10 gT10 33 ∈ g_tbl := g_in5 123 (by decide +kernel) (by decide +kernel)
theorem gI10_34 : u_lay gR10 gT10 34 ∈ g_tbl := g_in5 125 (by decide +kernel) (by decide +kernel)
theorem gI10_35 : u_lay gR10 gT10 35 ∈ g_tbl := g_in5 127 (by decide +kernel) (by decide +kernel)
theorem gI10_36 : u_lay gR10 gT10 36 ∈ g_tbl := g_in5 129 (by decide +kernel) (by decide +kernel)
theorem gI10_37 : u_lay gR10 gT10 37 ∈ g_tbl := g_in5 131 (by decide +kernel) (by decide +kernel)
theorem gI10 : ∀ w ∈ u_ws gR10 gT10 38, w ∈ g_tbl := by
  intro w hw
  obtain ⟨k, hk, rfl⟩ := List.mem_map.mp hw
  have hk := List.mem_range.mp hk
  match k, hk with
  | 0, _ => exact gI10_0
  | 1, _ => exact gI10_1
  | 2, _ => exact gI10_2
  | 3, _ => exact gI10_3
  | 4, _ => exact gI10_4
  | 5, _ => exact gI10_5
  | 6, _ => exact gI10_6
  | 7, _ => exact gI10_7
  | 8, _ => exact gI10_8
  | 9, _ => exact gI10_9
  | 10, _ => exact gI10_10
  | 11, _ => exact gI10_11
  | 12, _ => exact gI10_12
  | 13, _ => exact gI10_13
  | 14, _ => exact gI10_14
  | 15, _ => exact gI10_15
  | 16, _ => exact gI10_16
  | 17, _ => exact gI10_17
  | 18, _ => exact gI10_18
  | 19, _ => exact gI10_19
  | 20, _ => exact gI10_20
  | 21, _ => exact gI10_21
  | 22, _ => exact gI10_22
  | 23, _ => exact gI10_23
  | 24, _ => exact gI10_24
  | 25, _ => exact gI10_25
  | 26, _ => exact gI10_26
  | 27, _ => exact gI10_27
  | 28, _ => exact gI10_28
  | 29, _ => exact gI10_29
  | 30, _ => exact gI10_30
  | 31, _ => exact gI10_31
  | 32, _ => exact gI10_32
  | 33, _ => exact gI10_33
  | 34, _ => exact gI10_34
  | 35, _ => exact gI10_35
  | 36, _ => exact gI10_36
  | 37, _ => exact gI10_37
  | k + 38, h => exact absurd h (by omega)
def g_cls : List vw_C := [(gR0, gT0, 6), (gR1, gT1, 14), (gR2, gT2, 2), (gR3, gT3, 4), (gR4, gT4, 10), (gR5, gT5, 5), (gR6, gT6, 1), (gR7, gT7, 3), (gR8, gT8, 4), (gR9, gT9, 15), (gR10, gT10, 38)]
