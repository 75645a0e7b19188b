/-! names of classes, their fields, what a new object of each holds -/
def RX0 : String := "SeedBench$Atlas"
def TX0 : u_T := fun k => match k with
  | 0 => ("SeedBench$Atlas", "letters", "[LSeedBench$Share;", true)
  | 1 => ("SeedBench$Atlas", "found", "I", false)
  | 2 => ("SeedBench$Atlas", "seats", "[I", true)
  | 3 => ("SeedBench$Atlas", "explored", "[Z", true)
  | 4 => ("SeedBench$Atlas", "tablesOf", "[I", true)
  | 5 => ("SeedBench$Atlas", "lowLetters", "[J", true)
  | 6 => ("SeedBench$Atlas", "highLetters", "[J", true)
  | 7 => ("SeedBench$Atlas", "rows", "I", false)
  | 8 => ("SeedBench$Atlas", "at", "LSeedBench$Seed;", true)
  | 9 => ("SeedBench$Atlas", "seatsAt", "[I", true)
  | 10 => ("SeedBench$Atlas", "lowAt", "J", false)
  | 11 => ("SeedBench$Atlas", "highAt", "J", false)
  | 12 => ("SeedBench$Atlas", "to", "[I", true)
  | 13 => ("SeedBench$Atlas", "toldLetters", "I", false)
  | 14 => ("SeedBench$Atlas", "toldWidth", "I", false)
  | 15 => ("SeedBench$Atlas", "toldTerms", "[I", true)
  | 16 => ("SeedBench$Atlas", "toldSums", "[J", true)
  | _ => ("SeedBench$Atlas", "toldLeast", "[I", true)
def tyX0 : Nat → FieldType := fun k => match k with
  | 0 => .array (.object "SeedBench$Share")
  | 1 => .int
  | 2 => .array .int
  | 3 => .array .boolean
  | 4 => .array .int
  | 5 => .array .long
  | 6 => .array .long
  | 7 => .int
  | 8 => .object "SeedBench$Seed"
  | 9 => .array .int
  | 10 => .long
  | 11 => .long
  | 12 => .array .int
  | 13 => .int
  | 14 => .int
  | 15 => .array .int
  | 16 => .array .long
  | _ => .array .int
theorem nmX0 : ∀ a, a < 18 → ∀ b, b < 18 → a ≠ b → (TX0 a).2.1 ≠ (TX0 b).2.1 := by decide +kernel
theorem tyX0_ok : ∀ k, k < 18 → parseFieldDescriptor (TX0 k).2.2.1 = some (tyX0 k) := by decide +kernel
theorem li_X0_0 : u_lay RX0 TX0 0 ∈ gT := gm_1 (List.mem_of_getElem? (i := 181) rfl) rfl
theorem li_X0_1 : u_lay RX0 TX0 1 ∈ gT := gm_1 (List.mem_of_getElem? (i := 183) rfl) rfl
theorem li_X0_2 : u_lay RX0 TX0 2 ∈ gT := gm_1 (List.mem_of_getElem? (i := 185) rfl) rfl
theorem li_X0_3 : u_lay RX0 TX0 3 ∈ gT := gm_1 (List.mem_of_getElem? (i := 187) rfl) rfl
theorem li_X0_4 : u_lay RX0 TX0 4 ∈ gT := gm_1 (List.mem_of_getElem? (i := 189) rfl) rfl
theorem li_X0_5 : u_lay RX0 TX0 5 ∈ gT := gm_1 (List.mem_of_getElem? (i := 191) rfl) rfl
theorem li_X0_6 : u_lay RX0 TX0 6 ∈ gT := gm_1 (List.mem_of_getElem? (i := 193) rfl) rfl
theorem li_X0_7 : u_lay RX0 TX0 7 ∈ gT := gm_1 (List.mem_of_getElem? (i := 195) rfl) rfl
theorem li_X0_8 : u_lay RX0 TX0 8 ∈ gT := gm_1 (List.mem_of_getElem? (i := 197) rfl) rfl
theorem li_X0_9 : u_lay RX0 TX0 9 ∈ gT := gm_1 (List.mem_of_getElem? (i := 199) rfl) rfl
theorem li_X0_10 : u_lay RX0 TX0 10 ∈ gT := gm_1 (List.mem_of_getElem? (i := 201) rfl) rfl
theorem li_X0_11 : u_lay RX0 TX0 11 ∈ gT := gm_1 (List.mem_of_getElem? (i := 203) rfl) rfl
theorem li_X0_12 : u_lay RX0 TX0 12 ∈ gT := gm_1 (List.mem_of_getElem? (i := 205) rfl) rfl
theorem li_X0_13 : u_lay RX0 TX0 13 ∈ gT := gm_1 (List.mem_of_getElem? (i := 207) rfl) rfl
theorem li_X0_14 : u_lay RX0 TX0 14 ∈ gT := gm_1 (List.mem_of_getElem? (i := 209) rfl) rfl
theorem li_X0_15 : u_lay RX0 TX0 15 ∈ gT := gm_1 (List.mem_of_getElem? (i := 211) rfl) rfl
theorem li_X0_16 : u_lay RX0 TX0 16 ∈ gT := gm_1 (List.mem_of_getElem? (i := 213) rfl) rfl
theorem li_X0_17 : u_lay RX0 TX0 17 ∈ gT := gm_1 (List.mem_of_getElem? (i := 215) rfl) rfl
theorem in_X0 : ∀ w ∈ u_ws RX0 TX0 18, w ∈ gT := List.forall_mem_cons.mpr ⟨li_X0_0, List.forall_mem_cons.mpr ⟨li_X0_1, List.forall_mem_cons.mpr ⟨li_X0_2, List.forall_mem_cons.mpr ⟨li_X0_3, List.forall_mem_cons.mpr ⟨li_X0_4, List.forall_mem_cons.mpr ⟨li_X0_5, List.forall_mem_cons.mpr ⟨li_X0_6, List.forall_mem_cons.mpr ⟨li_X0_7, List.forall_mem_cons.mpr ⟨li_X0_8, List.forall_mem_cons.mpr ⟨li_X0_9, List.forall_mem_cons.mpr ⟨li_X0_10, List.forall_mem_cons.mpr ⟨li_X0_11, List.forall_mem_cons.mpr ⟨li_X0_12, List.forall_mem_cons.mpr ⟨li_X0_13, List.forall_mem_cons.mpr ⟨li_X0_14, List.forall_mem_cons.mpr ⟨li_X0_15, List.forall_mem_cons.mpr ⟨li_X0_16, List.forall_mem_cons.mpr ⟨li_X0_17, fun _ h => absurd h List.not_mem_nil⟩⟩⟩⟩⟩⟩⟩⟩⟩⟩⟩⟩⟩⟩⟩⟩⟩⟩
def fs_X0 : List Value := [.null, .int 0, .null, .null, .null, .null, .null, .int 0, .null, .null, .long 0, .long 0, .null, .int 0, .int 0, .null, .null, .null]
theorem df_X0 : ∀ j, j < 18 → defaultValue (tyX0 j) = vp_V fs_X0 j := by decide +kernel
theorem cs_X0 (σ : Nat → Int32) : rx_consts σ fs_X0 := fun _ => ⟨rfl, rfl, rfl, rfl, rfl, rfl, rfl, rfl, rfl, rfl, rfl, rfl, rfl, rfl, rfl, rfl, rfl, rfl, trivial⟩
def RX1 : String := "SeedBench$Book"
def TX1 : u_T := fun k => match k with
  | 0 => ("SeedBench$Book", "firsts", "[J", true)
  | 1 => ("SeedBench$Book", "seconds", "[J", true)
  | 2 => ("SeedBench$Book", "from", "[I", true)
  | 3 => ("SeedBench$Book", "note", "[I", true)
  | 4 => ("SeedBench$Book", "slots", "[I", true)
  | _ => ("SeedBench$Book", "entries", "I", false)
def tyX1 : Nat → FieldType := fun k => match k with
  | 0 => .array .long
  | 1 => .array .long
  | 2 => .array .int
  | 3 => .array .int
  | 4 => .array .int
  | _ => .int
theorem nmX1 : ∀ a, a < 6 → ∀ b, b < 6 → a ≠ b → (TX1 a).2.1 ≠ (TX1 b).2.1 := by decide +kernel
theorem tyX1_ok : ∀ k, k < 6 → parseFieldDescriptor (TX1 k).2.2.1 = some (tyX1 k) := by decide +kernel
theorem li_X1_0 : u_lay RX1 TX1 0 ∈ gT := gm_1 (List.mem_of_getElem? (i := 239) rfl) rfl
theorem li_X1_1 : u_lay RX1 TX1 1 ∈ gT := gm_2 (List.mem_of_getElem? (i := 1) rfl) rfl
theorem li_X1_2 : u_lay RX1 TX1 2 ∈ gT := gm_2 (List.mem_of_getElem? (i := 3) rfl) rfl
theorem li_X1_3 : u_lay RX1 TX1 3 ∈ gT := gm_2 (List.mem_of_getElem? (i := 5) rfl) rfl
theorem li_X1_4 : u_lay RX1 TX1 4 ∈ gT := gm_2 (List.mem_of_getElem? (i := 7) rfl) rfl
theorem li_X1_5 : u_lay RX1 TX1 5 ∈ gT := gm_2 (List.mem_of_getElem? (i := 9) rfl) rfl
theorem in_X1 : ∀ w ∈ u_ws RX1 TX1 6, w ∈ gT := List.forall_mem_cons.mpr ⟨li_X1_0, List.forall_mem_cons.mpr ⟨li_X1_1, List.forall_mem_cons.mpr ⟨li_X1_2, List.forall_mem_cons.mpr ⟨li_X1_3, List.forall_mem_cons.mpr ⟨li_X1_4, List.forall_mem_cons.mpr ⟨li_X1_5, fun _ h => absurd h List.not_mem_nil⟩⟩⟩⟩⟩⟩
def fs_X1 : List Value := [.null, .null, .null, .null, .null, .int 0]
theorem df_X1 : ∀ j, j < 6 → defaultValue (tyX1 j) = vp_V fs_X1 j := by decide +kernel
theorem cs_X1 (σ : Nat → Int32) : rx_consts σ fs_X1 := fun _ => ⟨rfl, rfl, rfl, rfl, rfl, rfl, trivial⟩
def RX2 : String := "SeedBench$Draft"
def TX2 : u_T := fun k => match k with
  | 0 => ("SeedBench$Draft", "places", "I", false)
  | 1 => ("SeedBench$Draft", "held", "I", false)
  | 2 => ("SeedBench$Draft", "table", "[I", true)
  | 3 => ("SeedBench$Draft", "sizes", "[J", true)
  | _ => ("SeedBench$Draft", "group", "[I", true)
def tyX2 : Nat → FieldType := fun k => match k with
  | 0 => .int
  | 1 => .int
  | 2 => .array .int
  | 3 => .array .long
  | _ => .array .int
theorem nmX2 : ∀ a, a < 5 → ∀ b, b < 5 → a ≠ b → (TX2 a).2.1 ≠ (TX2 b).2.1 := by decide +kernel
theorem tyX2_ok : ∀ k, k < 5 → parseFieldDescriptor (TX2 k).2.2.1 = some (tyX2 k) := by decide +kernel
theorem li_X2_0 : u_lay RX2 TX2 0 ∈ gT := gm_1 (List.mem_of_getElem? (i := 110) rfl) rfl
theorem li_X2_1 : u_lay RX2 TX2 1 ∈ gT := gm_1 (List.mem_of_getElem? (i := 112) rfl) rfl
theorem li_X2_2 : u_lay RX2 TX2 2 ∈ gT := gm_1 (List.mem_of_getElem? (i := 114) rfl) rfl
theorem li_X2_3 : u_lay RX2 TX2 3 ∈ gT := gm_1 (List.mem_of_getElem? (i := 116) rfl) rfl
theorem li_X2_4 : u_lay RX2 TX2 4 ∈ gT := gm_1 (List.mem_of_getElem? (i := 118) rfl) rfl
theorem in_X2 : ∀ w ∈ u_ws RX2 TX2 5, w ∈ gT := List.forall_mem_cons.mpr ⟨li_X2_0, List.forall_mem_cons.mpr ⟨li_X2_1, List.forall_mem_cons.mpr ⟨li_X2_2, List.forall_mem_cons.mpr ⟨li_X2_3, List.forall_mem_cons.mpr ⟨li_X2_4, fun _ h => absurd h List.not_mem_nil⟩⟩⟩⟩⟩
def fs_X2 : List Value := [.int 0, .int 0, .null, .null, .null]
theorem df_X2 : ∀ j, j < 5 → defaultValue (tyX2 j) = vp_V fs_X2 j := by decide +kernel
theorem cs_X2 (σ : Nat → Int32) : rx_consts σ fs_X2 := fun _ => ⟨rfl, rfl, rfl, rfl, rfl, trivial⟩
def RX3 : String := "SeedBench$Guide"
def TX3 : u_T := fun k => match k with
  | 0 => ("SeedBench$Guide", "flips", "I", false)
  | 1 => ("SeedBench$Guide", "gone", "[I", true)
  | _ => ("SeedBench$Guide", "ring", "LSeedBench$Ring;", true)
def tyX3 : Nat → FieldType := fun k => match k with
  | 0 => .int
  | 1 => .array .int
  | _ => .object "SeedBench$Ring"
theorem nmX3 : ∀ a, a < 3 → ∀ b, b < 3 → a ≠ b → (TX3 a).2.1 ≠ (TX3 b).2.1 := by decide +kernel
theorem tyX3_ok : ∀ k, k < 3 → parseFieldDescriptor (TX3 k).2.2.1 = some (tyX3 k) := by decide +kernel
theorem li_X3_0 : u_lay RX3 TX3 0 ∈ gT := gm_2 (List.mem_of_getElem? (i := 70) rfl) rfl
theorem li_X3_1 : u_lay RX3 TX3 1 ∈ gT := gm_2 (List.mem_of_getElem? (i := 72) rfl) rfl
theorem li_X3_2 : u_lay RX3 TX3 2 ∈ gT := gm_2 (List.mem_of_getElem? (i := 74) rfl) rfl
theorem in_X3 : ∀ w ∈ u_ws RX3 TX3 3, w ∈ gT := List.forall_mem_cons.mpr ⟨li_X3_0, List.forall_mem_cons.mpr ⟨li_X3_1, List.forall_mem_cons.mpr ⟨li_X3_2, fun _ h => absurd h List.not_mem_nil⟩⟩⟩
def fs_X3 : List Value := [.int 0, .null, .null]
theorem df_X3 : ∀ j, j < 3 → defaultValue (tyX3 j) = vp_V fs_X3 j := by decide +kernel
theorem cs_X3 (σ : Nat → Int32) : rx_consts σ fs_X3 := fun _ => ⟨rfl, rfl, rfl, trivial⟩
def RX4 : String := "SeedBench$Kinds"
def TX4 : u_T := fun k => match k with
  | 0 => ("SeedBench$Kinds", "steps", "I", false)
  | 1 => ("SeedBench$Kinds", "seen", "I", false)
  | 2 => ("SeedBench$Kinds", "path", "[I", true)
  | 3 => ("SeedBench$Kinds", "now", "[I", true)
  | 4 => ("SeedBench$Kinds", "first", "J", false)
  | _ => ("SeedBench$Kinds", "second", "J", false)
def tyX4 : Nat → FieldType := fun k => match k with
  | 0 => .int
  | 1 => .int
  | 2 => .array .int
  | 3 => .array .int
  | 4 => .long
  | _ => .long
theorem nmX4 : ∀ a, a < 6 → ∀ b, b < 6 → a ≠ b → (TX4 a).2.1 ≠ (TX4 b).2.1 := by decide +kernel
theorem tyX4_ok : ∀ k, k < 6 → parseFieldDescriptor (TX4 k).2.2.1 = some (tyX4 k) := by decide +kernel
theorem li_X4_0 : u_lay RX4 TX4 0 ∈ gT := gm_2 (List.mem_of_getElem? (i := 27) rfl) rfl
theorem li_X4_1 : u_lay RX4 TX4 1 ∈ gT := gm_2 (List.mem_of_getElem? (i := 29) rfl) rfl
theorem li_X4_2 : u_lay RX4 TX4 2 ∈ gT := gm_2 (List.mem_of_getElem? (i := 31) rfl) rfl
theorem li_X4_3 : u_lay RX4 TX4 3 ∈ gT := gm_2 (List.mem_of_getElem? (i := 33) rfl) rfl
theorem li_X4_4 : u_lay RX4 TX4 4 ∈ gT := gm_2 (List.mem_of_getElem? (i := 35) rfl) rfl
theorem li_X4_5 : u_lay RX4 TX4 5 ∈ gT := gm_2 (List.mem_of_getElem? (i := 37) rfl) rfl
theorem in_X4 : ∀ w ∈ u_ws RX4 TX4 6, w ∈ gT := List.forall_mem_cons.mpr ⟨li_X4_0, List.forall_mem_cons.mpr ⟨li_X4_1, List.forall_mem_cons.mpr ⟨li_X4_2, List.forall_mem_cons.mpr ⟨li_X4_3, List.forall_mem_cons.mpr ⟨li_X4_4, List.forall_mem_cons.mpr ⟨li_X4_5, fun _ h => absurd h List.not_mem_nil⟩⟩⟩⟩⟩⟩
def fs_X4 : List Value := [.int 0, .int 0, .null, .null, .long 0, .long 0]
theorem df_X4 : ∀ j, j < 6 → defaultValue (tyX4 j) = vp_V fs_X4 j := by decide +kernel
theorem cs_X4 (σ : Nat → Int32) : rx_consts σ fs_X4 := fun _ => ⟨rfl, rfl, rfl, rfl, rfl, rfl, trivial⟩
def RX5 : String := "SeedBench$Mill"
def TX5 : u_T := fun k => match k with
  | 0 => ("SeedBench$Mill", "fresh", "LSeedBench$Share;", false)
  | 1 => ("SeedBench$Mill", "one", "LSeedBench$Share;", true)
  | 2 => ("SeedBench$Mill", "oneMore", "LSeedBench$Share;", true)
  | 3 => ("SeedBench$Mill", "two", "LSeedBench$Share;", true)
  | 4 => ("SeedBench$Mill", "twoMore", "LSeedBench$Share;", true)
  | 5 => ("SeedBench$Mill", "key", "[I", true)
  | _ => ("SeedBench$Mill", "gap", "[I", true)
def tyX5 : Nat → FieldType := fun k => match k with
  | 0 => .object "SeedBench$Share"
  | 1 => .object "SeedBench$Share"
  | 2 => .object "SeedBench$Share"
  | 3 => .object "SeedBench$Share"
  | 4 => .object "SeedBench$Share"
  | 5 => .array .int
  | _ => .array .int
theorem nmX5 : ∀ a, a < 7 → ∀ b, b < 7 → a ≠ b → (TX5 a).2.1 ≠ (TX5 b).2.1 := by decide +kernel
theorem tyX5_ok : ∀ k, k < 7 → parseFieldDescriptor (TX5 k).2.2.1 = some (tyX5 k) := by decide +kernel
theorem li_X5_0 : u_lay RX5 TX5 0 ∈ gT := gm_1 (List.mem_of_getElem? (i := 137) rfl) rfl
theorem li_X5_1 : u_lay RX5 TX5 1 ∈ gT := gm_1 (List.mem_of_getElem? (i := 139) rfl) rfl
theorem li_X5_2 : u_lay RX5 TX5 2 ∈ gT := gm_1 (List.mem_of_getElem? (i := 141) rfl) rfl
theorem li_X5_3 : u_lay RX5 TX5 3 ∈ gT := gm_1 (List.mem_of_getElem? (i := 143) rfl) rfl
theorem li_X5_4 : u_lay RX5 TX5 4 ∈ gT := gm_1 (List.mem_of_getElem? (i := 145) rfl) rfl
theorem li_X5_5 : u_lay RX5 TX5 5 ∈ gT := gm_1 (List.mem_of_getElem? (i := 147) rfl) rfl
theorem li_X5_6 : u_lay RX5 TX5 6 ∈ gT := gm_1 (List.mem_of_getElem? (i := 149) rfl) rfl
theorem in_X5 : ∀ w ∈ u_ws RX5 TX5 7, w ∈ gT := List.forall_mem_cons.mpr ⟨li_X5_0, List.forall_mem_cons.mpr ⟨li_X5_1, List.forall_mem_cons.mpr ⟨li_X5_2, List.forall_mem_cons.mpr ⟨li_X5_3, List.forall_mem_cons.mpr ⟨li_X5_4, List.forall_mem_cons.mpr ⟨li_X5_5, List.forall_mem_cons.mpr ⟨li_X5_6, fun _ h => absurd h List.not_mem_nil⟩⟩⟩⟩⟩⟩⟩
def fs_X5 : List Value := [.null, .null, .null, .null, .null, .null, .null]
theorem df_X5 : ∀ j, j < 7 → defaultValue (tyX5 j) = vp_V fs_X5 j := by decide +kernel
theorem cs_X5 (σ : Nat → Int32) : rx_consts σ fs_X5 := fun _ => ⟨rfl, rfl, rfl, rfl, rfl, rfl, rfl, trivial⟩
def RX6 : String := "SeedBench$Ring"
def TX6 : u_T := fun k => match k with
  | 0 => ("SeedBench$Ring", "corners", "I", false)
  | _ => ("SeedBench$Ring", "fences", "J", false)
def tyX6 : Nat → FieldType := fun k => match k with
  | 0 => .int
  | _ => .long
theorem nmX6 : ∀ a, a < 2 → ∀ b, b < 2 → a ≠ b → (TX6 a).2.1 ≠ (TX6 b).2.1 := by decide +kernel
theorem tyX6_ok : ∀ k, k < 2 → parseFieldDescriptor (TX6 k).2.2.1 = some (tyX6 k) := by decide +kernel
theorem li_X6_0 : u_lay RX6 TX6 0 ∈ gT := gm_2 (List.mem_of_getElem? (i := 60) rfl) rfl
theorem li_X6_1 : u_lay RX6 TX6 1 ∈ gT := gm_2 (List.mem_of_getElem? (i := 62) rfl) rfl
theorem in_X6 : ∀ w ∈ u_ws RX6 TX6 2, w ∈ gT := List.forall_mem_cons.mpr ⟨li_X6_0, List.forall_mem_cons.mpr ⟨li_X6_1, fun _ h => absurd h List.not_mem_nil⟩⟩
def fs_X6 : List Value := [.int 0, .long 0]
theorem df_X6 : ∀ j, j < 2 → defaultValue (tyX6 j) = vp_V fs_X6 j := by decide +kernel
theorem cs_X6 (σ : Nat → Int32) : rx_consts σ fs_X6 := fun _ => ⟨rfl, rfl, trivial⟩
def RX7 : String := "SeedBench$Seed"
def TX7 : u_T := fun k => match k with
  | 0 => ("SeedBench$Seed", "places", "I", false)
  | 1 => ("SeedBench$Seed", "held", "I", false)
  | 2 => ("SeedBench$Seed", "table", "[I", true)
  | 3 => ("SeedBench$Seed", "sizes", "[J", true)
  | 4 => ("SeedBench$Seed", "letters", "[LSeedBench$Share;", true)
  | _ => ("SeedBench$Seed", "to", "[I", true)
def tyX7 : Nat → FieldType := fun k => match k with
  | 0 => .int
  | 1 => .int
  | 2 => .array .int
  | 3 => .array .long
  | 4 => .array (.object "SeedBench$Share")
  | _ => .array .int
theorem nmX7 : ∀ a, a < 6 → ∀ b, b < 6 → a ≠ b → (TX7 a).2.1 ≠ (TX7 b).2.1 := by decide +kernel
theorem tyX7_ok : ∀ k, k < 6 → parseFieldDescriptor (TX7 k).2.2.1 = some (tyX7 k) := by decide +kernel
theorem li_X7_0 : u_lay RX7 TX7 0 ∈ gT := gm_1 (List.mem_of_getElem? (i := 82) rfl) rfl
theorem li_X7_1 : u_lay RX7 TX7 1 ∈ gT := gm_1 (List.mem_of_getElem? (i := 84) rfl) rfl
theorem li_X7_2 : u_lay RX7 TX7 2 ∈ gT := gm_1 (List.mem_of_getElem? (i := 86) rfl) rfl
theorem li_X7_3 : u_lay RX7 TX7 3 ∈ gT := gm_1 (List.mem_of_getElem? (i := 88) rfl) rfl
theorem li_X7_4 : u_lay RX7 TX7 4 ∈ gT := gm_1 (List.mem_of_getElem? (i := 90) rfl) rfl
theorem li_X7_5 : u_lay RX7 TX7 5 ∈ gT := gm_1 (List.mem_of_getElem? (i := 92) rfl) rfl
theorem in_X7 : ∀ w ∈ u_ws RX7 TX7 6, w ∈ gT := List.forall_mem_cons.mpr ⟨li_X7_0, List.forall_mem_cons.mpr ⟨li_X7_1, List.forall_mem_cons.mpr ⟨li_X7_2, List.forall_mem_cons.mpr ⟨li_X7_3, List.forall_mem_cons.mpr ⟨li_X7_4, List.forall_mem_cons.mpr ⟨li_X7_5, fun _ h => absurd h List.not_mem_nil⟩⟩⟩⟩⟩⟩
def fs_X7 : List Value := [.int 0, .int 0, .null, .null, .null, .null]
theorem df_X7 : ∀ j, j < 6 → defaultValue (tyX7 j) = vp_V fs_X7 j := by decide +kernel
theorem cs_X7 (σ : Nat → Int32) : rx_consts σ fs_X7 := fun _ => ⟨rfl, rfl, rfl, rfl, rfl, rfl, trivial⟩
def RX8 : String := "SeedBench$Share"
def TX8 : u_T := fun k => match k with
  | 0 => ("SeedBench$Share", "width", "I", false)
  | 1 => ("SeedBench$Share", "length", "I", false)
  | 2 => ("SeedBench$Share", "numbers", "[J", true)
  | _ => ("SeedBench$Share", "powers", "[I", true)
def tyX8 : Nat → FieldType := fun k => match k with
  | 0 => .int
  | 1 => .int
  | 2 => .array .long
  | _ => .array .int
theorem nmX8 : ∀ a, a < 4 → ∀ b, b < 4 → a ≠ b → (TX8 a).2.1 ≠ (TX8 b).2.1 := by decide +kernel
theorem tyX8_ok : ∀ k, k < 4 → parseFieldDescriptor (TX8 k).2.2.1 = some (tyX8 k) := by decide +kernel
theorem li_X8_0 : u_lay RX8 TX8 0 ∈ gT := gm_1 (List.mem_of_getElem? (i := 52) rfl) rfl
theorem li_X8_1 : u_lay RX8 TX8 1 ∈ gT := gm_1 (List.mem_of_getElem? (i := 54) rfl) rfl
theorem li_X8_2 : u_lay RX8 TX8 2 ∈ gT := gm_1 (List.mem_of_getElem? (i := 56) rfl) rfl
theorem li_X8_3 : u_lay RX8 TX8 3 ∈ gT := gm_1 (List.mem_of_getElem? (i := 58) rfl) rfl
theorem in_X8 : ∀ w ∈ u_ws RX8 TX8 4, w ∈ gT := List.forall_mem_cons.mpr ⟨li_X8_0, List.forall_mem_cons.mpr ⟨li_X8_1, List.forall_mem_cons.mpr ⟨li_X8_2, List.forall_mem_cons.mpr ⟨li_X8_3, fun _ h => absurd h List.not_mem_nil⟩⟩⟩⟩
def fs_X8 : List Value := [.int 0, .int 0, .null, .null]
theorem df_X8 : ∀ j, j < 4 → defaultValue (tyX8 j) = vp_V fs_X8 j := by decide +kernel
theorem cs_X8 (σ : Nat → Int32) : rx_consts σ fs_X8 := fun _ => ⟨rfl, rfl, rfl, rfl, trivial⟩
def RX9 : String := "SeedBench"
def TX9 : u_T := fun k => match k with
  | 0 => ("SeedBench", "seed", "LSeedBench$Seed;", true)
  | 1 => ("SeedBench", "draft", "LSeedBench$Draft;", true)
  | 2 => ("SeedBench", "mill", "LSeedBench$Mill;", true)
  | 3 => ("SeedBench", "turned", "[I", true)
  | 4 => ("SeedBench", "turns", "I", false)
  | 5 => ("SeedBench", "kept", "[LSeedBench$Seed;", true)
  | 6 => ("SeedBench", "rowPlaces", "[I", true)
  | 7 => ("SeedBench", "rowLength", "I", false)
  | 8 => ("SeedBench", "walker", "LSeedBench$Seed;", true)
  | 9 => ("SeedBench", "atlas", "LSeedBench$Atlas;", true)
  | 10 => ("SeedBench", "seedsOfAll", "I", false)
  | 11 => ("SeedBench", "book", "LSeedBench$Book;", true)
  | 12 => ("SeedBench", "kinds", "LSeedBench$Kinds;", true)
  | 13 => ("SeedBench", "rings", "[LSeedBench$Ring;", true)
  | _ => ("SeedBench", "guide", "LSeedBench$Guide;", true)
def tyX9 : Nat → FieldType := fun k => match k with
  | 0 => .object "SeedBench$Seed"
  | 1 => .object "SeedBench$Draft"
  | 2 => .object "SeedBench$Mill"
  | 3 => .array .int
  | 4 => .int
  | 5 => .array (.object "SeedBench$Seed")
  | 6 => .array .int
  | 7 => .int
  | 8 => .object "SeedBench$Seed"
  | 9 => .object "SeedBench$Atlas"
  | 10 => .int
  | 11 => .object "SeedBench$Book"
  | 12 => .object "SeedBench$Kinds"
  | 13 => .array (.object "SeedBench$Ring")
  | _ => .object "SeedBench$Guide"
theorem nmX9 : ∀ a, a < 15 → ∀ b, b < 15 → a ≠ b → (TX9 a).2.1 ≠ (TX9 b).2.1 := by decide +kernel
theorem tyX9_ok : ∀ k, k < 15 → parseFieldDescriptor (TX9 k).2.2.1 = some (tyX9 k) := by decide +kernel
theorem li_X9_0 : u_lay RX9 TX9 0 ∈ gT := gm_2 (List.mem_of_getElem? (i := 108) rfl) rfl
theorem li_X9_1 : u_lay RX9 TX9 1 ∈ gT := gm_2 (List.mem_of_getElem? (i := 110) rfl) rfl
theorem li_X9_2 : u_lay RX9 TX9 2 ∈ gT := gm_2 (List.mem_of_getElem? (i := 112) rfl) rfl
theorem li_X9_3 : u_lay RX9 TX9 3 ∈ gT := gm_2 (List.mem_of_getElem? (i := 114) rfl) rfl
theorem li_X9_4 : u_lay RX9 TX9 4 ∈ gT := gm_2 (List.mem_of_getElem? (i := 116) rfl) rfl
theorem li_X9_5 : u_lay RX9 TX9 5 ∈ gT := gm_2 (List.mem_of_getElem? (i := 118) rfl) rfl
theorem li_X9_6 : u_lay RX9 TX9 6 ∈ gT := gm_2 (List.mem_of_getElem? (i := 120) rfl) rfl
theorem li_X9_7 : u_lay RX9 TX9 7 ∈ gT := gm_2 (List.mem_of_getElem? (i := 122) rfl) rfl
theorem li_X9_8 : u_lay RX9 TX9 8 ∈ gT := gm_2 (List.mem_of_getElem? (i := 124) rfl) rfl
theorem li_X9_9 : u_lay RX9 TX9 9 ∈ gT := gm_2 (List.mem_of_getElem? (i := 126) rfl) rfl
theorem li_X9_10 : u_lay RX9 TX9 10 ∈ gT := gm_2 (List.mem_of_getElem? (i := 128) rfl) rfl
theorem li_X9_11 : u_lay RX9 TX9 11 ∈ gT := gm_2 (List.mem_of_getElem? (i := 130) rfl) rfl
theorem li_X9_12 : u_lay RX9 TX9 12 ∈ gT := gm_2 (List.mem_of_getElem? (i := 132) rfl) rfl
theorem li_X9_13 : u_lay RX9 TX9 13 ∈ gT := gm_2 (List.mem_of_getElem? (i := 134) rfl) rfl
theorem li_X9_14 : u_lay RX9 TX9 14 ∈ gT := gm_2 (List.mem_of_getElem? (i := 136) rfl) rfl
theorem in_X9 : ∀ w ∈ u_ws RX9 TX9 15, w ∈ gT := List.forall_mem_cons.mpr ⟨li_X9_0, List.forall_mem_cons.mpr ⟨li_X9_1, List.forall_mem_cons.mpr ⟨li_X9_2, List.forall_mem_cons.mpr ⟨li_X9_3, List.forall_mem_cons.mpr ⟨li_X9_4, List.forall_mem_cons.mpr ⟨li_X9_5, List.forall_mem_cons.mpr ⟨li_X9_6, List.forall_mem_cons.mpr ⟨li_X9_7, List.forall_mem_cons.mpr ⟨li_X9_8, List.forall_mem_cons.mpr ⟨li_X9_9, List.forall_mem_cons.mpr ⟨li_X9_10, List.forall_mem_cons.mpr ⟨li_X9_11, List.forall_mem_cons.mpr ⟨li_X9_12, List.forall_mem_cons.mpr ⟨li_X9_13, List.forall_mem_cons.mpr ⟨li_X9_14, fun _ h => absurd h List.not_mem_nil⟩⟩⟩⟩⟩⟩⟩⟩⟩⟩⟩⟩⟩⟩⟩
def fs_X9 : List Value := [.null, .null, .null, .null, .int 0, .null, .null, .int 0, .null, .null, .int 0, .null, .null, .null, .null]
theorem df_X9 : ∀ j, j < 15 → defaultValue (tyX9 j) = vp_V fs_X9 j := by decide +kernel
theorem cs_X9 (σ : Nat → Int32) : rx_consts σ fs_X9 := fun _ => ⟨rfl, rfl, rfl, rfl, rfl, rfl, rfl, rfl, rfl, rfl, rfl, rfl, rfl, rfl, rfl, trivial⟩
def RX10 : String := "SeedBenchModel"
def TX10 : u_T := fun k => match k with
  | 0 => ("SeedBenchModel", "thrown", "I", false)
  | 1 => ("SeedBenchModel", "many", "[I", true)
  | 2 => ("SeedBenchModel", "num", "[J", true)
  | 3 => ("SeedBenchModel", "power", "[I", true)
  | 4 => ("SeedBenchModel", "spent", "Z", false)
  | 5 => ("SeedBenchModel", "number", "J", false)
  | 6 => ("SeedBenchModel", "powers", "[I", true)
  | 7 => ("SeedBenchModel", "places", "I", false)
  | 8 => ("SeedBenchModel", "held", "I", false)
  | 9 => ("SeedBenchModel", "arrow", "[I", true)
  | 10 => ("SeedBenchModel", "done", "I", false)
  | 11 => ("SeedBenchModel", "turnedAt", "[I", true)
  | 12 => ("SeedBenchModel", "toldPlaces", "I", false)
  | 13 => ("SeedBenchModel", "toldHeld", "I", false)
  | 14 => ("SeedBenchModel", "told", "[I", true)
  | 15 => ("SeedBenchModel", "sizeUp", "[J", true)
  | 16 => ("SeedBenchModel", "sizeLow", "[J", true)
  | 17 => ("SeedBenchModel", "sizes", "[I", true)
  | 18 => ("SeedBenchModel", "inGroup", "[Z", true)
  | 19 => ("SeedBenchModel", "next", "[I", true)
  | 20 => ("SeedBenchModel", "keptPlaces", "[I", true)
  | 21 => ("SeedBenchModel", "keptHeld", "[I", true)
  | 22 => ("SeedBenchModel", "keptArrow", "[I", true)
  | 23 => ("SeedBenchModel", "order", "[I", true)
  | 24 => ("SeedBenchModel", "seeds", "I", false)
  | 25 => ("SeedBenchModel", "latestSeeds", "I", false)
  | 26 => ("SeedBenchModel", "letters", "I", false)
  | 27 => ("SeedBenchModel", "seedLetter", "[I", true)
  | 28 => ("SeedBenchModel", "seedArrow", "[I", true)
  | 29 => ("SeedBenchModel", "hasAll", "Z", false)
  | 30 => ("SeedBenchModel", "allLetters", "I", false)
  | 31 => ("SeedBenchModel", "allTerms", "[I", true)
  | 32 => ("SeedBenchModel", "allSum", "[J", true)
  | 33 => ("SeedBenchModel", "allLeast", "[I", true)
  | 34 => ("SeedBenchModel", "savedArrow", "[I", true)
  | 35 => ("SeedBenchModel", "these", "[I", true)
  | 36 => ("SeedBenchModel", "allWide", "I", false)
  | 37 => ("SeedBenchModel", "tableRow", "[I", true)
  | 38 => ("SeedBenchModel", "tableFrom", "[I", true)
  | 39 => ("SeedBenchModel", "tableBy", "[I", true)
  | 40 => ("SeedBenchModel", "tableMany", "I", false)
  | 41 => ("SeedBenchModel", "finiteTables", "I", false)
  | 42 => ("SeedBenchModel", "stepMany", "I", false)
  | 43 => ("SeedBenchModel", "steps", "[I", true)
  | 44 => ("SeedBenchModel", "tableHead", "[I", true)
  | 45 => ("SeedBenchModel", "tableLink", "[I", true)
  | 46 => ("SeedBenchModel", "rowMany", "I", false)
  | 47 => ("SeedBenchModel", "rowPlace", "[I", true)
  | 48 => ("SeedBenchModel", "corners", "[I", true)
  | 49 => ("SeedBenchModel", "fence", "[Z", true)
  | 50 => ("SeedBenchModel", "fenceBit", "[I", true)
  | 51 => ("SeedBenchModel", "bitFence", "[I", true)
  | 52 => ("SeedBenchModel", "cuttings", "[J", true)
  | 53 => ("SeedBenchModel", "far", "[I", true)
  | 54 => ("SeedBenchModel", "cuttingMany", "I", false)
  | 55 => ("SeedBenchModel", "wayMany", "I", false)
  | 56 => ("SeedBenchModel", "wayFence", "[I", true)
  | _ => ("SeedBenchModel", "savedFence", "[Z", true)
def tyX10 : Nat → FieldType := fun k => match k with
  | 0 => .int
  | 1 => .array .int
  | 2 => .array .long
  | 3 => .array .int
  | 4 => .boolean
  | 5 => .long
  | 6 => .array .int
  | 7 => .int
  | 8 => .int
  | 9 => .array .int
  | 10 => .int
  | 11 => .array .int
  | 12 => .int
  | 13 => .int
  | 14 => .array .int
  | 15 => .array .long
  | 16 => .array .long
  | 17 => .array .int
  | 18 => .array .boolean
  | 19 => .array .int
  | 20 => .array .int
  | 21 => .array .int
  | 22 => .array .int
  | 23 => .array .int
  | 24 => .int
  | 25 => .int
  | 26 => .int
  | 27 => .array .int
  | 28 => .array .int
  | 29 => .boolean
  | 30 => .int
  | 31 => .array .int
  | 32 => .array .long
  | 33 => .array .int
  | 34 => .array .int
  | 35 => .array .int
  | 36 => .int
  | 37 => .array .int
  | 38 => .array .int
  | 39 => .array .int
  | 40 => .int
  | 41 => .int
  | 42 => .int
  | 43 => .array .int
  | 44 => .array .int
  | 45 => .array .int
  | 46 => .int
  | 47 => .array .int
  | 48 => .array .int
  | 49 => .array .boolean
  | 50 => .array .int
  | 51 => .array .int
  | 52 => .array .long
  | 53 => .array .int
  | 54 => .int
  | 55 => .int
  | 56 => .array .int
  | _ => .array .boolean
theorem nmX10 : ∀ a, a < 58 → ∀ b, b < 58 → a ≠ b → (TX10 a).2.1 ≠ (TX10 b).2.1 := by decide +kernel
theorem tyX10_ok : ∀ k, k < 58 → parseFieldDescriptor (TX10 k).2.2.1 = some (tyX10 k) := by decide +kernel
theorem li_X10_0 : u_lay RX10 TX10 0 ∈ gT := gm_4 (List.mem_of_getElem? (i := 204) rfl) rfl
theorem li_X10_1 : u_lay RX10 TX10 1 ∈ gT := gm_4 (List.mem_of_getElem? (i := 206) rfl) rfl
theorem li_X10_2 : u_lay RX10 TX10 2 ∈ gT := gm_4 (List.mem_of_getElem? (i := 208) rfl) rfl
theorem li_X10_3 : u_lay RX10 TX10 3 ∈ gT := gm_4 (List.mem_of_getElem? (i := 210) rfl) rfl
theorem li_X10_4 : u_lay RX10 TX10 4 ∈ gT := gm_4 (List.mem_of_getElem? (i := 212) rfl) rfl
theorem li_X10_5 : u_lay RX10 TX10 5 ∈ gT := gm_4 (List.mem_of_getElem? (i := 214) rfl) rfl
theorem li_X10_6 : u_lay RX10 TX10 6 ∈ gT := gm_4 (List.mem_of_getElem? (i := 216) rfl) rfl
theorem li_X10_7 : u_lay RX10 TX10 7 ∈ gT := gm_4 (List.mem_of_getElem? (i := 218) rfl) rfl
theorem li_X10_8 : u_lay RX10 TX10 8 ∈ gT := gm_4 (List.mem_of_getElem? (i := 220) rfl) rfl
theorem li_X10_9 : u_lay RX10 TX10 9 ∈ gT := gm_4 (List.mem_of_getElem? (i := 222) rfl) rfl
theorem li_X10_10 : u_lay RX10 TX10 10 ∈ gT := gm_4 (List.mem_of_getElem? (i := 224) rfl) rfl
theorem li_X10_11 : u_lay RX10 TX10 11 ∈ gT := gm_4 (List.mem_of_getElem? (i := 226) rfl) rfl
theorem li_X10_12 : u_lay RX10 TX10 12 ∈ gT := gm_4 (List.mem_of_getElem? (i := 228) rfl) rfl
theorem li_X10_13 : u_lay RX10 TX10 13 ∈ gT := gm_4 (List.mem_of_getElem? (i := 230) rfl) rfl
theorem li_X10_14 : u_lay RX10 TX10 14 ∈ gT := gm_4 (List.mem_of_getElem? (i := 232) rfl) rfl
theorem li_X10_15 : u_lay RX10 TX10 15 ∈ gT := gm_4 (List.mem_of_getElem? (i := 234) rfl) rfl
theorem li_X10_16 : u_lay RX10 TX10 16 ∈ gT := gm_4 (List.mem_of_getElem? (i := 236) rfl) rfl
theorem li_X10_17 : u_lay RX10 TX10 17 ∈ gT := gm_4 (List.mem_of_getElem? (i := 238) rfl) rfl
theorem li_X10_18 : u_lay RX10 TX10 18 ∈ gT := gm_5 (List.mem_of_getElem? (i := 0) rfl) rfl
theorem li_X10_19 : u_lay RX10 TX10 19 ∈ gT := gm_5 (List.mem_of_getElem? (i := 2) rfl) rfl
theorem li_X10_20 : u_lay RX10 TX10 20 ∈ gT := gm_5 (List.mem_of_getElem? (i := 4) rfl) rfl
theorem li_X10_21 : u_lay RX10 TX10 21 ∈ gT := gm_5 (List.mem_of_getElem? (i := 6) rfl) rfl
theorem li_X10_22 : u_lay RX10 TX10 22 ∈ gT := gm_5 (List.mem_of_getElem? (i := 8) rfl) rfl
theorem li_X10_23 : u_lay RX10 TX10 23 ∈ gT := gm_5 (List.mem_of_getElem? (i := 10) rfl) rfl
theorem li_X10_24 : u_lay RX10 TX10 24 ∈ gT := gm_5 (List.mem_of_getElem? (i := 12) rfl) rfl
theorem li_X10_25 : u_lay RX10 TX10 25 ∈ gT := gm_5 (List.mem_of_getElem? (i := 14) rfl) rfl
theorem li_X10_26 : u_lay RX10 TX10 26 ∈ gT := gm_5 (List.mem_of_getElem? (i := 16) rfl) rfl
theorem li_X10_27 : u_lay RX10 TX10 27 ∈ gT := gm_5 (List.mem_of_getElem? (i := 18) rfl) rfl
theorem li_X10_28 : u_lay RX10 TX10 28 ∈ gT := gm_5 (List.mem_of_getElem? (i := 20) rfl) rfl
theorem li_X10_29 : u_lay RX10 TX10 29 ∈ gT := gm_5 (List.mem_of_getElem? (i := 22) rfl) rfl
theorem li_X10_30 : u_lay RX10 TX10 30 ∈ gT := gm_5 (List.mem_of_getElem? (i := 24) rfl) rfl
theorem li_X10_31 : u_lay RX10 TX10 31 ∈ gT := gm_5 (List.mem_of_getElem? (i := 26) rfl) rfl
theorem li_X10_32 : u_lay RX10 TX10 32 ∈ gT := gm_5 (List.mem_of_getElem? (i := 28) rfl) rfl
theorem li_X10_33 : u_lay RX10 TX10 33 ∈ gT := gm_5 (List.mem_of_getElem? (i := 30) rfl) rfl
theorem li_X10_34 : u_lay RX10 TX10 34 ∈ gT := gm_5 (List.mem_of_getElem? (i := 32) rfl) rfl
theorem li_X10_35 : u_lay RX10 TX10 35 ∈ gT := gm_5 (List.mem_of_getElem? (i := 34) rfl) rfl
theorem li_X10_36 : u_lay RX10 TX10 36 ∈ gT := gm_5 (List.mem_of_getElem? (i := 36) rfl) rfl
theorem li_X10_37 : u_lay RX10 TX10 37 ∈ gT := gm_5 (List.mem_of_getElem? (i := 38) rfl) rfl
theorem li_X10_38 : u_lay RX10 TX10 38 ∈ gT := gm_5 (List.mem_of_getElem? (i := 40) rfl) rfl
theorem li_X10_39 : u_lay RX10 TX10 39 ∈ gT := gm_5 (List.mem_of_getElem? (i := 42) rfl) rfl
theorem li_X10_40 : u_lay RX10 TX10 40 ∈ gT := gm_5 (List.mem_of_getElem? (i := 44) rfl) rfl
theorem li_X10_41 : u_lay RX10 TX10 41 ∈ gT := gm_5 (List.mem_of_getElem? (i := 46) rfl) rfl
theorem li_X10_42 : u_lay RX10 TX10 42 ∈ gT := gm_5 (List.mem_of_getElem? (i := 48) rfl) rfl
theorem li_X10_43 : u_lay RX10 TX10 43 ∈ gT := gm_5 (List.mem_of_getElem? (i := 50) rfl) rfl
theorem li_X10_44 : u_lay RX10 TX10 44 ∈ gT := gm_5 (List.mem_of_getElem? (i := 52) rfl) rfl
theorem li_X10_45 : u_lay RX10 TX10 45 ∈ gT := gm_5 (List.mem_of_getElem? (i := 54) rfl) rfl
theorem li_X10_46 : u_lay RX10 TX10 46 ∈ gT := gm_5 (List.mem_of_getElem? (i := 56) rfl) rfl
theorem li_X10_47 : u_lay RX10 TX10 47 ∈ gT := gm_5 (List.mem_of_getElem? (i := 58) rfl) rfl
theorem li_X10_48 : u_lay RX10 TX10 48 ∈ gT := gm_5 (List.mem_of_getElem? (i := 60) rfl) rfl
theorem li_X10_49 : u_lay RX10 TX10 49 ∈ gT := gm_5 (List.mem_of_getElem? (i := 62) rfl) rfl
theorem li_X10_50 : u_lay RX10 TX10 50 ∈ gT := gm_5 (List.mem_of_getElem? (i := 64) rfl) rfl
theorem li_X10_51 : u_lay RX10 TX10 51 ∈ gT := gm_5 (List.mem_of_getElem? (i := 66) rfl) rfl
theorem li_X10_52 : u_lay RX10 TX10 52 ∈ gT := gm_5 (List.mem_of_getElem? (i := 68) rfl) rfl
theorem li_X10_53 : u_lay RX10 TX10 53 ∈ gT := gm_5 (List.mem_of_getElem? (i := 70) rfl) rfl
theorem li_X10_54 : u_lay RX10 TX10 54 ∈ gT := gm_5 (List.mem_of_getElem? (i := 72) rfl) rfl
theorem li_X10_55 : u_lay RX10 TX10 55 ∈ gT := gm_5 (List.mem_of_getElem? (i := 74) rfl) rfl
theorem li_X10_56 : u_lay RX10 TX10 56 ∈ gT := gm_5 (List.mem_of_getElem? (i := 76) rfl) rfl
theorem li_X10_57 : u_lay RX10 TX10 57 ∈ gT := gm_5 (List.mem_of_getElem? (i := 78) rfl) rfl
theorem in_X10 : ∀ w ∈ u_ws RX10 TX10 58, w ∈ gT := List.forall_mem_cons.mpr ⟨li_X10_0, List.forall_mem_cons.mpr ⟨li_X10_1, List.forall_mem_cons.mpr ⟨li_X10_2, List.forall_mem_cons.mpr ⟨li_X10_3, List.forall_mem_cons.mpr ⟨li_X10_4, List.forall_mem_cons.mpr ⟨li_X10_5, List.forall_mem_cons.mpr ⟨li_X10_6, List.forall_mem_cons.mpr ⟨li_X10_7, List.forall_mem_cons.mpr ⟨li_X10_8, List.forall_mem_cons.mpr ⟨li_X10_9, List.forall_mem_cons.mpr ⟨li_X10_10, List.forall_mem_cons.mpr ⟨li_X10_11, List.forall_mem_cons.mpr ⟨li_X10_12, List.forall_mem_cons.mpr ⟨li_X10_13, List.forall_mem_cons.mpr ⟨li_X10_14, List.forall_mem_cons.mpr ⟨li_X10_15, List.forall_mem_cons.mpr ⟨li_X10_16, List.forall_mem_cons.mpr ⟨li_X10_17, List.forall_mem_cons.mpr ⟨li_X10_18, List.forall_mem_cons.mpr ⟨li_X10_19, List.forall_mem_cons.mpr ⟨li_X10_20, List.forall_mem_cons.mpr ⟨li_X10_21, List.forall_mem_cons.mpr ⟨li_X10_22, List.forall_mem_cons.mpr ⟨li_X10_23, List.forall_mem_cons.mpr ⟨li_X10_24, List.forall_mem_cons.mpr ⟨li_X10_25, List.forall_mem_cons.mpr ⟨li_X10_26, List.forall_mem_cons.mpr ⟨li_X10_27, List.forall_mem_cons.mpr ⟨li_X10_28, List.forall_mem_cons.mpr ⟨li_X10_29, List.forall_mem_cons.mpr ⟨li_X10_30, List.forall_mem_cons.mpr ⟨li_X10_31, List.forall_mem_cons.mpr ⟨li_X10_32, List.forall_mem_cons.mpr ⟨li_X10_33, List.forall_mem_cons.mpr ⟨li_X10_34, List.forall_mem_cons.mpr ⟨li_X10_35, List.forall_mem_cons.mpr ⟨li_X10_36, List.forall_mem_cons.mpr ⟨li_X10_37, List.forall_mem_cons.mpr ⟨li_X10_38, List.forall_mem_cons.mpr ⟨li_X10_39, List.forall_mem_cons.mpr ⟨li_X10_40, List.forall_mem_cons.mpr ⟨li_X10_41, List.forall_mem_cons.mpr ⟨li_X10_42, List.forall_mem_cons.mpr ⟨li_X10_43, List.forall_mem_cons.mpr ⟨li_X10_44, List.forall_mem_cons.mpr ⟨li_X10_45, List.forall_mem_cons.mpr ⟨li_X10_46, List.forall_mem_cons.mpr ⟨li_X10_47, List.forall_mem_cons.mpr ⟨li_X10_48, List.forall_mem_cons.mpr ⟨li_X10_49, List.forall_mem_cons.mpr ⟨li_X10_50, List.forall_mem_cons.mpr ⟨li_X10_51, List.forall_mem_cons.mpr ⟨li_X10_52, List.forall_mem_cons.mpr ⟨li_X10_53, List.forall_mem_cons.mpr ⟨li_X10_54, List.forall_mem_cons.mpr ⟨li_X10_55, List.forall_mem_cons.mpr ⟨li_X10_56, List.forall_mem_cons.mpr ⟨li_X10_57, fun _ h => absurd h List.not_mem_nil⟩⟩⟩⟩⟩⟩⟩⟩⟩⟩⟩⟩⟩⟩⟩⟩⟩⟩⟩⟩⟩⟩⟩⟩⟩⟩⟩⟩⟩⟩⟩⟩⟩⟩⟩⟩⟩⟩⟩⟩⟩⟩⟩⟩⟩⟩⟩⟩⟩⟩⟩⟩⟩⟩⟩⟩⟩⟩
def fs_X10 : List Value := [.int 0, .null, .null, .null, .int 0, .long 0, .null, .int 0, .int 0, .null, .int 0, .null, .int 0, .int 0, .null, .null, .null, .null, .null, .null, .null, .null, .null, .null, .int 0, .int 0, .int 0, .null, .null, .int 0, .int 0, .null, .null, .null, .null, .null, .int 0, .null, .null, .null, .int 0, .int 0, .int 0, .null, .null, .null, .int 0, .null, .null, .null, .null, .null, .null, .null, .int 0, .int 0, .null, .null]
theorem df_X10 : ∀ j, j < 58 → defaultValue (tyX10 j) = vp_V fs_X10 j := by decide +kernel
theorem cs_X10 (σ : Nat → Int32) : rx_consts σ fs_X10 := fun _ => ⟨rfl, rfl, rfl, rfl, rfl, rfl, rfl, rfl, rfl, rfl, rfl, rfl, rfl, rfl, rfl, rfl, rfl, rfl, rfl, rfl, rfl, rfl, rfl, rfl, rfl, rfl, rfl, rfl, rfl, rfl, rfl, rfl, rfl, rfl, rfl, rfl, rfl, rfl, rfl, rfl, rfl, rfl, rfl, rfl, rfl, rfl, rfl, rfl, rfl, rfl, rfl, rfl, rfl, rfl, rfl, rfl, rfl, rfl, trivial⟩
abbrev vwCl : List vw_C := [(RX0, TX0, 18), (RX1, TX1, 6), (RX2, TX2, 5), (RX3, TX3, 3), (RX4, TX4, 6), (RX5, TX5, 7), (RX6, TX6, 2), (RX7, TX7, 6), (RX8, TX8, 4), (RX9, TX9, 15), (RX10, TX10, 58)]
def nwl : List (String × Nat × MethodName × String) := [("SeedBench$Seed", 28, ⟨"SeedBench$Share", "<init>", "()V"⟩, "SeedBench"), ("SeedBench", 18, ⟨"SeedBench$Draft", "<init>", "()V"⟩, "SeedBench"), ("SeedBench", 25, ⟨"SeedBench$Mill", "<init>", "()V"⟩, "SeedBench"), ("SeedBench$Mill", 11, ⟨"SeedBench$Share", "<init>", "()V"⟩, "SeedBench"), ("SeedBench$Atlas", 61, ⟨"SeedBench$Share", "<init>", "()V"⟩, "SeedBench"), ("SeedBench", 53, ⟨"SeedBench$Book", "<init>", "()V"⟩, "SeedBench"), ("SeedBench", 60, ⟨"SeedBench$Kinds", "<init>", "()V"⟩, "SeedBench"), ("SeedBench", 73, ⟨"SeedBench$Guide", "<init>", "()V"⟩, "SeedBench"), ("SeedBench$Guide", 17, ⟨"SeedBench$Ring", "<init>", "()V"⟩, "SeedBench"), ("SeedBench", 90, ⟨"SeedBench$Ring", "<init>", "()V"⟩, "SeedBench"), ("SeedBench$Mill", 49, ⟨"SeedBench", "isTableTurnable", "([IIII)Z"⟩, "SeedBench"), ("SeedBench$Mill", 68, ⟨"SeedBench", "turnTable", "([IIII)V"⟩, "SeedBench"), ("SeedBench$Atlas", 88, ⟨"SeedBench", "turnTable", "([IIII)V"⟩, "SeedBench"), ("SeedBench$Kinds", 62, ⟨"SeedBench", "turnTable", "([IIII)V"⟩, "SeedBench")]
def ocl : List String := ["SeedBench$Ring", "SeedBench$Seed", "SeedBench$Share"]
def tyl (cy : Nat → ClassId) : List (ClassId × FieldType) := [(cy 0, .int), (cy 1, .long), (cy 2, .boolean), (cy 3, .object "SeedBench$Ring"), (cy 4, .object "SeedBench$Seed"), (cy 5, .object "SeedBench$Share")]
abbrev gG (l : Launch) (D : va_G) (cy : Nat → ClassId) (σ : Nat → Int32) : rx_G := (l, D, vwCl, cy, tyl cy, nwl, ocl, gT, σ)
theorem gok {l : Launch} {D : va_G} {cy : Nat → ClassId} {σ : Nat → Int32} : rx_gok (gG l D cy σ) := fun w hw => good_of_word (List.mem_filter.mp hw).2
theorem kw_objcode : Cond.code objectInit ⟨#[0xb1]⟩ 1 none ∈ gT := gm_1 (List.mem_of_getElem? (i := 24) rfl) rfl
