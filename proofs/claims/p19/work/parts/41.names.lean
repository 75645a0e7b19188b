section
/-! names of classes, their fields, what a new object of each holds -/
def RX0 : String := "SeedBench$Atlas"
def TX0 : u_T := fun k => match k with
  | 0 => ("SeedBench$Atlas", "letters", "[LSeedBench$Share;", true)
  | 1 => ("SeedBench$Atlas", "found", "I", false)
  | 2 => ("SeedBench$Atlas", "seats", "[I", true)
  | 3 => ("SeedBench$Atlas", "explored", "[Z", true)
  | 4 => ("SeedBench$Atlas", "tablesOf", "[I", true)
  | 5 => ("SeedBench$Atlas", "lowLetters", "[J", true)
  | 6 => ("SeedBench$Atlas", "highLetters", "[J", true)
  | 7 => ("SeedBench$Atlas", "rows", "I", false)
  | 8 => ("SeedBench$Atlas", "at", "LSeedBench$Seed;", true)
  | 9 => ("SeedBench$Atlas", "seatsAt", "[I", true)
  | 10 => ("SeedBench$Atlas", "lowAt", "J", false)
  | 11 => ("SeedBench$Atlas", "highAt", "J", false)
  | 12 => ("SeedBench$Atlas", "to", "[I", true)
  | 13 => ("SeedBench$Atlas", "toldLetters", "I", false)
  | 14 => ("SeedBench$Atlas", "toldWidth", "I", false)
  | 15 => ("SeedBench$Atlas", "toldTerms", "[I", true)
  | 16 => ("SeedBench$Atlas", "toldSums", "[J", true)
  | _ => ("SeedBench$Atlas", "toldLeast", "[I", true)
def tyX0 : Nat → FieldType := fun k => match k with
  | 0 => .array (.object "SeedBench$Share")
  | 1 => .int
  | 2 => .array .int
  | 3 => .array .boolean
  | 4 => .array .int
  | 5 => .array .long
  | 6 => .array .long
  | 7 => .int
  | 8 => .object "SeedBench$Seed"
  | 9 => .array .int
  | 10 => .long
  | 11 => .long
  | 12 => .array .int
  | 13 => .int
  | 14 => .int
  | 15 => .array .int
  | 16 => .array .long
  | _ => .array .int
theorem nmX0 : ∀ a, a < 18 → ∀ b, b < 18 → a ≠ b → (TX0 a).2.1 ≠ (TX0 b).2.1 := by decide +kernel
theorem tyX0_ok : ∀ k, k < 18 → parseFieldDescriptor (TX0 k).2.2.1 = some (tyX0 k) := by decide +kernel
theorem li_X0_0 : u_lay RX0 TX0 0 ∈ gT := gm_1 (List.mem_of_getElem? (i := 181) rfl) rfl
theorem li_X0_1 : u_lay RX0 TX0 1 ∈ gT := gm_1 (List.mem_of_getElem? (i := 183) rfl) rfl
theorem li_X0_2 : u_lay RX0 TX0 2 ∈ gT := gm_1 (List.mem_of_getElem? (i := 185) rfl) rfl
theorem li_X0_3 : u_lay RX0 TX0 3 ∈ gT := gm_1 (List.mem_of_getElem? (i := 187) rfl) rfl
theorem li_X0_4 : u_lay RX0 TX0 4 ∈ gT := gm_1 (List.mem_of_getElem? (i := 189) rfl) rfl
theorem li_X0_5 : u_lay RX0 TX0 5 ∈ gT := gm_1 (List.mem_of_getElem? (i := 191) rfl) rfl
theorem li_X0_6 : u_lay RX0 TX0 6 ∈ gT := gm_1 (List.mem_of_getElem? (i := 193) rfl) rfl
theorem li_X0_7 : u_lay RX0 TX0 7 ∈ gT := gm_1 (List.mem_of_getElem? (i := 195) rfl) rfl
theorem li_X0_8 : u_lay RX0 TX0 8 ∈ gT := gm_1 (List.mem_of_getElem? (i := 197) rfl) rfl
theorem li_X0_9 : u_lay RX0 TX0 9 ∈ gT := gm_1 (List.mem_of_getElem? (i := 199) rfl) rfl
theorem li_X0_10 : u_lay RX0 TX0 10 ∈ gT := gm_1 (List.mem_of_getElem? (i := 201) rfl) rfl
theorem li_X0_11 : u_lay RX0 TX0 11 ∈ gT := gm_1 (List.mem_of_getElem? (i := 203) rfl) rfl
theorem li_X0_12 : u_lay RX0 TX0 12 ∈ gT := gm_1 (List.mem_of_getElem? (i := 205) rfl) rfl
theorem li_X0_13 : u_lay RX0 TX0 13 ∈ gT := gm_1 (List.mem_of_getElem? (i := 207) rfl) rfl
theorem li_X0_14 : u_lay RX0 TX0 14 ∈ gT := gm_1 (List.mem_of_getElem? (i := 209) rfl) rfl
theorem li_X0_15 : u_lay RX0 TX0 15 ∈ gT := gm_1 (List.mem_of_getElem? (i := 211) rfl) rfl
theorem li_X0_16 : u_lay RX0 TX0 16 ∈ gT := gm_1 (List.mem_of_getElem? (i := 213) rfl) rfl
theorem li_X0_17 : u_lay RX0 TX0 17 ∈ gT := gm_1 (List.mem_of_getElem? (i := 215) rfl) rfl
theorem in_X0 : ∀ w ∈ u_ws RX0 TX0 18, w ∈ gT := List.forall_mem_cons.mpr ⟨li_X0_0, List.forall_mem_cons.mpr ⟨li_X0_1, List.forall_mem_cons.mpr ⟨li_X0_2, List.forall_mem_cons.mpr ⟨li_X0_3, List.forall_mem_cons.mpr ⟨li_X0_4, List.forall_mem_cons.mpr ⟨li_X0_5, List.forall_mem_cons.mpr ⟨li_X0_6, List.forall_mem_cons.mpr ⟨li_X0_7, List.forall_mem_cons.mpr ⟨li_X0_8, List.forall_mem_cons.mpr ⟨li_X0_9, List.forall_mem_cons.mpr ⟨li_X0_10, List.forall_mem_cons.mpr ⟨li_X0_11, List.forall_mem_cons.mpr ⟨li_X0_12, List.forall_mem_cons.mpr ⟨li_X0_13, List.forall_mem_cons.mpr ⟨li_X0_14, List.forall_mem_cons.mpr ⟨li_X0_15, List.forall_mem_cons.mpr ⟨li_X0_16, List.forall_mem_cons.mpr ⟨li_X0_17, fun _ h => absurd h List.not_mem_nil⟩⟩⟩⟩⟩⟩⟩⟩⟩⟩⟩⟩⟩⟩⟩⟩⟩⟩
def fs_X0 : List Value := [.null, .int 0, .null, .null, .null, .null, .null, .int 0, .null, .null, .long 0, .long 0, .null, .int 0, .int 0, .null, .null, .null]
theorem df_X0 : ∀ j, j < 18 → defaultValue (tyX0 j) = vp_V fs_X0 j := by decide +kernel
theorem cs_X0 (σ : Nat → Int32) : rx_consts σ fs_X0 := fun _ => ⟨rfl, rfl, rfl, rfl, rfl, rfl, rfl, rfl, rfl, rfl, rfl, rfl, rfl, rfl, rfl, rfl, rfl, rfl, trivial⟩
def RX1 : String := "SeedBench$Book"
def TX1 : u_T := fun k => match k with
  | 0 => ("SeedBench$Book", "firsts", "[J", true)
  | 1 => ("SeedBench$Book", "seconds", "[J", true)
  | 2 => ("SeedBench$Book", "from", "[I", true)
  | 3 => ("SeedBench$Book", "note", "[I", true)
  | 4 => ("SeedBench$Book", "slots", "[I", true)
  | _ => ("SeedBench$Book", "entries", "I", false)
def tyX1 : Nat → FieldType := fun k => match k with
  | 0 => .array .long
  | 1 => .array .long
  | 2 => .array .int
  | 3 => .array .int
  | 4 => .array .int
  | _ => .int
theorem nmX1 : ∀ a, a < 6 → ∀ b, b < 6 → a ≠ b → (TX1 a).2.1 ≠ (TX1 b).2.1 := by decide +kernel
theorem tyX1_ok : ∀ k, k < 6 → parseFieldDescriptor (TX1 k).2.2.1 = some (tyX1 k) := by decide +kernel
theorem li_X1_0 : u_lay RX1 TX1 0 ∈ gT := gm_1 (List.mem_of_getElem? (i := 239) rfl) rfl
theorem li_X1_1 : u_lay RX1 TX1 1 ∈ gT := gm_2 (List.mem_of_getElem? (i := 1) rfl) rfl
theorem li_X1_2 : u_lay RX1 TX1 2 ∈ gT := gm_2 (List.mem_of_getElem? (i := 3) rfl) rfl
theorem li_X1_3 : u_lay RX1 TX1 3 ∈ gT := gm_2 (List.mem_of_getElem? (i := 5) rfl) rfl
theorem li_X1_4 : u_lay RX1 TX1 4 ∈ gT := gm_2 (List.mem_of_getElem? (i := 7) rfl) rfl
theorem li_X1_5 : u_lay RX1 TX1 5 ∈ gT := gm_2 (List.mem_of_getElem? (i := 9) rfl) rfl
theorem in_X1 : ∀ w ∈ u_ws RX1 TX1 6, w ∈ gT := List.forall_mem_cons.mpr ⟨li_X1_0, List.forall_mem_cons.mpr ⟨li_X1_1, List.forall_mem_cons.mpr ⟨li_X1_2, List.forall_mem_cons.mpr ⟨li_X1_3, List.forall_mem_cons.mpr ⟨li_X1_4, List.forall_mem_cons.mpr ⟨li_X1_5, fun _ h => absurd h List.not_mem_nil⟩⟩⟩⟩⟩⟩
def fs_X1 : List Value := [.null, .null, .null, .null, .null, .int 0]
theorem df_X1 : ∀ j, j < 6 → defaultValue (tyX1 j) = vp_V fs_X1 j := by decide +kernel
theorem cs_X1 (σ : Nat → Int32) : rx_consts σ fs_X1 := fun _ => ⟨rfl, rfl, rfl, rfl, rfl, rfl, trivial⟩
def RX2 : String := "SeedBench$Draft"
def TX2 : u_T := fun k => match k with
  | 0 => ("SeedBench$Draft", "places", "I", false)
  | 1 => ("SeedBench$Draft", "held", "I", false)
  | 2 => ("SeedBench$Draft", "table", "[I", true)
  | 3 => ("SeedBench$Draft", "sizes", "[J", true)
  | _ => ("SeedBench$Draft", "group", "[I", true)
def tyX2 : Nat → FieldType := fun k => match k with
  | 0 => .int
  | 1 => .int
  | 2 => .array .int
  | 3 => .array .long
  | _ => .array .int
theorem nmX2 : ∀ a, a < 5 → ∀ b, b < 5 → a ≠ b → (TX2 a).2.1 ≠ (TX2 b).2.1 := by decide +kernel
theorem tyX2_ok : ∀ k, k < 5 → parseFieldDescriptor (TX2 k).2.2.1 = some (tyX2 k) := by decide +kernel
theorem li_X2_0 : u_lay RX2 TX2 0 ∈ gT := gm_1 (List.mem_of_getElem? (i := 110) rfl) rfl
theorem li_X2_1 : u_lay RX2 TX2 1 ∈ gT := gm_1 (List.mem_of_getElem? (i := 112) rfl) rfl
theorem li_X2_2 : u_lay RX2 TX2 2 ∈ gT := gm_1 (List.mem_of_getElem? (i := 114) rfl) rfl
theorem li_X2_3 : u_lay RX2 TX2 3 ∈ gT := gm_1 (List.mem_of_getElem? (i := 116) rfl) rfl
theorem li_X2_4 : u_lay RX2 TX2 4 ∈ gT := gm_1 (List.mem_of_getElem? (i := 118) rfl) rfl
theorem in_X2 : ∀ w ∈ u_ws RX2 TX2 5, w ∈ gT := List.forall_mem_cons.mpr ⟨li_X2_0, List.forall_mem_cons.mpr ⟨li_X2_1, List.forall_mem_cons.mpr ⟨li_X2_2, List.forall_mem_cons.mpr ⟨li_X2_3, List.forall_mem_cons.mpr ⟨li_X2_4, fun _ h => absurd h List.not_mem_nil⟩⟩⟩⟩⟩
def fs_X2 : List Value := [.int 0, .int 0, .null, .null, .null]
theorem df_X2 : ∀ j, j < 5 → defaultValue (tyX2 j) = vp_V fs_X2 j := by decide +kernel
theorem cs_X2 (σ : Nat → Int32) : rx_consts σ fs_X2 := fun _ => ⟨rfl, rfl, rfl, rfl, rfl, trivial⟩
def RX3 : String := "SeedBench$Guide"
def TX3 : u_T := fun k => match k with
  | 0 => ("SeedBench$Guide", "flips", "I", false)
  | 1 => ("SeedBench$Guide", "gone", "[I", true)
  | _ => ("SeedBench$Guide", "ring", "LSeedBench$Ring;", true)
def tyX3 : Nat → FieldType := fun k => match k with
  | 0 => .int
  | 1 => .array .int
  | _ => .object "SeedBench$Ring"
theorem nmX3 : ∀ a, a < 3 → ∀ b, b < 3 → a ≠ b → (TX3 a).2.1 ≠ (TX3 b).2.1 := by decide +kernel
theorem tyX3_ok : ∀ k, k < 3 → parseFieldDescriptor (TX3 k).2.2.1 = some (tyX3 k) := by decide +kernel
theorem li_X3_0 : u_lay RX3 TX3 0 ∈ gT := gm_2 (List.mem_of_getElem? (i := 70) rfl) rfl
theorem li_X3_1 : u_lay RX3 TX3 1 ∈ gT := gm_2 (List.mem_of_getElem? (i := 72) rfl) rfl
theorem li_X3_2 : u_lay RX3 TX3 2 ∈ gT := gm_2 (List.mem_of_getElem? (i := 74) rfl) rfl
theorem in_X3 : ∀ w ∈ u_ws RX3 TX3 3, w ∈ gT := List.forall_mem_cons.mpr ⟨li_X3_0, List.forall_mem_cons.mpr ⟨li_X3_1, List.forall_mem_cons.mpr ⟨li_X3_2, fun _ h => absurd h List.not_mem_nil⟩⟩⟩
def fs_X3 : List Value := [.int 0, .null, .null]
theorem df_X3 : ∀ j, j < 3 → defaultValue (tyX3 j) = vp_V fs_X3 j := by decide +kernel
theorem cs_X3 (σ : Nat → Int32) : rx_consts σ fs_X3 := fun _ => ⟨rfl, rfl, rfl, trivial⟩
def RX4 : String := "SeedBench$Kinds"
def TX4 : u_T := fun k => match k with
  | 0 => ("SeedBench$Kinds", "steps", "I", false)
  | 1 => ("SeedBench$Kinds", "seen", "I", false)
  | 2 => ("SeedBench$Kinds", "path", "[I", true)
  | 3 => ("SeedBench$Kinds", "now", "[I", true)
  | 4 => ("SeedBench$Kinds", "first", "J", false)
  | _ => ("SeedBench$Kinds", "second", "J", false)
def tyX4 : Nat → FieldType := fun k => match k with
  | 0 => .int
  | 1 => .int
  | 2 => .array .int
  | 3 => .array .int
  | 4 => .long
  | _ => .long
theorem nmX4 : ∀ a, a < 6 → ∀ b, b < 6 → a ≠ b → (TX4 a).2.1 ≠ (TX4 b).2.1 := by decide +kernel
theorem tyX4_ok : ∀ k, k < 6 → parseFieldDescriptor (TX4 k).2.2.1 = some (tyX4 k) := by decide +kernel
theorem li_X4_0 : u_lay RX4 TX4 0 ∈ gT := gm_2 (List.mem_of_getElem? (i := 27) rfl) rfl
theorem li_X4_1 : u_lay RX4 TX4 1 ∈ gT := gm_2 (List.mem_of_getElem? (i := 29) rfl) rfl
theorem li_X4_2 : u_lay RX4 TX4 2 ∈ gT := gm_2 (List.mem_of_getElem? (i := 31) rfl) rfl
theorem li_X4_3 : u_lay RX4 TX4 3 ∈ gT := gm_2 (List.mem_of_getElem? (i := 33) rfl) rfl
theorem li_X4_4 : u_lay RX4 TX4 4 ∈ gT := gm_2 (List.mem_of_getElem? (i := 35) rfl) rfl
theorem li_X4_5 : u_lay RX4 TX4 5 ∈ gT := gm_2 (List.mem_of_getElem? (i := 37) rfl) rfl
theorem in_X4 : ∀ w ∈ u_ws RX4 TX4 6, w ∈ gT := List.forall_mem_cons.mpr ⟨li_X4_0, List.forall_mem_cons.mpr ⟨li_X4_1, List.forall_mem_cons.mpr ⟨li_X4_2, List.forall_mem_cons.mpr ⟨li_X4_3, List.forall_mem_cons.mpr ⟨li_X4_4, List.forall_mem_cons.mpr ⟨li_X4_5, fun _ h => absurd h List.not_mem_nil⟩⟩⟩⟩⟩⟩
def fs_X4 : List Value := [.int 0, .int 0, .null, .null, .long 0, .long 0]
theorem df_X4 : ∀ j, j < 6 → defaultValue (tyX4 j) = vp_V fs_X4 j := by decide +kernel
theorem cs_X4 (σ : Nat → Int32) : rx_consts σ fs_X4 := fun _ => ⟨rfl, rfl, rfl, rfl, rfl, rfl, trivial⟩
def RX5 : String := "SeedBench$Mill"
def TX5 : u_T := fun k => match k with
  | 0 => ("SeedBench$Mill", "fresh", "LSeedBench$Share;", false)
  | 1 => ("SeedBench$Mill", "one", "LSeedBench$Share;", true)
  | 2 => ("SeedBench$Mill", "oneMore", "LSeedBench$Share;", true)
  | 3 => ("SeedBench$Mill", "two", "LSeedBench$Share;", true)
  | 4 => ("SeedBench$Mill", "twoMore", "LSeedBench$Share;", true)
  | 5 => ("SeedBench$Mill", "key", "[I", true)
  | _ => ("SeedBench$Mill", "gap", "[I", true)
def tyX5 : Nat → FieldType := fun k => match k with
  | 0 => .object "SeedBench$Share"
  | 1 => .object "SeedBench$Share"
  | 2 => .object "SeedBench$Share"
  | 3 => .object "SeedBench$Share"
  | 4 => .object "SeedBench$Share"
  | 5 => .array .int
  | _ => .array .int
theorem nmX5 : ∀ a, a < 7 → ∀ b, b < 7 → a ≠ b → (TX5 a).2.1 ≠ (TX5 b).2.1 := by decide +kernel
theorem tyX5_ok : ∀ k, k < 7 → parseFieldDescriptor (TX5 k).2.2.1 = some (tyX5 k) := by decide +kernel
theorem li_X5_0 : u_lay RX5 TX5 0 ∈ gT := gm_1 (List.mem_of_getElem? (i := 137) rfl) rfl
theorem li_X5_1 : u_lay RX5 TX5 1 ∈ gT := gm_1 (List.mem_of_getElem? (i := 139) rfl) rfl
theorem li_X5_2 : u_lay RX5 TX5 2 ∈ gT := gm_1 (List.mem_of_getElem? (i := 141) rfl) rfl
theorem li_X5_3 : u_lay RX5 TX5 3 ∈ gT := gm_1 (List.mem_of_getElem? (i := 143) rfl) rfl
theorem li_X5_4 : u_lay RX5 TX5 4 ∈ gT := gm_1 (List.mem_of_getElem? (i := 145) rfl) rfl
theorem li_X5_5 : u_lay RX5 TX5 5 ∈ gT := gm_1 (List.mem_of_getElem? (i := 147) rfl) rfl
theorem li_X5_6 : u_lay RX5 TX5 6 ∈ gT := gm_1 (List.mem_of_getElem? (i := 149) rfl) rfl
theorem in_X5 : ∀ w ∈ u_ws RX5 TX5 7, w ∈ gT := List.forall_mem_cons.mpr ⟨li_X5_0, List.forall_mem_cons.mpr ⟨li_X5_1, List.forall_mem_cons.mpr ⟨li_X5_2, List.forall_mem_cons.mpr ⟨li_X5_3, List.forall_mem_cons.mpr ⟨li_X5_4, List.forall_mem_cons.mpr ⟨li_X5_5, List.forall_mem_cons.mpr ⟨li_X5_6, fun _ h => absurd h List.not_mem_nil⟩⟩⟩⟩⟩⟩⟩
def fs_X5 : List Value := [.null, .null, .null, .null, .null, .null, .null]
theorem df_X5 : ∀ j, j < 7 → defaultValue (tyX5 j) = vp_V fs_X5 j := by decide +kernel
theorem cs_X5 (σ : Nat → Int32) : rx_consts σ fs_X5 := fun _ => ⟨rfl, rfl, rfl, rfl, rfl, rfl, rfl, trivial⟩
def RX6 : String := "SeedBench$Ring"
def TX6 : u_T := fun k => match k with
  | 0 => ("SeedBench$Ring", "corners", "I", false)
  | _ => ("SeedBench$Ring", "fences", "J", false)
def tyX6 : Nat → FieldType := fun k => match k with
  | 0 => .int
  | _ => .long
theorem nmX6 : ∀ a, a < 2 → ∀ b, b < 2 → a ≠ b → (TX6 a).2.1 ≠ (TX6 b).2.1 := by decide +kernel
theorem tyX6_ok : ∀ k, k < 2 → parseFieldDescriptor (TX6 k).2.2.1 = some (tyX6 k) := by decide +kernel
theorem li_X6_0 : u_lay RX6 TX6 0 ∈ gT := gm_2 (List.mem_of_getElem? (i := 60) rfl) rfl
theorem li_X6_1 : u_lay RX6 TX6 1 ∈ gT := gm_2 (List.mem_of_getElem? (i := 62) rfl) rfl
theorem in_X6 : ∀ w ∈ u_ws RX6 TX6 2, w ∈ gT := List.forall_mem_cons.mpr ⟨li_X6_0, List.forall_mem_cons.mpr ⟨li_X6_1, fun _ h => absurd h List.not_mem_nil⟩⟩
def fs_X6 : List Value := [.int 0, .long 0]
theorem df_X6 : ∀ j, j < 2 → defaultValue (tyX6 j) = vp_V fs_X6 j := by decide +kernel
theorem cs_X6 (σ : Nat → Int32) : rx_consts σ fs_X6 := fun _ => ⟨rfl, rfl, trivial⟩
def RX7 : String := "SeedBench$Seed"
def TX7 : u_T := fun k => match k with
  | 0 => ("SeedBench$Seed", "places", "I", false)
  | 1 => ("SeedBench$Seed", "held", "I", false)
  | 2 => ("SeedBench$Seed", "table", "[I", true)
  | 3 => ("SeedBench$Seed", "sizes", "[J", true)
  | 4 => ("SeedBench$Seed", "letters", "[LSeedBench$Share;", true)
  | _ => ("SeedBench$Seed", "to", "[I", true)
def tyX7 : Nat → FieldType := fun k => match k with
  | 0 => .int
  | 1 => .int
  | 2 => .array .int
  | 3 => .array .long
  | 4 => .array (.object "SeedBench$Share")
  | _ => .array .int
theorem nmX7 : ∀ a, a < 6 → ∀ b, b < 6 → a ≠ b → (TX7 a).2.1 ≠ (TX7 b).2.1 := by decide +kernel
theorem tyX7_ok : ∀ k, k < 6 → parseFieldDescriptor (TX7 k).2.2.1 = some (tyX7 k) := by decide +kernel
theorem li_X7_0 : u_lay RX7 TX7 0 ∈ gT := gm_1 (List.mem_of_getElem? (i := 82) rfl) rfl
theorem li_X7_1 : u_lay RX7 TX7 1 ∈ gT := gm_1 (List.mem_of_getElem? (i := 84) rfl) rfl
theorem li_X7_2 : u_lay RX7 TX7 2 ∈ gT := gm_1 (List.mem_of_getElem? (i := 86) rfl) rfl
theorem li_X7_3 : u_lay RX7 TX7 3 ∈ gT := gm_1 (List.mem_of_getElem? (i := 88) rfl) rfl
theorem li_X7_4 : u_lay RX7 TX7 4 ∈ gT := gm_1 (List.mem_of_getElem? (i := 90) rfl) rfl
theorem li_X7_5 : u_lay RX7 TX7 5 ∈ gT := gm_1 (List.mem_of_getElem? (i := 92) rfl) rfl
theorem in_X7 : ∀ w ∈ u_ws RX7 TX7 6, w ∈ gT := List.forall_mem_cons.mpr ⟨li_X7_0, List.forall_mem_cons.mpr ⟨li_X7_1, List.forall_mem_cons.mpr ⟨li_X7_2, List.forall_mem_cons.mpr ⟨li_X7_3, List.forall_mem_cons.mpr ⟨li_X7_4, List.forall_mem_cons.mpr ⟨li_X7_5, fun _ h => absurd h List.not_mem_nil⟩⟩⟩⟩⟩⟩
def fs_X7 : List Value := [.int 0, .int 0, .null, .null, .null, .null]
theorem df_X7 : ∀ j, j < 6 → defaultValue (tyX7 j) = vp_V fs_X7 j := by decide +kernel
theorem cs_X7 (σ : Nat → Int32) : rx_consts σ fs_X7 := fun _ => ⟨rfl, rfl, rfl, rfl, rfl, rfl, trivial⟩
def RX8 : String := "SeedBench$Share"
def TX8 : u_T := fun k => match k with
  | 0 => ("SeedBench$Share", "width", "I", false)
  | 1 => ("SeedBench$Share", "length", "I", false)
  | 2 => ("SeedBench$Share", "numbers", "[J", true)
  | _ => ("SeedBench$Share", "powers", "[I", true)
def tyX8 : Nat → FieldType := fun k => match k with
  | 0 => .int
  | 1 => .int
  | 2 => .array .long
  | _ => .array .int
theorem nmX8 : ∀ a, a < 4 → ∀ b, b < 4 → a ≠ b → (TX8 a).2.1 ≠ (TX8 b).2.1 := by decide +kernel
theorem tyX8_ok : ∀ k, k < 4 → parseFieldDescriptor (TX8 k).2.2.1 = some (tyX8 k) := by decide +kernel
theorem li_X8_0 : u_lay RX8 TX8 0 ∈ gT := gm_1 (List.mem_of_getElem? (i := 52) rfl) rfl
theorem li_X8_1 : u_lay RX8 TX8 1 ∈ gT := gm_1 (List.mem_of_getElem? (i := 54) rfl) rfl
theorem li_X8_2 : u_lay RX8 TX8 2 ∈ gT := gm_1 (List.mem_of_getElem? (i := 56) rfl) rfl
theorem li_X8_3 : u_lay RX8 TX8 3 ∈ gT := gm_1 (List.mem_of_getElem? (i := 58) rfl) rfl
theorem in_X8 : ∀ w ∈ u_ws RX8 TX8 4, w ∈ gT := List.forall_mem_cons.mpr ⟨li_X8_0, List.forall_mem_cons.mpr ⟨li_X8_1, List.forall_mem_cons.mpr ⟨li_X8_2, List.forall_mem_cons.mpr ⟨li_X8_3, fun _ h => absurd h List.not_mem_nil⟩⟩⟩⟩
def fs_X8 : List Value := [.int 0, .int 0, .null, .null]
theorem df_X8 : ∀ j, j < 4 → defaultValue (tyX8 j) = vp_V fs_X8 j := by decide +kernel
theorem cs_X8 (σ : Nat → Int32) : rx_consts σ fs_X8 := fun _ => ⟨rfl, rfl, rfl, rfl, trivial⟩
def RX9 : String := "SeedBench"
def TX9 : u_T := fun k => match k with
  | 0 => ("SeedBench", "seed", "LSeedBench$Seed;", true)
  | 1 => ("SeedBench", "draft", "LSeedBench$Draft;", true)
  | 2 => ("SeedBench", "mill", "LSeedBench$Mill;", true)
  | 3 => ("SeedBench", "turned", "[I", true)
  | 4 => ("SeedBench", "turns", "I", false)
  | 5 => ("SeedBench", "kept", "[LSeedBench$Seed;", true)
  | 6 => ("SeedBench", "rowPlaces", "[I", true)
  | 7 => ("SeedBench", "rowLength", "I", false)
  | 8 => ("SeedBench", "walker", "LSeedBench$Seed;", true)
  | 9 => ("SeedBench", "atlas", "LSeedBench$Atlas;", true)
  | 10 => ("SeedBench", "seedsOfAll", "I", false)
  | 11 => ("SeedBench", "book", "LSeedBench$Book;", true)
  | 12 => ("SeedBench", "kinds", "LSeedBench$Kinds;", true)
  | 13 => ("SeedBench", "rings", "[LSeedBench$Ring;", true)
  | _ => ("SeedBench", "guide", "LSeedBench$Guide;", true)
def tyX9 : Nat → FieldType := fun k => match k with
  | 0 => .object "SeedBench$Seed"
  | 1 => .object "SeedBench$Draft"
  | 2 => .object "SeedBench$Mill"
  | 3 => .array .int
  | 4 => .int
  | 5 => .array (.object "SeedBench$Seed")
  | 6 => .array .int
  | 7 => .int
  | 8 => .object "SeedBench$Seed"
  | 9 => .object "SeedBench$Atlas"
  | 10 => .int
  | 11 => .object "SeedBench$Book"
  | 12 => .object "SeedBench$Kinds"
  | 13 => .array (.object "SeedBench$Ring")
  | _ => .object "SeedBench$Guide"
theorem nmX9 : ∀ a, a < 15 → ∀ b, b < 15 → a ≠ b → (TX9 a).2.1 ≠ (TX9 b).2.1 := by decide +kernel
theorem tyX9_ok : ∀ k, k < 15 → parseFieldDescriptor (TX9 k).2.2.1 = some (tyX9 k) := by decide +kernel
theorem li_X9_0 : u_lay RX9 TX9 0 ∈ gT := gm_2 (List.mem_of_getElem? (i := 108) rfl) rfl
theorem li_X9_1 : u_lay RX9 TX9 1 ∈ gT := gm_2 (List.mem_of_getElem? (i := 110) rfl) rfl
theorem li_X9_2 : u_lay RX9 TX9 2 ∈ gT := gm_2 (List.mem_of_getElem? (i := 112) rfl) rfl
theorem li_X9_3 : u_lay RX9 TX9 3 ∈ gT := gm_2 (List.mem_of_getElem? (i := 114) rfl) rfl
theorem li_X9_4 : u_lay RX9 TX9 4 ∈ gT := gm_2 (List.mem_of_getElem? (i := 116) rfl) rfl
theorem li_X9_5 : u_lay RX9 TX9 5 ∈ gT := gm_2 (List.mem_of_getElem? (i := 118) rfl) rfl
theorem li_X9_6 : u_lay RX9 TX9 6 ∈ gT := gm_2 (List.mem_of_getElem? (i := 120) rfl) rfl
theorem li_X9_7 : u_lay RX9 TX9 7 ∈ gT := gm_2 (List.mem_of_getElem? (i := 122) rfl) rfl
theorem li_X9_8 : u_lay RX9 TX9 8 ∈ gT := gm_2 (List.mem_of_getElem? (i := 124) rfl) rfl
theorem li_X9_9 : u_lay RX9 TX9 9 ∈ gT := gm_2 (List.mem_of_getElem? (i := 126) rfl) rfl
theorem li_X9_10 : u_lay RX9 TX9 10 ∈ gT := gm_2 (List.mem_of_getElem? (i := 128) rfl) rfl
theorem li_X9_11 : u_lay RX9 TX9 11 ∈ gT := gm_2 (List.mem_of_getElem? (i := 130) rfl) rfl
theorem li_X9_12 : u_lay RX9 TX9 12 ∈ gT := gm_2 (List.mem_of_getElem? (i := 132) rfl) rfl
theorem li_X9_13 : u_lay RX9 TX9 13 ∈ gT := gm_2 (List.mem_of_getElem? (i := 134) rfl) rfl
theorem li_X9_14 : u_lay RX9 TX9 14 ∈ gT := gm_2 (List.mem_of_getElem? (i := 136) rfl) rfl
theorem in_X9 : ∀ w ∈ u_ws RX9 TX9 15, w ∈ gT := List.forall_mem_cons.mpr ⟨li_X9_0, List.forall_mem_cons.mpr ⟨li_X9_1, List.forall_mem_cons.mpr ⟨li_X9_2, List.forall_mem_cons.mpr ⟨li_X9_3, List.forall_mem_cons.mpr ⟨li_X9_4, List.forall_mem_cons.mpr ⟨li_X9_5, List.forall_mem_cons.mpr ⟨li_X9_6, List.forall_mem_cons.mpr ⟨li_X9_7, List.forall_mem_cons.mpr ⟨li_X9_8, List.forall_mem_cons.mpr ⟨li_X9_9, List.forall_mem_cons.mpr ⟨li_X9_10, List.forall_mem_cons.mpr ⟨li_X9_11, List.forall_mem_cons.mpr ⟨li_X9_12, List.forall_mem_cons.mpr ⟨li_X9_13, List.forall_mem_cons.mpr ⟨li_X9_14, fun _ h => absurd h List.not_mem_nil⟩⟩⟩⟩⟩⟩⟩⟩⟩⟩⟩⟩⟩⟩⟩
def fs_X9 : List Value := [.null, .null, .null, .null, .int 0, .null, .null, .int 0, .null, .null, .int 0, .null, .null, .null, .null]
theorem df_X9 : ∀ j, j < 15 → defaultValue (tyX9 j) = vp_V fs_X9 j := by decide +kernel
theorem cs_X9 (σ : Nat → Int32) : rx_consts σ fs_X9 := fun _ => ⟨rfl, rfl, rfl, rfl, rfl, rfl, rfl, rfl, rfl, rfl, rfl, rfl, rfl, rfl, rfl, trivial⟩
def RX10 : String := "SeedBenchModel"
def TX10 : u_T := fun k => match k with
  | 0 => ("SeedBenchModel", "thrown", "I", false)
  | 1 => ("SeedBenchModel", "many", "[I", true)
  | 2 => ("SeedBenchModel", "num", "[J", true)
  | 3 => ("SeedBenchModel", "power", "[I", true)
  | 4 => ("SeedBenchModel", "spent", "Z", false)
  | 5 => ("SeedBenchModel", "number", "J", false)
  | 6 => ("SeedBenchModel", "powers", "[I", true)
  | 7 => ("SeedBenchModel", "places", "I", false)
  | 8 => ("SeedBenchModel", "held", "I", false)
  | 9 => ("SeedBenchModel", "arrow", "[I", true)
  | 10 => ("SeedBenchModel", "done", "I", false)
  | 11 => ("SeedBenchModel", "turnedAt", "[I", true)
  | 12 => ("SeedBenchModel", "toldPlaces", "I", false)
  | 13 => ("SeedBenchModel", "toldHeld", "I", false)
  | 14 => ("SeedBenchModel", "told", "[I", true)
  | 15 => ("SeedBenchModel", "sizeUp", "[J", true)
  | 16 => ("SeedBenchModel", "sizeLow", "[J", true)
  | 17 => ("SeedBenchModel", "sizes", "[I", true)
  | 18 => ("SeedBenchModel", "inGroup", "[Z", true)
  | 19 => ("SeedBenchModel", "next", "[I", true)
  | 20 => ("SeedBenchModel", "keptPlaces", "[I", true)
  | 21 => ("SeedBenchModel", "keptHeld", "[I", true)
  | 22 => ("SeedBenchModel", "keptArrow", "[I", true)
  | 23 => ("SeedBenchModel", "order", "[I", true)
  | 24 => ("SeedBenchModel", "seeds", "I", false)
  | 25 => ("SeedBenchModel", "latestSeeds", "I", false)
  | 26 => ("SeedBenchModel", "letters", "I", false)
  | 27 => ("SeedBenchModel", "seedLetter", "[I", true)
  | 28 => ("SeedBenchModel", "seedArrow", "[I", true)
  | 29 => ("SeedBenchModel", "hasAll", "Z", false)
  | 30 => ("SeedBenchModel", "allLetters", "I", false)
  | 31 => ("SeedBenchModel", "allTerms", "[I", true)
  | 32 => ("SeedBenchModel", "allSum", "[J", true)
  | 33 => ("SeedBenchModel", "allLeast", "[I", true)
  | 34 => ("SeedBenchModel", "savedArrow", "[I", true)
  | 35 => ("SeedBenchModel", "these", "[I", true)
  | 36 => ("SeedBenchModel", "allWide", "I", false)
  | 37 => ("SeedBenchModel", "tableRow", "[I", true)
  | 38 => ("SeedBenchModel", "tableFrom", "[I", true)
  | 39 => ("SeedBenchModel", "tableBy", "[I", true)
  | 40 => ("SeedBenchModel", "tableMany", "I", false)
  | 41 => ("SeedBenchModel", "finiteTables", "I", false)
  | 42 => ("SeedBenchModel", "stepMany", "I", false)
  | 43 => ("SeedBenchModel", "steps", "[I", true)
  | 44 => ("SeedBenchModel", "tableHead", "[I", true)
  | 45 => ("SeedBenchModel", "tableLink", "[I", true)
  | 46 => ("SeedBenchModel", "rowMany", "I", false)
  | 47 => ("SeedBenchModel", "rowPlace", "[I", true)
  | 48 => ("SeedBenchModel", "corners", "[I", true)
  | 49 => ("SeedBenchModel", "fence", "[Z", true)
  | 50 => ("SeedBenchModel", "fenceBit", "[I", true)
  | 51 => ("SeedBenchModel", "bitFence", "[I", true)
  | 52 => ("SeedBenchModel", "cuttings", "[J", true)
  | 53 => ("SeedBenchModel", "far", "[I", true)
  | 54 => ("SeedBenchModel", "cuttingMany", "I", false)
  | 55 => ("SeedBenchModel", "wayMany", "I", false)
  | 56 => ("SeedBenchModel", "wayFence", "[I", true)
  | _ => ("SeedBenchModel", "savedFence", "[Z", true)
def tyX10 : Nat → FieldType := fun k => match k with
  | 0 => .int
  | 1 => .array .int
  | 2 => .array .long
  | 3 => .array .int
  | 4 => .boolean
  | 5 => .long
  | 6 => .array .int
  | 7 => .int
  | 8 => .int
  | 9 => .array .int
  | 10 => .int
  | 11 => .array .int
  | 12 => .int
  | 13 => .int
  | 14 => .array .int
  | 15 => .array .long
  | 16 => .array .long
  | 17 => .array .int
  | 18 => .array .boolean
  | 19 => .array .int
  | 20 => .array .int
  | 21 => .array .int
  | 22 => .array .int
  | 23 => .array .int
  | 24 => .int
  | 25 => .int
  | 26 => .int
  | 27 => .array .int
  | 28 => .array .int
  | 29 => .boolean
  | 30 => .int
  | 31 => .array .int
  | 32 => .array .long
  | 33 => .array .int
  | 34 => .array .int
  | 35 => .array .int
  | 36 => .int
  | 37 => .array .int
  | 38 => .array .int
  | 39 => .array .int
  | 40 => .int
  | 41 => .int
  | 42 => .int
  | 43 => .array .int
  | 44 => .array .int
  | 45 => .array .int
  | 46 => .int
  | 47 => .array .int
  | 48 => .array .int
  | 49 => .array .boolean
  | 50 => .array .int
  | 51 => .array .int
  | 52 => .array .long
  | 53 => .array .int
  | 54 => .int
  | 55 => .int
  | 56 => .array .int
  | _ => .array .boolean
theorem nmX10 : ∀ a, a < 58 → ∀ b, b < 58 → a ≠ b → (TX10 a).2.1 ≠ (TX10 b).2.1 := by decide +kernel
theorem tyX10_ok : ∀ k, k < 58 → parseFieldDescriptor (TX10 k).2.2.1 = some (tyX10 k) := by decide +kernel
theorem li_X10_0 : u_lay RX10 TX10 0 ∈ gT := gm_4 (List.mem_of_getElem? (i := 204) rfl) rfl
theorem li_X10_1 : u_lay RX10 TX10 1 ∈ gT := gm_4 (List.mem_of_getElem? (i := 206) rfl) rfl
theorem li_X10_2 : u_lay RX10 TX10 2 ∈ gT := gm_4 (List.mem_of_getElem? (i := 208) rfl) rfl
theorem li_X10_3 : u_lay RX10 TX10 3 ∈ gT := gm_4 (List.mem_of_getElem? (i := 210) rfl) rfl
theorem li_X10_4 : u_lay RX10 TX10 4 ∈ gT := gm_4 (List.mem_of_getElem? (i := 212) rfl) rfl
theorem li_X10_5 : u_lay RX10 TX10 5 ∈ gT := gm_4 (List.mem_of_getElem? (i := 214) rfl) rfl
theorem li_X10_6 : u_lay RX10 TX10 6 ∈ gT := gm_4 (List.mem_of_getElem? (i := 216) rfl) rfl
theorem li_X10_7 : u_lay RX10 TX10 7 ∈ gT := gm_4 (List.mem_of_getElem? (i := 218) rfl) rfl
theorem li_X10_8 : u_lay RX10 TX10 8 ∈ gT := gm_4 (List.mem_of_getElem? (i := 220) rfl) rfl
theorem li_X10_9 : u_lay RX10 TX10 9 ∈ gT := gm_4 (List.mem_of_getElem? (i := 222) rfl) rfl
theorem li_X10_10 : u_lay RX10 TX10 10 ∈ gT := gm_4 (List.mem_of_getElem? (i := 224) rfl) rfl
theorem li_X10_11 : u_lay RX10 TX10 11 ∈ gT := gm_4 (List.mem_of_getElem? (i := 226) rfl) rfl
theorem li_X10_12 : u_lay RX10 TX10 12 ∈ gT := gm_4 (List.mem_of_getElem? (i := 228) rfl) rfl
theorem li_X10_13 : u_lay RX10 TX10 13 ∈ gT := gm_4 (List.mem_of_getElem? (i := 230) rfl) rfl
theorem li_X10_14 : u_lay RX10 TX10 14 ∈ gT := gm_4 (List.mem_of_getElem? (i := 232) rfl) rfl
theorem li_X10_15 : u_lay RX10 TX10 15 ∈ gT := gm_4 (List.mem_of_getElem? (i := 234) rfl) rfl
theorem li_X10_16 : u_lay RX10 TX10 16 ∈ gT := gm_4 (List.mem_of_getElem? (i := 236) rfl) rfl
theorem li_X10_17 : u_lay RX10 TX10 17 ∈ gT := gm_4 (List.mem_of_getElem? (i := 238) rfl) rfl
theorem li_X10_18 : u_lay RX10 TX10 18 ∈ gT := gm_5 (List.mem_of_getElem? (i := 0) rfl) rfl
theorem li_X10_19 : u_lay RX10 TX10 19 ∈ gT := gm_5 (List.mem_of_getElem? (i := 2) rfl) rfl
theorem li_X10_20 : u_lay RX10 TX10 20 ∈ gT := gm_5 (List.mem_of_getElem? (i := 4) rfl) rfl
theorem li_X10_21 : u_lay RX10 TX10 21 ∈ gT := gm_5 (List.mem_of_getElem? (i := 6) rfl) rfl
theorem li_X10_22 : u_lay RX10 TX10 22 ∈ gT := gm_5 (List.mem_of_getElem? (i := 8) rfl) rfl
theorem li_X10_23 : u_lay RX10 TX10 23 ∈ gT := gm_5 (List.mem_of_getElem? (i := 10) rfl) rfl
theorem li_X10_24 : u_lay RX10 TX10 24 ∈ gT := gm_5 (List.mem_of_getElem? (i := 12) rfl) rfl
theorem li_X10_25 : u_lay RX10 TX10 25 ∈ gT := gm_5 (List.mem_of_getElem? (i := 14) rfl) rfl
theorem li_X10_26 : u_lay RX10 TX10 26 ∈ gT := gm_5 (List.mem_of_getElem? (i := 16) rfl) rfl
theorem li_X10_27 : u_lay RX10 TX10 27 ∈ gT := gm_5 (List.mem_of_getElem? (i := 18) rfl) rfl
theorem li_X10_28 : u_lay RX10 TX10 28 ∈ gT := gm_5 (List.mem_of_getElem? (i := 20) rfl) rfl
theorem li_X10_29 : u_lay RX10 TX10 29 ∈ gT := gm_5 (List.mem_of_getElem? (i := 22) rfl) rfl
theorem li_X10_30 : u_lay RX10 TX10 30 ∈ gT := gm_5 (List.mem_of_getElem? (i := 24) rfl) rfl
theorem li_X10_31 : u_lay RX10 TX10 31 ∈ gT := gm_5 (List.mem_of_getElem? (i := 26) rfl) rfl
theorem li_X10_32 : u_lay RX10 TX10 32 ∈ gT := gm_5 (List.mem_of_getElem? (i := 28) rfl) rfl
theorem li_X10_33 : u_lay RX10 TX10 33 ∈ gT := gm_5 (List.mem_of_getElem? (i := 30) rfl) rfl
theorem li_X10_34 : u_lay RX10 TX10 34 ∈ gT := gm_5 (List.mem_of_getElem? (i := 32) rfl) rfl
theorem li_X10_35 : u_lay RX10 TX10 35 ∈ gT := gm_5 (List.mem_of_getElem? (i := 34) rfl) rfl
theorem li_X10_36 : u_lay RX10 TX10 36 ∈ gT := gm_5 (List.mem_of_getElem? (i := 36) rfl) rfl
theorem li_X10_37 : u_lay RX10 TX10 37 ∈ gT := gm_5 (List.mem_of_getElem? (i := 38) rfl) rfl
theorem li_X10_38 : u_lay RX10 TX10 38 ∈ gT := gm_5 (List.mem_of_getElem? (i := 40) rfl) rfl
theorem li_X10_39 : u_lay RX10 TX10 39 ∈ gT := gm_5 (List.mem_of_getElem? (i := 42) rfl) rfl
theorem li_X10_40 : u_lay RX10 TX10 40 ∈ gT := gm_5 (List.mem_of_getElem? (i := 44) rfl) rfl
theorem li_X10_41 : u_lay RX10 TX10 41 ∈ gT := gm_5 (List.mem_of_getElem? (i := 46) rfl) rfl
theorem li_X10_42 : u_lay RX10 TX10 42 ∈ gT := gm_5 (List.mem_of_getElem? (i := 48) rfl) rfl
theorem li_X10_43 : u_lay RX10 TX10 43 ∈ gT := gm_5 (List.mem_of_getElem? (i := 50) rfl) rfl
theorem li_X10_44 : u_lay RX10 TX10 44 ∈ gT := gm_5 (List.mem_of_getElem? (i := 52) rfl) rfl
theorem li_X10_45 : u_lay RX10 TX10 45 ∈ gT := gm_5 (List.mem_of_getElem? (i := 54) rfl) rfl
theorem li_X10_46 : u_lay RX10 TX10 46 ∈ gT := gm_5 (List.mem_of_getElem? (i := 56) rfl) rfl
theorem li_X10_47 : u_lay RX10 TX10 47 ∈ gT := gm_5 (List.mem_of_getElem? (i := 58) rfl) rfl
theorem li_X10_48 : u_lay RX10 TX10 48 ∈ gT := gm_5 (List.mem_of_getElem? (i := 60) rfl) rfl
theorem li_X10_49 : u_lay RX10 TX10 49 ∈ gT := gm_5 (List.mem_of_getElem? (i := 62) rfl) rfl
theorem li_X10_50 : u_lay RX10 TX10 50 ∈ gT := gm_5 (List.mem_of_getElem? (i := 64) rfl) rfl
theorem li_X10_51 : u_lay RX10 TX10 51 ∈ gT := gm_5 (List.mem_of_getElem? (i := 66) rfl) rfl
theorem li_X10_52 : u_lay RX10 TX10 52 ∈ gT := gm_5 (List.mem_of_getElem? (i := 68) rfl) rfl
theorem li_X10_53 : u_lay RX10 TX10 53 ∈ gT := gm_5 (List.mem_of_getElem? (i := 70) rfl) rfl
theorem li_X10_54 : u_lay RX10 TX10 54 ∈ gT := gm_5 (List.mem_of_getElem? (i := 72) rfl) rfl
theorem li_X10_55 : u_lay RX10 TX10 55 ∈ gT := gm_5 (List.mem_of_getElem? (i := 74) rfl) rfl
theorem li_X10_56 : u_lay RX10 TX10 56 ∈ gT := gm_5 (List.mem_of_getElem? (i := 76) rfl) rfl
theorem li_X10_57 : u_lay RX10 TX10 57 ∈ gT := gm_5 (List.mem_of_getElem? (i := 78) rfl) rfl
theorem in_X10 : ∀ w ∈ u_ws RX10 TX10 58, w ∈ gT := List.forall_mem_cons.mpr ⟨li_X10_0, List.forall_mem_cons.mpr ⟨li_X10_1, List.forall_mem_cons.mpr ⟨li_X10_2, List.forall_mem_cons.mpr ⟨li_X10_3, List.forall_mem_cons.mpr ⟨li_X10_4, List.forall_mem_cons.mpr ⟨li_X10_5, List.forall_mem_cons.mpr ⟨li_X10_6, List.forall_mem_cons.mpr ⟨li_X10_7, List.forall_mem_cons.mpr ⟨li_X10_8, List.forall_mem_cons.mpr ⟨li_X10_9, List.forall_mem_cons.mpr ⟨li_X10_10, List.forall_mem_cons.mpr ⟨li_X10_11, List.forall_mem_cons.mpr ⟨li_X10_12, List.forall_mem_cons.mpr ⟨li_X10_13, List.forall_mem_cons.mpr ⟨li_X10_14, List.forall_mem_cons.mpr ⟨li_X10_15, List.forall_mem_cons.mpr ⟨li_X10_16, List.forall_mem_cons.mpr ⟨li_X10_17, List.forall_mem_cons.mpr ⟨li_X10_18, List.forall_mem_cons.mpr ⟨li_X10_19, List.forall_mem_cons.mpr ⟨li_X10_20, List.forall_mem_cons.mpr ⟨li_X10_21, List.forall_mem_cons.mpr ⟨li_X10_22, List.forall_mem_cons.mpr ⟨li_X10_23, List.forall_mem_cons.mpr ⟨li_X10_24, List.forall_mem_cons.mpr ⟨li_X10_25, List.forall_mem_cons.mpr ⟨li_X10_26, List.forall_mem_cons.mpr ⟨li_X10_27, List.forall_mem_cons.mpr ⟨li_X10_28, List.forall_mem_cons.mpr ⟨li_X10_29, List.forall_mem_cons.mpr ⟨li_X10_30, List.forall_mem_cons.mpr ⟨li_X10_31, List.forall_mem_cons.mpr ⟨li_X10_32, List.forall_mem_cons.mpr ⟨li_X10_33, List.forall_mem_cons.mpr ⟨li_X10_34, List.forall_mem_cons.mpr ⟨li_X10_35, List.forall_mem_cons.mpr ⟨li_X10_36, List.forall_mem_cons.mpr ⟨li_X10_37, List.forall_mem_cons.mpr ⟨li_X10_38, List.forall_mem_cons.mpr ⟨li_X10_39, List.forall_mem_cons.mpr ⟨li_X10_40, List.forall_mem_cons.mpr ⟨li_X10_41, List.forall_mem_cons.mpr ⟨li_X10_42, List.forall_mem_cons.mpr ⟨li_X10_43, List.forall_mem_cons.mpr ⟨li_X10_44, List.forall_mem_cons.mpr ⟨li_X10_45, List.forall_mem_cons.mpr ⟨li_X10_46, List.forall_mem_cons.mpr ⟨li_X10_47, List.forall_mem_cons.mpr ⟨li_X10_48, List.forall_mem_cons.mpr ⟨li_X10_49, List.forall_mem_cons.mpr ⟨li_X10_50, List.forall_mem_cons.mpr ⟨li_X10_51, List.forall_mem_cons.mpr ⟨li_X10_52, List.forall_mem_cons.mpr ⟨li_X10_53, List.forall_mem_cons.mpr ⟨li_X10_54, List.forall_mem_cons.mpr ⟨li_X10_55, List.forall_mem_cons.mpr ⟨li_X10_56, List.forall_mem_cons.mpr ⟨li_X10_57, fun _ h => absurd h List.not_mem_nil⟩⟩⟩⟩⟩⟩⟩⟩⟩⟩⟩⟩⟩⟩⟩⟩⟩⟩⟩⟩⟩⟩⟩⟩⟩⟩⟩⟩⟩⟩⟩⟩⟩⟩⟩⟩⟩⟩⟩⟩⟩⟩⟩⟩⟩⟩⟩⟩⟩⟩⟩⟩⟩⟩⟩⟩⟩⟩
def fs_X10 : List Value := [.int 0, .null, .null, .null, .int 0, .long 0, .null, .int 0, .int 0, .null, .int 0, .null, .int 0, .int 0, .null, .null, .null, .null, .null, .null, .null, .null, .null, .null, .int 0, .int 0, .int 0, .null, .null, .int 0, .int 0, .null, .null, .null, .null, .null, .int 0, .null, .null, .null, .int 0, .int 0, .int 0, .null, .null, .null, .int 0, .null, .null, .null, .null, .null, .null, .null, .int 0, .int 0, .null, .null]
theorem df_X10 : ∀ j, j < 58 → defaultValue (tyX10 j) = vp_V fs_X10 j := by decide +kernel
theorem cs_X10 (σ : Nat → Int32) : rx_consts σ fs_X10 := fun _ => ⟨rfl, rfl, rfl, rfl, rfl, rfl, rfl, rfl, rfl, rfl, rfl, rfl, rfl, rfl, rfl, rfl, rfl, rfl, rfl, rfl, rfl, rfl, rfl, rfl, rfl, rfl, rfl, rfl, rfl, rfl, rfl, rfl, rfl, rfl, rfl, rfl, rfl, rfl, rfl, rfl, rfl, rfl, rfl, rfl, rfl, rfl, rfl, rfl, rfl, rfl, rfl, rfl, rfl, rfl, rfl, rfl, rfl, rfl, trivial⟩
abbrev vwCl : List vw_C := [(RX0, TX0, 18), (RX1, TX1, 6), (RX2, TX2, 5), (RX3, TX3, 3), (RX4, TX4, 6), (RX5, TX5, 7), (RX6, TX6, 2), (RX7, TX7, 6), (RX8, TX8, 4), (RX9, TX9, 15), (RX10, TX10, 58)]
def nwl : List (String × Nat × MethodName × String) := [("SeedBench$Seed", 28, ⟨"SeedBench$Share", "<init>", "()V"⟩, "SeedBench"), ("SeedBench", 18, ⟨"SeedBench$Draft", "<init>", "()V"⟩, "SeedBench"), ("SeedBench", 25, ⟨"SeedBench$Mill", "<init>", "()V"⟩, "SeedBench"), ("SeedBench$Mill", 11, ⟨"SeedBench$Share", "<init>", "()V"⟩, "SeedBench"), ("SeedBench$Atlas", 61, ⟨"SeedBench$Share", "<init>", "()V"⟩, "SeedBench"), ("SeedBench", 53, ⟨"SeedBench$Book", "<init>", "()V"⟩, "SeedBench"), ("SeedBench", 60, ⟨"SeedBench$Kinds", "<init>", "()V"⟩, "SeedBench"), ("SeedBench", 73, ⟨"SeedBench$Guide", "<init>", "()V"⟩, "SeedBench"), ("SeedBench$Guide", 17, ⟨"SeedBench$Ring", "<init>", "()V"⟩, "SeedBench"), ("SeedBench", 90, ⟨"SeedBench$Ring", "<init>", "()V"⟩, "SeedBench"), ("SeedBench$Mill", 49, ⟨"SeedBench", "isTableTurnable", "([IIII)Z"⟩, "SeedBench"), ("SeedBench$Mill", 68, ⟨"SeedBench", "turnTable", "([IIII)V"⟩, "SeedBench"), ("SeedBench$Atlas", 88, ⟨"SeedBench", "turnTable", "([IIII)V"⟩, "SeedBench"), ("SeedBench$Kinds", 62, ⟨"SeedBench", "turnTable", "([IIII)V"⟩, "SeedBench")]
def ocl : List String := ["SeedBench$Ring", "SeedBench$Seed", "SeedBench$Share"]
def tyl (cy : Nat → ClassId) : List (ClassId × FieldType) := [(cy 0, .int), (cy 1, .long), (cy 2, .boolean), (cy 3, .object "SeedBench$Ring"), (cy 4, .object "SeedBench$Seed"), (cy 5, .object "SeedBench$Share")]
abbrev gG (l : Launch) (D : va_G) (cy : Nat → ClassId) (σ : Nat → Int32) : rx_G := (l, D, vwCl, cy, tyl cy, nwl, ocl, gT, σ)
theorem gok {l : Launch} {D : va_G} {cy : Nat → ClassId} {σ : Nat → Int32} : rx_gok (gG l D cy σ) := fun w hw => good_of_word (List.mem_filter.mp hw).2
theorem kw_objcode : Cond.code objectInit ⟨#[0xb1]⟩ 1 none ∈ gT := gm_1 (List.mem_of_getElem? (i := 24) rfl) rfl
end

section
/-! OPERATIONS AS DATA: (next place, what, a, b, c, z, list). 'sem' is what each does; 'ck' is checked by the kernel against the code's bytes. -/
abbrev pm_Op : Type := Nat × Nat × Nat × Nat × Nat × Int × List Nat
def Yo : rx_Y := ([], [])
theorem Yo_ok (σ : Nat → Int32) : rx_YOk Yo σ := ⟨fun n q h => by simp [Yo] at h, fun q h => by simp [Yo] at h⟩
def fty : Nat → FieldType
  | 0 => .int
  | 1 => .long
  | 2 => .boolean
  | _ => .object "SeedBench$Share"
def o_bi : Nat → Int32 → Int32 → Int32
  | 0 => fun x y => x + y
  | 1 => fun x y => x - y
  | 2 => fun x y => x * y
  | 3 => fun x y => x &&& y
  | 4 => fun x y => x ||| y
  | 5 => fun x y => x ^^^ y
  | 6 => fun x y => x <<< (y &&& 31)
  | 7 => fun x y => x >>> (y &&& 31)
  | _ => fun x y => (x.toUInt32 >>> (y.toUInt32 &&& Int32.toUInt32 31)).toInt32
def o_bid : Nat → Int32 → Int32 → Int32
  | 0 => fun x y => x / y
  | _ => fun x y => x - x / y * y
def o_lb : Nat → Int64 → Int64 → Int64
  | 0 => fun x y => x + y
  | 1 => fun x y => x - y
  | 2 => fun x y => x * y
  | 3 => fun x y => x &&& y
  | 4 => fun x y => x ||| y
  | _ => fun x y => x ^^^ y
def o_lbd : Nat → Int64 → Int64 → Int64
  | 0 => fun x y => x / y
  | _ => fun x y => x - x / y * y
def o_ls : Nat → Int64 → Int32 → Int64
  | 0 => fun x y => x <<< (y.toInt64 &&& 63)
  | 1 => fun x y => x >>> (y.toInt64 &&& 63)
  | _ => fun x y => (x.toUInt64 >>> (y.toInt64.toUInt64 &&& Int64.toUInt64 63)).toInt64
noncomputable def o_un : Nat → List Value → Option (List Value)
  | 0 => rx_ineg
  | 1 => rx_lneg
  | 2 => rx_i2l
  | 3 => rx_l2i
  | 4 => rx_lcmp
  | 5 => rx_dup
  | 6 => rx_dup2
  | _ => rx_pop
def o_kd : Nat → Nat
  | 0 => 0
  | 1 => 1
  | 2 => 0
  | _ => 2
def o_m2 : Nat → Int32 → Int32 → Int32
  | 0 => rx_max
  | _ => rx_min
noncomputable def sem (o : pm_Op) : rx_T := match o.2.1 with
  | 0 => rx_pure (rx_push (.int (Int32.ofInt o.2.2.2.2.2.1))) o.1
  | 1 => rx_pure (rx_push (.long (Int64.ofNat o.2.2.1))) o.1
  | 2 => rx_pure (rx_push .null) o.1
  | 3 => rx_ld o.2.2.1 o.2.2.2.1 o.1
  | 4 => rx_st o.2.2.1 o.2.2.2.1 o.1 o.2.2.2.2.1
  | 5 => rx_inc o.2.2.1 (Int32.ofInt o.2.2.2.2.2.1) o.1 o.2.2.2.2.1
  | 6 => rx_pure (rx_bi (o_bi o.2.2.1)) o.1
  | 7 => rx_pure (rx_bid (o_bid o.2.2.1)) o.1
  | 8 => rx_pure (rx_lb (o_lb o.2.2.1)) o.1
  | 9 => rx_pure (rx_lbd (o_lbd o.2.2.1)) o.1
  | 10 => rx_pure (rx_ls (o_ls o.2.2.1)) o.1
  | 11 => rx_pure (o_un o.2.2.1) o.1
  | 12 => rx_br rx_goto o.2.2.2.1 o.1
  | 13 => rx_br rx_nul o.2.2.2.1 o.1
  | 14 => rx_br (rx_cmp Yo o.2.2.1) o.2.2.2.1 o.1
  | 15 => rx_br (rx_cm0 Yo o.2.2.1) o.2.2.2.1 o.1
  | 16 => rx_sw Yo o.2.2.2.2.2.1 (o.2.2.2.2.2.1 + o.2.2.2.2.2.2.length - 1) o.2.2.2.2.2.2 o.2.2.2.1
  | 17 => rx_get o.2.2.1 o.2.2.2.1 o.1
  | 18 => rx_putf o.2.2.1 o.2.2.2.1 (fty o.2.2.2.2.1) o.1
  | 19 => rx_ald o.2.2.1 (o_kd o.2.2.1) o.1
  | 20 => rx_ast Yo o.2.2.1 (fty o.2.2.1) o.1
  | 21 => rx_asq o.2.2.1 o.2.2.2.1 o.1
  | 22 => rx_aln o.2.2.1 o.1
  | 23 => rx_cl o.2.2.1 o.2.2.2.1 o.2.2.2.2.1 (decide (o.2.2.2.2.2.1 = 1)) 0 0 0 0 o.1
  | 24 => rx_ret0 0 0
  | 25 => rx_retv (fty o.2.2.1) 0 0
  | 26 => rx_con (.int (Int32.ofInt o.2.2.2.2.2.1)) o.1
  | 27 => rx_con (.long (Int64.ofInt o.2.2.2.2.2.1)) o.1
  | 28 => rx_acp o.2.2.1 o.2.2.2.2.1 o.1
  | 29 => rx_m2 (o_m2 o.2.2.1) 0 0 o.2.2.2.2.1 o.1
  | 30 => rx_m1 rx_abs 0 0 o.2.2.2.2.1 o.1
  | _ => fun _ _ => none
/-- the head of a method: name, code, locals, answer, room -/
abbrev pm_H : Type := MethodName × ByteArray × Nat × Option FieldType × Room
def o_dk (cc : ByteArray) (pc : Nat) (i : Instr) (n : Nat) : Bool := decide (decode cc pc = .ok (i, n))
theorem o_dk_ok {cc : ByteArray} {pc n : Nat} {i : Instr} (h : o_dk cc pc i n = true) : decode cc pc = .ok (i, n) := of_decide_eq_true h
def o_tab : Nat → List Cond
  | 1 => tables_1_1
  | 2 => tables_1_2
  | 3 => tables_1_3
  | 4 => tables_1_4
  | 5 => tables_1_5
  | _ => tables_1_6
def o_wd (k i : Nat) (w : Cond) : Bool := decide ((o_tab k)[i]? = some w) && goodWord w
theorem o_wd_ok {k i : Nat} {w : Cond} (h : o_wd k i w = true) : w ∈ gT := by
  unfold o_wd at h
  rw [Bool.and_eq_true, decide_eq_true_eq] at h
  have hm := List.mem_of_getElem? h.1
  unfold o_tab at hm
  split at hm
  · exact gm_1 hm h.2
  · exact gm_2 hm h.2
  · exact gm_3 hm h.2
  · exact gm_4 hm h.2
  · exact gm_5 hm h.2
  · exact gm_6 hm h.2
def o_bii : Nat → Instr
  | 0 => .iadd
  | 1 => .isub
  | 2 => .imul
  | 3 => .iand
  | 4 => .ior
  | 5 => .ixor
  | 6 => .ishl
  | 7 => .ishr
  | _ => .iushr
def o_lbi : Nat → Instr
  | 0 => .ladd
  | 1 => .lsub
  | 2 => .lmul
  | 3 => .land
  | 4 => .lor
  | _ => .lxor
def o_lsi : Nat → Instr
  | 0 => .lshl
  | 1 => .lshr
  | _ => .lushr
def o_uni : Nat → Instr
  | 0 => .ineg
  | 1 => .lneg
  | 2 => .i2l
  | 3 => .l2i
  | 4 => .lcmp
  | 5 => .dup
  | 6 => .dup2
  | _ => .pop
def o_cnd : Nat → Jvm.ClassFile.Cond
  | 0 => .lt
  | 1 => .ge
  | 2 => .gt
  | 3 => .le
  | 4 => .eq
  | _ => .ne
section
variable {l : Launch} {D : va_G} {cy : Nat → ClassId} {σ : Nat → Int32} {MT : Nat → rx_M} {M : rx_M} {pc : Nat}
def ck0 (H : pm_H) (pc : Nat) (o : pm_Op) : Bool := match o.2.2.1 with
  | 0 => o_dk H.2.1 pc (.iconst o.2.2.2.2.2.1) 1 && Nat.beq o.1 (pc + 1)
  | 1 => o_dk H.2.1 pc (.bipush o.2.2.2.2.2.1) 2 && Nat.beq o.1 (pc + 2) && decide ((Int8.ofInt o.2.2.2.2.2.1).toInt32 = Int32.ofInt o.2.2.2.2.2.1)
  | _ => o_dk H.2.1 pc (.sipush o.2.2.2.2.2.1) 3 && Nat.beq o.1 (pc + 3) && decide ((Int16.ofInt o.2.2.2.2.2.1).toInt32 = Int32.ofInt o.2.2.2.2.2.1)
theorem ck0_ok {H : pm_H} {o : pm_Op} (hM : M.2.1 = H.2.1) (h : ck0 H pc o = true) : rx_Sd (gG l D cy σ) MT M pc (rx_pure (rx_push (.int (Int32.ofInt o.2.2.2.2.2.1))) o.1) := by
  unfold ck0 at h
  split at h
  · rw [Bool.and_eq_true] at h
    rw [Nat.eq_of_beq_eq_true h.2]
    exact rx_sd_iconst (hM ▸ o_dk_ok h.1) rfl
  · simp only [Bool.and_eq_true, decide_eq_true_eq] at h
    rw [Nat.eq_of_beq_eq_true h.1.2]
    exact rx_sd_bipush (hM ▸ o_dk_ok h.1.1) h.2
  · simp only [Bool.and_eq_true, decide_eq_true_eq] at h
    rw [Nat.eq_of_beq_eq_true h.1.2]
    exact rx_sd_sipush (hM ▸ o_dk_ok h.1.1) h.2
def ck1 (H : pm_H) (pc : Nat) (o : pm_Op) : Bool := Nat.beq o.1 (pc + 1) && (match o.2.2.1 with
  | 0 => o_dk H.2.1 pc (.lconst 0) 1
  | 1 => o_dk H.2.1 pc (.lconst 1) 1
  | _ => false)
theorem ck1_ok {H : pm_H} {o : pm_Op} (hM : M.2.1 = H.2.1) (h : ck1 H pc o = true) : rx_Sd (gG l D cy σ) MT M pc (rx_pure (rx_push (.long (Int64.ofNat o.2.2.1))) o.1) := by
  unfold ck1 at h
  rw [Bool.and_eq_true] at h
  rw [Nat.eq_of_beq_eq_true h.1]
  have h2 := h.2
  split at h2
  · next e => rw [e]; exact rx_sd_lconst (hM ▸ o_dk_ok h2) rfl
  · next e => rw [e]; exact rx_sd_lconst (hM ▸ o_dk_ok h2) rfl
  · cases h2
def ck2 (H : pm_H) (pc : Nat) (o : pm_Op) : Bool := o_dk H.2.1 pc .aconst_null 1 && Nat.beq o.1 (pc + 1)
theorem ck2_ok {H : pm_H} {o : pm_Op} (hM : M.2.1 = H.2.1) (h : ck2 H pc o = true) : rx_Sd (gG l D cy σ) MT M pc (rx_pure (rx_push .null) o.1) := by
  unfold ck2 at h
  rw [Bool.and_eq_true] at h
  rw [Nat.eq_of_beq_eq_true h.2]
  exact rx_sd_null (hM ▸ o_dk_ok h.1)
def ck3 (H : pm_H) (pc : Nat) (o : pm_Op) : Bool := match o.2.2.1, o.2.2.2.2.1 with
  | 0, 0 => o_dk H.2.1 pc (.iload_n (Fin.ofNat 4 o.2.2.2.1)) 1 && Nat.beq o.1 (pc + 1) && decide (o.2.2.2.1 < 4)
  | 0, _ => o_dk H.2.1 pc (.iload o.2.2.2.1) 2 && Nat.beq o.1 (pc + 2)
  | 1, 0 => o_dk H.2.1 pc (.lload_n (Fin.ofNat 4 o.2.2.2.1)) 1 && Nat.beq o.1 (pc + 1) && decide (o.2.2.2.1 < 4)
  | 1, _ => o_dk H.2.1 pc (.lload o.2.2.2.1) 2 && Nat.beq o.1 (pc + 2)
  | 2, 0 => o_dk H.2.1 pc (.aload_n (Fin.ofNat 4 o.2.2.2.1)) 1 && Nat.beq o.1 (pc + 1) && decide (o.2.2.2.1 < 4)
  | 2, _ => o_dk H.2.1 pc (.aload o.2.2.2.1) 2 && Nat.beq o.1 (pc + 2)
  | _, _ => false
theorem o_f4 {b : Nat} (h : b < 4) : ((Fin.ofNat 4 b : Fin 4) : Nat) = b := Nat.mod_eq_of_lt h
theorem ck3_ok {H : pm_H} {o : pm_Op} (hM : M.2.1 = H.2.1) (h : ck3 H pc o = true) : rx_Sd (gG l D cy σ) MT M pc (rx_ld o.2.2.1 o.2.2.2.1 o.1) := by
  unfold ck3 at h
  split at h
  all_goals first | (cases h; done) | simp only [Bool.and_eq_true, decide_eq_true_eq] at h
  · next e _ => rw [e, Nat.eq_of_beq_eq_true h.1.2]; exact rx_sd_iload_n (hM ▸ o_dk_ok h.1.1) (o_f4 h.2)
  · next e _ => rw [e, Nat.eq_of_beq_eq_true h.2]; exact rx_sd_iload (hM ▸ o_dk_ok h.1)
  · next e _ => rw [e, Nat.eq_of_beq_eq_true h.1.2]; exact rx_sd_lload_n (hM ▸ o_dk_ok h.1.1) (o_f4 h.2)
  · next e _ => rw [e, Nat.eq_of_beq_eq_true h.2]; exact rx_sd_lload (hM ▸ o_dk_ok h.1)
  · next e _ => rw [e, Nat.eq_of_beq_eq_true h.1.2]; exact rx_sd_aload_n (hM ▸ o_dk_ok h.1.1) (o_f4 h.2)
  · next e _ => rw [e, Nat.eq_of_beq_eq_true h.2]; exact rx_sd_aload (hM ▸ o_dk_ok h.1)
def ck4 (H : pm_H) (pc : Nat) (o : pm_Op) : Bool := Nat.beq o.2.2.2.2.1 H.2.2.1 && (match o.2.2.1, o.2.2.2.2.2.1 with
  | 0, 0 => o_dk H.2.1 pc (.istore_n (Fin.ofNat 4 o.2.2.2.1)) 1 && Nat.beq o.1 (pc + 1) && decide (o.2.2.2.1 < 4)
  | 0, _ => o_dk H.2.1 pc (.istore o.2.2.2.1) 2 && Nat.beq o.1 (pc + 2)
  | 1, 0 => o_dk H.2.1 pc (.lstore_n (Fin.ofNat 4 o.2.2.2.1)) 1 && Nat.beq o.1 (pc + 1) && decide (o.2.2.2.1 < 4)
  | 1, _ => o_dk H.2.1 pc (.lstore o.2.2.2.1) 2 && Nat.beq o.1 (pc + 2)
  | 2, 0 => o_dk H.2.1 pc (.astore_n (Fin.ofNat 4 o.2.2.2.1)) 1 && Nat.beq o.1 (pc + 1) && decide (o.2.2.2.1 < 4)
  | 2, _ => o_dk H.2.1 pc (.astore o.2.2.2.1) 2 && Nat.beq o.1 (pc + 2)
  | _, _ => false)
theorem ck4_ok {H : pm_H} {o : pm_Op} (hM : M.2.1 = H.2.1) (hL : M.2.2.1 = H.2.2.1) (h : ck4 H pc o = true) : rx_Sd (gG l D cy σ) MT M pc (rx_st o.2.2.1 o.2.2.2.1 o.1 o.2.2.2.2.1) := by
  unfold ck4 at h
  rw [Bool.and_eq_true] at h
  rw [Nat.eq_of_beq_eq_true h.1, ← hL]
  have h := h.2
  split at h
  all_goals first | (cases h; done) | simp only [Bool.and_eq_true, decide_eq_true_eq] at h
  · next e _ => rw [e, Nat.eq_of_beq_eq_true h.1.2]; exact rx_sd_istore_n (hM ▸ o_dk_ok h.1.1) (o_f4 h.2)
  · next e _ => rw [e, Nat.eq_of_beq_eq_true h.2]; exact rx_sd_istore (hM ▸ o_dk_ok h.1)
  · next e _ => rw [e, Nat.eq_of_beq_eq_true h.1.2]; exact rx_sd_lstore_n (hM ▸ o_dk_ok h.1.1) (o_f4 h.2)
  · next e _ => rw [e, Nat.eq_of_beq_eq_true h.2]; exact rx_sd_lstore (hM ▸ o_dk_ok h.1)
  · next e _ => rw [e, Nat.eq_of_beq_eq_true h.1.2]; exact rx_sd_astore_n (hM ▸ o_dk_ok h.1.1) (o_f4 h.2)
  · next e _ => rw [e, Nat.eq_of_beq_eq_true h.2]; exact rx_sd_astore (hM ▸ o_dk_ok h.1)
def ck5 (H : pm_H) (pc : Nat) (o : pm_Op) : Bool := Nat.beq o.2.2.2.2.1 H.2.2.1 && (o_dk H.2.1 pc (.iinc o.2.2.1 o.2.2.2.2.2.1) 3 && Nat.beq o.1 (pc + 3))
theorem ck5_ok {H : pm_H} {o : pm_Op} (hM : M.2.1 = H.2.1) (hL : M.2.2.1 = H.2.2.1) (h : ck5 H pc o = true) : rx_Sd (gG l D cy σ) MT M pc (rx_inc o.2.2.1 (Int32.ofInt o.2.2.2.2.2.1) o.1 o.2.2.2.2.1) := by
  unfold ck5 at h
  simp only [Bool.and_eq_true] at h
  rw [Nat.eq_of_beq_eq_true h.1, ← hL, Nat.eq_of_beq_eq_true h.2.2]
  exact rx_sd_iinc (hM ▸ o_dk_ok h.2.1) rfl
def ck6 (H : pm_H) (pc : Nat) (o : pm_Op) : Bool := o_dk H.2.1 pc (o_bii o.2.2.1) 1 && Nat.beq o.1 (pc + 1)
theorem ck6_ok {H : pm_H} {o : pm_Op} (hM : M.2.1 = H.2.1) (h : ck6 H pc o = true) : rx_Sd (gG l D cy σ) MT M pc (rx_pure (rx_bi (o_bi o.2.2.1)) o.1) := by
  unfold ck6 at h
  rw [Bool.and_eq_true] at h
  rw [Nat.eq_of_beq_eq_true h.2]
  have d := o_dk_ok h.1
  rw [← hM] at d
  generalize o.2.2.1 = a at d ⊢
  match a, d with
  | 0, d => exact rx_sd_iadd d
  | 1, d => exact rx_sd_isub d
  | 2, d => exact rx_sd_imul d
  | 3, d => exact rx_sd_iand d
  | 4, d => exact rx_sd_ior d
  | 5, d => exact rx_sd_ixor d
  | 6, d => exact rx_sd_ishl d
  | 7, d => exact rx_sd_ishr d
  | n + 8, d => exact rx_sd_iushr d
def ck7 (H : pm_H) (pc : Nat) (o : pm_Op) : Bool := o_dk H.2.1 pc (match o.2.2.1 with | 0 => .idiv | _ => .irem) 1 && Nat.beq o.1 (pc + 1)
theorem ck7_ok {H : pm_H} {o : pm_Op} (hM : M.2.1 = H.2.1) (h : ck7 H pc o = true) : rx_Sd (gG l D cy σ) MT M pc (rx_pure (rx_bid (o_bid o.2.2.1)) o.1) := by
  unfold ck7 at h
  rw [Bool.and_eq_true] at h
  rw [Nat.eq_of_beq_eq_true h.2]
  have d := o_dk_ok h.1
  rw [← hM] at d
  generalize o.2.2.1 = a at d ⊢
  match a, d with
  | 0, d => exact rx_sd_idiv d
  | n + 1, d => exact rx_sd_irem d
def ck8 (H : pm_H) (pc : Nat) (o : pm_Op) : Bool := o_dk H.2.1 pc (o_lbi o.2.2.1) 1 && Nat.beq o.1 (pc + 1)
theorem ck8_ok {H : pm_H} {o : pm_Op} (hM : M.2.1 = H.2.1) (h : ck8 H pc o = true) : rx_Sd (gG l D cy σ) MT M pc (rx_pure (rx_lb (o_lb o.2.2.1)) o.1) := by
  unfold ck8 at h
  rw [Bool.and_eq_true] at h
  rw [Nat.eq_of_beq_eq_true h.2]
  have d := o_dk_ok h.1
  rw [← hM] at d
  generalize o.2.2.1 = a at d ⊢
  match a, d with
  | 0, d => exact rx_sd_ladd d
  | 1, d => exact rx_sd_lsub d
  | 2, d => exact rx_sd_lmul d
  | 3, d => exact rx_sd_land d
  | 4, d => exact rx_sd_lor d
  | n + 5, d => exact rx_sd_lxor d
def ck9 (H : pm_H) (pc : Nat) (o : pm_Op) : Bool := o_dk H.2.1 pc (match o.2.2.1 with | 0 => .ldiv | _ => .lrem) 1 && Nat.beq o.1 (pc + 1)
theorem ck9_ok {H : pm_H} {o : pm_Op} (hM : M.2.1 = H.2.1) (h : ck9 H pc o = true) : rx_Sd (gG l D cy σ) MT M pc (rx_pure (rx_lbd (o_lbd o.2.2.1)) o.1) := by
  unfold ck9 at h
  rw [Bool.and_eq_true] at h
  rw [Nat.eq_of_beq_eq_true h.2]
  have d := o_dk_ok h.1
  rw [← hM] at d
  generalize o.2.2.1 = a at d ⊢
  match a, d with
  | 0, d => exact rx_sd_ldiv d
  | n + 1, d => exact rx_sd_lrem d
def ck10 (H : pm_H) (pc : Nat) (o : pm_Op) : Bool := o_dk H.2.1 pc (o_lsi o.2.2.1) 1 && Nat.beq o.1 (pc + 1)
theorem ck10_ok {H : pm_H} {o : pm_Op} (hM : M.2.1 = H.2.1) (h : ck10 H pc o = true) : rx_Sd (gG l D cy σ) MT M pc (rx_pure (rx_ls (o_ls o.2.2.1)) o.1) := by
  unfold ck10 at h
  rw [Bool.and_eq_true] at h
  rw [Nat.eq_of_beq_eq_true h.2]
  have d := o_dk_ok h.1
  rw [← hM] at d
  generalize o.2.2.1 = a at d ⊢
  match a, d with
  | 0, d => exact rx_sd_lshl d
  | 1, d => exact rx_sd_lshr d
  | n + 2, d => exact rx_sd_lushr d
def ck11 (H : pm_H) (pc : Nat) (o : pm_Op) : Bool := o_dk H.2.1 pc (o_uni o.2.2.1) 1 && Nat.beq o.1 (pc + 1)
theorem ck11_ok {H : pm_H} {o : pm_Op} (hM : M.2.1 = H.2.1) (h : ck11 H pc o = true) : rx_Sd (gG l D cy σ) MT M pc (rx_pure (o_un o.2.2.1) o.1) := by
  unfold ck11 at h
  rw [Bool.and_eq_true] at h
  rw [Nat.eq_of_beq_eq_true h.2]
  have d := o_dk_ok h.1
  rw [← hM] at d
  generalize o.2.2.1 = a at d ⊢
  match a, d with
  | 0, d => exact rx_sd_ineg d
  | 1, d => exact rx_sd_lneg d
  | 2, d => exact rx_sd_i2l d
  | 3, d => exact rx_sd_l2i d
  | 4, d => exact rx_sd_lcmp d
  | 5, d => exact rx_sd_dup d
  | 6, d => exact rx_sd_dup2 d
  | n + 7, d => exact rx_sd_pop d
theorem o_off (pc b : Nat) : (pc : Int) + ((b : Int) - (pc : Int)) = (b : Int) := by omega
def ck12 (H : pm_H) (pc : Nat) (o : pm_Op) : Bool := o_dk H.2.1 pc (.goto ((o.2.2.2.1 : Int) - (pc : Int))) 3
theorem ck12_ok {H : pm_H} {o : pm_Op} (hM : M.2.1 = H.2.1) (h : ck12 H pc o = true) : rx_Sd (gG l D cy σ) MT M pc (rx_br rx_goto o.2.2.2.1 o.1) :=
  rx_sd_goto (hM ▸ o_dk_ok h) (o_off _ _)
def ck13 (H : pm_H) (pc : Nat) (o : pm_Op) : Bool := o_dk H.2.1 pc (.ifnull ((o.2.2.2.1 : Int) - (pc : Int))) 3 && Nat.beq o.1 (pc + 3)
theorem ck13_ok {H : pm_H} {o : pm_Op} (hM : M.2.1 = H.2.1) (h : ck13 H pc o = true) : rx_Sd (gG l D cy σ) MT M pc (rx_br rx_nul o.2.2.2.1 o.1) := by
  unfold ck13 at h
  rw [Bool.and_eq_true] at h
  rw [Nat.eq_of_beq_eq_true h.2]
  exact rx_sd_ifnull (hM ▸ o_dk_ok h.1) (o_off _ _)
def ck14 (H : pm_H) (pc : Nat) (o : pm_Op) : Bool := o_dk H.2.1 pc (.if_icmp (o_cnd o.2.2.1) ((o.2.2.2.1 : Int) - (pc : Int))) 3 && Nat.beq o.1 (pc + 3) && decide (o.2.2.1 < 6)
theorem ck14_ok {H : pm_H} {o : pm_Op} (hM : M.2.1 = H.2.1) (h : ck14 H pc o = true) : rx_Sd (gG l D cy σ) MT M pc (rx_br (rx_cmp Yo o.2.2.1) o.2.2.2.1 o.1) := by
  unfold ck14 at h
  simp only [Bool.and_eq_true, decide_eq_true_eq] at h
  rw [Nat.eq_of_beq_eq_true h.1.2]
  have d := o_dk_ok h.1.1
  rw [← hM] at d
  have h6 := h.2
  generalize o.2.2.1 = a at d h6 ⊢
  match a, h6 with
  | 0, _ => exact rx_sd_icmp_lt (Yo_ok _) d (o_off _ _)
  | 1, _ => exact rx_sd_icmp_ge (Yo_ok _) d (o_off _ _)
  | 2, _ => exact rx_sd_icmp_gt (Yo_ok _) d (o_off _ _)
  | 3, _ => exact rx_sd_icmp_le (Yo_ok _) d (o_off _ _)
  | 4, _ => exact rx_sd_icmp_eq (Yo_ok _) d (o_off _ _)
  | 5, _ => exact rx_sd_icmp_ne (Yo_ok _) d (o_off _ _)
  | n + 6, h => exact absurd h (by omega)
def ck15 (H : pm_H) (pc : Nat) (o : pm_Op) : Bool := o_dk H.2.1 pc (.ifCond (o_cnd o.2.2.1) ((o.2.2.2.1 : Int) - (pc : Int))) 3 && Nat.beq o.1 (pc + 3) && decide (o.2.2.1 < 6)
theorem ck15_ok {H : pm_H} {o : pm_Op} (hM : M.2.1 = H.2.1) (h : ck15 H pc o = true) : rx_Sd (gG l D cy σ) MT M pc (rx_br (rx_cm0 Yo o.2.2.1) o.2.2.2.1 o.1) := by
  unfold ck15 at h
  simp only [Bool.and_eq_true, decide_eq_true_eq] at h
  rw [Nat.eq_of_beq_eq_true h.1.2]
  have d := o_dk_ok h.1.1
  rw [← hM] at d
  have h6 := h.2
  generalize o.2.2.1 = a at d h6 ⊢
  match a, h6 with
  | 0, _ => exact rx_sd_if_lt (Yo_ok _) d (o_off _ _)
  | 1, _ => exact rx_sd_if_ge (Yo_ok _) d (o_off _ _)
  | 2, _ => exact rx_sd_if_gt (Yo_ok _) d (o_off _ _)
  | 3, _ => exact rx_sd_if_le (Yo_ok _) d (o_off _ _)
  | 4, _ => exact rx_sd_if_eq (Yo_ok _) d (o_off _ _)
  | 5, _ => exact rx_sd_if_ne (Yo_ok _) d (o_off _ _)
  | n + 6, h => exact absurd h (by omega)
def ck16 (H : pm_H) (pc : Nat) (o : pm_Op) : Bool := o_dk H.2.1 pc (.tableswitch ((o.2.2.2.1 : Int) - (pc : Int)) o.2.2.2.2.2.1 (o.2.2.2.2.2.1 + o.2.2.2.2.2.2.length - 1) (o.2.2.2.2.2.2.map (fun t : Nat => (t : Int) - (pc : Int))).toArray) o.2.2.2.2.1
theorem ck16_ok {H : pm_H} {o : pm_Op} (hM : M.2.1 = H.2.1) (h : ck16 H pc o = true) : rx_Sd (gG l D cy σ) MT M pc (rx_sw Yo o.2.2.2.2.2.1 (o.2.2.2.2.2.1 + o.2.2.2.2.2.2.length - 1) o.2.2.2.2.2.2 o.2.2.2.1) := by
  refine rx_sd_sw (Yo_ok _) (hM ▸ o_dk_ok h) (o_off _ _) ?_
  simp only [List.map_map]
  exact List.map_congr_left (fun t _ => o_off pc t)
end
theorem in_cl {a : Nat} {C : vw_C} (h : vwCl[a]? = some C) : ∀ w ∈ u_ws C.1 C.2.1 C.2.2, w ∈ gT := by
  match a, h with
  | 0, h => cases h; exact in_X0
  | 1, h => cases h; exact in_X1
  | 2, h => cases h; exact in_X2
  | 3, h => cases h; exact in_X3
  | 4, h => cases h; exact in_X4
  | 5, h => cases h; exact in_X5
  | 6, h => cases h; exact in_X6
  | 7, h => cases h; exact in_X7
  | 8, h => cases h; exact in_X8
  | 9, h => cases h; exact in_X9
  | 10, h => cases h; exact in_X10
  | n + 11, h => exact absurd h (by simp)
def o_tyc : Nat → Nat → FieldType
  | 0 => tyX0
  | 1 => tyX1
  | 2 => tyX2
  | 3 => tyX3
  | 4 => tyX4
  | 5 => tyX5
  | 6 => tyX6
  | 7 => tyX7
  | 8 => tyX8
  | 9 => tyX9
  | _ => tyX10
theorem ty_cl {a : Nat} {C : vw_C} (h : vwCl[a]? = some C) : (∀ k, k < C.2.2 → parseFieldDescriptor (C.2.1 k).2.2.1 = some (o_tyc a k)) ∧ ∀ i, i < C.2.2 → ∀ j, j < C.2.2 → i ≠ j → (C.2.1 i).2.1 ≠ (C.2.1 j).2.1 := by
  match a, h with
  | 0, h => cases h; exact ⟨tyX0_ok, nmX0⟩
  | 1, h => cases h; exact ⟨tyX1_ok, nmX1⟩
  | 2, h => cases h; exact ⟨tyX2_ok, nmX2⟩
  | 3, h => cases h; exact ⟨tyX3_ok, nmX3⟩
  | 4, h => cases h; exact ⟨tyX4_ok, nmX4⟩
  | 5, h => cases h; exact ⟨tyX5_ok, nmX5⟩
  | 6, h => cases h; exact ⟨tyX6_ok, nmX6⟩
  | 7, h => cases h; exact ⟨tyX7_ok, nmX7⟩
  | 8, h => cases h; exact ⟨tyX8_ok, nmX8⟩
  | 9, h => cases h; exact ⟨tyX9_ok, nmX9⟩
  | 10, h => cases h; exact ⟨tyX10_ok, nmX10⟩
  | n + 11, h => exact absurd h (by simp)
section
variable {l : Launch} {D : va_G} {cy : Nat → ClassId} {σ : Nat → Int32} {MT : Nat → rx_M} {M : rx_M} {pc : Nat}
def ck17 (H : pm_H) (pc : Nat) (o : pm_Op) : Bool := match vwCl[o.2.2.1]? with
  | some C => match o.2.2.2.2.2.2 with
    | [k, i] => o_dk H.2.1 pc (.getfield o.2.2.2.2.1) 3 && (Nat.beq o.1 (pc + 3) && (decide (o.2.2.2.1 < C.2.2) && o_wd k i (Cond.fieldLink H.1.cls o.2.2.2.2.1 (C.2.1 o.2.2.2.1).1 (C.2.1 o.2.2.2.1).2.1 (C.2.1 o.2.2.2.1).2.2.1)))
    | _ => false
  | none => false
theorem ck17_ok {H : pm_H} {o : pm_Op} (hN : M.1 = H.1) (hM : M.2.1 = H.2.1) (h : ck17 H pc o = true) : rx_Sd (gG l D cy σ) MT M pc (rx_get o.2.2.1 o.2.2.2.1 o.1) := by
  unfold ck17 at h
  split at h
  · next C hC =>
    split at h
    · next k i hk =>
      simp only [Bool.and_eq_true, decide_eq_true_eq] at h
      rw [Nat.eq_of_beq_eq_true h.2.1]
      obtain ⟨C, T, N⟩ := C
      exact rx_sd_get (C := C) (T := T) (N := N) (in_cl hC) hC h.2.2.1 (hN ▸ o_wd_ok h.2.2.2) (hM ▸ o_dk_ok h.1)
    · cases h
  · cases h
def ck18 (H : pm_H) (pc : Nat) (o : pm_Op) : Bool := match vwCl[o.2.2.1]? with
  | some C => match o.2.2.2.2.2.2 with
    | [k, i] => o_dk H.2.1 pc (.putfield o.2.2.2.2.2.1.toNat) 3 && (Nat.beq o.1 (pc + 3) && (decide (o.2.2.2.1 < C.2.2) && (o_wd k i (Cond.fieldLink H.1.cls o.2.2.2.2.2.1.toNat (C.2.1 o.2.2.2.1).1 (C.2.1 o.2.2.2.1).2.1 (C.2.1 o.2.2.2.1).2.2.1) && (!(C.2.1 o.2.2.2.1).2.2.2 && decide (o_tyc o.2.2.1 o.2.2.2.1 = fty o.2.2.2.2.1)))))
    | _ => false
  | none => false
theorem ck18_ok {H : pm_H} {o : pm_Op} (hN : M.1 = H.1) (hM : M.2.1 = H.2.1) (h : ck18 H pc o = true) : rx_Sd (gG l D cy σ) MT M pc (rx_putf o.2.2.1 o.2.2.2.1 (fty o.2.2.2.2.1) o.1) := by
  unfold ck18 at h
  split at h
  · next C hC =>
    split at h
    · next k i hk =>
      simp only [Bool.and_eq_true, decide_eq_true_eq, Bool.not_eq_true'] at h
      rw [Nat.eq_of_beq_eq_true h.2.1]
      obtain ⟨C, T, N⟩ := C
      exact rx_sd_putf (C := C) (T := T) (N := N) (ty0 := o_tyc o.2.2.1) (in_cl hC) (ty_cl hC).1 (ty_cl hC).2 hC h.2.2.1 (hN ▸ o_wd_ok h.2.2.2.1) (Or.inl h.2.2.2.2.1) h.2.2.2.2.2 (hM ▸ o_dk_ok h.1)
    · cases h
  · cases h
def ck19 (H : pm_H) (pc : Nat) (o : pm_Op) : Bool := Nat.beq o.1 (pc + 1) && (match o.2.2.1 with
  | 0 => o_dk H.2.1 pc .iaload 1
  | 1 => o_dk H.2.1 pc .laload 1
  | 2 => o_dk H.2.1 pc .baload 1
  | 3 => o_dk H.2.1 pc .aaload 1
  | 4 => o_dk H.2.1 pc .aaload 1
  | 5 => o_dk H.2.1 pc .aaload 1
  | _ => false)
theorem ck19_ok {H : pm_H} {o : pm_Op} (hM : M.2.1 = H.2.1) (h : ck19 H pc o = true) : rx_Sd (gG l D cy σ) MT M pc (rx_ald o.2.2.1 (o_kd o.2.2.1) o.1) := by
  unfold ck19 at h
  rw [Bool.and_eq_true] at h
  rw [Nat.eq_of_beq_eq_true h.1]
  have h := h.2
  split at h
  · next e => rw [e]; exact rx_sd_iald ⟨rfl, rfl, rfl⟩ (hM ▸ o_dk_ok h)
  · next e => rw [e]; exact rx_sd_lald ⟨rfl, rfl, rfl⟩ (hM ▸ o_dk_ok h)
  · next e => rw [e]; exact rx_sd_zald ⟨rfl, rfl, rfl⟩ (hM ▸ o_dk_ok h)
  · next e => rw [e]; exact rx_sd_aald (t := 0) rfl (hM ▸ o_dk_ok h)
  · next e => rw [e]; exact rx_sd_aald (t := 1) rfl (hM ▸ o_dk_ok h)
  · next e => rw [e]; exact rx_sd_aald (t := 2) rfl (hM ▸ o_dk_ok h)
  · cases h
def ck20 (H : pm_H) (pc : Nat) (o : pm_Op) : Bool := Nat.beq o.1 (pc + 1) && (match o.2.2.1 with
  | 0 => o_dk H.2.1 pc .iastore 1
  | 1 => o_dk H.2.1 pc .lastore 1
  | 2 => o_dk H.2.1 pc .bastore 1
  | _ => false)
theorem ck20_ok {H : pm_H} {o : pm_Op} (hM : M.2.1 = H.2.1) (h : ck20 H pc o = true) : rx_Sd (gG l D cy σ) MT M pc (rx_ast Yo o.2.2.1 (fty o.2.2.1) o.1) := by
  unfold ck20 at h
  rw [Bool.and_eq_true] at h
  rw [Nat.eq_of_beq_eq_true h.1]
  have h := h.2
  split at h
  · next e => rw [e]; exact rx_sd_iast (Yo_ok _) ⟨rfl, rfl, rfl⟩ (hM ▸ o_dk_ok h)
  · next e => rw [e]; exact rx_sd_last ⟨rfl, rfl, rfl⟩ (hM ▸ o_dk_ok h)
  · next e => rw [e]; exact rx_sd_zast ⟨rfl, rfl, rfl⟩ (hM ▸ o_dk_ok h)
  · cases h
def ck21 (H : pm_H) (pc : Nat) (o : pm_Op) : Bool := Nat.beq o.1 (pc + 1) && (match o.2.2.1, o.2.2.2.1 with
  | 3, 6 => o_dk H.2.1 pc .aastore 1
  | 4, 7 => o_dk H.2.1 pc .aastore 1
  | 5, 8 => o_dk H.2.1 pc .aastore 1
  | _, _ => false)
theorem ck21_ok {H : pm_H} {o : pm_Op} (hM : M.2.1 = H.2.1) (h : ck21 H pc o = true) : rx_Sd (gG l D cy σ) MT M pc (rx_asq o.2.2.1 o.2.2.2.1 o.1) := by
  unfold ck21 at h
  rw [Bool.and_eq_true] at h
  rw [Nat.eq_of_beq_eq_true h.1]
  have h := h.2
  split at h
  · next e e2 => rw [e, e2]; exact rx_sd_aast (t := 0) (ci := 6) (C := (RX6, TX6, 2)) rfl rfl (hM ▸ o_dk_ok h)
  · next e e2 => rw [e, e2]; exact rx_sd_aast (t := 1) (ci := 7) (C := (RX7, TX7, 6)) rfl rfl (hM ▸ o_dk_ok h)
  · next e e2 => rw [e, e2]; exact rx_sd_aast (t := 2) (ci := 8) (C := (RX8, TX8, 4)) rfl rfl (hM ▸ o_dk_ok h)
  · cases h
def ck22 (H : pm_H) (pc : Nat) (o : pm_Op) : Bool := Nat.beq o.1 (pc + 1) && (o_dk H.2.1 pc .arraylength 1 && decide (o.2.2.1 < 2))
theorem rx_sd_alnL {G : rx_G} {MT : Nat → rx_M} {M : rx_M} {pc : Nat} (hT : rx_TYOk G) (d : decode M.2.1 pc = .ok (.arraylength, 1)) : rx_Sd G MT M pc (rx_aln 1 (pc + 1)) := by
  intro p e s m args below meth c A X rec hrec st o h ρ0 r hgo
  obtain ⟨hx, hb, hml, hr, hown, hts, hlk, hnm, hK, hA⟩ := X
  obtain ⟨lv, sk, ws, c0, s0⟩ := st
  intro tl cws H locs ls cst clv hw hP hD hS hlv hl hst
  unfold rx_aln at h
  simp only at h hst hlv hw
  split at h
  · next a sr =>
    split at h
    · next t n u dd hwa =>
      obtain ⟨g1, g2⟩ := rx_cond_some h
      have g1 := Nat.eq_of_beq_eq_true g1
      subst g1
      cases g2
      match cst, hst with
      | w :: cr, ⟨⟨a', ha, hwe⟩, h3⟩ =>
        subst hwe
        obtain ⟨ce, f1, f, f2, f3⟩ := hw.at hwa ha
        subst f2
        exact va_alen hx hb hK.1 hP a 1 f1 hT.2.1 rfl d (hgo tl cws H locs ls _ clv hw hP hD hS hlv hl ⟨rfl, h3⟩)
    · cases h
  · cases h
theorem ck22_ok {H : pm_H} {o : pm_Op} (hM : M.2.1 = H.2.1) (h : ck22 H pc o = true) : rx_Sd (gG l D cy σ) MT M pc (rx_aln o.2.2.1 o.1) := by
  unfold ck22 at h
  simp only [Bool.and_eq_true, decide_eq_true_eq] at h
  rw [Nat.eq_of_beq_eq_true h.1]
  have d := o_dk_ok h.2.1
  rw [← hM] at d
  have h6 := h.2.2
  generalize o.2.2.1 = a at h6 ⊢
  match a, h6 with
  | 0, _ => exact rx_sd_alnI ⟨rfl, rfl, rfl⟩ d
  | 1, _ => exact rx_sd_alnL ⟨rfl, rfl, rfl⟩ d
  | n + 2, h => exact absurd h (by omega)
def ck24 (H : pm_H) (pc : Nat) (_o : pm_Op) : Bool := o_dk H.2.1 pc .return_ 1 && decide (H.2.2.2.1 = none)
theorem ck24_ok {H : pm_H} {o : pm_Op} (hM : M.2.1 = H.2.1) (hR : M.2.2.2.1 = H.2.2.2.1) (hc : M.2.2.2.2.1.cells = 0) (hs : M.2.2.2.2.1.slots = 0) (h : ck24 H pc o = true) : rx_Sd (gG l D cy σ) MT M pc (rx_ret0 0 0) := by
  unfold ck24 at h
  simp only [Bool.and_eq_true, decide_eq_true_eq] at h
  have := rx_sd_ret0 (G := gG l D cy σ) (MT := MT) (hR.trans h.2) (hM ▸ o_dk_ok h.1)
  rw [hc, hs] at this
  exact this
def ck25 (H : pm_H) (pc : Nat) (o : pm_Op) : Bool := match o.2.2.1 with
  | 0 => o_dk H.2.1 pc .ireturn 1 && decide (H.2.2.2.1 = some .int)
  | 1 => o_dk H.2.1 pc .lreturn 1 && decide (H.2.2.2.1 = some .long)
  | 2 => o_dk H.2.1 pc .ireturn 1 && decide (H.2.2.2.1 = some .boolean)
  | _ => o_dk H.2.1 pc .areturn 1 && decide (H.2.2.2.1 = some (.object "SeedBench$Share"))
theorem ck25_ok {H : pm_H} {o : pm_Op} (hM : M.2.1 = H.2.1) (hR : M.2.2.2.1 = H.2.2.2.1) (hc : M.2.2.2.2.1.cells = 0) (hs : M.2.2.2.2.1.slots = 0) (h : ck25 H pc o = true) : rx_Sd (gG l D cy σ) MT M pc (rx_retv (fty o.2.2.1) 0 0) := by
  unfold ck25 at h
  split at h <;> simp only [Bool.and_eq_true, decide_eq_true_eq] at h
  · next e =>
    have := rx_sd_retI (G := gG l D cy σ) (MT := MT) (hR.trans h.2) (Or.inl rfl) (hM ▸ o_dk_ok h.1)
    rw [hc, hs] at this
    rw [e]; exact this
  · next e =>
    have := rx_sd_retL (G := gG l D cy σ) (MT := MT) (hR.trans h.2) (hM ▸ o_dk_ok h.1)
    rw [hc, hs] at this
    rw [e]; exact this
  · next e =>
    have := rx_sd_retI (G := gG l D cy σ) (MT := MT) (hR.trans h.2) (Or.inr rfl) (hM ▸ o_dk_ok h.1)
    rw [hc, hs] at this
    rw [e]; exact this
  · next n0 n1 n2 =>
    have := rx_sd_retA (G := gG l D cy σ) (MT := MT) (hR.trans h.2) (hM ▸ o_dk_ok h.1)
    rw [hc, hs] at this
    have e : fty o.2.2.1 = .object "SeedBench$Share" := by
      unfold fty
      split
      · next e => exact absurd e n0
      · next e => exact absurd e n1
      · next e => exact absurd e n2
      · rfl
    rw [e]; exact this
def ck26 (H : pm_H) (pc : Nat) (o : pm_Op) : Bool := match o.2.2.2.2.2.2 with
  | [k, i] => o_dk H.2.1 pc (.ldc o.2.2.1) 2 && (Nat.beq o.1 (pc + 2) && o_wd k i (Cond.constant H.1.cls o.2.2.1 (Int32.ofInt o.2.2.2.2.2.1)))
  | _ => false
theorem ck26_ok {H : pm_H} {o : pm_Op} (hN : M.1 = H.1) (hM : M.2.1 = H.2.1) (h : ck26 H pc o = true) : rx_Sd (gG l D cy σ) MT M pc (rx_con (.int (Int32.ofInt o.2.2.2.2.2.1)) o.1) := by
  unfold ck26 at h
  split at h
  · simp only [Bool.and_eq_true] at h
    rw [Nat.eq_of_beq_eq_true h.2.1]
    exact rx_sd_ldc (hN ▸ o_wd_ok h.2.2) (hM ▸ o_dk_ok h.1)
  · cases h
def ck27 (H : pm_H) (pc : Nat) (o : pm_Op) : Bool := match o.2.2.2.2.2.2 with
  | [k, i] => o_dk H.2.1 pc (.ldc2_w o.2.2.1) 3 && (Nat.beq o.1 (pc + 3) && o_wd k i (Cond.constantLong H.1.cls o.2.2.1 (Int64.ofInt o.2.2.2.2.2.1)))
  | _ => false
theorem ck27_ok {H : pm_H} {o : pm_Op} (hN : M.1 = H.1) (hM : M.2.1 = H.2.1) (h : ck27 H pc o = true) : rx_Sd (gG l D cy σ) MT M pc (rx_con (.long (Int64.ofInt o.2.2.2.2.2.1)) o.1) := by
  unfold ck27 at h
  split at h
  · simp only [Bool.and_eq_true] at h
    rw [Nat.eq_of_beq_eq_true h.2.1]
    exact rx_sd_ldc2 (hN ▸ o_wd_ok h.2.2) (hM ▸ o_dk_ok h.1)
  · cases h
/-- operations that are not checked by 'ck': calls -/
def o_call (o : pm_Op) : Bool := Nat.beq o.2.1 23 || (Nat.beq o.2.1 28 || (Nat.beq o.2.1 29 || Nat.beq o.2.1 30))
def ck (H : pm_H) (pc : Nat) (o : pm_Op) : Bool := match o.2.1 with
  | 0 => ck0 H pc o
  | 1 => ck1 H pc o
  | 2 => ck2 H pc o
  | 3 => ck3 H pc o
  | 4 => ck4 H pc o
  | 5 => ck5 H pc o
  | 6 => ck6 H pc o
  | 7 => ck7 H pc o
  | 8 => ck8 H pc o
  | 9 => ck9 H pc o
  | 10 => ck10 H pc o
  | 11 => ck11 H pc o
  | 12 => ck12 H pc o
  | 13 => ck13 H pc o
  | 14 => ck14 H pc o
  | 15 => ck15 H pc o
  | 16 => ck16 H pc o
  | 17 => ck17 H pc o
  | 18 => ck18 H pc o
  | 19 => ck19 H pc o
  | 20 => ck20 H pc o
  | 21 => ck21 H pc o
  | 22 => ck22 H pc o
  | 24 => ck24 H pc o
  | 25 => ck25 H pc o
  | 26 => ck26 H pc o
  | 27 => ck27 H pc o
  | _ => false
theorem ck_ok {H : pm_H} {o : pm_Op} (hN : M.1 = H.1) (hM : M.2.1 = H.2.1) (hL : M.2.2.1 = H.2.2.1) (hR : M.2.2.2.1 = H.2.2.2.1) (hc : M.2.2.2.2.1.cells = 0) (hs : M.2.2.2.2.1.slots = 0) (h : ck H pc o = true) : rx_Sd (gG l D cy σ) MT M pc (sem o) := by
  obtain ⟨nx, code, a, b, c, z, ts⟩ := o
  match code, h with
  | 0, h => exact ck0_ok (o := (nx, 0, a, b, c, z, ts)) hM h
  | 1, h => exact ck1_ok (o := (nx, 1, a, b, c, z, ts)) hM h
  | 2, h => exact ck2_ok (o := (nx, 2, a, b, c, z, ts)) hM h
  | 3, h => exact ck3_ok (o := (nx, 3, a, b, c, z, ts)) hM h
  | 4, h => exact ck4_ok (o := (nx, 4, a, b, c, z, ts)) hM hL h
  | 5, h => exact ck5_ok (o := (nx, 5, a, b, c, z, ts)) hM hL h
  | 6, h => exact ck6_ok (o := (nx, 6, a, b, c, z, ts)) hM h
  | 7, h => exact ck7_ok (o := (nx, 7, a, b, c, z, ts)) hM h
  | 8, h => exact ck8_ok (o := (nx, 8, a, b, c, z, ts)) hM h
  | 9, h => exact ck9_ok (o := (nx, 9, a, b, c, z, ts)) hM h
  | 10, h => exact ck10_ok (o := (nx, 10, a, b, c, z, ts)) hM h
  | 11, h => exact ck11_ok (o := (nx, 11, a, b, c, z, ts)) hM h
  | 12, h => exact ck12_ok (o := (nx, 12, a, b, c, z, ts)) hM h
  | 13, h => exact ck13_ok (o := (nx, 13, a, b, c, z, ts)) hM h
  | 14, h => exact ck14_ok (o := (nx, 14, a, b, c, z, ts)) hM h
  | 15, h => exact ck15_ok (o := (nx, 15, a, b, c, z, ts)) hM h
  | 16, h => exact ck16_ok (o := (nx, 16, a, b, c, z, ts)) hM h
  | 17, h => exact ck17_ok (o := (nx, 17, a, b, c, z, ts)) hN hM h
  | 18, h => exact ck18_ok (o := (nx, 18, a, b, c, z, ts)) hN hM h
  | 19, h => exact ck19_ok (o := (nx, 19, a, b, c, z, ts)) hM h
  | 20, h => exact ck20_ok (o := (nx, 20, a, b, c, z, ts)) hM h
  | 21, h => exact ck21_ok (o := (nx, 21, a, b, c, z, ts)) hM h
  | 22, h => exact ck22_ok (o := (nx, 22, a, b, c, z, ts)) hM h
  | 23, h => cases h
  | 24, h => exact ck24_ok (o := (nx, 24, a, b, c, z, ts)) hM hR hc hs h
  | 25, h => exact ck25_ok (o := (nx, 25, a, b, c, z, ts)) hM hR hc hs h
  | 26, h => exact ck26_ok (o := (nx, 26, a, b, c, z, ts)) hN hM h
  | 27, h => exact ck27_ok (o := (nx, 27, a, b, c, z, ts)) hN hM h
  | n + 28, h => cases h
abbrev pm_P : Type := List (Nat × pm_Op)
noncomputable def o_prog (P : pm_P) : rx_P := P.map (fun q => (q.1, sem q.2))
/-- all of a method: what 'ck' checks, and its calls one by one -/
theorem ck_all {H : pm_H} {P : pm_P} (hN : M.1 = H.1) (hM : M.2.1 = H.2.1) (hL : M.2.2.1 = H.2.2.1) (hR : M.2.2.2.1 = H.2.2.2.1) (hc : M.2.2.2.2.1.cells = 0) (hs : M.2.2.2.2.1.slots = 0) (h : P.all (fun q => o_call q.2 || ck H q.1 q.2) = true) (h2 : ∀ q ∈ P.filter (fun q => o_call q.2), rx_Sd (gG l D cy σ) MT M q.1 (sem q.2)) : ∀ q ∈ o_prog P, rx_Sd (gG l D cy σ) MT M q.1 q.2 := by
  intro q hq
  obtain ⟨q0, h0, rfl⟩ := List.mem_map.mp hq
  have := List.all_eq_true.mp h q0 h0
  rw [Bool.or_eq_true] at this
  rcases this with h3 | h3
  · exact h2 q0 (List.mem_filter.mpr ⟨h0, h3⟩)
  · exact ck_ok hN hM hL hR hc hs h3
theorem o_ac {pc : Nat} {o : pm_Op} {t : pm_P} (h : rx_Sd (gG l D cy σ) MT M pc (sem o)) (ht : ∀ q ∈ t, rx_Sd (gG l D cy σ) MT M q.1 (sem q.2)) : ∀ q ∈ (pc, o) :: t, rx_Sd (gG l D cy σ) MT M q.1 (sem q.2) := List.forall_mem_cons.mpr ⟨h, ht⟩
theorem o_an : ∀ q ∈ ([] : pm_P), rx_Sd (gG l D cy σ) MT M q.1 (sem q.2) := fun _ h => absurd h List.not_mem_nil
end
end
