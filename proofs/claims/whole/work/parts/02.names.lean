/-! the words that stay as the machine goes on -/
def mc_nest : Cond → Bool
  | .fieldLinkNest .. => true
  | .methodLinkNest .. => true
  | .arrayOver (.array _) => true
  | _ => false
def mc_tbl : List Cond := lw_tbl.filter (fun w => goodWord w || mc_nest w)
theorem mc_in {w : Cond} (i : Nat) (h : lw_tbl[i]? = some w) (hg : (goodWord w || mc_nest w) = true) : w ∈ mc_tbl := List.mem_filter.mpr ⟨List.mem_of_getElem? h, hg⟩
def RX0 : String := "RestingBlocks$Balance"
def TX0 : u_T := fun k => match k with
  | 0 => ("RestingBlocks$Balance", "cells", "[[J", true)
  | 1 => ("RestingBlocks$Balance", "givenBy", "[I", true)
  | 2 => ("RestingBlocks$Balance", "blockRow", "[I", true)
  | 3 => ("RestingBlocks$Balance", "rows", "I", false)
  | 4 => ("RestingBlocks$Balance", "unknowns", "I", false)
  | _ => ("RestingBlocks$Balance", "divisor", "J", false)
def tyX0 : Nat → FieldType := fun k => match k with
  | 0 => .array (.array .long)
  | 1 => .array .int
  | 2 => .array .int
  | 3 => .int
  | 4 => .int
  | _ => .long
theorem nmX0 : ∀ a, a < 6 → ∀ b, b < 6 → a ≠ b → (TX0 a).2.1 ≠ (TX0 b).2.1 := by decide +kernel
theorem tyX0_ok : ∀ k, k < 6 → parseFieldDescriptor (TX0 k).2.2.1 = some (tyX0 k) := by decide +kernel
theorem lyX0_0 : u_lay RX0 TX0 0 ∈ mc_tbl := mc_in 156 (by decide +kernel) (by decide +kernel)
theorem lyX0_1 : u_lay RX0 TX0 1 ∈ mc_tbl := mc_in 158 (by decide +kernel) (by decide +kernel)
theorem lyX0_2 : u_lay RX0 TX0 2 ∈ mc_tbl := mc_in 160 (by decide +kernel) (by decide +kernel)
theorem lyX0_3 : u_lay RX0 TX0 3 ∈ mc_tbl := mc_in 162 (by decide +kernel) (by decide +kernel)
theorem lyX0_4 : u_lay RX0 TX0 4 ∈ mc_tbl := mc_in 164 (by decide +kernel) (by decide +kernel)
theorem lyX0_5 : u_lay RX0 TX0 5 ∈ mc_tbl := mc_in 166 (by decide +kernel) (by decide +kernel)
theorem inX0 : ∀ w ∈ u_ws RX0 TX0 6, w ∈ mc_tbl := by
  intro w hw
  obtain ⟨k, hk, rfl⟩ := List.mem_map.mp hw
  have hk := List.mem_range.mp hk
  match k, hk with
  | 0, _ => exact lyX0_0
  | 1, _ => exact lyX0_1
  | 2, _ => exact lyX0_2
  | 3, _ => exact lyX0_3
  | 4, _ => exact lyX0_4
  | 5, _ => exact lyX0_5
  | k + 6, hk => exact absurd hk (by omega)
theorem iniX0 : Cond.initialized RX0 ∈ mc_tbl := mc_in 78 (by decide +kernel) (by decide +kernel)
theorem insX0 : Cond.instantiable RX0 6 ∈ mc_tbl := mc_in 143 (by decide +kernel) (by decide +kernel)
def RX1 : String := "RestingBlocks$Layout"
def TX1 : u_T := fun k => match k with
  | 0 => ("RestingBlocks$Layout", "lefts", "[I", true)
  | 1 => ("RestingBlocks$Layout", "rights", "[I", true)
  | 2 => ("RestingBlocks$Layout", "levels", "[I", true)
  | 3 => ("RestingBlocks$Layout", "under", "[I", true)
  | 4 => ("RestingBlocks$Layout", "over", "[I", true)
  | 5 => ("RestingBlocks$Layout", "uppers", "[I", true)
  | 6 => ("RestingBlocks$Layout", "lowers", "[I", true)
  | 7 => ("RestingBlocks$Layout", "places", "[I", true)
  | 8 => ("RestingBlocks$Layout", "blocks", "I", false)
  | _ => ("RestingBlocks$Layout", "contacts", "I", false)
def tyX1 : Nat → FieldType := fun k => match k with
  | 0 => .array .int
  | 1 => .array .int
  | 2 => .array .int
  | 3 => .array .int
  | 4 => .array .int
  | 5 => .array .int
  | 6 => .array .int
  | 7 => .array .int
  | 8 => .int
  | _ => .int
theorem nmX1 : ∀ a, a < 10 → ∀ b, b < 10 → a ≠ b → (TX1 a).2.1 ≠ (TX1 b).2.1 := by decide +kernel
theorem tyX1_ok : ∀ k, k < 10 → parseFieldDescriptor (TX1 k).2.2.1 = some (tyX1 k) := by decide +kernel
theorem lyX1_0 : u_lay RX1 TX1 0 ∈ mc_tbl := mc_in 121 (by decide +kernel) (by decide +kernel)
theorem lyX1_1 : u_lay RX1 TX1 1 ∈ mc_tbl := mc_in 123 (by decide +kernel) (by decide +kernel)
theorem lyX1_2 : u_lay RX1 TX1 2 ∈ mc_tbl := mc_in 125 (by decide +kernel) (by decide +kernel)
theorem lyX1_3 : u_lay RX1 TX1 3 ∈ mc_tbl := mc_in 127 (by decide +kernel) (by decide +kernel)
theorem lyX1_4 : u_lay RX1 TX1 4 ∈ mc_tbl := mc_in 129 (by decide +kernel) (by decide +kernel)
theorem lyX1_5 : u_lay RX1 TX1 5 ∈ mc_tbl := mc_in 131 (by decide +kernel) (by decide +kernel)
theorem lyX1_6 : u_lay RX1 TX1 6 ∈ mc_tbl := mc_in 133 (by decide +kernel) (by decide +kernel)
theorem lyX1_7 : u_lay RX1 TX1 7 ∈ mc_tbl := mc_in 135 (by decide +kernel) (by decide +kernel)
theorem lyX1_8 : u_lay RX1 TX1 8 ∈ mc_tbl := mc_in 137 (by decide +kernel) (by decide +kernel)
theorem lyX1_9 : u_lay RX1 TX1 9 ∈ mc_tbl := mc_in 139 (by decide +kernel) (by decide +kernel)
theorem inX1 : ∀ w ∈ u_ws RX1 TX1 10, w ∈ mc_tbl := by
  intro w hw
  obtain ⟨k, hk, rfl⟩ := List.mem_map.mp hw
  have hk := List.mem_range.mp hk
  match k, hk with
  | 0, _ => exact lyX1_0
  | 1, _ => exact lyX1_1
  | 2, _ => exact lyX1_2
  | 3, _ => exact lyX1_3
  | 4, _ => exact lyX1_4
  | 5, _ => exact lyX1_5
  | 6, _ => exact lyX1_6
  | 7, _ => exact lyX1_7
  | 8, _ => exact lyX1_8
  | 9, _ => exact lyX1_9
  | k + 10, hk => exact absurd hk (by omega)
theorem iniX1 : Cond.initialized RX1 ∈ mc_tbl := mc_in 77 (by decide +kernel) (by decide +kernel)
theorem insX1 : Cond.instantiable RX1 10 ∈ mc_tbl := mc_in 106 (by decide +kernel) (by decide +kernel)
def RX2 : String := "RestingBlocks$Pile"
def TX2 : u_T := fun k => match k with
  | _ => ("RestingBlocks$Pile", "cells", "[I", true)
def tyX2 : Nat → FieldType := fun k => match k with
  | _ => .array .int
theorem nmX2 : ∀ a, a < 1 → ∀ b, b < 1 → a ≠ b → (TX2 a).2.1 ≠ (TX2 b).2.1 := by decide +kernel
theorem tyX2_ok : ∀ k, k < 1 → parseFieldDescriptor (TX2 k).2.2.1 = some (tyX2 k) := by decide +kernel
theorem lyX2_0 : u_lay RX2 TX2 0 ∈ mc_tbl := mc_in 101 (by decide +kernel) (by decide +kernel)
theorem inX2 : ∀ w ∈ u_ws RX2 TX2 1, w ∈ mc_tbl := by
  intro w hw
  obtain ⟨k, hk, rfl⟩ := List.mem_map.mp hw
  have hk := List.mem_range.mp hk
  match k, hk with
  | 0, _ => exact lyX2_0
  | k + 1, hk => exact absurd hk (by omega)
theorem iniX2 : Cond.initialized RX2 ∈ mc_tbl := mc_in 76 (by decide +kernel) (by decide +kernel)
theorem insX2 : Cond.instantiable RX2 1 ∈ mc_tbl := mc_in 94 (by decide +kernel) (by decide +kernel)
def RX3 : String := "RestingBlocks$Shelf"
def TX3 : u_T := fun k => match k with
  | 0 => ("RestingBlocks$Shelf", "places", "I", true)
  | _ => ("RestingBlocks$Shelf", "store", "[I", true)
def tyX3 : Nat → FieldType := fun k => match k with
  | 0 => .int
  | _ => .array .int
theorem nmX3 : ∀ a, a < 2 → ∀ b, b < 2 → a ≠ b → (TX3 a).2.1 ≠ (TX3 b).2.1 := by decide +kernel
theorem tyX3_ok : ∀ k, k < 2 → parseFieldDescriptor (TX3 k).2.2.1 = some (tyX3 k) := by decide +kernel
theorem lyX3_0 : u_lay RX3 TX3 0 ∈ mc_tbl := mc_in 198 (by decide +kernel) (by decide +kernel)
theorem lyX3_1 : u_lay RX3 TX3 1 ∈ mc_tbl := mc_in 200 (by decide +kernel) (by decide +kernel)
theorem inX3 : ∀ w ∈ u_ws RX3 TX3 2, w ∈ mc_tbl := by
  intro w hw
  obtain ⟨k, hk, rfl⟩ := List.mem_map.mp hw
  have hk := List.mem_range.mp hk
  match k, hk with
  | 0, _ => exact lyX3_0
  | 1, _ => exact lyX3_1
  | k + 2, hk => exact absurd hk (by omega)
theorem iniX3 : Cond.initialized RX3 ∈ mc_tbl := mc_in 80 (by decide +kernel) (by decide +kernel)
theorem insX3 : Cond.instantiable RX3 2 ∈ mc_tbl := mc_in 188 (by decide +kernel) (by decide +kernel)
def RX4 : String := "RestingBlocks$Text"
def TX4 : u_T := fun k => match k with
  | 0 => ("RestingBlocks$Text", "letters", "[S", true)
  | 1 => ("RestingBlocks$Text", "length", "I", false)
  | _ => ("RestingBlocks$Text", "at", "I", false)
def tyX4 : Nat → FieldType := fun k => match k with
  | 0 => .array .short
  | 1 => .int
  | _ => .int
theorem nmX4 : ∀ a, a < 3 → ∀ b, b < 3 → a ≠ b → (TX4 a).2.1 ≠ (TX4 b).2.1 := by decide +kernel
theorem tyX4_ok : ∀ k, k < 3 → parseFieldDescriptor (TX4 k).2.2.1 = some (tyX4 k) := by decide +kernel
theorem lyX4_0 : u_lay RX4 TX4 0 ∈ mc_tbl := mc_in 179 (by decide +kernel) (by decide +kernel)
theorem lyX4_1 : u_lay RX4 TX4 1 ∈ mc_tbl := mc_in 181 (by decide +kernel) (by decide +kernel)
theorem lyX4_2 : u_lay RX4 TX4 2 ∈ mc_tbl := mc_in 183 (by decide +kernel) (by decide +kernel)
theorem inX4 : ∀ w ∈ u_ws RX4 TX4 3, w ∈ mc_tbl := by
  intro w hw
  obtain ⟨k, hk, rfl⟩ := List.mem_map.mp hw
  have hk := List.mem_range.mp hk
  match k, hk with
  | 0, _ => exact lyX4_0
  | 1, _ => exact lyX4_1
  | 2, _ => exact lyX4_2
  | k + 3, hk => exact absurd hk (by omega)
theorem iniX4 : Cond.initialized RX4 ∈ mc_tbl := mc_in 79 (by decide +kernel) (by decide +kernel)
theorem insX4 : Cond.instantiable RX4 3 ∈ mc_tbl := mc_in 171 (by decide +kernel) (by decide +kernel)
def RX5 : String := "RestingBlocks"
def TX5 : u_T := fun k => match k with
  | 0 => ("RestingBlocks", "pile", "LRestingBlocks$Pile;", true)
  | 1 => ("RestingBlocks", "trial", "LRestingBlocks$Pile;", true)
  | 2 => ("RestingBlocks", "layout", "LRestingBlocks$Layout;", true)
  | 3 => ("RestingBlocks", "balance", "LRestingBlocks$Balance;", true)
  | 4 => ("RestingBlocks", "text", "LRestingBlocks$Text;", true)
  | 5 => ("RestingBlocks", "past", "LRestingBlocks$Shelf;", true)
  | 6 => ("RestingBlocks", "images", "LRestingBlocks$Shelf;", true)
  | 7 => ("RestingBlocks", "kept", "[Z", true)
  | _ => ("RestingBlocks", "undoable", "I", false)
def tyX5 : Nat → FieldType := fun k => match k with
  | 0 => .object "RestingBlocks$Pile"
  | 1 => .object "RestingBlocks$Pile"
  | 2 => .object "RestingBlocks$Layout"
  | 3 => .object "RestingBlocks$Balance"
  | 4 => .object "RestingBlocks$Text"
  | 5 => .object "RestingBlocks$Shelf"
  | 6 => .object "RestingBlocks$Shelf"
  | 7 => .array .boolean
  | _ => .int
theorem nmX5 : ∀ a, a < 9 → ∀ b, b < 9 → a ≠ b → (TX5 a).2.1 ≠ (TX5 b).2.1 := by decide +kernel
theorem tyX5_ok : ∀ k, k < 9 → parseFieldDescriptor (TX5 k).2.2.1 = some (tyX5 k) := by decide +kernel
theorem lyX5_0 : u_lay RX5 TX5 0 ∈ mc_tbl := mc_in 212 (by decide +kernel) (by decide +kernel)
theorem lyX5_1 : u_lay RX5 TX5 1 ∈ mc_tbl := mc_in 214 (by decide +kernel) (by decide +kernel)
theorem lyX5_2 : u_lay RX5 TX5 2 ∈ mc_tbl := mc_in 216 (by decide +kernel) (by decide +kernel)
theorem lyX5_3 : u_lay RX5 TX5 3 ∈ mc_tbl := mc_in 218 (by decide +kernel) (by decide +kernel)
theorem lyX5_4 : u_lay RX5 TX5 4 ∈ mc_tbl := mc_in 220 (by decide +kernel) (by decide +kernel)
theorem lyX5_5 : u_lay RX5 TX5 5 ∈ mc_tbl := mc_in 222 (by decide +kernel) (by decide +kernel)
theorem lyX5_6 : u_lay RX5 TX5 6 ∈ mc_tbl := mc_in 224 (by decide +kernel) (by decide +kernel)
theorem lyX5_7 : u_lay RX5 TX5 7 ∈ mc_tbl := mc_in 226 (by decide +kernel) (by decide +kernel)
theorem lyX5_8 : u_lay RX5 TX5 8 ∈ mc_tbl := mc_in 228 (by decide +kernel) (by decide +kernel)
theorem inX5 : ∀ w ∈ u_ws RX5 TX5 9, w ∈ mc_tbl := by
  intro w hw
  obtain ⟨k, hk, rfl⟩ := List.mem_map.mp hw
  have hk := List.mem_range.mp hk
  match k, hk with
  | 0, _ => exact lyX5_0
  | 1, _ => exact lyX5_1
  | 2, _ => exact lyX5_2
  | 3, _ => exact lyX5_3
  | 4, _ => exact lyX5_4
  | 5, _ => exact lyX5_5
  | 6, _ => exact lyX5_6
  | 7, _ => exact lyX5_7
  | 8, _ => exact lyX5_8
  | k + 9, hk => exact absurd hk (by omega)
theorem iniX5 : Cond.initialized RX5 ∈ mc_tbl := mc_in 75 (by decide +kernel) (by decide +kernel)
theorem insX5 : Cond.instantiable RX5 9 ∈ mc_tbl := mc_in 86 (by decide +kernel) (by decide +kernel)
def RX6 : String := "RestingBlocksModel"
def TX6 : u_T := fun k => match k with
  | 0 => ("RestingBlocksModel", "now", "[I", true)
  | 1 => ("RestingBlocksModel", "past", "[I", true)
  | 2 => ("RestingBlocksModel", "undos", "I", false)
  | 3 => ("RestingBlocksModel", "images", "[I", true)
  | 4 => ("RestingBlocksModel", "isKept", "[Z", true)
  | 5 => ("RestingBlocksModel", "text", "[I", true)
  | 6 => ("RestingBlocksModel", "letters", "I", false)
  | 7 => ("RestingBlocksModel", "levels", "[I", true)
  | 8 => ("RestingBlocksModel", "under", "[I", true)
  | 9 => ("RestingBlocksModel", "contacts", "I", false)
  | 10 => ("RestingBlocksModel", "of", "[I", true)
  | 11 => ("RestingBlocksModel", "on", "[I", true)
  | 12 => ("RestingBlocksModel", "place", "[I", true)
  | 13 => ("RestingBlocksModel", "rows", "I", false)
  | 14 => ("RestingBlocksModel", "columns", "I", false)
  | 15 => ("RestingBlocksModel", "matrix", "[J", true)
  | 16 => ("RestingBlocksModel", "due", "[J", true)
  | 17 => ("RestingBlocksModel", "work", "[J", true)
  | 18 => ("RestingBlocksModel", "isFound", "Z", false)
  | 19 => ("RestingBlocksModel", "leastUp", "J", false)
  | 20 => ("RestingBlocksModel", "leastLow", "J", false)
  | 21 => ("RestingBlocksModel", "mostUp", "J", false)
  | 22 => ("RestingBlocksModel", "mostLow", "J", false)
  | 23 => ("RestingBlocksModel", "at", "I", false)
  | 24 => ("RestingBlocksModel", "mark", "I", false)
  | 25 => ("RestingBlocksModel", "items", "I", false)
  | _ => ("RestingBlocksModel", "aside", "[I", true)
def tyX6 : Nat → FieldType := fun k => match k with
  | 0 => .array .int
  | 1 => .array .int
  | 2 => .int
  | 3 => .array .int
  | 4 => .array .boolean
  | 5 => .array .int
  | 6 => .int
  | 7 => .array .int
  | 8 => .array .int
  | 9 => .int
  | 10 => .array .int
  | 11 => .array .int
  | 12 => .array .int
  | 13 => .int
  | 14 => .int
  | 15 => .array .long
  | 16 => .array .long
  | 17 => .array .long
  | 18 => .boolean
  | 19 => .long
  | 20 => .long
  | 21 => .long
  | 22 => .long
  | 23 => .int
  | 24 => .int
  | 25 => .int
  | _ => .array .int
theorem nmX6 : ∀ a, a < 27 → ∀ b, b < 27 → a ≠ b → (TX6 a).2.1 ≠ (TX6 b).2.1 := by decide +kernel
theorem tyX6_ok : ∀ k, k < 27 → parseFieldDescriptor (TX6 k).2.2.1 = some (tyX6 k) := by decide +kernel
theorem lyX6_0 : u_lay RX6 TX6 0 ∈ mc_tbl := mc_in 646 (by decide +kernel) (by decide +kernel)
theorem lyX6_1 : u_lay RX6 TX6 1 ∈ mc_tbl := mc_in 648 (by decide +kernel) (by decide +kernel)
theorem lyX6_2 : u_lay RX6 TX6 2 ∈ mc_tbl := mc_in 650 (by decide +kernel) (by decide +kernel)
theorem lyX6_3 : u_lay RX6 TX6 3 ∈ mc_tbl := mc_in 652 (by decide +kernel) (by decide +kernel)
theorem lyX6_4 : u_lay RX6 TX6 4 ∈ mc_tbl := mc_in 654 (by decide +kernel) (by decide +kernel)
theorem lyX6_5 : u_lay RX6 TX6 5 ∈ mc_tbl := mc_in 656 (by decide +kernel) (by decide +kernel)
theorem lyX6_6 : u_lay RX6 TX6 6 ∈ mc_tbl := mc_in 658 (by decide +kernel) (by decide +kernel)
theorem lyX6_7 : u_lay RX6 TX6 7 ∈ mc_tbl := mc_in 660 (by decide +kernel) (by decide +kernel)
theorem lyX6_8 : u_lay RX6 TX6 8 ∈ mc_tbl := mc_in 662 (by decide +kernel) (by decide +kernel)
theorem lyX6_9 : u_lay RX6 TX6 9 ∈ mc_tbl := mc_in 664 (by decide +kernel) (by decide +kernel)
theorem lyX6_10 : u_lay RX6 TX6 10 ∈ mc_tbl := mc_in 666 (by decide +kernel) (by decide +kernel)
theorem lyX6_11 : u_lay RX6 TX6 11 ∈ mc_tbl := mc_in 668 (by decide +kernel) (by decide +kernel)
theorem lyX6_12 : u_lay RX6 TX6 12 ∈ mc_tbl := mc_in 670 (by decide +kernel) (by decide +kernel)
theorem lyX6_13 : u_lay RX6 TX6 13 ∈ mc_tbl := mc_in 672 (by decide +kernel) (by decide +kernel)
theorem lyX6_14 : u_lay RX6 TX6 14 ∈ mc_tbl := mc_in 674 (by decide +kernel) (by decide +kernel)
theorem lyX6_15 : u_lay RX6 TX6 15 ∈ mc_tbl := mc_in 676 (by decide +kernel) (by decide +kernel)
theorem lyX6_16 : u_lay RX6 TX6 16 ∈ mc_tbl := mc_in 678 (by decide +kernel) (by decide +kernel)
theorem lyX6_17 : u_lay RX6 TX6 17 ∈ mc_tbl := mc_in 680 (by decide +kernel) (by decide +kernel)
theorem lyX6_18 : u_lay RX6 TX6 18 ∈ mc_tbl := mc_in 682 (by decide +kernel) (by decide +kernel)
theorem lyX6_19 : u_lay RX6 TX6 19 ∈ mc_tbl := mc_in 684 (by decide +kernel) (by decide +kernel)
theorem lyX6_20 : u_lay RX6 TX6 20 ∈ mc_tbl := mc_in 686 (by decide +kernel) (by decide +kernel)
theorem lyX6_21 : u_lay RX6 TX6 21 ∈ mc_tbl := mc_in 688 (by decide +kernel) (by decide +kernel)
theorem lyX6_22 : u_lay RX6 TX6 22 ∈ mc_tbl := mc_in 690 (by decide +kernel) (by decide +kernel)
theorem lyX6_23 : u_lay RX6 TX6 23 ∈ mc_tbl := mc_in 692 (by decide +kernel) (by decide +kernel)
theorem lyX6_24 : u_lay RX6 TX6 24 ∈ mc_tbl := mc_in 694 (by decide +kernel) (by decide +kernel)
theorem lyX6_25 : u_lay RX6 TX6 25 ∈ mc_tbl := mc_in 696 (by decide +kernel) (by decide +kernel)
theorem lyX6_26 : u_lay RX6 TX6 26 ∈ mc_tbl := mc_in 698 (by decide +kernel) (by decide +kernel)
theorem inX6 : ∀ w ∈ u_ws RX6 TX6 27, w ∈ mc_tbl := by
  intro w hw
  obtain ⟨k, hk, rfl⟩ := List.mem_map.mp hw
  have hk := List.mem_range.mp hk
  match k, hk with
  | 0, _ => exact lyX6_0
  | 1, _ => exact lyX6_1
  | 2, _ => exact lyX6_2
  | 3, _ => exact lyX6_3
  | 4, _ => exact lyX6_4
  | 5, _ => exact lyX6_5
  | 6, _ => exact lyX6_6
  | 7, _ => exact lyX6_7
  | 8, _ => exact lyX6_8
  | 9, _ => exact lyX6_9
  | 10, _ => exact lyX6_10
  | 11, _ => exact lyX6_11
  | 12, _ => exact lyX6_12
  | 13, _ => exact lyX6_13
  | 14, _ => exact lyX6_14
  | 15, _ => exact lyX6_15
  | 16, _ => exact lyX6_16
  | 17, _ => exact lyX6_17
  | 18, _ => exact lyX6_18
  | 19, _ => exact lyX6_19
  | 20, _ => exact lyX6_20
  | 21, _ => exact lyX6_21
  | 22, _ => exact lyX6_22
  | 23, _ => exact lyX6_23
  | 24, _ => exact lyX6_24
  | 25, _ => exact lyX6_25
  | 26, _ => exact lyX6_26
  | k + 27, hk => exact absurd hk (by omega)
theorem iniX6 : Cond.initialized RX6 ∈ mc_tbl := mc_in 82 (by decide +kernel) (by decide +kernel)
theorem insX6 : Cond.instantiable RX6 27 ∈ mc_tbl := mc_in 614 (by decide +kernel) (by decide +kernel)
def RJ6 : String := "java/lang/Integer"
def RJ9 : String := "java/lang/Math"
def RL : String := "RestingBlocksLaw"
theorem iniJ6 : Cond.initialized RJ6 ∈ mc_tbl := mc_in 84 (by decide +kernel) (by decide +kernel)
theorem iniJ9 : Cond.initialized RJ9 ∈ mc_tbl := mc_in 81 (by decide +kernel) (by decide +kernel)
abbrev mc_cl : List vw_C := [(RX0, TX0, 6), (RX1, TX1, 10), (RX2, TX2, 1), (RX3, TX3, 2), (RX4, TX4, 3), (RX5, TX5, 9), (RX6, TX6, 27)]
