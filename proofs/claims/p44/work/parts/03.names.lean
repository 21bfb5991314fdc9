def RX0 : String := "FamilyStore$Algebra"
def TX0 : u_T := fun k => match k with
  | 0 => ("FamilyStore$Algebra", "first", "[I", true)
  | 1 => ("FamilyStore$Algebra", "second", "[I", true)
  | 2 => ("FamilyStore$Algebra", "spare", "[J", true)
  | _ => ("FamilyStore$Algebra", "steps", "[J", true)
def tyX0 : Nat → FieldType := fun k => match k with
  | 0 => .array .int
  | 1 => .array .int
  | 2 => .array .long
  | _ => .array .long
theorem nmX0 : ∀ a, a < 4 → ∀ b, b < 4 → a ≠ b → (TX0 a).2.1 ≠ (TX0 b).2.1 := by decide +kernel
theorem tyX0_ok : ∀ k, k < 4 → parseFieldDescriptor (TX0 k).2.2.1 = some (tyX0 k) := by decide +kernel
abbrev cX0_init : ByteArray := prog_2_method_1_code
def yX0_init : MethodName := ⟨RX0, "<init>", "([I[I)V"⟩
abbrev cX0_applyToOne : ByteArray := prog_2_method_2_code
def yX0_applyToOne : MethodName := ⟨RX0, "applyToOne", "(I[J)V"⟩
abbrev cX0_applyToTwo : ByteArray := prog_2_method_3_code
def yX0_applyToTwo : MethodName := ⟨RX0, "applyToTwo", "(I[J[J)V"⟩
abbrev cX0_addAll : ByteArray := prog_2_method_4_code
def yX0_addAll : MethodName := ⟨RX0, "addAll", "([J[J)V"⟩
abbrev cX0_keepAll : ByteArray := prog_2_method_5_code
def yX0_keepAll : MethodName := ⟨RX0, "keepAll", "([J[J)V"⟩
abbrev cX0_removeAll : ByteArray := prog_2_method_6_code
def yX0_removeAll : MethodName := ⟨RX0, "removeAll", "([J[J)V"⟩
abbrev cX0_keepMaximal : ByteArray := prog_2_method_7_code
def yX0_keepMaximal : MethodName := ⟨RX0, "keepMaximal", "([J)V"⟩
abbrev cX0_keepMinimal : ByteArray := prog_2_method_8_code
def yX0_keepMinimal : MethodName := ⟨RX0, "keepMinimal", "([J)V"⟩
abbrev cX0_hit : ByteArray := prog_2_method_9_code
def yX0_hit : MethodName := ⟨RX0, "hit", "([J)V"⟩
abbrev cX0_pair : ByteArray := prog_2_method_10_code
def yX0_pair : MethodName := ⟨RX0, "pair", "([J[JZ)V"⟩
abbrev cX0_countPairs : ByteArray := prog_2_method_11_code
def yX0_countPairs : MethodName := ⟨RX0, "countPairs", "([J[JZ)V"⟩
abbrev cX0_spread : ByteArray := prog_2_method_12_code
def yX0_spread : MethodName := ⟨RX0, "spread", "([J[III)V"⟩
abbrev cX0_sumSubsets : ByteArray := prog_2_method_13_code
def yX0_sumSubsets : MethodName := ⟨RX0, "sumSubsets", "([III)V"⟩
abbrev cX0_divide : ByteArray := prog_2_method_14_code
def yX0_divide : MethodName := ⟨RX0, "divide", "([J[J)I"⟩
abbrev cX0_hasAllWith : ByteArray := prog_2_method_15_code
def yX0_hasAllWith : MethodName := ⟨RX0, "hasAllWith", "([JII)Z"⟩
abbrev cX0_removeProducts : ByteArray := prog_2_method_16_code
def yX0_removeProducts : MethodName := ⟨RX0, "removeProducts", "([JI)V"⟩
def RX1 : String := "FamilyStore$Calculator"
def TX1 : u_T := fun k => match k with
  | 0 => ("FamilyStore$Calculator", "rows", "[[J", true)
  | _ => ("FamilyStore$Calculator", "depth", "I", false)
def tyX1 : Nat → FieldType := fun k => match k with
  | 0 => .array (.array .long)
  | _ => .int
theorem nmX1 : ∀ a, a < 2 → ∀ b, b < 2 → a ≠ b → (TX1 a).2.1 ≠ (TX1 b).2.1 := by decide +kernel
theorem tyX1_ok : ∀ k, k < 2 → parseFieldDescriptor (TX1 k).2.2.1 = some (tyX1 k) := by decide +kernel
abbrev cX1_init : ByteArray := prog_3_method_1_code
def yX1_init : MethodName := ⟨RX1, "<init>", "()V"⟩
def RX2 : String := "FamilyStore$Costs"
def TX2 : u_T := fun k => match k with
  | 0 => ("FamilyStore$Costs", "each", "[I", true)
  | 1 => ("FamilyStore$Costs", "ofLower", "[I", true)
  | _ => ("FamilyStore$Costs", "ofUpper", "[I", true)
def tyX2 : Nat → FieldType := fun k => match k with
  | 0 => .array .int
  | 1 => .array .int
  | _ => .array .int
theorem nmX2 : ∀ a, a < 3 → ∀ b, b < 3 → a ≠ b → (TX2 a).2.1 ≠ (TX2 b).2.1 := by decide +kernel
theorem tyX2_ok : ∀ k, k < 3 → parseFieldDescriptor (TX2 k).2.2.1 = some (tyX2 k) := by decide +kernel
abbrev cX2_init : ByteArray := prog_4_method_1_code
def yX2_init : MethodName := ⟨RX2, "<init>", "()V"⟩
def RX3 : String := "FamilyStore$Diagrams"
def TX3 : u_T := fun k => match k with
  | 0 => ("FamilyStore$Diagrams", "parts", "[I", true)
  | 1 => ("FamilyStore$Diagrams", "keys", "[J", false)
  | 2 => ("FamilyStore$Diagrams", "users", "[I", false)
  | 3 => ("FamilyStore$Diagrams", "metBy", "[I", false)
  | 4 => ("FamilyStore$Diagrams", "places", "[I", false)
  | 5 => ("FamilyStore$Diagrams", "next", "I", false)
  | 6 => ("FamilyStore$Diagrams", "visits", "I", false)
  | _ => ("FamilyStore$Diagrams", "inUse", "I", false)
def tyX3 : Nat → FieldType := fun k => match k with
  | 0 => .array .int
  | 1 => .array .long
  | 2 => .array .int
  | 3 => .array .int
  | 4 => .array .int
  | 5 => .int
  | 6 => .int
  | _ => .int
theorem nmX3 : ∀ a, a < 8 → ∀ b, b < 8 → a ≠ b → (TX3 a).2.1 ≠ (TX3 b).2.1 := by decide +kernel
theorem tyX3_ok : ∀ k, k < 8 → parseFieldDescriptor (TX3 k).2.2.1 = some (tyX3 k) := by decide +kernel
abbrev cX3_init : ByteArray := prog_5_method_1_code
def yX3_init : MethodName := ⟨RX3, "<init>", "([I)V"⟩
abbrev cX3_visit : ByteArray := prog_5_method_2_code
def yX3_visit : MethodName := ⟨RX3, "visit", "([JI)I"⟩
abbrev cX3_mark : ByteArray := prog_5_method_3_code
def yX3_mark : MethodName := ⟨RX3, "mark", "(II)I"⟩
abbrev cX3_numberOf : ByteArray := prog_5_method_4_code
def yX3_numberOf : MethodName := ⟨RX3, "numberOf", "(III)I"⟩
abbrev cX3_placeOf : ByteArray := prog_5_method_5_code
def yX3_placeOf : MethodName := ⟨RX3, "placeOf", "(J)I"⟩
abbrev cX3_enlarge : ByteArray := prog_5_method_6_code
def yX3_enlarge : MethodName := ⟨RX3, "enlarge", "()V"⟩
def RX4 : String := "FamilyStore$Family"
def TX4 : u_T := fun k => match k with
  | 0 => ("FamilyStore$Family", "row", "[J", true)
  | 1 => ("FamilyStore$Family", "sets", "I", true)
  | _ => ("FamilyStore$Family", "nodes", "I", true)
def tyX4 : Nat → FieldType := fun k => match k with
  | 0 => .array .long
  | 1 => .int
  | _ => .int
theorem nmX4 : ∀ a, a < 3 → ∀ b, b < 3 → a ≠ b → (TX4 a).2.1 ≠ (TX4 b).2.1 := by decide +kernel
theorem tyX4_ok : ∀ k, k < 3 → parseFieldDescriptor (TX4 k).2.2.1 = some (tyX4 k) := by decide +kernel
abbrev cX4_init : ByteArray := prog_6_method_1_code
def yX4_init : MethodName := ⟨RX4, "<init>", "([JII)V"⟩
def RX5 : String := "FamilyStore$Heap"
def TX5 : u_T := fun k => match k with
  | _ => ("", "", "", false)
def tyX5 : Nat → FieldType := fun k => match k with
  | _ => .int
theorem nmX5 : ∀ a, a < 0 → ∀ b, b < 0 → a ≠ b → (TX5 a).2.1 ≠ (TX5 b).2.1 := by decide +kernel
theorem tyX5_ok : ∀ k, k < 0 → parseFieldDescriptor (TX5 k).2.2.1 = some (tyX5 k) := by decide +kernel
def RX6 : String := "FamilyStore$Reader"
def TX6 : u_T := fun k => match k with
  | 0 => ("FamilyStore$Reader", "kinds", "[I", true)
  | 1 => ("FamilyStore$Reader", "values", "[I", true)
  | 2 => ("FamilyStore$Reader", "steps", "I", false)
  | 3 => ("FamilyStore$Reader", "text", "[B", false)
  | 4 => ("FamilyStore$Reader", "length", "I", false)
  | 5 => ("FamilyStore$Reader", "families", "[LFamilyStore$Family;", false)
  | 6 => ("FamilyStore$Reader", "token", "I", false)
  | 7 => ("FamilyStore$Reader", "start", "I", false)
  | 8 => ("FamilyStore$Reader", "end", "I", false)
  | _ => ("FamilyStore$Reader", "errorAt", "I", false)
def tyX6 : Nat → FieldType := fun k => match k with
  | 0 => .array .int
  | 1 => .array .int
  | 2 => .int
  | 3 => .array .byte
  | 4 => .int
  | 5 => .array (.object "FamilyStore$Family")
  | 6 => .int
  | 7 => .int
  | 8 => .int
  | _ => .int
theorem nmX6 : ∀ a, a < 10 → ∀ b, b < 10 → a ≠ b → (TX6 a).2.1 ≠ (TX6 b).2.1 := by decide +kernel
theorem tyX6_ok : ∀ k, k < 10 → parseFieldDescriptor (TX6 k).2.2.1 = some (tyX6 k) := by decide +kernel
abbrev cX6_init : ByteArray := prog_8_method_1_code
def yX6_init : MethodName := ⟨RX6, "<init>", "()V"⟩
def RX7 : String := "FamilyStore$Rows"
def TX7 : u_T := fun k => match k with
  | _ => ("", "", "", false)
def tyX7 : Nat → FieldType := fun k => match k with
  | _ => .int
theorem nmX7 : ∀ a, a < 0 → ∀ b, b < 0 → a ≠ b → (TX7 a).2.1 ≠ (TX7 b).2.1 := by decide +kernel
theorem tyX7_ok : ∀ k, k < 0 → parseFieldDescriptor (TX7 k).2.2.1 = some (tyX7 k) := by decide +kernel
abbrev cX7_has : ByteArray := prog_9_method_2_code
def yX7_has : MethodName := ⟨RX7, "has", "([JI)Z"⟩
abbrev cX7_put : ByteArray := prog_9_method_3_code
def yX7_put : MethodName := ⟨RX7, "put", "([JI)V"⟩
abbrev cX7_remove : ByteArray := prog_9_method_4_code
def yX7_remove : MethodName := ⟨RX7, "remove", "([JI)V"⟩
abbrev cX7_copy : ByteArray := prog_9_method_5_code
def yX7_copy : MethodName := ⟨RX7, "copy", "([J[J)V"⟩
abbrev cX7_size : ByteArray := prog_9_method_6_code
def yX7_size : MethodName := ⟨RX7, "size", "([J)I"⟩
abbrev cX7_isInside : ByteArray := prog_9_method_8_code
def yX7_isInside : MethodName := ⟨RX7, "isInside", "([J[J)Z"⟩
abbrev cX7_span : ByteArray := prog_9_method_9_code
def yX7_span : MethodName := ⟨RX7, "span", "([J)I"⟩
abbrev cX7_list : ByteArray := prog_9_method_10_code
def yX7_list : MethodName := ⟨RX7, "list", "([J[I)I"⟩
abbrev cX7_takeOut : ByteArray := prog_9_method_11_code
def yX7_takeOut : MethodName := ⟨RX7, "takeOut", "([J[JI)V"⟩
abbrev cX7_putIn : ByteArray := prog_9_method_12_code
def yX7_putIn : MethodName := ⟨RX7, "putIn", "([J[JI)V"⟩
abbrev cX7_swap : ByteArray := prog_9_method_13_code
def yX7_swap : MethodName := ⟨RX7, "swap", "([JI)V"⟩
abbrev cX7_lower : ByteArray := prog_9_method_14_code
def yX7_lower : MethodName := ⟨RX7, "lower", "([J)V"⟩
abbrev cX7_raise : ByteArray := prog_9_method_15_code
def yX7_raise : MethodName := ⟨RX7, "raise", "([J)V"⟩
def RX8 : String := "FamilyStore"
def TX8 : u_T := fun k => match k with
  | 0 => ("FamilyStore", "text", "[B", true)
  | 1 => ("FamilyStore", "textLength", "I", false)
  | 2 => ("FamilyStore", "errorAt", "I", false)
  | 3 => ("FamilyStore", "output", "[B", true)
  | 4 => ("FamilyStore", "outputLength", "I", false)
  | 5 => ("FamilyStore", "families", "[LFamilyStore$Family;", true)
  | 6 => ("FamilyStore", "created", "I", false)
  | 7 => ("FamilyStore", "unreleased", "I", false)
  | 8 => ("FamilyStore", "first", "[I", true)
  | 9 => ("FamilyStore", "second", "[I", true)
  | 10 => ("FamilyStore", "algebra", "LFamilyStore$Algebra;", true)
  | 11 => ("FamilyStore", "diagrams", "LFamilyStore$Diagrams;", true)
  | 12 => ("FamilyStore", "reader", "LFamilyStore$Reader;", true)
  | 13 => ("FamilyStore", "calculator", "LFamilyStore$Calculator;", true)
  | 14 => ("FamilyStore", "costs", "LFamilyStore$Costs;", true)
  | 15 => ("FamilyStore", "cheapest", "[I", true)
  | _ => ("FamilyStore", "cheapestLength", "I", false)
def tyX8 : Nat → FieldType := fun k => match k with
  | 0 => .array .byte
  | 1 => .int
  | 2 => .int
  | 3 => .array .byte
  | 4 => .int
  | 5 => .array (.object "FamilyStore$Family")
  | 6 => .int
  | 7 => .int
  | 8 => .array .int
  | 9 => .array .int
  | 10 => .object "FamilyStore$Algebra"
  | 11 => .object "FamilyStore$Diagrams"
  | 12 => .object "FamilyStore$Reader"
  | 13 => .object "FamilyStore$Calculator"
  | 14 => .object "FamilyStore$Costs"
  | 15 => .array .int
  | _ => .int
theorem nmX8 : ∀ a, a < 17 → ∀ b, b < 17 → a ≠ b → (TX8 a).2.1 ≠ (TX8 b).2.1 := by decide +kernel
theorem tyX8_ok : ∀ k, k < 17 → parseFieldDescriptor (TX8 k).2.2.1 = some (tyX8 k) := by decide +kernel
abbrev cX8_init : ByteArray := prog_1_method_1_code
def yX8_init : MethodName := ⟨RX8, "<init>", "()V"⟩
abbrev cX8_single : ByteArray := prog_1_method_12_code
def yX8_single : MethodName := ⟨RX8, "single", "(I)I"⟩
abbrev cX8_subsetsOf : ByteArray := prog_1_method_13_code
def yX8_subsetsOf : MethodName := ⟨RX8, "subsetsOf", "(II)I"⟩
abbrev cX8_release : ByteArray := prog_1_method_14_code
def yX8_release : MethodName := ⟨RX8, "release", "(I)I"⟩
abbrev cX8_checkMask : ByteArray := prog_1_method_18_code
def yX8_checkMask : MethodName := ⟨RX8, "checkMask", "(I)V"⟩
abbrev cX8_checkCreated : ByteArray := prog_1_method_20_code
def yX8_checkCreated : MethodName := ⟨RX8, "checkCreated", "(I)V"⟩
abbrev cX8_checkRoom : ByteArray := prog_1_method_21_code
def yX8_checkRoom : MethodName := ⟨RX8, "checkRoom", "()V"⟩
abbrev cX8_familyOf : ByteArray := prog_1_method_22_code
def yX8_familyOf : MethodName := ⟨RX8, "familyOf", "(I)LFamilyStore$Family;"⟩
abbrev cX8_addFamily : ByteArray := prog_1_method_24_code
def yX8_addFamily : MethodName := ⟨RX8, "addFamily", "([J)I"⟩
abbrev cX8_union : ByteArray := prog_1_method_25_code
def yX8_union : MethodName := ⟨RX8, "union", "(II)I"⟩
abbrev cX8_intersection : ByteArray := prog_1_method_26_code
def yX8_intersection : MethodName := ⟨RX8, "intersection", "(II)I"⟩
abbrev cX8_difference : ByteArray := prog_1_method_27_code
def yX8_difference : MethodName := ⟨RX8, "difference", "(II)I"⟩
abbrev cX8_join : ByteArray := prog_1_method_28_code
def yX8_join : MethodName := ⟨RX8, "join", "(II)I"⟩
abbrev cX8_quotient : ByteArray := prog_1_method_30_code
def yX8_quotient : MethodName := ⟨RX8, "quotient", "(II)I"⟩
abbrev cX8_remainder : ByteArray := prog_1_method_31_code
def yX8_remainder : MethodName := ⟨RX8, "remainder", "(II)I"⟩
abbrev cX8_maximal : ByteArray := prog_1_method_34_code
def yX8_maximal : MethodName := ⟨RX8, "maximal", "(I)I"⟩
abbrev cX8_minimal : ByteArray := prog_1_method_35_code
def yX8_minimal : MethodName := ⟨RX8, "minimal", "(I)I"⟩
abbrev cX8_hitting : ByteArray := prog_1_method_36_code
def yX8_hitting : MethodName := ⟨RX8, "hitting", "(I)I"⟩
abbrev cX8_addOfOne : ByteArray := prog_1_method_38_code
def yX8_addOfOne : MethodName := ⟨RX8, "addOfOne", "(II)I"⟩
abbrev cX8_addOfTwo : ByteArray := prog_1_method_39_code
def yX8_addOfTwo : MethodName := ⟨RX8, "addOfTwo", "(III)I"⟩
abbrev cX8_count : ByteArray := prog_1_method_42_code
def yX8_count : MethodName := ⟨RX8, "count", "(I)I"⟩
abbrev cX8_contains : ByteArray := prog_1_method_45_code
def yX8_contains : MethodName := ⟨RX8, "contains", "(II)Z"⟩
abbrev cX8_areEqual : ByteArray := prog_1_method_46_code
def yX8_areEqual : MethodName := ⟨RX8, "areEqual", "(II)Z"⟩
def RX9 : String := "FamilyStoreModel"
def TX9 : u_T := fun k => match k with
  | _ => ("", "", "", false)
def tyX9 : Nat → FieldType := fun k => match k with
  | _ => .int
theorem nmX9 : ∀ a, a < 0 → ∀ b, b < 0 → a ≠ b → (TX9 a).2.1 ≠ (TX9 b).2.1 := by decide +kernel
theorem tyX9_ok : ∀ k, k < 0 → parseFieldDescriptor (TX9 k).2.2.1 = some (tyX9 k) := by decide +kernel
def RJx145de : String := "java/io/Serializable"
def TJx145de : u_T := fun k => match k with
  | _ => ("", "", "", false)
def tyJx145de : Nat → FieldType := fun k => match k with
  | _ => .int
theorem nmJx145de : ∀ a, a < 0 → ∀ b, b < 0 → a ≠ b → (TJx145de a).2.1 ≠ (TJx145de b).2.1 := by decide +kernel
theorem tyJx145de_ok : ∀ k, k < 0 → parseFieldDescriptor (TJx145de k).2.2.1 = some (tyJx145de k) := by decide +kernel
def RJx8e188 : String := "java/lang/Cloneable"
def TJx8e188 : u_T := fun k => match k with
  | _ => ("", "", "", false)
def tyJx8e188 : Nat → FieldType := fun k => match k with
  | _ => .int
theorem nmJx8e188 : ∀ a, a < 0 → ∀ b, b < 0 → a ≠ b → (TJx8e188 a).2.1 ≠ (TJx8e188 b).2.1 := by decide +kernel
theorem tyJx8e188_ok : ∀ k, k < 0 → parseFieldDescriptor (TJx8e188 k).2.2.1 = some (tyJx8e188 k) := by decide +kernel
def RJxb160c : String := "java/lang/Comparable"
def TJxb160c : u_T := fun k => match k with
  | _ => ("", "", "", false)
def tyJxb160c : Nat → FieldType := fun k => match k with
  | _ => .int
theorem nmJxb160c : ∀ a, a < 0 → ∀ b, b < 0 → a ≠ b → (TJxb160c a).2.1 ≠ (TJxb160c b).2.1 := by decide +kernel
theorem tyJxb160c_ok : ∀ k, k < 0 → parseFieldDescriptor (TJxb160c k).2.2.1 = some (tyJxb160c k) := by decide +kernel
def RJ6 : String := "java/lang/Integer"
def TJ6 : u_T := fun k => match k with
  | _ => ("", "", "", false)
def tyJ6 : Nat → FieldType := fun k => match k with
  | _ => .int
theorem nmJ6 : ∀ a, a < 0 → ∀ b, b < 0 → a ≠ b → (TJ6 a).2.1 ≠ (TJ6 b).2.1 := by decide +kernel
theorem tyJ6_ok : ∀ k, k < 0 → parseFieldDescriptor (TJ6 k).2.2.1 = some (tyJ6 k) := by decide +kernel
abbrev cJ6_numberOfLeadingZeros_0f7a4 : ByteArray := prog_19_method_47_code
def yJ6_numberOfLeadingZeros_0f7a4 : MethodName := ⟨RJ6, "numberOfLeadingZeros", "(I)I"⟩
abbrev cJ6_numberOfTrailingZeros_0f7a4 : ByteArray := prog_19_method_48_code
def yJ6_numberOfTrailingZeros_0f7a4 : MethodName := ⟨RJ6, "numberOfTrailingZeros", "(I)I"⟩
abbrev cJ6_bitCount_0f7a4 : ByteArray := prog_19_method_49_code
def yJ6_bitCount_0f7a4 : MethodName := ⟨RJ6, "bitCount", "(I)I"⟩
def RJ13 : String := "java/lang/Long"
def TJ13 : u_T := fun k => match k with
  | _ => ("", "", "", false)
def tyJ13 : Nat → FieldType := fun k => match k with
  | _ => .int
theorem nmJ13 : ∀ a, a < 0 → ∀ b, b < 0 → a ≠ b → (TJ13 a).2.1 ≠ (TJ13 b).2.1 := by decide +kernel
theorem tyJ13_ok : ∀ k, k < 0 → parseFieldDescriptor (TJ13 k).2.2.1 = some (tyJ13 k) := by decide +kernel
abbrev cJ13_numberOfLeadingZeros_95d88 : ByteArray := prog_20_method_48_code
def yJ13_numberOfLeadingZeros_95d88 : MethodName := ⟨RJ13, "numberOfLeadingZeros", "(J)I"⟩
abbrev cJ13_numberOfTrailingZeros_95d88 : ByteArray := prog_20_method_49_code
def yJ13_numberOfTrailingZeros_95d88 : MethodName := ⟨RJ13, "numberOfTrailingZeros", "(J)I"⟩
abbrev cJ13_bitCount_95d88 : ByteArray := prog_20_method_50_code
def yJ13_bitCount_95d88 : MethodName := ⟨RJ13, "bitCount", "(J)I"⟩
def RJ9 : String := "java/lang/Math"
def TJ9 : u_T := fun k => match k with
  | _ => ("", "", "", false)
def tyJ9 : Nat → FieldType := fun k => match k with
  | _ => .int
theorem nmJ9 : ∀ a, a < 0 → ∀ b, b < 0 → a ≠ b → (TJ9 a).2.1 ≠ (TJ9 b).2.1 := by decide +kernel
theorem tyJ9_ok : ∀ k, k < 0 → parseFieldDescriptor (TJ9 k).2.2.1 = some (tyJ9 k) := by decide +kernel
abbrev cJ9_max_7cf53 : ByteArray := prog_21_method_65_code
def yJ9_max_7cf53 : MethodName := ⟨RJ9, "max", "(II)I"⟩
abbrev cJ9_min_7cf53 : ByteArray := prog_21_method_69_code
def yJ9_min_7cf53 : MethodName := ⟨RJ9, "min", "(II)I"⟩
def RJxd2413 : String := "java/lang/Number"
def TJxd2413 : u_T := fun k => match k with
  | _ => ("", "", "", false)
def tyJxd2413 : Nat → FieldType := fun k => match k with
  | _ => .int
theorem nmJxd2413 : ∀ a, a < 0 → ∀ b, b < 0 → a ≠ b → (TJxd2413 a).2.1 ≠ (TJxd2413 b).2.1 := by decide +kernel
theorem tyJxd2413_ok : ∀ k, k < 0 → parseFieldDescriptor (TJxd2413 k).2.2.1 = some (tyJxd2413 k) := by decide +kernel
def RJ10 : String := "java/lang/System"
def TJ10 : u_T := fun k => match k with
  | _ => ("", "", "", false)
def tyJ10 : Nat → FieldType := fun k => match k with
  | _ => .int
theorem nmJ10 : ∀ a, a < 0 → ∀ b, b < 0 → a ≠ b → (TJ10 a).2.1 ≠ (TJ10 b).2.1 := by decide +kernel
theorem tyJ10_ok : ∀ k, k < 0 → parseFieldDescriptor (TJ10 k).2.2.1 = some (tyJ10 k) := by decide +kernel
def RJxfd54e : String := "java/lang/constant/Constable"
def TJxfd54e : u_T := fun k => match k with
  | _ => ("", "", "", false)
def tyJxfd54e : Nat → FieldType := fun k => match k with
  | _ => .int
theorem nmJxfd54e : ∀ a, a < 0 → ∀ b, b < 0 → a ≠ b → (TJxfd54e a).2.1 ≠ (TJxfd54e b).2.1 := by decide +kernel
theorem tyJxfd54e_ok : ∀ k, k < 0 → parseFieldDescriptor (TJxfd54e k).2.2.1 = some (tyJxfd54e k) := by decide +kernel
def RJx3cf43 : String := "java/lang/constant/ConstantDesc"
def TJx3cf43 : u_T := fun k => match k with
  | _ => ("", "", "", false)
def tyJx3cf43 : Nat → FieldType := fun k => match k with
  | _ => .int
theorem nmJx3cf43 : ∀ a, a < 0 → ∀ b, b < 0 → a ≠ b → (TJx3cf43 a).2.1 ≠ (TJx3cf43 b).2.1 := by decide +kernel
theorem tyJx3cf43_ok : ∀ k, k < 0 → parseFieldDescriptor (TJx3cf43 k).2.2.1 = some (tyJx3cf43 k) := by decide +kernel
def RJ7 : String := "java/util/Arrays"
def TJ7 : u_T := fun k => match k with
  | _ => ("", "", "", false)
def tyJ7 : Nat → FieldType := fun k => match k with
  | _ => .int
theorem nmJ7 : ∀ a, a < 0 → ∀ b, b < 0 → a ≠ b → (TJ7 a).2.1 ≠ (TJ7 b).2.1 := by decide +kernel
theorem tyJ7_ok : ∀ k, k < 0 → parseFieldDescriptor (TJ7 k).2.2.1 = some (tyJ7 k) := by decide +kernel
abbrev cJ7_fill_d0a16 : ByteArray := prog_26_method_101_code
def yJ7_fill_d0a16 : MethodName := ⟨RJ7, "fill", "([JJ)V"⟩
abbrev cJ7_copyOf_59c91 : ByteArray := prog_26_method_123_code
def yJ7_copyOf_59c91 : MethodName := ⟨RJ7, "copyOf", "([II)[I"⟩
abbrev cJ7_copyOf_c38d5 : ByteArray := prog_26_method_124_code
def yJ7_copyOf_c38d5 : MethodName := ⟨RJ7, "copyOf", "([JI)[J"⟩
def RL : String := "FamilyStoreLaw"
abbrev cL_below : ByteArray := method_2_code
def yL_below : MethodName := ⟨RL, "below", "(II)I"⟩
abbrev cL_cell : ByteArray := method_3_code
def yL_cell : MethodName := ⟨RL, "cell", "([II)I"⟩
abbrev cL_has : ByteArray := method_4_code
def yL_has : MethodName := ⟨RL, "has", "(JI)Z"⟩
abbrev cL_choose : ByteArray := method_5_code
def yL_choose : MethodName := ⟨RL, "choose", "(I)J"⟩
abbrev cL_make : ByteArray := method_6_code
def yL_make : MethodName := ⟨RL, "make", "(LFamilyStore;J)I"⟩
abbrev cL_is : ByteArray := method_7_code
def yL_is : MethodName := ⟨RL, "is", "(LFamilyStore;IJ)Z"⟩
abbrev cL_join : ByteArray := method_8_code
def yL_join : MethodName := ⟨RL, "join", "(JJ)J"⟩
abbrev cL_quotient : ByteArray := method_9_code
def yL_quotient : MethodName := ⟨RL, "quotient", "(JJ)J"⟩
abbrev cL_extreme : ByteArray := method_10_code
def yL_extreme : MethodName := ⟨RL, "extreme", "(JZ)J"⟩
abbrev cL_hitting : ByteArray := method_11_code
def yL_hitting : MethodName := ⟨RL, "hitting", "(J)J"⟩
abbrev cL_law : ByteArray := code
def yL_law : MethodName := ⟨RL, "law", "([I)Z"⟩
