/-! the words that every method may lean on: those of the tables that stay true; the classes, by their fields -/
def fs_ws : List Cond := lw_tbl.filter goodWord
theorem fs_b1 {w : Cond} (h : w ∈ tables_1_1) : w ∈ lw_tbl := List.mem_append_right _ (show w ∈ tables_1 from List.mem_append_left _ (h))
theorem fs_t1 {w : Cond} (h : w ∈ tables_1_1) (g : goodWord w = true) : w ∈ fs_ws := List.mem_filter.mpr ⟨List.mem_append_right _ (show w ∈ tables_1 from List.mem_append_left _ (h)), g⟩
theorem fs_b2 {w : Cond} (h : w ∈ tables_1_2) : w ∈ lw_tbl := List.mem_append_right _ (show w ∈ tables_1 from List.mem_append_right _ (List.mem_append_left _ (h)))
theorem fs_t2 {w : Cond} (h : w ∈ tables_1_2) (g : goodWord w = true) : w ∈ fs_ws := List.mem_filter.mpr ⟨List.mem_append_right _ (show w ∈ tables_1 from List.mem_append_right _ (List.mem_append_left _ (h))), g⟩
theorem fs_b3 {w : Cond} (h : w ∈ tables_1_3) : w ∈ lw_tbl := List.mem_append_right _ (show w ∈ tables_1 from List.mem_append_right _ (List.mem_append_right _ (List.mem_append_left _ (h))))
theorem fs_t3 {w : Cond} (h : w ∈ tables_1_3) (g : goodWord w = true) : w ∈ fs_ws := List.mem_filter.mpr ⟨List.mem_append_right _ (show w ∈ tables_1 from List.mem_append_right _ (List.mem_append_right _ (List.mem_append_left _ (h)))), g⟩
theorem fs_b4 {w : Cond} (h : w ∈ tables_1_4) : w ∈ lw_tbl := List.mem_append_right _ (show w ∈ tables_1 from List.mem_append_right _ (List.mem_append_right _ (List.mem_append_right _ (List.mem_append_left _ (h)))))
theorem fs_t4 {w : Cond} (h : w ∈ tables_1_4) (g : goodWord w = true) : w ∈ fs_ws := List.mem_filter.mpr ⟨List.mem_append_right _ (show w ∈ tables_1 from List.mem_append_right _ (List.mem_append_right _ (List.mem_append_right _ (List.mem_append_left _ (h))))), g⟩
theorem fs_b5 {w : Cond} (h : w ∈ tables_1_5) : w ∈ lw_tbl := List.mem_append_right _ (show w ∈ tables_1 from List.mem_append_right _ (List.mem_append_right _ (List.mem_append_right _ (List.mem_append_right _ (List.mem_append_left _ (h))))))
theorem fs_t5 {w : Cond} (h : w ∈ tables_1_5) (g : goodWord w = true) : w ∈ fs_ws := List.mem_filter.mpr ⟨List.mem_append_right _ (show w ∈ tables_1 from List.mem_append_right _ (List.mem_append_right _ (List.mem_append_right _ (List.mem_append_right _ (List.mem_append_left _ (h)))))), g⟩
theorem fs_b6 {w : Cond} (h : w ∈ tables_1_6) : w ∈ lw_tbl := List.mem_append_right _ (show w ∈ tables_1 from List.mem_append_right _ (List.mem_append_right _ (List.mem_append_right _ (List.mem_append_right _ (List.mem_append_right _ (List.mem_append_left _ (h)))))))
theorem fs_t6 {w : Cond} (h : w ∈ tables_1_6) (g : goodWord w = true) : w ∈ fs_ws := List.mem_filter.mpr ⟨List.mem_append_right _ (show w ∈ tables_1 from List.mem_append_right _ (List.mem_append_right _ (List.mem_append_right _ (List.mem_append_right _ (List.mem_append_right _ (List.mem_append_left _ (h))))))), g⟩
theorem fs_b7 {w : Cond} (h : w ∈ tables_1_7) : w ∈ lw_tbl := List.mem_append_right _ (show w ∈ tables_1 from List.mem_append_right _ (List.mem_append_right _ (List.mem_append_right _ (List.mem_append_right _ (List.mem_append_right _ (List.mem_append_right _ (h)))))))
theorem fs_t7 {w : Cond} (h : w ∈ tables_1_7) (g : goodWord w = true) : w ∈ fs_ws := List.mem_filter.mpr ⟨List.mem_append_right _ (show w ∈ tables_1 from List.mem_append_right _ (List.mem_append_right _ (List.mem_append_right _ (List.mem_append_right _ (List.mem_append_right _ (List.mem_append_right _ (h))))))), g⟩
theorem fs_good {ws : List Cond} (h : ∀ w ∈ ws, w ∈ fs_ws) (c : Cond) (hc : c ∈ fs_ws) : GoodIn (c :: fs_ws) ws := fun w q => ⟨List.mem_cons_of_mem _ (h w q), good_of_word (List.mem_filter.mp (h w q)).2⟩
def fs_R0 : String := "FlowShelf"
def fs_T0 : u_T := fun k => match k with
  | 0 => ("FlowShelf", "first", "LFlowShelf$Exporter;", true)
  | 1 => ("FlowShelf", "second", "LFlowShelf$Exporter;", true)
  | 2 => ("FlowShelf", "reports", "Ljava/util/ArrayList;", true)
  | _ => ("FlowShelf", "collector", "LFlowShelf$Collector;", true)
def fs_Y0 : Nat → FieldType := fun k => match k with
  | 0 => .object "FlowShelf$Exporter"
  | 1 => .object "FlowShelf$Exporter"
  | 2 => .object "java/util/ArrayList"
  | _ => .object "FlowShelf$Collector"
theorem fs_nm0 : ∀ a, a < 4 → ∀ b, b < 4 → a ≠ b → (fs_T0 a).2.1 ≠ (fs_T0 b).2.1 := by decide +kernel
theorem fs_ty0 : ∀ k, k < 4 → parseFieldDescriptor (fs_T0 k).2.2.1 = some (fs_Y0 k) := by decide +kernel
theorem fs_l0 : ∀ k, k < 4 → u_lay fs_R0 fs_T0 k ∈ fs_ws := fun k hk => match k, hk with
  | 0, _ => fs_t2 (List.mem_of_getElem? (i := 11) rfl) rfl
  | 1, _ => fs_t2 (List.mem_of_getElem? (i := 13) rfl) rfl
  | 2, _ => fs_t2 (List.mem_of_getElem? (i := 15) rfl) rfl
  | 3, _ => fs_t2 (List.mem_of_getElem? (i := 17) rfl) rfl
  | q + 4, h => absurd h (by omega)
theorem fs_in0 : ∀ w ∈ u_ws fs_R0 fs_T0 4, w ∈ fs_ws := fun w h => by
  obtain ⟨k, hk, rfl⟩ := List.mem_map.mp h
  exact fs_l0 k (List.mem_range.mp hk)
def fs_d0 : List Value := [.null, .null, .null, .null]
def fs_R1 : String := "FlowShelf$Exporter"
def fs_T1 : u_T := fun k => match k with
  | 0 => ("FlowShelf$Exporter", "number", "I", true)
  | 1 => ("FlowShelf$Exporter", "cache", "Ljava/util/ArrayList;", true)
  | 2 => ("FlowShelf$Exporter", "endedFlows", "Ljava/util/ArrayList;", true)
  | 3 => ("FlowShelf$Exporter", "slots", "[LFlowShelf$Slot;", true)
  | 4 => ("FlowShelf$Exporter", "clock", "I", false)
  | 5 => ("FlowShelf$Exporter", "epoch", "I", false)
  | 6 => ("FlowShelf$Exporter", "sampleOf", "I", false)
  | 7 => ("FlowShelf$Exporter", "sampleCounter", "I", false)
  | 8 => ("FlowShelf$Exporter", "seals", "I", false)
  | 9 => ("FlowShelf$Exporter", "written", "I", false)
  | _ => ("FlowShelf$Exporter", "samplersWritten", "I", false)
def fs_Y1 : Nat → FieldType := fun k => match k with
  | 0 => .int
  | 1 => .object "java/util/ArrayList"
  | 2 => .object "java/util/ArrayList"
  | 3 => .array (.object "FlowShelf$Slot")
  | 4 => .int
  | 5 => .int
  | 6 => .int
  | 7 => .int
  | 8 => .int
  | 9 => .int
  | _ => .int
theorem fs_nm1 : ∀ a, a < 11 → ∀ b, b < 11 → a ≠ b → (fs_T1 a).2.1 ≠ (fs_T1 b).2.1 := by decide +kernel
theorem fs_ty1 : ∀ k, k < 11 → parseFieldDescriptor (fs_T1 k).2.2.1 = some (fs_Y1 k) := by decide +kernel
theorem fs_l1 : ∀ k, k < 11 → u_lay fs_R1 fs_T1 k ∈ fs_ws := fun k hk => match k, hk with
  | 0, _ => fs_t1 (List.mem_of_getElem? (i := 142) rfl) rfl
  | 1, _ => fs_t1 (List.mem_of_getElem? (i := 144) rfl) rfl
  | 2, _ => fs_t1 (List.mem_of_getElem? (i := 146) rfl) rfl
  | 3, _ => fs_t1 (List.mem_of_getElem? (i := 148) rfl) rfl
  | 4, _ => fs_t1 (List.mem_of_getElem? (i := 150) rfl) rfl
  | 5, _ => fs_t1 (List.mem_of_getElem? (i := 152) rfl) rfl
  | 6, _ => fs_t1 (List.mem_of_getElem? (i := 154) rfl) rfl
  | 7, _ => fs_t1 (List.mem_of_getElem? (i := 156) rfl) rfl
  | 8, _ => fs_t1 (List.mem_of_getElem? (i := 158) rfl) rfl
  | 9, _ => fs_t1 (List.mem_of_getElem? (i := 160) rfl) rfl
  | 10, _ => fs_t1 (List.mem_of_getElem? (i := 162) rfl) rfl
  | q + 11, h => absurd h (by omega)
theorem fs_in1 : ∀ w ∈ u_ws fs_R1 fs_T1 11, w ∈ fs_ws := fun w h => by
  obtain ⟨k, hk, rfl⟩ := List.mem_map.mp h
  exact fs_l1 k (List.mem_range.mp hk)
def fs_d1 : List Value := [.int 0, .null, .null, .null, .int 0, .int 0, .int 0, .int 0, .int 0, .int 0, .int 0]
def fs_R2 : String := "java/util/ArrayList"
def fs_T2 : u_T := fun k => match k with
  | 0 => ("java/util/ArrayList", "elementData", "[Ljava/lang/Object;", false)
  | 1 => ("java/util/ArrayList", "size", "I", false)
  | _ => ("java/util/AbstractList", "modCount", "I", false)
def fs_Y2 : Nat → FieldType := fun k => match k with
  | 0 => .array (.object "java/lang/Object")
  | 1 => .int
  | _ => .int
theorem fs_nm2 : ∀ a, a < 3 → ∀ b, b < 3 → a ≠ b → (fs_T2 a).2.1 ≠ (fs_T2 b).2.1 := by decide +kernel
theorem fs_ty2 : ∀ k, k < 3 → parseFieldDescriptor (fs_T2 k).2.2.1 = some (fs_Y2 k) := by decide +kernel
theorem fs_l2 : ∀ k, k < 3 → u_lay fs_R2 fs_T2 k ∈ fs_ws := fun k hk => match k, hk with
  | 0, _ => fs_t1 (List.mem_of_getElem? (i := 62) rfl) rfl
  | 1, _ => fs_t1 (List.mem_of_getElem? (i := 64) rfl) rfl
  | 2, _ => fs_t1 (List.mem_of_getElem? (i := 66) rfl) rfl
  | q + 3, h => absurd h (by omega)
theorem fs_in2 : ∀ w ∈ u_ws fs_R2 fs_T2 3, w ∈ fs_ws := fun w h => by
  obtain ⟨k, hk, rfl⟩ := List.mem_map.mp h
  exact fs_l2 k (List.mem_range.mp hk)
def fs_d2 : List Value := [.null, .int 0, .int 0]
def fs_R3 : String := "FlowShelf$Slot"
def fs_T3 : u_T := fun k => match k with
  | 0 => ("FlowShelf$Slot", "number", "I", true)
  | 1 => ("FlowShelf$Slot", "draft", "LFlowShelf$Layout;", false)
  | 2 => ("FlowShelf$Slot", "layout", "LFlowShelf$Layout;", false)
  | 3 => ("FlowShelf$Slot", "inForce", "Z", false)
  | 4 => ("FlowShelf$Slot", "revision", "I", false)
  | _ => ("FlowShelf$Slot", "sealedAt", "I", false)
def fs_Y3 : Nat → FieldType := fun k => match k with
  | 0 => .int
  | 1 => .object "FlowShelf$Layout"
  | 2 => .object "FlowShelf$Layout"
  | 3 => .boolean
  | 4 => .int
  | _ => .int
theorem fs_nm3 : ∀ a, a < 6 → ∀ b, b < 6 → a ≠ b → (fs_T3 a).2.1 ≠ (fs_T3 b).2.1 := by decide +kernel
theorem fs_ty3 : ∀ k, k < 6 → parseFieldDescriptor (fs_T3 k).2.2.1 = some (fs_Y3 k) := by decide +kernel
theorem fs_l3 : ∀ k, k < 6 → u_lay fs_R3 fs_T3 k ∈ fs_ws := fun k hk => match k, hk with
  | 0, _ => fs_t1 (List.mem_of_getElem? (i := 112) rfl) rfl
  | 1, _ => fs_t1 (List.mem_of_getElem? (i := 114) rfl) rfl
  | 2, _ => fs_t1 (List.mem_of_getElem? (i := 116) rfl) rfl
  | 3, _ => fs_t1 (List.mem_of_getElem? (i := 118) rfl) rfl
  | 4, _ => fs_t1 (List.mem_of_getElem? (i := 120) rfl) rfl
  | 5, _ => fs_t1 (List.mem_of_getElem? (i := 122) rfl) rfl
  | q + 6, h => absurd h (by omega)
theorem fs_in3 : ∀ w ∈ u_ws fs_R3 fs_T3 6, w ∈ fs_ws := fun w h => by
  obtain ⟨k, hk, rfl⟩ := List.mem_map.mp h
  exact fs_l3 k (List.mem_range.mp hk)
def fs_d3 : List Value := [.int 0, .null, .null, .int 0, .int 0, .int 0]
def fs_R4 : String := "FlowShelf$Layout"
def fs_T4 : u_T := fun k => match k with
  | 0 => ("FlowShelf$Layout", "fields", "[I", true)
  | 1 => ("FlowShelf$Layout", "lengths", "[I", true)
  | _ => ("FlowShelf$Layout", "used", "I", false)
def fs_Y4 : Nat → FieldType := fun k => match k with
  | 0 => .array .int
  | 1 => .array .int
  | _ => .int
theorem fs_nm4 : ∀ a, a < 3 → ∀ b, b < 3 → a ≠ b → (fs_T4 a).2.1 ≠ (fs_T4 b).2.1 := by decide +kernel
theorem fs_ty4 : ∀ k, k < 3 → parseFieldDescriptor (fs_T4 k).2.2.1 = some (fs_Y4 k) := by decide +kernel
theorem fs_l4 : ∀ k, k < 3 → u_lay fs_R4 fs_T4 k ∈ fs_ws := fun k hk => match k, hk with
  | 0, _ => fs_t1 (List.mem_of_getElem? (i := 90) rfl) rfl
  | 1, _ => fs_t1 (List.mem_of_getElem? (i := 92) rfl) rfl
  | 2, _ => fs_t1 (List.mem_of_getElem? (i := 94) rfl) rfl
  | q + 3, h => absurd h (by omega)
theorem fs_in4 : ∀ w ∈ u_ws fs_R4 fs_T4 3, w ∈ fs_ws := fun w h => by
  obtain ⟨k, hk, rfl⟩ := List.mem_map.mp h
  exact fs_l4 k (List.mem_range.mp hk)
def fs_d4 : List Value := [.null, .null, .int 0]
def fs_R5 : String := "FlowShelf$Collector"
def fs_T5 : u_T := fun k => match k with
  | 0 => ("FlowShelf$Collector", "known", "Ljava/util/ArrayList;", true)
  | 1 => ("FlowShelf$Collector", "shelf", "Ljava/util/ArrayList;", true)
  | 2 => ("FlowShelf$Collector", "table", "LFlowShelf$Table;", true)
  | 3 => ("FlowShelf$Collector", "ofFirst", "LFlowShelf$Ledger;", true)
  | _ => ("FlowShelf$Collector", "ofSecond", "LFlowShelf$Ledger;", true)
def fs_Y5 : Nat → FieldType := fun k => match k with
  | 0 => .object "java/util/ArrayList"
  | 1 => .object "java/util/ArrayList"
  | 2 => .object "FlowShelf$Table"
  | 3 => .object "FlowShelf$Ledger"
  | _ => .object "FlowShelf$Ledger"
theorem fs_nm5 : ∀ a, a < 5 → ∀ b, b < 5 → a ≠ b → (fs_T5 a).2.1 ≠ (fs_T5 b).2.1 := by decide +kernel
theorem fs_ty5 : ∀ k, k < 5 → parseFieldDescriptor (fs_T5 k).2.2.1 = some (fs_Y5 k) := by decide +kernel
theorem fs_l5 : ∀ k, k < 5 → u_lay fs_R5 fs_T5 k ∈ fs_ws := fun k hk => match k, hk with
  | 0, _ => fs_t1 (List.mem_of_getElem? (i := 236) rfl) rfl
  | 1, _ => fs_t1 (List.mem_of_getElem? (i := 238) rfl) rfl
  | 2, _ => fs_t2 (List.mem_of_getElem? (i := 0) rfl) rfl
  | 3, _ => fs_t2 (List.mem_of_getElem? (i := 2) rfl) rfl
  | 4, _ => fs_t2 (List.mem_of_getElem? (i := 4) rfl) rfl
  | q + 5, h => absurd h (by omega)
theorem fs_in5 : ∀ w ∈ u_ws fs_R5 fs_T5 5, w ∈ fs_ws := fun w h => by
  obtain ⟨k, hk, rfl⟩ := List.mem_map.mp h
  exact fs_l5 k (List.mem_range.mp hk)
def fs_d5 : List Value := [.null, .null, .null, .null, .null]
def fs_R6 : String := "FlowShelf$Table"
def fs_T6 : u_T := fun k => match k with
  | 0 => ("FlowShelf$Table", "list", "Ljava/util/ArrayList;", true)
  | 1 => ("FlowShelf$Table", "partner", "[I", true)
  | 2 => ("FlowShelf$Table", "order", "[I", true)
  | 3 => ("FlowShelf$Table", "ordered", "I", false)
  | _ => ("FlowShelf$Table", "pairedRows", "I", false)
def fs_Y6 : Nat → FieldType := fun k => match k with
  | 0 => .object "java/util/ArrayList"
  | 1 => .array .int
  | 2 => .array .int
  | 3 => .int
  | _ => .int
theorem fs_nm6 : ∀ a, a < 5 → ∀ b, b < 5 → a ≠ b → (fs_T6 a).2.1 ≠ (fs_T6 b).2.1 := by decide +kernel
theorem fs_ty6 : ∀ k, k < 5 → parseFieldDescriptor (fs_T6 k).2.2.1 = some (fs_Y6 k) := by decide +kernel
theorem fs_l6 : ∀ k, k < 5 → u_lay fs_R6 fs_T6 k ∈ fs_ws := fun k hk => match k, hk with
  | 0, _ => fs_t1 (List.mem_of_getElem? (i := 190) rfl) rfl
  | 1, _ => fs_t1 (List.mem_of_getElem? (i := 192) rfl) rfl
  | 2, _ => fs_t1 (List.mem_of_getElem? (i := 194) rfl) rfl
  | 3, _ => fs_t1 (List.mem_of_getElem? (i := 196) rfl) rfl
  | 4, _ => fs_t1 (List.mem_of_getElem? (i := 198) rfl) rfl
  | q + 5, h => absurd h (by omega)
theorem fs_in6 : ∀ w ∈ u_ws fs_R6 fs_T6 5, w ∈ fs_ws := fun w h => by
  obtain ⟨k, hk, rfl⟩ := List.mem_map.mp h
  exact fs_l6 k (List.mem_range.mp hk)
def fs_d6 : List Value := [.null, .null, .null, .int 0, .int 0]
def fs_R7 : String := "FlowShelf$Ledger"
def fs_T7 : u_T := fun k => match k with
  | 0 => ("FlowShelf$Ledger", "heard", "[Z", true)
  | 1 => ("FlowShelf$Ledger", "dropped", "I", false)
  | 2 => ("FlowShelf$Ledger", "spoilt", "I", false)
  | 3 => ("FlowShelf$Ledger", "notedSampler", "I", false)
  | 4 => ("FlowShelf$Ledger", "notedEpoch", "I", false)
  | _ => ("FlowShelf$Ledger", "notedBefore", "I", false)
def fs_Y7 : Nat → FieldType := fun k => match k with
  | 0 => .array .boolean
  | 1 => .int
  | 2 => .int
  | 3 => .int
  | 4 => .int
  | _ => .int
theorem fs_nm7 : ∀ a, a < 6 → ∀ b, b < 6 → a ≠ b → (fs_T7 a).2.1 ≠ (fs_T7 b).2.1 := by decide +kernel
theorem fs_ty7 : ∀ k, k < 6 → parseFieldDescriptor (fs_T7 k).2.2.1 = some (fs_Y7 k) := by decide +kernel
theorem fs_l7 : ∀ k, k < 6 → u_lay fs_R7 fs_T7 k ∈ fs_ws := fun k hk => match k, hk with
  | 0, _ => fs_t1 (List.mem_of_getElem? (i := 216) rfl) rfl
  | 1, _ => fs_t1 (List.mem_of_getElem? (i := 218) rfl) rfl
  | 2, _ => fs_t1 (List.mem_of_getElem? (i := 220) rfl) rfl
  | 3, _ => fs_t1 (List.mem_of_getElem? (i := 222) rfl) rfl
  | 4, _ => fs_t1 (List.mem_of_getElem? (i := 224) rfl) rfl
  | 5, _ => fs_t1 (List.mem_of_getElem? (i := 226) rfl) rfl
  | q + 6, h => absurd h (by omega)
theorem fs_in7 : ∀ w ∈ u_ws fs_R7 fs_T7 6, w ∈ fs_ws := fun w h => by
  obtain ⟨k, hk, rfl⟩ := List.mem_map.mp h
  exact fs_l7 k (List.mem_range.mp hk)
def fs_d7 : List Value := [.null, .int 0, .int 0, .int 0, .int 0, .int 0]
def fs_R8 : String := "FlowShelf$Flow"
def fs_T8 : u_T := fun k => match k with
  | 0 => ("FlowShelf$Flow", "source", "I", true)
  | 1 => ("FlowShelf$Flow", "target", "I", true)
  | 2 => ("FlowShelf$Flow", "service", "I", true)
  | 3 => ("FlowShelf$Flow", "began", "I", true)
  | 4 => ("FlowShelf$Flow", "bytes", "I", false)
  | 5 => ("FlowShelf$Flow", "packets", "I", false)
  | 6 => ("FlowShelf$Flow", "latest", "I", false)
  | 7 => ("FlowShelf$Flow", "endedAt", "I", false)
  | _ => ("FlowShelf$Flow", "reason", "I", false)
def fs_Y8 : Nat → FieldType := fun k => match k with
  | 0 => .int
  | 1 => .int
  | 2 => .int
  | 3 => .int
  | 4 => .int
  | 5 => .int
  | 6 => .int
  | 7 => .int
  | _ => .int
theorem fs_nm8 : ∀ a, a < 9 → ∀ b, b < 9 → a ≠ b → (fs_T8 a).2.1 ≠ (fs_T8 b).2.1 := by decide +kernel
theorem fs_ty8 : ∀ k, k < 9 → parseFieldDescriptor (fs_T8 k).2.2.1 = some (fs_Y8 k) := by decide +kernel
theorem fs_l8 : ∀ k, k < 9 → u_lay fs_R8 fs_T8 k ∈ fs_ws := fun k hk => match k, hk with
  | 0, _ => fs_t3 (List.mem_of_getElem? (i := 38) rfl) rfl
  | 1, _ => fs_t3 (List.mem_of_getElem? (i := 40) rfl) rfl
  | 2, _ => fs_t3 (List.mem_of_getElem? (i := 42) rfl) rfl
  | 3, _ => fs_t3 (List.mem_of_getElem? (i := 44) rfl) rfl
  | 4, _ => fs_t3 (List.mem_of_getElem? (i := 46) rfl) rfl
  | 5, _ => fs_t3 (List.mem_of_getElem? (i := 48) rfl) rfl
  | 6, _ => fs_t3 (List.mem_of_getElem? (i := 50) rfl) rfl
  | 7, _ => fs_t3 (List.mem_of_getElem? (i := 52) rfl) rfl
  | 8, _ => fs_t3 (List.mem_of_getElem? (i := 54) rfl) rfl
  | q + 9, h => absurd h (by omega)
theorem fs_in8 : ∀ w ∈ u_ws fs_R8 fs_T8 9, w ∈ fs_ws := fun w h => by
  obtain ⟨k, hk, rfl⟩ := List.mem_map.mp h
  exact fs_l8 k (List.mem_range.mp hk)
def fs_d8 : List Value := [.int 0, .int 0, .int 0, .int 0, .int 0, .int 0, .int 0, .int 0, .int 0]
def fs_R9 : String := "FlowShelf$Report"
def fs_T9 : u_T := fun k => match k with
  | 0 => ("FlowShelf$Report", "bytes", "[I", true)
  | _ => ("FlowShelf$Report", "used", "I", false)
def fs_Y9 : Nat → FieldType := fun k => match k with
  | 0 => .array .int
  | _ => .int
theorem fs_nm9 : ∀ a, a < 2 → ∀ b, b < 2 → a ≠ b → (fs_T9 a).2.1 ≠ (fs_T9 b).2.1 := by decide +kernel
theorem fs_ty9 : ∀ k, k < 2 → parseFieldDescriptor (fs_T9 k).2.2.1 = some (fs_Y9 k) := by decide +kernel
theorem fs_l9 : ∀ k, k < 2 → u_lay fs_R9 fs_T9 k ∈ fs_ws := fun k hk => match k, hk with
  | 0, _ => fs_t3 (List.mem_of_getElem? (i := 231) rfl) rfl
  | 1, _ => fs_t3 (List.mem_of_getElem? (i := 233) rfl) rfl
  | q + 2, h => absurd h (by omega)
theorem fs_in9 : ∀ w ∈ u_ws fs_R9 fs_T9 2, w ∈ fs_ws := fun w h => by
  obtain ⟨k, hk, rfl⟩ := List.mem_map.mp h
  exact fs_l9 k (List.mem_range.mp hk)
def fs_d9 : List Value := [.null, .int 0]
def fs_R10 : String := "FlowShelf$Cursor"
def fs_T10 : u_T := fun k => match k with
  | 0 => ("FlowShelf$Cursor", "records", "LFlowShelf$Report;", true)
  | 1 => ("FlowShelf$Cursor", "at", "I", false)
  | _ => ("FlowShelf$Cursor", "bad", "Z", false)
def fs_Y10 : Nat → FieldType := fun k => match k with
  | 0 => .object "FlowShelf$Report"
  | 1 => .int
  | _ => .boolean
theorem fs_nm10 : ∀ a, a < 3 → ∀ b, b < 3 → a ≠ b → (fs_T10 a).2.1 ≠ (fs_T10 b).2.1 := by decide +kernel
theorem fs_ty10 : ∀ k, k < 3 → parseFieldDescriptor (fs_T10 k).2.2.1 = some (fs_Y10 k) := by decide +kernel
theorem fs_l10 : ∀ k, k < 3 → u_lay fs_R10 fs_T10 k ∈ fs_ws := fun k hk => match k, hk with
  | 0, _ => fs_t4 (List.mem_of_getElem? (i := 232) rfl) rfl
  | 1, _ => fs_t4 (List.mem_of_getElem? (i := 234) rfl) rfl
  | 2, _ => fs_t4 (List.mem_of_getElem? (i := 236) rfl) rfl
  | q + 3, h => absurd h (by omega)
theorem fs_in10 : ∀ w ∈ u_ws fs_R10 fs_T10 3, w ∈ fs_ws := fun w h => by
  obtain ⟨k, hk, rfl⟩ := List.mem_map.mp h
  exact fs_l10 k (List.mem_range.mp hk)
def fs_d10 : List Value := [.null, .int 0, .int 0]
def fs_R11 : String := "FlowShelf$Row"
def fs_T11 : u_T := fun k => match k with
  | 0 => ("FlowShelf$Row", "exporter", "I", true)
  | _ => ("FlowShelf$Row", "values", "[J", true)
def fs_Y11 : Nat → FieldType := fun k => match k with
  | 0 => .int
  | _ => .array .long
theorem fs_nm11 : ∀ a, a < 2 → ∀ b, b < 2 → a ≠ b → (fs_T11 a).2.1 ≠ (fs_T11 b).2.1 := by decide +kernel
theorem fs_ty11 : ∀ k, k < 2 → parseFieldDescriptor (fs_T11 k).2.2.1 = some (fs_Y11 k) := by decide +kernel
theorem fs_l11 : ∀ k, k < 2 → u_lay fs_R11 fs_T11 k ∈ fs_ws := fun k hk => match k, hk with
  | 0, _ => fs_t5 (List.mem_of_getElem? (i := 35) rfl) rfl
  | 1, _ => fs_t5 (List.mem_of_getElem? (i := 37) rfl) rfl
  | q + 2, h => absurd h (by omega)
theorem fs_in11 : ∀ w ∈ u_ws fs_R11 fs_T11 2, w ∈ fs_ws := fun w h => by
  obtain ⟨k, hk, rfl⟩ := List.mem_map.mp h
  exact fs_l11 k (List.mem_range.mp hk)
def fs_d11 : List Value := [.int 0, .null]
def fs_R12 : String := "FlowShelfModel"
def fs_T12 : u_T := fun k => match k with
  | 0 => ("FlowShelfModel", "thrown", "I", false)
  | 1 => ("FlowShelfModel", "clock", "[I", false)
  | 2 => ("FlowShelfModel", "epoch", "[I", false)
  | 3 => ("FlowShelfModel", "every", "[I", false)
  | 4 => ("FlowShelfModel", "counter", "[I", false)
  | 5 => ("FlowShelfModel", "written", "[I", false)
  | 6 => ("FlowShelfModel", "told", "[I", false)
  | 7 => ("FlowShelfModel", "cached", "[I", false)
  | 8 => ("FlowShelfModel", "key", "[I", false)
  | 9 => ("FlowShelfModel", "bytes", "[I", false)
  | 10 => ("FlowShelfModel", "packets", "[I", false)
  | 11 => ("FlowShelfModel", "began", "[I", false)
  | 12 => ("FlowShelfModel", "latest", "[I", false)
  | 13 => ("FlowShelfModel", "endedMany", "[I", false)
  | 14 => ("FlowShelfModel", "endedFields", "[I", false)
  | 15 => ("FlowShelfModel", "draftMany", "[I", false)
  | 16 => ("FlowShelfModel", "draftField", "[I", false)
  | 17 => ("FlowShelfModel", "draftLength", "[I", false)
  | 18 => ("FlowShelfModel", "revisions", "[I", false)
  | 19 => ("FlowShelfModel", "inForce", "[I", false)
  | 20 => ("FlowShelfModel", "forceMany", "[I", false)
  | 21 => ("FlowShelfModel", "forceField", "[I", false)
  | 22 => ("FlowShelfModel", "forceLength", "[I", false)
  | 23 => ("FlowShelfModel", "sealedAt", "[I", false)
  | 24 => ("FlowShelfModel", "seals", "I", false)
  | 25 => ("FlowShelfModel", "reports", "I", false)
  | 26 => ("FlowShelfModel", "sizes", "[I", false)
  | 27 => ("FlowShelfModel", "texts", "[I", false)
  | 28 => ("FlowShelfModel", "knownMany", "I", false)
  | 29 => ("FlowShelfModel", "known", "[I", false)
  | 30 => ("FlowShelfModel", "knownFields", "[I", false)
  | 31 => ("FlowShelfModel", "knownField", "[I", false)
  | 32 => ("FlowShelfModel", "knownLength", "[I", false)
  | 33 => ("FlowShelfModel", "shelved", "I", false)
  | 34 => ("FlowShelfModel", "shelfSize", "[I", false)
  | 35 => ("FlowShelfModel", "shelf", "[I", false)
  | 36 => ("FlowShelfModel", "heard", "[Z", false)
  | 37 => ("FlowShelfModel", "rowMany", "I", false)
  | 38 => ("FlowShelfModel", "rowExporter", "[I", false)
  | 39 => ("FlowShelfModel", "values", "[J", false)
  | 40 => ("FlowShelfModel", "dropped", "[I", false)
  | 41 => ("FlowShelfModel", "spoilt", "[I", false)
  | 42 => ("FlowShelfModel", "noted", "[I", false)
  | 43 => ("FlowShelfModel", "notedEpoch", "[I", false)
  | 44 => ("FlowShelfModel", "notedCount", "[I", false)
  | 45 => ("FlowShelfModel", "length", "I", false)
  | 46 => ("FlowShelfModel", "b", "[I", false)
  | 47 => ("FlowShelfModel", "at", "I", false)
  | 48 => ("FlowShelfModel", "pair", "[I", false)
  | _ => ("FlowShelfModel", "done", "[Z", false)
def fs_Y12 : Nat → FieldType := fun k => match k with
  | 0 => .int
  | 1 => .array .int
  | 2 => .array .int
  | 3 => .array .int
  | 4 => .array .int
  | 5 => .array .int
  | 6 => .array .int
  | 7 => .array .int
  | 8 => .array .int
  | 9 => .array .int
  | 10 => .array .int
  | 11 => .array .int
  | 12 => .array .int
  | 13 => .array .int
  | 14 => .array .int
  | 15 => .array .int
  | 16 => .array .int
  | 17 => .array .int
  | 18 => .array .int
  | 19 => .array .int
  | 20 => .array .int
  | 21 => .array .int
  | 22 => .array .int
  | 23 => .array .int
  | 24 => .int
  | 25 => .int
  | 26 => .array .int
  | 27 => .array .int
  | 28 => .int
  | 29 => .array .int
  | 30 => .array .int
  | 31 => .array .int
  | 32 => .array .int
  | 33 => .int
  | 34 => .array .int
  | 35 => .array .int
  | 36 => .array .boolean
  | 37 => .int
  | 38 => .array .int
  | 39 => .array .long
  | 40 => .array .int
  | 41 => .array .int
  | 42 => .array .int
  | 43 => .array .int
  | 44 => .array .int
  | 45 => .int
  | 46 => .array .int
  | 47 => .int
  | 48 => .array .int
  | _ => .array .boolean
theorem fs_nm12 : ∀ a, a < 50 → ∀ b, b < 50 → a ≠ b → (fs_T12 a).2.1 ≠ (fs_T12 b).2.1 := by decide +kernel
theorem fs_ty12 : ∀ k, k < 50 → parseFieldDescriptor (fs_T12 k).2.2.1 = some (fs_Y12 k) := by decide +kernel
theorem fs_l12 : ∀ k, k < 50 → u_lay fs_R12 fs_T12 k ∈ fs_ws := fun k hk => match k, hk with
  | 0, _ => fs_t6 (List.mem_of_getElem? (i := 2) rfl) rfl
  | 1, _ => fs_t6 (List.mem_of_getElem? (i := 4) rfl) rfl
  | 2, _ => fs_t6 (List.mem_of_getElem? (i := 6) rfl) rfl
  | 3, _ => fs_t6 (List.mem_of_getElem? (i := 8) rfl) rfl
  | 4, _ => fs_t6 (List.mem_of_getElem? (i := 10) rfl) rfl
  | 5, _ => fs_t6 (List.mem_of_getElem? (i := 12) rfl) rfl
  | 6, _ => fs_t6 (List.mem_of_getElem? (i := 14) rfl) rfl
  | 7, _ => fs_t6 (List.mem_of_getElem? (i := 16) rfl) rfl
  | 8, _ => fs_t6 (List.mem_of_getElem? (i := 18) rfl) rfl
  | 9, _ => fs_t6 (List.mem_of_getElem? (i := 20) rfl) rfl
  | 10, _ => fs_t6 (List.mem_of_getElem? (i := 22) rfl) rfl
  | 11, _ => fs_t6 (List.mem_of_getElem? (i := 24) rfl) rfl
  | 12, _ => fs_t6 (List.mem_of_getElem? (i := 26) rfl) rfl
  | 13, _ => fs_t6 (List.mem_of_getElem? (i := 28) rfl) rfl
  | 14, _ => fs_t6 (List.mem_of_getElem? (i := 30) rfl) rfl
  | 15, _ => fs_t6 (List.mem_of_getElem? (i := 32) rfl) rfl
  | 16, _ => fs_t6 (List.mem_of_getElem? (i := 34) rfl) rfl
  | 17, _ => fs_t6 (List.mem_of_getElem? (i := 36) rfl) rfl
  | 18, _ => fs_t6 (List.mem_of_getElem? (i := 38) rfl) rfl
  | 19, _ => fs_t6 (List.mem_of_getElem? (i := 40) rfl) rfl
  | 20, _ => fs_t6 (List.mem_of_getElem? (i := 42) rfl) rfl
  | 21, _ => fs_t6 (List.mem_of_getElem? (i := 44) rfl) rfl
  | 22, _ => fs_t6 (List.mem_of_getElem? (i := 46) rfl) rfl
  | 23, _ => fs_t6 (List.mem_of_getElem? (i := 48) rfl) rfl
  | 24, _ => fs_t6 (List.mem_of_getElem? (i := 50) rfl) rfl
  | 25, _ => fs_t6 (List.mem_of_getElem? (i := 52) rfl) rfl
  | 26, _ => fs_t6 (List.mem_of_getElem? (i := 54) rfl) rfl
  | 27, _ => fs_t6 (List.mem_of_getElem? (i := 56) rfl) rfl
  | 28, _ => fs_t6 (List.mem_of_getElem? (i := 58) rfl) rfl
  | 29, _ => fs_t6 (List.mem_of_getElem? (i := 60) rfl) rfl
  | 30, _ => fs_t6 (List.mem_of_getElem? (i := 62) rfl) rfl
  | 31, _ => fs_t6 (List.mem_of_getElem? (i := 64) rfl) rfl
  | 32, _ => fs_t6 (List.mem_of_getElem? (i := 66) rfl) rfl
  | 33, _ => fs_t6 (List.mem_of_getElem? (i := 68) rfl) rfl
  | 34, _ => fs_t6 (List.mem_of_getElem? (i := 70) rfl) rfl
  | 35, _ => fs_t6 (List.mem_of_getElem? (i := 72) rfl) rfl
  | 36, _ => fs_t6 (List.mem_of_getElem? (i := 74) rfl) rfl
  | 37, _ => fs_t6 (List.mem_of_getElem? (i := 76) rfl) rfl
  | 38, _ => fs_t6 (List.mem_of_getElem? (i := 78) rfl) rfl
  | 39, _ => fs_t6 (List.mem_of_getElem? (i := 80) rfl) rfl
  | 40, _ => fs_t6 (List.mem_of_getElem? (i := 82) rfl) rfl
  | 41, _ => fs_t6 (List.mem_of_getElem? (i := 84) rfl) rfl
  | 42, _ => fs_t6 (List.mem_of_getElem? (i := 86) rfl) rfl
  | 43, _ => fs_t6 (List.mem_of_getElem? (i := 88) rfl) rfl
  | 44, _ => fs_t6 (List.mem_of_getElem? (i := 90) rfl) rfl
  | 45, _ => fs_t6 (List.mem_of_getElem? (i := 92) rfl) rfl
  | 46, _ => fs_t6 (List.mem_of_getElem? (i := 94) rfl) rfl
  | 47, _ => fs_t6 (List.mem_of_getElem? (i := 96) rfl) rfl
  | 48, _ => fs_t6 (List.mem_of_getElem? (i := 98) rfl) rfl
  | 49, _ => fs_t6 (List.mem_of_getElem? (i := 100) rfl) rfl
  | q + 50, h => absurd h (by omega)
theorem fs_in12 : ∀ w ∈ u_ws fs_R12 fs_T12 50, w ∈ fs_ws := fun w h => by
  obtain ⟨k, hk, rfl⟩ := List.mem_map.mp h
  exact fs_l12 k (List.mem_range.mp hk)
def fs_d12 : List Value := [.int 0, .null, .null, .null, .null, .null, .null, .null, .null, .null, .null, .null, .null, .null, .null, .null, .null, .null, .null, .null, .null, .null, .null, .null, .int 0, .int 0, .null, .null, .int 0, .null, .null, .null, .null, .int 0, .null, .null, .null, .int 0, .null, .null, .null, .null, .null, .null, .null, .int 0, .null, .int 0, .null, .null]
theorem fs_dv0 : ∀ j, j < 4 → defaultValue (fs_Y0 j) = vp_V fs_d0 j := fun j hj => match j, hj with
  | 0, _ => rfl
  | 1, _ => rfl
  | 2, _ => rfl
  | 3, _ => rfl
  | q + 4, h => absurd h (by omega)
theorem fs_dv1 : ∀ j, j < 11 → defaultValue (fs_Y1 j) = vp_V fs_d1 j := fun j hj => match j, hj with
  | 0, _ => rfl
  | 1, _ => rfl
  | 2, _ => rfl
  | 3, _ => rfl
  | 4, _ => rfl
  | 5, _ => rfl
  | 6, _ => rfl
  | 7, _ => rfl
  | 8, _ => rfl
  | 9, _ => rfl
  | 10, _ => rfl
  | q + 11, h => absurd h (by omega)
theorem fs_dv2 : ∀ j, j < 3 → defaultValue (fs_Y2 j) = vp_V fs_d2 j := fun j hj => match j, hj with
  | 0, _ => rfl
  | 1, _ => rfl
  | 2, _ => rfl
  | q + 3, h => absurd h (by omega)
theorem fs_dv3 : ∀ j, j < 6 → defaultValue (fs_Y3 j) = vp_V fs_d3 j := fun j hj => match j, hj with
  | 0, _ => rfl
  | 1, _ => rfl
  | 2, _ => rfl
  | 3, _ => rfl
  | 4, _ => rfl
  | 5, _ => rfl
  | q + 6, h => absurd h (by omega)
theorem fs_dv4 : ∀ j, j < 3 → defaultValue (fs_Y4 j) = vp_V fs_d4 j := fun j hj => match j, hj with
  | 0, _ => rfl
  | 1, _ => rfl
  | 2, _ => rfl
  | q + 3, h => absurd h (by omega)
theorem fs_dv5 : ∀ j, j < 5 → defaultValue (fs_Y5 j) = vp_V fs_d5 j := fun j hj => match j, hj with
  | 0, _ => rfl
  | 1, _ => rfl
  | 2, _ => rfl
  | 3, _ => rfl
  | 4, _ => rfl
  | q + 5, h => absurd h (by omega)
theorem fs_dv6 : ∀ j, j < 5 → defaultValue (fs_Y6 j) = vp_V fs_d6 j := fun j hj => match j, hj with
  | 0, _ => rfl
  | 1, _ => rfl
  | 2, _ => rfl
  | 3, _ => rfl
  | 4, _ => rfl
  | q + 5, h => absurd h (by omega)
theorem fs_dv7 : ∀ j, j < 6 → defaultValue (fs_Y7 j) = vp_V fs_d7 j := fun j hj => match j, hj with
  | 0, _ => rfl
  | 1, _ => rfl
  | 2, _ => rfl
  | 3, _ => rfl
  | 4, _ => rfl
  | 5, _ => rfl
  | q + 6, h => absurd h (by omega)
theorem fs_dv8 : ∀ j, j < 9 → defaultValue (fs_Y8 j) = vp_V fs_d8 j := fun j hj => match j, hj with
  | 0, _ => rfl
  | 1, _ => rfl
  | 2, _ => rfl
  | 3, _ => rfl
  | 4, _ => rfl
  | 5, _ => rfl
  | 6, _ => rfl
  | 7, _ => rfl
  | 8, _ => rfl
  | q + 9, h => absurd h (by omega)
theorem fs_dv9 : ∀ j, j < 2 → defaultValue (fs_Y9 j) = vp_V fs_d9 j := fun j hj => match j, hj with
  | 0, _ => rfl
  | 1, _ => rfl
  | q + 2, h => absurd h (by omega)
theorem fs_dv10 : ∀ j, j < 3 → defaultValue (fs_Y10 j) = vp_V fs_d10 j := fun j hj => match j, hj with
  | 0, _ => rfl
  | 1, _ => rfl
  | 2, _ => rfl
  | q + 3, h => absurd h (by omega)
theorem fs_dv11 : ∀ j, j < 2 → defaultValue (fs_Y11 j) = vp_V fs_d11 j := fun j hj => match j, hj with
  | 0, _ => rfl
  | 1, _ => rfl
  | q + 2, h => absurd h (by omega)
theorem fs_dv12 : ∀ j, j < 50 → defaultValue (fs_Y12 j) = vp_V fs_d12 j := fun j hj => match j, hj with
  | 0, _ => rfl
  | 1, _ => rfl
  | 2, _ => rfl
  | 3, _ => rfl
  | 4, _ => rfl
  | 5, _ => rfl
  | 6, _ => rfl
  | 7, _ => rfl
  | 8, _ => rfl
  | 9, _ => rfl
  | 10, _ => rfl
  | 11, _ => rfl
  | 12, _ => rfl
  | 13, _ => rfl
  | 14, _ => rfl
  | 15, _ => rfl
  | 16, _ => rfl
  | 17, _ => rfl
  | 18, _ => rfl
  | 19, _ => rfl
  | 20, _ => rfl
  | 21, _ => rfl
  | 22, _ => rfl
  | 23, _ => rfl
  | 24, _ => rfl
  | 25, _ => rfl
  | 26, _ => rfl
  | 27, _ => rfl
  | 28, _ => rfl
  | 29, _ => rfl
  | 30, _ => rfl
  | 31, _ => rfl
  | 32, _ => rfl
  | 33, _ => rfl
  | 34, _ => rfl
  | 35, _ => rfl
  | 36, _ => rfl
  | 37, _ => rfl
  | 38, _ => rfl
  | 39, _ => rfl
  | 40, _ => rfl
  | 41, _ => rfl
  | 42, _ => rfl
  | 43, _ => rfl
  | 44, _ => rfl
  | 45, _ => rfl
  | 46, _ => rfl
  | 47, _ => rfl
  | 48, _ => rfl
  | 49, _ => rfl
  | q + 50, h => absurd h (by omega)
abbrev fs_cl : List vw_C := [(fs_R0, fs_T0, 4), (fs_R1, fs_T1, 11), (fs_R2, fs_T2, 3), (fs_R3, fs_T3, 6), (fs_R4, fs_T4, 3), (fs_R5, fs_T5, 5), (fs_R6, fs_T6, 5), (fs_R7, fs_T7, 6), (fs_R8, fs_T8, 9), (fs_R9, fs_T9, 2), (fs_R10, fs_T10, 3), (fs_R11, fs_T11, 2), (fs_R12, fs_T12, 50)]
