/-- the tables' words that a callee may use -/
def zTB : List Cond := lw_tbl.filter goodWord
theorem zi_t {w : Cond} (h : w ∈ tables_1) (g : goodWord w = true) : w ∈ zTB := List.mem_filter.mpr ⟨List.mem_append_right _ h, g⟩
theorem zi_s {w : Cond} (h : w ∈ k2_sels lw_privs) (g : goodWord w = true) : w ∈ zTB := List.mem_filter.mpr ⟨List.mem_append_left _ h, g⟩
theorem zi_good : GoodIn zTB zTB := fun w h => ⟨h, good_of_word (List.mem_filter.mp h).2⟩
def zr_Acts : String := "WallsOfBooks$Acts"
def zt_Acts : u_T := fun k => match k with
  | 0 => ("WallsOfBooks$Acts", "kinds", "[I", true)
  | 1 => ("WallsOfBooks$Acts", "parts", "[I", true)
  | 2 => ("WallsOfBooks$Acts", "size", "I", false)
  | 3 => ("WallsOfBooks$Acts", "step", "I", false)
  | _ => ("WallsOfBooks$Acts", "mayGrow", "Z", false)
def zy_Acts : Nat → FieldType := fun k => match k with
  | 0 => .array (.int)
  | 1 => .array (.int)
  | 2 => .int
  | 3 => .int
  | _ => .boolean
theorem zn_Acts : ∀ a, a < 5 → ∀ b, b < 5 → a ≠ b → (zt_Acts a).2.1 ≠ (zt_Acts b).2.1 := by decide +kernel
theorem zy_Acts_ok : ∀ k, k < 5 → parseFieldDescriptor (zt_Acts k).2.2.1 = some (zy_Acts k) := by decide +kernel
theorem zu_Acts : ∀ w ∈ u_ws zr_Acts zt_Acts 5, w ∈ zTB := by
  intro w h
  obtain ⟨k, hk, rfl⟩ := List.mem_map.mp h
  have hk := List.mem_range.mp hk
  match k, hk with
  | 0, _ => exact zi_t (List.mem_of_getElem? (i := 163) (by decide +kernel)) (by decide +kernel)
  | 1, _ => exact zi_t (List.mem_of_getElem? (i := 165) (by decide +kernel)) (by decide +kernel)
  | 2, _ => exact zi_t (List.mem_of_getElem? (i := 167) (by decide +kernel)) (by decide +kernel)
  | 3, _ => exact zi_t (List.mem_of_getElem? (i := 169) (by decide +kernel)) (by decide +kernel)
  | 4, _ => exact zi_t (List.mem_of_getElem? (i := 171) (by decide +kernel)) (by decide +kernel)
  | k + 5, h => exact absurd h (by omega)
def zr_City : String := "WallsOfBooks$City"
def zt_City : u_T := fun k => match k with
  | 0 => ("WallsOfBooks$City", "books", "I", false)
  | 1 => ("WallsOfBooks$City", "thick", "[I", true)
  | 2 => ("WallsOfBooks$City", "weight", "[I", true)
  | 3 => ("WallsOfBooks$City", "where", "[I", true)
  | 4 => ("WallsOfBooks$City", "holder", "[I", true)
  | 5 => ("WallsOfBooks$City", "due", "[I", true)
  | 6 => ("WallsOfBooks$City", "columns", "I", false)
  | 7 => ("WallsOfBooks$City", "many", "[I", true)
  | 8 => ("WallsOfBooks$City", "pile", "[I", true)
  | 9 => ("WallsOfBooks$City", "readers", "I", false)
  | 10 => ("WallsOfBooks$City", "late", "[I", true)
  | 11 => ("WallsOfBooks$City", "fines", "[I", true)
  | 12 => ("WallsOfBooks$City", "day", "I", false)
  | 13 => ("WallsOfBooks$City", "broken", "I", false)
  | 14 => ("WallsOfBooks$City", "cameBack", "I", false)
  | _ => ("WallsOfBooks$City", "paid", "I", false)
def zy_City : Nat → FieldType := fun k => match k with
  | 0 => .int
  | 1 => .array (.int)
  | 2 => .array (.int)
  | 3 => .array (.int)
  | 4 => .array (.int)
  | 5 => .array (.int)
  | 6 => .int
  | 7 => .array (.int)
  | 8 => .array (.int)
  | 9 => .int
  | 10 => .array (.int)
  | 11 => .array (.int)
  | 12 => .int
  | 13 => .int
  | 14 => .int
  | _ => .int
theorem zn_City : ∀ a, a < 16 → ∀ b, b < 16 → a ≠ b → (zt_City a).2.1 ≠ (zt_City b).2.1 := by decide +kernel
theorem zy_City_ok : ∀ k, k < 16 → parseFieldDescriptor (zt_City k).2.2.1 = some (zy_City k) := by decide +kernel
theorem zu_City : ∀ w ∈ u_ws zr_City zt_City 16, w ∈ zTB := by
  intro w h
  obtain ⟨k, hk, rfl⟩ := List.mem_map.mp h
  have hk := List.mem_range.mp hk
  match k, hk with
  | 0, _ => exact zi_t (List.mem_of_getElem? (i := 75) (by decide +kernel)) (by decide +kernel)
  | 1, _ => exact zi_t (List.mem_of_getElem? (i := 77) (by decide +kernel)) (by decide +kernel)
  | 2, _ => exact zi_t (List.mem_of_getElem? (i := 79) (by decide +kernel)) (by decide +kernel)
  | 3, _ => exact zi_t (List.mem_of_getElem? (i := 81) (by decide +kernel)) (by decide +kernel)
  | 4, _ => exact zi_t (List.mem_of_getElem? (i := 83) (by decide +kernel)) (by decide +kernel)
  | 5, _ => exact zi_t (List.mem_of_getElem? (i := 85) (by decide +kernel)) (by decide +kernel)
  | 6, _ => exact zi_t (List.mem_of_getElem? (i := 87) (by decide +kernel)) (by decide +kernel)
  | 7, _ => exact zi_t (List.mem_of_getElem? (i := 89) (by decide +kernel)) (by decide +kernel)
  | 8, _ => exact zi_t (List.mem_of_getElem? (i := 91) (by decide +kernel)) (by decide +kernel)
  | 9, _ => exact zi_t (List.mem_of_getElem? (i := 93) (by decide +kernel)) (by decide +kernel)
  | 10, _ => exact zi_t (List.mem_of_getElem? (i := 95) (by decide +kernel)) (by decide +kernel)
  | 11, _ => exact zi_t (List.mem_of_getElem? (i := 97) (by decide +kernel)) (by decide +kernel)
  | 12, _ => exact zi_t (List.mem_of_getElem? (i := 99) (by decide +kernel)) (by decide +kernel)
  | 13, _ => exact zi_t (List.mem_of_getElem? (i := 101) (by decide +kernel)) (by decide +kernel)
  | 14, _ => exact zi_t (List.mem_of_getElem? (i := 103) (by decide +kernel)) (by decide +kernel)
  | 15, _ => exact zi_t (List.mem_of_getElem? (i := 105) (by decide +kernel)) (by decide +kernel)
  | k + 16, h => exact absurd h (by omega)
def zr_Duel : String := "WallsOfBooks$Duel"
def zt_Duel : u_T := fun k => match k with
  | _ => ("WallsOfBooks$Duel", "first", "I", false)
def zy_Duel : Nat → FieldType := fun k => match k with
  | _ => .int
theorem zn_Duel : ∀ a, a < 1 → ∀ b, b < 1 → a ≠ b → (zt_Duel a).2.1 ≠ (zt_Duel b).2.1 := by decide +kernel
theorem zy_Duel_ok : ∀ k, k < 1 → parseFieldDescriptor (zt_Duel k).2.2.1 = some (zy_Duel k) := by decide +kernel
theorem zu_Duel : ∀ w ∈ u_ws zr_Duel zt_Duel 1, w ∈ zTB := by
  intro w h
  obtain ⟨k, hk, rfl⟩ := List.mem_map.mp h
  have hk := List.mem_range.mp hk
  match k, hk with
  | 0, _ => exact zi_t (List.mem_of_getElem? (i := 228) (by decide +kernel)) (by decide +kernel)
  | k + 1, h => exact absurd h (by omega)
def zr_History : String := "WallsOfBooks$History"
def zt_History : u_T := fun k => match k with
  | 0 => ("WallsOfBooks$History", "pages", "[[I", true)
  | 1 => ("WallsOfBooks$History", "next", "I", false)
  | _ => ("WallsOfBooks$History", "left", "I", false)
def zy_History : Nat → FieldType := fun k => match k with
  | 0 => .array (.array (.int))
  | 1 => .int
  | _ => .int
theorem zn_History : ∀ a, a < 3 → ∀ b, b < 3 → a ≠ b → (zt_History a).2.1 ≠ (zt_History b).2.1 := by decide +kernel
theorem zy_History_ok : ∀ k, k < 3 → parseFieldDescriptor (zt_History k).2.2.1 = some (zy_History k) := by decide +kernel
theorem zu_History : ∀ w ∈ u_ws zr_History zt_History 3, w ∈ zTB := by
  intro w h
  obtain ⟨k, hk, rfl⟩ := List.mem_map.mp h
  have hk := List.mem_range.mp hk
  match k, hk with
  | 0, _ => exact zi_t (List.mem_of_getElem? (i := 186) (by decide +kernel)) (by decide +kernel)
  | 1, _ => exact zi_t (List.mem_of_getElem? (i := 188) (by decide +kernel)) (by decide +kernel)
  | 2, _ => exact zi_t (List.mem_of_getElem? (i := 190) (by decide +kernel)) (by decide +kernel)
  | k + 3, h => exact absurd h (by omega)
def zr_Mason : String := "WallsOfBooks$Mason"
def zt_Mason : u_T := fun k => match k with
  | 0 => ("WallsOfBooks$Mason", "steps", "[I", true)
  | 1 => ("WallsOfBooks$Mason", "stock", "[I", true)
  | 2 => ("WallsOfBooks$Mason", "stocked", "I", false)
  | 3 => ("WallsOfBooks$Mason", "wanted", "I", false)
  | 4 => ("WallsOfBooks$Mason", "thickest", "I", false)
  | _ => ("WallsOfBooks$Mason", "mostThick", "[I", true)
def zy_Mason : Nat → FieldType := fun k => match k with
  | 0 => .array (.int)
  | 1 => .array (.int)
  | 2 => .int
  | 3 => .int
  | 4 => .int
  | _ => .array (.int)
theorem zn_Mason : ∀ a, a < 6 → ∀ b, b < 6 → a ≠ b → (zt_Mason a).2.1 ≠ (zt_Mason b).2.1 := by decide +kernel
theorem zy_Mason_ok : ∀ k, k < 6 → parseFieldDescriptor (zt_Mason k).2.2.1 = some (zy_Mason k) := by decide +kernel
theorem zu_Mason : ∀ w ∈ u_ws zr_Mason zt_Mason 6, w ∈ zTB := by
  intro w h
  obtain ⟨k, hk, rfl⟩ := List.mem_map.mp h
  have hk := List.mem_range.mp hk
  match k, hk with
  | 0, _ => exact zi_t (List.mem_of_getElem? (i := 207) (by decide +kernel)) (by decide +kernel)
  | 1, _ => exact zi_t (List.mem_of_getElem? (i := 209) (by decide +kernel)) (by decide +kernel)
  | 2, _ => exact zi_t (List.mem_of_getElem? (i := 211) (by decide +kernel)) (by decide +kernel)
  | 3, _ => exact zi_t (List.mem_of_getElem? (i := 213) (by decide +kernel)) (by decide +kernel)
  | 4, _ => exact zi_t (List.mem_of_getElem? (i := 215) (by decide +kernel)) (by decide +kernel)
  | 5, _ => exact zi_t (List.mem_of_getElem? (i := 217) (by decide +kernel)) (by decide +kernel)
  | k + 6, h => exact absurd h (by omega)
def zr_Orders : String := "WallsOfBooks$Orders"
def zt_Orders : u_T := fun k => match k with
  | 0 => ("WallsOfBooks$Orders", "least", "[I", true)
  | _ => ("WallsOfBooks$Orders", "holding", "I", false)
def zy_Orders : Nat → FieldType := fun k => match k with
  | 0 => .array (.int)
  | _ => .int
theorem zn_Orders : ∀ a, a < 2 → ∀ b, b < 2 → a ≠ b → (zt_Orders a).2.1 ≠ (zt_Orders b).2.1 := by decide +kernel
theorem zy_Orders_ok : ∀ k, k < 2 → parseFieldDescriptor (zt_Orders k).2.2.1 = some (zy_Orders k) := by decide +kernel
theorem zu_Orders : ∀ w ∈ u_ws zr_Orders zt_Orders 2, w ∈ zTB := by
  intro w h
  obtain ⟨k, hk, rfl⟩ := List.mem_map.mp h
  have hk := List.mem_range.mp hk
  match k, hk with
  | 0, _ => exact zi_t (List.mem_of_getElem? (i := 240) (by decide +kernel)) (by decide +kernel)
  | 1, _ => exact zi_t (List.mem_of_getElem? (i := 242) (by decide +kernel)) (by decide +kernel)
  | k + 2, h => exact absurd h (by omega)
def zr_Rule : String := "WallsOfBooks$Rule"
def zt_Rule : u_T := fun k => match k with
  | 0 => ("WallsOfBooks$Rule", "code", "[I", true)
  | 1 => ("WallsOfBooks$Rule", "size", "I", false)
  | 2 => ("WallsOfBooks$Rule", "worths", "[I", true)
  | 3 => ("WallsOfBooks$Rule", "waiting", "[I", true)
  | 4 => ("WallsOfBooks$Rule", "waits", "I", false)
  | 5 => ("WallsOfBooks$Rule", "compared", "[Z", true)
  | 6 => ("WallsOfBooks$Rule", "depth", "I", false)
  | 7 => ("WallsOfBooks$Rule", "digits", "I", false)
  | _ => ("WallsOfBooks$Rule", "wantsThing", "Z", false)
def zy_Rule : Nat → FieldType := fun k => match k with
  | 0 => .array (.int)
  | 1 => .int
  | 2 => .array (.int)
  | 3 => .array (.int)
  | 4 => .int
  | 5 => .array (.boolean)
  | 6 => .int
  | 7 => .int
  | _ => .boolean
theorem zn_Rule : ∀ a, a < 9 → ∀ b, b < 9 → a ≠ b → (zt_Rule a).2.1 ≠ (zt_Rule b).2.1 := by decide +kernel
theorem zy_Rule_ok : ∀ k, k < 9 → parseFieldDescriptor (zt_Rule k).2.2.1 = some (zy_Rule k) := by decide +kernel
theorem zu_Rule : ∀ w ∈ u_ws zr_Rule zt_Rule 9, w ∈ zTB := by
  intro w h
  obtain ⟨k, hk, rfl⟩ := List.mem_map.mp h
  have hk := List.mem_range.mp hk
  match k, hk with
  | 0, _ => exact zi_t (List.mem_of_getElem? (i := 129) (by decide +kernel)) (by decide +kernel)
  | 1, _ => exact zi_t (List.mem_of_getElem? (i := 131) (by decide +kernel)) (by decide +kernel)
  | 2, _ => exact zi_t (List.mem_of_getElem? (i := 133) (by decide +kernel)) (by decide +kernel)
  | 3, _ => exact zi_t (List.mem_of_getElem? (i := 135) (by decide +kernel)) (by decide +kernel)
  | 4, _ => exact zi_t (List.mem_of_getElem? (i := 137) (by decide +kernel)) (by decide +kernel)
  | 5, _ => exact zi_t (List.mem_of_getElem? (i := 139) (by decide +kernel)) (by decide +kernel)
  | 6, _ => exact zi_t (List.mem_of_getElem? (i := 141) (by decide +kernel)) (by decide +kernel)
  | 7, _ => exact zi_t (List.mem_of_getElem? (i := 143) (by decide +kernel)) (by decide +kernel)
  | 8, _ => exact zi_t (List.mem_of_getElem? (i := 145) (by decide +kernel)) (by decide +kernel)
  | k + 9, h => exact absurd h (by omega)
def zr_Walls : String := "WallsOfBooks"
def zt_Walls : u_T := fun k => match k with
  | 0 => ("WallsOfBooks", "signs", "[C", true)
  | 1 => ("WallsOfBooks", "length", "I", false)
  | 2 => ("WallsOfBooks", "told", "[I", true)
  | 3 => ("WallsOfBooks", "toldMany", "I", false)
  | 4 => ("WallsOfBooks", "now", "LWallsOfBooks$City;", true)
  | 5 => ("WallsOfBooks", "trial", "LWallsOfBooks$City;", true)
  | 6 => ("WallsOfBooks", "inForce", "LWallsOfBooks$Rule;", false)
  | 7 => ("WallsOfBooks", "another", "LWallsOfBooks$Rule;", false)
  | 8 => ("WallsOfBooks", "acts", "LWallsOfBooks$Acts;", true)
  | 9 => ("WallsOfBooks", "history", "LWallsOfBooks$History;", true)
  | 10 => ("WallsOfBooks", "kept", "[[I", true)
  | 11 => ("WallsOfBooks", "isKept", "[Z", true)
  | 12 => ("WallsOfBooks", "seenHeight", "[I", true)
  | 13 => ("WallsOfBooks", "mason", "LWallsOfBooks$Mason;", true)
  | 14 => ("WallsOfBooks", "duel", "LWallsOfBooks$Duel;", true)
  | _ => ("WallsOfBooks", "orders", "LWallsOfBooks$Orders;", true)
def zy_Walls : Nat → FieldType := fun k => match k with
  | 0 => .array (.char)
  | 1 => .int
  | 2 => .array (.int)
  | 3 => .int
  | 4 => .object "WallsOfBooks$City"
  | 5 => .object "WallsOfBooks$City"
  | 6 => .object "WallsOfBooks$Rule"
  | 7 => .object "WallsOfBooks$Rule"
  | 8 => .object "WallsOfBooks$Acts"
  | 9 => .object "WallsOfBooks$History"
  | 10 => .array (.array (.int))
  | 11 => .array (.boolean)
  | 12 => .array (.int)
  | 13 => .object "WallsOfBooks$Mason"
  | 14 => .object "WallsOfBooks$Duel"
  | _ => .object "WallsOfBooks$Orders"
theorem zn_Walls : ∀ a, a < 16 → ∀ b, b < 16 → a ≠ b → (zt_Walls a).2.1 ≠ (zt_Walls b).2.1 := by decide +kernel
theorem zy_Walls_ok : ∀ k, k < 16 → parseFieldDescriptor (zt_Walls k).2.2.1 = some (zy_Walls k) := by decide +kernel
theorem zu_Walls : ∀ w ∈ u_ws zr_Walls zt_Walls 16, w ∈ zTB := by
  intro w h
  obtain ⟨k, hk, rfl⟩ := List.mem_map.mp h
  have hk := List.mem_range.mp hk
  match k, hk with
  | 0, _ => exact zi_t (List.mem_of_getElem? (i := 261) (by decide +kernel)) (by decide +kernel)
  | 1, _ => exact zi_t (List.mem_of_getElem? (i := 263) (by decide +kernel)) (by decide +kernel)
  | 2, _ => exact zi_t (List.mem_of_getElem? (i := 265) (by decide +kernel)) (by decide +kernel)
  | 3, _ => exact zi_t (List.mem_of_getElem? (i := 267) (by decide +kernel)) (by decide +kernel)
  | 4, _ => exact zi_t (List.mem_of_getElem? (i := 269) (by decide +kernel)) (by decide +kernel)
  | 5, _ => exact zi_t (List.mem_of_getElem? (i := 271) (by decide +kernel)) (by decide +kernel)
  | 6, _ => exact zi_t (List.mem_of_getElem? (i := 273) (by decide +kernel)) (by decide +kernel)
  | 7, _ => exact zi_t (List.mem_of_getElem? (i := 275) (by decide +kernel)) (by decide +kernel)
  | 8, _ => exact zi_t (List.mem_of_getElem? (i := 277) (by decide +kernel)) (by decide +kernel)
  | 9, _ => exact zi_t (List.mem_of_getElem? (i := 279) (by decide +kernel)) (by decide +kernel)
  | 10, _ => exact zi_t (List.mem_of_getElem? (i := 281) (by decide +kernel)) (by decide +kernel)
  | 11, _ => exact zi_t (List.mem_of_getElem? (i := 283) (by decide +kernel)) (by decide +kernel)
  | 12, _ => exact zi_t (List.mem_of_getElem? (i := 285) (by decide +kernel)) (by decide +kernel)
  | 13, _ => exact zi_t (List.mem_of_getElem? (i := 287) (by decide +kernel)) (by decide +kernel)
  | 14, _ => exact zi_t (List.mem_of_getElem? (i := 289) (by decide +kernel)) (by decide +kernel)
  | 15, _ => exact zi_t (List.mem_of_getElem? (i := 291) (by decide +kernel)) (by decide +kernel)
  | k + 16, h => exact absurd h (by omega)
def zr_Model : String := "WallsOfBooksModel"
def zt_Model : u_T := fun k => match k with
  | 0 => ("WallsOfBooksModel", "now", "[I", true)
  | 1 => ("WallsOfBooksModel", "books", "I", false)
  | 2 => ("WallsOfBooksModel", "thick", "[I", true)
  | 3 => ("WallsOfBooksModel", "weight", "[I", true)
  | 4 => ("WallsOfBooksModel", "columns", "I", false)
  | 5 => ("WallsOfBooksModel", "readers", "I", false)
  | 6 => ("WallsOfBooksModel", "late", "[I", true)
  | 7 => ("WallsOfBooksModel", "text", "[B", true)
  | 8 => ("WallsOfBooksModel", "typed", "I", false)
  | 9 => ("WallsOfBooksModel", "row", "[I", true)
  | 10 => ("WallsOfBooksModel", "rowMany", "I", false)
  | 11 => ("WallsOfBooksModel", "thrown", "I", false)
  | 12 => ("WallsOfBooksModel", "read", "[B", false)
  | 13 => ("WallsOfBooksModel", "length", "I", false)
  | 14 => ("WallsOfBooksModel", "top", "I", false)
  | 15 => ("WallsOfBooksModel", "at", "I", false)
  | 16 => ("WallsOfBooksModel", "wrong", "I", false)
  | 17 => ("WallsOfBooksModel", "comes", "[I", true)
  | 18 => ("WallsOfBooksModel", "newColumn", "[I", true)
  | 19 => ("WallsOfBooksModel", "newPlace", "[I", true)
  | 20 => ("WallsOfBooksModel", "rule", "[B", false)
  | 21 => ("WallsOfBooksModel", "otherRule", "[B", false)
  | 22 => ("WallsOfBooksModel", "ruleSize", "I", false)
  | 23 => ("WallsOfBooksModel", "isAsked", "Z", false)
  | 24 => ("WallsOfBooksModel", "asked", "[I", true)
  | 25 => ("WallsOfBooksModel", "pile", "[I", true)
  | 26 => ("WallsOfBooksModel", "undos", "[I", true)
  | 27 => ("WallsOfBooksModel", "undoMany", "I", false)
  | 28 => ("WallsOfBooksModel", "aside", "[I", true)
  | 29 => ("WallsOfBooksModel", "then", "[I", true)
  | 30 => ("WallsOfBooksModel", "cameBack", "I", false)
  | 31 => ("WallsOfBooksModel", "fined", "I", false)
  | 32 => ("WallsOfBooksModel", "acts", "[I", true)
  | 33 => ("WallsOfBooksModel", "line", "[I", true)
  | 34 => ("WallsOfBooksModel", "bestLine", "[I", true)
  | 35 => ("WallsOfBooksModel", "bestMany", "I", false)
  | 36 => ("WallsOfBooksModel", "bestLeast", "I", false)
  | 37 => ("WallsOfBooksModel", "firstPile", "[I", true)
  | 38 => ("WallsOfBooksModel", "orders", "I", false)
  | 39 => ("WallsOfBooksModel", "taken", "I", false)
  | 40 => ("WallsOfBooksModel", "seenAt", "[I", true)
  | 41 => ("WallsOfBooksModel", "seenBits", "I", false)
  | 42 => ("WallsOfBooksModel", "isShown", "[Z", true)
  | 43 => ("WallsOfBooksModel", "drawn", "I", false)
  | 44 => ("WallsOfBooksModel", "came", "I", false)
  | 45 => ("WallsOfBooksModel", "kept", "[I", true)
  | 46 => ("WallsOfBooksModel", "isKept", "[Z", true)
  | _ => ("WallsOfBooksModel", "keptCame", "[I", true)
def zy_Model : Nat → FieldType := fun k => match k with
  | 0 => .array (.int)
  | 1 => .int
  | 2 => .array (.int)
  | 3 => .array (.int)
  | 4 => .int
  | 5 => .int
  | 6 => .array (.int)
  | 7 => .array (.byte)
  | 8 => .int
  | 9 => .array (.int)
  | 10 => .int
  | 11 => .int
  | 12 => .array (.byte)
  | 13 => .int
  | 14 => .int
  | 15 => .int
  | 16 => .int
  | 17 => .array (.int)
  | 18 => .array (.int)
  | 19 => .array (.int)
  | 20 => .array (.byte)
  | 21 => .array (.byte)
  | 22 => .int
  | 23 => .boolean
  | 24 => .array (.int)
  | 25 => .array (.int)
  | 26 => .array (.int)
  | 27 => .int
  | 28 => .array (.int)
  | 29 => .array (.int)
  | 30 => .int
  | 31 => .int
  | 32 => .array (.int)
  | 33 => .array (.int)
  | 34 => .array (.int)
  | 35 => .int
  | 36 => .int
  | 37 => .array (.int)
  | 38 => .int
  | 39 => .int
  | 40 => .array (.int)
  | 41 => .int
  | 42 => .array (.boolean)
  | 43 => .int
  | 44 => .int
  | 45 => .array (.int)
  | 46 => .array (.boolean)
  | _ => .array (.int)
theorem zn_Model : ∀ a, a < 48 → ∀ b, b < 48 → a ≠ b → (zt_Model a).2.1 ≠ (zt_Model b).2.1 := by decide +kernel
theorem zy_Model_ok : ∀ k, k < 48 → parseFieldDescriptor (zt_Model k).2.2.1 = some (zy_Model k) := by decide +kernel
theorem zu_Model : ∀ w ∈ u_ws zr_Model zt_Model 48, w ∈ zTB := by
  intro w h
  obtain ⟨k, hk, rfl⟩ := List.mem_map.mp h
  have hk := List.mem_range.mp hk
  match k, hk with
  | 0, _ => exact zi_t (List.mem_of_getElem? (i := 1036) (by decide +kernel)) (by decide +kernel)
  | 1, _ => exact zi_t (List.mem_of_getElem? (i := 1038) (by decide +kernel)) (by decide +kernel)
  | 2, _ => exact zi_t (List.mem_of_getElem? (i := 1040) (by decide +kernel)) (by decide +kernel)
  | 3, _ => exact zi_t (List.mem_of_getElem? (i := 1042) (by decide +kernel)) (by decide +kernel)
  | 4, _ => exact zi_t (List.mem_of_getElem? (i := 1044) (by decide +kernel)) (by decide +kernel)
  | 5, _ => exact zi_t (List.mem_of_getElem? (i := 1046) (by decide +kernel)) (by decide +kernel)
  | 6, _ => exact zi_t (List.mem_of_getElem? (i := 1048) (by decide +kernel)) (by decide +kernel)
  | 7, _ => exact zi_t (List.mem_of_getElem? (i := 1050) (by decide +kernel)) (by decide +kernel)
  | 8, _ => exact zi_t (List.mem_of_getElem? (i := 1052) (by decide +kernel)) (by decide +kernel)
  | 9, _ => exact zi_t (List.mem_of_getElem? (i := 1054) (by decide +kernel)) (by decide +kernel)
  | 10, _ => exact zi_t (List.mem_of_getElem? (i := 1056) (by decide +kernel)) (by decide +kernel)
  | 11, _ => exact zi_t (List.mem_of_getElem? (i := 1058) (by decide +kernel)) (by decide +kernel)
  | 12, _ => exact zi_t (List.mem_of_getElem? (i := 1060) (by decide +kernel)) (by decide +kernel)
  | 13, _ => exact zi_t (List.mem_of_getElem? (i := 1062) (by decide +kernel)) (by decide +kernel)
  | 14, _ => exact zi_t (List.mem_of_getElem? (i := 1064) (by decide +kernel)) (by decide +kernel)
  | 15, _ => exact zi_t (List.mem_of_getElem? (i := 1066) (by decide +kernel)) (by decide +kernel)
  | 16, _ => exact zi_t (List.mem_of_getElem? (i := 1068) (by decide +kernel)) (by decide +kernel)
  | 17, _ => exact zi_t (List.mem_of_getElem? (i := 1070) (by decide +kernel)) (by decide +kernel)
  | 18, _ => exact zi_t (List.mem_of_getElem? (i := 1072) (by decide +kernel)) (by decide +kernel)
  | 19, _ => exact zi_t (List.mem_of_getElem? (i := 1074) (by decide +kernel)) (by decide +kernel)
  | 20, _ => exact zi_t (List.mem_of_getElem? (i := 1076) (by decide +kernel)) (by decide +kernel)
  | 21, _ => exact zi_t (List.mem_of_getElem? (i := 1078) (by decide +kernel)) (by decide +kernel)
  | 22, _ => exact zi_t (List.mem_of_getElem? (i := 1080) (by decide +kernel)) (by decide +kernel)
  | 23, _ => exact zi_t (List.mem_of_getElem? (i := 1082) (by decide +kernel)) (by decide +kernel)
  | 24, _ => exact zi_t (List.mem_of_getElem? (i := 1084) (by decide +kernel)) (by decide +kernel)
  | 25, _ => exact zi_t (List.mem_of_getElem? (i := 1086) (by decide +kernel)) (by decide +kernel)
  | 26, _ => exact zi_t (List.mem_of_getElem? (i := 1088) (by decide +kernel)) (by decide +kernel)
  | 27, _ => exact zi_t (List.mem_of_getElem? (i := 1090) (by decide +kernel)) (by decide +kernel)
  | 28, _ => exact zi_t (List.mem_of_getElem? (i := 1092) (by decide +kernel)) (by decide +kernel)
  | 29, _ => exact zi_t (List.mem_of_getElem? (i := 1094) (by decide +kernel)) (by decide +kernel)
  | 30, _ => exact zi_t (List.mem_of_getElem? (i := 1096) (by decide +kernel)) (by decide +kernel)
  | 31, _ => exact zi_t (List.mem_of_getElem? (i := 1098) (by decide +kernel)) (by decide +kernel)
  | 32, _ => exact zi_t (List.mem_of_getElem? (i := 1100) (by decide +kernel)) (by decide +kernel)
  | 33, _ => exact zi_t (List.mem_of_getElem? (i := 1102) (by decide +kernel)) (by decide +kernel)
  | 34, _ => exact zi_t (List.mem_of_getElem? (i := 1104) (by decide +kernel)) (by decide +kernel)
  | 35, _ => exact zi_t (List.mem_of_getElem? (i := 1106) (by decide +kernel)) (by decide +kernel)
  | 36, _ => exact zi_t (List.mem_of_getElem? (i := 1108) (by decide +kernel)) (by decide +kernel)
  | 37, _ => exact zi_t (List.mem_of_getElem? (i := 1110) (by decide +kernel)) (by decide +kernel)
  | 38, _ => exact zi_t (List.mem_of_getElem? (i := 1112) (by decide +kernel)) (by decide +kernel)
  | 39, _ => exact zi_t (List.mem_of_getElem? (i := 1114) (by decide +kernel)) (by decide +kernel)
  | 40, _ => exact zi_t (List.mem_of_getElem? (i := 1116) (by decide +kernel)) (by decide +kernel)
  | 41, _ => exact zi_t (List.mem_of_getElem? (i := 1118) (by decide +kernel)) (by decide +kernel)
  | 42, _ => exact zi_t (List.mem_of_getElem? (i := 1120) (by decide +kernel)) (by decide +kernel)
  | 43, _ => exact zi_t (List.mem_of_getElem? (i := 1122) (by decide +kernel)) (by decide +kernel)
  | 44, _ => exact zi_t (List.mem_of_getElem? (i := 1124) (by decide +kernel)) (by decide +kernel)
  | 45, _ => exact zi_t (List.mem_of_getElem? (i := 1126) (by decide +kernel)) (by decide +kernel)
  | 46, _ => exact zi_t (List.mem_of_getElem? (i := 1128) (by decide +kernel)) (by decide +kernel)
  | 47, _ => exact zi_t (List.mem_of_getElem? (i := 1130) (by decide +kernel)) (by decide +kernel)
  | k + 48, h => exact absurd h (by omega)
def zC : List vw_C := [(zr_Acts, zt_Acts, 5), (zr_City, zt_City, 16), (zr_Duel, zt_Duel, 1), (zr_History, zt_History, 3), (zr_Mason, zt_Mason, 6), (zr_Orders, zt_Orders, 2), (zr_Rule, zt_Rule, 9), (zr_Walls, zt_Walls, 16), (zr_Model, zt_Model, 48)]
abbrev zM : Type := MethodName × ByteArray × Nat × Option FieldType
def zm_Walls_init : zM := (⟨zr_Walls, "<init>", "()V"⟩, prog_1_method_1_code, 1, none)
def zm_Walls_again : zM := (⟨zr_Walls, "again", "(I)Z"⟩, prog_1_method_38_code, 2, some .boolean)
def zm_Walls_badSignOfBooks : zM := (⟨zr_Walls, "badSignOfBooks", "(I)I"⟩, prog_1_method_52_code, 3, some .int)
def zm_Walls_badSignOfReaders : zM := (⟨zr_Walls, "badSignOfReaders", "(I)I"⟩, prog_1_method_54_code, 3, some .int)
def zm_Walls_badSignOfWall : zM := (⟨zr_Walls, "badSignOfWall", "(I)I"⟩, prog_1_method_56_code, 5, some .int)
def zm_Walls_between : zM := (⟨zr_Walls, "between", "(III)I"⟩, prog_1_method_43_code, 3, some .int)
def zm_Walls_book : zM := (⟨zr_Walls, "book", "(II)I"⟩, prog_1_method_8_code, 3, some .int)
def zm_Walls_books : zM := (⟨zr_Walls, "books", "()I"⟩, prog_1_method_4_code, 4, some .int)
def zm_Walls_build : zM := (⟨zr_Walls, "build", "(I)I"⟩, prog_1_method_25_code, 2, some .int)
def zm_Walls_calls : zM := (⟨zr_Walls, "calls", "(I)I"⟩, prog_1_method_27_code, 2, some .int)
def zm_Walls_canStandInBooks : zM := (⟨zr_Walls, "canStandInBooks", "(IC)Z"⟩, prog_1_method_53_code, 3, some .boolean)
def zm_Walls_canStandInReaders : zM := (⟨zr_Walls, "canStandInReaders", "(IC)Z"⟩, prog_1_method_55_code, 3, some .boolean)
def zm_Walls_canStandInWall : zM := (⟨zr_Walls, "canStandInWall", "(CZZ)Z"⟩, prog_1_method_57_code, 6, some .boolean)
def zm_Walls_column : zM := (⟨zr_Walls, "column", "(II)I"⟩, prog_1_method_9_code, 3, some .int)
def zm_Walls_columnsThatHold : zM := (⟨zr_Walls, "columnsThatHold", "(LWallsOfBooks$City;LWallsOfBooks$Rule;)I"⟩, prog_1_method_45_code, 4, some .int)
def zm_Walls_count : zM := (⟨zr_Walls, "count", "(I)I"⟩, prog_1_method_39_code, 2, some .int)
def zm_Walls_days : zM := (⟨zr_Walls, "days", "(I)I"⟩, prog_1_method_16_code, 3, some .int)
def zm_Walls_drawn : zM := (⟨zr_Walls, "drawn", "(II)I"⟩, prog_1_method_67_code, 2, some .int)
def zm_Walls_end : zM := (⟨zr_Walls, "end", "(I)Z"⟩, prog_1_method_3_code, 2, some .boolean)
def zm_Walls_entryOf : zM := (⟨zr_Walls, "entryOf", "(II)I"⟩, prog_1_method_44_code, 2, some .int)
def zm_Walls_forget : zM := (⟨zr_Walls, "forget", "()I"⟩, prog_1_method_32_code, 2, some .int)
def zm_Walls_forgetPast : zM := (⟨zr_Walls, "forgetPast", "()V"⟩, prog_1_method_50_code, 1, none)
def zm_Walls_gain : zM := (⟨zr_Walls, "gain", "(IIII)I"⟩, prog_1_method_64_code, 5, some .int)
def zm_Walls_heightsShown : zM := (⟨zr_Walls, "heightsShown", "(I)I"⟩, prog_1_method_63_code, 5, some .int)
def zm_Walls_home : zM := (⟨zr_Walls, "home", "()I"⟩, prog_1_method_22_code, 5, some .int)
def zm_Walls_isBestAgainst : zM := (⟨zr_Walls, "isBestAgainst", "(IIII)Z"⟩, prog_1_method_65_code, 6, some .boolean)
def zm_Walls_isDigit : zM := (⟨zr_Walls, "isDigit", "(C)Z"⟩, prog_1_method_41_code, 1, some .boolean)
def zm_Walls_isHeight : zM := (⟨zr_Walls, "isHeight", "(I)Z"⟩, prog_1_method_42_code, 1, some .boolean)
def zm_Walls_keep : zM := (⟨zr_Walls, "keep", "(I)Z"⟩, prog_1_method_37_code, 2, some .boolean)
def zm_Walls_keepIfDone : zM := (⟨zr_Walls, "keepIfDone", "(I)I"⟩, prog_1_method_51_code, 2, some .int)
def zm_Walls_law : zM := (⟨zr_Walls, "law", "()I"⟩, prog_1_method_30_code, 5, some .int)
def zm_Walls_lay : zM := (⟨zr_Walls, "lay", "(II)I"⟩, prog_1_method_12_code, 3, some .int)
def zm_Walls_lend : zM := (⟨zr_Walls, "lend", "(III)I"⟩, prog_1_method_13_code, 4, some .int)
def zm_Walls_look : zM := (⟨zr_Walls, "look", "()I"⟩, prog_1_method_34_code, 5, some .int)
def zm_Walls_low : zM := (⟨zr_Walls, "low", "(I)I"⟩, prog_1_method_19_code, 6, some .int)
def zm_Walls_mostSpared : zM := (⟨zr_Walls, "mostSpared", "(II)I"⟩, prog_1_method_60_code, 8, some .int)
def zm_Walls_nextDraw : zM := (⟨zr_Walls, "nextDraw", "(I)I"⟩, prog_1_method_66_code, 1, some .int)
def zm_Walls_out : zM := (⟨zr_Walls, "out", "(I)I"⟩, prog_1_method_33_code, 7, some .int)
def zm_Walls_perform : zM := (⟨zr_Walls, "perform", "(I)I"⟩, prog_1_method_59_code, 5, some .int)
def zm_Walls_play : zM := (⟨zr_Walls, "play", "(I)I"⟩, prog_1_method_29_code, 3, some .int)
def zm_Walls_readAnother : zM := (⟨zr_Walls, "readAnother", "()I"⟩, prog_1_method_58_code, 2, some .int)
def zm_Walls_reader : zM := (⟨zr_Walls, "reader", "(II)I"⟩, prog_1_method_10_code, 3, some .int)
def zm_Walls_readers : zM := (⟨zr_Walls, "readers", "()I"⟩, prog_1_method_6_code, 4, some .int)
def zm_Walls_recall : zM := (⟨zr_Walls, "recall", "(I)I"⟩, prog_1_method_14_code, 2, some .int)
def zm_Walls_rests : zM := (⟨zr_Walls, "rests", "(II)I"⟩, prog_1_method_35_code, 6, some .int)
def zm_Walls_room : zM := (⟨zr_Walls, "room", "(I)I"⟩, prog_1_method_21_code, 8, some .int)
def zm_Walls_row : zM := (⟨zr_Walls, "row", "(I)I"⟩, prog_1_method_40_code, 2, some .int)
def zm_Walls_rule : zM := (⟨zr_Walls, "rule", "()I"⟩, prog_1_method_7_code, 3, some .int)
def zm_Walls_seen : zM := (⟨zr_Walls, "seen", "(II)I"⟩, prog_1_method_31_code, 3, some .int)
def zm_Walls_seenBits : zM := (⟨zr_Walls, "seenBits", "()I"⟩, prog_1_method_62_code, 3, some .int)
def zm_Walls_sheet : zM := (⟨zr_Walls, "sheet", "(IIII)I"⟩, prog_1_method_11_code, 8, some .int)
def zm_Walls_shot : zM := (⟨zr_Walls, "shot", "(II)I"⟩, prog_1_method_15_code, 4, some .int)
def zm_Walls_siege : zM := (⟨zr_Walls, "siege", "()I"⟩, prog_1_method_17_code, 5, some .int)
def zm_Walls_sign : zM := (⟨zr_Walls, "sign", "(I)I"⟩, prog_1_method_2_code, 3, some .int)
def zm_Walls_spare : zM := (⟨zr_Walls, "spare", "(I)I"⟩, prog_1_method_24_code, 6, some .int)
def zm_Walls_spares : zM := (⟨zr_Walls, "spares", "(I)I"⟩, prog_1_method_23_code, 4, some .int)
def zm_Walls_stack : zM := (⟨zr_Walls, "stack", "(II)I"⟩, prog_1_method_28_code, 5, some .int)
def zm_Walls_takeText : zM := (⟨zr_Walls, "takeText", "()I"⟩, prog_1_method_46_code, 2, some .int)
def zm_Walls_tallest : zM := (⟨zr_Walls, "tallest", "()I"⟩, prog_1_method_26_code, 5, some .int)
def zm_Walls_tell : zM := (⟨zr_Walls, "tell", "(I)V"⟩, prog_1_method_47_code, 2, none)
def zm_Walls_tellRow : zM := (⟨zr_Walls, "tellRow", "([II)V"⟩, prog_1_method_49_code, 3, none)
def zm_Walls_tellSteps : zM := (⟨zr_Walls, "tellSteps", "(I)I"⟩, prog_1_method_61_code, 2, some .int)
def zm_Walls_tellTwo : zM := (⟨zr_Walls, "tellTwo", "(II)V"⟩, prog_1_method_48_code, 3, none)
def zm_Walls_undo : zM := (⟨zr_Walls, "undo", "()I"⟩, prog_1_method_18_code, 1, some .int)
def zm_Walls_wall : zM := (⟨zr_Walls, "wall", "()I"⟩, prog_1_method_5_code, 3, some .int)
def zm_Walls_weakest : zM := (⟨zr_Walls, "weakest", "()I"⟩, prog_1_method_20_code, 5, some .int)
def zm_Walls_years : zM := (⟨zr_Walls, "years", "(II)I"⟩, prog_1_method_36_code, 9, some .int)
def zm_Acts_init : zM := (⟨zr_Acts, "<init>", "()V"⟩, prog_2_method_1_code, 1, none)
def zm_Acts_adds : zM := (⟨zr_Acts, "adds", "(IZ)Z"⟩, prog_2_method_7_code, 3, some .boolean)
def zm_Acts_begins : zM := (⟨zr_Acts, "begins", "(C)Z"⟩, prog_2_method_6_code, 2, some .boolean)
def zm_Acts_ends : zM := (⟨zr_Acts, "ends", "()Z"⟩, prog_2_method_8_code, 1, some .boolean)
def zm_Acts_grows : zM := (⟨zr_Acts, "grows", "(C)Z"⟩, prog_2_method_9_code, 3, some .boolean)
def zm_Acts_isWhole : zM := (⟨zr_Acts, "isWhole", "()Z"⟩, prog_2_method_4_code, 1, some .boolean)
def zm_Acts_partOf : zM := (⟨zr_Acts, "partOf", "(II)I"⟩, prog_2_method_3_code, 2, some .int)
def zm_Acts_read : zM := (⟨zr_Acts, "read", "([CI)I"⟩, prog_2_method_2_code, 4, some .int)
def zm_Acts_takes : zM := (⟨zr_Acts, "takes", "(C)Z"⟩, prog_2_method_5_code, 2, some .boolean)
def zm_City_init : zM := (⟨zr_City, "<init>", "()V"⟩, prog_3_method_1_code, 1, none)
def zm_City_addBook : zM := (⟨zr_City, "addBook", "(II)V"⟩, prog_3_method_5_code, 3, none)
def zm_City_addColumn : zM := (⟨zr_City, "addColumn", "()Z"⟩, prog_3_method_7_code, 1, some .boolean)
def zm_City_addReader : zM := (⟨zr_City, "addReader", "(I)V"⟩, prog_3_method_6_code, 2, none)
def zm_City_backOn : zM := (⟨zr_City, "backOn", "(I)I"⟩, prog_3_method_20_code, 2, some .int)
def zm_City_bearsAt : zM := (⟨zr_City, "bearsAt", "(IILWallsOfBooks$Rule;)I"⟩, prog_3_method_21_code, 6, some .int)
def zm_City_bitsChosen : zM := (⟨zr_City, "bitsChosen", "(II)I"⟩, prog_3_method_14_code, 5, some .int)
def zm_City_bitsWhere : zM := (⟨zr_City, "bitsWhere", "(I)I"⟩, prog_3_method_18_code, 4, some .int)
def zm_City_bookAt : zM := (⟨zr_City, "bookAt", "(II)I"⟩, prog_3_method_9_code, 3, some .int)
def zm_City_callBack : zM := (⟨zr_City, "callBack", "(I)I"⟩, prog_3_method_27_code, 3, some .int)
def zm_City_copyColumnWithout : zM := (⟨zr_City, "copyColumnWithout", "(LWallsOfBooks$City;II)V"⟩, prog_3_method_32_code, 5, none)
def zm_City_copyFrom : zM := (⟨zr_City, "copyFrom", "(LWallsOfBooks$City;)V"⟩, prog_3_method_31_code, 2, none)
def zm_City_heightOf : zM := (⟨zr_City, "heightOf", "(I)I"⟩, prog_3_method_12_code, 2, some .int)
def zm_City_heightWithout : zM := (⟨zr_City, "heightWithout", "(II)I"⟩, prog_3_method_13_code, 5, some .int)
def zm_City_holdsUp : zM := (⟨zr_City, "holdsUp", "(ILWallsOfBooks$Rule;)Z"⟩, prog_3_method_22_code, 5, some .boolean)
def zm_City_isBook : zM := (⟨zr_City, "isBook", "(I)Z"⟩, prog_3_method_2_code, 2, some .boolean)
def zm_City_isColumn : zM := (⟨zr_City, "isColumn", "(I)Z"⟩, prog_3_method_3_code, 2, some .boolean)
def zm_City_isReader : zM := (⟨zr_City, "isReader", "(I)Z"⟩, prog_3_method_4_code, 2, some .boolean)
def zm_City_layOn : zM := (⟨zr_City, "layOn", "(IILWallsOfBooks$Rule;)I"⟩, prog_3_method_25_code, 4, some .int)
def zm_City_leastHeight : zM := (⟨zr_City, "leastHeight", "()I"⟩, prog_3_method_16_code, 1, some .int)
def zm_City_leastHeightWithout : zM := (⟨zr_City, "leastHeightWithout", "(I)I"⟩, prog_3_method_17_code, 5, some .int)
def zm_City_lendTo : zM := (⟨zr_City, "lendTo", "(III)I"⟩, prog_3_method_26_code, 4, some .int)
def zm_City_lift : zM := (⟨zr_City, "lift", "(II)V"⟩, prog_3_method_24_code, 6, none)
def zm_City_loansOf : zM := (⟨zr_City, "loansOf", "(I)I"⟩, prog_3_method_19_code, 4, some .int)
def zm_City_passDay : zM := (⟨zr_City, "passDay", "()V"⟩, prog_3_method_30_code, 3, none)
def zm_City_passDays : zM := (⟨zr_City, "passDays", "(I)I"⟩, prog_3_method_29_code, 3, some .int)
def zm_City_placeOf : zM := (⟨zr_City, "placeOf", "(I)I"⟩, prog_3_method_11_code, 4, some .int)
def zm_City_pullDown : zM := (⟨zr_City, "pullDown", "()V"⟩, prog_3_method_8_code, 2, none)
def zm_City_put : zM := (⟨zr_City, "put", "(II)V"⟩, prog_3_method_23_code, 3, none)
def zm_City_readPage : zM := (⟨zr_City, "readPage", "([I)V"⟩, prog_3_method_34_code, 3, none)
def zm_City_shoot : zM := (⟨zr_City, "shoot", "(II)I"⟩, prog_3_method_28_code, 5, some .int)
def zm_City_topOf : zM := (⟨zr_City, "topOf", "(I)I"⟩, prog_3_method_10_code, 2, some .int)
def zm_City_weightOf : zM := (⟨zr_City, "weightOf", "(I)I"⟩, prog_3_method_15_code, 4, some .int)
def zm_City_writePage : zM := (⟨zr_City, "writePage", "([I)V"⟩, prog_3_method_33_code, 3, none)
def zm_Duel_init : zM := (⟨zr_Duel, "<init>", "()V"⟩, prog_4_method_1_code, 1, none)
def zm_Duel_afterCity : zM := (⟨zr_Duel, "afterCity", "(LWallsOfBooks$City;LWallsOfBooks$Rule;II)I"⟩, prog_4_method_4_code, 9, some .int)
def zm_Duel_afterEnemy : zM := (⟨zr_Duel, "afterEnemy", "(LWallsOfBooks$City;LWallsOfBooks$Rule;II)I"⟩, prog_4_method_3_code, 9, some .int)
def zm_Duel_outcome : zM := (⟨zr_Duel, "outcome", "(LWallsOfBooks$City;LWallsOfBooks$Rule;I)I"⟩, prog_4_method_2_code, 8, some .int)
def zm_History_init : zM := (⟨zr_History, "<init>", "()V"⟩, prog_5_method_1_code, 1, none)
def zm_History_clear : zM := (⟨zr_History, "clear", "()V"⟩, prog_5_method_5_code, 1, none)
def zm_History_keepMark : zM := (⟨zr_History, "keepMark", "()V"⟩, prog_5_method_3_code, 1, none)
def zm_History_mark : zM := (⟨zr_History, "mark", "(LWallsOfBooks$City;)V"⟩, prog_5_method_2_code, 2, none)
def zm_History_restore : zM := (⟨zr_History, "restore", "(LWallsOfBooks$City;)V"⟩, prog_5_method_4_code, 2, none)
def zm_Mason_init : zM := (⟨zr_Mason, "<init>", "()V"⟩, prog_6_method_1_code, 1, none)
def zm_Mason_addUp : zM := (⟨zr_Mason, "addUp", "(II)V"⟩, prog_6_method_4_code, 5, none)
def zm_Mason_canReach : zM := (⟨zr_Mason, "canReach", "(LWallsOfBooks$City;II)Z"⟩, prog_6_method_6_code, 9, some .boolean)
def zm_Mason_fewest : zM := (⟨zr_Mason, "fewest", "(LWallsOfBooks$City;LWallsOfBooks$Rule;II)I"⟩, prog_6_method_2_code, 6, some .int)
def zm_Mason_reaches : zM := (⟨zr_Mason, "reaches", "(LWallsOfBooks$City;LWallsOfBooks$Rule;III)Z"⟩, prog_6_method_5_code, 8, some .boolean)
def zm_Mason_stockUp : zM := (⟨zr_Mason, "stockUp", "(LWallsOfBooks$City;I)V"⟩, prog_6_method_3_code, 4, none)
def zm_Orders_init : zM := (⟨zr_Orders, "<init>", "()V"⟩, prog_7_method_1_code, 1, none)
def zm_Orders_countThose : zM := (⟨zr_Orders, "countThose", "(LWallsOfBooks$City;LWallsOfBooks$Rule;II)I"⟩, prog_7_method_2_code, 5, some .int)
def zm_Orders_order : zM := (⟨zr_Orders, "order", "(LWallsOfBooks$City;LWallsOfBooks$Rule;III)V"⟩, prog_7_method_3_code, 7, none)
def zm_Orders_weigh : zM := (⟨zr_Orders, "weigh", "(LWallsOfBooks$City;LWallsOfBooks$Rule;I)V"⟩, prog_7_method_4_code, 4, none)
def zm_Rule_init : zM := (⟨zr_Rule, "<init>", "()V"⟩, prog_8_method_1_code, 1, none)
def zm_Rule_closes : zM := (⟨zr_Rule, "closes", "()Z"⟩, prog_8_method_14_code, 1, some .boolean)
def zm_Rule_emit : zM := (⟨zr_Rule, "emit", "(I)V"⟩, prog_8_method_17_code, 2, none)
def zm_Rule_hold : zM := (⟨zr_Rule, "hold", "(I)V"⟩, prog_8_method_16_code, 2, none)
def zm_Rule_isName : zM := (⟨zr_Rule, "isName", "(C)Z"⟩, prog_8_method_8_code, 1, some .boolean)
def zm_Rule_joined : zM := (⟨zr_Rule, "joined", "(III)I"⟩, prog_8_method_6_code, 3, some .int)
def zm_Rule_named : zM := (⟨zr_Rule, "named", "(IIIIIII)I"⟩, prog_8_method_5_code, 7, some .int)
def zm_Rule_opens : zM := (⟨zr_Rule, "opens", "()Z"⟩, prog_8_method_13_code, 1, some .boolean)
def zm_Rule_read : zM := (⟨zr_Rule, "read", "([CI)I"⟩, prog_8_method_3_code, 4, some .int)
def zm_Rule_release : zM := (⟨zr_Rule, "release", "(I)V"⟩, prog_8_method_15_code, 2, none)
def zm_Rule_setUsual : zM := (⟨zr_Rule, "setUsual", "()V"⟩, prog_8_method_2_code, 1, none)
def zm_Rule_strengthOf : zM := (⟨zr_Rule, "strengthOf", "(I)I"⟩, prog_8_method_7_code, 1, some .int)
def zm_Rule_takes : zM := (⟨zr_Rule, "takes", "(C)Z"⟩, prog_8_method_9_code, 2, some .boolean)
def zm_Rule_takesAhead : zM := (⟨zr_Rule, "takesAhead", "(C)Z"⟩, prog_8_method_11_code, 2, some .boolean)
def zm_Rule_takesBehind : zM := (⟨zr_Rule, "takesBehind", "(C)Z"⟩, prog_8_method_12_code, 3, some .boolean)
def zm_Rule_takesDigit : zM := (⟨zr_Rule, "takesDigit", "(I)Z"⟩, prog_8_method_10_code, 2, some .boolean)
def zm_Rule_worth : zM := (⟨zr_Rule, "worth", "(IIIIII)I"⟩, prog_8_method_4_code, 10, some .int)
def zm_Model_init : zM := (⟨zr_Model, "<init>", "()V"⟩, prog_10_method_1_code, 1, none)
def zm_Model_above : zM := (⟨zr_Model, "above", "(II)I"⟩, prog_10_method_36_code, 5, some .int)
def zm_Model_act : zM := (⟨zr_Model, "act", "(IIII)Z"⟩, prog_10_method_70_code, 5, some .boolean)
def zm_Model_again : zM := (⟨zr_Model, "again", "(I)Z"⟩, prog_10_method_105_code, 3, some .boolean)
def zm_Model_allBear : zM := (⟨zr_Model, "allBear", "()I"⟩, prog_10_method_92_code, 5, some .int)
def zm_Model_bears : zM := (⟨zr_Model, "bears", "(IIIII)I"⟩, prog_10_method_34_code, 7, some .int)
def zm_Model_begin : zM := (⟨zr_Model, "begin", "([BII)V"⟩, prog_10_method_12_code, 4, none)
def zm_Model_beginText : zM := (⟨zr_Model, "beginText", "(I)V"⟩, prog_10_method_13_code, 2, none)
def zm_Model_book : zM := (⟨zr_Model, "book", "(II)I"⟩, prog_10_method_47_code, 4, some .int)
def zm_Model_books : zM := (⟨zr_Model, "books", "()I"⟩, prog_10_method_22_code, 4, some .int)
def zm_Model_build : zM := (⟨zr_Model, "build", "(I)I"⟩, prog_10_method_82_code, 2, some .int)
def zm_Model_builds : zM := (⟨zr_Model, "builds", "(II)I"⟩, prog_10_method_81_code, 3, some .int)
def zm_Model_calls : zM := (⟨zr_Model, "calls", "(I)I"⟩, prog_10_method_84_code, 2, some .int)
def zm_Model_column : zM := (⟨zr_Model, "column", "(II)I"⟩, prog_10_method_48_code, 4, some .int)
def zm_Model_count : zM := (⟨zr_Model, "count", "(I)I"⟩, prog_10_method_106_code, 2, some .int)
def zm_Model_days : zM := (⟨zr_Model, "days", "(I)I"⟩, prog_10_method_67_code, 2, some .int)
def zm_Model_doesPileHold : zM := (⟨zr_Model, "doesPileHold", "(III)Z"⟩, prog_10_method_37_code, 5, some .boolean)
def zm_Model_draw : zM := (⟨zr_Model, "draw", "(I)I"⟩, prog_10_method_102_code, 2, some .int)
def zm_Model_end : zM := (⟨zr_Model, "end", "(I)Z"⟩, prog_10_method_11_code, 2, some .boolean)
def zm_Model_fault : zM := (⟨zr_Model, "fault", "(I)V"⟩, prog_10_method_16_code, 2, none)
def zm_Model_fine : zM := (⟨zr_Model, "fine", "()Z"⟩, prog_10_method_15_code, 1, some .boolean)
def zm_Model_forget : zM := (⟨zr_Model, "forget", "()I"⟩, prog_10_method_95_code, 2, some .int)
def zm_Model_gets : zM := (⟨zr_Model, "gets", "(IIII)I"⟩, prog_10_method_99_code, 4, some .int)
def zm_Model_goBuild : zM := (⟨zr_Model, "goBuild", "([IIIII)V"⟩, prog_10_method_79_code, 12, none)
def zm_Model_goCity : zM := (⟨zr_Model, "goCity", "([III)I"⟩, prog_10_method_89_code, 9, some .int)
def zm_Model_goDays : zM := (⟨zr_Model, "goDays", "([II)V"⟩, prog_10_method_66_code, 5, none)
def zm_Model_goEnemy : zM := (⟨zr_Model, "goEnemy", "([III)I"⟩, prog_10_method_88_code, 9, some .int)
def zm_Model_goLay : zM := (⟨zr_Model, "goLay", "([III)V"⟩, prog_10_method_55_code, 4, none)
def zm_Model_goLend : zM := (⟨zr_Model, "goLend", "(III)I"⟩, prog_10_method_59_code, 4, some .int)
def zm_Model_goPlay : zM := (⟨zr_Model, "goPlay", "([III)I"⟩, prog_10_method_87_code, 4, some .int)
def zm_Model_goRecall : zM := (⟨zr_Model, "goRecall", "(I)I"⟩, prog_10_method_61_code, 2, some .int)
def zm_Model_goShot : zM := (⟨zr_Model, "goShot", "([III)I"⟩, prog_10_method_64_code, 7, some .int)
def zm_Model_goStack : zM := (⟨zr_Model, "goStack", "(III)V"⟩, prog_10_method_85_code, 5, none)
def zm_Model_has : zM := (⟨zr_Model, "has", "(II)Z"⟩, prog_10_method_4_code, 2, some .boolean)
def zm_Model_heightOf : zM := (⟨zr_Model, "heightOf", "([II)I"⟩, prog_10_method_42_code, 3, some .int)
def zm_Model_held : zM := (⟨zr_Model, "held", "(I)I"⟩, prog_10_method_27_code, 3, some .int)
def zm_Model_heldBits : zM := (⟨zr_Model, "heldBits", "()I"⟩, prog_10_method_91_code, 3, some .int)
def zm_Model_here : zM := (⟨zr_Model, "here", "()I"⟩, prog_10_method_14_code, 1, some .int)
def zm_Model_highest : zM := (⟨zr_Model, "highest", "([II)I"⟩, prog_10_method_46_code, 4, some .int)
def zm_Model_home : zM := (⟨zr_Model, "home", "()I"⟩, prog_10_method_75_code, 5, some .int)
def zm_Model_in : zM := (⟨zr_Model, "in", "(III)Z"⟩, prog_10_method_3_code, 3, some .boolean)
def zm_Model_inColumn : zM := (⟨zr_Model, "inColumn", "([II)I"⟩, prog_10_method_40_code, 5, some .int)
def zm_Model_isBest : zM := (⟨zr_Model, "isBest", "(IIII)Z"⟩, prog_10_method_100_code, 5, some .boolean)
def zm_Model_isBook : zM := (⟨zr_Model, "isBook", "(I)Z"⟩, prog_10_method_7_code, 2, some .boolean)
def zm_Model_isColumn : zM := (⟨zr_Model, "isColumn", "(I)Z"⟩, prog_10_method_8_code, 2, some .boolean)
def zm_Model_isHeld : zM := (⟨zr_Model, "isHeld", "([II)Z"⟩, prog_10_method_39_code, 3, some .boolean)
def zm_Model_isHeldBut : zM := (⟨zr_Model, "isHeldBut", "([III)Z"⟩, prog_10_method_38_code, 4, some .boolean)
def zm_Model_isReader : zM := (⟨zr_Model, "isReader", "(I)Z"⟩, prog_10_method_9_code, 2, some .boolean)
def zm_Model_keep : zM := (⟨zr_Model, "keep", "(I)Z"⟩, prog_10_method_104_code, 2, some .boolean)
def zm_Model_law : zM := (⟨zr_Model, "law", "()I"⟩, prog_10_method_93_code, 8, some .int)
def zm_Model_lay_0 : zM := (⟨zr_Model, "lay", "(II)I"⟩, prog_10_method_56_code, 4, some .int)
def zm_Model_lay_1 : zM := (⟨zr_Model, "lay", "([I[II)V"⟩, prog_10_method_51_code, 4, none)
def zm_Model_leastHeight : zM := (⟨zr_Model, "leastHeight", "([I)I"⟩, prog_10_method_43_code, 4, some .int)
def zm_Model_lend : zM := (⟨zr_Model, "lend", "(III)I"⟩, prog_10_method_60_code, 5, some .int)
def zm_Model_lentTo : zM := (⟨zr_Model, "lentTo", "([II)I"⟩, prog_10_method_45_code, 5, some .int)
def zm_Model_letterOf : zM := (⟨zr_Model, "letterOf", "(I)I"⟩, prog_10_method_30_code, 1, some .int)
def zm_Model_look : zM := (⟨zr_Model, "look", "()I"⟩, prog_10_method_98_code, 4, some .int)
def zm_Model_lost : zM := (⟨zr_Model, "lost", "()I"⟩, prog_10_method_5_code, 1, some .int)
def zm_Model_low : zM := (⟨zr_Model, "low", "(I)I"⟩, prog_10_method_72_code, 6, some .int)
def zm_Model_need : zM := (⟨zr_Model, "need", "(C)V"⟩, prog_10_method_18_code, 2, none)
def zm_Model_number : zM := (⟨zr_Model, "number", "(I)I"⟩, prog_10_method_20_code, 4, some .int)
def zm_Model_oneOf : zM := (⟨zr_Model, "oneOf", "(CI)I"⟩, prog_10_method_19_code, 3, some .int)
def zm_Model_out : zM := (⟨zr_Model, "out", "(I)I"⟩, prog_10_method_96_code, 7, some .int)
def zm_Model_passes : zM := (⟨zr_Model, "passes", "(C)Z"⟩, prog_10_method_17_code, 2, some .boolean)
def zm_Model_play : zM := (⟨zr_Model, "play", "(I)I"⟩, prog_10_method_90_code, 3, some .int)
def zm_Model_product : zM := (⟨zr_Model, "product", "(I)I"⟩, prog_10_method_29_code, 5, some .int)
def zm_Model_put : zM := (⟨zr_Model, "put", "([IIIII)V"⟩, prog_10_method_25_code, 5, none)
def zm_Model_readAct : zM := (⟨zr_Model, "readAct", "(I)V"⟩, prog_10_method_69_code, 3, none)
def zm_Model_readColumn : zM := (⟨zr_Model, "readColumn", "(II)I"⟩, prog_10_method_24_code, 6, some .int)
def zm_Model_readPile : zM := (⟨zr_Model, "readPile", "([III)I"⟩, prog_10_method_35_code, 7, some .int)
def zm_Model_readRule : zM := (⟨zr_Model, "readRule", "()Z"⟩, prog_10_method_32_code, 1, some .boolean)
def zm_Model_reader : zM := (⟨zr_Model, "reader", "(II)I"⟩, prog_10_method_49_code, 3, some .int)
def zm_Model_readers : zM := (⟨zr_Model, "readers", "()I"⟩, prog_10_method_26_code, 4, some .int)
def zm_Model_recall : zM := (⟨zr_Model, "recall", "(I)I"⟩, prog_10_method_62_code, 2, some .int)
def zm_Model_refusesLay : zM := (⟨zr_Model, "refusesLay", "([III)I"⟩, prog_10_method_54_code, 4, some .int)
def zm_Model_refusesLend : zM := (⟨zr_Model, "refusesLend", "(III)I"⟩, prog_10_method_58_code, 4, some .int)
def zm_Model_refusesShot : zM := (⟨zr_Model, "refusesShot", "(II)I"⟩, prog_10_method_63_code, 3, some .int)
def zm_Model_refusesTop : zM := (⟨zr_Model, "refusesTop", "([III)I"⟩, prog_10_method_53_code, 5, some .int)
def zm_Model_remember : zM := (⟨zr_Model, "remember", "([I)V"⟩, prog_10_method_52_code, 3, none)
def zm_Model_rests : zM := (⟨zr_Model, "rests", "(II)I"⟩, prog_10_method_101_code, 6, some .int)
def zm_Model_room : zM := (⟨zr_Model, "room", "(I)I"⟩, prog_10_method_74_code, 7, some .int)
def zm_Model_row : zM := (⟨zr_Model, "row", "(I)I"⟩, prog_10_method_107_code, 2, some .int)
def zm_Model_rule : zM := (⟨zr_Model, "rule", "()I"⟩, prog_10_method_33_code, 3, some .int)
def zm_Model_seen : zM := (⟨zr_Model, "seen", "(II)I"⟩, prog_10_method_94_code, 3, some .int)
def zm_Model_sheet : zM := (⟨zr_Model, "sheet", "(IIII)I"⟩, prog_10_method_50_code, 9, some .int)
def zm_Model_shot : zM := (⟨zr_Model, "shot", "(II)I"⟩, prog_10_method_65_code, 4, some .int)
def zm_Model_shows : zM := (⟨zr_Model, "shows", "(I)I"⟩, prog_10_method_97_code, 5, some .int)
def zm_Model_siege : zM := (⟨zr_Model, "siege", "()I"⟩, prog_10_method_68_code, 4, some .int)
def zm_Model_sign : zM := (⟨zr_Model, "sign", "(I)I"⟩, prog_10_method_10_code, 3, some .int)
def zm_Model_spare : zM := (⟨zr_Model, "spare", "(I)I"⟩, prog_10_method_78_code, 7, some .int)
def zm_Model_spareOf : zM := (⟨zr_Model, "spareOf", "(II)I"⟩, prog_10_method_76_code, 7, some .int)
def zm_Model_spares : zM := (⟨zr_Model, "spares", "(I)I"⟩, prog_10_method_77_code, 4, some .int)
def zm_Model_stack : zM := (⟨zr_Model, "stack", "(II)I"⟩, prog_10_method_86_code, 5, some .int)
def zm_Model_sum : zM := (⟨zr_Model, "sum", "(I)I"⟩, prog_10_method_28_code, 5, some .int)
def zm_Model_takeOut : zM := (⟨zr_Model, "takeOut", "([II)V"⟩, prog_10_method_57_code, 4, none)
def zm_Model_tallest : zM := (⟨zr_Model, "tallest", "()I"⟩, prog_10_method_83_code, 4, some .int)
def zm_Model_tell : zM := (⟨zr_Model, "tell", "(I)V"⟩, prog_10_method_6_code, 2, none)
def zm_Model_tellBuild : zM := (⟨zr_Model, "tellBuild", "(II)I"⟩, prog_10_method_80_code, 4, some .int)
def zm_Model_thickOf : zM := (⟨zr_Model, "thickOf", "(I)I"⟩, prog_10_method_41_code, 4, some .int)
def zm_Model_thing : zM := (⟨zr_Model, "thing", "(I)I"⟩, prog_10_method_31_code, 4, some .int)
def zm_Model_thrown : zM := (⟨zr_Model, "thrown", "()I"⟩, prog_10_method_2_code, 1, some .int)
def zm_Model_undo : zM := (⟨zr_Model, "undo", "()I"⟩, prog_10_method_71_code, 2, some .int)
def zm_Model_wall : zM := (⟨zr_Model, "wall", "()I"⟩, prog_10_method_23_code, 5, some .int)
def zm_Model_wasRight : zM := (⟨zr_Model, "wasRight", "()Z"⟩, prog_10_method_21_code, 1, some .boolean)
def zm_Model_weakest : zM := (⟨zr_Model, "weakest", "()I"⟩, prog_10_method_73_code, 5, some .int)
def zm_Model_whereBits : zM := (⟨zr_Model, "whereBits", "([II)I"⟩, prog_10_method_44_code, 5, some .int)
def zm_Model_years : zM := (⟨zr_Model, "years", "(II)I"⟩, prog_10_method_103_code, 9, some .int)
def zm_Integer_bitCount : zM := (⟨"java/lang/Integer", "bitCount", "(I)I"⟩, prog_13_method_49_code, 1, some .int)
def zm_Long_bitCount : zM := (⟨"java/lang/Long", "bitCount", "(J)I"⟩, prog_14_method_50_code, 2, some .int)
def zm_Arrays_fill : zM := (⟨"java/util/Arrays", "fill", "([II)V"⟩, prog_20_method_103_code, 4, none)
