/-! names, fields, methods, links: by program (wip/gen/names.py) out of the printed texts -/
def ewT0 : u_T := fun k => match k with
  | 0 => ("EightWays$Chart", "cost", "I", false)
  | 1 => ("EightWays$Chart", "direction", "[I", true)
  | 2 => ("EightWays$Chart", "truth", "[I", true)
  | 3 => ("EightWays$Chart", "trial", "[I", true)
  | 4 => ("EightWays$Chart", "setting", "LEightWays$Setting;", true)
  | 5 => ("EightWays$Chart", "net", "LEightWays$Net;", false)
  | _ => ("EightWays$Chart", "least", "I", false)
def ewt0 : Nat → FieldType := fun k => match k with
  | 0 => .int
  | 1 => .array .int
  | 2 => .array .int
  | 3 => .array .int
  | 4 => .object "EightWays$Setting"
  | 5 => .object "EightWays$Net"
  | _ => .int
theorem ewn0 : ∀ a, a < 7 → ∀ b, b < 7 → a ≠ b → (ewT0 a).2.1 ≠ (ewT0 b).2.1 := by decide +kernel
theorem ewto0 : ∀ k, k < 7 → parseFieldDescriptor (ewT0 k).2.2.1 = some (ewt0 k) := by decide +kernel
theorem ewi0 : ∀ w ∈ u_ws "EightWays$Chart" ewT0 7, w ∈ lw_tbl := by
  have h : u_ws "EightWays$Chart" ewT0 7 = [228, 230, 232, 234, 236, 238, 240].filterMap (fun i => tables_1[i]?) := by decide +kernel
  intro w hw
  rw [h] at hw
  obtain ⟨i, -, hi⟩ := List.mem_filterMap.mp hw
  exact List.mem_append_right _ (List.mem_of_getElem? hi)
def ewT1 : u_T := fun k => match k with
  | 0 => ("EightWays$Net", "stations", "I", false)
  | 1 => ("EightWays$Net", "stretches", "I", false)
  | 2 => ("EightWays$Net", "lines", "I", false)
  | 3 => ("EightWays$Net", "x", "[I", true)
  | 4 => ("EightWays$Net", "y", "[I", true)
  | 5 => ("EightWays$Net", "a", "[I", true)
  | 6 => ("EightWays$Net", "b", "[I", true)
  | 7 => ("EightWays$Net", "from", "[I", true)
  | 8 => ("EightWays$Net", "to", "[I", true)
  | 9 => ("EightWays$Net", "tree", "[I", true)
  | 10 => ("EightWays$Net", "treeOfA", "[I", true)
  | 11 => ("EightWays$Net", "treeOfB", "[I", true)
  | 12 => ("EightWays$Net", "row", "[I", true)
  | 13 => ("EightWays$Net", "rowLength", "[I", true)
  | 14 => ("EightWays$Net", "carried", "[I", true)
  | 15 => ("EightWays$Net", "comes", "[I", true)
  | 16 => ("EightWays$Net", "goes", "[I", true)
  | 17 => ("EightWays$Net", "meet", "[[I", true)
  | 18 => ("EightWays$Net", "through", "[[I", true)
  | _ => ("EightWays$Net", "lead", "[I", true)
def ewt1 : Nat → FieldType := fun k => match k with
  | 0 => .int
  | 1 => .int
  | 2 => .int
  | 3 => .array .int
  | 4 => .array .int
  | 5 => .array .int
  | 6 => .array .int
  | 7 => .array .int
  | 8 => .array .int
  | 9 => .array .int
  | 10 => .array .int
  | 11 => .array .int
  | 12 => .array .int
  | 13 => .array .int
  | 14 => .array .int
  | 15 => .array .int
  | 16 => .array .int
  | 17 => .array (.array .int)
  | 18 => .array (.array .int)
  | _ => .array .int
theorem ewn1 : ∀ a, a < 20 → ∀ b, b < 20 → a ≠ b → (ewT1 a).2.1 ≠ (ewT1 b).2.1 := by decide +kernel
theorem ewto1 : ∀ k, k < 20 → parseFieldDescriptor (ewT1 k).2.2.1 = some (ewt1 k) := by decide +kernel
theorem ewi1 : ∀ w ∈ u_ws "EightWays$Net" ewT1 20, w ∈ lw_tbl := by
  have h : u_ws "EightWays$Net" ewT1 20 = [116, 118, 120, 122, 124, 126, 128, 130, 132, 134, 136, 138, 140, 142, 144, 146, 148, 150, 152, 154].filterMap (fun i => tables_1[i]?) := by decide +kernel
  intro w hw
  rw [h] at hw
  obtain ⟨i, -, hi⟩ := List.mem_filterMap.mp hw
  exact List.mem_append_right _ (List.mem_of_getElem? hi)
def ewT2 : u_T := fun k => match k with
  | 0 => ("EightWays$Past", "size", "I", false)
  | 1 => ("EightWays$Past", "oldest", "I", false)
  | _ => ("EightWays$Past", "settings", "[LEightWays$Setting;", true)
def ewt2 : Nat → FieldType := fun k => match k with
  | 0 => .int
  | 1 => .int
  | _ => .array (.object "EightWays$Setting")
theorem ewn2 : ∀ a, a < 3 → ∀ b, b < 3 → a ≠ b → (ewT2 a).2.1 ≠ (ewT2 b).2.1 := by decide +kernel
theorem ewto2 : ∀ k, k < 3 → parseFieldDescriptor (ewT2 k).2.2.1 = some (ewt2 k) := by decide +kernel
theorem ewi2 : ∀ w ∈ u_ws "EightWays$Past" ewT2 3, w ∈ lw_tbl := by
  have h : u_ws "EightWays$Past" ewT2 3 = [200, 202, 204].filterMap (fun i => tables_1[i]?) := by decide +kernel
  intro w hw
  rw [h] at hw
  obtain ⟨i, -, hi⟩ := List.mem_filterMap.mp hw
  exact List.mem_append_right _ (List.mem_of_getElem? hi)
def ewT3 : u_T := fun k => match k with
  | 0 => ("EightWays$Places", "total", "I", false)
  | 1 => ("EightWays$Places", "signs", "I", false)
  | 2 => ("EightWays$Places", "length", "[I", true)
  | 3 => ("EightWays$Places", "x", "[I", true)
  | 4 => ("EightWays$Places", "y", "[I", true)
  | 5 => ("EightWays$Places", "sign", "[I", true)
  | 6 => ("EightWays$Places", "trial", "[I", true)
  | 7 => ("EightWays$Places", "rowX", "[[I", true)
  | 8 => ("EightWays$Places", "rowY", "[[I", true)
  | 9 => ("EightWays$Places", "chart", "LEightWays$Chart;", true)
  | 10 => ("EightWays$Places", "direction", "[I", true)
  | _ => ("EightWays$Places", "net", "LEightWays$Net;", false)
def ewt3 : Nat → FieldType := fun k => match k with
  | 0 => .int
  | 1 => .int
  | 2 => .array .int
  | 3 => .array .int
  | 4 => .array .int
  | 5 => .array .int
  | 6 => .array .int
  | 7 => .array (.array .int)
  | 8 => .array (.array .int)
  | 9 => .object "EightWays$Chart"
  | 10 => .array .int
  | _ => .object "EightWays$Net"
theorem ewn3 : ∀ a, a < 12 → ∀ b, b < 12 → a ≠ b → (ewT3 a).2.1 ≠ (ewT3 b).2.1 := by decide +kernel
theorem ewto3 : ∀ k, k < 12 → parseFieldDescriptor (ewT3 k).2.2.1 = some (ewt3 k) := by decide +kernel
theorem ewi3 : ∀ w ∈ u_ws "EightWays$Places" ewT3 12, w ∈ lw_tbl := by
  have h : u_ws "EightWays$Places" ewT3 12 = [268, 270, 272, 274, 276, 278, 280, 282, 284, 286, 288, 290].filterMap (fun i => tables_1[i]?) := by decide +kernel
  intro w hw
  rw [h] at hw
  obtain ⟨i, -, hi⟩ := List.mem_filterMap.mp hw
  exact List.mem_append_right _ (List.mem_of_getElem? hi)
def ewT4 : u_T := fun k => match k with
  | 0 => ("EightWays$Reader", "size", "I", false)
  | 1 => ("EightWays$Reader", "faultAt", "I", false)
  | 2 => ("EightWays$Reader", "why", "I", false)
  | 3 => ("EightWays$Reader", "letters", "[I", true)
  | 4 => ("EightWays$Reader", "fault", "I", false)
  | 5 => ("EightWays$Reader", "at", "I", false)
  | _ => ("EightWays$Reader", "numberAt", "I", false)
def ewt4 : Nat → FieldType := fun k => match k with
  | 0 => .int
  | 1 => .int
  | 2 => .int
  | 3 => .array .int
  | 4 => .int
  | 5 => .int
  | _ => .int
theorem ewn4 : ∀ a, a < 7 → ∀ b, b < 7 → a ≠ b → (ewT4 a).2.1 ≠ (ewT4 b).2.1 := by decide +kernel
theorem ewto4 : ∀ k, k < 7 → parseFieldDescriptor (ewT4 k).2.2.1 = some (ewt4 k) := by decide +kernel
theorem ewi4 : ∀ w ∈ u_ws "EightWays$Reader" ewT4 7, w ∈ lw_tbl := by
  have h : u_ws "EightWays$Reader" ewT4 7 = [37, 39, 41, 43, 45, 47, 49].filterMap (fun i => tables_1[i]?) := by decide +kernel
  intro w hw
  rw [h] at hw
  obtain ⟨i, -, hi⟩ := List.mem_filterMap.mp hw
  exact List.mem_append_right _ (List.mem_of_getElem? hi)
def ewT5 : u_T := fun k => match k with
  | 0 => ("EightWays$Setting", "way", "I", false)
  | 1 => ("EightWays$Setting", "offset", "I", false)
  | 2 => ("EightWays$Setting", "x", "[I", true)
  | 3 => ("EightWays$Setting", "y", "[I", true)
  | _ => ("EightWays$Setting", "fixed", "[I", true)
def ewt5 : Nat → FieldType := fun k => match k with
  | 0 => .int
  | 1 => .int
  | 2 => .array .int
  | 3 => .array .int
  | _ => .array .int
theorem ewn5 : ∀ a, a < 5 → ∀ b, b < 5 → a ≠ b → (ewT5 a).2.1 ≠ (ewT5 b).2.1 := by decide +kernel
theorem ewto5 : ∀ k, k < 5 → parseFieldDescriptor (ewT5 k).2.2.1 = some (ewt5 k) := by decide +kernel
theorem ewi5 : ∀ w ∈ u_ws "EightWays$Setting" ewT5 5, w ∈ lw_tbl := by
  have h : u_ws "EightWays$Setting" ewT5 5 = [176, 178, 180, 182, 184].filterMap (fun i => tables_1[i]?) := by decide +kernel
  intro w hw
  rw [h] at hw
  obtain ⟨i, -, hi⟩ := List.mem_filterMap.mp hw
  exact List.mem_append_right _ (List.mem_of_getElem? hi)
def ewT6 : u_T := fun k => match k with
  | 0 => ("EightWays$Sides", "total", "I", false)
  | 1 => ("EightWays$Sides", "ranking", "[I", true)
  | 2 => ("EightWays$Sides", "crossed", "[I", true)
  | 3 => ("EightWays$Sides", "parting", "[I", true)
  | 4 => ("EightWays$Sides", "partingSwapped", "[I", true)
  | 5 => ("EightWays$Sides", "partingCrossings", "[I", true)
  | 6 => ("EightWays$Sides", "pairing", "[I", true)
  | 7 => ("EightWays$Sides", "pairingSwapped", "[I", true)
  | 8 => ("EightWays$Sides", "one", "[I", true)
  | 9 => ("EightWays$Sides", "two", "[I", true)
  | 10 => ("EightWays$Sides", "fewest", "[I", true)
  | 11 => ("EightWays$Sides", "fewestNext", "[I", true)
  | 12 => ("EightWays$Sides", "seen", "I", false)
  | 13 => ("EightWays$Sides", "chart", "LEightWays$Chart;", true)
  | 14 => ("EightWays$Sides", "direction", "[I", true)
  | _ => ("EightWays$Sides", "net", "LEightWays$Net;", false)
def ewt6 : Nat → FieldType := fun k => match k with
  | 0 => .int
  | 1 => .array .int
  | 2 => .array .int
  | 3 => .array .int
  | 4 => .array .int
  | 5 => .array .int
  | 6 => .array .int
  | 7 => .array .int
  | 8 => .array .int
  | 9 => .array .int
  | 10 => .array .int
  | 11 => .array .int
  | 12 => .int
  | 13 => .object "EightWays$Chart"
  | 14 => .array .int
  | _ => .object "EightWays$Net"
theorem ewn6 : ∀ a, a < 16 → ∀ b, b < 16 → a ≠ b → (ewT6 a).2.1 ≠ (ewT6 b).2.1 := by decide +kernel
theorem ewto6 : ∀ k, k < 16 → parseFieldDescriptor (ewT6 k).2.2.1 = some (ewt6 k) := by decide +kernel
theorem ewi6 : ∀ w ∈ u_ws "EightWays$Sides" ewT6 16, w ∈ lw_tbl := by
  have h : u_ws "EightWays$Sides" ewT6 16 = [316, 318, 320, 322, 324, 326, 328, 330, 332, 334, 336, 338, 340, 342, 344, 346].filterMap (fun i => tables_1[i]?) := by decide +kernel
  intro w hw
  rw [h] at hw
  obtain ⟨i, -, hi⟩ := List.mem_filterMap.mp hw
  exact List.mem_append_right _ (List.mem_of_getElem? hi)
def ewT7 : u_T := fun k => match k with
  | 0 => ("EightWays", "reader", "LEightWays$Reader;", true)
  | 1 => ("EightWays", "current", "LEightWays$Net;", false)
  | 2 => ("EightWays", "spare", "LEightWays$Net;", false)
  | 3 => ("EightWays", "now", "LEightWays$Setting;", true)
  | 4 => ("EightWays", "guess", "LEightWays$Setting;", true)
  | 5 => ("EightWays", "past", "LEightWays$Past;", true)
  | 6 => ("EightWays", "images", "[LEightWays$Setting;", true)
  | 7 => ("EightWays", "imagesKept", "I", false)
  | 8 => ("EightWays", "best", "LEightWays$Chart;", true)
  | 9 => ("EightWays", "guessed", "LEightWays$Chart;", true)
  | 10 => ("EightWays", "places", "LEightWays$Places;", true)
  | 11 => ("EightWays", "sides", "LEightWays$Sides;", true)
  | 12 => ("EightWays", "bestKnown", "Z", false)
  | 13 => ("EightWays", "tallyKnown", "Z", false)
  | 14 => ("EightWays", "placesKnown", "Z", false)
  | 15 => ("EightWays", "sidesKnown", "Z", false)
  | _ => ("EightWays", "tally", "I", false)
def ewt7 : Nat → FieldType := fun k => match k with
  | 0 => .object "EightWays$Reader"
  | 1 => .object "EightWays$Net"
  | 2 => .object "EightWays$Net"
  | 3 => .object "EightWays$Setting"
  | 4 => .object "EightWays$Setting"
  | 5 => .object "EightWays$Past"
  | 6 => .array (.object "EightWays$Setting")
  | 7 => .int
  | 8 => .object "EightWays$Chart"
  | 9 => .object "EightWays$Chart"
  | 10 => .object "EightWays$Places"
  | 11 => .object "EightWays$Sides"
  | 12 => .boolean
  | 13 => .boolean
  | 14 => .boolean
  | 15 => .boolean
  | _ => .int
theorem ewn7 : ∀ a, a < 17 → ∀ b, b < 17 → a ≠ b → (ewT7 a).2.1 ≠ (ewT7 b).2.1 := by decide +kernel
theorem ewto7 : ∀ k, k < 17 → parseFieldDescriptor (ewT7 k).2.2.1 = some (ewt7 k) := by decide +kernel
theorem ewi7 : ∀ w ∈ u_ws "EightWays" ewT7 17, w ∈ lw_tbl := by
  have h : u_ws "EightWays" ewT7 17 = [376, 378, 380, 382, 384, 386, 388, 390, 392, 394, 396, 398, 400, 402, 404, 406, 408].filterMap (fun i => tables_1[i]?) := by decide +kernel
  intro w hw
  rw [h] at hw
  obtain ⟨i, -, hi⟩ := List.mem_filterMap.mp hw
  exact List.mem_append_right _ (List.mem_of_getElem? hi)
def ewT8 : u_T := fun k => match k with
  | 0 => ("EightWaysModel", "stations", "I", false)
  | 1 => ("EightWaysModel", "stretches", "I", false)
  | 2 => ("EightWaysModel", "one", "[I", true)
  | 3 => ("EightWaysModel", "two", "[I", true)
  | 4 => ("EightWaysModel", "lines", "I", false)
  | 5 => ("EightWaysModel", "from", "[I", true)
  | 6 => ("EightWaysModel", "to", "[I", true)
  | 7 => ("EightWaysModel", "many", "[I", true)
  | 8 => ("EightWaysModel", "edges", "[I", true)
  | 9 => ("EightWaysModel", "nodes", "[I", true)
  | 10 => ("EightWaysModel", "now", "[I", true)
  | 11 => ("EightWaysModel", "text", "[I", true)
  | 12 => ("EightWaysModel", "texted", "I", false)
  | 13 => ("EightWaysModel", "faultPlace", "I", false)
  | 14 => ("EightWaysModel", "why", "I", false)
  | 15 => ("EightWaysModel", "at0", "I", false)
  | 16 => ("EightWaysModel", "number", "I", false)
  | 17 => ("EightWaysModel", "numberAt", "I", false)
  | 18 => ("EightWaysModel", "readStations", "I", false)
  | 19 => ("EightWaysModel", "readX", "[I", true)
  | 20 => ("EightWaysModel", "readY", "[I", true)
  | 21 => ("EightWaysModel", "readStretches", "I", false)
  | 22 => ("EightWaysModel", "readOne", "[I", true)
  | 23 => ("EightWaysModel", "readTwo", "[I", true)
  | 24 => ("EightWaysModel", "readLines", "I", false)
  | 25 => ("EightWaysModel", "readFrom", "[I", true)
  | 26 => ("EightWaysModel", "readTo", "[I", true)
  | 27 => ("EightWaysModel", "group", "[I", true)
  | 28 => ("EightWaysModel", "far", "[I", true)
  | 29 => ("EightWaysModel", "trues", "[I", true)
  | 30 => ("EightWaysModel", "tried", "[I", true)
  | 31 => ("EightWaysModel", "best", "[I", true)
  | 32 => ("EightWaysModel", "cost", "I", false)
  | 33 => ("EightWaysModel", "planMany", "I", false)
  | 34 => ("EightWaysModel", "root", "[I", true)
  | 35 => ("EightWaysModel", "placeX", "[I", true)
  | 36 => ("EightWaysModel", "placeY", "[I", true)
  | 37 => ("EightWaysModel", "length", "[I", true)
  | 38 => ("EightWaysModel", "triedLength", "[I", true)
  | 39 => ("EightWaysModel", "lengths", "I", false)
  | 40 => ("EightWaysModel", "isPlaced", "[Z", true)
  | 41 => ("EightWaysModel", "linesOn", "[I", true)
  | 42 => ("EightWaysModel", "tryOrder", "[I", true)
  | 43 => ("EightWaysModel", "orders", "[I", true)
  | 44 => ("EightWaysModel", "choice", "[I", true)
  | 45 => ("EightWaysModel", "soFar", "[I", true)
  | 46 => ("EightWaysModel", "crossed", "I", false)
  | 47 => ("EightWaysModel", "undos", "I", false)
  | 48 => ("EightWaysModel", "past", "[I", true)
  | 49 => ("EightWaysModel", "images", "[I", true)
  | _ => ("EightWaysModel", "isKept", "[Z", true)
def ewt8 : Nat → FieldType := fun k => match k with
  | 0 => .int
  | 1 => .int
  | 2 => .array .int
  | 3 => .array .int
  | 4 => .int
  | 5 => .array .int
  | 6 => .array .int
  | 7 => .array .int
  | 8 => .array .int
  | 9 => .array .int
  | 10 => .array .int
  | 11 => .array .int
  | 12 => .int
  | 13 => .int
  | 14 => .int
  | 15 => .int
  | 16 => .int
  | 17 => .int
  | 18 => .int
  | 19 => .array .int
  | 20 => .array .int
  | 21 => .int
  | 22 => .array .int
  | 23 => .array .int
  | 24 => .int
  | 25 => .array .int
  | 26 => .array .int
  | 27 => .array .int
  | 28 => .array .int
  | 29 => .array .int
  | 30 => .array .int
  | 31 => .array .int
  | 32 => .int
  | 33 => .int
  | 34 => .array .int
  | 35 => .array .int
  | 36 => .array .int
  | 37 => .array .int
  | 38 => .array .int
  | 39 => .int
  | 40 => .array .boolean
  | 41 => .array .int
  | 42 => .array .int
  | 43 => .array .int
  | 44 => .array .int
  | 45 => .array .int
  | 46 => .int
  | 47 => .int
  | 48 => .array .int
  | 49 => .array .int
  | _ => .array .boolean
theorem ewn8 : ∀ a, a < 51 → ∀ b, b < 51 → a ≠ b → (ewT8 a).2.1 ≠ (ewT8 b).2.1 := by decide +kernel
theorem ewto8 : ∀ k, k < 51 → parseFieldDescriptor (ewT8 k).2.2.1 = some (ewt8 k) := by decide +kernel
theorem ewi8 : ∀ w ∈ u_ws "EightWaysModel" ewT8 51, w ∈ lw_tbl := by
  have h : u_ws "EightWaysModel" ewT8 51 = [953, 955, 957, 959, 961, 963, 965, 967, 969, 971, 973, 975, 977, 979, 981, 983, 985, 987, 989, 991, 993, 995, 997, 999, 1001, 1003, 1005, 1007, 1009, 1011, 1013, 1015, 1017, 1019, 1021, 1023, 1025, 1027, 1029, 1031, 1033, 1035, 1037, 1039, 1041, 1043, 1045, 1047, 1049, 1051, 1053].filterMap (fun i => tables_1[i]?) := by decide +kernel
  intro w hw
  rw [h] at hw
  obtain ⟨i, -, hi⟩ := List.mem_filterMap.mp hw
  exact List.mem_append_right _ (List.mem_of_getElem? hi)
abbrev ewCl : List vw_C := [("EightWays$Chart", ewT0, 7), ("EightWays$Net", ewT1, 20), ("EightWays$Past", ewT2, 3), ("EightWays$Places", ewT3, 12), ("EightWays$Reader", ewT4, 7), ("EightWays$Setting", ewT5, 5), ("EightWays$Sides", ewT6, 16), ("EightWays", ewT7, 17), ("EightWaysModel", ewT8, 51)]
def ewN : Nat → Nat := fun c => match c with
  | 0 => 7
  | 1 => 20
  | 2 => 3
  | 3 => 12
  | 4 => 7
  | 5 => 5
  | 6 => 16
  | 7 => 17
  | 8 => 51
  | _ => 0
def ewty : Nat → Nat → FieldType := fun c => match c with
  | 0 => ewt0
  | 1 => ewt1
  | 2 => ewt2
  | 3 => ewt3
  | 4 => ewt4
  | 5 => ewt5
  | 6 => ewt6
  | 7 => ewt7
  | _ => ewt8
def ewOwn : Nat → String := fun c => match c with
  | 0 => "EightWays$Chart"
  | 1 => "EightWays$Net"
  | 2 => "EightWays$Past"
  | 3 => "EightWays$Places"
  | 4 => "EightWays$Reader"
  | 5 => "EightWays$Setting"
  | 6 => "EightWays$Sides"
  | 7 => "EightWays"
  | 8 => "EightWaysModel"
  | 9 => "EightWaysLaw"
  | 10 => "java/lang/Math"
  | _ => "java/util/Arrays"
/-- 0 int, 1 boolean, 2 a reference -/
def ewFT : Nat → Nat → Nat := fun c j => match c with
  | 0 => 2728 / 4 ^ j % 4
  | 1 => 733007751808 / 4 ^ j % 4
  | 2 => 32 / 4 ^ j % 4
  | 3 => 11184800 / 4 ^ j % 4
  | 4 => 128 / 4 ^ j % 4
  | 5 => 672 / 4 ^ j % 4
  | 6 => 2829757096 / 4 ^ j % 4
  | 7 => 1437215402 / 4 ^ j % 4
  | 8 => 3330883394389818706347606845600 / 4 ^ j % 4
  | _ => 0
abbrev ewMt : Type := ByteArray × MethodName × Nat × Option FieldType × Nat × Nat × Nat
abbrev Ch_init : ewMt := (prog_2_method_1_code, ⟨"EightWays$Chart", "<init>", "(LEightWays$Net;LEightWays$Setting;)V"⟩, 3, none, 3, 21, 0)
abbrev Ch_draw : ewMt := (prog_2_method_2_code, ⟨"EightWays$Chart", "draw", "(LEightWays$Net;)V"⟩, 3, none, 0, 0, 0)
abbrev Ch_seek : ewMt := (prog_2_method_3_code, ⟨"EightWays$Chart", "seek", "(II)V"⟩, 6, none, 0, 0, 0)
abbrev Ch_tallyPlans : ewMt := (prog_2_method_4_code, ⟨"EightWays$Chart", "tallyPlans", "()I"⟩, 1, some .int, 0, 0, 0)
abbrev Ch_tallyFrom : ewMt := (prog_2_method_5_code, ⟨"EightWays$Chart", "tallyFrom", "(I)I"⟩, 5, some .int, 0, 0, 0)
abbrev Ch_choice : ewMt := (prog_2_method_6_code, ⟨"EightWays$Chart", "choice", "(II)I"⟩, 4, some .int, 0, 0, 0)
abbrev Ch_isFree : ewMt := (prog_2_method_7_code, ⟨"EightWays$Chart", "isFree", "(I)Z"⟩, 3, some .boolean, 0, 0, 0)
abbrev Ch_added : ewMt := (prog_2_method_8_code, ⟨"EightWays$Chart", "added", "(I)I"⟩, 5, some .int, 0, 0, 0)
abbrev Ch_turned : ewMt := (prog_2_method_9_code, ⟨"EightWays$Chart", "turned", "([III)I"⟩, 4, some .int, 0, 0, 0)
abbrev Ch_off : ewMt := (prog_2_method_10_code, ⟨"EightWays$Chart", "off", "(I)I"⟩, 2, some .int, 0, 0, 0)
abbrev Ch_bendsOf : ewMt := (prog_2_method_11_code, ⟨"EightWays$Chart", "bendsOf", "(I)I"⟩, 6, some .int, 0, 0, 0)
abbrev Ch_bends : ewMt := (prog_2_method_12_code, ⟨"EightWays$Chart", "bends", "()I"⟩, 3, some .int, 0, 0, 0)
abbrev Ne_init : ewMt := (prog_3_method_1_code, ⟨"EightWays$Net", "<init>", "()V"⟩, 1, none, 31, 257, 1)
abbrev Ne_clear : ewMt := (prog_3_method_2_code, ⟨"EightWays$Net", "clear", "()V"⟩, 2, none, 0, 0, 1)
abbrev Ne_isFull : ewMt := (prog_3_method_3_code, ⟨"EightWays$Net", "isFull", "(I)Z"⟩, 2, some .boolean, 0, 0, 1)
abbrev Ne_add : ewMt := (prog_3_method_4_code, ⟨"EightWays$Net", "add", "(III)V"⟩, 4, none, 0, 0, 1)
abbrev Ne_joined : ewMt := (prog_3_method_5_code, ⟨"EightWays$Net", "joined", "(II)Z"⟩, 3, some .boolean, 0, 0, 1)
abbrev Ne_least : ewMt := (prog_3_method_6_code, ⟨"EightWays$Net", "least", "(I)I"⟩, 3, some .int, 0, 0, 1)
abbrev Ne_degree : ewMt := (prog_3_method_7_code, ⟨"EightWays$Net", "degree", "(I)I"⟩, 4, some .int, 0, 0, 1)
abbrev Ne_touches : ewMt := (prog_3_method_8_code, ⟨"EightWays$Net", "touches", "(II)Z"⟩, 3, some .boolean, 0, 0, 1)
abbrev Ne_addStation : ewMt := (prog_3_method_9_code, ⟨"EightWays$Net", "addStation", "(II)V"⟩, 3, none, 0, 0, 1)
abbrev Ne_addStretch : ewMt := (prog_3_method_10_code, ⟨"EightWays$Net", "addStretch", "(II)V"⟩, 6, none, 0, 0, 1)
abbrev Ne_meeting : ewMt := (prog_3_method_11_code, ⟨"EightWays$Net", "meeting", "(II)I"⟩, 3, some .int, 0, 0, 1)
abbrev Ne_addLine : ewMt := (prog_3_method_12_code, ⟨"EightWays$Net", "addLine", "(II)V"⟩, 7, none, 0, 0, 1)
abbrev Ne_passThrough : ewMt := (prog_3_method_13_code, ⟨"EightWays$Net", "passThrough", "(IIII)V"⟩, 5, none, 0, 0, 1)
abbrev Ne_leadTo : ewMt := (prog_3_method_14_code, ⟨"EightWays$Net", "leadTo", "(I)V"⟩, 7, none, 0, 0, 1)
abbrev Pa_init : ewMt := (prog_4_method_1_code, ⟨"EightWays$Past", "<init>", "()V"⟩, 2, none, 65, 464, 2)
abbrev Pa_clear : ewMt := (prog_4_method_2_code, ⟨"EightWays$Past", "clear", "()V"⟩, 1, none, 0, 0, 2)
abbrev Pa_hold : ewMt := (prog_4_method_3_code, ⟨"EightWays$Past", "hold", "(LEightWays$Setting;)V"⟩, 2, none, 0, 0, 2)
abbrev Pa_giveBack : ewMt := (prog_4_method_4_code, ⟨"EightWays$Past", "giveBack", "(LEightWays$Setting;)Z"⟩, 2, some .boolean, 0, 0, 2)
abbrev Pl_init : ewMt := (prog_5_method_1_code, ⟨"EightWays$Places", "<init>", "(LEightWays$Chart;)V"⟩, 2, none, 23, 182, 3)
abbrev Pl_settle : ewMt := (prog_5_method_2_code, ⟨"EightWays$Places", "settle", "()V"⟩, 1, none, 0, 0, 3)
abbrev Pl_stretchOut : ewMt := (prog_5_method_3_code, ⟨"EightWays$Places", "stretchOut", "(II)V"⟩, 5, none, 0, 0, 3)
abbrev Pl_take : ewMt := (prog_5_method_4_code, ⟨"EightWays$Places", "take", "(I)V"⟩, 5, none, 0, 0, 3)
abbrev Pl_join : ewMt := (prog_5_method_5_code, ⟨"EightWays$Places", "join", "(II)V"⟩, 9, none, 0, 0, 3)
abbrev Pl_isClear : ewMt := (prog_5_method_6_code, ⟨"EightWays$Places", "isClear", "(I)Z"⟩, 5, some .boolean, 0, 0, 3)
abbrev Pl_isTaken : ewMt := (prog_5_method_7_code, ⟨"EightWays$Places", "isTaken", "([I[IIII)Z"⟩, 7, some .boolean, 0, 0, 3)
abbrev Pl_putSigns : ewMt := (prog_5_method_8_code, ⟨"EightWays$Places", "putSigns", "()V"⟩, 2, none, 0, 0, 3)
abbrev Pl_signOf : ewMt := (prog_5_method_9_code, ⟨"EightWays$Places", "signOf", "(I)I"⟩, 3, some .int, 0, 0, 3)
abbrev Pl_isUsed : ewMt := (prog_5_method_10_code, ⟨"EightWays$Places", "isUsed", "(II)Z"⟩, 4, some .boolean, 0, 0, 3)
abbrev Re_init : ewMt := (prog_6_method_1_code, ⟨"EightWays$Reader", "<init>", "()V"⟩, 1, none, 1, 240, 4)
abbrev Re_take : ewMt := (prog_6_method_2_code, ⟨"EightWays$Reader", "take", "(I)Z"⟩, 2, some .boolean, 0, 0, 4)
abbrev Re_read : ewMt := (prog_6_method_3_code, ⟨"EightWays$Reader", "read", "(LEightWays$Net;)I"⟩, 3, some .int, 0, 0, 4)
abbrev Re_readClause : ewMt := (prog_6_method_4_code, ⟨"EightWays$Reader", "readClause", "(LEightWays$Net;I)V"⟩, 5, none, 0, 0, 4)
abbrev Re_readNumber : ewMt := (prog_6_method_5_code, ⟨"EightWays$Reader", "readNumber", "()I"⟩, 3, some .int, 0, 0, 4)
abbrev Re_checkStation : ewMt := (prog_6_method_6_code, ⟨"EightWays$Reader", "checkStation", "(LEightWays$Net;II)V"⟩, 4, none, 0, 0, 4)
abbrev Re_checkSense : ewMt := (prog_6_method_7_code, ⟨"EightWays$Reader", "checkSense", "(LEightWays$Net;III)V"⟩, 6, none, 0, 0, 4)
abbrev Re_readEnd : ewMt := (prog_6_method_8_code, ⟨"EightWays$Reader", "readEnd", "()V"⟩, 1, none, 0, 0, 4)
abbrev Re_skipBlanks : ewMt := (prog_6_method_9_code, ⟨"EightWays$Reader", "skipBlanks", "()V"⟩, 1, none, 0, 0, 4)
abbrev Re_blame : ewMt := (prog_6_method_10_code, ⟨"EightWays$Reader", "blame", "(II)V"⟩, 3, none, 0, 0, 4)
abbrev Re_isFigure : ewMt := (prog_6_method_11_code, ⟨"EightWays$Reader", "isFigure", "(I)Z"⟩, 1, some .boolean, 0, 0, 4)
abbrev Se_init : ewMt := (prog_7_method_1_code, ⟨"EightWays$Setting", "<init>", "()V"⟩, 1, none, 3, 23, 5)
abbrev Se_start : ewMt := (prog_7_method_2_code, ⟨"EightWays$Setting", "start", "(LEightWays$Net;)V"⟩, 2, none, 0, 0, 5)
abbrev Se_become : ewMt := (prog_7_method_3_code, ⟨"EightWays$Setting", "become", "(LEightWays$Setting;)V"⟩, 2, none, 0, 0, 5)
abbrev Se_fixedSet : ewMt := (prog_7_method_4_code, ⟨"EightWays$Setting", "fixedSet", "()I"⟩, 3, some .int, 0, 0, 5)
abbrev Se_scatter : ewMt := (prog_7_method_5_code, ⟨"EightWays$Setting", "scatter", "(II)V"⟩, 6, none, 0, 0, 5)
abbrev Si_init : ewMt := (prog_8_method_1_code, ⟨"EightWays$Sides", "<init>", "(LEightWays$Chart;)V"⟩, 2, none, 11, 129, 6)
abbrev Si_settle : ewMt := (prog_8_method_2_code, ⟨"EightWays$Sides", "settle", "()V"⟩, 1, none, 0, 0, 6)
abbrev Si_lineAt : ewMt := (prog_8_method_3_code, ⟨"EightWays$Sides", "lineAt", "(II)I"⟩, 6, some .int, 0, 0, 6)
abbrev Si_crossedAt : ewMt := (prog_8_method_4_code, ⟨"EightWays$Sides", "crossedAt", "(I)I"⟩, 2, some .int, 0, 0, 6)
abbrev Si_crossedBy : ewMt := (prog_8_method_5_code, ⟨"EightWays$Sides", "crossedBy", "(II)I"⟩, 5, some .int, 0, 0, 6)
abbrev Si_pairOf : ewMt := (prog_8_method_6_code, ⟨"EightWays$Sides", "pairOf", "(II)I"⟩, 2, some .int, 0, 0, 6)
abbrev Si_lookAtStations : ewMt := (prog_8_method_7_code, ⟨"EightWays$Sides", "lookAtStations", "()V"⟩, 4, none, 0, 0, 6)
abbrev Si_lookAt : ewMt := (prog_8_method_8_code, ⟨"EightWays$Sides", "lookAt", "(III)V"⟩, 11, none, 0, 0, 6)
abbrev Si_pairUp : ewMt := (prog_8_method_9_code, ⟨"EightWays$Sides", "pairUp", "(IIII)V"⟩, 5, none, 0, 0, 6)
abbrev Si_part : ewMt := (prog_8_method_10_code, ⟨"EightWays$Sides", "part", "(IIIII)V"⟩, 9, none, 0, 0, 6)
abbrev Si_turnOf : ewMt := (prog_8_method_11_code, ⟨"EightWays$Sides", "turnOf", "(II)I"⟩, 3, some .int, 0, 0, 6)
abbrev Si_countPartings : ewMt := (prog_8_method_12_code, ⟨"EightWays$Sides", "countPartings", "()V"⟩, 3, none, 0, 0, 6)
abbrev Si_chooseRankings : ewMt := (prog_8_method_13_code, ⟨"EightWays$Sides", "chooseRankings", "()V"⟩, 4, none, 0, 0, 6)
abbrev Si_isAlone : ewMt := (prog_8_method_14_code, ⟨"EightWays$Sides", "isAlone", "(I)Z"⟩, 2, some .boolean, 0, 0, 6)
abbrev Si_fewestCrossings : ewMt := (prog_8_method_15_code, ⟨"EightWays$Sides", "fewestCrossings", "()I"⟩, 3, some .int, 0, 0, 6)
abbrev Si_isChainEnd : ewMt := (prog_8_method_16_code, ⟨"EightWays$Sides", "isChainEnd", "(I)Z"⟩, 2, some .boolean, 0, 0, 6)
abbrev Si_isPaired : ewMt := (prog_8_method_17_code, ⟨"EightWays$Sides", "isPaired", "(II)Z"⟩, 3, some .boolean, 0, 0, 6)
abbrev Si_alongChain : ewMt := (prog_8_method_18_code, ⟨"EightWays$Sides", "alongChain", "(I)I"⟩, 6, some .int, 0, 0, 6)
abbrev Si_goOn : ewMt := (prog_8_method_19_code, ⟨"EightWays$Sides", "goOn", "(II)V"⟩, 8, none, 0, 0, 6)
abbrev Si_nextJoint : ewMt := (prog_8_method_20_code, ⟨"EightWays$Sides", "nextJoint", "(I)I"⟩, 4, some .int, 0, 0, 6)
abbrev Si_otherAt : ewMt := (prog_8_method_21_code, ⟨"EightWays$Sides", "otherAt", "(II)I"⟩, 3, some .int, 0, 0, 6)
abbrev Si_partingCrossed : ewMt := (prog_8_method_22_code, ⟨"EightWays$Sides", "partingCrossed", "(II)I"⟩, 3, some .int, 0, 0, 6)
abbrev Si_markCrossed : ewMt := (prog_8_method_23_code, ⟨"EightWays$Sides", "markCrossed", "()V"⟩, 3, none, 0, 0, 6)
abbrev Ew_init : ewMt := (prog_1_method_1_code, ⟨"EightWays", "<init>", "()V"⟩, 2, none, 193, 1777, 7)
abbrev Ew_feed : ewMt := (prog_1_method_2_code, ⟨"EightWays", "feed", "(I)I"⟩, 2, some .int, 0, 0, 7)
abbrev Ew_net : ewMt := (prog_1_method_3_code, ⟨"EightWays", "net", "()I"⟩, 3, some .int, 0, 0, 7)
abbrev Ew_fault : ewMt := (prog_1_method_4_code, ⟨"EightWays", "fault", "(I)I"⟩, 2, some .int, 0, 0, 7)
abbrev Ew_told : ewMt := (prog_1_method_5_code, ⟨"EightWays", "told", "(I)I"⟩, 2, some .int, 0, 0, 7)
abbrev Ew_station : ewMt := (prog_1_method_6_code, ⟨"EightWays", "station", "(II)I"⟩, 3, some .int, 0, 0, 7)
abbrev Ew_stretch : ewMt := (prog_1_method_7_code, ⟨"EightWays", "stretch", "(II)I"⟩, 3, some .int, 0, 0, 7)
abbrev Ew_line : ewMt := (prog_1_method_8_code, ⟨"EightWays", "line", "(II)I"⟩, 3, some .int, 0, 0, 7)
abbrev Ew_along : ewMt := (prog_1_method_9_code, ⟨"EightWays", "along", "(II)I"⟩, 3, some .int, 0, 0, 7)
abbrev Ew_fix : ewMt := (prog_1_method_10_code, ⟨"EightWays", "fix", "(II)I"⟩, 3, some .int, 0, 0, 7)
abbrev Ew_loose : ewMt := (prog_1_method_11_code, ⟨"EightWays", "loose", "(I)I"⟩, 3, some .int, 0, 0, 7)
abbrev Ew_count : ewMt := (prog_1_method_12_code, ⟨"EightWays", "count", "(II)I"⟩, 3, some .int, 0, 0, 7)
abbrev Ew_move : ewMt := (prog_1_method_13_code, ⟨"EightWays", "move", "(III)I"⟩, 4, some .int, 0, 0, 7)
abbrev Ew_drift : ewMt := (prog_1_method_14_code, ⟨"EightWays", "drift", "(I)I"⟩, 2, some .int, 0, 0, 7)
abbrev Ew_undo : ewMt := (prog_1_method_15_code, ⟨"EightWays", "undo", "()I"⟩, 1, some .int, 0, 0, 7)
abbrev Ew_bend : ewMt := (prog_1_method_16_code, ⟨"EightWays", "bend", "(II)I"⟩, 3, some .int, 0, 0, 7)
abbrev Ew_would : ewMt := (prog_1_method_17_code, ⟨"EightWays", "would", "(II)I"⟩, 3, some .int, 0, 0, 7)
abbrev Ew_plans : ewMt := (prog_1_method_18_code, ⟨"EightWays", "plans", "()I"⟩, 1, some .int, 0, 0, 7)
abbrev Ew_order : ewMt := (prog_1_method_19_code, ⟨"EightWays", "order", "(II)I"⟩, 3, some .int, 0, 0, 7)
abbrev Ew_crossings : ewMt := (prog_1_method_20_code, ⟨"EightWays", "crossings", "(I)I"⟩, 2, some .int, 0, 0, 7)
abbrev Ew_cross : ewMt := (prog_1_method_21_code, ⟨"EightWays", "cross", "(II)I"⟩, 3, some .int, 0, 0, 7)
abbrev Ew_keep : ewMt := (prog_1_method_22_code, ⟨"EightWays", "keep", "(I)I"⟩, 2, some .int, 0, 0, 7)
abbrev Ew_goBack : ewMt := (prog_1_method_23_code, ⟨"EightWays", "goBack", "(I)I"⟩, 2, some .int, 0, 0, 7)
abbrev Ew_isStation : ewMt := (prog_1_method_24_code, ⟨"EightWays", "isStation", "(I)Z"⟩, 2, some .boolean, 0, 0, 7)
abbrev Ew_isStretch : ewMt := (prog_1_method_25_code, ⟨"EightWays", "isStretch", "(I)Z"⟩, 2, some .boolean, 0, 0, 7)
abbrev Ew_isLine : ewMt := (prog_1_method_26_code, ⟨"EightWays", "isLine", "(I)Z"⟩, 2, some .boolean, 0, 0, 7)
abbrev Ew_isImage : ewMt := (prog_1_method_27_code, ⟨"EightWays", "isImage", "(I)Z"⟩, 1, some .boolean, 0, 0, 7)
abbrev Ew_isDirection : ewMt := (prog_1_method_28_code, ⟨"EightWays", "isDirection", "(I)Z"⟩, 1, some .boolean, 0, 0, 7)
abbrev Ew_isWay : ewMt := (prog_1_method_29_code, ⟨"EightWays", "isWay", "(I)Z"⟩, 1, some .boolean, 0, 0, 7)
abbrev Ew_startChange : ewMt := (prog_1_method_30_code, ⟨"EightWays", "startChange", "()V"⟩, 1, none, 0, 0, 7)
abbrev Ew_forget : ewMt := (prog_1_method_31_code, ⟨"EightWays", "forget", "()V"⟩, 1, none, 0, 0, 7)
abbrev Ew_knownBest : ewMt := (prog_1_method_32_code, ⟨"EightWays", "knownBest", "()LEightWays$Chart;"⟩, 1, some (.object "EightWays$Chart"), 0, 0, 7)
abbrev Ew_knownPlaces : ewMt := (prog_1_method_33_code, ⟨"EightWays", "knownPlaces", "()LEightWays$Places;"⟩, 1, some (.object "EightWays$Places"), 0, 0, 7)
abbrev Ew_knownSides : ewMt := (prog_1_method_34_code, ⟨"EightWays", "knownSides", "()LEightWays$Sides;"⟩, 1, some (.object "EightWays$Sides"), 0, 0, 7)
abbrev Ew_trueOf : ewMt := (prog_1_method_35_code, ⟨"EightWays", "trueOf", "(LEightWays$Net;LEightWays$Setting;I)I"⟩, 5, some .int, 0, 0, 7)
abbrev Ew_trueDirection : ewMt := (prog_1_method_36_code, ⟨"EightWays", "trueDirection", "(II)I"⟩, 4, some .int, 0, 0, 7)
abbrev Ew_apart : ewMt := (prog_1_method_37_code, ⟨"EightWays", "apart", "(II)I"⟩, 2, some .int, 0, 0, 7)
abbrev Ew_counted : ewMt := (prog_1_method_38_code, ⟨"EightWays", "counted", "(II)I"⟩, 2, some .int, 0, 0, 7)
abbrev Ew_has : ewMt := (prog_1_method_39_code, ⟨"EightWays", "has", "(II)Z"⟩, 2, some .boolean, 0, 0, 7)
abbrev Mo_init : ewMt := (prog_10_method_1_code, ⟨"EightWaysModel", "<init>", "()V"⟩, 1, none, 34, 971, 8)
abbrev Mo_begin : ewMt := (prog_10_method_3_code, ⟨"EightWaysModel", "begin", "()V"⟩, 2, none, 0, 0, 8)
abbrev Mo_in : ewMt := (prog_10_method_4_code, ⟨"EightWaysModel", "in", "(JJJ)Z"⟩, 6, some .boolean, 0, 0, 8)
abbrev Mo_isStation : ewMt := (prog_10_method_5_code, ⟨"EightWaysModel", "isStation", "(I)Z"⟩, 2, some .boolean, 0, 0, 8)
abbrev Mo_isStretch : ewMt := (prog_10_method_6_code, ⟨"EightWaysModel", "isStretch", "(I)Z"⟩, 2, some .boolean, 0, 0, 8)
abbrev Mo_isLine : ewMt := (prog_10_method_7_code, ⟨"EightWaysModel", "isLine", "(I)Z"⟩, 2, some .boolean, 0, 0, 8)
abbrev Mo_feed : ewMt := (prog_10_method_8_code, ⟨"EightWaysModel", "feed", "(I)I"⟩, 2, some .int, 0, 0, 8)
abbrev Mo_here : ewMt := (prog_10_method_9_code, ⟨"EightWaysModel", "here", "()I"⟩, 1, some .int, 0, 0, 8)
abbrev Mo_fails : ewMt := (prog_10_method_10_code, ⟨"EightWaysModel", "fails", "(II)I"⟩, 3, some .int, 0, 0, 8)
abbrev Mo_takeNumber : ewMt := (prog_10_method_11_code, ⟨"EightWaysModel", "takeNumber", "(I)I"⟩, 3, some .int, 0, 0, 8)
abbrev Mo_takeStation : ewMt := (prog_10_method_12_code, ⟨"EightWaysModel", "takeStation", "()I"⟩, 3, some .int, 0, 0, 8)
abbrev Mo_failsBy : ewMt := (prog_10_method_13_code, ⟨"EightWaysModel", "failsBy", "(I)I"⟩, 2, some .int, 0, 0, 8)
abbrev Mo_takeStretch : ewMt := (prog_10_method_14_code, ⟨"EightWaysModel", "takeStretch", "()I"⟩, 7, some .int, 0, 0, 8)
abbrev Mo_takeLine : ewMt := (prog_10_method_15_code, ⟨"EightWaysModel", "takeLine", "()I"⟩, 5, some .int, 0, 0, 8)
abbrev Mo_takeClause : ewMt := (prog_10_method_16_code, ⟨"EightWaysModel", "takeClause", "()I"⟩, 3, some .int, 0, 0, 8)
abbrev Mo_net : ewMt := (prog_10_method_17_code, ⟨"EightWaysModel", "net", "()I"⟩, 2, some .int, 0, 0, 8)
abbrev Mo_takeRead : ewMt := (prog_10_method_18_code, ⟨"EightWaysModel", "takeRead", "()V"⟩, 2, none, 0, 0, 8)
abbrev Mo_layFar : ewMt := (prog_10_method_19_code, ⟨"EightWaysModel", "layFar", "(I)V"⟩, 6, none, 0, 0, 8)
abbrev Mo_layLine : ewMt := (prog_10_method_20_code, ⟨"EightWaysModel", "layLine", "(I)V"⟩, 7, none, 0, 0, 8)
abbrev Mo_fault : ewMt := (prog_10_method_21_code, ⟨"EightWaysModel", "fault", "(I)I"⟩, 2, some .int, 0, 0, 8)
abbrev Mo_trueOf : ewMt := (prog_10_method_22_code, ⟨"EightWaysModel", "trueOf", "(I)I"⟩, 8, some .int, 0, 0, 8)
abbrev Mo_apart : ewMt := (prog_10_method_23_code, ⟨"EightWaysModel", "apart", "(II)I"⟩, 3, some .int, 0, 0, 8)
abbrev Mo_counted : ewMt := (prog_10_method_24_code, ⟨"EightWaysModel", "counted", "(II)I"⟩, 2, some .int, 0, 0, 8)
abbrev Mo_goesFrom : ewMt := (prog_10_method_25_code, ⟨"EightWaysModel", "goesFrom", "(II)Z"⟩, 3, some .boolean, 0, 0, 8)
abbrev Mo_wayFrom : ewMt := (prog_10_method_26_code, ⟨"EightWaysModel", "wayFrom", "([III)I"⟩, 4, some .int, 0, 0, 8)
abbrev Mo_areUnlike : ewMt := (prog_10_method_27_code, ⟨"EightWaysModel", "areUnlike", "()Z"⟩, 5, some .boolean, 0, 0, 8)
abbrev Mo_bendsOf : ewMt := (prog_10_method_28_code, ⟨"EightWaysModel", "bendsOf", "([II)I"⟩, 7, some .int, 0, 0, 8)
abbrev Mo_bends : ewMt := (prog_10_method_29_code, ⟨"EightWaysModel", "bends", "([I)I"⟩, 4, some .int, 0, 0, 8)
abbrev Mo_costOf : ewMt := (prog_10_method_30_code, ⟨"EightWaysModel", "costOf", "([I)I"⟩, 4, some .int, 0, 0, 8)
abbrev Mo_layPlan : ewMt := (prog_10_method_31_code, ⟨"EightWaysModel", "layPlan", "()V"⟩, 7, none, 0, 0, 8)
abbrev Mo_takeTried : ewMt := (prog_10_method_32_code, ⟨"EightWaysModel", "takeTried", "()V"⟩, 3, none, 0, 0, 8)
abbrev Mo_layRoots : ewMt := (prog_10_method_33_code, ⟨"EightWaysModel", "layRoots", "()V"⟩, 4, none, 0, 0, 8)
abbrev Mo_stepX : ewMt := (prog_10_method_34_code, ⟨"EightWaysModel", "stepX", "(I)I"⟩, 1, some .int, 0, 0, 8)
abbrev Mo_stepY : ewMt := (prog_10_method_35_code, ⟨"EightWaysModel", "stepY", "(I)I"⟩, 1, some .int, 0, 0, 8)
abbrev Mo_layPlaces : ewMt := (prog_10_method_36_code, ⟨"EightWaysModel", "layPlaces", "([I)V"⟩, 7, none, 0, 0, 8)
abbrev Mo_isTaken : ewMt := (prog_10_method_37_code, ⟨"EightWaysModel", "isTaken", "(IIII)Z"⟩, 7, some .boolean, 0, 0, 8)
abbrev Mo_areApart : ewMt := (prog_10_method_38_code, ⟨"EightWaysModel", "areApart", "()Z"⟩, 3, some .boolean, 0, 0, 8)
abbrev Mo_layLengths : ewMt := (prog_10_method_39_code, ⟨"EightWaysModel", "layLengths", "()V"⟩, 6, none, 0, 0, 8)
abbrev Mo_takeLengths : ewMt := (prog_10_method_40_code, ⟨"EightWaysModel", "takeLengths", "(I)V"⟩, 3, none, 0, 0, 8)
abbrev Mo_signOf : ewMt := (prog_10_method_41_code, ⟨"EightWaysModel", "signOf", "(I)I"⟩, 5, some .int, 0, 0, 8)
abbrev Mo_signs : ewMt := (prog_10_method_42_code, ⟨"EightWaysModel", "signs", "()I"⟩, 3, some .int, 0, 0, 8)
abbrev Mo_linesAlong : ewMt := (prog_10_method_43_code, ⟨"EightWaysModel", "linesAlong", "(I)I"⟩, 5, some .int, 0, 0, 8)
abbrev Mo_bits : ewMt := (prog_10_method_44_code, ⟨"EightWaysModel", "bits", "(I)I"⟩, 1, some .int, 0, 0, 8)
abbrev Mo_pick : ewMt := (prog_10_method_45_code, ⟨"EightWaysModel", "pick", "(II)I"⟩, 4, some .int, 0, 0, 8)
abbrev Mo_layOrder : ewMt := (prog_10_method_46_code, ⟨"EightWaysModel", "layOrder", "(II)V"⟩, 9, none, 0, 0, 8)
abbrev Mo_ordersOf : ewMt := (prog_10_method_47_code, ⟨"EightWaysModel", "ordersOf", "(I)I"⟩, 3, some .int, 0, 0, 8)
abbrev Mo_isLeft : ewMt := (prog_10_method_48_code, ⟨"EightWaysModel", "isLeft", "([IIIIZ)Z"⟩, 9, some .boolean, 0, 0, 8)
abbrev Mo_within : ewMt := (prog_10_method_49_code, ⟨"EightWaysModel", "within", "(II)I"⟩, 5, some .int, 0, 0, 8)
abbrev Mo_turnOf : ewMt := (prog_10_method_50_code, ⟨"EightWaysModel", "turnOf", "(III)I"⟩, 5, some .int, 0, 0, 8)
abbrev Mo_hangsOn : ewMt := (prog_10_method_51_code, ⟨"EightWaysModel", "hangsOn", "(III)I"⟩, 12, some .int, 0, 0, 8)
abbrev Mo_doCross : ewMt := (prog_10_method_52_code, ⟨"EightWaysModel", "doCross", "([IIII)Z"⟩, 16, some .boolean, 0, 0, 8)
abbrev Mo_crossedBy : ewMt := (prog_10_method_53_code, ⟨"EightWaysModel", "crossedBy", "(I)I"⟩, 7, some .int, 0, 0, 8)
abbrev Mo_layOrders : ewMt := (prog_10_method_54_code, ⟨"EightWaysModel", "layOrders", "()V"⟩, 4, none, 0, 0, 8)
abbrev Mo_takeOrders : ewMt := (prog_10_method_55_code, ⟨"EightWaysModel", "takeOrders", "(I)V"⟩, 3, none, 0, 0, 8)
abbrev Mo_crossingsOf : ewMt := (prog_10_method_56_code, ⟨"EightWaysModel", "crossingsOf", "(III)I"⟩, 4, some .int, 0, 0, 8)
abbrev Mo_bestBends : ewMt := (prog_10_method_57_code, ⟨"EightWaysModel", "bestBends", "()I"⟩, 1, some .int, 0, 0, 8)
abbrev Mo_fixedOnes : ewMt := (prog_10_method_58_code, ⟨"EightWaysModel", "fixedOnes", "()I"⟩, 3, some .int, 0, 0, 8)
abbrev Mo_crossedNow : ewMt := (prog_10_method_59_code, ⟨"EightWaysModel", "crossedNow", "()I"⟩, 1, some .int, 0, 0, 8)
abbrev Mo_told : ewMt := (prog_10_method_60_code, ⟨"EightWaysModel", "told", "(I)I"⟩, 2, some .int, 0, 0, 8)
abbrev Mo_degree : ewMt := (prog_10_method_61_code, ⟨"EightWaysModel", "degree", "(I)I"⟩, 4, some .int, 0, 0, 8)
abbrev Mo_station : ewMt := (prog_10_method_62_code, ⟨"EightWaysModel", "station", "(II)I"⟩, 3, some .int, 0, 0, 8)
abbrev Mo_stretch : ewMt := (prog_10_method_63_code, ⟨"EightWaysModel", "stretch", "(II)I"⟩, 3, some .int, 0, 0, 8)
abbrev Mo_lineBends : ewMt := (prog_10_method_64_code, ⟨"EightWaysModel", "lineBends", "(I)I"⟩, 2, some .int, 0, 0, 8)
abbrev Mo_line : ewMt := (prog_10_method_65_code, ⟨"EightWaysModel", "line", "(II)I"⟩, 3, some .int, 0, 0, 8)
abbrev Mo_along : ewMt := (prog_10_method_66_code, ⟨"EightWaysModel", "along", "(II)I"⟩, 3, some .int, 0, 0, 8)
abbrev Mo_remember : ewMt := (prog_10_method_67_code, ⟨"EightWaysModel", "remember", "()V"⟩, 2, none, 0, 0, 8)
abbrev Mo_bestCost : ewMt := (prog_10_method_68_code, ⟨"EightWaysModel", "bestCost", "()I"⟩, 1, some .int, 0, 0, 8)
abbrev Mo_fix : ewMt := (prog_10_method_69_code, ⟨"EightWaysModel", "fix", "(II)I"⟩, 3, some .int, 0, 0, 8)
abbrev Mo_loose : ewMt := (prog_10_method_70_code, ⟨"EightWaysModel", "loose", "(I)I"⟩, 3, some .int, 0, 0, 8)
abbrev Mo_count : ewMt := (prog_10_method_71_code, ⟨"EightWaysModel", "count", "(II)I"⟩, 3, some .int, 0, 0, 8)
abbrev Mo_move : ewMt := (prog_10_method_72_code, ⟨"EightWaysModel", "move", "(III)I"⟩, 4, some .int, 0, 0, 8)
abbrev Mo_drift : ewMt := (prog_10_method_73_code, ⟨"EightWaysModel", "drift", "(I)I"⟩, 5, some .int, 0, 0, 8)
abbrev Mo_undo : ewMt := (prog_10_method_74_code, ⟨"EightWaysModel", "undo", "()I"⟩, 2, some .int, 0, 0, 8)
abbrev Mo_bend : ewMt := (prog_10_method_75_code, ⟨"EightWaysModel", "bend", "(II)I"⟩, 3, some .int, 0, 0, 8)
abbrev Mo_would : ewMt := (prog_10_method_76_code, ⟨"EightWaysModel", "would", "(II)I"⟩, 5, some .int, 0, 0, 8)
abbrev Mo_plans : ewMt := (prog_10_method_77_code, ⟨"EightWaysModel", "plans", "()I"⟩, 1, some .int, 0, 0, 8)
abbrev Mo_order : ewMt := (prog_10_method_78_code, ⟨"EightWaysModel", "order", "(II)I"⟩, 3, some .int, 0, 0, 8)
abbrev Mo_crossings : ewMt := (prog_10_method_79_code, ⟨"EightWaysModel", "crossings", "(I)I"⟩, 6, some .int, 0, 0, 8)
abbrev Mo_cross : ewMt := (prog_10_method_80_code, ⟨"EightWaysModel", "cross", "(II)I"⟩, 5, some .int, 0, 0, 8)
abbrev Mo_keep : ewMt := (prog_10_method_81_code, ⟨"EightWaysModel", "keep", "(I)I"⟩, 3, some .int, 0, 0, 8)
abbrev Mo_goBack : ewMt := (prog_10_method_82_code, ⟨"EightWaysModel", "goBack", "(I)I"⟩, 3, some .int, 0, 0, 8)
abbrev Jm_abs : ewMt := (prog_11_method_59_code, ⟨"java/lang/Math", "abs", "(I)I"⟩, 1, some .int, 0, 0, 10)
abbrev Jm_max : ewMt := (prog_11_method_65_code, ⟨"java/lang/Math", "max", "(II)I"⟩, 2, some .int, 0, 0, 10)
abbrev Jm_min : ewMt := (prog_11_method_69_code, ⟨"java/lang/Math", "min", "(II)I"⟩, 2, some .int, 0, 0, 10)
abbrev Ja_fill : ewMt := (prog_13_method_103_code, ⟨"java/util/Arrays", "fill", "([II)V"⟩, 4, none, 0, 0, 11)
abbrev La_law : ewMt := (code, ⟨"EightWaysLaw", "law", "([I)Z"⟩, 4, some .boolean, 600000, 7302250, 9)
theorem Ch_init_in : Cond.code Ch_init.2.1 Ch_init.1 Ch_init.2.2.1 Ch_init.2.2.2.1 ∈ lw_tbl := List.mem_append_right _ (List.mem_of_getElem? (i := 211) (by decide +kernel))
theorem Ch_draw_in : Cond.code Ch_draw.2.1 Ch_draw.1 Ch_draw.2.2.1 Ch_draw.2.2.2.1 ∈ lw_tbl := List.mem_append_right _ (List.mem_of_getElem? (i := 528) (by decide +kernel))
theorem Ch_seek_in : Cond.code Ch_seek.2.1 Ch_seek.1 Ch_seek.2.2.1 Ch_seek.2.2.2.1 ∈ lw_tbl := List.mem_append_right _ (List.mem_of_getElem? (i := 549) (by decide +kernel))
theorem Ch_tallyPlans_in : Cond.code Ch_tallyPlans.2.1 Ch_tallyPlans.1 Ch_tallyPlans.2.2.1 Ch_tallyPlans.2.2.2.1 ∈ lw_tbl := List.mem_append_right _ (List.mem_of_getElem? (i := 840) (by decide +kernel))
theorem Ch_tallyFrom_in : Cond.code Ch_tallyFrom.2.1 Ch_tallyFrom.1 Ch_tallyFrom.2.2.1 Ch_tallyFrom.2.2.2.1 ∈ lw_tbl := List.mem_append_right _ (List.mem_of_getElem? (i := 844) (by decide +kernel))
theorem Ch_choice_in : Cond.code Ch_choice.2.1 Ch_choice.1 Ch_choice.2.2.1 Ch_choice.2.2.2.1 ∈ lw_tbl := List.mem_append_right _ (List.mem_of_getElem? (i := 554) (by decide +kernel))
theorem Ch_isFree_in : Cond.code Ch_isFree.2.1 Ch_isFree.1 Ch_isFree.2.2.1 Ch_isFree.2.2.2.1 ∈ lw_tbl := List.mem_append_right _ (List.mem_of_getElem? (i := 848) (by decide +kernel))
theorem Ch_added_in : Cond.code Ch_added.2.1 Ch_added.1 Ch_added.2.2.1 Ch_added.2.2.2.1 ∈ lw_tbl := List.mem_append_right _ (List.mem_of_getElem? (i := 558) (by decide +kernel))
theorem Ch_turned_in : Cond.code Ch_turned.2.1 Ch_turned.1 Ch_turned.2.2.1 Ch_turned.2.2.2.1 ∈ lw_tbl := List.mem_append_right _ (List.mem_of_getElem? (i := 567) (by decide +kernel))
theorem Ch_off_in : Cond.code Ch_off.2.1 Ch_off.1 Ch_off.2.2.1 Ch_off.2.2.2.1 ∈ lw_tbl := List.mem_append_right _ (List.mem_of_getElem? (i := 754) (by decide +kernel))
theorem Ch_bendsOf_in : Cond.code Ch_bendsOf.2.1 Ch_bendsOf.1 Ch_bendsOf.2.2.1 Ch_bendsOf.2.2.2.1 ∈ lw_tbl := List.mem_append_right _ (List.mem_of_getElem? (i := 579) (by decide +kernel))
theorem Ch_bends_in : Cond.code Ch_bends.2.1 Ch_bends.1 Ch_bends.2.2.1 Ch_bends.2.2.2.1 ∈ lw_tbl := List.mem_append_right _ (List.mem_of_getElem? (i := 575) (by decide +kernel))
theorem Ne_init_in : Cond.code Ne_init.2.1 Ne_init.1 Ne_init.2.2.1 Ne_init.2.2.2.1 ∈ lw_tbl := List.mem_append_right _ (List.mem_of_getElem? (i := 57) (by decide +kernel))
theorem Ne_clear_in : Cond.code Ne_clear.2.1 Ne_clear.1 Ne_clear.2.2.1 Ne_clear.2.2.2.1 ∈ lw_tbl := List.mem_append_right _ (List.mem_of_getElem? (i := 432) (by decide +kernel))
theorem Ne_isFull_in : Cond.code Ne_isFull.2.1 Ne_isFull.1 Ne_isFull.2.2.1 Ne_isFull.2.2.2.1 ∈ lw_tbl := List.mem_append_right _ (List.mem_of_getElem? (i := 449) (by decide +kernel))
theorem Ne_add_in : Cond.code Ne_add.2.1 Ne_add.1 Ne_add.2.2.1 Ne_add.2.2.2.1 ∈ lw_tbl := List.mem_append_right _ (List.mem_of_getElem? (i := 479) (by decide +kernel))
theorem Ne_joined_in : Cond.code Ne_joined.2.1 Ne_joined.1 Ne_joined.2.2.1 Ne_joined.2.2.2.1 ∈ lw_tbl := List.mem_append_right _ (List.mem_of_getElem? (i := 468) (by decide +kernel))
theorem Ne_least_in : Cond.code Ne_least.2.1 Ne_least.1 Ne_least.2.2.1 Ne_least.2.2.2.1 ∈ lw_tbl := List.mem_append_right _ (List.mem_of_getElem? (i := 602) (by decide +kernel))
theorem Ne_degree_in : Cond.code Ne_degree.2.1 Ne_degree.1 Ne_degree.2.2.1 Ne_degree.2.2.2.1 ∈ lw_tbl := List.mem_append_right _ (List.mem_of_getElem? (i := 737) (by decide +kernel))
theorem Ne_touches_in : Cond.code Ne_touches.2.1 Ne_touches.1 Ne_touches.2.2.1 Ne_touches.2.2.2.1 ∈ lw_tbl := List.mem_append_right _ (List.mem_of_getElem? (i := 741) (by decide +kernel))
theorem Ne_addStation_in : Cond.code Ne_addStation.2.1 Ne_addStation.1 Ne_addStation.2.2.1 Ne_addStation.2.2.2.1 ∈ lw_tbl := List.mem_append_right _ (List.mem_of_getElem? (i := 484) (by decide +kernel))
theorem Ne_addStretch_in : Cond.code Ne_addStretch.2.1 Ne_addStretch.1 Ne_addStretch.2.2.1 Ne_addStretch.2.2.2.1 ∈ lw_tbl := List.mem_append_right _ (List.mem_of_getElem? (i := 488) (by decide +kernel))
theorem Ne_meeting_in : Cond.code Ne_meeting.2.1 Ne_meeting.1 Ne_meeting.2.2.1 Ne_meeting.2.2.2.1 ∈ lw_tbl := List.mem_append_right _ (List.mem_of_getElem? (i := 492) (by decide +kernel))
theorem Ne_addLine_in : Cond.code Ne_addLine.2.1 Ne_addLine.1 Ne_addLine.2.2.1 Ne_addLine.2.2.2.1 ∈ lw_tbl := List.mem_append_right _ (List.mem_of_getElem? (i := 496) (by decide +kernel))
theorem Ne_passThrough_in : Cond.code Ne_passThrough.2.1 Ne_passThrough.1 Ne_passThrough.2.2.1 Ne_passThrough.2.2.2.1 ∈ lw_tbl := List.mem_append_right _ (List.mem_of_getElem? (i := 504) (by decide +kernel))
theorem Ne_leadTo_in : Cond.code Ne_leadTo.2.1 Ne_leadTo.1 Ne_leadTo.2.2.1 Ne_leadTo.2.2.2.1 ∈ lw_tbl := List.mem_append_right _ (List.mem_of_getElem? (i := 500) (by decide +kernel))
theorem Pa_init_in : Cond.code Pa_init.2.1 Pa_init.1 Pa_init.2.2.1 Pa_init.2.2.2.1 ∈ lw_tbl := List.mem_append_right _ (List.mem_of_getElem? (i := 191) (by decide +kernel))
theorem Pa_clear_in : Cond.code Pa_clear.2.1 Pa_clear.1 Pa_clear.2.2.1 Pa_clear.2.2.2.1 ∈ lw_tbl := List.mem_append_right _ (List.mem_of_getElem? (i := 508) (by decide +kernel))
theorem Pa_hold_in : Cond.code Pa_hold.2.1 Pa_hold.1 Pa_hold.2.2.1 Pa_hold.2.2.2.1 ∈ lw_tbl := List.mem_append_right _ (List.mem_of_getElem? (i := 782) (by decide +kernel))
theorem Pa_giveBack_in : Cond.code Pa_giveBack.2.1 Pa_giveBack.1 Pa_giveBack.2.2.1 Pa_giveBack.2.2.2.1 ∈ lw_tbl := List.mem_append_right _ (List.mem_of_getElem? (i := 822) (by decide +kernel))
theorem Pl_init_in : Cond.code Pl_init.2.1 Pl_init.1 Pl_init.2.2.1 Pl_init.2.2.2.1 ∈ lw_tbl := List.mem_append_right _ (List.mem_of_getElem? (i := 247) (by decide +kernel))
theorem Pl_settle_in : Cond.code Pl_settle.2.1 Pl_settle.1 Pl_settle.2.2.1 Pl_settle.2.2.2.1 ∈ lw_tbl := List.mem_append_right _ (List.mem_of_getElem? (i := 587) (by decide +kernel))
theorem Pl_stretchOut_in : Cond.code Pl_stretchOut.2.1 Pl_stretchOut.1 Pl_stretchOut.2.2.1 Pl_stretchOut.2.2.2.1 ∈ lw_tbl := List.mem_append_right _ (List.mem_of_getElem? (i := 593) (by decide +kernel))
theorem Pl_take_in : Cond.code Pl_take.2.1 Pl_take.1 Pl_take.2.2.1 Pl_take.2.2.2.1 ∈ lw_tbl := List.mem_append_right _ (List.mem_of_getElem? (i := 597) (by decide +kernel))
theorem Pl_join_in : Cond.code Pl_join.2.1 Pl_join.1 Pl_join.2.2.1 Pl_join.2.2.2.1 ∈ lw_tbl := List.mem_append_right _ (List.mem_of_getElem? (i := 606) (by decide +kernel))
theorem Pl_isClear_in : Cond.code Pl_isClear.2.1 Pl_isClear.1 Pl_isClear.2.2.1 Pl_isClear.2.2.2.1 ∈ lw_tbl := List.mem_append_right _ (List.mem_of_getElem? (i := 615) (by decide +kernel))
theorem Pl_isTaken_in : Cond.code Pl_isTaken.2.1 Pl_isTaken.1 Pl_isTaken.2.2.1 Pl_isTaken.2.2.2.1 ∈ lw_tbl := List.mem_append_right _ (List.mem_of_getElem? (i := 619) (by decide +kernel))
theorem Pl_putSigns_in : Cond.code Pl_putSigns.2.1 Pl_putSigns.1 Pl_putSigns.2.2.1 Pl_putSigns.2.2.2.1 ∈ lw_tbl := List.mem_append_right _ (List.mem_of_getElem? (i := 623) (by decide +kernel))
theorem Pl_signOf_in : Cond.code Pl_signOf.2.1 Pl_signOf.1 Pl_signOf.2.2.1 Pl_signOf.2.2.2.1 ∈ lw_tbl := List.mem_append_right _ (List.mem_of_getElem? (i := 627) (by decide +kernel))
theorem Pl_isUsed_in : Cond.code Pl_isUsed.2.1 Pl_isUsed.1 Pl_isUsed.2.2.1 Pl_isUsed.2.2.2.1 ∈ lw_tbl := List.mem_append_right _ (List.mem_of_getElem? (i := 631) (by decide +kernel))
theorem Re_init_in : Cond.code Re_init.2.1 Re_init.1 Re_init.2.2.1 Re_init.2.2.2.1 ∈ lw_tbl := List.mem_append_right _ (List.mem_of_getElem? (i := 25) (by decide +kernel))
theorem Re_take_in : Cond.code Re_take.2.1 Re_take.1 Re_take.2.2.1 Re_take.2.2.2.1 ∈ lw_tbl := List.mem_append_right _ (List.mem_of_getElem? (i := 419) (by decide +kernel))
theorem Re_read_in : Cond.code Re_read.2.1 Re_read.1 Re_read.2.2.1 Re_read.2.2.2.1 ∈ lw_tbl := List.mem_append_right _ (List.mem_of_getElem? (i := 428) (by decide +kernel))
theorem Re_readClause_in : Cond.code Re_readClause.2.1 Re_readClause.1 Re_readClause.2.2.1 Re_readClause.2.2.2.1 ∈ lw_tbl := List.mem_append_right _ (List.mem_of_getElem? (i := 441) (by decide +kernel))
theorem Re_readNumber_in : Cond.code Re_readNumber.2.1 Re_readNumber.1 Re_readNumber.2.2.1 Re_readNumber.2.2.2.1 ∈ lw_tbl := List.mem_append_right _ (List.mem_of_getElem? (i := 453) (by decide +kernel))
theorem Re_checkStation_in : Cond.code Re_checkStation.2.1 Re_checkStation.1 Re_checkStation.2.2.1 Re_checkStation.2.2.2.1 ∈ lw_tbl := List.mem_append_right _ (List.mem_of_getElem? (i := 460) (by decide +kernel))
theorem Re_checkSense_in : Cond.code Re_checkSense.2.1 Re_checkSense.1 Re_checkSense.2.2.1 Re_checkSense.2.2.2.1 ∈ lw_tbl := List.mem_append_right _ (List.mem_of_getElem? (i := 464) (by decide +kernel))
theorem Re_readEnd_in : Cond.code Re_readEnd.2.1 Re_readEnd.1 Re_readEnd.2.2.1 Re_readEnd.2.2.2.1 ∈ lw_tbl := List.mem_append_right _ (List.mem_of_getElem? (i := 475) (by decide +kernel))
theorem Re_skipBlanks_in : Cond.code Re_skipBlanks.2.1 Re_skipBlanks.1 Re_skipBlanks.2.2.1 Re_skipBlanks.2.2.2.1 ∈ lw_tbl := List.mem_append_right _ (List.mem_of_getElem? (i := 437) (by decide +kernel))
theorem Re_blame_in : Cond.code Re_blame.2.1 Re_blame.1 Re_blame.2.2.1 Re_blame.2.2.2.1 ∈ lw_tbl := List.mem_append_right _ (List.mem_of_getElem? (i := 445) (by decide +kernel))
theorem Re_isFigure_in : Cond.code Re_isFigure.2.1 Re_isFigure.1 Re_isFigure.2.2.1 Re_isFigure.2.2.2.1 ∈ lw_tbl := List.mem_append_right _ (List.mem_of_getElem? (i := 456) (by decide +kernel))
theorem Se_init_in : Cond.code Se_init.2.1 Se_init.1 Se_init.2.2.1 Se_init.2.2.2.1 ∈ lw_tbl := List.mem_append_right _ (List.mem_of_getElem? (i := 161) (by decide +kernel))
theorem Se_start_in : Cond.code Se_start.2.1 Se_start.1 Se_start.2.2.1 Se_start.2.2.2.1 ∈ lw_tbl := List.mem_append_right _ (List.mem_of_getElem? (i := 352) (by decide +kernel))
theorem Se_become_in : Cond.code Se_become.2.1 Se_become.1 Se_become.2.2.1 Se_become.2.2.2.1 ∈ lw_tbl := List.mem_append_right _ (List.mem_of_getElem? (i := 786) (by decide +kernel))
theorem Se_fixedSet_in : Cond.code Se_fixedSet.2.1 Se_fixedSet.1 Se_fixedSet.2.2.1 Se_fixedSet.2.2.2.1 ∈ lw_tbl := List.mem_append_right _ (List.mem_of_getElem? (i := 723) (by decide +kernel))
theorem Se_scatter_in : Cond.code Se_scatter.2.1 Se_scatter.1 Se_scatter.2.2.1 Se_scatter.2.2.2.1 ∈ lw_tbl := List.mem_append_right _ (List.mem_of_getElem? (i := 811) (by decide +kernel))
theorem Si_init_in : Cond.code Si_init.2.1 Si_init.1 Si_init.2.2.1 Si_init.2.2.2.1 ∈ lw_tbl := List.mem_append_right _ (List.mem_of_getElem? (i := 297) (by decide +kernel))
theorem Si_settle_in : Cond.code Si_settle.2.1 Si_settle.1 Si_settle.2.2.1 Si_settle.2.2.2.1 ∈ lw_tbl := List.mem_append_right _ (List.mem_of_getElem? (i := 639) (by decide +kernel))
theorem Si_lineAt_in : Cond.code Si_lineAt.2.1 Si_lineAt.1 Si_lineAt.2.2.1 Si_lineAt.2.2.2.1 ∈ lw_tbl := List.mem_append_right _ (List.mem_of_getElem? (i := 856) (by decide +kernel))
theorem Si_crossedAt_in : Cond.code Si_crossedAt.2.1 Si_crossedAt.1 Si_crossedAt.2.2.1 Si_crossedAt.2.2.2.1 ∈ lw_tbl := List.mem_append_right _ (List.mem_of_getElem? (i := 866) (by decide +kernel))
theorem Si_crossedBy_in : Cond.code Si_crossedBy.2.1 Si_crossedBy.1 Si_crossedBy.2.2.1 Si_crossedBy.2.2.2.1 ∈ lw_tbl := List.mem_append_right _ (List.mem_of_getElem? (i := 874) (by decide +kernel))
theorem Si_pairOf_in : Cond.code Si_pairOf.2.1 Si_pairOf.1 Si_pairOf.2.2.1 Si_pairOf.2.2.2.1 ∈ lw_tbl := List.mem_append_right _ (List.mem_of_getElem? (i := 651) (by decide +kernel))
theorem Si_lookAtStations_in : Cond.code Si_lookAtStations.2.1 Si_lookAtStations.1 Si_lookAtStations.2.2.1 Si_lookAtStations.2.2.2.1 ∈ lw_tbl := List.mem_append_right _ (List.mem_of_getElem? (i := 644) (by decide +kernel))
theorem Si_lookAt_in : Cond.code Si_lookAt.2.1 Si_lookAt.1 Si_lookAt.2.2.1 Si_lookAt.2.2.2.1 ∈ lw_tbl := List.mem_append_right _ (List.mem_of_getElem? (i := 648) (by decide +kernel))
theorem Si_pairUp_in : Cond.code Si_pairUp.2.1 Si_pairUp.1 Si_pairUp.2.2.1 Si_pairUp.2.2.2.1 ∈ lw_tbl := List.mem_append_right _ (List.mem_of_getElem? (i := 655) (by decide +kernel))
theorem Si_part_in : Cond.code Si_part.2.1 Si_part.1 Si_part.2.2.1 Si_part.2.2.2.1 ∈ lw_tbl := List.mem_append_right _ (List.mem_of_getElem? (i := 659) (by decide +kernel))
theorem Si_turnOf_in : Cond.code Si_turnOf.2.1 Si_turnOf.1 Si_turnOf.2.2.1 Si_turnOf.2.2.2.1 ∈ lw_tbl := List.mem_append_right _ (List.mem_of_getElem? (i := 663) (by decide +kernel))
theorem Si_countPartings_in : Cond.code Si_countPartings.2.1 Si_countPartings.1 Si_countPartings.2.2.1 Si_countPartings.2.2.2.1 ∈ lw_tbl := List.mem_append_right _ (List.mem_of_getElem? (i := 667) (by decide +kernel))
theorem Si_chooseRankings_in : Cond.code Si_chooseRankings.2.1 Si_chooseRankings.1 Si_chooseRankings.2.2.1 Si_chooseRankings.2.2.2.1 ∈ lw_tbl := List.mem_append_right _ (List.mem_of_getElem? (i := 711) (by decide +kernel))
theorem Si_isAlone_in : Cond.code Si_isAlone.2.1 Si_isAlone.1 Si_isAlone.2.2.1 Si_isAlone.2.2.2.1 ∈ lw_tbl := List.mem_append_right _ (List.mem_of_getElem? (i := 715) (by decide +kernel))
theorem Si_fewestCrossings_in : Cond.code Si_fewestCrossings.2.1 Si_fewestCrossings.1 Si_fewestCrossings.2.2.1 Si_fewestCrossings.2.2.2.1 ∈ lw_tbl := List.mem_append_right _ (List.mem_of_getElem? (i := 679) (by decide +kernel))
theorem Si_isChainEnd_in : Cond.code Si_isChainEnd.2.1 Si_isChainEnd.1 Si_isChainEnd.2.2.1 Si_isChainEnd.2.2.2.1 ∈ lw_tbl := List.mem_append_right _ (List.mem_of_getElem? (i := 684) (by decide +kernel))
theorem Si_isPaired_in : Cond.code Si_isPaired.2.1 Si_isPaired.1 Si_isPaired.2.2.1 Si_isPaired.2.2.2.1 ∈ lw_tbl := List.mem_append_right _ (List.mem_of_getElem? (i := 688) (by decide +kernel))
theorem Si_alongChain_in : Cond.code Si_alongChain.2.1 Si_alongChain.1 Si_alongChain.2.2.1 Si_alongChain.2.2.2.1 ∈ lw_tbl := List.mem_append_right _ (List.mem_of_getElem? (i := 692) (by decide +kernel))
theorem Si_goOn_in : Cond.code Si_goOn.2.1 Si_goOn.1 Si_goOn.2.2.1 Si_goOn.2.2.2.1 ∈ lw_tbl := List.mem_append_right _ (List.mem_of_getElem? (i := 705) (by decide +kernel))
theorem Si_nextJoint_in : Cond.code Si_nextJoint.2.1 Si_nextJoint.1 Si_nextJoint.2.2.1 Si_nextJoint.2.2.2.1 ∈ lw_tbl := List.mem_append_right _ (List.mem_of_getElem? (i := 697) (by decide +kernel))
theorem Si_otherAt_in : Cond.code Si_otherAt.2.1 Si_otherAt.1 Si_otherAt.2.2.1 Si_otherAt.2.2.2.1 ∈ lw_tbl := List.mem_append_right _ (List.mem_of_getElem? (i := 701) (by decide +kernel))
theorem Si_partingCrossed_in : Cond.code Si_partingCrossed.2.1 Si_partingCrossed.1 Si_partingCrossed.2.2.1 Si_partingCrossed.2.2.2.1 ∈ lw_tbl := List.mem_append_right _ (List.mem_of_getElem? (i := 673) (by decide +kernel))
theorem Si_markCrossed_in : Cond.code Si_markCrossed.2.1 Si_markCrossed.1 Si_markCrossed.2.2.1 Si_markCrossed.2.2.2.1 ∈ lw_tbl := List.mem_append_right _ (List.mem_of_getElem? (i := 719) (by decide +kernel))
theorem Ew_init_in : Cond.code Ew_init.2.1 Ew_init.1 Ew_init.2.2.1 Ew_init.2.2.2.1 ∈ lw_tbl := List.mem_append_right _ (List.mem_of_getElem? (i := 17) (by decide +kernel))
theorem Ew_feed_in : Cond.code Ew_feed.2.1 Ew_feed.1 Ew_feed.2.2.1 Ew_feed.2.2.2.1 ∈ lw_tbl := List.mem_append_right _ (List.mem_of_getElem? (i := 414) (by decide +kernel))
theorem Ew_net_in : Cond.code Ew_net.2.1 Ew_net.1 Ew_net.2.2.1 Ew_net.2.2.2.1 ∈ lw_tbl := List.mem_append_right _ (List.mem_of_getElem? (i := 424) (by decide +kernel))
theorem Ew_fault_in : Cond.code Ew_fault.2.1 Ew_fault.1 Ew_fault.2.2.1 Ew_fault.2.2.2.1 ∈ lw_tbl := List.mem_append_right _ (List.mem_of_getElem? (i := 516) (by decide +kernel))
theorem Ew_told_in : Cond.code Ew_told.2.1 Ew_told.1 Ew_told.2.2.1 Ew_told.2.2.2.1 ∈ lw_tbl := List.mem_append_right _ (List.mem_of_getElem? (i := 520) (by decide +kernel))
theorem Ew_station_in : Cond.code Ew_station.2.1 Ew_station.1 Ew_station.2.2.1 Ew_station.2.2.2.1 ∈ lw_tbl := List.mem_append_right _ (List.mem_of_getElem? (i := 727) (by decide +kernel))
theorem Ew_stretch_in : Cond.code Ew_stretch.2.1 Ew_stretch.1 Ew_stretch.2.2.1 Ew_stretch.2.2.2.1 ∈ lw_tbl := List.mem_append_right _ (List.mem_of_getElem? (i := 745) (by decide +kernel))
theorem Ew_line_in : Cond.code Ew_line.2.1 Ew_line.1 Ew_line.2.2.1 Ew_line.2.2.2.1 ∈ lw_tbl := List.mem_append_right _ (List.mem_of_getElem? (i := 758) (by decide +kernel))
theorem Ew_along_in : Cond.code Ew_along.2.1 Ew_along.1 Ew_along.2.2.1 Ew_along.2.2.2.1 ∈ lw_tbl := List.mem_append_right _ (List.mem_of_getElem? (i := 767) (by decide +kernel))
theorem Ew_fix_in : Cond.code Ew_fix.2.1 Ew_fix.1 Ew_fix.2.2.1 Ew_fix.2.2.2.1 ∈ lw_tbl := List.mem_append_right _ (List.mem_of_getElem? (i := 771) (by decide +kernel))
theorem Ew_loose_in : Cond.code Ew_loose.2.1 Ew_loose.1 Ew_loose.2.2.1 Ew_loose.2.2.2.1 ∈ lw_tbl := List.mem_append_right _ (List.mem_of_getElem? (i := 790) (by decide +kernel))
theorem Ew_count_in : Cond.code Ew_count.2.1 Ew_count.1 Ew_count.2.2.1 Ew_count.2.2.2.1 ∈ lw_tbl := List.mem_append_right _ (List.mem_of_getElem? (i := 795) (by decide +kernel))
theorem Ew_move_in : Cond.code Ew_move.2.1 Ew_move.1 Ew_move.2.2.1 Ew_move.2.2.2.1 ∈ lw_tbl := List.mem_append_right _ (List.mem_of_getElem? (i := 802) (by decide +kernel))
theorem Ew_drift_in : Cond.code Ew_drift.2.1 Ew_drift.1 Ew_drift.2.2.1 Ew_drift.2.2.2.1 ∈ lw_tbl := List.mem_append_right _ (List.mem_of_getElem? (i := 806) (by decide +kernel))
theorem Ew_undo_in : Cond.code Ew_undo.2.1 Ew_undo.1 Ew_undo.2.2.1 Ew_undo.2.2.2.1 ∈ lw_tbl := List.mem_append_right _ (List.mem_of_getElem? (i := 818) (by decide +kernel))
theorem Ew_bend_in : Cond.code Ew_bend.2.1 Ew_bend.1 Ew_bend.2.2.1 Ew_bend.2.2.2.1 ∈ lw_tbl := List.mem_append_right _ (List.mem_of_getElem? (i := 826) (by decide +kernel))
theorem Ew_would_in : Cond.code Ew_would.2.1 Ew_would.1 Ew_would.2.2.1 Ew_would.2.2.2.1 ∈ lw_tbl := List.mem_append_right _ (List.mem_of_getElem? (i := 831) (by decide +kernel))
theorem Ew_plans_in : Cond.code Ew_plans.2.1 Ew_plans.1 Ew_plans.2.2.1 Ew_plans.2.2.2.1 ∈ lw_tbl := List.mem_append_right _ (List.mem_of_getElem? (i := 836) (by decide +kernel))
theorem Ew_order_in : Cond.code Ew_order.2.1 Ew_order.1 Ew_order.2.2.1 Ew_order.2.2.2.1 ∈ lw_tbl := List.mem_append_right _ (List.mem_of_getElem? (i := 852) (by decide +kernel))
theorem Ew_crossings_in : Cond.code Ew_crossings.2.1 Ew_crossings.1 Ew_crossings.2.2.1 Ew_crossings.2.2.2.1 ∈ lw_tbl := List.mem_append_right _ (List.mem_of_getElem? (i := 862) (by decide +kernel))
theorem Ew_cross_in : Cond.code Ew_cross.2.1 Ew_cross.1 Ew_cross.2.2.1 Ew_cross.2.2.2.1 ∈ lw_tbl := List.mem_append_right _ (List.mem_of_getElem? (i := 870) (by decide +kernel))
theorem Ew_keep_in : Cond.code Ew_keep.2.1 Ew_keep.1 Ew_keep.2.2.1 Ew_keep.2.2.2.1 ∈ lw_tbl := List.mem_append_right _ (List.mem_of_getElem? (i := 878) (by decide +kernel))
theorem Ew_goBack_in : Cond.code Ew_goBack.2.1 Ew_goBack.1 Ew_goBack.2.2.1 Ew_goBack.2.2.2.1 ∈ lw_tbl := List.mem_append_right _ (List.mem_of_getElem? (i := 885) (by decide +kernel))
theorem Ew_isStation_in : Cond.code Ew_isStation.2.1 Ew_isStation.1 Ew_isStation.2.2.1 Ew_isStation.2.2.2.1 ∈ lw_tbl := List.mem_append_right _ (List.mem_of_getElem? (i := 731) (by decide +kernel))
theorem Ew_isStretch_in : Cond.code Ew_isStretch.2.1 Ew_isStretch.1 Ew_isStretch.2.2.1 Ew_isStretch.2.2.2.1 ∈ lw_tbl := List.mem_append_right _ (List.mem_of_getElem? (i := 749) (by decide +kernel))
theorem Ew_isLine_in : Cond.code Ew_isLine.2.1 Ew_isLine.1 Ew_isLine.2.2.1 Ew_isLine.2.2.2.1 ∈ lw_tbl := List.mem_append_right _ (List.mem_of_getElem? (i := 762) (by decide +kernel))
theorem Ew_isImage_in : Cond.code Ew_isImage.2.1 Ew_isImage.1 Ew_isImage.2.2.1 Ew_isImage.2.2.2.1 ∈ lw_tbl := List.mem_append_right _ (List.mem_of_getElem? (i := 881) (by decide +kernel))
theorem Ew_isDirection_in : Cond.code Ew_isDirection.2.1 Ew_isDirection.1 Ew_isDirection.2.2.1 Ew_isDirection.2.2.2.1 ∈ lw_tbl := List.mem_append_right _ (List.mem_of_getElem? (i := 774) (by decide +kernel))
theorem Ew_isWay_in : Cond.code Ew_isWay.2.1 Ew_isWay.1 Ew_isWay.2.2.1 Ew_isWay.2.2.2.1 ∈ lw_tbl := List.mem_append_right _ (List.mem_of_getElem? (i := 798) (by decide +kernel))
theorem Ew_startChange_in : Cond.code Ew_startChange.2.1 Ew_startChange.1 Ew_startChange.2.2.1 Ew_startChange.2.2.2.1 ∈ lw_tbl := List.mem_append_right _ (List.mem_of_getElem? (i := 778) (by decide +kernel))
theorem Ew_forget_in : Cond.code Ew_forget.2.1 Ew_forget.1 Ew_forget.2.2.1 Ew_forget.2.2.2.1 ∈ lw_tbl := List.mem_append_right _ (List.mem_of_getElem? (i := 512) (by decide +kernel))
theorem Ew_knownBest_in : Cond.code Ew_knownBest.2.1 Ew_knownBest.1 Ew_knownBest.2.2.1 Ew_knownBest.2.2.2.1 ∈ lw_tbl := List.mem_append_right _ (List.mem_of_getElem? (i := 524) (by decide +kernel))
theorem Ew_knownPlaces_in : Cond.code Ew_knownPlaces.2.1 Ew_knownPlaces.1 Ew_knownPlaces.2.2.1 Ew_knownPlaces.2.2.2.1 ∈ lw_tbl := List.mem_append_right _ (List.mem_of_getElem? (i := 583) (by decide +kernel))
theorem Ew_knownSides_in : Cond.code Ew_knownSides.2.1 Ew_knownSides.1 Ew_knownSides.2.2.1 Ew_knownSides.2.2.2.1 ∈ lw_tbl := List.mem_append_right _ (List.mem_of_getElem? (i := 635) (by decide +kernel))
theorem Ew_trueOf_in : Cond.code Ew_trueOf.2.1 Ew_trueOf.1 Ew_trueOf.2.2.1 Ew_trueOf.2.2.2.1 ∈ lw_tbl := List.mem_append_right _ (List.mem_of_getElem? (i := 531) (by decide +kernel))
theorem Ew_trueDirection_in : Cond.code Ew_trueDirection.2.1 Ew_trueDirection.1 Ew_trueDirection.2.2.1 Ew_trueDirection.2.2.2.1 ∈ lw_tbl := List.mem_append_right _ (List.mem_of_getElem? (i := 534) (by decide +kernel))
theorem Ew_apart_in : Cond.code Ew_apart.2.1 Ew_apart.1 Ew_apart.2.2.1 Ew_apart.2.2.2.1 ∈ lw_tbl := List.mem_append_right _ (List.mem_of_getElem? (i := 561) (by decide +kernel))
theorem Ew_counted_in : Cond.code Ew_counted.2.1 Ew_counted.1 Ew_counted.2.2.1 Ew_counted.2.2.2.1 ∈ lw_tbl := List.mem_append_right _ (List.mem_of_getElem? (i := 571) (by decide +kernel))
theorem Ew_has_in : Cond.code Ew_has.2.1 Ew_has.1 Ew_has.2.2.1 Ew_has.2.2.2.1 ∈ lw_tbl := List.mem_append_right _ (List.mem_of_getElem? (i := 471) (by decide +kernel))
theorem Mo_init_in : Cond.code Mo_init.2.1 Mo_init.1 Mo_init.2.2.1 Mo_init.2.2.2.1 ∈ lw_tbl := List.mem_append_right _ (List.mem_of_getElem? (i := 891) (by decide +kernel))
theorem Mo_begin_in : Cond.code Mo_begin.2.1 Mo_begin.1 Mo_begin.2.2.1 Mo_begin.2.2.2.1 ∈ lw_tbl := List.mem_append_right _ (List.mem_of_getElem? (i := 896) (by decide +kernel))
theorem Mo_in_in : Cond.code Mo_in.2.1 Mo_in.1 Mo_in.2.2.1 Mo_in.2.2.2.1 ∈ lw_tbl := List.mem_append_right _ (List.mem_of_getElem? (i := 901) (by decide +kernel))
theorem Mo_isStation_in : Cond.code Mo_isStation.2.1 Mo_isStation.1 Mo_isStation.2.2.1 Mo_isStation.2.2.2.1 ∈ lw_tbl := List.mem_append_right _ (List.mem_of_getElem? (i := 1272) (by decide +kernel))
theorem Mo_isStretch_in : Cond.code Mo_isStretch.2.1 Mo_isStretch.1 Mo_isStretch.2.2.1 Mo_isStretch.2.2.2.1 ∈ lw_tbl := List.mem_append_right _ (List.mem_of_getElem? (i := 1285) (by decide +kernel))
theorem Mo_isLine_in : Cond.code Mo_isLine.2.1 Mo_isLine.1 Mo_isLine.2.2.1 Mo_isLine.2.2.2.1 ∈ lw_tbl := List.mem_append_right _ (List.mem_of_getElem? (i := 1293) (by decide +kernel))
theorem Mo_feed_in : Cond.code Mo_feed.2.1 Mo_feed.1 Mo_feed.2.2.1 Mo_feed.2.2.2.1 ∈ lw_tbl := List.mem_append_right _ (List.mem_of_getElem? (i := 1060) (by decide +kernel))
theorem Mo_here_in : Cond.code Mo_here.2.1 Mo_here.1 Mo_here.2.2.1 Mo_here.2.2.2.1 ∈ lw_tbl := List.mem_append_right _ (List.mem_of_getElem? (i := 1071) (by decide +kernel))
theorem Mo_fails_in : Cond.code Mo_fails.2.1 Mo_fails.1 Mo_fails.2.2.1 Mo_fails.2.2.2.1 ∈ lw_tbl := List.mem_append_right _ (List.mem_of_getElem? (i := 1079) (by decide +kernel))
theorem Mo_takeNumber_in : Cond.code Mo_takeNumber.2.1 Mo_takeNumber.1 Mo_takeNumber.2.2.1 Mo_takeNumber.2.2.2.1 ∈ lw_tbl := List.mem_append_right _ (List.mem_of_getElem? (i := 1087) (by decide +kernel))
theorem Mo_takeStation_in : Cond.code Mo_takeStation.2.1 Mo_takeStation.1 Mo_takeStation.2.2.1 Mo_takeStation.2.2.2.1 ∈ lw_tbl := List.mem_append_right _ (List.mem_of_getElem? (i := 1083) (by decide +kernel))
theorem Mo_failsBy_in : Cond.code Mo_failsBy.2.1 Mo_failsBy.1 Mo_failsBy.2.2.1 Mo_failsBy.2.2.2.1 ∈ lw_tbl := List.mem_append_right _ (List.mem_of_getElem? (i := 1097) (by decide +kernel))
theorem Mo_takeStretch_in : Cond.code Mo_takeStretch.2.1 Mo_takeStretch.1 Mo_takeStretch.2.2.1 Mo_takeStretch.2.2.2.1 ∈ lw_tbl := List.mem_append_right _ (List.mem_of_getElem? (i := 1093) (by decide +kernel))
theorem Mo_takeLine_in : Cond.code Mo_takeLine.2.1 Mo_takeLine.1 Mo_takeLine.2.2.1 Mo_takeLine.2.2.2.1 ∈ lw_tbl := List.mem_append_right _ (List.mem_of_getElem? (i := 1101) (by decide +kernel))
theorem Mo_takeClause_in : Cond.code Mo_takeClause.2.1 Mo_takeClause.1 Mo_takeClause.2.2.1 Mo_takeClause.2.2.2.1 ∈ lw_tbl := List.mem_append_right _ (List.mem_of_getElem? (i := 1075) (by decide +kernel))
theorem Mo_net_in : Cond.code Mo_net.2.1 Mo_net.1 Mo_net.2.2.1 Mo_net.2.2.2.1 ∈ lw_tbl := List.mem_append_right _ (List.mem_of_getElem? (i := 1067) (by decide +kernel))
theorem Mo_takeRead_in : Cond.code Mo_takeRead.2.1 Mo_takeRead.1 Mo_takeRead.2.2.1 Mo_takeRead.2.2.2.1 ∈ lw_tbl := List.mem_append_right _ (List.mem_of_getElem? (i := 1105) (by decide +kernel))
theorem Mo_layFar_in : Cond.code Mo_layFar.2.1 Mo_layFar.1 Mo_layFar.2.2.1 Mo_layFar.2.2.2.1 ∈ lw_tbl := List.mem_append_right _ (List.mem_of_getElem? (i := 1113) (by decide +kernel))
theorem Mo_layLine_in : Cond.code Mo_layLine.2.1 Mo_layLine.1 Mo_layLine.2.2.1 Mo_layLine.2.2.2.1 ∈ lw_tbl := List.mem_append_right _ (List.mem_of_getElem? (i := 1109) (by decide +kernel))
theorem Mo_fault_in : Cond.code Mo_fault.2.1 Mo_fault.1 Mo_fault.2.2.1 Mo_fault.2.2.2.1 ∈ lw_tbl := List.mem_append_right _ (List.mem_of_getElem? (i := 1117) (by decide +kernel))
theorem Mo_trueOf_in : Cond.code Mo_trueOf.2.1 Mo_trueOf.1 Mo_trueOf.2.2.1 Mo_trueOf.2.2.2.1 ∈ lw_tbl := List.mem_append_right _ (List.mem_of_getElem? (i := 1129) (by decide +kernel))
theorem Mo_apart_in : Cond.code Mo_apart.2.1 Mo_apart.1 Mo_apart.2.2.1 Mo_apart.2.2.2.1 ∈ lw_tbl := List.mem_append_right _ (List.mem_of_getElem? (i := 1152) (by decide +kernel))
theorem Mo_counted_in : Cond.code Mo_counted.2.1 Mo_counted.1 Mo_counted.2.2.1 Mo_counted.2.2.2.1 ∈ lw_tbl := List.mem_append_right _ (List.mem_of_getElem? (i := 1163) (by decide +kernel))
theorem Mo_goesFrom_in : Cond.code Mo_goesFrom.2.1 Mo_goesFrom.1 Mo_goesFrom.2.2.1 Mo_goesFrom.2.2.2.1 ∈ lw_tbl := List.mem_append_right _ (List.mem_of_getElem? (i := 1137) (by decide +kernel))
theorem Mo_wayFrom_in : Cond.code Mo_wayFrom.2.1 Mo_wayFrom.1 Mo_wayFrom.2.2.1 Mo_wayFrom.2.2.2.1 ∈ lw_tbl := List.mem_append_right _ (List.mem_of_getElem? (i := 1141) (by decide +kernel))
theorem Mo_areUnlike_in : Cond.code Mo_areUnlike.2.1 Mo_areUnlike.1 Mo_areUnlike.2.2.1 Mo_areUnlike.2.2.2.1 ∈ lw_tbl := List.mem_append_right _ (List.mem_of_getElem? (i := 1133) (by decide +kernel))
theorem Mo_bendsOf_in : Cond.code Mo_bendsOf.2.1 Mo_bendsOf.1 Mo_bendsOf.2.2.1 Mo_bendsOf.2.2.2.1 ∈ lw_tbl := List.mem_append_right _ (List.mem_of_getElem? (i := 1160) (by decide +kernel))
theorem Mo_bends_in : Cond.code Mo_bends.2.1 Mo_bends.1 Mo_bends.2.2.1 Mo_bends.2.2.2.1 ∈ lw_tbl := List.mem_append_right _ (List.mem_of_getElem? (i := 1156) (by decide +kernel))
theorem Mo_costOf_in : Cond.code Mo_costOf.2.1 Mo_costOf.1 Mo_costOf.2.2.1 Mo_costOf.2.2.2.1 ∈ lw_tbl := List.mem_append_right _ (List.mem_of_getElem? (i := 1149) (by decide +kernel))
theorem Mo_layPlan_in : Cond.code Mo_layPlan.2.1 Mo_layPlan.1 Mo_layPlan.2.2.1 Mo_layPlan.2.2.2.1 ∈ lw_tbl := List.mem_append_right _ (List.mem_of_getElem? (i := 1125) (by decide +kernel))
theorem Mo_takeTried_in : Cond.code Mo_takeTried.2.1 Mo_takeTried.1 Mo_takeTried.2.2.1 Mo_takeTried.2.2.2.1 ∈ lw_tbl := List.mem_append_right _ (List.mem_of_getElem? (i := 1145) (by decide +kernel))
theorem Mo_layRoots_in : Cond.code Mo_layRoots.2.1 Mo_layRoots.1 Mo_layRoots.2.2.1 Mo_layRoots.2.2.2.1 ∈ lw_tbl := List.mem_append_right _ (List.mem_of_getElem? (i := 1171) (by decide +kernel))
theorem Mo_stepX_in : Cond.code Mo_stepX.2.1 Mo_stepX.1 Mo_stepX.2.2.1 Mo_stepX.2.2.2.1 ∈ lw_tbl := List.mem_append_right _ (List.mem_of_getElem? (i := 1178) (by decide +kernel))
theorem Mo_stepY_in : Cond.code Mo_stepY.2.1 Mo_stepY.1 Mo_stepY.2.2.1 Mo_stepY.2.2.2.1 ∈ lw_tbl := List.mem_append_right _ (List.mem_of_getElem? (i := 1181) (by decide +kernel))
theorem Mo_layPlaces_in : Cond.code Mo_layPlaces.2.1 Mo_layPlaces.1 Mo_layPlaces.2.2.1 Mo_layPlaces.2.2.2.1 ∈ lw_tbl := List.mem_append_right _ (List.mem_of_getElem? (i := 1175) (by decide +kernel))
theorem Mo_isTaken_in : Cond.code Mo_isTaken.2.1 Mo_isTaken.1 Mo_isTaken.2.2.1 Mo_isTaken.2.2.2.1 ∈ lw_tbl := List.mem_append_right _ (List.mem_of_getElem? (i := 1193) (by decide +kernel))
theorem Mo_areApart_in : Cond.code Mo_areApart.2.1 Mo_areApart.1 Mo_areApart.2.2.1 Mo_areApart.2.2.2.1 ∈ lw_tbl := List.mem_append_right _ (List.mem_of_getElem? (i := 1189) (by decide +kernel))
theorem Mo_layLengths_in : Cond.code Mo_layLengths.2.1 Mo_layLengths.1 Mo_layLengths.2.2.1 Mo_layLengths.2.2.2.1 ∈ lw_tbl := List.mem_append_right _ (List.mem_of_getElem? (i := 1167) (by decide +kernel))
theorem Mo_takeLengths_in : Cond.code Mo_takeLengths.2.1 Mo_takeLengths.1 Mo_takeLengths.2.2.1 Mo_takeLengths.2.2.2.1 ∈ lw_tbl := List.mem_append_right _ (List.mem_of_getElem? (i := 1185) (by decide +kernel))
theorem Mo_signOf_in : Cond.code Mo_signOf.2.1 Mo_signOf.1 Mo_signOf.2.2.1 Mo_signOf.2.2.2.1 ∈ lw_tbl := List.mem_append_right _ (List.mem_of_getElem? (i := 1264) (by decide +kernel))
theorem Mo_signs_in : Cond.code Mo_signs.2.1 Mo_signs.1 Mo_signs.2.2.1 Mo_signs.2.2.2.1 ∈ lw_tbl := List.mem_append_right _ (List.mem_of_getElem? (i := 1260) (by decide +kernel))
theorem Mo_linesAlong_in : Cond.code Mo_linesAlong.2.1 Mo_linesAlong.1 Mo_linesAlong.2.2.1 Mo_linesAlong.2.2.2.1 ∈ lw_tbl := List.mem_append_right _ (List.mem_of_getElem? (i := 1209) (by decide +kernel))
theorem Mo_bits_in : Cond.code Mo_bits.2.1 Mo_bits.1 Mo_bits.2.2.1 Mo_bits.2.2.2.1 ∈ lw_tbl := List.mem_append_right _ (List.mem_of_getElem? (i := 1217) (by decide +kernel))
theorem Mo_pick_in : Cond.code Mo_pick.2.1 Mo_pick.1 Mo_pick.2.2.1 Mo_pick.2.2.2.1 ∈ lw_tbl := List.mem_append_right _ (List.mem_of_getElem? (i := 1224) (by decide +kernel))
theorem Mo_layOrder_in : Cond.code Mo_layOrder.2.1 Mo_layOrder.1 Mo_layOrder.2.2.1 Mo_layOrder.2.2.2.1 ∈ lw_tbl := List.mem_append_right _ (List.mem_of_getElem? (i := 1221) (by decide +kernel))
theorem Mo_ordersOf_in : Cond.code Mo_ordersOf.2.1 Mo_ordersOf.1 Mo_ordersOf.2.2.1 Mo_ordersOf.2.2.2.1 ∈ lw_tbl := List.mem_append_right _ (List.mem_of_getElem? (i := 1214) (by decide +kernel))
theorem Mo_isLeft_in : Cond.code Mo_isLeft.2.1 Mo_isLeft.1 Mo_isLeft.2.2.1 Mo_isLeft.2.2.2.1 ∈ lw_tbl := List.mem_append_right _ (List.mem_of_getElem? (i := 1244) (by decide +kernel))
theorem Mo_within_in : Cond.code Mo_within.2.1 Mo_within.1 Mo_within.2.2.1 Mo_within.2.2.2.1 ∈ lw_tbl := List.mem_append_right _ (List.mem_of_getElem? (i := 1236) (by decide +kernel))
theorem Mo_turnOf_in : Cond.code Mo_turnOf.2.1 Mo_turnOf.1 Mo_turnOf.2.2.1 Mo_turnOf.2.2.2.1 ∈ lw_tbl := List.mem_append_right _ (List.mem_of_getElem? (i := 1248) (by decide +kernel))
theorem Mo_hangsOn_in : Cond.code Mo_hangsOn.2.1 Mo_hangsOn.1 Mo_hangsOn.2.2.1 Mo_hangsOn.2.2.2.1 ∈ lw_tbl := List.mem_append_right _ (List.mem_of_getElem? (i := 1232) (by decide +kernel))
theorem Mo_doCross_in : Cond.code Mo_doCross.2.1 Mo_doCross.1 Mo_doCross.2.2.1 Mo_doCross.2.2.2.1 ∈ lw_tbl := List.mem_append_right _ (List.mem_of_getElem? (i := 1240) (by decide +kernel))
theorem Mo_crossedBy_in : Cond.code Mo_crossedBy.2.1 Mo_crossedBy.1 Mo_crossedBy.2.2.1 Mo_crossedBy.2.2.2.1 ∈ lw_tbl := List.mem_append_right _ (List.mem_of_getElem? (i := 1228) (by decide +kernel))
theorem Mo_layOrders_in : Cond.code Mo_layOrders.2.1 Mo_layOrders.1 Mo_layOrders.2.2.1 Mo_layOrders.2.2.2.1 ∈ lw_tbl := List.mem_append_right _ (List.mem_of_getElem? (i := 1205) (by decide +kernel))
theorem Mo_takeOrders_in : Cond.code Mo_takeOrders.2.1 Mo_takeOrders.1 Mo_takeOrders.2.2.1 Mo_takeOrders.2.2.2.1 ∈ lw_tbl := List.mem_append_right _ (List.mem_of_getElem? (i := 1252) (by decide +kernel))
theorem Mo_crossingsOf_in : Cond.code Mo_crossingsOf.2.1 Mo_crossingsOf.1 Mo_crossingsOf.2.2.1 Mo_crossingsOf.2.2.2.1 ∈ lw_tbl := List.mem_append_right _ (List.mem_of_getElem? (i := 1367) (by decide +kernel))
theorem Mo_bestBends_in : Cond.code Mo_bestBends.2.1 Mo_bestBends.1 Mo_bestBends.2.2.1 Mo_bestBends.2.2.2.1 ∈ lw_tbl := List.mem_append_right _ (List.mem_of_getElem? (i := 1197) (by decide +kernel))
theorem Mo_fixedOnes_in : Cond.code Mo_fixedOnes.2.1 Mo_fixedOnes.1 Mo_fixedOnes.2.2.1 Mo_fixedOnes.2.2.2.1 ∈ lw_tbl := List.mem_append_right _ (List.mem_of_getElem? (i := 1256) (by decide +kernel))
theorem Mo_crossedNow_in : Cond.code Mo_crossedNow.2.1 Mo_crossedNow.1 Mo_crossedNow.2.2.1 Mo_crossedNow.2.2.2.1 ∈ lw_tbl := List.mem_append_right _ (List.mem_of_getElem? (i := 1201) (by decide +kernel))
theorem Mo_told_in : Cond.code Mo_told.2.1 Mo_told.1 Mo_told.2.2.1 Mo_told.2.2.2.1 ∈ lw_tbl := List.mem_append_right _ (List.mem_of_getElem? (i := 1121) (by decide +kernel))
theorem Mo_degree_in : Cond.code Mo_degree.2.1 Mo_degree.1 Mo_degree.2.2.1 Mo_degree.2.2.2.1 ∈ lw_tbl := List.mem_append_right _ (List.mem_of_getElem? (i := 1277) (by decide +kernel))
theorem Mo_station_in : Cond.code Mo_station.2.1 Mo_station.1 Mo_station.2.2.1 Mo_station.2.2.2.1 ∈ lw_tbl := List.mem_append_right _ (List.mem_of_getElem? (i := 1268) (by decide +kernel))
theorem Mo_stretch_in : Cond.code Mo_stretch.2.1 Mo_stretch.1 Mo_stretch.2.2.1 Mo_stretch.2.2.2.1 ∈ lw_tbl := List.mem_append_right _ (List.mem_of_getElem? (i := 1281) (by decide +kernel))
theorem Mo_lineBends_in : Cond.code Mo_lineBends.2.1 Mo_lineBends.1 Mo_lineBends.2.2.1 Mo_lineBends.2.2.2.1 ∈ lw_tbl := List.mem_append_right _ (List.mem_of_getElem? (i := 1297) (by decide +kernel))
theorem Mo_line_in : Cond.code Mo_line.2.1 Mo_line.1 Mo_line.2.2.1 Mo_line.2.2.2.1 ∈ lw_tbl := List.mem_append_right _ (List.mem_of_getElem? (i := 1289) (by decide +kernel))
theorem Mo_along_in : Cond.code Mo_along.2.1 Mo_along.1 Mo_along.2.2.1 Mo_along.2.2.2.1 ∈ lw_tbl := List.mem_append_right _ (List.mem_of_getElem? (i := 1301) (by decide +kernel))
theorem Mo_remember_in : Cond.code Mo_remember.2.1 Mo_remember.1 Mo_remember.2.2.1 Mo_remember.2.2.2.1 ∈ lw_tbl := List.mem_append_right _ (List.mem_of_getElem? (i := 1310) (by decide +kernel))
theorem Mo_bestCost_in : Cond.code Mo_bestCost.2.1 Mo_bestCost.1 Mo_bestCost.2.2.1 Mo_bestCost.2.2.2.1 ∈ lw_tbl := List.mem_append_right _ (List.mem_of_getElem? (i := 1314) (by decide +kernel))
theorem Mo_fix_in : Cond.code Mo_fix.2.1 Mo_fix.1 Mo_fix.2.2.1 Mo_fix.2.2.2.1 ∈ lw_tbl := List.mem_append_right _ (List.mem_of_getElem? (i := 1305) (by decide +kernel))
theorem Mo_loose_in : Cond.code Mo_loose.2.1 Mo_loose.1 Mo_loose.2.2.1 Mo_loose.2.2.2.1 ∈ lw_tbl := List.mem_append_right _ (List.mem_of_getElem? (i := 1318) (by decide +kernel))
theorem Mo_count_in : Cond.code Mo_count.2.1 Mo_count.1 Mo_count.2.2.1 Mo_count.2.2.2.1 ∈ lw_tbl := List.mem_append_right _ (List.mem_of_getElem? (i := 1323) (by decide +kernel))
theorem Mo_move_in : Cond.code Mo_move.2.1 Mo_move.1 Mo_move.2.2.1 Mo_move.2.2.2.1 ∈ lw_tbl := List.mem_append_right _ (List.mem_of_getElem? (i := 1329) (by decide +kernel))
theorem Mo_drift_in : Cond.code Mo_drift.2.1 Mo_drift.1 Mo_drift.2.2.1 Mo_drift.2.2.2.1 ∈ lw_tbl := List.mem_append_right _ (List.mem_of_getElem? (i := 1334) (by decide +kernel))
theorem Mo_undo_in : Cond.code Mo_undo.2.1 Mo_undo.1 Mo_undo.2.2.1 Mo_undo.2.2.2.1 ∈ lw_tbl := List.mem_append_right _ (List.mem_of_getElem? (i := 1342) (by decide +kernel))
theorem Mo_bend_in : Cond.code Mo_bend.2.1 Mo_bend.1 Mo_bend.2.2.1 Mo_bend.2.2.2.1 ∈ lw_tbl := List.mem_append_right _ (List.mem_of_getElem? (i := 1346) (by decide +kernel))
theorem Mo_would_in : Cond.code Mo_would.2.1 Mo_would.1 Mo_would.2.2.1 Mo_would.2.2.2.1 ∈ lw_tbl := List.mem_append_right _ (List.mem_of_getElem? (i := 1351) (by decide +kernel))
theorem Mo_plans_in : Cond.code Mo_plans.2.1 Mo_plans.1 Mo_plans.2.2.1 Mo_plans.2.2.2.1 ∈ lw_tbl := List.mem_append_right _ (List.mem_of_getElem? (i := 1355) (by decide +kernel))
theorem Mo_order_in : Cond.code Mo_order.2.1 Mo_order.1 Mo_order.2.2.1 Mo_order.2.2.2.1 ∈ lw_tbl := List.mem_append_right _ (List.mem_of_getElem? (i := 1359) (by decide +kernel))
theorem Mo_crossings_in : Cond.code Mo_crossings.2.1 Mo_crossings.1 Mo_crossings.2.2.1 Mo_crossings.2.2.2.1 ∈ lw_tbl := List.mem_append_right _ (List.mem_of_getElem? (i := 1363) (by decide +kernel))
theorem Mo_cross_in : Cond.code Mo_cross.2.1 Mo_cross.1 Mo_cross.2.2.1 Mo_cross.2.2.2.1 ∈ lw_tbl := List.mem_append_right _ (List.mem_of_getElem? (i := 1371) (by decide +kernel))
theorem Mo_keep_in : Cond.code Mo_keep.2.1 Mo_keep.1 Mo_keep.2.2.1 Mo_keep.2.2.2.1 ∈ lw_tbl := List.mem_append_right _ (List.mem_of_getElem? (i := 1375) (by decide +kernel))
theorem Mo_goBack_in : Cond.code Mo_goBack.2.1 Mo_goBack.1 Mo_goBack.2.2.1 Mo_goBack.2.2.2.1 ∈ lw_tbl := List.mem_append_right _ (List.mem_of_getElem? (i := 1379) (by decide +kernel))
theorem Jm_abs_in : Cond.code Jm_abs.2.1 Jm_abs.1 Jm_abs.2.2.1 Jm_abs.2.2.2.1 ∈ lw_tbl := List.mem_append_right _ (List.mem_of_getElem? (i := 537) (by decide +kernel))
theorem Jm_max_in : Cond.code Jm_max.2.1 Jm_max.1 Jm_max.2.2.1 Jm_max.2.2.2.1 ∈ lw_tbl := List.mem_append_right _ (List.mem_of_getElem? (i := 543) (by decide +kernel))
theorem Jm_min_in : Cond.code Jm_min.2.1 Jm_min.1 Jm_min.2.2.1 Jm_min.2.2.2.1 ∈ lw_tbl := List.mem_append_right _ (List.mem_of_getElem? (i := 540) (by decide +kernel))
theorem Ja_fill_in : Cond.code Ja_fill.2.1 Ja_fill.1 Ja_fill.2.2.1 Ja_fill.2.2.2.1 ∈ lw_tbl := List.mem_append_right _ (List.mem_of_getElem? (i := 358) (by decide +kernel))
def ewFLok (q : Nat × Nat × Nat × Nat) : Prop := ∃ (C : String) (T : u_T) (N : Nat), ewCl[q.2.2.1]? = some (C, T, N) ∧ q.2.2.2 < N ∧ Cond.fieldLink (ewOwn q.1) q.2.1 (T q.2.2.2).1 (T q.2.2.2).2.1 (T q.2.2.2).2.2.1 ∈ lw_tbl
def ewFL0 : List (Nat × Nat × Nat × Nat) := [(4, 19, 4, 0), (7, 84, 4, 0), (4, 9, 4, 1), (7, 105, 4, 1), (4, 30, 4, 2), (7, 108, 4, 2), (4, 15, 4, 3), (4, 27, 4, 4), (4, 33, 4, 5), (4, 70, 4, 6), (1, 65, 1, 0), (7, 102, 1, 0), (3, 96, 1, 0), (6, 104, 1, 0), (4, 76, 1, 0), (1, 69, 1, 1), (0, 29, 1, 1), (3, 74, 1, 1), (7, 111, 1, 1), (6, 142, 1, 1), (1, 72, 1, 2), (7, 114, 1, 2), (6, 111, 1, 2), (0, 114, 1, 2), (1, 9, 1, 3), (5, 28, 1, 3), (1, 15, 1, 4), (5, 37, 1, 4), (1, 18, 1, 5), (3, 103, 1, 5), (7, 179, 1, 5), (6, 136, 1, 5), (1, 21, 1, 6), (3, 106, 1, 6), (7, 182, 1, 6), (6, 165, 1, 6), (1, 24, 1, 7), (7, 207, 1, 7), (1, 27, 1, 8), (7, 210, 1, 8)]
theorem ewFL0_ok : ∀ q ∈ ewFL0, ewFLok q := List.forall_mem_cons.mpr ⟨⟨_, _, _, rfl, by decide, List.mem_append_right _ (List.mem_of_getElem? (i := 27) (by decide +kernel))⟩, List.forall_mem_cons.mpr ⟨⟨_, _, _, rfl, by decide, List.mem_append_right _ (List.mem_of_getElem? (i := 28) (by decide +kernel))⟩, List.forall_mem_cons.mpr ⟨⟨_, _, _, rfl, by decide, List.mem_append_right _ (List.mem_of_getElem? (i := 29) (by decide +kernel))⟩, List.forall_mem_cons.mpr ⟨⟨_, _, _, rfl, by decide, List.mem_append_right _ (List.mem_of_getElem? (i := 30) (by decide +kernel))⟩, List.forall_mem_cons.mpr ⟨⟨_, _, _, rfl, by decide, List.mem_append_right _ (List.mem_of_getElem? (i := 31) (by decide +kernel))⟩, List.forall_mem_cons.mpr ⟨⟨_, _, _, rfl, by decide, List.mem_append_right _ (List.mem_of_getElem? (i := 32) (by decide +kernel))⟩, List.forall_mem_cons.mpr ⟨⟨_, _, _, rfl, by decide, List.mem_append_right _ (List.mem_of_getElem? (i := 33) (by decide +kernel))⟩, List.forall_mem_cons.mpr ⟨⟨_, _, _, rfl, by decide, List.mem_append_right _ (List.mem_of_getElem? (i := 34) (by decide +kernel))⟩, List.forall_mem_cons.mpr ⟨⟨_, _, _, rfl, by decide, List.mem_append_right _ (List.mem_of_getElem? (i := 35) (by decide +kernel))⟩, List.forall_mem_cons.mpr ⟨⟨_, _, _, rfl, by decide, List.mem_append_right _ (List.mem_of_getElem? (i := 36) (by decide +kernel))⟩, List.forall_mem_cons.mpr ⟨⟨_, _, _, rfl, by decide, List.mem_append_right _ (List.mem_of_getElem? (i := 61) (by decide +kernel))⟩, List.forall_mem_cons.mpr ⟨⟨_, _, _, rfl, by decide, List.mem_append_right _ (List.mem_of_getElem? (i := 62) (by decide +kernel))⟩, List.forall_mem_cons.mpr ⟨⟨_, _, _, rfl, by decide, List.mem_append_right _ (List.mem_of_getElem? (i := 63) (by decide +kernel))⟩, List.forall_mem_cons.mpr ⟨⟨_, _, _, rfl, by decide, List.mem_append_right _ (List.mem_of_getElem? (i := 64) (by decide +kernel))⟩, List.forall_mem_cons.mpr ⟨⟨_, _, _, rfl, by decide, List.mem_append_right _ (List.mem_of_getElem? (i := 65) (by decide +kernel))⟩, List.forall_mem_cons.mpr ⟨⟨_, _, _, rfl, by decide, List.mem_append_right _ (List.mem_of_getElem? (i := 66) (by decide +kernel))⟩, List.forall_mem_cons.mpr ⟨⟨_, _, _, rfl, by decide, List.mem_append_right _ (List.mem_of_getElem? (i := 67) (by decide +kernel))⟩, List.forall_mem_cons.mpr ⟨⟨_, _, _, rfl, by decide, List.mem_append_right _ (List.mem_of_getElem? (i := 68) (by decide +kernel))⟩, List.forall_mem_cons.mpr ⟨⟨_, _, _, rfl, by decide, List.mem_append_right _ (List.mem_of_getElem? (i := 69) (by decide +kernel))⟩, List.forall_mem_cons.mpr ⟨⟨_, _, _, rfl, by decide, List.mem_append_right _ (List.mem_of_getElem? (i := 70) (by decide +kernel))⟩, List.forall_mem_cons.mpr ⟨⟨_, _, _, rfl, by decide, List.mem_append_right _ (List.mem_of_getElem? (i := 71) (by decide +kernel))⟩, List.forall_mem_cons.mpr ⟨⟨_, _, _, rfl, by decide, List.mem_append_right _ (List.mem_of_getElem? (i := 72) (by decide +kernel))⟩, List.forall_mem_cons.mpr ⟨⟨_, _, _, rfl, by decide, List.mem_append_right _ (List.mem_of_getElem? (i := 73) (by decide +kernel))⟩, List.forall_mem_cons.mpr ⟨⟨_, _, _, rfl, by decide, List.mem_append_right _ (List.mem_of_getElem? (i := 74) (by decide +kernel))⟩, List.forall_mem_cons.mpr ⟨⟨_, _, _, rfl, by decide, List.mem_append_right _ (List.mem_of_getElem? (i := 75) (by decide +kernel))⟩, List.forall_mem_cons.mpr ⟨⟨_, _, _, rfl, by decide, List.mem_append_right _ (List.mem_of_getElem? (i := 76) (by decide +kernel))⟩, List.forall_mem_cons.mpr ⟨⟨_, _, _, rfl, by decide, List.mem_append_right _ (List.mem_of_getElem? (i := 77) (by decide +kernel))⟩, List.forall_mem_cons.mpr ⟨⟨_, _, _, rfl, by decide, List.mem_append_right _ (List.mem_of_getElem? (i := 78) (by decide +kernel))⟩, List.forall_mem_cons.mpr ⟨⟨_, _, _, rfl, by decide, List.mem_append_right _ (List.mem_of_getElem? (i := 79) (by decide +kernel))⟩, List.forall_mem_cons.mpr ⟨⟨_, _, _, rfl, by decide, List.mem_append_right _ (List.mem_of_getElem? (i := 80) (by decide +kernel))⟩, List.forall_mem_cons.mpr ⟨⟨_, _, _, rfl, by decide, List.mem_append_right _ (List.mem_of_getElem? (i := 81) (by decide +kernel))⟩, List.forall_mem_cons.mpr ⟨⟨_, _, _, rfl, by decide, List.mem_append_right _ (List.mem_of_getElem? (i := 82) (by decide +kernel))⟩, List.forall_mem_cons.mpr ⟨⟨_, _, _, rfl, by decide, List.mem_append_right _ (List.mem_of_getElem? (i := 83) (by decide +kernel))⟩, List.forall_mem_cons.mpr ⟨⟨_, _, _, rfl, by decide, List.mem_append_right _ (List.mem_of_getElem? (i := 84) (by decide +kernel))⟩, List.forall_mem_cons.mpr ⟨⟨_, _, _, rfl, by decide, List.mem_append_right _ (List.mem_of_getElem? (i := 85) (by decide +kernel))⟩, List.forall_mem_cons.mpr ⟨⟨_, _, _, rfl, by decide, List.mem_append_right _ (List.mem_of_getElem? (i := 86) (by decide +kernel))⟩, List.forall_mem_cons.mpr ⟨⟨_, _, _, rfl, by decide, List.mem_append_right _ (List.mem_of_getElem? (i := 87) (by decide +kernel))⟩, List.forall_mem_cons.mpr ⟨⟨_, _, _, rfl, by decide, List.mem_append_right _ (List.mem_of_getElem? (i := 88) (by decide +kernel))⟩, List.forall_mem_cons.mpr ⟨⟨_, _, _, rfl, by decide, List.mem_append_right _ (List.mem_of_getElem? (i := 89) (by decide +kernel))⟩, List.forall_mem_cons.mpr ⟨⟨_, _, _, rfl, by decide, List.mem_append_right _ (List.mem_of_getElem? (i := 90) (by decide +kernel))⟩, fun _ h => absurd h List.not_mem_nil⟩⟩⟩⟩⟩⟩⟩⟩⟩⟩⟩⟩⟩⟩⟩⟩⟩⟩⟩⟩⟩⟩⟩⟩⟩⟩⟩⟩⟩⟩⟩⟩⟩⟩⟩⟩⟩⟩⟩⟩
def ewFL1 : List (Nat × Nat × Nat × Nat) := [(1, 30, 1, 9), (3, 135, 1, 9), (1, 33, 1, 10), (3, 122, 1, 10), (1, 36, 1, 11), (3, 115, 1, 11), (1, 39, 1, 12), (7, 219, 1, 12), (0, 111, 1, 12), (1, 42, 1, 13), (7, 213, 1, 13), (0, 108, 1, 13), (1, 45, 1, 14), (6, 92, 1, 14), (7, 201, 1, 14), (1, 48, 1, 15), (6, 118, 1, 15), (1, 51, 1, 16), (6, 121, 1, 16), (1, 56, 1, 17), (0, 82, 1, 17), (6, 132, 1, 17), (1, 59, 1, 18), (0, 96, 1, 18), (1, 62, 1, 19), (5, 21, 5, 0), (7, 117, 5, 0), (0, 99, 5, 0), (5, 25, 5, 1), (7, 120, 5, 1), (0, 90, 5, 1), (5, 9, 5, 2), (7, 157, 5, 2), (5, 15, 5, 3), (7, 161, 5, 3), (5, 18, 5, 4), (0, 62, 5, 4), (7, 198, 5, 4), (2, 18, 2, 0), (7, 152, 2, 0)]
theorem ewFL1_ok : ∀ q ∈ ewFL1, ewFLok q := List.forall_mem_cons.mpr ⟨⟨_, _, _, rfl, by decide, List.mem_append_right _ (List.mem_of_getElem? (i := 91) (by decide +kernel))⟩, List.forall_mem_cons.mpr ⟨⟨_, _, _, rfl, by decide, List.mem_append_right _ (List.mem_of_getElem? (i := 92) (by decide +kernel))⟩, List.forall_mem_cons.mpr ⟨⟨_, _, _, rfl, by decide, List.mem_append_right _ (List.mem_of_getElem? (i := 93) (by decide +kernel))⟩, List.forall_mem_cons.mpr ⟨⟨_, _, _, rfl, by decide, List.mem_append_right _ (List.mem_of_getElem? (i := 94) (by decide +kernel))⟩, List.forall_mem_cons.mpr ⟨⟨_, _, _, rfl, by decide, List.mem_append_right _ (List.mem_of_getElem? (i := 95) (by decide +kernel))⟩, List.forall_mem_cons.mpr ⟨⟨_, _, _, rfl, by decide, List.mem_append_right _ (List.mem_of_getElem? (i := 96) (by decide +kernel))⟩, List.forall_mem_cons.mpr ⟨⟨_, _, _, rfl, by decide, List.mem_append_right _ (List.mem_of_getElem? (i := 97) (by decide +kernel))⟩, List.forall_mem_cons.mpr ⟨⟨_, _, _, rfl, by decide, List.mem_append_right _ (List.mem_of_getElem? (i := 98) (by decide +kernel))⟩, List.forall_mem_cons.mpr ⟨⟨_, _, _, rfl, by decide, List.mem_append_right _ (List.mem_of_getElem? (i := 99) (by decide +kernel))⟩, List.forall_mem_cons.mpr ⟨⟨_, _, _, rfl, by decide, List.mem_append_right _ (List.mem_of_getElem? (i := 100) (by decide +kernel))⟩, List.forall_mem_cons.mpr ⟨⟨_, _, _, rfl, by decide, List.mem_append_right _ (List.mem_of_getElem? (i := 101) (by decide +kernel))⟩, List.forall_mem_cons.mpr ⟨⟨_, _, _, rfl, by decide, List.mem_append_right _ (List.mem_of_getElem? (i := 102) (by decide +kernel))⟩, List.forall_mem_cons.mpr ⟨⟨_, _, _, rfl, by decide, List.mem_append_right _ (List.mem_of_getElem? (i := 103) (by decide +kernel))⟩, List.forall_mem_cons.mpr ⟨⟨_, _, _, rfl, by decide, List.mem_append_right _ (List.mem_of_getElem? (i := 104) (by decide +kernel))⟩, List.forall_mem_cons.mpr ⟨⟨_, _, _, rfl, by decide, List.mem_append_right _ (List.mem_of_getElem? (i := 105) (by decide +kernel))⟩, List.forall_mem_cons.mpr ⟨⟨_, _, _, rfl, by decide, List.mem_append_right _ (List.mem_of_getElem? (i := 106) (by decide +kernel))⟩, List.forall_mem_cons.mpr ⟨⟨_, _, _, rfl, by decide, List.mem_append_right _ (List.mem_of_getElem? (i := 107) (by decide +kernel))⟩, List.forall_mem_cons.mpr ⟨⟨_, _, _, rfl, by decide, List.mem_append_right _ (List.mem_of_getElem? (i := 108) (by decide +kernel))⟩, List.forall_mem_cons.mpr ⟨⟨_, _, _, rfl, by decide, List.mem_append_right _ (List.mem_of_getElem? (i := 109) (by decide +kernel))⟩, List.forall_mem_cons.mpr ⟨⟨_, _, _, rfl, by decide, List.mem_append_right _ (List.mem_of_getElem? (i := 110) (by decide +kernel))⟩, List.forall_mem_cons.mpr ⟨⟨_, _, _, rfl, by decide, List.mem_append_right _ (List.mem_of_getElem? (i := 111) (by decide +kernel))⟩, List.forall_mem_cons.mpr ⟨⟨_, _, _, rfl, by decide, List.mem_append_right _ (List.mem_of_getElem? (i := 112) (by decide +kernel))⟩, List.forall_mem_cons.mpr ⟨⟨_, _, _, rfl, by decide, List.mem_append_right _ (List.mem_of_getElem? (i := 113) (by decide +kernel))⟩, List.forall_mem_cons.mpr ⟨⟨_, _, _, rfl, by decide, List.mem_append_right _ (List.mem_of_getElem? (i := 114) (by decide +kernel))⟩, List.forall_mem_cons.mpr ⟨⟨_, _, _, rfl, by decide, List.mem_append_right _ (List.mem_of_getElem? (i := 115) (by decide +kernel))⟩, List.forall_mem_cons.mpr ⟨⟨_, _, _, rfl, by decide, List.mem_append_right _ (List.mem_of_getElem? (i := 163) (by decide +kernel))⟩, List.forall_mem_cons.mpr ⟨⟨_, _, _, rfl, by decide, List.mem_append_right _ (List.mem_of_getElem? (i := 164) (by decide +kernel))⟩, List.forall_mem_cons.mpr ⟨⟨_, _, _, rfl, by decide, List.mem_append_right _ (List.mem_of_getElem? (i := 165) (by decide +kernel))⟩, List.forall_mem_cons.mpr ⟨⟨_, _, _, rfl, by decide, List.mem_append_right _ (List.mem_of_getElem? (i := 166) (by decide +kernel))⟩, List.forall_mem_cons.mpr ⟨⟨_, _, _, rfl, by decide, List.mem_append_right _ (List.mem_of_getElem? (i := 167) (by decide +kernel))⟩, List.forall_mem_cons.mpr ⟨⟨_, _, _, rfl, by decide, List.mem_append_right _ (List.mem_of_getElem? (i := 168) (by decide +kernel))⟩, List.forall_mem_cons.mpr ⟨⟨_, _, _, rfl, by decide, List.mem_append_right _ (List.mem_of_getElem? (i := 169) (by decide +kernel))⟩, List.forall_mem_cons.mpr ⟨⟨_, _, _, rfl, by decide, List.mem_append_right _ (List.mem_of_getElem? (i := 170) (by decide +kernel))⟩, List.forall_mem_cons.mpr ⟨⟨_, _, _, rfl, by decide, List.mem_append_right _ (List.mem_of_getElem? (i := 171) (by decide +kernel))⟩, List.forall_mem_cons.mpr ⟨⟨_, _, _, rfl, by decide, List.mem_append_right _ (List.mem_of_getElem? (i := 172) (by decide +kernel))⟩, List.forall_mem_cons.mpr ⟨⟨_, _, _, rfl, by decide, List.mem_append_right _ (List.mem_of_getElem? (i := 173) (by decide +kernel))⟩, List.forall_mem_cons.mpr ⟨⟨_, _, _, rfl, by decide, List.mem_append_right _ (List.mem_of_getElem? (i := 174) (by decide +kernel))⟩, List.forall_mem_cons.mpr ⟨⟨_, _, _, rfl, by decide, List.mem_append_right _ (List.mem_of_getElem? (i := 175) (by decide +kernel))⟩, List.forall_mem_cons.mpr ⟨⟨_, _, _, rfl, by decide, List.mem_append_right _ (List.mem_of_getElem? (i := 196) (by decide +kernel))⟩, List.forall_mem_cons.mpr ⟨⟨_, _, _, rfl, by decide, List.mem_append_right _ (List.mem_of_getElem? (i := 197) (by decide +kernel))⟩, fun _ h => absurd h List.not_mem_nil⟩⟩⟩⟩⟩⟩⟩⟩⟩⟩⟩⟩⟩⟩⟩⟩⟩⟩⟩⟩⟩⟩⟩⟩⟩⟩⟩⟩⟩⟩⟩⟩⟩⟩⟩⟩⟩⟩⟩⟩
def ewFL2 : List (Nat × Nat × Nat × Nat) := [(2, 22, 2, 1), (2, 11, 2, 2), (6, 70, 0, 0), (3, 64, 0, 0), (0, 53, 0, 0), (7, 127, 0, 0), (0, 9, 0, 1), (3, 39, 0, 1), (6, 49, 0, 1), (7, 189, 0, 1), (0, 15, 0, 2), (0, 18, 0, 3), (0, 25, 0, 4), (0, 21, 0, 5), (3, 45, 0, 5), (6, 55, 0, 5), (0, 46, 0, 6), (3, 51, 3, 0), (7, 138, 3, 0), (3, 55, 3, 1), (7, 149, 3, 1), (3, 9, 3, 2), (7, 195, 3, 2), (3, 15, 3, 3), (7, 171, 3, 3), (3, 18, 3, 4), (7, 172, 3, 4), (3, 21, 3, 5), (7, 173, 3, 5), (3, 24, 3, 6), (3, 29, 3, 7), (3, 32, 3, 8), (3, 35, 3, 9), (3, 44, 3, 10), (3, 49, 3, 11), (6, 66, 6, 0), (7, 145, 6, 0), (6, 9, 6, 1), (6, 15, 6, 2), (6, 18, 6, 3)]
theorem ewFL2_ok : ∀ q ∈ ewFL2, ewFLok q := List.forall_mem_cons.mpr ⟨⟨_, _, _, rfl, by decide, List.mem_append_right _ (List.mem_of_getElem? (i := 198) (by decide +kernel))⟩, List.forall_mem_cons.mpr ⟨⟨_, _, _, rfl, by decide, List.mem_append_right _ (List.mem_of_getElem? (i := 199) (by decide +kernel))⟩, List.forall_mem_cons.mpr ⟨⟨_, _, _, rfl, by decide, List.mem_append_right _ (List.mem_of_getElem? (i := 213) (by decide +kernel))⟩, List.forall_mem_cons.mpr ⟨⟨_, _, _, rfl, by decide, List.mem_append_right _ (List.mem_of_getElem? (i := 214) (by decide +kernel))⟩, List.forall_mem_cons.mpr ⟨⟨_, _, _, rfl, by decide, List.mem_append_right _ (List.mem_of_getElem? (i := 215) (by decide +kernel))⟩, List.forall_mem_cons.mpr ⟨⟨_, _, _, rfl, by decide, List.mem_append_right _ (List.mem_of_getElem? (i := 216) (by decide +kernel))⟩, List.forall_mem_cons.mpr ⟨⟨_, _, _, rfl, by decide, List.mem_append_right _ (List.mem_of_getElem? (i := 217) (by decide +kernel))⟩, List.forall_mem_cons.mpr ⟨⟨_, _, _, rfl, by decide, List.mem_append_right _ (List.mem_of_getElem? (i := 218) (by decide +kernel))⟩, List.forall_mem_cons.mpr ⟨⟨_, _, _, rfl, by decide, List.mem_append_right _ (List.mem_of_getElem? (i := 219) (by decide +kernel))⟩, List.forall_mem_cons.mpr ⟨⟨_, _, _, rfl, by decide, List.mem_append_right _ (List.mem_of_getElem? (i := 220) (by decide +kernel))⟩, List.forall_mem_cons.mpr ⟨⟨_, _, _, rfl, by decide, List.mem_append_right _ (List.mem_of_getElem? (i := 221) (by decide +kernel))⟩, List.forall_mem_cons.mpr ⟨⟨_, _, _, rfl, by decide, List.mem_append_right _ (List.mem_of_getElem? (i := 222) (by decide +kernel))⟩, List.forall_mem_cons.mpr ⟨⟨_, _, _, rfl, by decide, List.mem_append_right _ (List.mem_of_getElem? (i := 223) (by decide +kernel))⟩, List.forall_mem_cons.mpr ⟨⟨_, _, _, rfl, by decide, List.mem_append_right _ (List.mem_of_getElem? (i := 224) (by decide +kernel))⟩, List.forall_mem_cons.mpr ⟨⟨_, _, _, rfl, by decide, List.mem_append_right _ (List.mem_of_getElem? (i := 225) (by decide +kernel))⟩, List.forall_mem_cons.mpr ⟨⟨_, _, _, rfl, by decide, List.mem_append_right _ (List.mem_of_getElem? (i := 226) (by decide +kernel))⟩, List.forall_mem_cons.mpr ⟨⟨_, _, _, rfl, by decide, List.mem_append_right _ (List.mem_of_getElem? (i := 227) (by decide +kernel))⟩, List.forall_mem_cons.mpr ⟨⟨_, _, _, rfl, by decide, List.mem_append_right _ (List.mem_of_getElem? (i := 250) (by decide +kernel))⟩, List.forall_mem_cons.mpr ⟨⟨_, _, _, rfl, by decide, List.mem_append_right _ (List.mem_of_getElem? (i := 251) (by decide +kernel))⟩, List.forall_mem_cons.mpr ⟨⟨_, _, _, rfl, by decide, List.mem_append_right _ (List.mem_of_getElem? (i := 252) (by decide +kernel))⟩, List.forall_mem_cons.mpr ⟨⟨_, _, _, rfl, by decide, List.mem_append_right _ (List.mem_of_getElem? (i := 253) (by decide +kernel))⟩, List.forall_mem_cons.mpr ⟨⟨_, _, _, rfl, by decide, List.mem_append_right _ (List.mem_of_getElem? (i := 254) (by decide +kernel))⟩, List.forall_mem_cons.mpr ⟨⟨_, _, _, rfl, by decide, List.mem_append_right _ (List.mem_of_getElem? (i := 255) (by decide +kernel))⟩, List.forall_mem_cons.mpr ⟨⟨_, _, _, rfl, by decide, List.mem_append_right _ (List.mem_of_getElem? (i := 256) (by decide +kernel))⟩, List.forall_mem_cons.mpr ⟨⟨_, _, _, rfl, by decide, List.mem_append_right _ (List.mem_of_getElem? (i := 257) (by decide +kernel))⟩, List.forall_mem_cons.mpr ⟨⟨_, _, _, rfl, by decide, List.mem_append_right _ (List.mem_of_getElem? (i := 258) (by decide +kernel))⟩, List.forall_mem_cons.mpr ⟨⟨_, _, _, rfl, by decide, List.mem_append_right _ (List.mem_of_getElem? (i := 259) (by decide +kernel))⟩, List.forall_mem_cons.mpr ⟨⟨_, _, _, rfl, by decide, List.mem_append_right _ (List.mem_of_getElem? (i := 260) (by decide +kernel))⟩, List.forall_mem_cons.mpr ⟨⟨_, _, _, rfl, by decide, List.mem_append_right _ (List.mem_of_getElem? (i := 261) (by decide +kernel))⟩, List.forall_mem_cons.mpr ⟨⟨_, _, _, rfl, by decide, List.mem_append_right _ (List.mem_of_getElem? (i := 262) (by decide +kernel))⟩, List.forall_mem_cons.mpr ⟨⟨_, _, _, rfl, by decide, List.mem_append_right _ (List.mem_of_getElem? (i := 263) (by decide +kernel))⟩, List.forall_mem_cons.mpr ⟨⟨_, _, _, rfl, by decide, List.mem_append_right _ (List.mem_of_getElem? (i := 264) (by decide +kernel))⟩, List.forall_mem_cons.mpr ⟨⟨_, _, _, rfl, by decide, List.mem_append_right _ (List.mem_of_getElem? (i := 265) (by decide +kernel))⟩, List.forall_mem_cons.mpr ⟨⟨_, _, _, rfl, by decide, List.mem_append_right _ (List.mem_of_getElem? (i := 266) (by decide +kernel))⟩, List.forall_mem_cons.mpr ⟨⟨_, _, _, rfl, by decide, List.mem_append_right _ (List.mem_of_getElem? (i := 267) (by decide +kernel))⟩, List.forall_mem_cons.mpr ⟨⟨_, _, _, rfl, by decide, List.mem_append_right _ (List.mem_of_getElem? (i := 299) (by decide +kernel))⟩, List.forall_mem_cons.mpr ⟨⟨_, _, _, rfl, by decide, List.mem_append_right _ (List.mem_of_getElem? (i := 300) (by decide +kernel))⟩, List.forall_mem_cons.mpr ⟨⟨_, _, _, rfl, by decide, List.mem_append_right _ (List.mem_of_getElem? (i := 301) (by decide +kernel))⟩, List.forall_mem_cons.mpr ⟨⟨_, _, _, rfl, by decide, List.mem_append_right _ (List.mem_of_getElem? (i := 302) (by decide +kernel))⟩, List.forall_mem_cons.mpr ⟨⟨_, _, _, rfl, by decide, List.mem_append_right _ (List.mem_of_getElem? (i := 303) (by decide +kernel))⟩, fun _ h => absurd h List.not_mem_nil⟩⟩⟩⟩⟩⟩⟩⟩⟩⟩⟩⟩⟩⟩⟩⟩⟩⟩⟩⟩⟩⟩⟩⟩⟩⟩⟩⟩⟩⟩⟩⟩⟩⟩⟩⟩⟩⟩⟩⟩
def ewFL3 : List (Nat × Nat × Nat × Nat) := [(6, 21, 6, 4), (6, 24, 6, 5), (6, 27, 6, 6), (6, 30, 6, 7), (6, 33, 6, 8), (6, 36, 6, 9), (6, 39, 6, 10), (6, 42, 6, 11), (6, 152, 6, 12), (6, 45, 6, 13), (6, 54, 6, 14), (6, 59, 6, 15), (7, 10, 7, 0), (7, 19, 7, 1), (7, 23, 7, 2), (7, 29, 7, 3), (7, 33, 7, 4), (7, 39, 7, 5), (7, 43, 7, 6), (7, 96, 7, 7), (7, 52, 7, 8), (7, 56, 7, 9), (7, 64, 7, 10), (7, 71, 7, 11), (7, 281, 7, 12), (7, 252, 7, 13), (7, 284, 7, 14), (7, 287, 7, 15), (7, 259, 7, 16), (8, 128, 8, 0), (8, 131, 8, 1), (8, 7, 8, 2), (8, 13, 8, 3), (8, 134, 8, 4), (8, 16, 8, 5), (8, 19, 8, 6), (8, 22, 8, 7), (8, 25, 8, 8), (8, 28, 8, 9), (8, 31, 8, 10)]
theorem ewFL3_ok : ∀ q ∈ ewFL3, ewFLok q := List.forall_mem_cons.mpr ⟨⟨_, _, _, rfl, by decide, List.mem_append_right _ (List.mem_of_getElem? (i := 304) (by decide +kernel))⟩, List.forall_mem_cons.mpr ⟨⟨_, _, _, rfl, by decide, List.mem_append_right _ (List.mem_of_getElem? (i := 305) (by decide +kernel))⟩, List.forall_mem_cons.mpr ⟨⟨_, _, _, rfl, by decide, List.mem_append_right _ (List.mem_of_getElem? (i := 306) (by decide +kernel))⟩, List.forall_mem_cons.mpr ⟨⟨_, _, _, rfl, by decide, List.mem_append_right _ (List.mem_of_getElem? (i := 307) (by decide +kernel))⟩, List.forall_mem_cons.mpr ⟨⟨_, _, _, rfl, by decide, List.mem_append_right _ (List.mem_of_getElem? (i := 308) (by decide +kernel))⟩, List.forall_mem_cons.mpr ⟨⟨_, _, _, rfl, by decide, List.mem_append_right _ (List.mem_of_getElem? (i := 309) (by decide +kernel))⟩, List.forall_mem_cons.mpr ⟨⟨_, _, _, rfl, by decide, List.mem_append_right _ (List.mem_of_getElem? (i := 310) (by decide +kernel))⟩, List.forall_mem_cons.mpr ⟨⟨_, _, _, rfl, by decide, List.mem_append_right _ (List.mem_of_getElem? (i := 311) (by decide +kernel))⟩, List.forall_mem_cons.mpr ⟨⟨_, _, _, rfl, by decide, List.mem_append_right _ (List.mem_of_getElem? (i := 312) (by decide +kernel))⟩, List.forall_mem_cons.mpr ⟨⟨_, _, _, rfl, by decide, List.mem_append_right _ (List.mem_of_getElem? (i := 313) (by decide +kernel))⟩, List.forall_mem_cons.mpr ⟨⟨_, _, _, rfl, by decide, List.mem_append_right _ (List.mem_of_getElem? (i := 314) (by decide +kernel))⟩, List.forall_mem_cons.mpr ⟨⟨_, _, _, rfl, by decide, List.mem_append_right _ (List.mem_of_getElem? (i := 315) (by decide +kernel))⟩, List.forall_mem_cons.mpr ⟨⟨_, _, _, rfl, by decide, List.mem_append_right _ (List.mem_of_getElem? (i := 359) (by decide +kernel))⟩, List.forall_mem_cons.mpr ⟨⟨_, _, _, rfl, by decide, List.mem_append_right _ (List.mem_of_getElem? (i := 360) (by decide +kernel))⟩, List.forall_mem_cons.mpr ⟨⟨_, _, _, rfl, by decide, List.mem_append_right _ (List.mem_of_getElem? (i := 361) (by decide +kernel))⟩, List.forall_mem_cons.mpr ⟨⟨_, _, _, rfl, by decide, List.mem_append_right _ (List.mem_of_getElem? (i := 362) (by decide +kernel))⟩, List.forall_mem_cons.mpr ⟨⟨_, _, _, rfl, by decide, List.mem_append_right _ (List.mem_of_getElem? (i := 363) (by decide +kernel))⟩, List.forall_mem_cons.mpr ⟨⟨_, _, _, rfl, by decide, List.mem_append_right _ (List.mem_of_getElem? (i := 364) (by decide +kernel))⟩, List.forall_mem_cons.mpr ⟨⟨_, _, _, rfl, by decide, List.mem_append_right _ (List.mem_of_getElem? (i := 365) (by decide +kernel))⟩, List.forall_mem_cons.mpr ⟨⟨_, _, _, rfl, by decide, List.mem_append_right _ (List.mem_of_getElem? (i := 366) (by decide +kernel))⟩, List.forall_mem_cons.mpr ⟨⟨_, _, _, rfl, by decide, List.mem_append_right _ (List.mem_of_getElem? (i := 367) (by decide +kernel))⟩, List.forall_mem_cons.mpr ⟨⟨_, _, _, rfl, by decide, List.mem_append_right _ (List.mem_of_getElem? (i := 368) (by decide +kernel))⟩, List.forall_mem_cons.mpr ⟨⟨_, _, _, rfl, by decide, List.mem_append_right _ (List.mem_of_getElem? (i := 369) (by decide +kernel))⟩, List.forall_mem_cons.mpr ⟨⟨_, _, _, rfl, by decide, List.mem_append_right _ (List.mem_of_getElem? (i := 370) (by decide +kernel))⟩, List.forall_mem_cons.mpr ⟨⟨_, _, _, rfl, by decide, List.mem_append_right _ (List.mem_of_getElem? (i := 371) (by decide +kernel))⟩, List.forall_mem_cons.mpr ⟨⟨_, _, _, rfl, by decide, List.mem_append_right _ (List.mem_of_getElem? (i := 372) (by decide +kernel))⟩, List.forall_mem_cons.mpr ⟨⟨_, _, _, rfl, by decide, List.mem_append_right _ (List.mem_of_getElem? (i := 373) (by decide +kernel))⟩, List.forall_mem_cons.mpr ⟨⟨_, _, _, rfl, by decide, List.mem_append_right _ (List.mem_of_getElem? (i := 374) (by decide +kernel))⟩, List.forall_mem_cons.mpr ⟨⟨_, _, _, rfl, by decide, List.mem_append_right _ (List.mem_of_getElem? (i := 375) (by decide +kernel))⟩, List.forall_mem_cons.mpr ⟨⟨_, _, _, rfl, by decide, List.mem_append_right _ (List.mem_of_getElem? (i := 902) (by decide +kernel))⟩, List.forall_mem_cons.mpr ⟨⟨_, _, _, rfl, by decide, List.mem_append_right _ (List.mem_of_getElem? (i := 903) (by decide +kernel))⟩, List.forall_mem_cons.mpr ⟨⟨_, _, _, rfl, by decide, List.mem_append_right _ (List.mem_of_getElem? (i := 904) (by decide +kernel))⟩, List.forall_mem_cons.mpr ⟨⟨_, _, _, rfl, by decide, List.mem_append_right _ (List.mem_of_getElem? (i := 905) (by decide +kernel))⟩, List.forall_mem_cons.mpr ⟨⟨_, _, _, rfl, by decide, List.mem_append_right _ (List.mem_of_getElem? (i := 906) (by decide +kernel))⟩, List.forall_mem_cons.mpr ⟨⟨_, _, _, rfl, by decide, List.mem_append_right _ (List.mem_of_getElem? (i := 907) (by decide +kernel))⟩, List.forall_mem_cons.mpr ⟨⟨_, _, _, rfl, by decide, List.mem_append_right _ (List.mem_of_getElem? (i := 908) (by decide +kernel))⟩, List.forall_mem_cons.mpr ⟨⟨_, _, _, rfl, by decide, List.mem_append_right _ (List.mem_of_getElem? (i := 909) (by decide +kernel))⟩, List.forall_mem_cons.mpr ⟨⟨_, _, _, rfl, by decide, List.mem_append_right _ (List.mem_of_getElem? (i := 910) (by decide +kernel))⟩, List.forall_mem_cons.mpr ⟨⟨_, _, _, rfl, by decide, List.mem_append_right _ (List.mem_of_getElem? (i := 911) (by decide +kernel))⟩, List.forall_mem_cons.mpr ⟨⟨_, _, _, rfl, by decide, List.mem_append_right _ (List.mem_of_getElem? (i := 912) (by decide +kernel))⟩, fun _ h => absurd h List.not_mem_nil⟩⟩⟩⟩⟩⟩⟩⟩⟩⟩⟩⟩⟩⟩⟩⟩⟩⟩⟩⟩⟩⟩⟩⟩⟩⟩⟩⟩⟩⟩⟩⟩⟩⟩⟩⟩⟩⟩⟩⟩
def ewFL4 : List (Nat × Nat × Nat × Nat) := [(8, 34, 8, 11), (8, 140, 8, 12), (8, 37, 8, 13), (8, 172, 8, 14), (8, 144, 8, 15), (8, 162, 8, 16), (8, 159, 8, 17), (8, 165, 8, 18), (8, 41, 8, 19), (8, 44, 8, 20), (8, 175, 8, 21), (8, 47, 8, 22), (8, 50, 8, 23), (8, 181, 8, 24), (8, 53, 8, 25), (8, 56, 8, 26), (8, 59, 8, 27), (8, 62, 8, 28), (8, 65, 8, 29), (8, 68, 8, 30), (8, 71, 8, 31), (8, 234, 8, 32), (8, 237, 8, 33), (8, 74, 8, 34), (8, 77, 8, 35), (8, 80, 8, 36), (8, 83, 8, 37), (8, 86, 8, 38), (8, 263, 8, 39), (8, 89, 8, 40), (8, 93, 8, 41), (8, 96, 8, 42), (8, 99, 8, 43), (8, 102, 8, 44), (8, 105, 8, 45), (8, 307, 8, 46), (8, 203, 8, 47), (8, 108, 8, 48), (8, 111, 8, 49), (8, 114, 8, 50)]
theorem ewFL4_ok : ∀ q ∈ ewFL4, ewFLok q := List.forall_mem_cons.mpr ⟨⟨_, _, _, rfl, by decide, List.mem_append_right _ (List.mem_of_getElem? (i := 913) (by decide +kernel))⟩, List.forall_mem_cons.mpr ⟨⟨_, _, _, rfl, by decide, List.mem_append_right _ (List.mem_of_getElem? (i := 914) (by decide +kernel))⟩, List.forall_mem_cons.mpr ⟨⟨_, _, _, rfl, by decide, List.mem_append_right _ (List.mem_of_getElem? (i := 915) (by decide +kernel))⟩, List.forall_mem_cons.mpr ⟨⟨_, _, _, rfl, by decide, List.mem_append_right _ (List.mem_of_getElem? (i := 916) (by decide +kernel))⟩, List.forall_mem_cons.mpr ⟨⟨_, _, _, rfl, by decide, List.mem_append_right _ (List.mem_of_getElem? (i := 917) (by decide +kernel))⟩, List.forall_mem_cons.mpr ⟨⟨_, _, _, rfl, by decide, List.mem_append_right _ (List.mem_of_getElem? (i := 918) (by decide +kernel))⟩, List.forall_mem_cons.mpr ⟨⟨_, _, _, rfl, by decide, List.mem_append_right _ (List.mem_of_getElem? (i := 919) (by decide +kernel))⟩, List.forall_mem_cons.mpr ⟨⟨_, _, _, rfl, by decide, List.mem_append_right _ (List.mem_of_getElem? (i := 920) (by decide +kernel))⟩, List.forall_mem_cons.mpr ⟨⟨_, _, _, rfl, by decide, List.mem_append_right _ (List.mem_of_getElem? (i := 921) (by decide +kernel))⟩, List.forall_mem_cons.mpr ⟨⟨_, _, _, rfl, by decide, List.mem_append_right _ (List.mem_of_getElem? (i := 922) (by decide +kernel))⟩, List.forall_mem_cons.mpr ⟨⟨_, _, _, rfl, by decide, List.mem_append_right _ (List.mem_of_getElem? (i := 923) (by decide +kernel))⟩, List.forall_mem_cons.mpr ⟨⟨_, _, _, rfl, by decide, List.mem_append_right _ (List.mem_of_getElem? (i := 924) (by decide +kernel))⟩, List.forall_mem_cons.mpr ⟨⟨_, _, _, rfl, by decide, List.mem_append_right _ (List.mem_of_getElem? (i := 925) (by decide +kernel))⟩, List.forall_mem_cons.mpr ⟨⟨_, _, _, rfl, by decide, List.mem_append_right _ (List.mem_of_getElem? (i := 926) (by decide +kernel))⟩, List.forall_mem_cons.mpr ⟨⟨_, _, _, rfl, by decide, List.mem_append_right _ (List.mem_of_getElem? (i := 927) (by decide +kernel))⟩, List.forall_mem_cons.mpr ⟨⟨_, _, _, rfl, by decide, List.mem_append_right _ (List.mem_of_getElem? (i := 928) (by decide +kernel))⟩, List.forall_mem_cons.mpr ⟨⟨_, _, _, rfl, by decide, List.mem_append_right _ (List.mem_of_getElem? (i := 929) (by decide +kernel))⟩, List.forall_mem_cons.mpr ⟨⟨_, _, _, rfl, by decide, List.mem_append_right _ (List.mem_of_getElem? (i := 930) (by decide +kernel))⟩, List.forall_mem_cons.mpr ⟨⟨_, _, _, rfl, by decide, List.mem_append_right _ (List.mem_of_getElem? (i := 931) (by decide +kernel))⟩, List.forall_mem_cons.mpr ⟨⟨_, _, _, rfl, by decide, List.mem_append_right _ (List.mem_of_getElem? (i := 932) (by decide +kernel))⟩, List.forall_mem_cons.mpr ⟨⟨_, _, _, rfl, by decide, List.mem_append_right _ (List.mem_of_getElem? (i := 933) (by decide +kernel))⟩, List.forall_mem_cons.mpr ⟨⟨_, _, _, rfl, by decide, List.mem_append_right _ (List.mem_of_getElem? (i := 934) (by decide +kernel))⟩, List.forall_mem_cons.mpr ⟨⟨_, _, _, rfl, by decide, List.mem_append_right _ (List.mem_of_getElem? (i := 935) (by decide +kernel))⟩, List.forall_mem_cons.mpr ⟨⟨_, _, _, rfl, by decide, List.mem_append_right _ (List.mem_of_getElem? (i := 936) (by decide +kernel))⟩, List.forall_mem_cons.mpr ⟨⟨_, _, _, rfl, by decide, List.mem_append_right _ (List.mem_of_getElem? (i := 937) (by decide +kernel))⟩, List.forall_mem_cons.mpr ⟨⟨_, _, _, rfl, by decide, List.mem_append_right _ (List.mem_of_getElem? (i := 938) (by decide +kernel))⟩, List.forall_mem_cons.mpr ⟨⟨_, _, _, rfl, by decide, List.mem_append_right _ (List.mem_of_getElem? (i := 939) (by decide +kernel))⟩, List.forall_mem_cons.mpr ⟨⟨_, _, _, rfl, by decide, List.mem_append_right _ (List.mem_of_getElem? (i := 940) (by decide +kernel))⟩, List.forall_mem_cons.mpr ⟨⟨_, _, _, rfl, by decide, List.mem_append_right _ (List.mem_of_getElem? (i := 941) (by decide +kernel))⟩, List.forall_mem_cons.mpr ⟨⟨_, _, _, rfl, by decide, List.mem_append_right _ (List.mem_of_getElem? (i := 942) (by decide +kernel))⟩, List.forall_mem_cons.mpr ⟨⟨_, _, _, rfl, by decide, List.mem_append_right _ (List.mem_of_getElem? (i := 943) (by decide +kernel))⟩, List.forall_mem_cons.mpr ⟨⟨_, _, _, rfl, by decide, List.mem_append_right _ (List.mem_of_getElem? (i := 944) (by decide +kernel))⟩, List.forall_mem_cons.mpr ⟨⟨_, _, _, rfl, by decide, List.mem_append_right _ (List.mem_of_getElem? (i := 945) (by decide +kernel))⟩, List.forall_mem_cons.mpr ⟨⟨_, _, _, rfl, by decide, List.mem_append_right _ (List.mem_of_getElem? (i := 946) (by decide +kernel))⟩, List.forall_mem_cons.mpr ⟨⟨_, _, _, rfl, by decide, List.mem_append_right _ (List.mem_of_getElem? (i := 947) (by decide +kernel))⟩, List.forall_mem_cons.mpr ⟨⟨_, _, _, rfl, by decide, List.mem_append_right _ (List.mem_of_getElem? (i := 948) (by decide +kernel))⟩, List.forall_mem_cons.mpr ⟨⟨_, _, _, rfl, by decide, List.mem_append_right _ (List.mem_of_getElem? (i := 949) (by decide +kernel))⟩, List.forall_mem_cons.mpr ⟨⟨_, _, _, rfl, by decide, List.mem_append_right _ (List.mem_of_getElem? (i := 950) (by decide +kernel))⟩, List.forall_mem_cons.mpr ⟨⟨_, _, _, rfl, by decide, List.mem_append_right _ (List.mem_of_getElem? (i := 951) (by decide +kernel))⟩, List.forall_mem_cons.mpr ⟨⟨_, _, _, rfl, by decide, List.mem_append_right _ (List.mem_of_getElem? (i := 952) (by decide +kernel))⟩, fun _ h => absurd h List.not_mem_nil⟩⟩⟩⟩⟩⟩⟩⟩⟩⟩⟩⟩⟩⟩⟩⟩⟩⟩⟩⟩⟩⟩⟩⟩⟩⟩⟩⟩⟩⟩⟩⟩⟩⟩⟩⟩⟩⟩⟩⟩
def ewFL : List (Nat × Nat × Nat × Nat) := ewFL0 ++ (ewFL1 ++ (ewFL2 ++ (ewFL3 ++ (ewFL4))))
theorem ewFL_ok : ∀ q ∈ ewFL, ewFLok q := by
  intro q h
  simp only [ewFL, List.mem_append] at h
  rcases h with h | h | h | h | h
  · exact ewFL0_ok q h
  · exact ewFL1_ok q h
  · exact ewFL2_ok q h
  · exact ewFL3_ok q h
  · exact ewFL4_ok q h
def ewSn : Nat → String := fun j => match j with
  | 0 => "SHORTER"
  | 1 => "STEP_X"
  | 2 => "STEP_Y"
  | 3 => "RANKS"
  | 4 => "SIDES"
  | _ => "BITS_IN"
def ewSLok (q : Nat × Nat × Nat) : Prop := q.2.2 < 6 ∧ (Cond.fieldLink (ewOwn q.1) q.2.1 "EightWays" (ewSn q.2.2) "[I" ∈ lw_tbl ∨ Cond.fieldLinkNest (ewOwn q.1) q.2.1 "EightWays" (ewSn q.2.2) "[I" "EightWays" ∈ lw_tbl)
def ewSL : List (Nat × Nat × Nat) := [(7, 308, 0), (0, 105, 0), (3, 109, 1), (3, 112, 2), (6, 101, 5), (6, 184, 4), (6, 89, 3)]
theorem ewSL_ok : ∀ q ∈ ewSL, ewSLok q := List.forall_mem_cons.mpr ⟨⟨by decide, Or.inl (List.mem_append_right _ (List.mem_of_getElem? (i := 562) (by decide +kernel)))⟩, List.forall_mem_cons.mpr ⟨⟨by decide, Or.inr (List.mem_append_right _ (List.mem_of_getElem? (i := 568) (by decide +kernel)))⟩, List.forall_mem_cons.mpr ⟨⟨by decide, Or.inr (List.mem_append_right _ (List.mem_of_getElem? (i := 607) (by decide +kernel)))⟩, List.forall_mem_cons.mpr ⟨⟨by decide, Or.inr (List.mem_append_right _ (List.mem_of_getElem? (i := 609) (by decide +kernel)))⟩, List.forall_mem_cons.mpr ⟨⟨by decide, Or.inr (List.mem_append_right _ (List.mem_of_getElem? (i := 668) (by decide +kernel)))⟩, List.forall_mem_cons.mpr ⟨⟨by decide, Or.inr (List.mem_append_right _ (List.mem_of_getElem? (i := 674) (by decide +kernel)))⟩, List.forall_mem_cons.mpr ⟨⟨by decide, Or.inr (List.mem_append_right _ (List.mem_of_getElem? (i := 857) (by decide +kernel)))⟩, fun _ h => absurd h List.not_mem_nil⟩⟩⟩⟩⟩⟩⟩
def ewKI : List (Nat × Nat × Int32) := [(7, 79, -1000000002), (7, 88, -1000000004), (0, 45, 1000000), (3, 50, 1000000), (6, 168, 1000000), (7, 156, -1000000001), (7, 228, -1000000003), (7, 232, 999999), (8, 139, -1000000002), (8, 143, -1000000004), (8, 306, 1000000), (8, 348, -1000000001), (8, 369, -1000000003)]
theorem ewKI_ok : ∀ q ∈ ewKI, Cond.constant (ewOwn q.1) q.2.1 q.2.2 ∈ lw_tbl := List.forall_mem_cons.mpr ⟨List.mem_append_right _ (List.mem_of_getElem? (i := 415) (by decide +kernel)), List.forall_mem_cons.mpr ⟨List.mem_append_right _ (List.mem_of_getElem? (i := 420) (by decide +kernel)), List.forall_mem_cons.mpr ⟨List.mem_append_right _ (List.mem_of_getElem? (i := 545) (by decide +kernel)), List.forall_mem_cons.mpr ⟨List.mem_append_right _ (List.mem_of_getElem? (i := 588) (by decide +kernel)), List.forall_mem_cons.mpr ⟨List.mem_append_right _ (List.mem_of_getElem? (i := 693) (by decide +kernel)), List.forall_mem_cons.mpr ⟨List.mem_append_right _ (List.mem_of_getElem? (i := 732) (by decide +kernel)), List.forall_mem_cons.mpr ⟨List.mem_append_right _ (List.mem_of_getElem? (i := 791) (by decide +kernel)), List.forall_mem_cons.mpr ⟨List.mem_append_right _ (List.mem_of_getElem? (i := 807) (by decide +kernel)), List.forall_mem_cons.mpr ⟨List.mem_append_right _ (List.mem_of_getElem? (i := 1062) (by decide +kernel)), List.forall_mem_cons.mpr ⟨List.mem_append_right _ (List.mem_of_getElem? (i := 1063) (by decide +kernel)), List.forall_mem_cons.mpr ⟨List.mem_append_right _ (List.mem_of_getElem? (i := 1210) (by decide +kernel)), List.forall_mem_cons.mpr ⟨List.mem_append_right _ (List.mem_of_getElem? (i := 1273) (by decide +kernel)), List.forall_mem_cons.mpr ⟨List.mem_append_right _ (List.mem_of_getElem? (i := 1319) (by decide +kernel)), fun _ h => absurd h List.not_mem_nil⟩⟩⟩⟩⟩⟩⟩⟩⟩⟩⟩⟩⟩
def ewKL : List (Nat × Nat × Nat) := [(5, 44, 16807), (5, 46, 2147483647), (5, 48, 100), (8, 120, 16), (8, 122, 22), (8, 137, 255), (8, 151, 48), (8, 153, 57), (8, 361, 7), (8, 370, 3), (8, 372, 9), (8, 374, 99), (8, 376, 999999), (8, 378, 16807), (8, 380, 2147483647), (8, 382, 100), (8, 384, 4)]
theorem ewKL_ok : ∀ q ∈ ewKL, Cond.constantLong (ewOwn q.1) q.2.1 (Int64.ofNat q.2.2) ∈ lw_tbl := List.forall_mem_cons.mpr ⟨List.mem_append_right _ (List.mem_of_getElem? (i := 812) (by decide +kernel)), List.forall_mem_cons.mpr ⟨List.mem_append_right _ (List.mem_of_getElem? (i := 813) (by decide +kernel)), List.forall_mem_cons.mpr ⟨List.mem_append_right _ (List.mem_of_getElem? (i := 814) (by decide +kernel)), List.forall_mem_cons.mpr ⟨List.mem_append_right _ (List.mem_of_getElem? (i := 897) (by decide +kernel)), List.forall_mem_cons.mpr ⟨List.mem_append_right _ (List.mem_of_getElem? (i := 898) (by decide +kernel)), List.forall_mem_cons.mpr ⟨List.mem_append_right _ (List.mem_of_getElem? (i := 1061) (by decide +kernel)), List.forall_mem_cons.mpr ⟨List.mem_append_right _ (List.mem_of_getElem? (i := 1088) (by decide +kernel)), List.forall_mem_cons.mpr ⟨List.mem_append_right _ (List.mem_of_getElem? (i := 1089) (by decide +kernel)), List.forall_mem_cons.mpr ⟨List.mem_append_right _ (List.mem_of_getElem? (i := 1306) (by decide +kernel)), List.forall_mem_cons.mpr ⟨List.mem_append_right _ (List.mem_of_getElem? (i := 1324) (by decide +kernel)), List.forall_mem_cons.mpr ⟨List.mem_append_right _ (List.mem_of_getElem? (i := 1325) (by decide +kernel)), List.forall_mem_cons.mpr ⟨List.mem_append_right _ (List.mem_of_getElem? (i := 1330) (by decide +kernel)), List.forall_mem_cons.mpr ⟨List.mem_append_right _ (List.mem_of_getElem? (i := 1335) (by decide +kernel)), List.forall_mem_cons.mpr ⟨List.mem_append_right _ (List.mem_of_getElem? (i := 1336) (by decide +kernel)), List.forall_mem_cons.mpr ⟨List.mem_append_right _ (List.mem_of_getElem? (i := 1337) (by decide +kernel)), List.forall_mem_cons.mpr ⟨List.mem_append_right _ (List.mem_of_getElem? (i := 1338) (by decide +kernel)), List.forall_mem_cons.mpr ⟨List.mem_append_right _ (List.mem_of_getElem? (i := 1347) (by decide +kernel)), fun _ h => absurd h List.not_mem_nil⟩⟩⟩⟩⟩⟩⟩⟩⟩⟩⟩⟩⟩⟩⟩⟩⟩
