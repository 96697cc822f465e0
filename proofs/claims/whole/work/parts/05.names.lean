def F_0 : u_T := fun k => match k with
  | 0 => ("PurseHouse", "kiosks", "[LPurseHouse$Kiosk;", true)
  | 1 => ("PurseHouse", "links", "Ljava/util/ArrayList;", true)
  | 2 => ("PurseHouse", "rateTops", "[[I", true)
  | 3 => ("PurseHouse", "rateBottoms", "[[I", true)
  | _ => ("PurseHouse", "numbers", "I", false)
def ty_0 : Nat → FieldType := fun k => match k with
  | 0 => (.array (.object "PurseHouse$Kiosk"))
  | 1 => (.object "java/util/ArrayList")
  | 2 => (.array (.array .int))
  | 3 => (.array (.array .int))
  | _ => .int
theorem th_0 : ∀ k, k < 5 → parseFieldDescriptor (F_0 k).2.2.1 = some (ty_0 k) := by decide +kernel
theorem tn_0 : ∀ a, a < 5 → ∀ b, b < 5 → a ≠ b → (F_0 a).2.1 ≠ (F_0 b).2.1 := by decide +kernel
theorem tf_0 : ∀ j, j < 5 → defaultValue (ty_0 j) = vp_V [.null, .null, .null, .null, .int 0] j := by decide +kernel
theorem ui_0 : ∀ w ∈ u_ws "PurseHouse" F_0 5, w ∈ lw_g := by decide +kernel
def F_1 : u_T := fun k => match k with
  | 0 => ("PurseHouse$Kiosk", "stocks", "[J", true)
  | 1 => ("PurseHouse$Kiosk", "tills", "[J", true)
  | 2 => ("PurseHouse$Kiosk", "made", "[J", true)
  | 3 => ("PurseHouse$Kiosk", "eventCount", "I", false)
  | 4 => ("PurseHouse$Kiosk", "marks", "I", false)
  | 5 => ("PurseHouse$Kiosk", "stocksAt", "[[J", true)
  | 6 => ("PurseHouse$Kiosk", "tillsAt", "[[J", true)
  | 7 => ("PurseHouse$Kiosk", "madeAt", "[[J", true)
  | _ => ("PurseHouse$Kiosk", "eventsAt", "[I", true)
def ty_1 : Nat → FieldType := fun k => match k with
  | 0 => (.array .long)
  | 1 => (.array .long)
  | 2 => (.array .long)
  | 3 => .int
  | 4 => .int
  | 5 => (.array (.array .long))
  | 6 => (.array (.array .long))
  | 7 => (.array (.array .long))
  | _ => (.array .int)
theorem th_1 : ∀ k, k < 9 → parseFieldDescriptor (F_1 k).2.2.1 = some (ty_1 k) := by decide +kernel
theorem tn_1 : ∀ a, a < 9 → ∀ b, b < 9 → a ≠ b → (F_1 a).2.1 ≠ (F_1 b).2.1 := by decide +kernel
theorem tf_1 : ∀ j, j < 9 → defaultValue (ty_1 j) = vp_V [.null, .null, .null, .int 0, .int 0, .null, .null, .null, .null] j := by decide +kernel
theorem ui_1 : ∀ w ∈ u_ws "PurseHouse$Kiosk" F_1 9, w ∈ lw_g := by decide +kernel
def F_2 : u_T := fun k => match k with
  | 0 => ("PurseHouse$Link", "from", "LPurseHouse$Kiosk;", true)
  | 1 => ("PurseHouse$Link", "to", "LPurseHouse$Kiosk;", true)
  | 2 => ("PurseHouse$Link", "ordered", "Z", true)
  | 3 => ("PurseHouse$Link", "things", "Ljava/util/ArrayList;", true)
  | 4 => ("PurseHouse$Link", "roads", "[[J", true)
  | _ => ("PurseHouse$Link", "markersTaken", "I", false)
def ty_2 : Nat → FieldType := fun k => match k with
  | 0 => (.object "PurseHouse$Kiosk")
  | 1 => (.object "PurseHouse$Kiosk")
  | 2 => .boolean
  | 3 => (.object "java/util/ArrayList")
  | 4 => (.array (.array .long))
  | _ => .int
theorem th_2 : ∀ k, k < 6 → parseFieldDescriptor (F_2 k).2.2.1 = some (ty_2 k) := by decide +kernel
theorem tn_2 : ∀ a, a < 6 → ∀ b, b < 6 → a ≠ b → (F_2 a).2.1 ≠ (F_2 b).2.1 := by decide +kernel
theorem tf_2 : ∀ j, j < 6 → defaultValue (ty_2 j) = vp_V [.null, .null, .int 0, .null, .null, .int 0] j := by decide +kernel
theorem ui_2 : ∀ w ∈ u_ws "PurseHouse$Link" F_2 6, w ∈ lw_g := by decide +kernel
def F_3 : u_T := fun k => match k with
  | 0 => ("PurseHouse$Thing", "kind", "I", true)
  | 1 => ("PurseHouse$Thing", "currency", "I", true)
  | 2 => ("PurseHouse$Thing", "figure", "I", true)
  | _ => ("PurseHouse$Thing", "marks", "I", true)
def ty_3 : Nat → FieldType := fun k => match k with
  | 0 => .int
  | 1 => .int
  | 2 => .int
  | _ => .int
theorem th_3 : ∀ k, k < 4 → parseFieldDescriptor (F_3 k).2.2.1 = some (ty_3 k) := by decide +kernel
theorem tn_3 : ∀ a, a < 4 → ∀ b, b < 4 → a ≠ b → (F_3 a).2.1 ≠ (F_3 b).2.1 := by decide +kernel
theorem tf_3 : ∀ j, j < 4 → defaultValue (ty_3 j) = vp_V [.int 0, .int 0, .int 0, .int 0] j := by decide +kernel
theorem ui_3 : ∀ w ∈ u_ws "PurseHouse$Thing" F_3 4, w ∈ lw_g := by decide +kernel
def F_4 : u_T := fun k => match k with
  | 0 => ("PurseHouseModel", "thrown", "I", false)
  | 1 => ("PurseHouseModel", "kiosks", "I", true)
  | 2 => ("PurseHouseModel", "time", "I", false)
  | 3 => ("PurseHouseModel", "links", "I", false)
  | 4 => ("PurseHouseModel", "from", "[I", true)
  | 5 => ("PurseHouseModel", "to", "[I", true)
  | 6 => ("PurseHouseModel", "ordered", "[Z", true)
  | 7 => ("PurseHouseModel", "up", "[I", true)
  | 8 => ("PurseHouseModel", "down", "[I", true)
  | 9 => ("PurseHouseModel", "lines", "I", false)
  | 10 => ("PurseHouseModel", "kioskOf", "[I", true)
  | 11 => ("PurseHouseModel", "currencyOf", "[I", true)
  | 12 => ("PurseHouseModel", "at", "[I", true)
  | 13 => ("PurseHouseModel", "event", "[I", true)
  | 14 => ("PurseHouseModel", "toStock", "[J", true)
  | 15 => ("PurseHouseModel", "toTill", "[J", true)
  | 16 => ("PurseHouseModel", "toMint", "[J", true)
  | 17 => ("PurseHouseModel", "things", "I", false)
  | 18 => ("PurseHouseModel", "kind", "[I", true)
  | 19 => ("PurseHouseModel", "link", "[I", true)
  | 20 => ("PurseHouseModel", "currency", "[I", true)
  | 21 => ("PurseHouseModel", "amount", "[I", true)
  | 22 => ("PurseHouseModel", "number", "[I", true)
  | 23 => ("PurseHouseModel", "sentAt", "[I", true)
  | 24 => ("PurseHouseModel", "takenAt", "[I", true)
  | 25 => ("PurseHouseModel", "snapshots", "I", false)
  | _ => ("PurseHouseModel", "recordedAt", "[I", true)
def ty_4 : Nat → FieldType := fun k => match k with
  | 0 => .int
  | 1 => .int
  | 2 => .int
  | 3 => .int
  | 4 => (.array .int)
  | 5 => (.array .int)
  | 6 => (.array .boolean)
  | 7 => (.array .int)
  | 8 => (.array .int)
  | 9 => .int
  | 10 => (.array .int)
  | 11 => (.array .int)
  | 12 => (.array .int)
  | 13 => (.array .int)
  | 14 => (.array .long)
  | 15 => (.array .long)
  | 16 => (.array .long)
  | 17 => .int
  | 18 => (.array .int)
  | 19 => (.array .int)
  | 20 => (.array .int)
  | 21 => (.array .int)
  | 22 => (.array .int)
  | 23 => (.array .int)
  | 24 => (.array .int)
  | 25 => .int
  | _ => (.array .int)
theorem th_4 : ∀ k, k < 27 → parseFieldDescriptor (F_4 k).2.2.1 = some (ty_4 k) := by decide +kernel
theorem tn_4 : ∀ a, a < 27 → ∀ b, b < 27 → a ≠ b → (F_4 a).2.1 ≠ (F_4 b).2.1 := by decide +kernel
theorem tf_4 : ∀ j, j < 27 → defaultValue (ty_4 j) = vp_V [.int 0, .int 0, .int 0, .int 0, .null, .null, .null, .null, .null, .int 0, .null, .null, .null, .null, .null, .null, .null, .int 0, .null, .null, .null, .null, .null, .null, .null, .int 0, .null] j := by decide +kernel
theorem ui_4 : ∀ w ∈ u_ws "PurseHouseModel" F_4 27, w ∈ lw_g := by decide +kernel
def F_5 : u_T := fun k => match k with
  | 0 => ("java/util/AbstractList", "modCount", "I", false)
  | 1 => ("java/util/ArrayList", "elementData", "[Ljava/lang/Object;", false)
  | _ => ("java/util/ArrayList", "size", "I", false)
def ty_5 : Nat → FieldType := fun k => match k with
  | 0 => .int
  | 1 => (.array (.object "java/lang/Object"))
  | _ => .int
theorem th_5 : ∀ k, k < 3 → parseFieldDescriptor (F_5 k).2.2.1 = some (ty_5 k) := by decide +kernel
theorem tn_5 : ∀ a, a < 3 → ∀ b, b < 3 → a ≠ b → (F_5 a).2.1 ≠ (F_5 b).2.1 := by decide +kernel
theorem tf_5 : ∀ j, j < 3 → defaultValue (ty_5 j) = vp_V [.int 0, .null, .int 0] j := by decide +kernel
theorem ui_5 : ∀ w ∈ u_ws "java/util/ArrayList" F_5 3, w ∈ lw_g := by decide +kernel
abbrev vwCl : List vw_C := [("PurseHouse", F_0, 5), ("PurseHouse$Kiosk", F_1, 9), ("PurseHouse$Link", F_2, 6), ("PurseHouse$Thing", F_3, 4), ("PurseHouseModel", F_4, 27), ("java/util/ArrayList", F_5, 3)]
abbrev mo_T (g : Nat → ClassId) : List (ClassId × FieldType) := [(g 0, .int), (g 1, .long), (g 2, .boolean), (g 3, .object "PurseHouse$Kiosk"), (g 4, .array .long), (g 5, .array .int), (g 6, .object "java/lang/Object")]
