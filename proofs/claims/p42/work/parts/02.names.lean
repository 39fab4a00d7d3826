def lw_good : List Cond := lw_tbl.filter goodWord
theorem of_places {α : Type} {tb L : List α} (ps : List Nat) (h : ∀ w ∈ L, w ∈ ps.filterMap (fun i => tb[i]?)) : ∀ w ∈ L, w ∈ tb := fun w hw => by
  obtain ⟨i, -, hi⟩ := List.mem_filterMap.mp (h w hw)
  exact List.mem_of_getElem? hi
def R0 : String := "WardFalls"
def T0 : u_T := fun k => match k with
  | 0 => ("WardFalls", "tape", "[I", true)
  | 1 => ("WardFalls", "tapeLength", "I", false)
  | 2 => ("WardFalls", "faultKind", "I", false)
  | 3 => ("WardFalls", "faultPlace", "I", false)
  | 4 => ("WardFalls", "town", "LWardFalls$Town;", false)
  | 5 => ("WardFalls", "spare", "LWardFalls$Town;", false)
  | 6 => ("WardFalls", "tokens", "LWardFalls$Tokens;", true)
  | 7 => ("WardFalls", "reader", "LWardFalls$Reader;", true)
  | 8 => ("WardFalls", "scene", "LWardFalls$Scene;", true)
  | 9 => ("WardFalls", "trial", "LWardFalls$Scene;", true)
  | 10 => ("WardFalls", "imageScene", "LWardFalls$Scene;", true)
  | 11 => ("WardFalls", "chronicle", "LWardFalls$Chronicle;", true)
  | 12 => ("WardFalls", "imageChronicle", "LWardFalls$Chronicle;", true)
  | 13 => ("WardFalls", "hasImage", "Z", false)
  | 14 => ("WardFalls", "past", "LWardFalls$Past;", true)
  | 15 => ("WardFalls", "notes", "LWardFalls$Notes;", true)
  | 16 => ("WardFalls", "laws", "LWardFalls$Laws;", true)
  | 17 => ("WardFalls", "paths", "LWardFalls$Paths;", true)
  | _ => ("WardFalls", "trail", "LWardFalls$Trail;", true)
def ty0 : Nat → FieldType := fun k => match k with
  | 0 => .array .int
  | 1 => .int
  | 2 => .int
  | 3 => .int
  | 4 => .object "WardFalls$Town"
  | 5 => .object "WardFalls$Town"
  | 6 => .object "WardFalls$Tokens"
  | 7 => .object "WardFalls$Reader"
  | 8 => .object "WardFalls$Scene"
  | 9 => .object "WardFalls$Scene"
  | 10 => .object "WardFalls$Scene"
  | 11 => .object "WardFalls$Chronicle"
  | 12 => .object "WardFalls$Chronicle"
  | 13 => .boolean
  | 14 => .object "WardFalls$Past"
  | 15 => .object "WardFalls$Notes"
  | 16 => .object "WardFalls$Laws"
  | 17 => .object "WardFalls$Paths"
  | _ => .object "WardFalls$Trail"
abbrev u0 : List Cond := u_ws R0 T0 19
theorem nm0 : ∀ a, a < 19 → ∀ b, b < 19 → a ≠ b → (T0 a).2.1 ≠ (T0 b).2.1 := by decide +kernel
theorem tyok0 : ∀ k, k < 19 → parseFieldDescriptor (T0 k).2.2.1 = some (ty0 k) := by decide +kernel
theorem ing0 : ∀ w ∈ u0, w ∈ lw_good := fun w h => List.mem_filter.mpr ⟨of_places [685, 687, 689, 691, 693, 695, 697, 699, 701, 703, 705, 707, 709, 711, 713, 715, 717, 719, 721] (fun w h => (by decide +kernel : u0 = ([685, 687, 689, 691, 693, 695, 697, 699, 701, 703, 705, 707, 709, 711, 713, 715, 717, 719, 721] : List Nat).filterMap (fun i => lw_tbl[i]?)) ▸ h) w h, (by decide +kernel : ∀ w ∈ u0, goodWord w = true) w h⟩
def R1 : String := "WardFallsModel"
def T1 : u_T := fun k => match k with
  | 0 => ("WardFallsModel", "thrown", "I", false)
  | 1 => ("WardFallsModel", "tape", "[I", true)
  | 2 => ("WardFallsModel", "taped", "I", false)
  | 3 => ("WardFallsModel", "number", "[I", true)
  | 4 => ("WardFallsModel", "wardName", "[I", true)
  | 5 => ("WardFallsModel", "downAs", "[I", true)
  | 6 => ("WardFallsModel", "rich", "[I", true)
  | 7 => ("WardFallsModel", "wardOf", "[I", true)
  | 8 => ("WardFallsModel", "isWall", "[Z", true)
  | 9 => ("WardFallsModel", "isStair", "[Z", true)
  | 10 => ("WardFallsModel", "thingName", "[I", true)
  | 11 => ("WardFallsModel", "worth", "[I", true)
  | 12 => ("WardFallsModel", "cellAs", "[I", true)
  | 13 => ("WardFallsModel", "sumFrom", "[I", true)
  | 14 => ("WardFallsModel", "sumTo", "[I", true)
  | 15 => ("WardFallsModel", "knotSort", "[I", true)
  | 16 => ("WardFallsModel", "knotValue", "[I", true)
  | 17 => ("WardFallsModel", "told", "I", false)
  | 18 => ("WardFallsModel", "lines", "I", false)
  | 19 => ("WardFallsModel", "size", "I", false)
  | 20 => ("WardFallsModel", "at", "I", false)
  | 21 => ("WardFallsModel", "place", "I", false)
  | 22 => ("WardFallsModel", "sort", "I", false)
  | 23 => ("WardFallsModel", "value", "I", false)
  | 24 => ("WardFallsModel", "fault", "I", false)
  | 25 => ("WardFallsModel", "faultPlace", "I", false)
  | 26 => ("WardFallsModel", "lastFault", "I", false)
  | 27 => ("WardFallsModel", "lastPlace", "I", false)
  | 28 => ("WardFallsModel", "open", "I", false)
  | 29 => ("WardFallsModel", "counted", "I", false)
  | 30 => ("WardFallsModel", "year", "[I", true)
  | 31 => ("WardFallsModel", "gone", "[I", true)
  | 32 => ("WardFallsModel", "drawn", "[I", true)
  | 33 => ("WardFallsModel", "nets", "[J", true)
  | 34 => ("WardFallsModel", "water", "[J", true)
  | 35 => ("WardFallsModel", "downs", "[I", true)
  | 36 => ("WardFallsModel", "thingAt", "[I", true)
  | 37 => ("WardFallsModel", "thingSteps", "[I", true)
  | 38 => ("WardFallsModel", "thingLines", "[I", true)
  | 39 => ("WardFallsModel", "votedWard", "[I", true)
  | 40 => ("WardFallsModel", "votedDown", "[I", true)
  | 41 => ("WardFallsModel", "votedAhead", "[I", true)
  | 42 => ("WardFallsModel", "hasImage", "Z", false)
  | 43 => ("WardFallsModel", "undoMany", "I", false)
  | 44 => ("WardFallsModel", "tryWhat", "I", false)
  | 45 => ("WardFallsModel", "tryAt", "I", false)
  | 46 => ("WardFallsModel", "wayLong", "I", false)
  | 47 => ("WardFallsModel", "wayEnd", "I", false)
  | 48 => ("WardFallsModel", "wayRound", "I", false)
  | 49 => ("WardFallsModel", "wayLines", "I", false)
  | 50 => ("WardFallsModel", "wayFirst", "I", false)
  | 51 => ("WardFallsModel", "seenAt", "[I", true)
  | 52 => ("WardFallsModel", "names", "[J", true)
  | 53 => ("WardFallsModel", "worked", "[J", true)
  | 54 => ("WardFallsModel", "workedMany", "I", false)
  | 55 => ("WardFallsModel", "far", "[I", true)
  | 56 => ("WardFallsModel", "dear", "[I", true)
  | 57 => ("WardFallsModel", "roundLeast", "I", false)
  | 58 => ("WardFallsModel", "joys", "[I", true)
  | 59 => ("WardFallsModel", "nowJoy", "[I", true)
  | 60 => ("WardFallsModel", "notes", "I", false)
  | 61 => ("WardFallsModel", "knownBy", "I", false)
  | 62 => ("WardFallsModel", "noteFrom", "[I", true)
  | 63 => ("WardFallsModel", "noteTo", "[I", true)
  | 64 => ("WardFallsModel", "isStrike", "[Z", true)
  | 65 => ("WardFallsModel", "isStruck", "[Z", true)
  | 66 => ("WardFallsModel", "fitMany", "I", false)
  | _ => ("WardFallsModel", "mayBe", "[I", true)
def ty1 : Nat → FieldType := fun k => match k with
  | 0 => .int
  | 1 => .array .int
  | 2 => .int
  | 3 => .array .int
  | 4 => .array .int
  | 5 => .array .int
  | 6 => .array .int
  | 7 => .array .int
  | 8 => .array .boolean
  | 9 => .array .boolean
  | 10 => .array .int
  | 11 => .array .int
  | 12 => .array .int
  | 13 => .array .int
  | 14 => .array .int
  | 15 => .array .int
  | 16 => .array .int
  | 17 => .int
  | 18 => .int
  | 19 => .int
  | 20 => .int
  | 21 => .int
  | 22 => .int
  | 23 => .int
  | 24 => .int
  | 25 => .int
  | 26 => .int
  | 27 => .int
  | 28 => .int
  | 29 => .int
  | 30 => .array .int
  | 31 => .array .int
  | 32 => .array .int
  | 33 => .array .long
  | 34 => .array .long
  | 35 => .array .int
  | 36 => .array .int
  | 37 => .array .int
  | 38 => .array .int
  | 39 => .array .int
  | 40 => .array .int
  | 41 => .array .int
  | 42 => .boolean
  | 43 => .int
  | 44 => .int
  | 45 => .int
  | 46 => .int
  | 47 => .int
  | 48 => .int
  | 49 => .int
  | 50 => .int
  | 51 => .array .int
  | 52 => .array .long
  | 53 => .array .long
  | 54 => .int
  | 55 => .array .int
  | 56 => .array .int
  | 57 => .int
  | 58 => .array .int
  | 59 => .array .int
  | 60 => .int
  | 61 => .int
  | 62 => .array .int
  | 63 => .array .int
  | 64 => .array .boolean
  | 65 => .array .boolean
  | 66 => .int
  | _ => .array .int
abbrev u1 : List Cond := u_ws R1 T1 68
theorem nm1 : ∀ a, a < 68 → ∀ b, b < 68 → a ≠ b → (T1 a).2.1 ≠ (T1 b).2.1 := by decide +kernel
theorem tyok1 : ∀ k, k < 68 → parseFieldDescriptor (T1 k).2.2.1 = some (ty1 k) := by decide +kernel
theorem ing1 : ∀ w ∈ u1, w ∈ lw_good := fun w h => List.mem_filter.mpr ⟨of_places [1573, 1575, 1577, 1579, 1581, 1583, 1585, 1587, 1589, 1591, 1593, 1595, 1597, 1599, 1601, 1603, 1605, 1607, 1609, 1611, 1613, 1615, 1617, 1619, 1621, 1623, 1625, 1627, 1629, 1631, 1633, 1635, 1637, 1639, 1641, 1643, 1645, 1647, 1649, 1651, 1653, 1655, 1657, 1659, 1661, 1663, 1665, 1667, 1669, 1671, 1673, 1675, 1677, 1679, 1681, 1683, 1685, 1687, 1689, 1691, 1693, 1695, 1697, 1699, 1701, 1703, 1705, 1707] (fun w h => (by decide +kernel : u1 = ([1573, 1575, 1577, 1579, 1581, 1583, 1585, 1587, 1589, 1591, 1593, 1595, 1597, 1599, 1601, 1603, 1605, 1607, 1609, 1611, 1613, 1615, 1617, 1619, 1621, 1623, 1625, 1627, 1629, 1631, 1633, 1635, 1637, 1639, 1641, 1643, 1645, 1647, 1649, 1651, 1653, 1655, 1657, 1659, 1661, 1663, 1665, 1667, 1669, 1671, 1673, 1675, 1677, 1679, 1681, 1683, 1685, 1687, 1689, 1691, 1693, 1695, 1697, 1699, 1701, 1703, 1705, 1707] : List Nat).filterMap (fun i => lw_tbl[i]?)) ▸ h) w h, (by decide +kernel : ∀ w ∈ u1, goodWord w = true) w h⟩
def R2 : String := "WardFalls$Chronicle"
def T2 : u_T := fun k => match k with
  | 0 => ("WardFalls$Chronicle", "wards", "[I", true)
  | 1 => ("WardFalls$Chronicle", "downs", "[I", true)
  | 2 => ("WardFalls$Chronicle", "downsAhead", "[I", true)
  | 3 => ("WardFalls$Chronicle", "year", "I", false)
  | 4 => ("WardFalls$Chronicle", "beats", "I", false)
  | _ => ("WardFalls$Chronicle", "lastNumber", "J", false)
def ty2 : Nat → FieldType := fun k => match k with
  | 0 => .array .int
  | 1 => .array .int
  | 2 => .array .int
  | 3 => .int
  | 4 => .int
  | _ => .long
abbrev u2 : List Cond := u_ws R2 T2 6
theorem nm2 : ∀ a, a < 6 → ∀ b, b < 6 → a ≠ b → (T2 a).2.1 ≠ (T2 b).2.1 := by decide +kernel
theorem tyok2 : ∀ k, k < 6 → parseFieldDescriptor (T2 k).2.2.1 = some (ty2 k) := by decide +kernel
theorem ing2 : ∀ w ∈ u2, w ∈ lw_good := fun w h => List.mem_filter.mpr ⟨of_places [441, 443, 445, 447, 449, 451] (fun w h => (by decide +kernel : u2 = ([441, 443, 445, 447, 449, 451] : List Nat).filterMap (fun i => lw_tbl[i]?)) ▸ h) w h, (by decide +kernel : ∀ w ∈ u2, goodWord w = true) w h⟩
def R3 : String := "WardFalls$Formula"
def T3 : u_T := fun k => match k with
  | 0 => ("WardFalls$Formula", "kinds", "[I", true)
  | 1 => ("WardFalls$Formula", "numbers", "[I", true)
  | 2 => ("WardFalls$Formula", "stack", "[J", true)
  | 3 => ("WardFalls$Formula", "length", "I", false)
  | 4 => ("WardFalls$Formula", "told", "Z", false)
  | 5 => ("WardFalls$Formula", "waiting", "[I", true)
  | 6 => ("WardFalls$Formula", "waits", "I", false)
  | 7 => ("WardFalls$Formula", "spot", "I", false)
  | 8 => ("WardFalls$Formula", "depth", "I", false)
  | 9 => ("WardFalls$Formula", "compared", "I", false)
  | 10 => ("WardFalls$Formula", "wantsPart", "Z", false)
  | _ => ("WardFalls$Formula", "mayNot", "Z", false)
def ty3 : Nat → FieldType := fun k => match k with
  | 0 => .array .int
  | 1 => .array .int
  | 2 => .array .long
  | 3 => .int
  | 4 => .boolean
  | 5 => .array .int
  | 6 => .int
  | 7 => .int
  | 8 => .int
  | 9 => .int
  | 10 => .boolean
  | _ => .boolean
abbrev u3 : List Cond := u_ws R3 T3 12
theorem nm3 : ∀ a, a < 12 → ∀ b, b < 12 → a ≠ b → (T3 a).2.1 ≠ (T3 b).2.1 := by decide +kernel
theorem tyok3 : ∀ k, k < 12 → parseFieldDescriptor (T3 k).2.2.1 = some (ty3 k) := by decide +kernel
theorem ing3 : ∀ w ∈ u3, w ∈ lw_good := fun w h => List.mem_filter.mpr ⟨of_places [177, 179, 181, 183, 185, 187, 189, 191, 193, 195, 197, 199] (fun w h => (by decide +kernel : u3 = ([177, 179, 181, 183, 185, 187, 189, 191, 193, 195, 197, 199] : List Nat).filterMap (fun i => lw_tbl[i]?)) ▸ h) w h, (by decide +kernel : ∀ w ∈ u3, goodWord w = true) w h⟩
def R4 : String := "WardFalls$Laws"
def T4 : u_T := fun k => match k with
  | 0 => ("WardFalls$Laws", "names", "[J", true)
  | 1 => ("WardFalls$Laws", "rests", "[I", true)
  | 2 => ("WardFalls$Laws", "worths", "[I", true)
  | 3 => ("WardFalls$Laws", "crossings", "[I", true)
  | 4 => ("WardFalls$Laws", "trail", "LWardFalls$Trail;", true)
  | 5 => ("WardFalls$Laws", "joys", "[I", true)
  | 6 => ("WardFalls$Laws", "wards", "I", false)
  | 7 => ("WardFalls$Laws", "allVotes", "I", false)
  | _ => ("WardFalls$Laws", "votesTried", "Z", false)
def ty4 : Nat → FieldType := fun k => match k with
  | 0 => .array .long
  | 1 => .array .int
  | 2 => .array .int
  | 3 => .array .int
  | 4 => .object "WardFalls$Trail"
  | 5 => .array .int
  | 6 => .int
  | 7 => .int
  | _ => .boolean
abbrev u4 : List Cond := u_ws R4 T4 9
theorem nm4 : ∀ a, a < 9 → ∀ b, b < 9 → a ≠ b → (T4 a).2.1 ≠ (T4 b).2.1 := by decide +kernel
theorem tyok4 : ∀ k, k < 9 → parseFieldDescriptor (T4 k).2.2.1 = some (ty4 k) := by decide +kernel
theorem ing4 : ∀ w ∈ u4, w ∈ lw_good := fun w h => List.mem_filter.mpr ⟨of_places [565, 567, 569, 571, 573, 575, 577, 579, 581] (fun w h => (by decide +kernel : u4 = ([565, 567, 569, 571, 573, 575, 577, 579, 581] : List Nat).filterMap (fun i => lw_tbl[i]?)) ▸ h) w h, (by decide +kernel : ∀ w ∈ u4, goodWord w = true) w h⟩
def R5 : String := "WardFalls$Notes"
def T5 : u_T := fun k => match k with
  | 0 => ("WardFalls$Notes", "froms", "[I", true)
  | 1 => ("WardFalls$Notes", "tos", "[I", true)
  | 2 => ("WardFalls$Notes", "strikes", "[I", true)
  | 3 => ("WardFalls$Notes", "fittingDowns", "[I", true)
  | 4 => ("WardFalls$Notes", "fitting", "I", false)
  | 5 => ("WardFalls$Notes", "much", "I", false)
  | _ => ("WardFalls$Notes", "by", "I", false)
def ty5 : Nat → FieldType := fun k => match k with
  | 0 => .array .int
  | 1 => .array .int
  | 2 => .array .int
  | 3 => .array .int
  | 4 => .int
  | 5 => .int
  | _ => .int
abbrev u5 : List Cond := u_ws R5 T5 7
theorem nm5 : ∀ a, a < 7 → ∀ b, b < 7 → a ≠ b → (T5 a).2.1 ≠ (T5 b).2.1 := by decide +kernel
theorem tyok5 : ∀ k, k < 7 → parseFieldDescriptor (T5 k).2.2.1 = some (ty5 k) := by decide +kernel
theorem ing5 : ∀ w ∈ u5, w ∈ lw_good := fun w h => List.mem_filter.mpr ⟨of_places [491, 493, 495, 497, 499, 501, 503] (fun w h => (by decide +kernel : u5 = ([491, 493, 495, 497, 499, 501, 503] : List Nat).filterMap (fun i => lw_tbl[i]?)) ▸ h) w h, (by decide +kernel : ∀ w ∈ u5, goodWord w = true) w h⟩
def R6 : String := "WardFalls$Past"
def T6 : u_T := fun k => match k with
  | 0 => ("WardFalls$Past", "scenes", "[LWardFalls$Scene;", true)
  | 1 => ("WardFalls$Past", "latest", "I", false)
  | _ => ("WardFalls$Past", "much", "I", false)
def ty6 : Nat → FieldType := fun k => match k with
  | 0 => .array (.object "WardFalls$Scene")
  | 1 => .int
  | _ => .int
abbrev u6 : List Cond := u_ws R6 T6 3
theorem nm6 : ∀ a, a < 3 → ∀ b, b < 3 → a ≠ b → (T6 a).2.1 ≠ (T6 b).2.1 := by decide +kernel
theorem tyok6 : ∀ k, k < 3 → parseFieldDescriptor (T6 k).2.2.1 = some (ty6 k) := by decide +kernel
theorem ing6 : ∀ w ∈ u6, w ∈ lw_good := fun w h => List.mem_filter.mpr ⟨of_places [467, 469, 471] (fun w h => (by decide +kernel : u6 = ([467, 469, 471] : List Nat).filterMap (fun i => lw_tbl[i]?)) ▸ h) w h, (by decide +kernel : ∀ w ∈ u6, goodWord w = true) w h⟩
def R7 : String := "WardFalls$Paths"
def T7 : u_T := fun k => match k with
  | 0 => ("WardFalls$Paths", "costs", "[I", true)
  | 1 => ("WardFalls$Paths", "left", "[I", true)
  | 2 => ("WardFalls$Paths", "cells", "[I", true)
  | 3 => ("WardFalls$Paths", "length", "I", false)
  | _ => ("WardFalls$Paths", "sum", "I", false)
def ty7 : Nat → FieldType := fun k => match k with
  | 0 => .array .int
  | 1 => .array .int
  | 2 => .array .int
  | 3 => .int
  | _ => .int
abbrev u7 : List Cond := u_ws R7 T7 5
theorem nm7 : ∀ a, a < 5 → ∀ b, b < 5 → a ≠ b → (T7 a).2.1 ≠ (T7 b).2.1 := by decide +kernel
theorem tyok7 : ∀ k, k < 5 → parseFieldDescriptor (T7 k).2.2.1 = some (ty7 k) := by decide +kernel
theorem ing7 : ∀ w ∈ u7, w ∈ lw_good := fun w h => List.mem_filter.mpr ⟨of_places [598, 600, 602, 604, 606] (fun w h => (by decide +kernel : u7 = ([598, 600, 602, 604, 606] : List Nat).filterMap (fun i => lw_tbl[i]?)) ▸ h) w h, (by decide +kernel : ∀ w ∈ u7, goodWord w = true) w h⟩
def R8 : String := "WardFalls$Reader"
def T8 : u_T := fun k => match k with
  | 0 => ("WardFalls$Reader", "tokens", "LWardFalls$Tokens;", false)
  | 1 => ("WardFalls$Reader", "spot", "I", false)
  | 2 => ("WardFalls$Reader", "kind", "I", false)
  | 3 => ("WardFalls$Reader", "value", "I", false)
  | 4 => ("WardFalls$Reader", "placeHere", "I", false)
  | 5 => ("WardFalls$Reader", "placeAhead", "I", false)
  | 6 => ("WardFalls$Reader", "parts", "I", false)
  | 7 => ("WardFalls$Reader", "townTold", "Z", false)
  | 8 => ("WardFalls$Reader", "seedTold", "Z", false)
  | 9 => ("WardFalls$Reader", "fault", "I", false)
  | _ => ("WardFalls$Reader", "place", "I", false)
def ty8 : Nat → FieldType := fun k => match k with
  | 0 => .object "WardFalls$Tokens"
  | 1 => .int
  | 2 => .int
  | 3 => .int
  | 4 => .int
  | 5 => .int
  | 6 => .int
  | 7 => .boolean
  | 8 => .boolean
  | 9 => .int
  | _ => .int
abbrev u8 : List Cond := u_ws R8 T8 11
theorem nm8 : ∀ a, a < 11 → ∀ b, b < 11 → a ≠ b → (T8 a).2.1 ≠ (T8 b).2.1 := by decide +kernel
theorem tyok8 : ∀ k, k < 11 → parseFieldDescriptor (T8 k).2.2.1 = some (ty8 k) := by decide +kernel
theorem ing8 : ∀ w ∈ u8, w ∈ lw_good := fun w h => List.mem_filter.mpr ⟨of_places [359, 361, 363, 365, 367, 369, 371, 373, 375, 377, 379] (fun w h => (by decide +kernel : u8 = ([359, 361, 363, 365, 367, 369, 371, 373, 375, 377, 379] : List Nat).filterMap (fun i => lw_tbl[i]?)) ▸ h) w h, (by decide +kernel : ∀ w ∈ u8, goodWord w = true) w h⟩
def R9 : String := "WardFalls$Scene"
def T9 : u_T := fun k => match k with
  | 0 => ("WardFalls$Scene", "downs", "[I", true)
  | 1 => ("WardFalls$Scene", "at", "[I", true)
  | 2 => ("WardFalls$Scene", "steps", "[I", true)
  | 3 => ("WardFalls$Scene", "lines", "[I", true)
  | 4 => ("WardFalls$Scene", "walls", "J", false)
  | 5 => ("WardFalls$Scene", "nets", "J", false)
  | _ => ("WardFalls$Scene", "water", "J", false)
def ty9 : Nat → FieldType := fun k => match k with
  | 0 => .array .int
  | 1 => .array .int
  | 2 => .array .int
  | 3 => .array .int
  | 4 => .long
  | 5 => .long
  | _ => .long
abbrev u9 : List Cond := u_ws R9 T9 7
theorem nm9 : ∀ a, a < 7 → ∀ b, b < 7 → a ≠ b → (T9 a).2.1 ≠ (T9 b).2.1 := by decide +kernel
theorem tyok9 : ∀ k, k < 7 → parseFieldDescriptor (T9 k).2.2.1 = some (ty9 k) := by decide +kernel
theorem ing9 : ∀ w ∈ u9, w ∈ lw_good := fun w h => List.mem_filter.mpr ⟨of_places [409, 411, 413, 415, 417, 419, 421] (fun w h => (by decide +kernel : u9 = ([409, 411, 413, 415, 417, 419, 421] : List Nat).filterMap (fun i => lw_tbl[i]?)) ▸ h) w h, (by decide +kernel : ∀ w ∈ u9, goodWord w = true) w h⟩
def R10 : String := "WardFalls$Tokens"
def T10 : u_T := fun k => match k with
  | 0 => ("WardFalls$Tokens", "kinds", "[I", true)
  | 1 => ("WardFalls$Tokens", "values", "[I", true)
  | 2 => ("WardFalls$Tokens", "places", "[I", true)
  | _ => ("WardFalls$Tokens", "much", "I", false)
def ty10 : Nat → FieldType := fun k => match k with
  | 0 => .array .int
  | 1 => .array .int
  | 2 => .array .int
  | _ => .int
abbrev u10 : List Cond := u_ws R10 T10 4
theorem nm10 : ∀ a, a < 4 → ∀ b, b < 4 → a ≠ b → (T10 a).2.1 ≠ (T10 b).2.1 := by decide +kernel
theorem tyok10 : ∀ k, k < 4 → parseFieldDescriptor (T10 k).2.2.1 = some (ty10 k) := by decide +kernel
theorem ing10 : ∀ w ∈ u10, w ∈ lw_good := fun w h => List.mem_filter.mpr ⟨of_places [331, 333, 335, 337] (fun w h => (by decide +kernel : u10 = ([331, 333, 335, 337] : List Nat).filterMap (fun i => lw_tbl[i]?)) ▸ h) w h, (by decide +kernel : ∀ w ∈ u10, goodWord w = true) w h⟩
def R11 : String := "WardFalls$Town"
def T11 : u_T := fun k => match k with
  | 0 => ("WardFalls$Town", "wardNames", "[I", true)
  | 1 => ("WardFalls$Town", "wardDowns", "[I", true)
  | 2 => ("WardFalls$Town", "riches", "[I", true)
  | 3 => ("WardFalls$Town", "sizes", "[I", true)
  | 4 => ("WardFalls$Town", "thingNames", "[I", true)
  | 5 => ("WardFalls$Town", "worths", "[I", true)
  | 6 => ("WardFalls$Town", "places", "[I", true)
  | 7 => ("WardFalls$Town", "owners", "[I", true)
  | 8 => ("WardFalls$Town", "besides", "[I", true)
  | 9 => ("WardFalls$Town", "push", "LWardFalls$Formula;", true)
  | 10 => ("WardFalls$Town", "joy", "LWardFalls$Formula;", true)
  | 11 => ("WardFalls$Town", "wide", "I", false)
  | 12 => ("WardFalls$Town", "high", "I", false)
  | 13 => ("WardFalls$Town", "cells", "I", false)
  | 14 => ("WardFalls$Town", "wards", "I", false)
  | 15 => ("WardFalls$Town", "things", "I", false)
  | 16 => ("WardFalls$Town", "knots", "I", false)
  | 17 => ("WardFalls$Town", "seed", "I", false)
  | 18 => ("WardFalls$Town", "walls", "J", false)
  | _ => ("WardFalls$Town", "stairs", "J", false)
def ty11 : Nat → FieldType := fun k => match k with
  | 0 => .array .int
  | 1 => .array .int
  | 2 => .array .int
  | 3 => .array .int
  | 4 => .array .int
  | 5 => .array .int
  | 6 => .array .int
  | 7 => .array .int
  | 8 => .array .int
  | 9 => .object "WardFalls$Formula"
  | 10 => .object "WardFalls$Formula"
  | 11 => .int
  | 12 => .int
  | 13 => .int
  | 14 => .int
  | 15 => .int
  | 16 => .int
  | 17 => .int
  | 18 => .long
  | _ => .long
abbrev u11 : List Cond := u_ws R11 T11 20
theorem nm11 : ∀ a, a < 20 → ∀ b, b < 20 → a ≠ b → (T11 a).2.1 ≠ (T11 b).2.1 := by decide +kernel
theorem tyok11 : ∀ k, k < 20 → parseFieldDescriptor (T11 k).2.2.1 = some (ty11 k) := by decide +kernel
theorem ing11 : ∀ w ∈ u11, w ∈ lw_good := fun w h => List.mem_filter.mpr ⟨of_places [275, 277, 279, 281, 283, 285, 287, 289, 291, 293, 295, 297, 299, 301, 303, 305, 307, 309, 311, 313] (fun w h => (by decide +kernel : u11 = ([275, 277, 279, 281, 283, 285, 287, 289, 291, 293, 295, 297, 299, 301, 303, 305, 307, 309, 311, 313] : List Nat).filterMap (fun i => lw_tbl[i]?)) ▸ h) w h, (by decide +kernel : ∀ w ∈ u11, goodWord w = true) w h⟩
def R12 : String := "WardFalls$Trail"
def T12 : u_T := fun k => match k with
  | 0 => ("WardFalls$Trail", "cells", "[I", true)
  | 1 => ("WardFalls$Trail", "length", "I", false)
  | 2 => ("WardFalls$Trail", "ahead", "I", false)
  | 3 => ("WardFalls$Trail", "round", "I", false)
  | 4 => ("WardFalls$Trail", "lines", "I", false)
  | 5 => ("WardFalls$Trail", "clockLength", "I", false)
  | 6 => ("WardFalls$Trail", "clockWard", "I", false)
  | 7 => ("WardFalls$Trail", "clockDown", "I", false)
  | _ => ("WardFalls$Trail", "clockCell", "I", false)
def ty12 : Nat → FieldType := fun k => match k with
  | 0 => .array .int
  | 1 => .int
  | 2 => .int
  | 3 => .int
  | 4 => .int
  | 5 => .int
  | 6 => .int
  | 7 => .int
  | _ => .int
abbrev u12 : List Cond := u_ws R12 T12 9
theorem nm12 : ∀ a, a < 9 → ∀ b, b < 9 → a ≠ b → (T12 a).2.1 ≠ (T12 b).2.1 := by decide +kernel
theorem tyok12 : ∀ k, k < 9 → parseFieldDescriptor (T12 k).2.2.1 = some (ty12 k) := by decide +kernel
theorem ing12 : ∀ w ∈ u12, w ∈ lw_good := fun w h => List.mem_filter.mpr ⟨of_places [535, 537, 539, 541, 543, 545, 547, 549, 551] (fun w h => (by decide +kernel : u12 = ([535, 537, 539, 541, 543, 545, 547, 549, 551] : List Nat).filterMap (fun i => lw_tbl[i]?)) ▸ h) w h, (by decide +kernel : ∀ w ∈ u12, goodWord w = true) w h⟩
abbrev classes : List vw_C := [(R0, T0, 19), (R1, T1, 68), (R2, T2, 6), (R3, T3, 12), (R4, T4, 9), (R5, T5, 7), (R6, T6, 3), (R7, T7, 5), (R8, T8, 11), (R9, T9, 7), (R10, T10, 4), (R11, T11, 20), (R12, T12, 9)]
def shT : List (Nat × Nat) := [(4, 19), (0, 700), (15, 20), (0, 4), (0, 4), (0, 4), (0, 4), (0, 8), (0, 8), (0, 8), (0, 48), (0, 192), (7, 12), (0, 64), (0, 64), (2, 64), (0, 72), (7, 12), (0, 64), (0, 64), (2, 64), (0, 72), (15, 20), (0, 4), (0, 4), (0, 4), (0, 4), (0, 8), (0, 8), (0, 8), (0, 48), (0, 192), (7, 12), (0, 64), (0, 64), (2, 64), (0, 72), (7, 12), (0, 64), (0, 64), (2, 64), (0, 72), (14, 4), (0, 701), (0, 701), (0, 701), (12, 11), (13, 7), (0, 4), (0, 8), (0, 8), (0, 8), (13, 7), (0, 4), (0, 8), (0, 8), (0, 8), (13, 7), (0, 4), (0, 8), (0, 8), (0, 8), (6, 6), (0, 99), (0, 99), (0, 99), (6, 6), (0, 99), (0, 99), (0, 99), (10, 3), (3, 20), (13, 7), (0, 4), (0, 8), (0, 8), (0, 8), (13, 7), (0, 4), (0, 8), (0, 8), (0, 8), (13, 7), (0, 4), (0, 8), (0, 8), (0, 8), (13, 7), (0, 4), (0, 8), (0, 8), (0, 8), (13, 7), (0, 4), (0, 8), (0, 8), (0, 8), (13, 7), (0, 4), (0, 8), (0, 8), (0, 8), (13, 7), (0, 4), (0, 8), (0, 8), (0, 8), (13, 7), (0, 4), (0, 8), (0, 8), (0, 8), (13, 7), (0, 4), (0, 8), (0, 8), (0, 8), (13, 7), (0, 4), (0, 8), (0, 8), (0, 8), (13, 7), (0, 4), (0, 8), (0, 8), (0, 8), (13, 7), (0, 4), (0, 8), (0, 8), (0, 8), (13, 7), (0, 4), (0, 8), (0, 8), (0, 8), (13, 7), (0, 4), (0, 8), (0, 8), (0, 8), (13, 7), (0, 4), (0, 8), (0, 8), (0, 8), (13, 7), (0, 4), (0, 8), (0, 8), (0, 8), (13, 7), (0, 4), (0, 8), (0, 8), (0, 8), (13, 7), (0, 4), (0, 8), (0, 8), (0, 8), (13, 7), (0, 4), (0, 8), (0, 8), (0, 8), (13, 7), (0, 4), (0, 8), (0, 8), (0, 8), (9, 7), (0, 24), (0, 24), (0, 24), (0, 4), (8, 9), (2, 7), (0, 4), (0, 4), (0, 4), (16, 9), (0, 48), (0, 1024), (11, 5), (0, 192), (0, 48), (0, 48), (16, 9), (0, 48), (5, 68), (0, 700), (0, 18), (0, 8), (0, 8), (0, 8), (0, 96), (1, 96), (1, 96), (0, 16), (0, 16), (0, 16), (0, 4), (0, 4), (0, 128), (0, 128), (0, 23), (0, 23), (0, 23), (2, 23), (2, 23), (0, 92), (0, 184), (0, 184), (0, 184), (0, 300), (0, 300), (0, 300), (0, 48), (2, 7), (2, 64), (0, 48), (0, 48), (0, 1024), (0, 4), (0, 24), (0, 24), (1, 24), (1, 24), (0, 4), (2, 1)]
def shK (k : Nat) : Nat := (shT.getD k (999, 0)).1
def shN (k : Nat) : Nat := (shT.getD k (999, 0)).2
def fkT : List (List Nat) := [[2, 0, 0, 0, 2, 2, 2, 2, 2, 2, 2, 2, 2, 0, 2, 2, 2, 2, 2], [0, 2, 0, 2, 2, 2, 2, 2, 2, 2, 2, 2, 2, 2, 2, 2, 2, 0, 0, 0, 0, 0, 0, 0, 0, 0, 0, 0, 0, 0, 2, 2, 2, 2, 2, 2, 2, 2, 2, 2, 2, 2, 0, 0, 0, 0, 0, 0, 0, 0, 0, 2, 2, 2, 0, 2, 2, 0, 2, 2, 0, 0, 2, 2, 2, 2, 0, 2], [2, 2, 2, 0, 0, 1], [2, 2, 2, 0, 0, 2, 0, 0, 0, 0, 0, 0], [2, 2, 2, 2, 2, 2, 0, 0, 0], [2, 2, 2, 2, 0, 0, 0], [2, 0, 0], [2, 2, 2, 0, 0], [2, 0, 0, 0, 0, 0, 0, 0, 0, 0, 0], [2, 2, 2, 2, 1, 1, 1], [2, 2, 2, 0], [2, 2, 2, 2, 2, 2, 2, 2, 2, 2, 2, 0, 0, 0, 0, 0, 0, 0, 1, 1], [2, 0, 0, 0, 0, 0, 0, 0, 0]]
def fk (ci j : Nat) : Nat := (fkT.getD ci []).getD j 9
def gfT : List (List Int) := [[1, -1, -1, -1, -1, -1, 42, 46, 47, 52, 57, 62, 66, -1, 70, 172, 177, 185, 189], [], [3, 4, 5, 6, 7, 8, 9, 10, 11, 12, 17], [], [], [], [], [], [], [], [], [], [13, 14, 15, -1, -1, 16], [], [], [], [], [18, 19, 20, -1, -1, 21], [], [], [], [], [23, 24, 25, 26, 27, 28, 29, 30, 31, 32, 37], [], [], [], [], [], [], [], [], [], [33, 34, 35, -1, -1, 36], [], [], [], [], [38, 39, 40, -1, -1, 41], [], [], [], [], [43, 44, 45], [], [], [], [], [48, 49, 50, 51], [], [], [], [], [53, 54, 55, 56], [], [], [], [], [58, 59, 60, 61], [], [], [], [], [63, 64, 65], [], [], [], [67, 68, 69], [], [], [], [71], [72, 77, 82, 87, 92, 97, 102, 107, 112, 117, 122, 127, 132, 137, 142, 147, 152, 157, 162, 167], [73, 74, 75, 76], [], [], [], [], [78, 79, 80, 81], [], [], [], [], [83, 84, 85, 86], [], [], [], [], [88, 89, 90, 91], [], [], [], [], [93, 94, 95, 96], [], [], [], [], [98, 99, 100, 101], [], [], [], [], [103, 104, 105, 106], [], [], [], [], [108, 109, 110, 111], [], [], [], [], [113, 114, 115, 116], [], [], [], [], [118, 119, 120, 121], [], [], [], [], [123, 124, 125, 126], [], [], [], [], [128, 129, 130, 131], [], [], [], [], [133, 134, 135, 136], [], [], [], [], [138, 139, 140, 141], [], [], [], [], [143, 144, 145, 146], [], [], [], [], [148, 149, 150, 151], [], [], [], [], [153, 154, 155, 156], [], [], [], [], [158, 159, 160, 161], [], [], [], [], [163, 164, 165, 166], [], [], [], [], [168, 169, 170, 171], [], [], [], [], [173, 174, 175, 176], [], [], [], [], [178, 179, 180, 181, 182, 184], [], [], [], [], [183], [], [], [186, 187, 188], [], [], [], [190], [], [-1, 192, -1, 193, 194, 195, 196, 197, 198, 199, 200, 201, 202, 203, 204, 205, 206, -1, -1, -1, -1, -1, -1, -1, -1, -1, -1, -1, -1, -1, 207, 208, 209, 210, 211, 212, 213, 214, 215, 216, 217, 218, -1, -1, -1, -1, -1, -1, -1, -1, -1, 219, 220, 221, -1, 222, 223, -1, 224, 225, -1, -1, 226, 227, 228, 229, -1, 230], [], [], [], [], [], [], [], [], [], [], [], [], [], [], [], [], [], [], [], [], [], [], [], [], [], [], [], [], [], [], [], [], [], [], [], [], [], [], [], []]
def GF (k : Nat) (j : Int) : Int := if j < 0 then -1 else (gfT.getD k []).getD j.toNat (-1)
abbrev isChronicle (k : Nat) : Prop := k ∈ [62, 66]
abbrev isFormula (k : Nat) : Prop := k ∈ [12, 17, 32, 37]
abbrev isScene (k : Nat) : Prop := k ∈ [47, 52, 57, 72, 77, 82, 87, 92, 97, 102, 107, 112, 117, 122, 127, 132, 137, 142, 147, 152, 157, 162, 167]
abbrev isTown (k : Nat) : Prop := k ∈ [2, 22]
abbrev isTrail (k : Nat) : Prop := k ∈ [182, 189]
def nests : List (String × Nat × MethodName × String) := [("WardFalls", 21, ⟨"WardFalls$Town", "<init>", "()V"⟩, "WardFalls"), ("WardFalls$Town", 41, ⟨"WardFalls$Formula", "<init>", "()V"⟩, "WardFalls"), ("WardFalls", 31, ⟨"WardFalls$Tokens", "<init>", "()V"⟩, "WardFalls"), ("WardFalls", 38, ⟨"WardFalls$Reader", "<init>", "()V"⟩, "WardFalls"), ("WardFalls", 45, ⟨"WardFalls$Scene", "<init>", "()V"⟩, "WardFalls"), ("WardFalls", 58, ⟨"WardFalls$Chronicle", "<init>", "()V"⟩, "WardFalls"), ("WardFalls$Past", 17, ⟨"WardFalls$Scene", "<init>", "()V"⟩, "WardFalls"), ("WardFalls", 75, ⟨"WardFalls$Notes", "<init>", "()V"⟩, "WardFalls"), ("WardFalls", 82, ⟨"WardFalls$Laws", "<init>", "()V"⟩, "WardFalls"), ("WardFalls$Laws", 27, ⟨"WardFalls$Trail", "<init>", "()V"⟩, "WardFalls"), ("WardFalls", 89, ⟨"WardFalls$Paths", "<init>", "()V"⟩, "WardFalls"), ("WardFalls", 96, ⟨"WardFalls$Trail", "<init>", "()V"⟩, "WardFalls"), ("WardFalls$Town", 87, ⟨"WardFalls", "put", "([III)V"⟩, "WardFalls"), ("WardFalls$Town", 95, ⟨"WardFalls", "look", "([II)I"⟩, "WardFalls"), ("WardFalls$Scene", 29, ⟨"WardFalls", "copyRow", "([I[I)V"⟩, "WardFalls"), ("WardFalls$Tokens", 25, ⟨"WardFalls", "look", "([II)I"⟩, "WardFalls"), ("WardFalls$Tokens", 51, ⟨"WardFalls", "put", "([III)V"⟩, "WardFalls"), ("WardFalls$Reader", 193, ⟨"WardFalls", "look", "([II)I"⟩, "WardFalls"), ("WardFalls$Reader", 134, ⟨"WardFalls", "indexOf", "([III)I"⟩, "WardFalls"), ("WardFalls$Reader", 118, ⟨"WardFalls", "isDown", "(I)Z"⟩, "WardFalls"), ("WardFalls$Reader", 121, ⟨"WardFalls", "put", "([III)V"⟩, "WardFalls"), ("WardFalls$Reader", 154, ⟨"WardFalls", "bitOf", "(JI)I"⟩, "WardFalls"), ("WardFalls$Formula", 54, ⟨"WardFalls", "look", "([II)I"⟩, "WardFalls"), ("WardFalls$Formula", 97, ⟨"WardFalls", "put", "([III)V"⟩, "WardFalls"), ("WardFalls$Formula", 93, ⟨"WardFalls", "bitOf", "(JI)I"⟩, "WardFalls"), ("WardFalls$Laws", 52, ⟨"WardFalls", "look", "([II)I"⟩, "WardFalls"), ("WardFalls$Trail", 25, ⟨"WardFalls", "put", "([III)V"⟩, "WardFalls"), ("WardFalls$Scene", 60, ⟨"WardFalls", "bitOf", "(JI)I"⟩, "WardFalls"), ("WardFalls$Scene", 56, ⟨"WardFalls", "look", "([II)I"⟩, "WardFalls"), ("WardFalls$Trail", 44, ⟨"WardFalls", "bitOf", "(JI)I"⟩, "WardFalls"), ("WardFalls$Trail", 48, ⟨"WardFalls", "indexOf", "([III)I"⟩, "WardFalls"), ("WardFalls$Trail", 52, ⟨"WardFalls", "look", "([II)I"⟩, "WardFalls"), ("WardFalls$Laws", 68, ⟨"WardFalls", "put", "([III)V"⟩, "WardFalls"), ("WardFalls$Laws", 121, ⟨"WardFalls", "bitOf", "(JI)I"⟩, "WardFalls"), ("WardFalls$Scene", 76, ⟨"WardFalls", "indexOf", "([III)I"⟩, "WardFalls"), ("WardFalls$Scene", 89, ⟨"WardFalls", "put", "([III)V"⟩, "WardFalls"), ("WardFalls$Paths", 80, ⟨"WardFalls", "bitOf", "(JI)I"⟩, "WardFalls"), ("WardFalls$Paths", 34, ⟨"WardFalls", "put", "([III)V"⟩, "WardFalls"), ("WardFalls$Paths", 45, ⟨"WardFalls", "look", "([II)I"⟩, "WardFalls"), ("WardFalls$Notes", 31, ⟨"WardFalls", "put", "([III)V"⟩, "WardFalls"), ("WardFalls$Notes", 77, ⟨"WardFalls", "bitOf", "(JI)I"⟩, "WardFalls"), ("WardFalls$Notes", 67, ⟨"WardFalls", "look", "([II)I"⟩, "WardFalls"), ("WardFalls$Chronicle", 50, ⟨"WardFalls", "look", "([II)I"⟩, "WardFalls"), ("WardFalls$Chronicle", 54, ⟨"WardFalls", "put", "([III)V"⟩, "WardFalls"), ("WardFalls$Chronicle", 37, ⟨"WardFalls", "copyRow", "([I[I)V"⟩, "WardFalls")]

