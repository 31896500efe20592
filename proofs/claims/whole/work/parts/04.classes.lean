/-! ===== printed by wip/gen/tables.py: the classes whose objects the worlds hold ===== -/
def kc0 : u_T := fun k => match k with
  | 0 => ("RentByTheWheel$House", "many", "I", false)
  | 1 => ("RentByTheWheel$House", "due", "I", false)
  | 2 => ("RentByTheWheel$House", "brakes", "I", false)
  | 3 => ("RentByTheWheel$House", "storeys", "[I", true)
  | 4 => ("RentByTheWheel$House", "paces", "[I", true)
  | 5 => ("RentByTheWheel$House", "weights", "[I", true)
  | 6 => ("RentByTheWheel$House", "wants", "[I", true)
  | 7 => ("RentByTheWheel$House", "wantDigits", "[I", true)
  | _ => ("RentByTheWheel$House", "order", "[I", true)
def kt0 : Nat → FieldType := fun k => match k with
  | 0 => .int
  | 1 => .int
  | 2 => .int
  | 3 => .array .int
  | 4 => .array .int
  | 5 => .array .int
  | 6 => .array .int
  | 7 => .array .int
  | _ => .array .int
def kc1 : u_T := fun k => match k with
  | 0 => ("RentByTheWheel$Pairing", "wheel", "LRentByTheWheel$Wheel;", true)
  | 1 => ("RentByTheWheel$Pairing", "best", "[I", true)
  | 2 => ("RentByTheWheel$Pairing", "most", "I", false)
  | 3 => ("RentByTheWheel$Pairing", "state", "LRentByTheWheel$State;", true)
  | _ => ("RentByTheWheel$Pairing", "mates", "[I", true)
def kt1 : Nat → FieldType := fun k => match k with
  | 0 => .object "RentByTheWheel$Wheel"
  | 1 => .array .int
  | 2 => .int
  | 3 => .object "RentByTheWheel$State"
  | _ => .array .int
def kc2 : u_T := fun k => match k with
  | 0 => ("RentByTheWheel$Past", "states", "[LRentByTheWheel$State;", true)
  | 1 => ("RentByTheWheel$Past", "many", "I", false)
  | _ => ("RentByTheWheel$Past", "next", "I", false)
def kt2 : Nat → FieldType := fun k => match k with
  | 0 => .array (.object "RentByTheWheel$State")
  | 1 => .int
  | _ => .int
def kc3 : u_T := fun k => match k with
  | 0 => ("RentByTheWheel$Pegs", "house", "LRentByTheWheel$House;", true)
  | 1 => ("RentByTheWheel$Pegs", "many", "I", false)
  | 2 => ("RentByTheWheel$Pegs", "sets", "[I", true)
  | 3 => ("RentByTheWheel$Pegs", "found", "I", false)
  | 4 => ("RentByTheWheel$Pegs", "turns", "[I", true)
  | _ => ("RentByTheWheel$Pegs", "weights", "[I", true)
def kt3 : Nat → FieldType := fun k => match k with
  | 0 => .object "RentByTheWheel$House"
  | 1 => .int
  | 2 => .array .int
  | 3 => .int
  | 4 => .array .int
  | _ => .array .int
def kc4 : u_T := fun k => match k with
  | 0 => ("RentByTheWheel$Plan", "wheel", "LRentByTheWheel$Wheel;", true)
  | 1 => ("RentByTheWheel$Plan", "trial", "LRentByTheWheel$State;", true)
  | 2 => ("RentByTheWheel$Plan", "costs", "[I", false)
  | 3 => ("RentByTheWheel$Plan", "start", "I", false)
  | 4 => ("RentByTheWheel$Plan", "those", "I", false)
  | 5 => ("RentByTheWheel$Plan", "n", "I", false)
  | _ => ("RentByTheWheel$Plan", "nobodyDry", "Z", false)
def kt4 : Nat → FieldType := fun k => match k with
  | 0 => .object "RentByTheWheel$Wheel"
  | 1 => .object "RentByTheWheel$State"
  | 2 => .array .int
  | 3 => .int
  | 4 => .int
  | 5 => .int
  | _ => .boolean
def kc5 : u_T := fun k => match k with
  | 0 => ("RentByTheWheel$Row", "numbers", "[J", true)
  | _ => ("RentByTheWheel$Row", "many", "I", false)
def kt5 : Nat → FieldType := fun k => match k with
  | 0 => .array .long
  | _ => .int
def kc6 : u_T := fun k => match k with
  | 0 => ("RentByTheWheel$Rule", "code", "[I", true)
  | 1 => ("RentByTheWheel$Rule", "length", "I", false)
  | 2 => ("RentByTheWheel$Rule", "things", "[I", true)
  | 3 => ("RentByTheWheel$Rule", "text", "LRentByTheWheel$Text;", true)
  | 4 => ("RentByTheWheel$Rule", "stack", "[I", true)
  | 5 => ("RentByTheWheel$Rule", "draft", "[I", true)
  | 6 => ("RentByTheWheel$Rule", "drafted", "I", false)
  | _ => ("RentByTheWheel$Rule", "at", "I", false)
def kt6 : Nat → FieldType := fun k => match k with
  | 0 => .array .int
  | 1 => .int
  | 2 => .array .int
  | 3 => .object "RentByTheWheel$Text"
  | 4 => .array .int
  | 5 => .array .int
  | 6 => .int
  | _ => .int
def kc7 : u_T := fun k => match k with
  | 0 => ("RentByTheWheel$State", "now", "I", false)
  | 1 => ("RentByTheWheel$State", "level", "I", false)
  | 2 => ("RentByTheWheel$State", "room", "I", false)
  | 3 => ("RentByTheWheel$State", "debts", "[I", true)
  | _ => ("RentByTheWheel$State", "dries", "[I", true)
def kt7 : Nat → FieldType := fun k => match k with
  | 0 => .int
  | 1 => .int
  | 2 => .int
  | 3 => .array .int
  | _ => .array .int
def kc8 : u_T := fun k => match k with
  | 0 => ("RentByTheWheel$Text", "signs", "[I", true)
  | _ => ("RentByTheWheel$Text", "length", "I", false)
def kt8 : Nat → FieldType := fun k => match k with
  | 0 => .array .int
  | _ => .int
def kc9 : u_T := fun k => match k with
  | 0 => ("RentByTheWheel$Wheel", "house", "LRentByTheWheel$House;", true)
  | 1 => ("RentByTheWheel$Wheel", "rule", "LRentByTheWheel$Rule;", true)
  | 2 => ("RentByTheWheel$Wheel", "lifted", "I", false)
  | 3 => ("RentByTheWheel$Wheel", "over", "I", false)
  | 4 => ("RentByTheWheel$Wheel", "dryBits", "I", false)
  | _ => ("RentByTheWheel$Wheel", "dryTimes", "I", false)
def kt9 : Nat → FieldType := fun k => match k with
  | 0 => .object "RentByTheWheel$House"
  | 1 => .object "RentByTheWheel$Rule"
  | 2 => .int
  | 3 => .int
  | 4 => .int
  | _ => .int
def kc10 : u_T := fun k => match k with
  | 0 => ("RentByTheWheel$Worths", "k", "I", false)
  | 1 => ("RentByTheWheel$Worths", "most", "I", false)
  | 2 => ("RentByTheWheel$Worths", "best", "[I", true)
  | 3 => ("RentByTheWheel$Worths", "leastRents", "[I", true)
  | 4 => ("RentByTheWheel$Worths", "digits", "[I", true)
  | 5 => ("RentByTheWheel$Worths", "tried", "[I", true)
  | 6 => ("RentByTheWheel$Worths", "asked", "[I", true)
  | _ => ("RentByTheWheel$Worths", "found", "I", false)
def kt10 : Nat → FieldType := fun k => match k with
  | 0 => .int
  | 1 => .int
  | 2 => .array .int
  | 3 => .array .int
  | 4 => .array .int
  | 5 => .array .int
  | 6 => .array .int
  | _ => .int
def kc11 : u_T := fun k => match k with
  | 0 => ("RentByTheWheel", "text", "LRentByTheWheel$Text;", true)
  | 1 => ("RentByTheWheel", "lodgers", "LRentByTheWheel$House;", true)
  | 2 => ("RentByTheWheel", "law", "LRentByTheWheel$Rule;", true)
  | 3 => ("RentByTheWheel", "wheel", "LRentByTheWheel$Wheel;", true)
  | 4 => ("RentByTheWheel", "state", "LRentByTheWheel$State;", true)
  | 5 => ("RentByTheWheel", "trial", "LRentByTheWheel$State;", true)
  | 6 => ("RentByTheWheel", "told", "LRentByTheWheel$Row;", true)
  | 7 => ("RentByTheWheel", "past", "LRentByTheWheel$Past;", true)
  | 8 => ("RentByTheWheel", "kept", "[LRentByTheWheel$State;", true)
  | 9 => ("RentByTheWheel", "keptWith", "[I", true)
  | 10 => ("RentByTheWheel", "plan", "LRentByTheWheel$Plan;", true)
  | 11 => ("RentByTheWheel", "pairing", "LRentByTheWheel$Pairing;", true)
  | 12 => ("RentByTheWheel", "worths", "LRentByTheWheel$Worths;", true)
  | 13 => ("RentByTheWheel", "pegs", "LRentByTheWheel$Pegs;", true)
  | _ => ("RentByTheWheel", "exchanged", "[I", true)
def kt11 : Nat → FieldType := fun k => match k with
  | 0 => .object "RentByTheWheel$Text"
  | 1 => .object "RentByTheWheel$House"
  | 2 => .object "RentByTheWheel$Rule"
  | 3 => .object "RentByTheWheel$Wheel"
  | 4 => .object "RentByTheWheel$State"
  | 5 => .object "RentByTheWheel$State"
  | 6 => .object "RentByTheWheel$Row"
  | 7 => .object "RentByTheWheel$Past"
  | 8 => .array (.object "RentByTheWheel$State")
  | 9 => .array .int
  | 10 => .object "RentByTheWheel$Plan"
  | 11 => .object "RentByTheWheel$Pairing"
  | 12 => .object "RentByTheWheel$Worths"
  | 13 => .object "RentByTheWheel$Pegs"
  | _ => .array .int
def kc12 : u_T := fun k => match k with
  | 0 => ("RentByTheWheelModel", "now", "[I", true)
  | 1 => ("RentByTheWheelModel", "lodgers", "I", false)
  | 2 => ("RentByTheWheelModel", "storey", "[I", true)
  | 3 => ("RentByTheWheelModel", "pace", "[I", true)
  | 4 => ("RentByTheWheelModel", "weight", "[I", true)
  | 5 => ("RentByTheWheelModel", "wants", "[I", true)
  | 6 => ("RentByTheWheelModel", "wantMany", "[I", true)
  | 7 => ("RentByTheWheelModel", "brakes", "I", false)
  | 8 => ("RentByTheWheelModel", "room", "I", false)
  | 9 => ("RentByTheWheelModel", "due", "I", false)
  | 10 => ("RentByTheWheelModel", "text", "[B", true)
  | 11 => ("RentByTheWheelModel", "typed", "I", false)
  | 12 => ("RentByTheWheelModel", "row", "[J", true)
  | 13 => ("RentByTheWheelModel", "rowMany", "I", false)
  | 14 => ("RentByTheWheelModel", "thrown", "I", false)
  | 15 => ("RentByTheWheelModel", "read", "[B", false)
  | 16 => ("RentByTheWheelModel", "length", "I", false)
  | 17 => ("RentByTheWheelModel", "top", "I", false)
  | 18 => ("RentByTheWheelModel", "at", "I", false)
  | 19 => ("RentByTheWheelModel", "wrong", "I", false)
  | 20 => ("RentByTheWheelModel", "comes", "[I", true)
  | 21 => ("RentByTheWheelModel", "rule", "[B", true)
  | 22 => ("RentByTheWheelModel", "ruleSize", "I", false)
  | 23 => ("RentByTheWheelModel", "isAsked", "Z", false)
  | 24 => ("RentByTheWheelModel", "askedOne", "I", false)
  | 25 => ("RentByTheWheelModel", "askedTurns", "I", false)
  | 26 => ("RentByTheWheelModel", "askedLevel", "I", false)
  | 27 => ("RentByTheWheelModel", "askedMany", "I", false)
  | 28 => ("RentByTheWheelModel", "askedQuarter", "I", false)
  | 29 => ("RentByTheWheelModel", "dryOnes", "I", false)
  | 30 => ("RentByTheWheelModel", "changedOne", "I", false)
  | 31 => ("RentByTheWheelModel", "changedOther", "I", false)
  | 32 => ("RentByTheWheelModel", "lifted", "I", false)
  | 33 => ("RentByTheWheelModel", "over", "I", false)
  | 34 => ("RentByTheWheelModel", "undos", "[I", true)
  | 35 => ("RentByTheWheelModel", "undoMany", "I", false)
  | 36 => ("RentByTheWheelModel", "aside", "[I", true)
  | 37 => ("RentByTheWheelModel", "turnsTold", "[I", true)
  | 38 => ("RentByTheWheelModel", "turnMany", "I", false)
  | 39 => ("RentByTheWheelModel", "then", "[I", true)
  | 40 => ("RentByTheWheelModel", "best", "[I", true)
  | 41 => ("RentByTheWheelModel", "with", "[I", true)
  | 42 => ("RentByTheWheelModel", "bestWith", "[I", true)
  | 43 => ("RentByTheWheelModel", "mostLifted", "I", false)
  | 44 => ("RentByTheWheelModel", "values", "[I", true)
  | 45 => ("RentByTheWheelModel", "newValues", "[I", true)
  | 46 => ("RentByTheWheelModel", "valued", "I", false)
  | 47 => ("RentByTheWheelModel", "allotted", "[I", true)
  | 48 => ("RentByTheWheelModel", "bestAllotted", "[I", true)
  | 49 => ("RentByTheWheelModel", "mostValue", "I", false)
  | 50 => ("RentByTheWheelModel", "rent", "[I", true)
  | 51 => ("RentByTheWheelModel", "leastRent", "[I", true)
  | 52 => ("RentByTheWheelModel", "rentMany", "I", false)
  | 53 => ("RentByTheWheelModel", "gets", "[I", true)
  | 54 => ("RentByTheWheelModel", "pegs", "[I", true)
  | 55 => ("RentByTheWheelModel", "pegMany", "I", false)
  | 56 => ("RentByTheWheelModel", "owedUp", "J", false)
  | 57 => ("RentByTheWheelModel", "owedLow", "J", false)
  | 58 => ("RentByTheWheelModel", "came", "I", false)
  | 59 => ("RentByTheWheelModel", "kept", "[I", true)
  | 60 => ("RentByTheWheelModel", "isKept", "[Z", true)
  | _ => ("RentByTheWheelModel", "keptCame", "[I", true)
def kt12 : Nat → FieldType := fun k => match k with
  | 0 => .array .int
  | 1 => .int
  | 2 => .array .int
  | 3 => .array .int
  | 4 => .array .int
  | 5 => .array .int
  | 6 => .array .int
  | 7 => .int
  | 8 => .int
  | 9 => .int
  | 10 => .array .byte
  | 11 => .int
  | 12 => .array .long
  | 13 => .int
  | 14 => .int
  | 15 => .array .byte
  | 16 => .int
  | 17 => .int
  | 18 => .int
  | 19 => .int
  | 20 => .array .int
  | 21 => .array .byte
  | 22 => .int
  | 23 => .boolean
  | 24 => .int
  | 25 => .int
  | 26 => .int
  | 27 => .int
  | 28 => .int
  | 29 => .int
  | 30 => .int
  | 31 => .int
  | 32 => .int
  | 33 => .int
  | 34 => .array .int
  | 35 => .int
  | 36 => .array .int
  | 37 => .array .int
  | 38 => .int
  | 39 => .array .int
  | 40 => .array .int
  | 41 => .array .int
  | 42 => .array .int
  | 43 => .int
  | 44 => .array .int
  | 45 => .array .int
  | 46 => .int
  | 47 => .array .int
  | 48 => .array .int
  | 49 => .int
  | 50 => .array .int
  | 51 => .array .int
  | 52 => .int
  | 53 => .array .int
  | 54 => .array .int
  | 55 => .int
  | 56 => .long
  | 57 => .long
  | 58 => .int
  | 59 => .array .int
  | 60 => .array .boolean
  | _ => .array .int
def kcl : List vw_C := [("RentByTheWheel$House", kc0, 9), ("RentByTheWheel$Pairing", kc1, 5), ("RentByTheWheel$Past", kc2, 3), ("RentByTheWheel$Pegs", kc3, 6), ("RentByTheWheel$Plan", kc4, 7), ("RentByTheWheel$Row", kc5, 2), ("RentByTheWheel$Rule", kc6, 8), ("RentByTheWheel$State", kc7, 5), ("RentByTheWheel$Text", kc8, 2), ("RentByTheWheel$Wheel", kc9, 6), ("RentByTheWheel$Worths", kc10, 8), ("RentByTheWheel", kc11, 15), ("RentByTheWheelModel", kc12, 62)]
def ktl : List (Nat → FieldType) := [kt0, kt1, kt2, kt3, kt4, kt5, kt6, kt7, kt8, kt9, kt10, kt11, kt12]
def kfl : List (List Value) := [[.int 0, .int 0, .int 0, .null, .null, .null, .null, .null, .null], [.null, .null, .int 0, .null, .null], [.null, .int 0, .int 0], [.null, .int 0, .null, .int 0, .null, .null], [.null, .null, .double 0, .int 0, .int 0, .int 0, .int 0], [.null, .int 0], [.null, .int 0, .null, .null, .null, .null, .int 0, .int 0], [.int 0, .int 0, .int 0, .null, .null], [.null, .int 0], [.null, .null, .int 0, .int 0, .int 0, .int 0], [.int 0, .int 0, .null, .null, .null, .null, .null, .int 0], [.null, .null, .null, .null, .null, .null, .null, .null, .null, .null, .null, .null, .null, .null, .null], [.null, .int 0, .null, .null, .null, .null, .null, .int 0, .int 0, .int 0, .null, .int 0, .null, .int 0, .int 0, .double 0, .int 0, .int 0, .int 0, .int 0, .null, .null, .int 0, .int 0, .int 0, .int 0, .int 0, .int 0, .int 0, .int 0, .int 0, .int 0, .int 0, .int 0, .null, .int 0, .null, .null, .int 0, .null, .null, .null, .null, .int 0, .null, .null, .int 0, .null, .null, .int 0, .null, .null, .int 0, .null, .null, .int 0, .long 0, .long 0, .int 0, .null, .null, .null]]
def ai_F : ai_F0 := fun ci => kfl.getD ci []
def GW : List Cond := lw_tbl.filter goodWord
theorem GW_of {w : Cond} (h : w ∈ lw_tbl) (g : goodWord w = true) : w ∈ GW := List.mem_filter.mpr ⟨h, g⟩
theorem ai_byp {ws : List Cond} {ps : List Nat} (h : ws.map some = ps.map (fun i => lw_tbl[i]?)) (hg : ws.all goodWord = true) : ∀ w ∈ ws, w ∈ GW := by
  intro w hw
  refine GW_of ?_ (List.all_eq_true.mp hg w hw)
  have h1 : some w ∈ ps.map (fun i => lw_tbl[i]?) := by rw [← h]; exact List.mem_map.mpr ⟨w, hw, rfl⟩
  obtain ⟨i, -, hi⟩ := List.mem_map.mp h1
  exact List.mem_of_getElem? hi
theorem kw0 : ∀ w ∈ u_ws "RentByTheWheel$House" kc0 9, w ∈ GW := by
  have h : (u_ws "RentByTheWheel$House" kc0 9).map some = [164, 166, 168, 170, 172, 174, 176, 178, 180].map (fun i => lw_tbl[i]?) := by decide +kernel
  exact ai_byp h (by decide +kernel)
theorem kn0 : ∀ a, a < 9 → ∀ b, b < 9 → a ≠ b → (kc0 a).2.1 ≠ (kc0 b).2.1 := by decide +kernel
theorem ky0 : ∀ k, k < 9 → parseFieldDescriptor (kc0 k).2.2.1 = some (kt0 k) := by decide +kernel
theorem kw1 : ∀ w ∈ u_ws "RentByTheWheel$Pairing" kc1 5, w ∈ GW := by
  have h : (u_ws "RentByTheWheel$Pairing" kc1 5).map some = [372, 374, 376, 378, 380].map (fun i => lw_tbl[i]?) := by decide +kernel
  exact ai_byp h (by decide +kernel)
theorem kn1 : ∀ a, a < 5 → ∀ b, b < 5 → a ≠ b → (kc1 a).2.1 ≠ (kc1 b).2.1 := by decide +kernel
theorem ky1 : ∀ k, k < 5 → parseFieldDescriptor (kc1 k).2.2.1 = some (kt1 k) := by decide +kernel
theorem kw2 : ∀ w ∈ u_ws "RentByTheWheel$Past" kc2 3, w ∈ GW := by
  have h : (u_ws "RentByTheWheel$Past" kc2 3).map some = [322, 324, 326].map (fun i => lw_tbl[i]?) := by decide +kernel
  exact ai_byp h (by decide +kernel)
theorem kn2 : ∀ a, a < 3 → ∀ b, b < 3 → a ≠ b → (kc2 a).2.1 ≠ (kc2 b).2.1 := by decide +kernel
theorem ky2 : ∀ k, k < 3 → parseFieldDescriptor (kc2 k).2.2.1 = some (kt2 k) := by decide +kernel
theorem kw3 : ∀ w ∈ u_ws "RentByTheWheel$Pegs" kc3 6, w ∈ GW := by
  have h : (u_ws "RentByTheWheel$Pegs" kc3 6).map some = [432, 434, 436, 438, 440, 442].map (fun i => lw_tbl[i]?) := by decide +kernel
  exact ai_byp h (by decide +kernel)
theorem kn3 : ∀ a, a < 6 → ∀ b, b < 6 → a ≠ b → (kc3 a).2.1 ≠ (kc3 b).2.1 := by decide +kernel
theorem ky3 : ∀ k, k < 6 → parseFieldDescriptor (kc3 k).2.2.1 = some (kt3 k) := by decide +kernel
theorem kw4 : ∀ w ∈ u_ws "RentByTheWheel$Plan" kc4 7, w ∈ GW := by
  have h : (u_ws "RentByTheWheel$Plan" kc4 7).map some = [344, 346, 348, 350, 352, 354, 356].map (fun i => lw_tbl[i]?) := by decide +kernel
  exact ai_byp h (by decide +kernel)
theorem kn4 : ∀ a, a < 7 → ∀ b, b < 7 → a ≠ b → (kc4 a).2.1 ≠ (kc4 b).2.1 := by decide +kernel
theorem ky4 : ∀ k, k < 7 → parseFieldDescriptor (kc4 k).2.2.1 = some (kt4 k) := by decide +kernel
theorem kw5 : ∀ w ∈ u_ws "RentByTheWheel$Row" kc5 2, w ∈ GW := by
  have h : (u_ws "RentByTheWheel$Row" kc5 2).map some = [303, 305].map (fun i => lw_tbl[i]?) := by decide +kernel
  exact ai_byp h (by decide +kernel)
theorem kn5 : ∀ a, a < 2 → ∀ b, b < 2 → a ≠ b → (kc5 a).2.1 ≠ (kc5 b).2.1 := by decide +kernel
theorem ky5 : ∀ k, k < 2 → parseFieldDescriptor (kc5 k).2.2.1 = some (kt5 k) := by decide +kernel
theorem kw6 : ∀ w ∈ u_ws "RentByTheWheel$Rule" kc6 8, w ∈ GW := by
  have h : (u_ws "RentByTheWheel$Rule" kc6 8).map some = [209, 211, 213, 215, 217, 219, 221, 223].map (fun i => lw_tbl[i]?) := by decide +kernel
  exact ai_byp h (by decide +kernel)
theorem kn6 : ∀ a, a < 8 → ∀ b, b < 8 → a ≠ b → (kc6 a).2.1 ≠ (kc6 b).2.1 := by decide +kernel
theorem ky6 : ∀ k, k < 8 → parseFieldDescriptor (kc6 k).2.2.1 = some (kt6 k) := by decide +kernel
theorem kw7 : ∀ w ∈ u_ws "RentByTheWheel$State" kc7 5, w ∈ GW := by
  have h : (u_ws "RentByTheWheel$State" kc7 5).map some = [282, 284, 286, 288, 290].map (fun i => lw_tbl[i]?) := by decide +kernel
  exact ai_byp h (by decide +kernel)
theorem kn7 : ∀ a, a < 5 → ∀ b, b < 5 → a ≠ b → (kc7 a).2.1 ≠ (kc7 b).2.1 := by decide +kernel
theorem ky7 : ∀ k, k < 5 → parseFieldDescriptor (kc7 k).2.2.1 = some (kt7 k) := by decide +kernel
theorem kw8 : ∀ w ∈ u_ws "RentByTheWheel$Text" kc8 2, w ∈ GW := by
  have h : (u_ws "RentByTheWheel$Text" kc8 2).map some = [127, 129].map (fun i => lw_tbl[i]?) := by decide +kernel
  exact ai_byp h (by decide +kernel)
theorem kn8 : ∀ a, a < 2 → ∀ b, b < 2 → a ≠ b → (kc8 a).2.1 ≠ (kc8 b).2.1 := by decide +kernel
theorem ky8 : ∀ k, k < 2 → parseFieldDescriptor (kc8 k).2.2.1 = some (kt8 k) := by decide +kernel
theorem kw9 : ∀ w ∈ u_ws "RentByTheWheel$Wheel" kc9 6, w ∈ GW := by
  have h : (u_ws "RentByTheWheel$Wheel" kc9 6).map some = [245, 247, 249, 251, 253, 255].map (fun i => lw_tbl[i]?) := by decide +kernel
  exact ai_byp h (by decide +kernel)
theorem kn9 : ∀ a, a < 6 → ∀ b, b < 6 → a ≠ b → (kc9 a).2.1 ≠ (kc9 b).2.1 := by decide +kernel
theorem ky9 : ∀ k, k < 6 → parseFieldDescriptor (kc9 k).2.2.1 = some (kt9 k) := by decide +kernel
theorem kw10 : ∀ w ∈ u_ws "RentByTheWheel$Worths" kc10 8, w ∈ GW := by
  have h : (u_ws "RentByTheWheel$Worths" kc10 8).map some = [401, 403, 405, 407, 409, 411, 413, 415].map (fun i => lw_tbl[i]?) := by decide +kernel
  exact ai_byp h (by decide +kernel)
theorem kn10 : ∀ a, a < 8 → ∀ b, b < 8 → a ≠ b → (kc10 a).2.1 ≠ (kc10 b).2.1 := by decide +kernel
theorem ky10 : ∀ k, k < 8 → parseFieldDescriptor (kc10 k).2.2.1 = some (kt10 k) := by decide +kernel
theorem kw11 : ∀ w ∈ u_ws "RentByTheWheel" kc11 15, w ∈ GW := by
  have h : (u_ws "RentByTheWheel" kc11 15).map some = [460, 462, 464, 466, 468, 470, 472, 474, 476, 478, 480, 482, 484, 486, 488].map (fun i => lw_tbl[i]?) := by decide +kernel
  exact ai_byp h (by decide +kernel)
theorem kn11 : ∀ a, a < 15 → ∀ b, b < 15 → a ≠ b → (kc11 a).2.1 ≠ (kc11 b).2.1 := by decide +kernel
theorem ky11 : ∀ k, k < 15 → parseFieldDescriptor (kc11 k).2.2.1 = some (kt11 k) := by decide +kernel
theorem kw12 : ∀ w ∈ u_ws "RentByTheWheelModel" kc12 62, w ∈ GW := by
  have h : (u_ws "RentByTheWheelModel" kc12 62).map some = [1314, 1316, 1318, 1320, 1322, 1324, 1326, 1328, 1330, 1332, 1334, 1336, 1338, 1340, 1342, 1344, 1346, 1348, 1350, 1352, 1354, 1356, 1358, 1360, 1362, 1364, 1366, 1368, 1370, 1372, 1374, 1376, 1378, 1380, 1382, 1384, 1386, 1388, 1390, 1392, 1394, 1396, 1398, 1400, 1402, 1404, 1406, 1408, 1410, 1412, 1414, 1416, 1418, 1420, 1422, 1424, 1426, 1428, 1430, 1432, 1434, 1436].map (fun i => lw_tbl[i]?) := by decide +kernel
  exact ai_byp h (by decide +kernel)
theorem kn12 : ∀ a, a < 62 → ∀ b, b < 62 → a ≠ b → (kc12 a).2.1 ≠ (kc12 b).2.1 := by decide +kernel
theorem ky12 : ∀ k, k < 62 → parseFieldDescriptor (kc12 k).2.2.1 = some (kt12 k) := by decide +kernel
