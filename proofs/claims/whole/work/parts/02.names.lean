/-! class tables: fields in order (declaring class, name, descriptor, final) -/
def kT0 : u_T := fun k => match k with
  | 0 => ("RingingChamber$Lead", "changes", "[I", true)
  | 1 => ("RingingChamber$Lead", "size", "I", false)
  | _ => ("RingingChamber$Lead", "amiss", "I", false)
def kY0 : Nat → FieldType := fun k => match k with
  | 0 => .array (.int)
  | 1 => .int
  | _ => .int
def kT1 : u_T := fun k => match k with
  | 0 => ("RingingChamber$Method", "bells", "I", true)
  | 1 => ("RingingChamber$Method", "begun", "[I", true)
  | 2 => ("RingingChamber$Method", "own", "LRingingChamber$Lead;", true)
  | 3 => ("RingingChamber$Method", "callPlaces", "[I", true)
  | 4 => ("RingingChamber$Method", "callChanges", "[I", true)
  | _ => ("RingingChamber$Method", "allowedCalls", "I", false)
def kY1 : Nat → FieldType := fun k => match k with
  | 0 => .int
  | 1 => .array (.int)
  | 2 => .object "RingingChamber$Lead"
  | 3 => .array (.int)
  | 4 => .array (.int)
  | _ => .int
def kT2 : u_T := fun k => match k with
  | 0 => ("RingingChamber$Method", "bells", "I", true)
  | 1 => ("RingingChamber$Method", "begun", "[I", true)
  | 2 => ("RingingChamber$Method", "own", "LRingingChamber$Lead;", true)
  | 3 => ("RingingChamber$Method", "callPlaces", "[I", true)
  | 4 => ("RingingChamber$Method", "callChanges", "[I", true)
  | _ => ("RingingChamber$Method", "allowedCalls", "I", false)
def kY2 : Nat → FieldType := fun k => match k with
  | 0 => .int
  | 1 => .array (.int)
  | 2 => .object "RingingChamber$Lead"
  | 3 => .array (.int)
  | 4 => .array (.int)
  | _ => .int
def kT3 : u_T := fun k => match k with
  | 0 => ("RingingChamber$Method", "bells", "I", true)
  | 1 => ("RingingChamber$Method", "begun", "[I", true)
  | 2 => ("RingingChamber$Method", "own", "LRingingChamber$Lead;", true)
  | 3 => ("RingingChamber$Method", "callPlaces", "[I", true)
  | 4 => ("RingingChamber$Method", "callChanges", "[I", true)
  | _ => ("RingingChamber$Method", "allowedCalls", "I", false)
def kY3 : Nat → FieldType := fun k => match k with
  | 0 => .int
  | 1 => .array (.int)
  | 2 => .object "RingingChamber$Lead"
  | 3 => .array (.int)
  | 4 => .array (.int)
  | _ => .int
def kT4 : u_T := fun k => match k with
  | 0 => ("RingingChamber$Rows", "codes", "[J", true)
  | 1 => ("RingingChamber$Rows", "links", "[I", true)
  | 2 => ("RingingChamber$Rows", "heads", "[I", true)
  | _ => ("RingingChamber$Rows", "size", "I", false)
def kY4 : Nat → FieldType := fun k => match k with
  | 0 => .array (.long)
  | 1 => .array (.int)
  | 2 => .array (.int)
  | _ => .int
def kT5 : u_T := fun k => match k with
  | 0 => ("RingingChamber$Search", "choices", "[I", true)
  | 1 => ("RingingChamber$Search", "choiceMethods", "[LRingingChamber$Method;", true)
  | 2 => ("RingingChamber$Search", "choiceCount", "I", false)
  | 3 => ("RingingChamber$Search", "length", "I", false)
  | 4 => ("RingingChamber$Search", "wanted", "I", false)
  | 5 => ("RingingChamber$Search", "pattern", "J", false)
  | 6 => ("RingingChamber$Search", "toldDigits", "J", false)
  | 7 => ("RingingChamber$Search", "rounds", "J", false)
  | 8 => ("RingingChamber$Search", "leads", "[LRingingChamber$Lead;", true)
  | 9 => ("RingingChamber$Search", "usable", "[I", true)
  | 10 => ("RingingChamber$Search", "rows", "LRingingChamber$Rows;", true)
  | 11 => ("RingingChamber$Search", "fitting", "[I", true)
  | 12 => ("RingingChamber$Search", "taken", "[I", true)
  | 13 => ("RingingChamber$Search", "firstRows", "[I", true)
  | 14 => ("RingingChamber$Search", "depth", "I", false)
  | 15 => ("RingingChamber$Search", "current", "LRingingChamber$Lead;", false)
  | 16 => ("RingingChamber$Search", "changesDone", "I", false)
  | 17 => ("RingingChamber$Search", "answer", "I", false)
  | 18 => ("RingingChamber$Search", "steps", "I", false)
  | _ => ("RingingChamber$Search", "isVoid", "Z", false)
def kY5 : Nat → FieldType := fun k => match k with
  | 0 => .array (.int)
  | 1 => .array (.object "RingingChamber$Method")
  | 2 => .int
  | 3 => .int
  | 4 => .int
  | 5 => .long
  | 6 => .long
  | 7 => .long
  | 8 => .array (.object "RingingChamber$Lead")
  | 9 => .array (.int)
  | 10 => .object "RingingChamber$Rows"
  | 11 => .array (.int)
  | 12 => .array (.int)
  | 13 => .array (.int)
  | 14 => .int
  | 15 => .object "RingingChamber$Lead"
  | 16 => .int
  | 17 => .int
  | 18 => .int
  | _ => .boolean
def kT6 : u_T := fun k => match k with
  | 0 => ("RingingChamber$Method", "bells", "I", true)
  | 1 => ("RingingChamber$Method", "begun", "[I", true)
  | 2 => ("RingingChamber$Method", "own", "LRingingChamber$Lead;", true)
  | 3 => ("RingingChamber$Method", "callPlaces", "[I", true)
  | 4 => ("RingingChamber$Method", "callChanges", "[I", true)
  | 5 => ("RingingChamber$Method", "allowedCalls", "I", false)
  | 6 => ("RingingChamber$Spliced", "parts", "[LRingingChamber$Method;", true)
  | _ => ("RingingChamber$Spliced", "partCount", "I", false)
def kY6 : Nat → FieldType := fun k => match k with
  | 0 => .int
  | 1 => .array (.int)
  | 2 => .object "RingingChamber$Lead"
  | 3 => .array (.int)
  | 4 => .array (.int)
  | 5 => .int
  | 6 => .array (.object "RingingChamber$Method")
  | _ => .int
def kT7 : u_T := fun k => match k with
  | 0 => ("RingingChamber$Method", "bells", "I", true)
  | 1 => ("RingingChamber$Method", "begun", "[I", true)
  | 2 => ("RingingChamber$Method", "own", "LRingingChamber$Lead;", true)
  | 3 => ("RingingChamber$Method", "callPlaces", "[I", true)
  | 4 => ("RingingChamber$Method", "callChanges", "[I", true)
  | _ => ("RingingChamber$Method", "allowedCalls", "I", false)
def kY7 : Nat → FieldType := fun k => match k with
  | 0 => .int
  | 1 => .array (.int)
  | 2 => .object "RingingChamber$Lead"
  | 3 => .array (.int)
  | 4 => .array (.int)
  | _ => .int
def kT8 : u_T := fun k => match k with
  | 0 => ("RingingChamber$Tape", "bytes", "[B", true)
  | 1 => ("RingingChamber$Tape", "length", "I", false)
  | 2 => ("RingingChamber$Tape", "told", "[I", true)
  | 3 => ("RingingChamber$Tape", "toldCount", "I", false)
  | 4 => ("RingingChamber$Tape", "firstBlock", "I", false)
  | 5 => ("RingingChamber$Tape", "state", "I", false)
  | 6 => ("RingingChamber$Tape", "lastPlace", "I", false)
  | _ => ("RingingChamber$Tape", "openChange", "I", false)
def kY8 : Nat → FieldType := fun k => match k with
  | 0 => .array (.byte)
  | 1 => .int
  | 2 => .array (.int)
  | 3 => .int
  | 4 => .int
  | 5 => .int
  | 6 => .int
  | _ => .int
def kT9 : u_T := fun k => match k with
  | 0 => ("RingingChamber$Touch", "itemMethods", "[LRingingChamber$Method;", true)
  | 1 => ("RingingChamber$Touch", "itemCalls", "[I", true)
  | 2 => ("RingingChamber$Touch", "itemCount", "I", false)
  | 3 => ("RingingChamber$Touch", "bells", "I", false)
  | 4 => ("RingingChamber$Touch", "rounds", "J", false)
  | 5 => ("RingingChamber$Touch", "rows", "LRingingChamber$Rows;", true)
  | 6 => ("RingingChamber$Touch", "current", "LRingingChamber$Lead;", true)
  | 7 => ("RingingChamber$Touch", "changesDone", "I", false)
  | 8 => ("RingingChamber$Touch", "nextItem", "I", false)
  | 9 => ("RingingChamber$Touch", "hasStopped", "Z", false)
  | 10 => ("RingingChamber$Touch", "roundAt", "I", false)
  | 11 => ("RingingChamber$Touch", "firstFalse", "I", false)
  | 12 => ("RingingChamber$Touch", "numbers", "[I", true)
  | 13 => ("RingingChamber$Touch", "numberedRows", "I", false)
  | 14 => ("RingingChamber$Touch", "proven", "[I", true)
  | _ => ("RingingChamber$Touch", "proofSize", "I", false)
def kY9 : Nat → FieldType := fun k => match k with
  | 0 => .array (.object "RingingChamber$Method")
  | 1 => .array (.int)
  | 2 => .int
  | 3 => .int
  | 4 => .long
  | 5 => .object "RingingChamber$Rows"
  | 6 => .object "RingingChamber$Lead"
  | 7 => .int
  | 8 => .int
  | 9 => .boolean
  | 10 => .int
  | 11 => .int
  | 12 => .array (.int)
  | 13 => .int
  | 14 => .array (.int)
  | _ => .int
def kT10 : u_T := fun k => match k with
  | 0 => ("RingingChamber$Method", "bells", "I", true)
  | 1 => ("RingingChamber$Method", "begun", "[I", true)
  | 2 => ("RingingChamber$Method", "own", "LRingingChamber$Lead;", true)
  | 3 => ("RingingChamber$Method", "callPlaces", "[I", true)
  | 4 => ("RingingChamber$Method", "callChanges", "[I", true)
  | _ => ("RingingChamber$Method", "allowedCalls", "I", false)
def kY10 : Nat → FieldType := fun k => match k with
  | 0 => .int
  | 1 => .array (.int)
  | 2 => .object "RingingChamber$Lead"
  | 3 => .array (.int)
  | 4 => .array (.int)
  | _ => .int
def kT11 : u_T := fun k => match k with
  | 0 => ("RingingChamber", "tape", "LRingingChamber$Tape;", true)
  | 1 => ("RingingChamber", "begun", "[I", true)
  | 2 => ("RingingChamber", "methods", "[LRingingChamber$Method;", true)
  | 3 => ("RingingChamber", "methodCount", "I", false)
  | 4 => ("RingingChamber", "bellCount", "I", false)
  | 5 => ("RingingChamber", "rungBells", "I", false)
  | 6 => ("RingingChamber", "finding", "I", false)
  | 7 => ("RingingChamber", "ringing", "LRingingChamber$Touch;", true)
  | 8 => ("RingingChamber", "seeking", "LRingingChamber$Search;", true)
  | 9 => ("RingingChamber", "looked", "LRingingChamber$Lead;", true)
  | _ => ("RingingChamber", "others", "LRingingChamber$Rows;", true)
def kY11 : Nat → FieldType := fun k => match k with
  | 0 => .object "RingingChamber$Tape"
  | 1 => .array (.int)
  | 2 => .array (.object "RingingChamber$Method")
  | 3 => .int
  | 4 => .int
  | 5 => .int
  | 6 => .int
  | 7 => .object "RingingChamber$Touch"
  | 8 => .object "RingingChamber$Search"
  | 9 => .object "RingingChamber$Lead"
  | _ => .object "RingingChamber$Rows"
def kT12 : u_T := fun k => match k with
  | 0 => ("RingingChamberModel", "tape", "[I", true)
  | 1 => ("RingingChamberModel", "taped", "I", false)
  | 2 => ("RingingChamberModel", "n", "I", false)
  | 3 => ("RingingChamberModel", "finding", "I", false)
  | 4 => ("RingingChamberModel", "trace", "[I", true)
  | 5 => ("RingingChamberModel", "methods", "I", false)
  | 6 => ("RingingChamberModel", "kind", "[I", true)
  | 7 => ("RingingChamberModel", "lengths", "[I", true)
  | 8 => ("RingingChamberModel", "leads", "[I", true)
  | 9 => ("RingingChamberModel", "callPlace", "[I", true)
  | 10 => ("RingingChamberModel", "callChange", "[I", true)
  | 11 => ("RingingChamberModel", "partMany", "[I", true)
  | 12 => ("RingingChamberModel", "parts", "[I", true)
  | 13 => ("RingingChamberModel", "out", "[I", true)
  | 14 => ("RingingChamberModel", "outMany", "I", false)
  | 15 => ("RingingChamberModel", "amiss", "I", false)
  | 16 => ("RingingChamberModel", "isCounted", "Z", false)
  | 17 => ("RingingChamberModel", "itemMethod", "[I", true)
  | 18 => ("RingingChamberModel", "itemCall", "[I", true)
  | 19 => ("RingingChamberModel", "items", "I", false)
  | 20 => ("RingingChamberModel", "rows", "[J", true)
  | 21 => ("RingingChamberModel", "rowMany", "I", false)
  | 22 => ("RingingChamberModel", "nextItem", "I", false)
  | 23 => ("RingingChamberModel", "now", "[I", true)
  | 24 => ("RingingChamberModel", "nowMany", "I", false)
  | 25 => ("RingingChamberModel", "nowAt", "I", false)
  | 26 => ("RingingChamberModel", "stops", "Z", false)
  | 27 => ("RingingChamberModel", "came", "I", false)
  | 28 => ("RingingChamberModel", "proof", "[I", true)
  | 29 => ("RingingChamberModel", "other", "[I", true)
  | 30 => ("RingingChamberModel", "proofMany", "I", false)
  | 31 => ("RingingChamberModel", "nobody", "[Z", true)
  | 32 => ("RingingChamberModel", "allowed", "[I", true)
  | 33 => ("RingingChamberModel", "isSearch", "Z", false)
  | 34 => ("RingingChamberModel", "isVoid", "Z", false)
  | 35 => ("RingingChamberModel", "result", "I", false)
  | 36 => ("RingingChamberModel", "length", "I", false)
  | 37 => ("RingingChamberModel", "wanted", "I", false)
  | 38 => ("RingingChamberModel", "pattern", "J", false)
  | 39 => ("RingingChamberModel", "steps", "I", false)
  | 40 => ("RingingChamberModel", "candidates", "[I", true)
  | 41 => ("RingingChamberModel", "candidateMany", "I", false)
  | 42 => ("RingingChamberModel", "known", "[B", true)
  | 43 => ("RingingChamberModel", "depth", "I", false)
  | 44 => ("RingingChamberModel", "isIn", "Z", false)
  | 45 => ("RingingChamberModel", "chosen", "[I", true)
  | 46 => ("RingingChamberModel", "begun", "[I", true)
  | 47 => ("RingingChamberModel", "rung", "[J", true)
  | 48 => ("RingingChamberModel", "top", "I", false)
  | 49 => ("RingingChamberModel", "going", "[I", true)
  | 50 => ("RingingChamberModel", "goingMany", "I", false)
  | 51 => ("RingingChamberModel", "goingAt", "I", false)
  | 52 => ("RingingChamberModel", "foundItems", "[I", true)
  | 53 => ("RingingChamberModel", "foundMany", "I", false)
  | 54 => ("RingingChamberModel", "read", "[I", true)
  | 55 => ("RingingChamberModel", "readMany", "I", false)
  | 56 => ("RingingChamberModel", "readAt", "I", false)
  | 57 => ("RingingChamberModel", "places", "[I", true)
  | _ => ("RingingChamberModel", "some", "[J", true)
def kY12 : Nat → FieldType := fun k => match k with
  | 0 => .array (.int)
  | 1 => .int
  | 2 => .int
  | 3 => .int
  | 4 => .array (.int)
  | 5 => .int
  | 6 => .array (.int)
  | 7 => .array (.int)
  | 8 => .array (.int)
  | 9 => .array (.int)
  | 10 => .array (.int)
  | 11 => .array (.int)
  | 12 => .array (.int)
  | 13 => .array (.int)
  | 14 => .int
  | 15 => .int
  | 16 => .boolean
  | 17 => .array (.int)
  | 18 => .array (.int)
  | 19 => .int
  | 20 => .array (.long)
  | 21 => .int
  | 22 => .int
  | 23 => .array (.int)
  | 24 => .int
  | 25 => .int
  | 26 => .boolean
  | 27 => .int
  | 28 => .array (.int)
  | 29 => .array (.int)
  | 30 => .int
  | 31 => .array (.boolean)
  | 32 => .array (.int)
  | 33 => .boolean
  | 34 => .boolean
  | 35 => .int
  | 36 => .int
  | 37 => .int
  | 38 => .long
  | 39 => .int
  | 40 => .array (.int)
  | 41 => .int
  | 42 => .array (.byte)
  | 43 => .int
  | 44 => .boolean
  | 45 => .array (.int)
  | 46 => .array (.int)
  | 47 => .array (.long)
  | 48 => .int
  | 49 => .array (.int)
  | 50 => .int
  | 51 => .int
  | 52 => .array (.int)
  | 53 => .int
  | 54 => .array (.int)
  | 55 => .int
  | 56 => .int
  | 57 => .array (.int)
  | _ => .array (.long)
abbrev kCL : List vw_C := [("RingingChamber$Lead", kT0, 3), ("RingingChamber$Little", kT1, 6), ("RingingChamber$Plain", kT2, 6), ("RingingChamber$Principle", kT3, 6), ("RingingChamber$Rows", kT4, 4), ("RingingChamber$Search", kT5, 20), ("RingingChamber$Spliced", kT6, 8), ("RingingChamber$Surprise", kT7, 6), ("RingingChamber$Tape", kT8, 8), ("RingingChamber$Touch", kT9, 16), ("RingingChamber$Treble", kT10, 6), ("RingingChamber", kT11, 11), ("RingingChamberModel", kT12, 59)]
def kFT : List (List Nat) := [[2, 0, 0], [0, 2, 2, 2, 2, 0], [0, 2, 2, 2, 2, 0], [0, 2, 2, 2, 2, 0], [2, 2, 2, 0], [2, 2, 0, 0, 0, 1, 1, 1, 2, 2, 2, 2, 2, 2, 0, 2, 0, 0, 0, 0], [0, 2, 2, 2, 2, 0, 2, 0], [0, 2, 2, 2, 2, 0], [2, 0, 2, 0, 0, 0, 0, 0], [2, 2, 0, 0, 1, 2, 2, 0, 0, 0, 0, 0, 2, 0, 2, 0], [0, 2, 2, 2, 2, 0], [2, 2, 2, 0, 0, 0, 0, 2, 2, 2, 2], [2, 0, 0, 0, 2, 0, 2, 2, 2, 2, 2, 2, 2, 2, 0, 0, 0, 2, 2, 0, 2, 0, 0, 2, 0, 0, 0, 0, 2, 2, 0, 2, 2, 0, 0, 0, 0, 0, 1, 0, 2, 0, 2, 0, 0, 2, 2, 2, 0, 2, 0, 0, 2, 0, 2, 0, 0, 2, 2]]
def fty (t k : Nat) : Nat := (kFT.getD t []).getD k 0
def nfl (t : Nat) : Nat := (kFT.getD t []).length
def kTY (t : Nat) : Nat → FieldType := match t with
  | 0 => kY0
  | 1 => kY1
  | 2 => kY2
  | 3 => kY3
  | 4 => kY4
  | 5 => kY5
  | 6 => kY6
  | 7 => kY7
  | 8 => kY8
  | 9 => kY9
  | 10 => kY10
  | 11 => kY11
  | _ => kY12
/-- a private method of the class above, called on an object of the class below -/
def gtX : Cond := .selects "RingingChamber$Surprise" ⟨"RingingChamber$Treble", "trebleIsAsOftenAtEachPlace", "(LRingingChamber$Lead;)Z"⟩ ⟨"RingingChamber$Treble", "trebleIsAsOftenAtEachPlace", "(LRingingChamber$Lead;)Z"⟩
def GT : List Cond := (gtX :: lw_tbl).filter goodWord
theorem gt_mem {w : Cond} (h : w ∈ lw_tbl) (g : goodWord w = true) : w ∈ GT := List.mem_filter.mpr ⟨List.mem_cons_of_mem _ h, g⟩
theorem gt_in {w : Cond} (h : w ∈ GT) : w = gtX ∨ w ∈ lw_tbl := List.mem_cons.mp (List.mem_filter.mp h).1
theorem gt_x : gtX ∈ GT := List.mem_filter.mpr ⟨List.mem_cons_self, by decide +kernel⟩
theorem gt_1 {w : Cond} (i : Nat) (h : tables_1_1[i]? = some w) (g : goodWord w = true) : w ∈ GT := gt_mem (List.mem_append_right _ (have h := List.mem_of_getElem? h; (List.mem_append_left _ h))) g
theorem gt_2 {w : Cond} (i : Nat) (h : tables_1_2[i]? = some w) (g : goodWord w = true) : w ∈ GT := gt_mem (List.mem_append_right _ (have h := List.mem_of_getElem? h; (List.mem_append_right _ (List.mem_append_left _ h)))) g
theorem gt_3 {w : Cond} (i : Nat) (h : tables_1_3[i]? = some w) (g : goodWord w = true) : w ∈ GT := gt_mem (List.mem_append_right _ (have h := List.mem_of_getElem? h; (List.mem_append_right _ (List.mem_append_right _ (List.mem_append_left _ h))))) g
theorem gt_4 {w : Cond} (i : Nat) (h : tables_1_4[i]? = some w) (g : goodWord w = true) : w ∈ GT := gt_mem (List.mem_append_right _ (have h := List.mem_of_getElem? h; (List.mem_append_right _ (List.mem_append_right _ (List.mem_append_right _ (List.mem_append_left _ h)))))) g
theorem gt_5 {w : Cond} (i : Nat) (h : tables_1_5[i]? = some w) (g : goodWord w = true) : w ∈ GT := gt_mem (List.mem_append_right _ (have h := List.mem_of_getElem? h; (List.mem_append_right _ (List.mem_append_right _ (List.mem_append_right _ (List.mem_append_right _ (List.mem_append_left _ h))))))) g
theorem gt_6 {w : Cond} (i : Nat) (h : tables_1_6[i]? = some w) (g : goodWord w = true) : w ∈ GT := gt_mem (List.mem_append_right _ (have h := List.mem_of_getElem? h; (List.mem_append_right _ (List.mem_append_right _ (List.mem_append_right _ (List.mem_append_right _ (List.mem_append_right _ (List.mem_append_left _ h)))))))) g
theorem gt_7 {w : Cond} (i : Nat) (h : tables_1_7[i]? = some w) (g : goodWord w = true) : w ∈ GT := gt_mem (List.mem_append_right _ (have h := List.mem_of_getElem? h; (List.mem_append_right _ (List.mem_append_right _ (List.mem_append_right _ (List.mem_append_right _ (List.mem_append_right _ (List.mem_append_right _ h)))))))) g
theorem gt_0 {w : Cond} (i : Nat) (h : (k2_sels lw_privs)[i]? = some w) (g : goodWord w = true) : w ∈ GT := gt_mem (List.mem_append_left _ (List.mem_of_getElem? h)) g
theorem gt_good {w : Cond} (h : w ∈ GT) : goodWord w = true := (List.mem_filter.mp h).2
theorem gt_ws {ws : List Cond} (h : ws.all (fun w => goodWord w && lw_tbl.contains w) = true) : ∀ w ∈ ws, w ∈ GT := fun w hw => by
  have h1 := List.all_eq_true.mp h w hw
  rw [Bool.and_eq_true] at h1
  exact gt_mem (List.contains_iff_mem.mp h1.2) h1.1
theorem kW0 : ∀ w ∈ u_ws "RingingChamber$Lead" kT0 3, w ∈ GT := gt_ws (by decide +kernel)
theorem kW1 : ∀ w ∈ u_ws "RingingChamber$Little" kT1 6, w ∈ GT := gt_ws (by decide +kernel)
theorem kW2 : ∀ w ∈ u_ws "RingingChamber$Plain" kT2 6, w ∈ GT := gt_ws (by decide +kernel)
theorem kW3 : ∀ w ∈ u_ws "RingingChamber$Principle" kT3 6, w ∈ GT := gt_ws (by decide +kernel)
theorem kW4 : ∀ w ∈ u_ws "RingingChamber$Rows" kT4 4, w ∈ GT := gt_ws (by decide +kernel)
theorem kW5 : ∀ w ∈ u_ws "RingingChamber$Search" kT5 20, w ∈ GT := gt_ws (by decide +kernel)
theorem kW6 : ∀ w ∈ u_ws "RingingChamber$Spliced" kT6 8, w ∈ GT := gt_ws (by decide +kernel)
theorem kW7 : ∀ w ∈ u_ws "RingingChamber$Surprise" kT7 6, w ∈ GT := gt_ws (by decide +kernel)
theorem kW8 : ∀ w ∈ u_ws "RingingChamber$Tape" kT8 8, w ∈ GT := gt_ws (by decide +kernel)
theorem kW9 : ∀ w ∈ u_ws "RingingChamber$Touch" kT9 16, w ∈ GT := gt_ws (by decide +kernel)
theorem kW10 : ∀ w ∈ u_ws "RingingChamber$Treble" kT10 6, w ∈ GT := gt_ws (by decide +kernel)
theorem kW11 : ∀ w ∈ u_ws "RingingChamber" kT11 11, w ∈ GT := gt_ws (by decide +kernel)
theorem kW12 : ∀ w ∈ u_ws "RingingChamberModel" kT12 59, w ∈ GT := gt_ws (by decide +kernel)
theorem k_cases {P : Nat → vw_C → Prop} (h0 : P 0 ("RingingChamber$Lead", kT0, 3)) (h1 : P 1 ("RingingChamber$Little", kT1, 6)) (h2 : P 2 ("RingingChamber$Plain", kT2, 6)) (h3 : P 3 ("RingingChamber$Principle", kT3, 6)) (h4 : P 4 ("RingingChamber$Rows", kT4, 4)) (h5 : P 5 ("RingingChamber$Search", kT5, 20)) (h6 : P 6 ("RingingChamber$Spliced", kT6, 8)) (h7 : P 7 ("RingingChamber$Surprise", kT7, 6)) (h8 : P 8 ("RingingChamber$Tape", kT8, 8)) (h9 : P 9 ("RingingChamber$Touch", kT9, 16)) (h10 : P 10 ("RingingChamber$Treble", kT10, 6)) (h11 : P 11 ("RingingChamber", kT11, 11)) (h12 : P 12 ("RingingChamberModel", kT12, 59)) : ∀ (t : Nat) (r : vw_C), kCL[t]? = some r → P t r := by
  intro t r h
  match t, h with
  | 0, h => cases h; exact h0
  | 1, h => cases h; exact h1
  | 2, h => cases h; exact h2
  | 3, h => cases h; exact h3
  | 4, h => cases h; exact h4
  | 5, h => cases h; exact h5
  | 6, h => cases h; exact h6
  | 7, h => cases h; exact h7
  | 8, h => cases h; exact h8
  | 9, h => cases h; exact h9
  | 10, h => cases h; exact h10
  | 11, h => cases h; exact h11
  | 12, h => cases h; exact h12
  | n + 13, h => simp [kCL] at h
theorem k_in : ∀ (t : Nat) (r : vw_C), kCL[t]? = some r → ∀ w ∈ u_ws r.1 r.2.1 r.2.2, w ∈ GT := k_cases kW0 kW1 kW2 kW3 kW4 kW5 kW6 kW7 kW8 kW9 kW10 kW11 kW12
theorem k_ty : ∀ (t : Nat) (r : vw_C), kCL[t]? = some r → ∀ k, k < r.2.2 → parseFieldDescriptor (r.2.1 k).2.2.1 = some (kTY t k) := k_cases (by decide +kernel) (by decide +kernel) (by decide +kernel) (by decide +kernel) (by decide +kernel) (by decide +kernel) (by decide +kernel) (by decide +kernel) (by decide +kernel) (by decide +kernel) (by decide +kernel) (by decide +kernel) (by decide +kernel)
theorem k_nm : ∀ (t : Nat) (r : vw_C), kCL[t]? = some r → ∀ a, a < r.2.2 → ∀ b, b < r.2.2 → a ≠ b → (r.2.1 a).2.1 ≠ (r.2.1 b).2.1 := k_cases (by decide +kernel) (by decide +kernel) (by decide +kernel) (by decide +kernel) (by decide +kernel) (by decide +kernel) (by decide +kernel) (by decide +kernel) (by decide +kernel) (by decide +kernel) (by decide +kernel) (by decide +kernel) (by decide +kernel)
theorem k_n : ∀ (t : Nat) (r : vw_C), kCL[t]? = some r → r.2.2 = nfl t := k_cases (by decide +kernel) (by decide +kernel) (by decide +kernel) (by decide +kernel) (by decide +kernel) (by decide +kernel) (by decide +kernel) (by decide +kernel) (by decide +kernel) (by decide +kernel) (by decide +kernel) (by decide +kernel) (by decide +kernel)
theorem k_lt : ∀ (t : Nat) (r : vw_C), kCL[t]? = some r → t < 13 := k_cases (by decide) (by decide) (by decide) (by decide) (by decide) (by decide) (by decide) (by decide) (by decide) (by decide) (by decide) (by decide) (by decide)
theorem k_inst : ∀ (t : Nat) (r : vw_C), kCL[t]? = some r → Cond.instantiable r.1 r.2.2 ∈ GT ∧ Cond.initialized r.1 ∈ GT := k_cases ⟨gt_mem (List.contains_iff_mem.mp (by decide +kernel)) (by decide +kernel), gt_mem (List.contains_iff_mem.mp (by decide +kernel)) (by decide +kernel)⟩ ⟨gt_mem (List.contains_iff_mem.mp (by decide +kernel)) (by decide +kernel), gt_mem (List.contains_iff_mem.mp (by decide +kernel)) (by decide +kernel)⟩ ⟨gt_mem (List.contains_iff_mem.mp (by decide +kernel)) (by decide +kernel), gt_mem (List.contains_iff_mem.mp (by decide +kernel)) (by decide +kernel)⟩ ⟨gt_mem (List.contains_iff_mem.mp (by decide +kernel)) (by decide +kernel), gt_mem (List.contains_iff_mem.mp (by decide +kernel)) (by decide +kernel)⟩ ⟨gt_mem (List.contains_iff_mem.mp (by decide +kernel)) (by decide +kernel), gt_mem (List.contains_iff_mem.mp (by decide +kernel)) (by decide +kernel)⟩ ⟨gt_mem (List.contains_iff_mem.mp (by decide +kernel)) (by decide +kernel), gt_mem (List.contains_iff_mem.mp (by decide +kernel)) (by decide +kernel)⟩ ⟨gt_mem (List.contains_iff_mem.mp (by decide +kernel)) (by decide +kernel), gt_mem (List.contains_iff_mem.mp (by decide +kernel)) (by decide +kernel)⟩ ⟨gt_mem (List.contains_iff_mem.mp (by decide +kernel)) (by decide +kernel), gt_mem (List.contains_iff_mem.mp (by decide +kernel)) (by decide +kernel)⟩ ⟨gt_mem (List.contains_iff_mem.mp (by decide +kernel)) (by decide +kernel), gt_mem (List.contains_iff_mem.mp (by decide +kernel)) (by decide +kernel)⟩ ⟨gt_mem (List.contains_iff_mem.mp (by decide +kernel)) (by decide +kernel), gt_mem (List.contains_iff_mem.mp (by decide +kernel)) (by decide +kernel)⟩ ⟨gt_mem (List.contains_iff_mem.mp (by decide +kernel)) (by decide +kernel), gt_mem (List.contains_iff_mem.mp (by decide +kernel)) (by decide +kernel)⟩ ⟨gt_mem (List.contains_iff_mem.mp (by decide +kernel)) (by decide +kernel), gt_mem (List.contains_iff_mem.mp (by decide +kernel)) (by decide +kernel)⟩ ⟨gt_mem (List.contains_iff_mem.mp (by decide +kernel)) (by decide +kernel), gt_mem (List.contains_iff_mem.mp (by decide +kernel)) (by decide +kernel)⟩
theorem k_at {t : Nat} (h : t < 13) : ∃ r, kCL[t]? = some r := ⟨kCL[t]'(by simpa [kCL] using h), List.getElem?_eq_getElem _⟩
