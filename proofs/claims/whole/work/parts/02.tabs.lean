-- printed by wip/whole/gen/tabs.py: the tables of the pure machine
def pv_cn : List String := ["WornNames$Deeds", "WornNames$Folk", "WornNames$Row", "WornNames$Search", "WornNames$Town", "WornNames", "WornNamesModel", "WornNames$Name", "java/lang/Integer", "WornNamesLaw"]
def pv_T0 : u_T := fun k => match k with
  | 0 => ("WornNames$Deeds", "doers", "[I", true)
  | 1 => ("WornNames$Deeds", "others", "[I", true)
  | 2 => ("WornNames$Deeds", "letters", "[I", true)
  | 3 => ("WornNames$Deeds", "terms", "[I", true)
  | 4 => ("WornNames$Deeds", "size", "I", false)
  | _ => ("WornNames$Deeds", "there", "Z", false)
def pv_y0 : Nat → FieldType := fun k => match k with
  | 0 => .array .int
  | 1 => .array .int
  | 2 => .array .int
  | 3 => .array .int
  | 4 => .int
  | _ => .boolean
def pv_T1 : u_T := fun k => match k with
  | 0 => ("WornNames$Folk", "kinds", "[I", true)
  | 1 => ("WornNames$Folk", "names", "[I", true)
  | 2 => ("WornNames$Folk", "dues", "[I", true)
  | _ => ("WornNames$Folk", "size", "I", false)
def pv_y1 : Nat → FieldType := fun k => match k with
  | 0 => .array .int
  | 1 => .array .int
  | 2 => .array .int
  | _ => .int
def pv_T2 : u_T := fun k => match k with
  | 0 => ("WornNames$Row", "places", "[I", true)
  | 1 => ("WornNames$Row", "there", "Z", false)
  | _ => ("WornNames$Row", "size", "I", false)
def pv_y2 : Nat → FieldType := fun k => match k with
  | 0 => .array .int
  | 1 => .boolean
  | _ => .int
def pv_T3 : u_T := fun k => match k with
  | 0 => ("WornNames$Search", "levels", "[LWornNames$Folk;", true)
  | 1 => ("WornNames$Search", "trial", "[I", true)
  | 2 => ("WornNames$Search", "found", "[I", true)
  | 3 => ("WornNames$Search", "calledAt", "[I", true)
  | 4 => ("WornNames$Search", "way", "I", false)
  | 5 => ("WornNames$Search", "mistakes", "I", false)
  | 6 => ("WornNames$Search", "fewest", "I", false)
  | 7 => ("WornNames$Search", "heldRows", "I", false)
  | _ => ("WornNames$Search", "firstHeld", "I", false)
def pv_y3 : Nat → FieldType := fun k => match k with
  | 0 => .array (.object "WornNames$Folk")
  | 1 => .array .int
  | 2 => .array .int
  | 3 => .array .int
  | 4 => .int
  | 5 => .int
  | 6 => .int
  | 7 => .int
  | _ => .int
def pv_T4 : u_T := fun k => match k with
  | 0 => ("WornNames$Town", "founders", "LWornNames$Folk;", true)
  | 1 => ("WornNames$Town", "now", "LWornNames$Folk;", true)
  | 2 => ("WornNames$Town", "came", "[I", true)
  | 3 => ("WornNames$Town", "mistaken", "[I", true)
  | 4 => ("WornNames$Town", "called", "[I", true)
  | 5 => ("WornNames$Town", "deeds", "LWornNames$Deeds;", true)
  | 6 => ("WornNames$Town", "kept", "[LWornNames$Deeds;", true)
  | _ => ("WornNames$Town", "paid", "I", false)
def pv_y4 : Nat → FieldType := fun k => match k with
  | 0 => .object "WornNames$Folk"
  | 1 => .object "WornNames$Folk"
  | 2 => .array .int
  | 3 => .array .int
  | 4 => .array .int
  | 5 => .object "WornNames$Deeds"
  | 6 => .array (.object "WornNames$Deeds")
  | _ => .int
def pv_T5 : u_T := fun k => match k with
  | 0 => ("WornNames", "rows", "[LWornNames$Row;", true)
  | 1 => ("WornNames", "texts", "[LWornNames$Row;", true)
  | 2 => ("WornNames", "town", "LWornNames$Town;", true)
  | 3 => ("WornNames", "reading", "LWornNames$Folk;", true)
  | 4 => ("WornNames", "search", "LWornNames$Search;", true)
  | 5 => ("WornNames", "found", "[I", true)
  | 6 => ("WornNames", "way", "I", false)
  | 7 => ("WornNames", "vowelPrice", "I", false)
  | 8 => ("WornNames", "told", "I", false)
  | _ => ("WornNames", "latest", "I", false)
def pv_y5 : Nat → FieldType := fun k => match k with
  | 0 => .array (.object "WornNames$Row")
  | 1 => .array (.object "WornNames$Row")
  | 2 => .object "WornNames$Town"
  | 3 => .object "WornNames$Folk"
  | 4 => .object "WornNames$Search"
  | 5 => .array .int
  | 6 => .int
  | 7 => .int
  | 8 => .int
  | _ => .int
def pv_T6 : u_T := fun k => match k with
  | 0 => ("WornNamesModel", "finding", "I", false)
  | 1 => ("WornNamesModel", "findings", "[I", true)
  | 2 => ("WornNamesModel", "asked", "I", false)
  | 3 => ("WornNamesModel", "sizes", "[I", true)
  | 4 => ("WornNamesModel", "rows", "[I", true)
  | 5 => ("WornNamesModel", "moving", "[I", true)
  | 6 => ("WornNamesModel", "lengths", "[I", true)
  | 7 => ("WornNamesModel", "texts", "[I", true)
  | 8 => ("WornNamesModel", "many", "I", false)
  | 9 => ("WornNamesModel", "way", "I", false)
  | 10 => ("WornNamesModel", "price", "I", false)
  | 11 => ("WornNamesModel", "kinds", "[I", true)
  | 12 => ("WornNamesModel", "readAt", "I", false)
  | 13 => ("WornNamesModel", "readMany", "I", false)
  | 14 => ("WornNamesModel", "readKinds", "[I", true)
  | 15 => ("WornNamesModel", "readLens", "[I", true)
  | 16 => ("WornNamesModel", "readNames", "[I", true)
  | 17 => ("WornNamesModel", "now", "[I", true)
  | 18 => ("WornNamesModel", "done", "I", false)
  | 19 => ("WornNamesModel", "notes", "[I", true)
  | 20 => ("WornNamesModel", "keptMany", "[I", true)
  | 21 => ("WornNamesModel", "keptNow", "[I", true)
  | 22 => ("WornNamesModel", "keptNotes", "[I", true)
  | 23 => ("WornNamesModel", "aside", "[I", true)
  | 24 => ("WornNamesModel", "noneMany", "I", false)
  | 25 => ("WornNamesModel", "one", "[I", true)
  | 26 => ("WornNamesModel", "oneLen", "I", false)
  | 27 => ("WornNamesModel", "depth", "[I", true)
  | 28 => ("WornNamesModel", "laid", "[I", true)
  | 29 => ("WornNamesModel", "bestLaid", "[I", true)
  | 30 => ("WornNamesModel", "bestMissed", "I", false)
  | 31 => ("WornNamesModel", "missedAhead", "I", false)
  | 32 => ("WornNamesModel", "heldMany", "I", false)
  | 33 => ("WornNamesModel", "heldFirst", "I", false)
  | 34 => ("WornNamesModel", "heldSets", "[I", true)
  | _ => ("WornNamesModel", "h0", "J", false)
def pv_y6 : Nat → FieldType := fun k => match k with
  | 0 => .int
  | 1 => .array .int
  | 2 => .int
  | 3 => .array .int
  | 4 => .array .int
  | 5 => .array .int
  | 6 => .array .int
  | 7 => .array .int
  | 8 => .int
  | 9 => .int
  | 10 => .int
  | 11 => .array .int
  | 12 => .int
  | 13 => .int
  | 14 => .array .int
  | 15 => .array .int
  | 16 => .array .int
  | 17 => .array .int
  | 18 => .int
  | 19 => .array .int
  | 20 => .array .int
  | 21 => .array .int
  | 22 => .array .int
  | 23 => .array .int
  | 24 => .int
  | 25 => .array .int
  | 26 => .int
  | 27 => .array .int
  | 28 => .array .int
  | 29 => .array .int
  | 30 => .int
  | 31 => .int
  | 32 => .int
  | 33 => .int
  | 34 => .array .int
  | _ => .long
def pv_cl : List vw_C := [("WornNames$Deeds", pv_T0, 6), ("WornNames$Folk", pv_T1, 4), ("WornNames$Row", pv_T2, 3), ("WornNames$Search", pv_T3, 9), ("WornNames$Town", pv_T4, 8), ("WornNames", pv_T5, 10), ("WornNamesModel", pv_T6, 36)]
/-- type of field k of class ci -/
def pv_ft : Nat → Nat → FieldType := fun ci => match ci with
  | 0 => pv_y0
  | 1 => pv_y1
  | 2 => pv_y2
  | 3 => pv_y3
  | 4 => pv_y4
  | 5 => pv_y5
  | _ => pv_y6
/-- what a new object holds -/
def pv_df : List (List Value) := [[.null, .null, .null, .null, .int 0, .int 0], [.null, .null, .null, .int 0], [.null, .int 0, .int 0], [.null, .null, .null, .null, .int 0, .int 0, .int 0, .int 0, .int 0], [.null, .null, .null, .null, .null, .null, .null, .int 0], [.null, .null, .null, .null, .null, .null, .int 0, .int 0, .int 0, .int 0], [.int 0, .null, .int 0, .null, .null, .null, .null, .null, .int 0, .int 0, .int 0, .null, .int 0, .int 0, .null, .null, .null, .null, .int 0, .null, .null, .null, .null, .null, .int 0, .null, .int 0, .null, .null, .null, .int 0, .int 0, .int 0, .int 0, .null, .long 0]]
/-- a method: name, bytes, locals, what it returns, number of its own class, cells and slots that it may make -/
abbrev pv_I : Type := MethodName × ByteArray × Nat × Option FieldType × Nat × Nat × Nat
def pv_t0 : List pv_I := [(⟨"WornNames$Deeds", "<init>", "()V"⟩, prog_2_method_1_code, 1, none, 0, 4, 240),
  (⟨"WornNames$Deeds", "hasRoomFor", "(I)Z"⟩, prog_2_method_2_code, 2, (some .boolean), 0, 0, 0),
  (⟨"WornNames$Deeds", "add", "(IIII)V"⟩, prog_2_method_3_code, 5, none, 0, 0, 0),
  (⟨"WornNames$Deeds", "take", "(LWornNames$Deeds;)V"⟩, prog_2_method_4_code, 2, none, 0, 0, 0),
  (⟨"WornNames$Folk", "<init>", "()V"⟩, prog_3_method_1_code, 1, none, 1, 3, 21),
  (⟨"WornNames$Folk", "take", "(LWornNames$Folk;)V"⟩, prog_3_method_2_code, 2, none, 1, 0, 0),
  (⟨"WornNames$Folk", "read", "(LWornNames$Row;)I"⟩, prog_3_method_3_code, 6, (some .int), 1, 0, 0),
  (⟨"WornNames$Folk", "add", "(I)Z"⟩, prog_3_method_4_code, 2, (some .boolean), 1, 0, 0),
  (⟨"WornNames$Folk", "is", "(II)Z"⟩, prog_3_method_5_code, 3, (some .boolean), 1, 0, 0),
  (⟨"WornNames$Folk", "lives", "(I)Z"⟩, prog_3_method_6_code, 2, (some .boolean), 1, 0, 0),
  (⟨"WornNames$Folk", "canCall", "(II)Z"⟩, prog_3_method_7_code, 3, (some .boolean), 1, 0, 0),
  (⟨"WornNames$Folk", "canGrow", "(II)Z"⟩, prog_3_method_8_code, 3, (some .boolean), 1, 0, 0),
  (⟨"WornNames$Folk", "comers", "(II)I"⟩, prog_3_method_9_code, 4, (some .int), 1, 0, 0),
  (⟨"WornNames$Folk", "named", "(I)I"⟩, prog_3_method_10_code, 4, (some .int), 1, 0, 0),
  (⟨"WornNames$Folk", "beginning", "(I)I"⟩, prog_3_method_11_code, 5, (some .int), 1, 0, 0),
  (⟨"WornNames$Folk", "wearBy", "(III)V"⟩, prog_3_method_12_code, 4, none, 1, 0, 0)]
def pv_t1 : List pv_I := [(⟨"WornNames$Folk", "wear", "(II)V"⟩, prog_3_method_13_code, 5, none, 1, 0, 0),
  (⟨"WornNames$Folk", "wearAll", "(II)V"⟩, prog_3_method_14_code, 5, none, 1, 0, 0),
  (⟨"WornNames$Folk", "timesTill", "(III)I"⟩, prog_3_method_15_code, 7, (some .int), 1, 0, 0),
  (⟨"WornNames$Folk", "callsTillTaken", "(III)I"⟩, prog_3_method_16_code, 6, (some .int), 1, 0, 0),
  (⟨"WornNames$Folk", "living", "()I"⟩, prog_3_method_17_code, 3, (some .int), 1, 0, 0),
  (⟨"WornNames$Folk", "nameless", "()I"⟩, prog_3_method_18_code, 1, (some .int), 1, 0, 0),
  (⟨"WornNames$Folk", "unlikeNames", "()I"⟩, prog_3_method_19_code, 4, (some .int), 1, 0, 0),
  (⟨"WornNames$Folk", "letters", "()I"⟩, prog_3_method_20_code, 3, (some .int), 1, 0, 0),
  (⟨"WornNames$Folk", "mothers", "()I"⟩, prog_3_method_21_code, 3, (some .int), 1, 0, 0),
  (⟨"WornNames$Row", "<init>", "(I)V"⟩, prog_5_method_1_code, 2, none, 2, 1, 80),
  (⟨"WornNames$Row", "renew", "(II)V"⟩, prog_5_method_2_code, 4, none, 2, 0, 0),
  (⟨"WornNames$Row", "has", "(I)Z"⟩, prog_5_method_3_code, 2, (some .boolean), 2, 0, 0),
  (⟨"WornNames$Row", "hasRun", "(II)Z"⟩, prog_5_method_4_code, 3, (some .boolean), 2, 0, 0),
  (⟨"WornNames$Row", "sum", "()J"⟩, prog_5_method_5_code, 4, (some .long), 2, 0, 0),
  (⟨"WornNames$Row", "spelling", "()I"⟩, prog_5_method_6_code, 3, (some .int), 2, 0, 0),
  (⟨"WornNames$Row", "mixedInto", "(J)J"⟩, prog_5_method_7_code, 6, (some .long), 2, 0, 0)]
def pv_t2 : List pv_I := [(⟨"WornNames$Search", "<init>", "()V"⟩, prog_6_method_1_code, 2, none, 3, 32, 200),
  (⟨"WornNames$Search", "from", "(LWornNames$Folk;I)LWornNames$Folk;"⟩, prog_6_method_2_code, 4, (some (.object "WornNames$Folk")), 3, 0, 0),
  (⟨"WornNames$Search", "judgeCalls", "(LWornNames$Row;)I"⟩, prog_6_method_3_code, 6, (some .int), 3, 0, 0),
  (⟨"WornNames$Search", "goOn", "(III)V"⟩, prog_6_method_4_code, 4, none, 3, 0, 0),
  (⟨"WornNames$Search", "takeTrial", "(II)V"⟩, prog_6_method_5_code, 3, none, 3, 0, 0),
  (⟨"WornNames$Search", "seekOrder", "(LWornNames$Row;III)V"⟩, prog_6_method_6_code, 10, none, 3, 0, 0),
  (⟨"WornNames$Search", "seekCallers", "(LWornNames$Row;II)V"⟩, prog_6_method_7_code, 7, none, 3, 0, 0),
  (⟨"WornNames$Search", "seekCalled", "(ILWornNames$Row;I)V"⟩, prog_6_method_8_code, 6, none, 3, 0, 0),
  (⟨"WornNames$Search", "holdTrial", "(I)V"⟩, prog_6_method_9_code, 4, none, 3, 0, 0),
  (⟨"WornNames$Town", "<init>", "()V"⟩, prog_7_method_1_code, 2, none, 4, 32, 1060),
  (⟨"WornNames$Town", "found", "(LWornNames$Folk;)V"⟩, prog_7_method_2_code, 3, none, 4, 0, 0),
  (⟨"WornNames$Town", "startOver", "()V"⟩, prog_7_method_3_code, 2, none, 4, 0, 0),
  (⟨"WornNames$Town", "goBack", "(I)V"⟩, prog_7_method_4_code, 3, none, 4, 0, 0),
  (⟨"WornNames$Town", "callOut", "(III)I"⟩, prog_7_method_5_code, 4, (some .int), 4, 0, 0),
  (⟨"WornNames$Town", "mendName", "(IIII)V"⟩, prog_7_method_6_code, 5, none, 4, 0, 0),
  (⟨"WornNames$Town", "carryOutCall", "(III)I"⟩, prog_7_method_7_code, 7, (some .int), 4, 0, 0)]
def pv_t3 : List pv_I := [(⟨"WornNames$Town", "carryOutMending", "(III)V"⟩, prog_7_method_8_code, 4, none, 4, 0, 0),
  (⟨"WornNames$Town", "fact", "(II)I"⟩, prog_7_method_9_code, 3, (some .int), 4, 0, 0),
  (⟨"WornNames$Town", "sum", "([I)I"⟩, prog_7_method_10_code, 4, (some .int), 4, 0, 0),
  (⟨"WornNames$Town", "keptTowns", "()I"⟩, prog_7_method_11_code, 3, (some .int), 4, 0, 0),
  (⟨"WornNames$Town", "mixedInto", "(J)J"⟩, prog_7_method_12_code, 7, (some .long), 4, 0, 0),
  (⟨"WornNames", "<init>", "()V"⟩, prog_1_method_1_code, 2, none, 5, 93, 2200),
  (⟨"WornNames", "row", "(II)I"⟩, prog_1_method_2_code, 3, (some .int), 5, 0, 0),
  (⟨"WornNames", "lay", "(III)I"⟩, prog_1_method_3_code, 5, (some .int), 5, 0, 0),
  (⟨"WornNames", "at", "(II)I"⟩, prog_1_method_4_code, 4, (some .int), 5, 0, 0),
  (⟨"WornNames", "tear", "(I)I"⟩, prog_1_method_5_code, 2, (some .int), 5, 0, 0),
  (⟨"WornNames", "copy", "(IIIII)I"⟩, prog_1_method_6_code, 6, (some .int), 5, 0, 0),
  (⟨"WornNames", "mean", "(I)I"⟩, prog_1_method_7_code, 2, (some .int), 5, 0, 0),
  (⟨"WornNames", "text", "(II)I"⟩, prog_1_method_8_code, 3, (some .int), 5, 0, 0),
  (⟨"WornNames", "put", "(III)I"⟩, prog_1_method_9_code, 6, (some .int), 5, 0, 0),
  (⟨"WornNames", "fault", "(I)I"⟩, prog_1_method_10_code, 2, (some .int), 5, 0, 0),
  (⟨"WornNames", "town", "(I)I"⟩, prog_1_method_11_code, 2, (some .int), 5, 0, 0)]
def pv_t4 : List pv_I := [(⟨"WornNames", "person", "(II)I"⟩, prog_1_method_12_code, 3, (some .int), 5, 0, 0),
  (⟨"WornNames", "letter", "(II)I"⟩, prog_1_method_13_code, 4, (some .int), 5, 0, 0),
  (⟨"WornNames", "mark", "(II)I"⟩, prog_1_method_14_code, 3, (some .int), 5, 0, 0),
  (⟨"WornNames", "way", "(I)I"⟩, prog_1_method_15_code, 3, (some .int), 5, 0, 0),
  (⟨"WornNames", "price", "(I)I"⟩, prog_1_method_16_code, 3, (some .int), 5, 0, 0),
  (⟨"WornNames", "call", "(II)I"⟩, prog_1_method_17_code, 3, (some .int), 5, 0, 0),
  (⟨"WornNames", "mend", "(III)I"⟩, prog_1_method_18_code, 6, (some .int), 5, 0, 0),
  (⟨"WornNames", "undo", "(I)I"⟩, prog_1_method_19_code, 3, (some .int), 5, 0, 0),
  (⟨"WornNames", "comes", "(II)I"⟩, prog_1_method_20_code, 4, (some .int), 5, 0, 0),
  (⟨"WornNames", "alike", "(I)I"⟩, prog_1_method_21_code, 2, (some .int), 5, 0, 0),
  (⟨"WornNames", "keep", "(I)I"⟩, prog_1_method_22_code, 2, (some .int), 5, 0, 0),
  (⟨"WornNames", "on", "(I)I"⟩, prog_1_method_23_code, 2, (some .int), 5, 0, 0),
  (⟨"WornNames", "lasts", "(I)I"⟩, prog_1_method_24_code, 2, (some .int), 5, 0, 0),
  (⟨"WornNames", "becomes", "(II)I"⟩, prog_1_method_25_code, 3, (some .int), 5, 0, 0),
  (⟨"WornNames", "unlike", "(I)I"⟩, prog_1_method_26_code, 3, (some .int), 5, 0, 0),
  (⟨"WornNames", "first", "()I"⟩, prog_1_method_27_code, 3, (some .int), 5, 0, 0)]
def pv_t5 : List pv_I := [(⟨"WornNames", "name", "(I)I"⟩, prog_1_method_28_code, 3, (some .int), 5, 0, 0),
  (⟨"WornNames", "best", "(I)I"⟩, prog_1_method_29_code, 6, (some .int), 5, 0, 0),
  (⟨"WornNames", "judge", "(I)I"⟩, prog_1_method_30_code, 4, (some .int), 5, 0, 0),
  (⟨"WornNames", "order", "(II)I"⟩, prog_1_method_31_code, 4, (some .int), 5, 0, 0),
  (⟨"WornNames", "callers", "(II)I"⟩, prog_1_method_32_code, 4, (some .int), 5, 0, 0),
  (⟨"WornNames", "spare", "(I)I"⟩, prog_1_method_33_code, 5, (some .int), 5, 0, 0),
  (⟨"WornNames", "whose", "(I)I"⟩, prog_1_method_34_code, 7, (some .int), 5, 0, 0),
  (⟨"WornNames", "held", "(II)I"⟩, prog_1_method_35_code, 4, (some .int), 5, 0, 0),
  (⟨"WornNames", "could", "(III)I"⟩, prog_1_method_36_code, 5, (some .int), 5, 0, 0),
  (⟨"WornNames", "crowd", "(I)I"⟩, prog_1_method_37_code, 4, (some .int), 5, 0, 0),
  (⟨"WornNames", "shortest", "(I)I"⟩, prog_1_method_38_code, 4, (some .int), 5, 0, 0),
  (⟨"WornNames", "days", "(II)I"⟩, prog_1_method_39_code, 9, (some .int), 5, 0, 0),
  (⟨"WornNames", "asked", "()I"⟩, prog_1_method_40_code, 1, (some .int), 5, 0, 0),
  (⟨"WornNames", "upper", "()J"⟩, prog_1_method_41_code, 2, (some .long), 5, 0, 0),
  (⟨"WornNames", "lower", "()J"⟩, prog_1_method_42_code, 2, (some .long), 5, 0, 0),
  (⟨"WornNames", "count", "(I)I"⟩, prog_1_method_43_code, 2, (some .int), 5, 0, 0)]
def pv_t6 : List pv_I := [(⟨"WornNames", "finding", "()I"⟩, prog_1_method_44_code, 1, (some .int), 5, 0, 0),
  (⟨"WornNames", "findings", "(I)I"⟩, prog_1_method_45_code, 2, (some .int), 5, 0, 0),
  (⟨"WornNames", "digest", "()J"⟩, prog_1_method_46_code, 4, (some .long), 5, 0, 0),
  (⟨"WornNames", "isRow", "(I)Z"⟩, prog_1_method_47_code, 1, (some .boolean), 5, 0, 0),
  (⟨"WornNames", "isText", "(I)Z"⟩, prog_1_method_48_code, 1, (some .boolean), 5, 0, 0),
  (⟨"WornNames", "isKeepingPlace", "(I)Z"⟩, prog_1_method_49_code, 1, (some .boolean), 5, 0, 0),
  (⟨"WornNames", "isPerson", "(I)Z"⟩, prog_1_method_50_code, 2, (some .boolean), 5, 0, 0),
  (⟨"WornNames", "isPair", "(II)Z"⟩, prog_1_method_51_code, 3, (some .boolean), 5, 0, 0),
  (⟨"WornNames", "find", "(I)I"⟩, prog_1_method_52_code, 2, (some .int), 5, 0, 0),
  (⟨"WornNames", "placeFinding", "(LWornNames$Row;I)I"⟩, prog_1_method_53_code, 2, (some .int), 5, 0, 0),
  (⟨"WornNames", "nameFinding", "(LWornNames$Row;)I"⟩, prog_1_method_54_code, 2, (some .int), 5, 0, 0),
  (⟨"WornNames", "numbersFinding", "(LWornNames$Row;II)I"⟩, prog_1_method_55_code, 4, (some .int), 5, 0, 0),
  (⟨"WornNames", "callsFinding", "(LWornNames$Row;I)I"⟩, prog_1_method_56_code, 5, (some .int), 5, 0, 0),
  (⟨"WornNames", "fewestInto", "(II)I"⟩, prog_1_method_57_code, 3, (some .int), 5, 0, 0),
  (⟨"WornNames", "goesWell", "(LWornNames$Row;II)Z"⟩, prog_1_method_58_code, 6, (some .boolean), 5, 0, 0),
  (⟨"WornNames", "thereAmong", "([LWornNames$Row;)I"⟩, prog_1_method_59_code, 3, (some .int), 5, 0, 0)]
def pv_t7 : List pv_I := [(⟨"WornNames", "commonPart", "(II)I"⟩, prog_1_method_60_code, 3, (some .int), 5, 0, 0),
  (⟨"WornNamesModel", "<init>", "()V"⟩, prog_9_method_1_code, 2, none, 6, 21, 21000),
  (⟨"WornNamesModel", "in", "(III)Z"⟩, prog_9_method_3_code, 3, (some .boolean), 6, 0, 0),
  (⟨"WornNamesModel", "meet", "(I)I"⟩, prog_9_method_4_code, 2, (some .int), 6, 0, 0),
  (⟨"WornNamesModel", "ask", "(II)I"⟩, prog_9_method_5_code, 3, (some .int), 6, 0, 0),
  (⟨"WornNamesModel", "has", "(II)Z"⟩, prog_9_method_6_code, 2, (some .boolean), 6, 0, 0),
  (⟨"WornNamesModel", "sizeOf", "(I)I"⟩, prog_9_method_7_code, 3, (some .int), 6, 0, 0),
  (⟨"WornNamesModel", "isRow", "(I)Z"⟩, prog_9_method_8_code, 1, (some .boolean), 6, 0, 0),
  (⟨"WornNamesModel", "isText", "(I)Z"⟩, prog_9_method_9_code, 1, (some .boolean), 6, 0, 0),
  (⟨"WornNamesModel", "askedRow", "(I)I"⟩, prog_9_method_10_code, 2, (some .int), 6, 0, 0),
  (⟨"WornNamesModel", "askedText", "(I)I"⟩, prog_9_method_11_code, 2, (some .int), 6, 0, 0),
  (⟨"WornNamesModel", "rowAt", "(II)I"⟩, prog_9_method_12_code, 3, (some .int), 6, 0, 0),
  (⟨"WornNamesModel", "setRow", "(III)V"⟩, prog_9_method_13_code, 4, none, 6, 0, 0),
  (⟨"WornNamesModel", "row", "(II)I"⟩, prog_9_method_14_code, 4, (some .int), 6, 0, 0),
  (⟨"WornNamesModel", "at", "(II)I"⟩, prog_9_method_15_code, 4, (some .int), 6, 0, 0),
  (⟨"WornNamesModel", "lay", "(III)I"⟩, prog_9_method_16_code, 5, (some .int), 6, 0, 0)]
def pv_t8 : List pv_I := [(⟨"WornNamesModel", "tear", "(I)I"⟩, prog_9_method_17_code, 3, (some .int), 6, 0, 0),
  (⟨"WornNamesModel", "copy", "(IIIII)I"⟩, prog_9_method_18_code, 7, (some .int), 6, 0, 0),
  (⟨"WornNamesModel", "mean", "(I)I"⟩, prog_9_method_19_code, 6, (some .int), 6, 0, 0),
  (⟨"WornNamesModel", "text", "(II)I"⟩, prog_9_method_20_code, 4, (some .int), 6, 0, 0),
  (⟨"WornNamesModel", "put", "(III)I"⟩, prog_9_method_21_code, 6, (some .int), 6, 0, 0),
  (⟨"WornNamesModel", "here", "(I)I"⟩, prog_9_method_22_code, 2, (some .int), 6, 0, 0),
  (⟨"WornNamesModel", "isLetter", "(I)Z"⟩, prog_9_method_23_code, 1, (some .boolean), 6, 0, 0),
  (⟨"WornNamesModel", "isVowel", "(I)Z"⟩, prog_9_method_24_code, 1, (some .boolean), 6, 0, 0),
  (⟨"WornNamesModel", "readsPerson", "(I)Z"⟩, prog_9_method_25_code, 4, (some .boolean), 6, 0, 0),
  (⟨"WornNamesModel", "goesOn", "(I)I"⟩, prog_9_method_26_code, 2, (some .int), 6, 0, 0),
  (⟨"WornNamesModel", "fault", "(I)I"⟩, prog_9_method_27_code, 3, (some .int), 6, 0, 0),
  (⟨"WornNamesModel", "town", "(I)I"⟩, prog_9_method_28_code, 5, (some .int), 6, 0, 0),
  (⟨"WornNamesModel", "isOne", "(I)Z"⟩, prog_9_method_29_code, 2, (some .boolean), 6, 0, 0),
  (⟨"WornNamesModel", "isA", "(II)Z"⟩, prog_9_method_30_code, 3, (some .boolean), 6, 0, 0),
  (⟨"WornNamesModel", "lenOf", "(I)I"⟩, prog_9_method_31_code, 2, (some .int), 6, 0, 0),
  (⟨"WornNamesModel", "letterOf", "(II)I"⟩, prog_9_method_32_code, 3, (some .int), 6, 0, 0)]
def pv_t9 : List pv_I := [(⟨"WornNamesModel", "isLike", "(II)Z"⟩, prog_9_method_33_code, 5, (some .boolean), 6, 0, 0),
  (⟨"WornNamesModel", "likes", "(I)I"⟩, prog_9_method_34_code, 4, (some .int), 6, 0, 0),
  (⟨"WornNamesModel", "personOf", "(II)I"⟩, prog_9_method_35_code, 3, (some .int), 6, 0, 0),
  (⟨"WornNamesModel", "person", "(II)I"⟩, prog_9_method_36_code, 3, (some .int), 6, 0, 0),
  (⟨"WornNamesModel", "letter", "(II)I"⟩, prog_9_method_37_code, 3, (some .int), 6, 0, 0),
  (⟨"WornNamesModel", "mark", "(II)I"⟩, prog_9_method_38_code, 3, (some .int), 6, 0, 0),
  (⟨"WornNamesModel", "way", "(I)I"⟩, prog_9_method_39_code, 3, (some .int), 6, 0, 0),
  (⟨"WornNamesModel", "price", "(I)I"⟩, prog_9_method_40_code, 3, (some .int), 6, 0, 0),
  (⟨"WornNamesModel", "mayCall", "(II)Z"⟩, prog_9_method_41_code, 3, (some .boolean), 6, 0, 0),
  (⟨"WornNamesModel", "comers", "(II)I"⟩, prog_9_method_42_code, 6, (some .int), 6, 0, 0),
  (⟨"WornNamesModel", "wornAt", "([III)I"⟩, prog_9_method_43_code, 5, (some .int), 6, 0, 0),
  (⟨"WornNamesModel", "wear", "([III)I"⟩, prog_9_method_44_code, 6, (some .int), 6, 0, 0),
  (⟨"WornNamesModel", "comeOne", "(I)V"⟩, prog_9_method_45_code, 3, none, 6, 0, 0),
  (⟨"WornNamesModel", "doCall", "(II)I"⟩, prog_9_method_46_code, 5, (some .int), 6, 0, 0),
  (⟨"WornNamesModel", "note", "()V"⟩, prog_9_method_47_code, 2, none, 6, 0, 0),
  (⟨"WornNamesModel", "areTwo", "(II)Z"⟩, prog_9_method_48_code, 3, (some .boolean), 6, 0, 0)]
def pv_t10 : List pv_I := [(⟨"WornNamesModel", "call", "(II)I"⟩, prog_9_method_49_code, 3, (some .int), 6, 0, 0),
  (⟨"WornNamesModel", "mend", "(III)I"⟩, prog_9_method_50_code, 5, (some .int), 6, 0, 0),
  (⟨"WornNamesModel", "copies", "([II[II)V"⟩, prog_9_method_51_code, 5, none, 6, 0, 0),
  (⟨"WornNamesModel", "undo", "(I)I"⟩, prog_9_method_52_code, 3, (some .int), 6, 0, 0),
  (⟨"WornNamesModel", "comes", "(II)I"⟩, prog_9_method_53_code, 3, (some .int), 6, 0, 0),
  (⟨"WornNamesModel", "alike", "(I)I"⟩, prog_9_method_54_code, 2, (some .int), 6, 0, 0),
  (⟨"WornNamesModel", "keep", "(I)I"⟩, prog_9_method_55_code, 3, (some .int), 6, 0, 0),
  (⟨"WornNamesModel", "on", "(I)I"⟩, prog_9_method_56_code, 3, (some .int), 6, 0, 0),
  (⟨"WornNamesModel", "putAside", "()V"⟩, prog_9_method_57_code, 1, none, 6, 0, 0),
  (⟨"WornNamesModel", "comeBack", "()V"⟩, prog_9_method_58_code, 1, none, 6, 0, 0),
  (⟨"WornNamesModel", "lasts", "(I)I"⟩, prog_9_method_59_code, 3, (some .int), 6, 0, 0),
  (⟨"WornNamesModel", "becomes", "(II)I"⟩, prog_9_method_60_code, 5, (some .int), 6, 0, 0),
  (⟨"WornNamesModel", "comeAll", "()V"⟩, prog_9_method_61_code, 2, none, 6, 0, 0),
  (⟨"WornNamesModel", "unlikeNow", "()I"⟩, prog_9_method_62_code, 6, (some .int), 6, 0, 0),
  (⟨"WornNamesModel", "unlike", "(I)I"⟩, prog_9_method_63_code, 3, (some .int), 6, 0, 0),
  (⟨"WornNamesModel", "living", "()I"⟩, prog_9_method_64_code, 3, (some .int), 6, 0, 0)]
def pv_t11 : List pv_I := [(⟨"WornNamesModel", "first", "()I"⟩, prog_9_method_65_code, 4, (some .int), 6, 0, 0),
  (⟨"WornNamesModel", "haveOne", "(I)I"⟩, prog_9_method_66_code, 6, (some .int), 6, 0, 0),
  (⟨"WornNamesModel", "oneLasts", "(I)I"⟩, prog_9_method_67_code, 3, (some .int), 6, 0, 0),
  (⟨"WornNamesModel", "askedName", "(I)I"⟩, prog_9_method_68_code, 4, (some .int), 6, 0, 0),
  (⟨"WornNamesModel", "name", "(I)I"⟩, prog_9_method_69_code, 3, (some .int), 6, 0, 0),
  (⟨"WornNamesModel", "best", "(I)I"⟩, prog_9_method_70_code, 6, (some .int), 6, 0, 0),
  (⟨"WornNamesModel", "isCall", "(I)Z"⟩, prog_9_method_71_code, 2, (some .boolean), 6, 0, 0),
  (⟨"WornNamesModel", "askedCalls", "(II)I"⟩, prog_9_method_72_code, 5, (some .int), 6, 0, 0),
  (⟨"WornNamesModel", "missed", "()I"⟩, prog_9_method_73_code, 3, (some .int), 6, 0, 0),
  (⟨"WornNamesModel", "callOn", "(I)I"⟩, prog_9_method_74_code, 3, (some .int), 6, 0, 0),
  (⟨"WornNamesModel", "judge", "(I)I"⟩, prog_9_method_75_code, 6, (some .int), 6, 0, 0),
  (⟨"WornNamesModel", "meetLaid", "(I)V"⟩, prog_9_method_76_code, 4, none, 6, 0, 0),
  (⟨"WornNamesModel", "orderOn", "(III)V"⟩, prog_9_method_77_code, 6, none, 6, 0, 0),
  (⟨"WornNamesModel", "layBest", "(II)I"⟩, prog_9_method_78_code, 4, (some .int), 6, 0, 0),
  (⟨"WornNamesModel", "order", "(II)I"⟩, prog_9_method_79_code, 4, (some .int), 6, 0, 0),
  (⟨"WornNamesModel", "callersOn", "(II)V"⟩, prog_9_method_80_code, 4, none, 6, 0, 0)]
def pv_t12 : List pv_I := [(⟨"WornNamesModel", "callers", "(II)I"⟩, prog_9_method_81_code, 5, (some .int), 6, 0, 0),
  (⟨"WornNamesModel", "isSpared", "(III)Z"⟩, prog_9_method_82_code, 6, (some .boolean), 6, 0, 0),
  (⟨"WornNamesModel", "spare", "(I)I"⟩, prog_9_method_83_code, 5, (some .int), 6, 0, 0),
  (⟨"WornNamesModel", "whose", "(I)I"⟩, prog_9_method_84_code, 7, (some .int), 6, 0, 0),
  (⟨"WornNamesModel", "heldOn", "(IIII)V"⟩, prog_9_method_85_code, 6, none, 6, 0, 0),
  (⟨"WornNamesModel", "askedHeld", "(II)I"⟩, prog_9_method_86_code, 5, (some .int), 6, 0, 0),
  (⟨"WornNamesModel", "held", "(II)I"⟩, prog_9_method_87_code, 4, (some .int), 6, 0, 0),
  (⟨"WornNamesModel", "could", "(III)I"⟩, prog_9_method_88_code, 5, (some .int), 6, 0, 0),
  (⟨"WornNamesModel", "beginSo", "(II)I"⟩, prog_9_method_89_code, 7, (some .int), 6, 0, 0),
  (⟨"WornNamesModel", "crowd", "(I)I"⟩, prog_9_method_90_code, 3, (some .int), 6, 0, 0),
  (⟨"WornNamesModel", "shortest", "(I)I"⟩, prog_9_method_91_code, 3, (some .int), 6, 0, 0),
  (⟨"WornNamesModel", "days", "(II)I"⟩, prog_9_method_92_code, 9, (some .int), 6, 0, 0),
  (⟨"WornNamesModel", "asked", "()I"⟩, prog_9_method_93_code, 1, (some .int), 6, 0, 0),
  (⟨"WornNamesModel", "sumOf", "(I)I"⟩, prog_9_method_94_code, 4, (some .int), 6, 0, 0),
  (⟨"WornNamesModel", "divisor", "(II)I"⟩, prog_9_method_95_code, 5, (some .int), 6, 0, 0),
  (⟨"WornNamesModel", "upper", "()J"⟩, prog_9_method_96_code, 2, (some .long), 6, 0, 0)]
def pv_t13 : List pv_I := [(⟨"WornNamesModel", "lower", "()J"⟩, prog_9_method_97_code, 2, (some .long), 6, 0, 0),
  (⟨"WornNamesModel", "tells", "(I)I"⟩, prog_9_method_98_code, 4, (some .int), 6, 0, 0),
  (⟨"WornNamesModel", "count", "(I)I"⟩, prog_9_method_99_code, 2, (some .int), 6, 0, 0),
  (⟨"WornNamesModel", "finding", "()I"⟩, prog_9_method_100_code, 1, (some .int), 6, 0, 0),
  (⟨"WornNamesModel", "findings", "(I)I"⟩, prog_9_method_101_code, 2, (some .int), 6, 0, 0),
  (⟨"WornNamesModel", "mix", "(I)V"⟩, prog_9_method_102_code, 2, none, 6, 0, 0),
  (⟨"WornNamesModel", "mixTown", "()V"⟩, prog_9_method_103_code, 3, none, 6, 0, 0),
  (⟨"WornNamesModel", "digest", "()J"⟩, prog_9_method_104_code, 3, (some .long), 6, 0, 0),
  (⟨"WornNames$Name", "isLetter", "(I)Z"⟩, prog_4_method_2_code, 1, (some .boolean), 7, 0, 0),
  (⟨"WornNames$Name", "isVowel", "(I)Z"⟩, prog_4_method_3_code, 1, (some .boolean), 7, 0, 0),
  (⟨"WornNames$Name", "size", "(I)I"⟩, prog_4_method_4_code, 2, (some .int), 7, 0, 0),
  (⟨"WornNames$Name", "letterAt", "(II)I"⟩, prog_4_method_5_code, 2, (some .int), 7, 0, 0),
  (⟨"WornNames$Name", "start", "(II)I"⟩, prog_4_method_6_code, 3, (some .int), 7, 0, 0),
  (⟨"WornNames$Name", "with", "(II)I"⟩, prog_4_method_7_code, 2, (some .int), 7, 0, 0),
  (⟨"WornNames$Name", "without", "(II)I"⟩, prog_4_method_8_code, 4, (some .int), 7, 0, 0),
  (⟨"WornNames$Name", "worn", "(II)I"⟩, prog_4_method_9_code, 4, (some .int), 7, 0, 0)]
def pv_t14 : List pv_I := [(⟨"java/lang/Integer", "bitCount", "(I)I"⟩, prog_10_method_49_code, 1, (some .int), 8, 0, 0),
  (⟨"WornNamesLaw", "law", "([I)Z"⟩, code, 4, (some .boolean), 9, 600000, 7302250)]
def pv_tab : List pv_I := pv_t0 ++ (pv_t1 ++ (pv_t2 ++ (pv_t3 ++ (pv_t4 ++ (pv_t5 ++ (pv_t6 ++ (pv_t7 ++ (pv_t8 ++ (pv_t9 ++ (pv_t10 ++ (pv_t11 ++ (pv_t12 ++ (pv_t13 ++ (pv_t14))))))))))))))
def pv_law : Nat := 225
def pv_inf (y : Nat) : pv_I := pv_tab.getD y (⟨"", "", ""⟩, ⟨#[]⟩, 0, none, 0, 0, 0)
abbrev pv_nm (y : Nat) : MethodName := (pv_inf y).1
abbrev pv_by (y : Nat) : ByteArray := (pv_inf y).2.1
abbrev pv_ml (y : Nat) : Nat := (pv_inf y).2.2.1
abbrev pv_rt (y : Nat) : Option FieldType := (pv_inf y).2.2.2.1
abbrev pv_oc (y : Nat) : Nat := (pv_inf y).2.2.2.2.1
abbrev pv_mc (y : Nat) : Nat := (pv_inf y).2.2.2.2.2.1
abbrev pv_ms (y : Nat) : Nat := (pv_inf y).2.2.2.2.2.2
abbrev pv_on (y : Nat) : String := pv_cn.getD (pv_oc y) ""
/-- constant pools: by class and index: (0, class, field), (1, method, parameters) virtual, 2 static, 3 <init>, 4 Object.<init>, 5 arraycopy, (6, class, 0), 7 virtual of a nest mate, 8 <init> of a nest mate, 9 Math.min -/
def pv_p0 : List (Nat × Nat × Nat × Nat) := [(3, 4, 0, 0), (9, 0, 0, 0), (15, 0, 0, 1), (18, 0, 0, 2), (21, 0, 0, 3), (24, 0, 0, 4), (28, 0, 0, 5), (32, 1, 1, 1), (36, 5, 0, 0)]
def pv_p1 : List (Nat × Nat × Nat × Nat) := [(3, 4, 0, 0), (9, 0, 1, 0), (15, 0, 1, 1), (18, 0, 1, 2), (21, 0, 1, 3), (25, 5, 0, 0), (31, 0, 2, 2), (34, 0, 2, 0), (37, 2, 216, 1), (43, 2, 218, 1), (46, 2, 221, 2), (50, 1, 7, 1), (53, 1, 9, 1), (56, 1, 10, 2), (60, 2, 220, 2), (63, 1, 14, 1), (66, 1, 13, 1), (69, 1, 8, 2), (72, 1, 16, 2), (76, 2, 223, 2), (79, 2, 224, 1)]
def pv_p2 : List (Nat × Nat × Nat × Nat) := [(3, 4, 0, 0), (9, 0, 2, 1), (15, 0, 2, 2), (19, 0, 2, 0), (23, 2, 221, 2)]
def pv_p3 : List (Nat × Nat × Nat × Nat) := [(3, 4, 0, 0), (9, 6, 1, 0), (11, 0, 3, 0), (17, 0, 3, 1), (21, 0, 3, 2), (24, 0, 3, 3), (27, 0, 3, 4), (31, 0, 3, 5), (34, 0, 3, 6), (37, 0, 3, 7), (40, 0, 3, 8), (43, 8, 4, 0), (44, 1, 5, 1), (48, 0, 2, 2), (53, 0, 2, 0), (56, 1, 12, 2), (60, 2, 224, 1), (66, 1, 15, 3), (70, 5, 0, 0), (76, 1, 36, 2), (80, 1, 35, 3), (83, 1, 37, 4), (87, 0, 1, 3), (88, 1, 38, 3), (92, 1, 40, 1), (96, 1, 39, 3)]
def pv_p4 : List (Nat × Nat × Nat × Nat) := [(3, 4, 0, 0), (9, 6, 1, 0), (11, 8, 4, 0), (12, 0, 4, 0), (18, 0, 4, 1), (21, 0, 4, 2), (25, 0, 4, 3), (28, 0, 4, 4), (31, 6, 0, 0), (33, 8, 0, 0), (34, 0, 4, 5), (38, 0, 4, 6), (42, 0, 4, 7), (46, 1, 5, 1), (50, 0, 0, 5), (54, 1, 43, 0), (57, 0, 0, 4), (60, 0, 0, 2), (63, 0, 0, 0), (66, 0, 0, 1), (69, 0, 0, 3), (72, 1, 47, 3), (76, 1, 48, 3), (80, 1, 2, 4), (84, 1, 12, 2), (88, 1, 15, 3), (91, 0, 1, 3), (92, 0, 1, 1), (95, 2, 221, 2), (100, 0, 1, 0), (103, 2, 218, 1), (108, 1, 49, 2), (113, 2, 219, 2), (116, 0, 1, 2)]
def pv_p5 : List (Nat × Nat × Nat × Nat) := [(1, 4, 0, 0), (9, 6, 2, 0), (11, 0, 5, 0), (15, 0, 5, 1), (18, 6, 4, 0), (20, 3, 41, 0), (21, 0, 5, 2), (25, 6, 1, 0), (27, 8, 4, 0), (28, 0, 5, 3), (32, 6, 3, 0), (34, 3, 32, 0), (35, 0, 5, 4), (39, 0, 5, 5), (43, 0, 5, 6), (47, 0, 5, 7), (50, 0, 5, 8), (53, 0, 5, 9), (56, 3, 25, 1), (59, 2, 99, 1), (63, 1, 104, 1), (67, 1, 26, 2), (71, 2, 105, 2), (75, 0, 2, 0), (78, 0, 2, 1), (82, 1, 28, 2), (86, 5, 0, 0), (92, 0, 2, 2), (95, 1, 29, 0), (99, 2, 100, 1), (102, 1, 6, 1), (106, 1, 42, 1), (109, 0, 4, 1), (112, 0, 1, 3), (113, 1, 102, 1), (116, 1, 49, 2), (120, 0, 1, 1), (123, 2, 218, 1), (127, 2, 219, 2), (130, 1, 8, 2), (133, 0, 4, 7), (136, 0, 1, 2), (139, 1, 12, 2), (142, 2, 224, 1), (147, 1, 13, 1), (150, 1, 103, 2), (153, 1, 10, 2), (156, 0, 4, 5), (160, 1, 1, 1), (165, 1, 45, 3), (169, 2, 216, 1), (172, 1, 11, 2), (175, 2, 217, 1), (178, 1, 46, 4), (182, 0, 0, 4), (183, 1, 44, 1), (186, 2, 101, 1), (189, 0, 4, 6), (193, 1, 3, 1), (197, 0, 0, 5), (198, 1, 9, 1), (201, 1, 18, 3), (204, 1, 33, 2), (208, 1, 17, 2), (211, 1, 21, 0), (215, 1, 22, 0), (218, 1, 20, 0), (221, 2, 106, 1), (224, 1, 30, 0), (227, 1, 19, 3), (230, 2, 221, 2), (233, 1, 108, 2), (236, 1, 34, 1), (239, 0, 3, 5), (242, 7, 37, 4), (246, 1, 109, 2), (249, 2, 107, 3), (253, 7, 38, 3), (257, 1, 110, 3), (261, 9, 0, 0), (266, 7, 39, 3), (270, 0, 3, 8), (273, 0, 3, 7), (276, 1, 27, 1), (279, 0, 3, 3), (282, 1, 14, 1), (285, 2, 220, 2), (294, 0, 4, 2), (297, 1, 50, 1), (300, 0, 4, 3), (303, 2, 112, 2), (306, 1, 23, 0), (309, 1, 24, 0), (312, 1, 51, 0), (315, 2, 111, 1), (323, 1, 95, 1), (326, 1, 52, 1), (330, 1, 31, 1), (331, 0, 3, 6), (334, 0, 3, 2)]
def pv_p6 : List (Nat × Nat × Nat × Nat) := [(1, 4, 0, 0), (7, 0, 6, 1), (13, 0, 6, 3), (16, 0, 6, 4), (19, 0, 6, 5), (22, 0, 6, 6), (25, 0, 6, 7), (28, 0, 6, 10), (32, 0, 6, 11), (35, 0, 6, 14), (38, 0, 6, 15), (41, 0, 6, 16), (44, 0, 6, 17), (47, 0, 6, 19), (50, 0, 6, 20), (53, 0, 6, 21), (56, 0, 6, 22), (59, 0, 6, 23), (62, 0, 6, 25), (65, 0, 6, 27), (68, 0, 6, 28), (71, 0, 6, 29), (74, 0, 6, 34), (77, 0, 6, 0), (80, 0, 6, 2), (83, 2, 114, 3), (87, 2, 119, 1), (91, 1, 115, 1), (95, 2, 120, 1), (98, 1, 124, 3), (102, 1, 121, 1), (105, 1, 123, 2), (109, 1, 116, 2), (112, 1, 126, 2), (115, 1, 122, 1), (118, 0, 6, 12), (121, 1, 133, 1), (124, 0, 6, 13), (127, 2, 134, 1), (130, 1, 136, 1), (133, 1, 137, 1), (136, 0, 6, 8), (139, 0, 6, 18), (142, 1, 142, 1), (145, 1, 143, 2), (148, 1, 144, 2), (152, 1, 140, 1), (155, 1, 146, 2), (158, 1, 141, 2), (161, 1, 152, 2), (164, 1, 153, 2), (167, 2, 118, 1), (170, 1, 145, 1), (173, 0, 6, 9), (176, 2, 135, 1), (179, 1, 154, 3), (183, 1, 155, 3), (186, 2, 117, 2), (189, 1, 156, 1), (193, 1, 159, 2), (196, 1, 158, 0), (199, 1, 157, 2), (202, 2, 162, 4), (206, 1, 168, 0), (209, 1, 169, 0), (212, 0, 6, 24), (215, 1, 172, 0), (218, 1, 173, 0), (222, 1, 175, 0), (225, 0, 6, 26), (228, 1, 177, 1), (231, 1, 179, 1), (234, 1, 178, 1), (237, 1, 182, 1), (240, 1, 183, 2), (243, 1, 184, 0), (246, 1, 185, 1), (249, 0, 6, 31), (252, 0, 6, 30), (255, 1, 187, 1), (258, 1, 188, 3), (262, 1, 125, 2), (265, 1, 189, 2), (268, 1, 191, 2), (272, 1, 193, 3), (275, 0, 6, 32), (278, 0, 6, 33), (281, 1, 196, 4), (285, 1, 197, 2), (288, 1, 200, 2), (298, 1, 205, 1), (301, 2, 206, 2), (304, 1, 209, 1), (309, 0, 6, 35), (313, 1, 213, 1), (318, 1, 214, 0)]
def pv_p7 : List (Nat × Nat × Nat × Nat) := [(12, 2, 218, 1), (16, 2, 222, 2), (20, 2, 219, 2), (23, 2, 217, 1)]
def pv_p8 : List (Nat × Nat × Nat × Nat) := []
def pv_p9 : List (Nat × Nat × Nat × Nat) := [(7, 6, 5, 0), (9, 3, 53, 0), (10, 6, 6, 0), (12, 3, 113, 0), (13, 1, 54, 2), (17, 1, 125, 2), (18, 1, 55, 3), (22, 1, 127, 3), (23, 1, 56, 2), (26, 1, 126, 2), (27, 1, 57, 1), (31, 1, 128, 1), (32, 1, 58, 5), (36, 1, 129, 5), (37, 1, 59, 1), (40, 1, 130, 1), (41, 1, 60, 2), (44, 1, 131, 2), (45, 1, 61, 3), (48, 1, 132, 3), (49, 1, 62, 1), (52, 1, 138, 1), (53, 1, 63, 1), (56, 1, 139, 1), (57, 1, 64, 2), (60, 1, 147, 2), (61, 1, 65, 2), (64, 1, 148, 2), (65, 1, 66, 2), (68, 1, 149, 2), (69, 1, 67, 1), (72, 1, 150, 1), (73, 1, 68, 1), (76, 1, 151, 1), (77, 1, 69, 2), (80, 1, 160, 2), (81, 1, 70, 3), (84, 1, 161, 3), (85, 1, 71, 1), (88, 1, 163, 1), (89, 1, 72, 2), (92, 1, 164, 2), (93, 1, 73, 1), (96, 1, 165, 1), (97, 1, 74, 1), (100, 1, 166, 1), (101, 1, 75, 1), (104, 1, 167, 1), (105, 1, 76, 1), (108, 1, 170, 1), (109, 1, 77, 2), (112, 1, 171, 2), (113, 1, 78, 1), (116, 1, 174, 1), (117, 1, 79, 0), (121, 1, 176, 0), (122, 1, 80, 1), (125, 1, 180, 1), (126, 1, 81, 1), (129, 1, 181, 1), (130, 1, 82, 1), (133, 1, 186, 1), (134, 1, 83, 2), (137, 1, 190, 2), (138, 1, 84, 2), (141, 1, 192, 2), (142, 1, 85, 1), (145, 1, 194, 1), (146, 1, 86, 1), (149, 1, 195, 1), (150, 1, 87, 2), (153, 1, 198, 2), (154, 1, 88, 3), (157, 1, 199, 3), (158, 1, 89, 1), (161, 1, 201, 1), (162, 1, 90, 1), (165, 1, 202, 1), (166, 1, 91, 2), (169, 1, 203, 2), (170, 1, 92, 0), (173, 1, 204, 0), (174, 1, 93, 0), (178, 1, 207, 0), (179, 1, 94, 0), (182, 1, 208, 0), (183, 1, 95, 1), (186, 1, 210, 1), (187, 1, 96, 0), (190, 1, 211, 0), (191, 1, 97, 1), (194, 1, 212, 1), (195, 1, 98, 0), (198, 1, 215, 0)]
def pv_cp : List (List (Nat × Nat × Nat × Nat)) := [pv_p0, pv_p1, pv_p2, pv_p3, pv_p4, pv_p5, pv_p6, pv_p7, pv_p8, pv_p9]
def pv_look (o i : Nat) : Option (Nat × Nat × Nat) := ((pv_cp.getD o []).find? (fun q => q.1 == i)).map (fun q => q.2)
def pv_kit : List (Nat × Nat × Int32) := [(8, 265, 1431655765), (8, 266, 858993459), (8, 267, 252645135), (7, 11, 2130466), (6, 261, 1048576), (6, 291, 2147483646)]
def pv_ki (o i : Nat) : Option Int32 := (pv_kit.find? (fun q => q.1 == o && q.2.1 == i)).map (fun q => q.2.2)
def pv_klt : List (Nat × Nat × Int64) := [(5, 288, 2147483647), (5, 290, 48271), (5, 292, 64), (5, 319, 17), (5, 321, 31), (4, 106, 31), (4, 111, 96), (2, 29, 31), (6, 292, 48271), (6, 294, 2147483647), (6, 296, 64), (6, 316, 17), (6, 307, 31)]
def pv_kl (o i : Nat) : Option Int64 := (pv_klt.find? (fun q => q.1 == o && q.2.1 == i)).map (fun q => q.2.2)
