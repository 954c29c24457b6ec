/-! classes, words, methods (printed by words2.py) -/
def k_f0 : List (String × String × String × Bool) := [("MayBoats$Book", "land", "LMayBoats$Land;", false), ("MayBoats$Book", "ways", "LMayBoats$Ways;", false), ("MayBoats$Book", "line", "LMayBoats$Line;", false), ("MayBoats$Book", "sight", "LMayBoats$Sight;", true), ("MayBoats$Book", "cells", "[I", true), ("MayBoats$Book", "sheets", "I", false)]
def k_T0 : u_T := fun k => k_f0.getD k ("", "", "", false)
def k_f1 : List (String × String × String × Bool) := [("MayBoats$Fraction", "over", "J", false), ("MayBoats$Fraction", "under", "J", false)]
def k_T1 : u_T := fun k => k_f1.getD k ("", "", "", false)
def k_f2 : List (String × String × String × Bool) := [("MayBoats$Land", "townNames", "[J", true), ("MayBoats$Land", "kindNames", "[J", true), ("MayBoats$Land", "lawNames", "[J", true), ("MayBoats$Land", "boatTown", "[I", true), ("MayBoats$Land", "boatYear", "[I", true), ("MayBoats$Land", "lawEnd", "[I", true), ("MayBoats$Land", "code", "[S", true), ("MayBoats$Land", "variables", "[J", true), ("MayBoats$Land", "stack", "[J", true), ("MayBoats$Land", "towns", "I", false), ("MayBoats$Land", "kinds", "I", false), ("MayBoats$Land", "laws", "I", false), ("MayBoats$Land", "boats", "I", false), ("MayBoats$Land", "codeSize", "I", false)]
def k_T2 : u_T := fun k => k_f2.getD k ("", "", "", false)
def k_f3 : List (String × String × String × Bool) := [("MayBoats$Line", "claim", "[B", true), ("MayBoats$Line", "size", "[S", true), ("MayBoats$Line", "kinds", "[B", true), ("MayBoats$Line", "least", "[B", true), ("MayBoats$Line", "code", "[B", true), ("MayBoats$Line", "stack", "[I", true), ("MayBoats$Line", "codeSize", "I", false), ("MayBoats$Line", "claims", "I", false)]
def k_T3 : u_T := fun k => k_f3.getD k ("", "", "", false)
def k_f4 : List (String × String × String × Bool) := [("MayBoats$Reader", "sort", "[B", true), ("MayBoats$Reader", "wordNumber", "[B", true), ("MayBoats$Reader", "place", "[S", true), ("MayBoats$Reader", "value", "[J", true), ("MayBoats$Reader", "keys", "[J", true), ("MayBoats$Reader", "size", "I", false), ("MayBoats$Reader", "now", "I", false), ("MayBoats$Reader", "sortNow", "I", false), ("MayBoats$Reader", "wordNow", "I", false), ("MayBoats$Reader", "valueNow", "J", false), ("MayBoats$Reader", "faultKind", "I", false), ("MayBoats$Reader", "faultPlace", "I", false)]
def k_T4 : u_T := fun k => k_f4.getD k ("", "", "", false)
def k_f5 : List (String × String × String × Bool) := [("MayBoats$Sight", "beside", "I", false), ("MayBoats$Sight", "cut", "I", false), ("MayBoats$Sight", "streets", "I", false), ("MayBoats$Sight", "from", "I", false), ("MayBoats$Sight", "to", "I", false), ("MayBoats$Sight", "then", "I", false), ("MayBoats$Sight", "till", "I", false), ("MayBoats$Sight", "rents", "Z", false)]
def k_T5 : u_T := fun k => k_f5.getD k ("", "", "", false)
def k_f6 : List (String × String × String × Bool) := [("MayBoats$Tally", "count", "[I", true), ("MayBoats$Tally", "sum", "[J", true), ("MayBoats$Tally", "square", "[J", true), ("MayBoats$Tally", "picked", "I", false), ("MayBoats$Tally", "total", "J", false)]
def k_T6 : u_T := fun k => k_f6.getD k ("", "", "", false)
def k_f7 : List (String × String × String × Bool) := [("MayBoats$Turning", "book", "LMayBoats$Book;", true), ("MayBoats$Turning", "trial", "LMayBoats$Tally;", true), ("MayBoats$Turning", "count", "[I", true), ("MayBoats$Turning", "sum", "[I", true), ("MayBoats$Turning", "values", "[I", true), ("MayBoats$Turning", "group", "[I", true), ("MayBoats$Turning", "saying", "[I", true), ("MayBoats$Turning", "matters", "[Z", true), ("MayBoats$Turning", "found", "I", false), ("MayBoats$Turning", "first", "I", false), ("MayBoats$Turning", "second", "I", false)]
def k_T7 : u_T := fun k => k_f7.getD k ("", "", "", false)
def k_f8 : List (String × String × String × Bool) := [("MayBoats$Ways", "step", "[B", true), ("MayBoats$Ways", "first", "[S", true), ("MayBoats$Ways", "second", "[B", true), ("MayBoats$Ways", "stop", "[B", true), ("MayBoats$Ways", "open", "[I", true), ("MayBoats$Ways", "depth", "I", false), ("MayBoats$Ways", "steps", "I", false)]
def k_T8 : u_T := fun k => k_f8.getD k ("", "", "", false)
def k_f9 : List (String × String × String × Bool) := [("MayBoats$Weave", "book", "LMayBoats$Book;", true), ("MayBoats$Weave", "tally", "LMayBoats$Tally;", true), ("MayBoats$Weave", "others", "[I", true), ("MayBoats$Weave", "trial", "[I", true), ("MayBoats$Weave", "best", "[I", true), ("MayBoats$Weave", "prices", "[J", true), ("MayBoats$Weave", "many", "I", false), ("MayBoats$Weave", "among", "I", false), ("MayBoats$Weave", "bestSum", "J", false), ("MayBoats$Weave", "weight", "[I", true), ("MayBoats$Weave", "there", "Z", false), ("MayBoats$Weave", "own", "I", false), ("MayBoats$Weave", "n", "I", false), ("MayBoats$Weave", "towns", "I", false), ("MayBoats$Weave", "least", "J", false), ("MayBoats$Weave", "gapOver", "J", false)]
def k_T9 : u_T := fun k => k_f9.getD k ("", "", "", false)
def k_f10 : List (String × String × String × Bool) := [("MayBoats$Writing", "book", "LMayBoats$Book;", true), ("MayBoats$Writing", "tally", "LMayBoats$Tally;", true), ("MayBoats$Writing", "kept", "LMayBoats$Sight;", true), ("MayBoats$Writing", "own", "I", false), ("MayBoats$Writing", "there", "Z", false), ("MayBoats$Writing", "tries", "I", false), ("MayBoats$Writing", "farthestTry", "I", false), ("MayBoats$Writing", "farthest", "LMayBoats$Fraction;", true), ("MayBoats$Writing", "done", "I", false), ("MayBoats$Writing", "isCutOff", "Z", false)]
def k_T10 : u_T := fun k => k_f10.getD k ("", "", "", false)
def k_f11 : List (String × String × String × Bool) := [("MayBoats", "status", "I", false), ("MayBoats", "told", "LMayBoats$Fraction;", true), ("MayBoats", "other", "LMayBoats$Fraction;", true), ("MayBoats", "rows", "[[J", true), ("MayBoats", "sorts", "[I", true), ("MayBoats", "sizes", "[I", true), ("MayBoats", "tape", "[B", true), ("MayBoats", "tapeSize", "I", false), ("MayBoats", "reader", "LMayBoats$Reader;", true), ("MayBoats", "book", "LMayBoats$Book;", true), ("MayBoats", "spareLand", "LMayBoats$Land;", false), ("MayBoats", "spareWays", "LMayBoats$Ways;", false), ("MayBoats", "spareLine", "LMayBoats$Line;", false), ("MayBoats", "marks", "[LMayBoats$Book;", true), ("MayBoats", "markCount", "I", false), ("MayBoats", "tally", "LMayBoats$Tally;", true), ("MayBoats", "played", "LMayBoats$Sight;", true), ("MayBoats", "weaver", "LMayBoats$Weave;", true), ("MayBoats", "writing", "LMayBoats$Writing;", true), ("MayBoats", "turner", "LMayBoats$Turning;", true)]
def k_T11 : u_T := fun k => k_f11.getD k ("", "", "", false)
def k_f12 : List (String × String × String × Bool) := [("MayBoatsModel", "status", "I", false), ("MayBoatsModel", "thrown", "I", false), ("MayBoatsModel", "above", "J", false), ("MayBoatsModel", "under", "J", false), ("MayBoatsModel", "traySort", "[I", true), ("MayBoatsModel", "trayMany", "[I", true), ("MayBoatsModel", "numbers", "[J", true), ("MayBoatsModel", "tape", "[B", true), ("MayBoatsModel", "taped", "I", false), ("MayBoatsModel", "textEnd", "I", false), ("MayBoatsModel", "faultKind", "I", false), ("MayBoatsModel", "faultAt", "I", false), ("MayBoatsModel", "bad", "I", false), ("MayBoatsModel", "badAt", "I", false), ("MayBoatsModel", "token", "I", false), ("MayBoatsModel", "at", "I", false), ("MayBoatsModel", "behind", "I", false), ("MayBoatsModel", "number", "I", false), ("MayBoatsModel", "letters", "I", false), ("MayBoatsModel", "codeEnd", "I", false), ("MayBoatsModel", "open", "I", false), ("MayBoatsModel", "word", "J", false), ("MayBoatsModel", "c", "[I", true), ("MayBoatsModel", "words", "[J", true), ("MayBoatsModel", "stack", "[J", true), ("MayBoatsModel", "markMany", "I", false), ("MayBoatsModel", "sums", "[J", true), ("MayBoatsModel", "squares", "[J", true), ("MayBoatsModel", "counts", "[I", true), ("MayBoatsModel", "top", "J", false), ("MayBoatsModel", "bottom", "J", false), ("MayBoatsModel", "wages", "[I", true), ("MayBoatsModel", "weights", "[I", true), ("MayBoatsModel", "tried", "[I", true), ("MayBoatsModel", "who", "[I", true), ("MayBoatsModel", "prices", "[J", true), ("MayBoatsModel", "weaveTown", "I", false), ("MayBoatsModel", "weaveMany", "I", false), ("MayBoatsModel", "weaveBy", "I", false), ("MayBoatsModel", "whoMany", "I", false), ("MayBoatsModel", "leastSum", "J", false), ("MayBoatsModel", "hasWoven", "Z", false), ("MayBoatsModel", "done", "I", false), ("MayBoatsModel", "tries", "I", false), ("MayBoatsModel", "farTry", "I", false), ("MayBoatsModel", "leftOver", "I", false), ("MayBoatsModel", "writtenBoat", "I", false), ("MayBoatsModel", "farTop", "J", false), ("MayBoatsModel", "farBottom", "J", false), ("MayBoatsModel", "hasWritten", "Z", false), ("MayBoatsModel", "playedMany", "I", false), ("MayBoatsModel", "lastDraw", "I", false), ("MayBoatsModel", "newSteps", "I", false), ("MayBoatsModel", "lineEnd", "I", false), ("MayBoatsModel", "turnMany", "I", false), ("MayBoatsModel", "turns", "[I", true), ("MayBoatsModel", "wasWage", "[I", true), ("MayBoatsModel", "wasRent", "[I", true)]
def k_T12 : u_T := fun k => k_f12.getD k ("", "", "", false)
def k_cl : List vw_C := [("MayBoats$Book", k_T0, 6), ("MayBoats$Fraction", k_T1, 2), ("MayBoats$Land", k_T2, 14), ("MayBoats$Line", k_T3, 8), ("MayBoats$Reader", k_T4, 12), ("MayBoats$Sight", k_T5, 8), ("MayBoats$Tally", k_T6, 5), ("MayBoats$Turning", k_T7, 11), ("MayBoats$Ways", k_T8, 7), ("MayBoats$Weave", k_T9, 16), ("MayBoats$Writing", k_T10, 10), ("MayBoats", k_T11, 20), ("MayBoatsModel", k_T12, 58)]
theorem k_cc0 : k_cl[0]? = some ("MayBoats$Book", k_T0, 6) := rfl
theorem k_cc1 : k_cl[1]? = some ("MayBoats$Fraction", k_T1, 2) := rfl
theorem k_cc2 : k_cl[2]? = some ("MayBoats$Land", k_T2, 14) := rfl
theorem k_cc3 : k_cl[3]? = some ("MayBoats$Line", k_T3, 8) := rfl
theorem k_cc4 : k_cl[4]? = some ("MayBoats$Reader", k_T4, 12) := rfl
theorem k_cc5 : k_cl[5]? = some ("MayBoats$Sight", k_T5, 8) := rfl
theorem k_cc6 : k_cl[6]? = some ("MayBoats$Tally", k_T6, 5) := rfl
theorem k_cc7 : k_cl[7]? = some ("MayBoats$Turning", k_T7, 11) := rfl
theorem k_cc8 : k_cl[8]? = some ("MayBoats$Ways", k_T8, 7) := rfl
theorem k_cc9 : k_cl[9]? = some ("MayBoats$Weave", k_T9, 16) := rfl
theorem k_cc10 : k_cl[10]? = some ("MayBoats$Writing", k_T10, 10) := rfl
theorem k_cc11 : k_cl[11]? = some ("MayBoats", k_T11, 20) := rfl
theorem k_cc12 : k_cl[12]? = some ("MayBoatsModel", k_T12, 58) := rfl
def k_nm : Nat → String
  | 0 => "MayBoats$Book"
  | 1 => "MayBoats$Fraction"
  | 2 => "MayBoats$Land"
  | 3 => "MayBoats$Line"
  | 4 => "MayBoats$Reader"
  | 5 => "MayBoats$Sight"
  | 6 => "MayBoats$Tally"
  | 7 => "MayBoats$Turning"
  | 8 => "MayBoats$Ways"
  | 9 => "MayBoats$Weave"
  | 10 => "MayBoats$Writing"
  | 11 => "MayBoats"
  | 12 => "MayBoatsModel"
  | 13 => "java/lang/Math"
  | 14 => "java/util/Arrays"
  | 15 => "java/lang/String"
  | 16 => "java/lang/StringLatin1"
  | 17 => "java/lang/StringUTF16"
  | 18 => "jdk/internal/util/Preconditions"
  | 19 => "MayBoatsLaw"
  | _ => ""
abbrev k_M0 : cMth := (⟨"MayBoats$Book", "<init>", "()V"⟩, prog_2_method_1_code, 1, (Option.none : Option Jvm.ClassFile.FieldType), 2)
abbrev k_M1 : cMth := (⟨"MayBoats$Book", "copy", "(LMayBoats$Book;)V"⟩, prog_2_method_2_code, 2, (Option.none : Option Jvm.ClassFile.FieldType), 0)
abbrev k_M2 : cMth := (⟨"MayBoats$Book", "cell", "(II)I"⟩, prog_2_method_3_code, 4, (Option.some Jvm.ClassFile.FieldType.int), 0)
abbrev k_M3 : cMth := (⟨"MayBoats$Book", "setCell", "(III)V"⟩, prog_2_method_4_code, 5, (Option.none : Option Jvm.ClassFile.FieldType), 0)
abbrev k_M4 : cMth := (⟨"MayBoats$Book", "fits", "([J)Z"⟩, prog_2_method_5_code, 2, (Option.some Jvm.ClassFile.FieldType.boolean), 0)
abbrev k_M5 : cMth := (⟨"MayBoats$Book", "add", "([J)I"⟩, prog_2_method_6_code, 3, (Option.some Jvm.ClassFile.FieldType.int), 0)
abbrev k_M6 : cMth := (⟨"MayBoats$Book", "wageBy", "(III)I"⟩, prog_2_method_7_code, 4, (Option.some Jvm.ClassFile.FieldType.int), 0)
abbrev k_M7 : cMth := (⟨"MayBoats$Fraction", "<init>", "()V"⟩, prog_3_method_1_code, 1, (Option.none : Option Jvm.ClassFile.FieldType), 2)
abbrev k_M8 : cMth := (⟨"MayBoats$Fraction", "divisorOf", "(JJ)J"⟩, prog_3_method_2_code, 11, (Option.some Jvm.ClassFile.FieldType.long), 1)
abbrev k_M9 : cMth := (⟨"MayBoats$Fraction", "put", "(JJ)V"⟩, prog_3_method_3_code, 7, (Option.none : Option Jvm.ClassFile.FieldType), 0)
abbrev k_M10 : cMth := (⟨"MayBoats$Fraction", "add", "(JJ)V"⟩, prog_3_method_4_code, 7, (Option.none : Option Jvm.ClassFile.FieldType), 0)
abbrev k_M11 : cMth := (⟨"MayBoats$Fraction", "isReachedBy", "(JJ)Z"⟩, prog_3_method_5_code, 5, (Option.some Jvm.ClassFile.FieldType.boolean), 0)
abbrev k_M12 : cMth := (⟨"MayBoats$Fraction", "isPassedBy", "(JJ)Z"⟩, prog_3_method_6_code, 5, (Option.some Jvm.ClassFile.FieldType.boolean), 0)
abbrev k_M13 : cMth := (⟨"MayBoats$Fraction", "isAbove", "(JJ)Z"⟩, prog_3_method_7_code, 5, (Option.some Jvm.ClassFile.FieldType.boolean), 0)
abbrev k_M14 : cMth := (⟨"MayBoats$Land", "<init>", "()V"⟩, prog_4_method_1_code, 1, (Option.none : Option Jvm.ClassFile.FieldType), 2)
abbrev k_M15 : cMth := (⟨"MayBoats$Land", "copy", "(LMayBoats$Land;)V"⟩, prog_4_method_2_code, 2, (Option.none : Option Jvm.ClassFile.FieldType), 0)
abbrev k_M16 : cMth := (⟨"MayBoats$Land", "parse", "(LMayBoats$Reader;)V"⟩, prog_4_method_3_code, 3, (Option.none : Option Jvm.ClassFile.FieldType), 0)
abbrev k_M17 : cMth := (⟨"MayBoats$Land", "takeName", "(LMayBoats$Reader;[JI)Z"⟩, prog_4_method_4_code, 4, (Option.some Jvm.ClassFile.FieldType.boolean), 0)
abbrev k_M18 : cMth := (⟨"MayBoats$Land", "isKnown", "(J)Z"⟩, prog_4_method_5_code, 3, (Option.some Jvm.ClassFile.FieldType.boolean), 0)
abbrev k_M19 : cMth := (⟨"MayBoats$Land", "placeOf", "([JIJ)I"⟩, prog_4_method_6_code, 5, (Option.some Jvm.ClassFile.FieldType.int), 1)
abbrev k_M20 : cMth := (⟨"MayBoats$Land", "namePart", "(LMayBoats$Reader;[JI)I"⟩, prog_4_method_7_code, 4, (Option.some Jvm.ClassFile.FieldType.int), 0)
abbrev k_M21 : cMth := (⟨"MayBoats$Land", "boatPart", "(LMayBoats$Reader;)V"⟩, prog_4_method_8_code, 3, (Option.none : Option Jvm.ClassFile.FieldType), 0)
abbrev k_M22 : cMth := (⟨"MayBoats$Land", "boatTo", "(I)I"⟩, prog_4_method_9_code, 3, (Option.some Jvm.ClassFile.FieldType.int), 0)
abbrev k_M23 : cMth := (⟨"MayBoats$Land", "lawPart", "(LMayBoats$Reader;)V"⟩, prog_4_method_10_code, 2, (Option.none : Option Jvm.ClassFile.FieldType), 0)
abbrev k_M24 : cMth := (⟨"MayBoats$Land", "emit", "(I)V"⟩, prog_4_method_11_code, 2, (Option.none : Option Jvm.ClassFile.FieldType), 0)
abbrev k_M25 : cMth := (⟨"MayBoats$Land", "sumPart", "(LMayBoats$Reader;I)V"⟩, prog_4_method_12_code, 5, (Option.none : Option Jvm.ClassFile.FieldType), 0)
abbrev k_M26 : cMth := (⟨"MayBoats$Land", "itemPart", "(LMayBoats$Reader;I)V"⟩, prog_4_method_13_code, 5, (Option.none : Option Jvm.ClassFile.FieldType), 0)
abbrev k_M27 : cMth := (⟨"MayBoats$Land", "atomPart", "(LMayBoats$Reader;I)V"⟩, prog_4_method_14_code, 4, (Option.none : Option Jvm.ClassFile.FieldType), 0)
abbrev k_M28 : cMth := (⟨"MayBoats$Land", "wageBy", "(IIIIII)I"⟩, prog_4_method_15_code, 8, (Option.some Jvm.ClassFile.FieldType.int), 0)
abbrev k_M29 : cMth := (⟨"MayBoats$Land", "runLaw", "(I)J"⟩, prog_4_method_16_code, 5, (Option.some Jvm.ClassFile.FieldType.long), 0)
abbrev k_M30 : cMth := (⟨"MayBoats$Land", "joinedBy", "(IJJ)J"⟩, prog_4_method_17_code, 5, (Option.some Jvm.ClassFile.FieldType.long), 1)
abbrev k_M31 : cMth := (⟨"MayBoats$Line", "<init>", "()V"⟩, prog_5_method_1_code, 1, (Option.none : Option Jvm.ClassFile.FieldType), 2)
abbrev k_M32 : cMth := (⟨"MayBoats$Line", "copy", "(LMayBoats$Line;)V"⟩, prog_5_method_2_code, 2, (Option.none : Option Jvm.ClassFile.FieldType), 0)
abbrev k_M33 : cMth := (⟨"MayBoats$Line", "parse", "(LMayBoats$Reader;LMayBoats$Land;)V"⟩, prog_5_method_3_code, 3, (Option.none : Option Jvm.ClassFile.FieldType), 0)
abbrev k_M34 : cMth := (⟨"MayBoats$Line", "emit", "(I)V"⟩, prog_5_method_4_code, 2, (Option.none : Option Jvm.ClassFile.FieldType), 0)
abbrev k_M35 : cMth := (⟨"MayBoats$Line", "eitherPart", "(LMayBoats$Reader;LMayBoats$Land;I)V"⟩, prog_5_method_5_code, 5, (Option.none : Option Jvm.ClassFile.FieldType), 0)
abbrev k_M36 : cMth := (⟨"MayBoats$Line", "bothPart", "(LMayBoats$Reader;LMayBoats$Land;I)V"⟩, prog_5_method_6_code, 5, (Option.none : Option Jvm.ClassFile.FieldType), 0)
abbrev k_M37 : cMth := (⟨"MayBoats$Line", "onePart", "(LMayBoats$Reader;LMayBoats$Land;I)V"⟩, prog_5_method_7_code, 6, (Option.none : Option Jvm.ClassFile.FieldType), 0)
abbrev k_M38 : cMth := (⟨"MayBoats$Line", "claimPart", "(LMayBoats$Reader;LMayBoats$Land;I)V"⟩, prog_5_method_8_code, 4, (Option.none : Option Jvm.ClassFile.FieldType), 0)
abbrev k_M39 : cMth := (⟨"MayBoats$Line", "valueOf", "(ILMayBoats$Tally;)I"⟩, prog_5_method_9_code, 8, (Option.some Jvm.ClassFile.FieldType.int), 0)
abbrev k_M40 : cMth := (⟨"MayBoats$Line", "valueBy", "([I)I"⟩, prog_5_method_10_code, 6, (Option.some Jvm.ClassFile.FieldType.int), 0)
abbrev k_M41 : cMth := (⟨"MayBoats$Reader", "<init>", "()V"⟩, prog_6_method_1_code, 2, (Option.none : Option Jvm.ClassFile.FieldType), 2)
abbrev k_M42 : cMth := (⟨"MayBoats$Reader", "addKeys", "(Ljava/lang/String;I)I"⟩, prog_6_method_2_code, 8, (Option.some Jvm.ClassFile.FieldType.int), 0)
abbrev k_M43 : cMth := (⟨"MayBoats$Reader", "scan", "([BI)V"⟩, prog_6_method_3_code, 6, (Option.none : Option Jvm.ClassFile.FieldType), 0)
abbrev k_M44 : cMth := (⟨"MayBoats$Reader", "isLetter", "(I)Z"⟩, prog_6_method_4_code, 1, (Option.some Jvm.ClassFile.FieldType.boolean), 1)
abbrev k_M45 : cMth := (⟨"MayBoats$Reader", "isDigit", "(I)Z"⟩, prog_6_method_5_code, 1, (Option.some Jvm.ClassFile.FieldType.boolean), 1)
abbrev k_M46 : cMth := (⟨"MayBoats$Reader", "isSignByte", "(I)Z"⟩, prog_6_method_6_code, 1, (Option.some Jvm.ClassFile.FieldType.boolean), 1)
abbrev k_M47 : cMth := (⟨"MayBoats$Reader", "put", "(IIJ)V"⟩, prog_6_method_7_code, 5, (Option.none : Option Jvm.ClassFile.FieldType), 0)
abbrev k_M48 : cMth := (⟨"MayBoats$Reader", "keyOf", "(J)I"⟩, prog_6_method_8_code, 4, (Option.some Jvm.ClassFile.FieldType.int), 0)
abbrev k_M49 : cMth := (⟨"MayBoats$Reader", "scanWord", "([BII)I"⟩, prog_6_method_9_code, 7, (Option.some Jvm.ClassFile.FieldType.int), 0)
abbrev k_M50 : cMth := (⟨"MayBoats$Reader", "scanNumber", "([BII)I"⟩, prog_6_method_10_code, 6, (Option.some Jvm.ClassFile.FieldType.int), 0)
abbrev k_M51 : cMth := (⟨"MayBoats$Reader", "atEnd", "()Z"⟩, prog_6_method_11_code, 1, (Option.some Jvm.ClassFile.FieldType.boolean), 0)
abbrev k_M52 : cMth := (⟨"MayBoats$Reader", "isNumber", "()Z"⟩, prog_6_method_12_code, 1, (Option.some Jvm.ClassFile.FieldType.boolean), 0)
abbrev k_M53 : cMth := (⟨"MayBoats$Reader", "isSign", "(C)Z"⟩, prog_6_method_13_code, 2, (Option.some Jvm.ClassFile.FieldType.boolean), 0)
abbrev k_M54 : cMth := (⟨"MayBoats$Reader", "isName", "(II)Z"⟩, prog_6_method_14_code, 4, (Option.some Jvm.ClassFile.FieldType.boolean), 0)
abbrev k_M55 : cMth := (⟨"MayBoats$Reader", "word", "()I"⟩, prog_6_method_15_code, 1, (Option.some Jvm.ClassFile.FieldType.int), 0)
abbrev k_M56 : cMth := (⟨"MayBoats$Reader", "held", "()J"⟩, prog_6_method_16_code, 1, (Option.some Jvm.ClassFile.FieldType.long), 0)
abbrev k_M57 : cMth := (⟨"MayBoats$Reader", "skip", "()V"⟩, prog_6_method_17_code, 1, (Option.none : Option Jvm.ClassFile.FieldType), 0)
abbrev k_M58 : cMth := (⟨"MayBoats$Reader", "fail", "(I)V"⟩, prog_6_method_18_code, 2, (Option.none : Option Jvm.ClassFile.FieldType), 0)
abbrev k_M59 : cMth := (⟨"MayBoats$Reader", "need", "(C)V"⟩, prog_6_method_19_code, 2, (Option.none : Option Jvm.ClassFile.FieldType), 0)
abbrev k_M60 : cMth := (⟨"MayBoats$Reader", "numberWithin", "(II)I"⟩, prog_6_method_20_code, 4, (Option.some Jvm.ClassFile.FieldType.int), 0)
abbrev k_M61 : cMth := (⟨"MayBoats$Reader", "nameSet", "([JIII)I"⟩, prog_6_method_21_code, 8, (Option.some Jvm.ClassFile.FieldType.int), 0)
abbrev k_M62 : cMth := (⟨"MayBoats$Sight", "<init>", "()V"⟩, prog_7_method_1_code, 1, (Option.none : Option Jvm.ClassFile.FieldType), 2)
abbrev k_M63 : cMth := (⟨"MayBoats$Sight", "reset", "(II)V"⟩, prog_7_method_2_code, 3, (Option.none : Option Jvm.ClassFile.FieldType), 0)
abbrev k_M64 : cMth := (⟨"MayBoats$Sight", "copy", "(LMayBoats$Sight;)V"⟩, prog_7_method_3_code, 2, (Option.none : Option Jvm.ClassFile.FieldType), 0)
abbrev k_M65 : cMth := (⟨"MayBoats$Sight", "putBefore", "(II)V"⟩, prog_7_method_4_code, 3, (Option.none : Option Jvm.ClassFile.FieldType), 0)
abbrev k_M66 : cMth := (⟨"MayBoats$Sight", "putAfter", "(II)V"⟩, prog_7_method_5_code, 3, (Option.none : Option Jvm.ClassFile.FieldType), 0)
abbrev k_M67 : cMth := (⟨"MayBoats$Sight", "overlaps", "()Z"⟩, prog_7_method_6_code, 1, (Option.some Jvm.ClassFile.FieldType.boolean), 0)
abbrev k_M68 : cMth := (⟨"MayBoats$Sight", "saidBy", "(LMayBoats$Book;II)I"⟩, prog_7_method_7_code, 4, (Option.some Jvm.ClassFile.FieldType.int), 0)
abbrev k_M69 : cMth := (⟨"MayBoats$Sight", "groupOf", "(LMayBoats$Book;II)I"⟩, prog_7_method_8_code, 7, (Option.some Jvm.ClassFile.FieldType.int), 0)
abbrev k_M70 : cMth := (⟨"MayBoats$Tally", "<init>", "()V"⟩, prog_8_method_1_code, 1, (Option.none : Option Jvm.ClassFile.FieldType), 2)
abbrev k_M71 : cMth := (⟨"MayBoats$Tally", "clear", "()V"⟩, prog_8_method_2_code, 1, (Option.none : Option Jvm.ClassFile.FieldType), 0)
abbrev k_M72 : cMth := (⟨"MayBoats$Tally", "put", "(II)V"⟩, prog_8_method_3_code, 3, (Option.none : Option Jvm.ClassFile.FieldType), 0)
abbrev k_M73 : cMth := (⟨"MayBoats$Tally", "take", "(LMayBoats$Book;LMayBoats$Sight;I)Z"⟩, prog_8_method_4_code, 6, (Option.some Jvm.ClassFile.FieldType.boolean), 0)
abbrev k_M74 : cMth := (⟨"MayBoats$Tally", "draw", "(LMayBoats$Book;III)V"⟩, prog_8_method_5_code, 9, (Option.none : Option Jvm.ClassFile.FieldType), 0)
abbrev k_M75 : cMth := (⟨"MayBoats$Tally", "pick", "(LMayBoats$Book;III)V"⟩, prog_8_method_6_code, 7, (Option.none : Option Jvm.ClassFile.FieldType), 0)
abbrev k_M76 : cMth := (⟨"MayBoats$Tally", "hasEach", "(I)Z"⟩, prog_8_method_7_code, 2, (Option.some Jvm.ClassFile.FieldType.boolean), 0)
abbrev k_M77 : cMth := (⟨"MayBoats$Tally", "under", "()J"⟩, prog_8_method_8_code, 1, (Option.some Jvm.ClassFile.FieldType.long), 0)
abbrev k_M78 : cMth := (⟨"MayBoats$Tally", "over", "()J"⟩, prog_8_method_9_code, 5, (Option.some Jvm.ClassFile.FieldType.long), 0)
abbrev k_M79 : cMth := (⟨"MayBoats$Tally", "rounded", "()J"⟩, prog_8_method_10_code, 1, (Option.some Jvm.ClassFile.FieldType.long), 0)
abbrev k_M80 : cMth := (⟨"MayBoats$Turning", "<init>", "(LMayBoats$Book;)V"⟩, prog_9_method_1_code, 2, (Option.none : Option Jvm.ClassFile.FieldType), 2)
abbrev k_M81 : cMth := (⟨"MayBoats$Turning", "valueNow", "(I)I"⟩, prog_9_method_2_code, 2, (Option.some Jvm.ClassFile.FieldType.int), 0)
abbrev k_M82 : cMth := (⟨"MayBoats$Turning", "prepare", "(I)V"⟩, prog_9_method_3_code, 6, (Option.none : Option Jvm.ClassFile.FieldType), 0)
abbrev k_M83 : cMth := (⟨"MayBoats$Turning", "isOf", "(II)Z"⟩, prog_9_method_4_code, 4, (Option.some Jvm.ClassFile.FieldType.boolean), 0)
abbrev k_M84 : cMth := (⟨"MayBoats$Turning", "valueWithout", "(II)I"⟩, prog_9_method_5_code, 5, (Option.some Jvm.ClassFile.FieldType.int), 0)
abbrev k_M85 : cMth := (⟨"MayBoats$Turning", "drop", "(II)V"⟩, prog_9_method_6_code, 3, (Option.none : Option Jvm.ClassFile.FieldType), 0)
abbrev k_M86 : cMth := (⟨"MayBoats$Turning", "find", "(I)Z"⟩, prog_9_method_7_code, 5, (Option.some Jvm.ClassFile.FieldType.boolean), 0)
abbrev k_M87 : cMth := (⟨"MayBoats$Turning", "keep", "(III)Z"⟩, prog_9_method_8_code, 4, (Option.some Jvm.ClassFile.FieldType.boolean), 0)
abbrev k_M88 : cMth := (⟨"MayBoats$Ways", "<init>", "()V"⟩, prog_10_method_1_code, 1, (Option.none : Option Jvm.ClassFile.FieldType), 2)
abbrev k_M89 : cMth := (⟨"MayBoats$Ways", "copy", "(LMayBoats$Ways;)V"⟩, prog_10_method_2_code, 2, (Option.none : Option Jvm.ClassFile.FieldType), 0)
abbrev k_M90 : cMth := (⟨"MayBoats$Ways", "parse", "(LMayBoats$Reader;LMayBoats$Land;)V"⟩, prog_10_method_3_code, 4, (Option.none : Option Jvm.ClassFile.FieldType), 0)
abbrev k_M91 : cMth := (⟨"MayBoats$Ways", "endPart", "(LMayBoats$Reader;)V"⟩, prog_10_method_4_code, 3, (Option.none : Option Jvm.ClassFile.FieldType), 0)
abbrev k_M92 : cMth := (⟨"MayBoats$Ways", "stepPart", "(LMayBoats$Reader;LMayBoats$Land;)V"⟩, prog_10_method_5_code, 5, (Option.none : Option Jvm.ClassFile.FieldType), 0)
abbrev k_M93 : cMth := (⟨"MayBoats$Ways", "readRest", "(LMayBoats$Reader;LMayBoats$Land;I)V"⟩, prog_10_method_6_code, 4, (Option.none : Option Jvm.ClassFile.FieldType), 0)
abbrev k_M94 : cMth := (⟨"MayBoats$Ways", "streetSet", "(LMayBoats$Reader;)I"⟩, prog_10_method_7_code, 3, (Option.some Jvm.ClassFile.FieldType.int), 1)
abbrev k_M95 : cMth := (⟨"MayBoats$Weave", "<init>", "(LMayBoats$Book;LMayBoats$Tally;)V"⟩, prog_11_method_1_code, 3, (Option.none : Option Jvm.ClassFile.FieldType), 2)
abbrev k_M96 : cMth := (⟨"MayBoats$Weave", "priceOf", "(II)J"⟩, prog_11_method_2_code, 3, (Option.some Jvm.ClassFile.FieldType.long), 0)
abbrev k_M97 : cMth := (⟨"MayBoats$Weave", "takePrices", "(II)Z"⟩, prog_11_method_3_code, 7, (Option.some Jvm.ClassFile.FieldType.boolean), 0)
abbrev k_M98 : cMth := (⟨"MayBoats$Weave", "find", "(II)Z"⟩, prog_11_method_4_code, 5, (Option.some Jvm.ClassFile.FieldType.boolean), 0)
abbrev k_M99 : cMth := (⟨"MayBoats$Weave", "keep", "(I)V"⟩, prog_11_method_5_code, 3, (Option.none : Option Jvm.ClassFile.FieldType), 0)
abbrev k_M100 : cMth := (⟨"MayBoats$Weave", "tryFrom", "(II)V"⟩, prog_11_method_6_code, 4, (Option.none : Option Jvm.ClassFile.FieldType), 0)
abbrev k_M101 : cMth := (⟨"MayBoats$Weave", "judge", "()V"⟩, prog_11_method_7_code, 7, (Option.none : Option Jvm.ClassFile.FieldType), 0)
abbrev k_M102 : cMth := (⟨"MayBoats$Weave", "hasGap", "(I)Z"⟩, prog_11_method_8_code, 9, (Option.some Jvm.ClassFile.FieldType.boolean), 0)
abbrev k_M103 : cMth := (⟨"MayBoats$Writing", "<init>", "(LMayBoats$Book;LMayBoats$Tally;)V"⟩, prog_12_method_1_code, 3, (Option.none : Option Jvm.ClassFile.FieldType), 2)
abbrev k_M104 : cMth := (⟨"MayBoats$Writing", "run", "(I)V"⟩, prog_12_method_2_code, 2, (Option.none : Option Jvm.ClassFile.FieldType), 0)
abbrev k_M105 : cMth := (⟨"MayBoats$Writing", "doSteps", "(III)V"⟩, prog_12_method_3_code, 6, (Option.none : Option Jvm.ClassFile.FieldType), 0)
abbrev k_M106 : cMth := (⟨"MayBoats$Writing", "doStep", "(II)I"⟩, prog_12_method_4_code, 5, (Option.some Jvm.ClassFile.FieldType.int), 0)
abbrev k_M107 : cMth := (⟨"MayBoats$Writing", "doEach", "(II)V"⟩, prog_12_method_5_code, 5, (Option.none : Option Jvm.ClassFile.FieldType), 0)
abbrev k_M108 : cMth := (⟨"MayBoats$Writing", "isReached", "(J)Z"⟩, prog_12_method_6_code, 3, (Option.some Jvm.ClassFile.FieldType.boolean), 0)
abbrev k_M109 : cMth := (⟨"MayBoats$Writing", "doTry", "()V"⟩, prog_12_method_7_code, 1, (Option.none : Option Jvm.ClassFile.FieldType), 0)
abbrev k_M110 : cMth := (⟨"MayBoats$Writing", "changeSight", "(III)V"⟩, prog_12_method_8_code, 5, (Option.none : Option Jvm.ClassFile.FieldType), 0)
abbrev k_M111 : cMth := (⟨"MayBoats", "<init>", "()V"⟩, prog_1_method_1_code, 1, (Option.none : Option Jvm.ClassFile.FieldType), 2)
abbrev k_M112 : cMth := (⟨"MayBoats", "status", "()I"⟩, prog_1_method_2_code, 1, (Option.some Jvm.ClassFile.FieldType.int), 0)
abbrev k_M113 : cMth := (⟨"MayBoats", "top", "()J"⟩, prog_1_method_3_code, 1, (Option.some Jvm.ClassFile.FieldType.long), 0)
abbrev k_M114 : cMth := (⟨"MayBoats", "bottom", "()J"⟩, prog_1_method_4_code, 1, (Option.some Jvm.ClassFile.FieldType.long), 0)
abbrev k_M115 : cMth := (⟨"MayBoats", "refuse", "(I)Z"⟩, prog_1_method_5_code, 2, (Option.some Jvm.ClassFile.FieldType.boolean), 0)
abbrev k_M116 : cMth := (⟨"MayBoats", "none", "(I)I"⟩, prog_1_method_6_code, 2, (Option.some Jvm.ClassFile.FieldType.int), 0)
abbrev k_M117 : cMth := (⟨"MayBoats", "grant", "()Z"⟩, prog_1_method_7_code, 1, (Option.some Jvm.ClassFile.FieldType.boolean), 0)
abbrev k_M118 : cMth := (⟨"MayBoats", "give", "(I)I"⟩, prog_1_method_8_code, 2, (Option.some Jvm.ClassFile.FieldType.int), 0)
abbrev k_M119 : cMth := (⟨"MayBoats", "tell", "(JJ)Z"⟩, prog_1_method_9_code, 5, (Option.some Jvm.ClassFile.FieldType.boolean), 0)
abbrev k_M120 : cMth := (⟨"MayBoats", "isWithin", "(JJJ)Z"⟩, prog_1_method_10_code, 6, (Option.some Jvm.ClassFile.FieldType.boolean), 1)
abbrev k_M121 : cMth := (⟨"MayBoats", "allOf", "(I)I"⟩, prog_1_method_11_code, 1, (Option.some Jvm.ClassFile.FieldType.int), 1)
abbrev k_M122 : cMth := (⟨"MayBoats", "holds", "(II)Z"⟩, prog_1_method_12_code, 2, (Option.some Jvm.ClassFile.FieldType.boolean), 1)
abbrev k_M123 : cMth := (⟨"MayBoats", "tray", "(III)Z"⟩, prog_1_method_13_code, 4, (Option.some Jvm.ClassFile.FieldType.boolean), 0)
abbrev k_M124 : cMth := (⟨"MayBoats", "placeStatus", "(II)I"⟩, prog_1_method_14_code, 3, (Option.some Jvm.ClassFile.FieldType.int), 0)
abbrev k_M125 : cMth := (⟨"MayBoats", "write", "(IIJ)Z"⟩, prog_1_method_15_code, 6, (Option.some Jvm.ClassFile.FieldType.boolean), 0)
abbrev k_M126 : cMth := (⟨"MayBoats", "cutTo", "(IJ)J"⟩, prog_1_method_16_code, 3, (Option.some Jvm.ClassFile.FieldType.long), 1)
abbrev k_M127 : cMth := (⟨"MayBoats", "read", "(II)J"⟩, prog_1_method_17_code, 4, (Option.some Jvm.ClassFile.FieldType.long), 0)
abbrev k_M128 : cMth := (⟨"MayBoats", "pour", "(IIIII)Z"⟩, prog_1_method_18_code, 6, (Option.some Jvm.ClassFile.FieldType.boolean), 0)
abbrev k_M129 : cMth := (⟨"MayBoats", "feed", "(IIIII)I"⟩, prog_1_method_19_code, 6, (Option.some Jvm.ClassFile.FieldType.int), 0)
abbrev k_M130 : cMth := (⟨"MayBoats", "feedBytes", "(I)V"⟩, prog_1_method_20_code, 3, (Option.none : Option Jvm.ClassFile.FieldType), 0)
abbrev k_M131 : cMth := (⟨"MayBoats", "scanTape", "(I)V"⟩, prog_1_method_21_code, 2, (Option.none : Option Jvm.ClassFile.FieldType), 0)
abbrev k_M132 : cMth := (⟨"MayBoats", "land", "(I)I"⟩, prog_1_method_22_code, 3, (Option.some Jvm.ClassFile.FieldType.int), 0)
abbrev k_M133 : cMth := (⟨"MayBoats", "fault", "(I)I"⟩, prog_1_method_23_code, 2, (Option.some Jvm.ClassFile.FieldType.int), 0)
abbrev k_M134 : cMth := (⟨"MayBoats", "many", "(I)I"⟩, prog_1_method_24_code, 2, (Option.some Jvm.ClassFile.FieldType.int), 0)
abbrev k_M135 : cMth := (⟨"MayBoats", "isTown", "(I)Z"⟩, prog_1_method_25_code, 2, (Option.some Jvm.ClassFile.FieldType.boolean), 0)
abbrev k_M136 : cMth := (⟨"MayBoats", "isKind", "(I)Z"⟩, prog_1_method_26_code, 2, (Option.some Jvm.ClassFile.FieldType.boolean), 0)
abbrev k_M137 : cMth := (⟨"MayBoats", "isLaw", "(I)Z"⟩, prog_1_method_27_code, 2, (Option.some Jvm.ClassFile.FieldType.boolean), 0)
abbrev k_M138 : cMth := (⟨"MayBoats", "isBoat", "(I)Z"⟩, prog_1_method_28_code, 2, (Option.some Jvm.ClassFile.FieldType.boolean), 0)
abbrev k_M139 : cMth := (⟨"MayBoats", "isSheet", "(I)Z"⟩, prog_1_method_29_code, 2, (Option.some Jvm.ClassFile.FieldType.boolean), 0)
abbrev k_M140 : cMth := (⟨"MayBoats", "areTowns", "(I)Z"⟩, prog_1_method_30_code, 2, (Option.some Jvm.ClassFile.FieldType.boolean), 0)
abbrev k_M141 : cMth := (⟨"MayBoats", "areYears", "(II)Z"⟩, prog_1_method_31_code, 2, (Option.some Jvm.ClassFile.FieldType.boolean), 1)
abbrev k_M142 : cMth := (⟨"MayBoats", "townOf", "(I)I"⟩, prog_1_method_32_code, 2, (Option.some Jvm.ClassFile.FieldType.int), 0)
abbrev k_M143 : cMth := (⟨"MayBoats", "boat", "(II)I"⟩, prog_1_method_33_code, 3, (Option.some Jvm.ClassFile.FieldType.int), 0)
abbrev k_M144 : cMth := (⟨"MayBoats", "tells", "(IIIIII)I"⟩, prog_1_method_34_code, 7, (Option.some Jvm.ClassFile.FieldType.int), 0)
abbrev k_M145 : cMth := (⟨"MayBoats", "sheet", "(I)I"⟩, prog_1_method_35_code, 3, (Option.some Jvm.ClassFile.FieldType.int), 0)
abbrev k_M146 : cMth := (⟨"MayBoats", "look", "(II)I"⟩, prog_1_method_36_code, 4, (Option.some Jvm.ClassFile.FieldType.int), 0)
abbrev k_M147 : cMth := (⟨"MayBoats", "say", "(IZI)Z"⟩, prog_1_method_37_code, 4, (Option.some Jvm.ClassFile.FieldType.boolean), 0)
abbrev k_M148 : cMth := (⟨"MayBoats", "beside", "(I)Z"⟩, prog_1_method_38_code, 2, (Option.some Jvm.ClassFile.FieldType.boolean), 0)
abbrev k_M149 : cMth := (⟨"MayBoats", "cut", "(II)Z"⟩, prog_1_method_39_code, 3, (Option.some Jvm.ClassFile.FieldType.boolean), 0)
abbrev k_M150 : cMth := (⟨"MayBoats", "years", "(IIII)Z"⟩, prog_1_method_40_code, 5, (Option.some Jvm.ClassFile.FieldType.boolean), 0)
abbrev k_M151 : cMth := (⟨"MayBoats", "rents", "(Z)Z"⟩, prog_1_method_41_code, 2, (Option.some Jvm.ClassFile.FieldType.boolean), 0)
abbrev k_M152 : cMth := (⟨"MayBoats", "sight", "(I)I"⟩, prog_1_method_42_code, 3, (Option.some Jvm.ClassFile.FieldType.int), 0)
abbrev k_M153 : cMth := (⟨"MayBoats", "pickStatus", "(III)I"⟩, prog_1_method_43_code, 4, (Option.some Jvm.ClassFile.FieldType.int), 0)
abbrev k_M154 : cMth := (⟨"MayBoats", "counts", "(III)I"⟩, prog_1_method_44_code, 5, (Option.some Jvm.ClassFile.FieldType.int), 0)
abbrev k_M155 : cMth := (⟨"MayBoats", "mean", "(III)Z"⟩, prog_1_method_45_code, 5, (Option.some Jvm.ClassFile.FieldType.boolean), 0)
abbrev k_M156 : cMth := (⟨"MayBoats", "hasDiffer", "(I)Z"⟩, prog_1_method_46_code, 2, (Option.some Jvm.ClassFile.FieldType.boolean), 0)
abbrev k_M157 : cMth := (⟨"MayBoats", "differ", "(I)Z"⟩, prog_1_method_47_code, 2, (Option.some Jvm.ClassFile.FieldType.boolean), 0)
abbrev k_M158 : cMth := (⟨"MayBoats", "boatStatus", "(I)I"⟩, prog_1_method_48_code, 2, (Option.some Jvm.ClassFile.FieldType.int), 0)
abbrev k_M159 : cMth := (⟨"MayBoats", "countPlayed", "(IZ)I"⟩, prog_1_method_49_code, 6, (Option.some Jvm.ClassFile.FieldType.int), 0)
abbrev k_M160 : cMth := (⟨"MayBoats", "far", "(I)I"⟩, prog_1_method_50_code, 3, (Option.some Jvm.ClassFile.FieldType.int), 0)
abbrev k_M161 : cMth := (⟨"MayBoats", "chance", "(I)Z"⟩, prog_1_method_51_code, 4, (Option.some Jvm.ClassFile.FieldType.boolean), 0)
abbrev k_M162 : cMth := (⟨"MayBoats", "weave", "(II)J"⟩, prog_1_method_52_code, 3, (Option.some Jvm.ClassFile.FieldType.long), 0)
abbrev k_M163 : cMth := (⟨"MayBoats", "woven", "(I)I"⟩, prog_1_method_53_code, 2, (Option.some Jvm.ClassFile.FieldType.int), 0)
abbrev k_M164 : cMth := (⟨"MayBoats", "gap", "(I)Z"⟩, prog_1_method_54_code, 2, (Option.some Jvm.ClassFile.FieldType.boolean), 0)
abbrev k_M165 : cMth := (⟨"MayBoats", "cuts", "(III)I"⟩, prog_1_method_55_code, 7, (Option.some Jvm.ClassFile.FieldType.int), 0)
abbrev k_M166 : cMth := (⟨"MayBoats", "deepest", "(II)I"⟩, prog_1_method_56_code, 6, (Option.some Jvm.ClassFile.FieldType.int), 0)
abbrev k_M167 : cMth := (⟨"MayBoats", "right", "(I)Z"⟩, prog_1_method_57_code, 4, (Option.some Jvm.ClassFile.FieldType.boolean), 0)
abbrev k_M168 : cMth := (⟨"MayBoats", "addRight", "(III)Z"⟩, prog_1_method_58_code, 11, (Option.some Jvm.ClassFile.FieldType.boolean), 0)
abbrev k_M169 : cMth := (⟨"MayBoats", "left", "(IIIIZ)Z"⟩, prog_1_method_59_code, 7, (Option.some Jvm.ClassFile.FieldType.boolean), 0)
abbrev k_M170 : cMth := (⟨"MayBoats", "joined", "()Z"⟩, prog_1_method_60_code, 3, (Option.some Jvm.ClassFile.FieldType.boolean), 0)
abbrev k_M171 : cMth := (⟨"MayBoats", "needs", "(II)I"⟩, prog_1_method_61_code, 7, (Option.some Jvm.ClassFile.FieldType.int), 0)
abbrev k_M172 : cMth := (⟨"MayBoats", "hasEarlier", "(II)Z"⟩, prog_1_method_62_code, 3, (Option.some Jvm.ClassFile.FieldType.boolean), 0)
abbrev k_M173 : cMth := (⟨"MayBoats", "earlier", "(II)Z"⟩, prog_1_method_63_code, 3, (Option.some Jvm.ClassFile.FieldType.boolean), 0)
abbrev k_M174 : cMth := (⟨"MayBoats", "earliers", "(I)I"⟩, prog_1_method_64_code, 5, (Option.some Jvm.ClassFile.FieldType.int), 0)
abbrev k_M175 : cMth := (⟨"MayBoats", "addTrend", "(II)Z"⟩, prog_1_method_65_code, 12, (Option.some Jvm.ClassFile.FieldType.boolean), 0)
abbrev k_M176 : cMth := (⟨"MayBoats", "trend", "(I)Z"⟩, prog_1_method_66_code, 2, (Option.some Jvm.ClassFile.FieldType.boolean), 0)
abbrev k_M177 : cMth := (⟨"MayBoats", "split", "(I)Z"⟩, prog_1_method_67_code, 3, (Option.some Jvm.ClassFile.FieldType.boolean), 0)
abbrev k_M178 : cMth := (⟨"MayBoats", "hasPart", "(IZ)Z"⟩, prog_1_method_68_code, 8, (Option.some Jvm.ClassFile.FieldType.boolean), 0)
abbrev k_M179 : cMth := (⟨"MayBoats", "addPart", "(JJZ)V"⟩, prog_1_method_69_code, 10, (Option.none : Option Jvm.ClassFile.FieldType), 0)
abbrev k_M180 : cMth := (⟨"MayBoats", "mix", "(I)Z"⟩, prog_1_method_70_code, 2, (Option.some Jvm.ClassFile.FieldType.boolean), 0)
abbrev k_M181 : cMth := (⟨"MayBoats", "pure", "(I)Z"⟩, prog_1_method_71_code, 2, (Option.some Jvm.ClassFile.FieldType.boolean), 0)
abbrev k_M182 : cMth := (⟨"MayBoats", "nextDraw", "(I)I"⟩, prog_1_method_72_code, 1, (Option.some Jvm.ClassFile.FieldType.int), 1)
abbrev k_M183 : cMth := (⟨"MayBoats", "drawOf", "(I)I"⟩, prog_1_method_73_code, 1, (Option.some Jvm.ClassFile.FieldType.int), 1)
abbrev k_M184 : cMth := (⟨"MayBoats", "world", "(II)I"⟩, prog_1_method_74_code, 8, (Option.some Jvm.ClassFile.FieldType.int), 0)
abbrev k_M185 : cMth := (⟨"MayBoats", "areWorlds", "(II)Z"⟩, prog_1_method_75_code, 2, (Option.some Jvm.ClassFile.FieldType.boolean), 1)
abbrev k_M186 : cMth := (⟨"MayBoats", "span", "(IIIII)I"⟩, prog_1_method_76_code, 13, (Option.some Jvm.ClassFile.FieldType.int), 0)
abbrev k_M187 : cMth := (⟨"MayBoats", "drawnRounded", "(III)J"⟩, prog_1_method_77_code, 4, (Option.some Jvm.ClassFile.FieldType.long), 0)
abbrev k_M188 : cMth := (⟨"MayBoats", "odds", "(IIIII)Z"⟩, prog_1_method_78_code, 13, (Option.some Jvm.ClassFile.FieldType.boolean), 0)
abbrev k_M189 : cMth := (⟨"MayBoats", "isText", "(I)Z"⟩, prog_1_method_79_code, 2, (Option.some Jvm.ClassFile.FieldType.boolean), 0)
abbrev k_M190 : cMth := (⟨"MayBoats", "ways", "(I)I"⟩, prog_1_method_80_code, 3, (Option.some Jvm.ClassFile.FieldType.int), 0)
abbrev k_M191 : cMth := (⟨"MayBoats", "written", "(I)I"⟩, prog_1_method_81_code, 2, (Option.some Jvm.ClassFile.FieldType.int), 0)
abbrev k_M192 : cMth := (⟨"MayBoats", "writ", "(I)I"⟩, prog_1_method_82_code, 2, (Option.some Jvm.ClassFile.FieldType.int), 0)
abbrev k_M193 : cMth := (⟨"MayBoats", "line", "(I)I"⟩, prog_1_method_83_code, 3, (Option.some Jvm.ClassFile.FieldType.int), 0)
abbrev k_M194 : cMth := (⟨"MayBoats", "lineStatus", "(I)I"⟩, prog_1_method_84_code, 2, (Option.some Jvm.ClassFile.FieldType.int), 0)
abbrev k_M195 : cMth := (⟨"MayBoats", "said", "(I)I"⟩, prog_1_method_85_code, 3, (Option.some Jvm.ClassFile.FieldType.int), 0)
abbrev k_M196 : cMth := (⟨"MayBoats", "turned", "(I)I"⟩, prog_1_method_86_code, 3, (Option.some Jvm.ClassFile.FieldType.int), 0)
abbrev k_M197 : cMth := (⟨"MayBoats", "turning", "(I)I"⟩, prog_1_method_87_code, 2, (Option.some Jvm.ClassFile.FieldType.int), 0)
abbrev k_M198 : cMth := (⟨"MayBoats", "mark", "()I"⟩, prog_1_method_88_code, 1, (Option.some Jvm.ClassFile.FieldType.int), 0)
abbrev k_M199 : cMth := (⟨"MayBoats", "back", "()I"⟩, prog_1_method_89_code, 1, (Option.some Jvm.ClassFile.FieldType.int), 0)
abbrev k_M200 : cMth := (⟨"MayBoatsModel", "<init>", "()V"⟩, prog_14_method_1_code, 2, (Option.none : Option Jvm.ClassFile.FieldType), 2)
abbrev k_M201 : cMth := (⟨"MayBoatsModel", "status", "()I"⟩, prog_14_method_3_code, 1, (Option.some Jvm.ClassFile.FieldType.int), 0)
abbrev k_M202 : cMth := (⟨"MayBoatsModel", "top", "()J"⟩, prog_14_method_4_code, 1, (Option.some Jvm.ClassFile.FieldType.long), 0)
abbrev k_M203 : cMth := (⟨"MayBoatsModel", "bottom", "()J"⟩, prog_14_method_5_code, 1, (Option.some Jvm.ClassFile.FieldType.long), 0)
abbrev k_M204 : cMth := (⟨"MayBoatsModel", "refuse", "(I)I"⟩, prog_14_method_6_code, 2, (Option.some Jvm.ClassFile.FieldType.int), 0)
abbrev k_M205 : cMth := (⟨"MayBoatsModel", "no", "(I)Z"⟩, prog_14_method_7_code, 2, (Option.some Jvm.ClassFile.FieldType.boolean), 0)
abbrev k_M206 : cMth := (⟨"MayBoatsModel", "isIn", "(JJJ)Z"⟩, prog_14_method_8_code, 6, (Option.some Jvm.ClassFile.FieldType.boolean), 1)
abbrev k_M207 : cMth := (⟨"MayBoatsModel", "common", "(JJ)J"⟩, prog_14_method_9_code, 10, (Option.some Jvm.ClassFile.FieldType.long), 1)
abbrev k_M208 : cMth := (⟨"MayBoatsModel", "fraction", "(JJ)Z"⟩, prog_14_method_10_code, 7, (Option.some Jvm.ClassFile.FieldType.boolean), 0)
abbrev k_M209 : cMth := (⟨"MayBoatsModel", "cut", "(IJ)J"⟩, prog_14_method_11_code, 3, (Option.some Jvm.ClassFile.FieldType.long), 1)
abbrev k_M210 : cMth := (⟨"MayBoatsModel", "tray", "(III)Z"⟩, prog_14_method_12_code, 5, (Option.some Jvm.ClassFile.FieldType.boolean), 0)
abbrev k_M211 : cMth := (⟨"MayBoatsModel", "trayed", "(I)I"⟩, prog_14_method_13_code, 2, (Option.some Jvm.ClassFile.FieldType.int), 0)
abbrev k_M212 : cMth := (⟨"MayBoatsModel", "placed", "(II)I"⟩, prog_14_method_14_code, 4, (Option.some Jvm.ClassFile.FieldType.int), 0)
abbrev k_M213 : cMth := (⟨"MayBoatsModel", "write", "(IIJ)Z"⟩, prog_14_method_15_code, 5, (Option.some Jvm.ClassFile.FieldType.boolean), 0)
abbrev k_M214 : cMth := (⟨"MayBoatsModel", "read", "(II)J"⟩, prog_14_method_16_code, 3, (Option.some Jvm.ClassFile.FieldType.long), 0)
abbrev k_M215 : cMth := (⟨"MayBoatsModel", "pour", "(IIIII)Z"⟩, prog_14_method_17_code, 9, (Option.some Jvm.ClassFile.FieldType.boolean), 0)
abbrev k_M216 : cMth := (⟨"MayBoatsModel", "numberOf", "(II)J"⟩, prog_14_method_18_code, 3, (Option.some Jvm.ClassFile.FieldType.long), 0)
abbrev k_M217 : cMth := (⟨"MayBoatsModel", "isTray", "(I)Z"⟩, prog_14_method_19_code, 2, (Option.some Jvm.ClassFile.FieldType.boolean), 0)
abbrev k_M218 : cMth := (⟨"MayBoatsModel", "look2", "(I)I"⟩, prog_14_method_20_code, 2, (Option.some Jvm.ClassFile.FieldType.int), 0)
abbrev k_M219 : cMth := (⟨"MayBoatsModel", "isLetter", "(I)Z"⟩, prog_14_method_21_code, 1, (Option.some Jvm.ClassFile.FieldType.boolean), 1)
abbrev k_M220 : cMth := (⟨"MayBoatsModel", "isDigit", "(I)Z"⟩, prog_14_method_22_code, 1, (Option.some Jvm.ClassFile.FieldType.boolean), 1)
abbrev k_M221 : cMth := (⟨"MayBoatsModel", "isSignByte", "(I)Z"⟩, prog_14_method_23_code, 1, (Option.some Jvm.ClassFile.FieldType.boolean), 1)
abbrev k_M222 : cMth := (⟨"MayBoatsModel", "next", "()V"⟩, prog_14_method_24_code, 2, (Option.none : Option Jvm.ClassFile.FieldType), 0)
abbrev k_M223 : cMth := (⟨"MayBoatsModel", "isSign", "(I)Z"⟩, prog_14_method_25_code, 2, (Option.some Jvm.ClassFile.FieldType.boolean), 0)
abbrev k_M224 : cMth := (⟨"MayBoatsModel", "spelled", "(IIIIII)J"⟩, prog_14_method_26_code, 8, (Option.some Jvm.ClassFile.FieldType.long), 1)
abbrev k_M225 : cMth := (⟨"MayBoatsModel", "isWord", "(J)Z"⟩, prog_14_method_27_code, 3, (Option.some Jvm.ClassFile.FieldType.boolean), 0)
abbrev k_M226 : cMth := (⟨"MayBoatsModel", "isTownWord", "()Z"⟩, prog_14_method_28_code, 1, (Option.some Jvm.ClassFile.FieldType.boolean), 0)
abbrev k_M227 : cMth := (⟨"MayBoatsModel", "isKindWord", "()Z"⟩, prog_14_method_29_code, 1, (Option.some Jvm.ClassFile.FieldType.boolean), 0)
abbrev k_M228 : cMth := (⟨"MayBoatsModel", "isBoatWord", "()Z"⟩, prog_14_method_30_code, 1, (Option.some Jvm.ClassFile.FieldType.boolean), 0)
abbrev k_M229 : cMth := (⟨"MayBoatsModel", "isLawWord", "()Z"⟩, prog_14_method_31_code, 1, (Option.some Jvm.ClassFile.FieldType.boolean), 0)
abbrev k_M230 : cMth := (⟨"MayBoatsModel", "variable", "()I"⟩, prog_14_method_32_code, 1, (Option.some Jvm.ClassFile.FieldType.int), 0)
abbrev k_M231 : cMth := (⟨"MayBoatsModel", "isLandName", "()Z"⟩, prog_14_method_33_code, 1, (Option.some Jvm.ClassFile.FieldType.boolean), 0)
abbrev k_M232 : cMth := (⟨"MayBoatsModel", "fail", "(II)V"⟩, prog_14_method_34_code, 3, (Option.none : Option Jvm.ClassFile.FieldType), 0)
abbrev k_M233 : cMth := (⟨"MayBoatsModel", "wrong", "()V"⟩, prog_14_method_35_code, 1, (Option.none : Option Jvm.ClassFile.FieldType), 0)
abbrev k_M234 : cMth := (⟨"MayBoatsModel", "must", "(Z)V"⟩, prog_14_method_36_code, 2, (Option.none : Option Jvm.ClassFile.FieldType), 0)
abbrev k_M235 : cMth := (⟨"MayBoatsModel", "count", "(II)I"⟩, prog_14_method_37_code, 4, (Option.some Jvm.ClassFile.FieldType.int), 0)
abbrev k_M236 : cMth := (⟨"MayBoatsModel", "feed", "(IIIII)I"⟩, prog_14_method_38_code, 6, (Option.some Jvm.ClassFile.FieldType.int), 0)
abbrev k_M237 : cMth := (⟨"MayBoatsModel", "lay", "(I)V"⟩, prog_14_method_39_code, 3, (Option.none : Option Jvm.ClassFile.FieldType), 0)
abbrev k_M238 : cMth := (⟨"MayBoatsModel", "opens", "(II)Z"⟩, prog_14_method_40_code, 3, (Option.some Jvm.ClassFile.FieldType.boolean), 0)
abbrev k_M239 : cMth := (⟨"MayBoatsModel", "isWell", "()Z"⟩, prog_14_method_41_code, 1, (Option.some Jvm.ClassFile.FieldType.boolean), 0)
abbrev k_M240 : cMth := (⟨"MayBoatsModel", "named", "(III)I"⟩, prog_14_method_42_code, 5, (Option.some Jvm.ClassFile.FieldType.int), 0)
abbrev k_M241 : cMth := (⟨"MayBoatsModel", "isNamed", "()Z"⟩, prog_14_method_43_code, 1, (Option.some Jvm.ClassFile.FieldType.boolean), 0)
abbrev k_M242 : cMth := (⟨"MayBoatsModel", "readNamed", "(III)V"⟩, prog_14_method_44_code, 4, (Option.none : Option Jvm.ClassFile.FieldType), 0)
abbrev k_M243 : cMth := (⟨"MayBoatsModel", "readBoat", "()V"⟩, prog_14_method_45_code, 4, (Option.none : Option Jvm.ClassFile.FieldType), 0)
abbrev k_M244 : cMth := (⟨"MayBoatsModel", "code", "(II)V"⟩, prog_14_method_46_code, 3, (Option.none : Option Jvm.ClassFile.FieldType), 0)
abbrev k_M245 : cMth := (⟨"MayBoatsModel", "readAtom", "()V"⟩, prog_14_method_47_code, 2, (Option.none : Option Jvm.ClassFile.FieldType), 0)
abbrev k_M246 : cMth := (⟨"MayBoatsModel", "readItem", "()V"⟩, prog_14_method_48_code, 2, (Option.none : Option Jvm.ClassFile.FieldType), 0)
abbrev k_M247 : cMth := (⟨"MayBoatsModel", "readSum", "()V"⟩, prog_14_method_49_code, 2, (Option.none : Option Jvm.ClassFile.FieldType), 0)
abbrev k_M248 : cMth := (⟨"MayBoatsModel", "readLaw", "()V"⟩, prog_14_method_50_code, 2, (Option.none : Option Jvm.ClassFile.FieldType), 0)
abbrev k_M249 : cMth := (⟨"MayBoatsModel", "firstSight", "(I)V"⟩, prog_14_method_51_code, 3, (Option.none : Option Jvm.ClassFile.FieldType), 0)
abbrev k_M250 : cMth := (⟨"MayBoatsModel", "land", "(I)I"⟩, prog_14_method_52_code, 3, (Option.some Jvm.ClassFile.FieldType.int), 0)
abbrev k_M251 : cMth := (⟨"MayBoatsModel", "fault", "(I)I"⟩, prog_14_method_53_code, 2, (Option.some Jvm.ClassFile.FieldType.int), 0)
abbrev k_M252 : cMth := (⟨"MayBoatsModel", "isTown", "(J)Z"⟩, prog_14_method_54_code, 3, (Option.some Jvm.ClassFile.FieldType.boolean), 0)
abbrev k_M253 : cMth := (⟨"MayBoatsModel", "isKind", "(J)Z"⟩, prog_14_method_55_code, 3, (Option.some Jvm.ClassFile.FieldType.boolean), 0)
abbrev k_M254 : cMth := (⟨"MayBoatsModel", "isBoat", "(I)Z"⟩, prog_14_method_56_code, 2, (Option.some Jvm.ClassFile.FieldType.boolean), 0)
abbrev k_M255 : cMth := (⟨"MayBoatsModel", "isLaw", "(I)Z"⟩, prog_14_method_57_code, 2, (Option.some Jvm.ClassFile.FieldType.boolean), 0)
abbrev k_M256 : cMth := (⟨"MayBoatsModel", "isSheet", "(I)Z"⟩, prog_14_method_58_code, 2, (Option.some Jvm.ClassFile.FieldType.boolean), 0)
abbrev k_M257 : cMth := (⟨"MayBoatsModel", "many", "(I)I"⟩, prog_14_method_59_code, 2, (Option.some Jvm.ClassFile.FieldType.int), 0)
abbrev k_M258 : cMth := (⟨"MayBoatsModel", "boat", "(II)I"⟩, prog_14_method_60_code, 3, (Option.some Jvm.ClassFile.FieldType.int), 0)
abbrev k_M259 : cMth := (⟨"MayBoatsModel", "reckon", "(IJJ)J"⟩, prog_14_method_61_code, 5, (Option.some Jvm.ClassFile.FieldType.long), 1)
abbrev k_M260 : cMth := (⟨"MayBoatsModel", "hit", "(II)I"⟩, prog_14_method_62_code, 4, (Option.some Jvm.ClassFile.FieldType.int), 0)
abbrev k_M261 : cMth := (⟨"MayBoatsModel", "tellsBy", "(IIIIII)I"⟩, prog_14_method_63_code, 10, (Option.some Jvm.ClassFile.FieldType.int), 0)
abbrev k_M262 : cMth := (⟨"MayBoatsModel", "tells", "(IIIIII)I"⟩, prog_14_method_64_code, 7, (Option.some Jvm.ClassFile.FieldType.int), 0)
abbrev k_M263 : cMth := (⟨"MayBoatsModel", "cell", "(II)I"⟩, prog_14_method_65_code, 3, (Option.some Jvm.ClassFile.FieldType.int), 0)
abbrev k_M264 : cMth := (⟨"MayBoatsModel", "sheet", "(I)I"⟩, prog_14_method_66_code, 4, (Option.some Jvm.ClassFile.FieldType.int), 0)
abbrev k_M265 : cMth := (⟨"MayBoatsModel", "look", "(II)I"⟩, prog_14_method_67_code, 3, (Option.some Jvm.ClassFile.FieldType.int), 0)
abbrev k_M266 : cMth := (⟨"MayBoatsModel", "say", "(IZI)Z"⟩, prog_14_method_68_code, 4, (Option.some Jvm.ClassFile.FieldType.boolean), 0)
abbrev k_M267 : cMth := (⟨"MayBoatsModel", "beside", "(I)Z"⟩, prog_14_method_69_code, 2, (Option.some Jvm.ClassFile.FieldType.boolean), 0)
abbrev k_M268 : cMth := (⟨"MayBoatsModel", "cut", "(II)Z"⟩, prog_14_method_70_code, 3, (Option.some Jvm.ClassFile.FieldType.boolean), 0)
abbrev k_M269 : cMth := (⟨"MayBoatsModel", "years", "(IIII)Z"⟩, prog_14_method_71_code, 5, (Option.some Jvm.ClassFile.FieldType.boolean), 0)
abbrev k_M270 : cMth := (⟨"MayBoatsModel", "rents", "(Z)Z"⟩, prog_14_method_72_code, 2, (Option.some Jvm.ClassFile.FieldType.boolean), 0)
abbrev k_M271 : cMth := (⟨"MayBoatsModel", "sight", "(I)I"⟩, prog_14_method_73_code, 2, (Option.some Jvm.ClassFile.FieldType.int), 0)
abbrev k_M272 : cMth := (⟨"MayBoatsModel", "saidBy", "(I)I"⟩, prog_14_method_74_code, 2, (Option.some Jvm.ClassFile.FieldType.int), 0)
abbrev k_M273 : cMth := (⟨"MayBoatsModel", "isCounted", "(IIIII)Z"⟩, prog_14_method_75_code, 6, (Option.some Jvm.ClassFile.FieldType.boolean), 0)
abbrev k_M274 : cMth := (⟨"MayBoatsModel", "gather", "(IIIII)V"⟩, prog_14_method_76_code, 7, (Option.none : Option Jvm.ClassFile.FieldType), 0)
abbrev k_M275 : cMth := (⟨"MayBoatsModel", "isSpan", "(II)Z"⟩, prog_14_method_77_code, 3, (Option.some Jvm.ClassFile.FieldType.boolean), 0)
abbrev k_M276 : cMth := (⟨"MayBoatsModel", "counts", "(III)I"⟩, prog_14_method_78_code, 4, (Option.some Jvm.ClassFile.FieldType.int), 0)
abbrev k_M277 : cMth := (⟨"MayBoatsModel", "mean", "(III)Z"⟩, prog_14_method_79_code, 4, (Option.some Jvm.ClassFile.FieldType.boolean), 0)
abbrev k_M278 : cMth := (⟨"MayBoatsModel", "none", "()V"⟩, prog_14_method_80_code, 1, (Option.none : Option Jvm.ClassFile.FieldType), 0)
abbrev k_M279 : cMth := (⟨"MayBoatsModel", "addTo", "(JJ)V"⟩, prog_14_method_81_code, 7, (Option.none : Option Jvm.ClassFile.FieldType), 0)
abbrev k_M280 : cMth := (⟨"MayBoatsModel", "isMixed", "()Z"⟩, prog_14_method_82_code, 1, (Option.some Jvm.ClassFile.FieldType.boolean), 0)
abbrev k_M281 : cMth := (⟨"MayBoatsModel", "gatherAll", "(II)Z"⟩, prog_14_method_83_code, 4, (Option.some Jvm.ClassFile.FieldType.boolean), 0)
abbrev k_M282 : cMth := (⟨"MayBoatsModel", "differBy", "(II)Z"⟩, prog_14_method_84_code, 3, (Option.some Jvm.ClassFile.FieldType.boolean), 0)
abbrev k_M283 : cMth := (⟨"MayBoatsModel", "boatDiffers", "(I)Z"⟩, prog_14_method_85_code, 2, (Option.some Jvm.ClassFile.FieldType.boolean), 0)
abbrev k_M284 : cMth := (⟨"MayBoatsModel", "tellTop", "()Z"⟩, prog_14_method_86_code, 1, (Option.some Jvm.ClassFile.FieldType.boolean), 0)
abbrev k_M285 : cMth := (⟨"MayBoatsModel", "differ", "(I)Z"⟩, prog_14_method_87_code, 2, (Option.some Jvm.ClassFile.FieldType.boolean), 0)
abbrev k_M286 : cMth := (⟨"MayBoatsModel", "farBy", "(I)I"⟩, prog_14_method_88_code, 10, (Option.some Jvm.ClassFile.FieldType.int), 0)
abbrev k_M287 : cMth := (⟨"MayBoatsModel", "far", "(I)I"⟩, prog_14_method_89_code, 3, (Option.some Jvm.ClassFile.FieldType.int), 0)
abbrev k_M288 : cMth := (⟨"MayBoatsModel", "chance", "(I)Z"⟩, prog_14_method_90_code, 3, (Option.some Jvm.ClassFile.FieldType.boolean), 0)
abbrev k_M289 : cMth := (⟨"MayBoatsModel", "price", "(II)J"⟩, prog_14_method_91_code, 3, (Option.some Jvm.ClassFile.FieldType.long), 0)
abbrev k_M290 : cMth := (⟨"MayBoatsModel", "weaveFrom", "(II)V"⟩, prog_14_method_92_code, 9, (Option.none : Option Jvm.ClassFile.FieldType), 0)
abbrev k_M291 : cMth := (⟨"MayBoatsModel", "weave", "(II)J"⟩, prog_14_method_93_code, 7, (Option.some Jvm.ClassFile.FieldType.long), 0)
abbrev k_M292 : cMth := (⟨"MayBoatsModel", "woven", "(I)I"⟩, prog_14_method_94_code, 2, (Option.some Jvm.ClassFile.FieldType.int), 0)
abbrev k_M293 : cMth := (⟨"MayBoatsModel", "gap", "(I)Z"⟩, prog_14_method_95_code, 7, (Option.some Jvm.ClassFile.FieldType.boolean), 0)
abbrev k_M294 : cMth := (⟨"MayBoatsModel", "isOf", "(I)Z"⟩, prog_14_method_96_code, 2, (Option.some Jvm.ClassFile.FieldType.boolean), 0)
abbrev k_M295 : cMth := (⟨"MayBoatsModel", "cuts", "(III)I"⟩, prog_14_method_97_code, 7, (Option.some Jvm.ClassFile.FieldType.int), 0)
abbrev k_M296 : cMth := (⟨"MayBoatsModel", "deepest", "(II)I"⟩, prog_14_method_98_code, 10, (Option.some Jvm.ClassFile.FieldType.int), 0)
abbrev k_M297 : cMth := (⟨"MayBoatsModel", "addRight", "(IJ)Z"⟩, prog_14_method_99_code, 7, (Option.some Jvm.ClassFile.FieldType.boolean), 0)
abbrev k_M298 : cMth := (⟨"MayBoatsModel", "right", "(I)Z"⟩, prog_14_method_100_code, 3, (Option.some Jvm.ClassFile.FieldType.boolean), 0)
abbrev k_M299 : cMth := (⟨"MayBoatsModel", "left", "(IIIIZ)Z"⟩, prog_14_method_101_code, 6, (Option.some Jvm.ClassFile.FieldType.boolean), 0)
abbrev k_M300 : cMth := (⟨"MayBoatsModel", "joined", "()Z"⟩, prog_14_method_102_code, 7, (Option.some Jvm.ClassFile.FieldType.boolean), 0)
abbrev k_M301 : cMth := (⟨"MayBoatsModel", "needs", "(II)I"⟩, prog_14_method_103_code, 5, (Option.some Jvm.ClassFile.FieldType.int), 0)
abbrev k_M302 : cMth := (⟨"MayBoatsModel", "earlierBy", "(II)Z"⟩, prog_14_method_104_code, 7, (Option.some Jvm.ClassFile.FieldType.boolean), 0)
abbrev k_M303 : cMth := (⟨"MayBoatsModel", "earlier", "(II)Z"⟩, prog_14_method_105_code, 3, (Option.some Jvm.ClassFile.FieldType.boolean), 0)
abbrev k_M304 : cMth := (⟨"MayBoatsModel", "earliers", "(I)I"⟩, prog_14_method_106_code, 8, (Option.some Jvm.ClassFile.FieldType.int), 0)
abbrev k_M305 : cMth := (⟨"MayBoatsModel", "slope", "(I)Z"⟩, prog_14_method_107_code, 10, (Option.some Jvm.ClassFile.FieldType.boolean), 0)
abbrev k_M306 : cMth := (⟨"MayBoatsModel", "trend", "(I)Z"⟩, prog_14_method_108_code, 2, (Option.some Jvm.ClassFile.FieldType.boolean), 0)
abbrev k_M307 : cMth := (⟨"MayBoatsModel", "split", "(I)Z"⟩, prog_14_method_109_code, 6, (Option.some Jvm.ClassFile.FieldType.boolean), 0)
abbrev k_M308 : cMth := (⟨"MayBoatsModel", "gatherKind", "(II)V"⟩, prog_14_method_110_code, 4, (Option.none : Option Jvm.ClassFile.FieldType), 0)
abbrev k_M309 : cMth := (⟨"MayBoatsModel", "part", "(IZ)Z"⟩, prog_14_method_111_code, 8, (Option.some Jvm.ClassFile.FieldType.boolean), 0)
abbrev k_M310 : cMth := (⟨"MayBoatsModel", "mix", "(I)Z"⟩, prog_14_method_112_code, 2, (Option.some Jvm.ClassFile.FieldType.boolean), 0)
abbrev k_M311 : cMth := (⟨"MayBoatsModel", "pure", "(I)Z"⟩, prog_14_method_113_code, 2, (Option.some Jvm.ClassFile.FieldType.boolean), 0)
abbrev k_M312 : cMth := (⟨"MayBoatsModel", "draw", "()I"⟩, prog_14_method_114_code, 1, (Option.some Jvm.ClassFile.FieldType.int), 0)
abbrev k_M313 : cMth := (⟨"MayBoatsModel", "drawWorld", "(II)I"⟩, prog_14_method_115_code, 7, (Option.some Jvm.ClassFile.FieldType.int), 0)
abbrev k_M314 : cMth := (⟨"MayBoatsModel", "world", "(II)I"⟩, prog_14_method_116_code, 3, (Option.some Jvm.ClassFile.FieldType.int), 0)
abbrev k_M315 : cMth := (⟨"MayBoatsModel", "keepWages", "()V"⟩, prog_14_method_117_code, 2, (Option.none : Option Jvm.ClassFile.FieldType), 0)
abbrev k_M316 : cMth := (⟨"MayBoatsModel", "giveWages", "()V"⟩, prog_14_method_118_code, 2, (Option.none : Option Jvm.ClassFile.FieldType), 0)
abbrev k_M317 : cMth := (⟨"MayBoatsModel", "rounded", "()J"⟩, prog_14_method_119_code, 1, (Option.some Jvm.ClassFile.FieldType.long), 0)
abbrev k_M318 : cMth := (⟨"MayBoatsModel", "span", "(IIIII)I"⟩, prog_14_method_120_code, 12, (Option.some Jvm.ClassFile.FieldType.int), 0)
abbrev k_M319 : cMth := (⟨"MayBoatsModel", "odds", "(IIIII)Z"⟩, prog_14_method_121_code, 13, (Option.some Jvm.ClassFile.FieldType.boolean), 0)
abbrev k_M320 : cMth := (⟨"MayBoatsModel", "stepWord", "()I"⟩, prog_14_method_122_code, 1, (Option.some Jvm.ClassFile.FieldType.int), 0)
abbrev k_M321 : cMth := (⟨"MayBoatsModel", "isEnd", "()Z"⟩, prog_14_method_123_code, 1, (Option.some Jvm.ClassFile.FieldType.boolean), 0)
abbrev k_M322 : cMth := (⟨"MayBoatsModel", "readSet", "(Z)I"⟩, prog_14_method_124_code, 5, (Option.some Jvm.ClassFile.FieldType.int), 0)
abbrev k_M323 : cMth := (⟨"MayBoatsModel", "readStreets", "()I"⟩, prog_14_method_125_code, 3, (Option.some Jvm.ClassFile.FieldType.int), 0)
abbrev k_M324 : cMth := (⟨"MayBoatsModel", "readStep", "(I)V"⟩, prog_14_method_126_code, 5, (Option.none : Option Jvm.ClassFile.FieldType), 0)
abbrev k_M325 : cMth := (⟨"MayBoatsModel", "ways", "(I)I"⟩, prog_14_method_127_code, 3, (Option.some Jvm.ClassFile.FieldType.int), 0)
abbrev k_M326 : cMth := (⟨"MayBoatsModel", "tryOne", "()V"⟩, prog_14_method_128_code, 1, (Option.none : Option Jvm.ClassFile.FieldType), 0)
abbrev k_M327 : cMth := (⟨"MayBoatsModel", "isFarAs", "(I)Z"⟩, prog_14_method_129_code, 2, (Option.some Jvm.ClassFile.FieldType.boolean), 0)
abbrev k_M328 : cMth := (⟨"MayBoatsModel", "doAll", "(II)V"⟩, prog_14_method_130_code, 4, (Option.none : Option Jvm.ClassFile.FieldType), 0)
abbrev k_M329 : cMth := (⟨"MayBoatsModel", "doEach", "(II)V"⟩, prog_14_method_131_code, 5, (Option.none : Option Jvm.ClassFile.FieldType), 0)
abbrev k_M330 : cMth := (⟨"MayBoatsModel", "doOne", "(I)V"⟩, prog_14_method_132_code, 5, (Option.none : Option Jvm.ClassFile.FieldType), 0)
abbrev k_M331 : cMth := (⟨"MayBoatsModel", "written", "(I)I"⟩, prog_14_method_133_code, 3, (Option.some Jvm.ClassFile.FieldType.int), 0)
abbrev k_M332 : cMth := (⟨"MayBoatsModel", "writ", "(I)I"⟩, prog_14_method_134_code, 2, (Option.some Jvm.ClassFile.FieldType.int), 0)
abbrev k_M333 : cMth := (⟨"MayBoatsModel", "isOr", "()Z"⟩, prog_14_method_135_code, 1, (Option.some Jvm.ClassFile.FieldType.boolean), 0)
abbrev k_M334 : cMth := (⟨"MayBoatsModel", "isAnd", "()Z"⟩, prog_14_method_136_code, 1, (Option.some Jvm.ClassFile.FieldType.boolean), 0)
abbrev k_M335 : cMth := (⟨"MayBoatsModel", "isNot", "()Z"⟩, prog_14_method_137_code, 1, (Option.some Jvm.ClassFile.FieldType.boolean), 0)
abbrev k_M336 : cMth := (⟨"MayBoatsModel", "isOf", "()Z"⟩, prog_14_method_138_code, 1, (Option.some Jvm.ClassFile.FieldType.boolean), 0)
abbrev k_M337 : cMth := (⟨"MayBoatsModel", "isLeastWord", "()Z"⟩, prog_14_method_139_code, 1, (Option.some Jvm.ClassFile.FieldType.boolean), 0)
abbrev k_M338 : cMth := (⟨"MayBoatsModel", "claimWord", "()I"⟩, prog_14_method_140_code, 1, (Option.some Jvm.ClassFile.FieldType.int), 0)
abbrev k_M339 : cMth := (⟨"MayBoatsModel", "isLineName", "()Z"⟩, prog_14_method_141_code, 1, (Option.some Jvm.ClassFile.FieldType.boolean), 0)
abbrev k_M340 : cMth := (⟨"MayBoatsModel", "step", "(I)V"⟩, prog_14_method_142_code, 2, (Option.none : Option Jvm.ClassFile.FieldType), 0)
abbrev k_M341 : cMth := (⟨"MayBoatsModel", "readClaim", "()V"⟩, prog_14_method_143_code, 3, (Option.none : Option Jvm.ClassFile.FieldType), 0)
abbrev k_M342 : cMth := (⟨"MayBoatsModel", "readKinds", "()I"⟩, prog_14_method_144_code, 4, (Option.some Jvm.ClassFile.FieldType.int), 0)
abbrev k_M343 : cMth := (⟨"MayBoatsModel", "readOne", "(I)V"⟩, prog_14_method_145_code, 4, (Option.none : Option Jvm.ClassFile.FieldType), 0)
abbrev k_M344 : cMth := (⟨"MayBoatsModel", "readBoth", "(I)V"⟩, prog_14_method_146_code, 2, (Option.none : Option Jvm.ClassFile.FieldType), 0)
abbrev k_M345 : cMth := (⟨"MayBoatsModel", "readEither", "(I)V"⟩, prog_14_method_147_code, 2, (Option.none : Option Jvm.ClassFile.FieldType), 0)
abbrev k_M346 : cMth := (⟨"MayBoatsModel", "line", "(I)I"⟩, prog_14_method_148_code, 3, (Option.some Jvm.ClassFile.FieldType.int), 0)
abbrev k_M347 : cMth := (⟨"MayBoatsModel", "claimed", "(II)I"⟩, prog_14_method_149_code, 9, (Option.some Jvm.ClassFile.FieldType.int), 0)
abbrev k_M348 : cMth := (⟨"MayBoatsModel", "lineBy", "(I)I"⟩, prog_14_method_150_code, 5, (Option.some Jvm.ClassFile.FieldType.int), 0)
abbrev k_M349 : cMth := (⟨"MayBoatsModel", "said", "(I)I"⟩, prog_14_method_151_code, 2, (Option.some Jvm.ClassFile.FieldType.int), 0)
abbrev k_M350 : cMth := (⟨"MayBoatsModel", "hush", "(II)V"⟩, prog_14_method_152_code, 3, (Option.none : Option Jvm.ClassFile.FieldType), 0)
abbrev k_M351 : cMth := (⟨"MayBoatsModel", "giveBack", "(II)V"⟩, prog_14_method_153_code, 3, (Option.none : Option Jvm.ClassFile.FieldType), 0)
abbrev k_M352 : cMth := (⟨"MayBoatsModel", "turned", "(I)I"⟩, prog_14_method_154_code, 6, (Option.some Jvm.ClassFile.FieldType.int), 0)
abbrev k_M353 : cMth := (⟨"MayBoatsModel", "turning", "(I)I"⟩, prog_14_method_155_code, 2, (Option.some Jvm.ClassFile.FieldType.int), 0)
abbrev k_M354 : cMth := (⟨"MayBoatsModel", "copy", "(II)V"⟩, prog_14_method_156_code, 4, (Option.none : Option Jvm.ClassFile.FieldType), 0)
abbrev k_M355 : cMth := (⟨"MayBoatsModel", "mark", "()I"⟩, prog_14_method_157_code, 1, (Option.some Jvm.ClassFile.FieldType.int), 0)
abbrev k_M356 : cMth := (⟨"MayBoatsModel", "back", "()I"⟩, prog_14_method_158_code, 1, (Option.some Jvm.ClassFile.FieldType.int), 0)
abbrev k_M357 : cMth := (⟨"java/lang/Math", "floorDiv", "(JJ)J"⟩, prog_15_method_49_code, 6, (Option.some Jvm.ClassFile.FieldType.long), 1)
abbrev k_M358 : cMth := (⟨"java/lang/Math", "abs", "(J)J"⟩, prog_15_method_61_code, 2, (Option.some Jvm.ClassFile.FieldType.long), 1)
abbrev k_M359 : cMth := (⟨"java/lang/Math", "max", "(II)I"⟩, prog_15_method_65_code, 2, (Option.some Jvm.ClassFile.FieldType.int), 1)
abbrev k_M360 : cMth := (⟨"java/lang/Math", "max", "(JJ)J"⟩, prog_15_method_66_code, 4, (Option.some Jvm.ClassFile.FieldType.long), 1)
abbrev k_M361 : cMth := (⟨"java/lang/Math", "min", "(II)I"⟩, prog_15_method_69_code, 2, (Option.some Jvm.ClassFile.FieldType.int), 1)
abbrev k_M362 : cMth := (⟨"java/lang/Math", "min", "(JJ)J"⟩, prog_15_method_70_code, 4, (Option.some Jvm.ClassFile.FieldType.long), 1)
abbrev k_M363 : cMth := (⟨"java/lang/String", "length", "()I"⟩, prog_16_method_54_code, 1, (Option.some Jvm.ClassFile.FieldType.int), 0)
abbrev k_M364 : cMth := (⟨"java/lang/String", "charAt", "(I)C"⟩, prog_16_method_56_code, 2, (Option.some Jvm.ClassFile.FieldType.char), 0)
abbrev k_M365 : cMth := (⟨"java/lang/String", "coder", "()B"⟩, prog_16_method_152_code, 1, (Option.some Jvm.ClassFile.FieldType.byte), 0)
abbrev k_M366 : cMth := (⟨"java/lang/String", "isLatin1", "()Z"⟩, prog_16_method_154_code, 1, (Option.some Jvm.ClassFile.FieldType.boolean), 0)
abbrev k_M367 : cMth := (⟨"java/lang/String", "checkIndex", "(II)V"⟩, prog_16_method_155_code, 2, (Option.none : Option Jvm.ClassFile.FieldType), 1)
abbrev k_M368 : cMth := (⟨"java/lang/StringLatin1", "charAt", "([BI)C"⟩, prog_17_method_2_code, 2, (Option.some Jvm.ClassFile.FieldType.char), 1)
abbrev k_M369 : cMth := (⟨"java/lang/StringUTF16", "getChar", "([BI)C"⟩, prog_18_method_5_code, 2, (Option.some Jvm.ClassFile.FieldType.char), 1)
abbrev k_M370 : cMth := (⟨"java/lang/StringUTF16", "length", "([B)I"⟩, prog_18_method_6_code, 1, (Option.some Jvm.ClassFile.FieldType.int), 1)
abbrev k_M371 : cMth := (⟨"java/lang/StringUTF16", "charAt", "([BI)C"⟩, prog_18_method_83_code, 2, (Option.some Jvm.ClassFile.FieldType.char), 1)
abbrev k_M372 : cMth := (⟨"java/lang/StringUTF16", "checkIndex", "(I[B)V"⟩, prog_18_method_91_code, 2, (Option.none : Option Jvm.ClassFile.FieldType), 1)
abbrev k_M373 : cMth := (⟨"java/util/Arrays", "fill", "([JJ)V"⟩, prog_20_method_101_code, 5, (Option.none : Option Jvm.ClassFile.FieldType), 1)
abbrev k_M374 : cMth := (⟨"java/util/Arrays", "fill", "([II)V"⟩, prog_20_method_103_code, 4, (Option.none : Option Jvm.ClassFile.FieldType), 1)
abbrev k_M375 : cMth := (⟨"jdk/internal/util/Preconditions", "checkIndex", "(IILjava/util/function/BiFunction;)I"⟩, prog_21_method_11_code, 3, (Option.some Jvm.ClassFile.FieldType.int), 1)
def k_mt0 : List cMth := [k_M0, k_M1, k_M2, k_M3, k_M4, k_M5, k_M6, k_M7, k_M8, k_M9, k_M10, k_M11, k_M12, k_M13, k_M14, k_M15, k_M16, k_M17, k_M18, k_M19]
def k_mt1 : List cMth := [k_M20, k_M21, k_M22, k_M23, k_M24, k_M25, k_M26, k_M27, k_M28, k_M29, k_M30, k_M31, k_M32, k_M33, k_M34, k_M35, k_M36, k_M37, k_M38, k_M39]
def k_mt2 : List cMth := [k_M40, k_M41, k_M42, k_M43, k_M44, k_M45, k_M46, k_M47, k_M48, k_M49, k_M50, k_M51, k_M52, k_M53, k_M54, k_M55, k_M56, k_M57, k_M58, k_M59]
def k_mt3 : List cMth := [k_M60, k_M61, k_M62, k_M63, k_M64, k_M65, k_M66, k_M67, k_M68, k_M69, k_M70, k_M71, k_M72, k_M73, k_M74, k_M75, k_M76, k_M77, k_M78, k_M79]
def k_mt4 : List cMth := [k_M80, k_M81, k_M82, k_M83, k_M84, k_M85, k_M86, k_M87, k_M88, k_M89, k_M90, k_M91, k_M92, k_M93, k_M94, k_M95, k_M96, k_M97, k_M98, k_M99]
def k_mt5 : List cMth := [k_M100, k_M101, k_M102, k_M103, k_M104, k_M105, k_M106, k_M107, k_M108, k_M109, k_M110, k_M111, k_M112, k_M113, k_M114, k_M115, k_M116, k_M117, k_M118, k_M119]
def k_mt6 : List cMth := [k_M120, k_M121, k_M122, k_M123, k_M124, k_M125, k_M126, k_M127, k_M128, k_M129, k_M130, k_M131, k_M132, k_M133, k_M134, k_M135, k_M136, k_M137, k_M138, k_M139]
def k_mt7 : List cMth := [k_M140, k_M141, k_M142, k_M143, k_M144, k_M145, k_M146, k_M147, k_M148, k_M149, k_M150, k_M151, k_M152, k_M153, k_M154, k_M155, k_M156, k_M157, k_M158, k_M159]
def k_mt8 : List cMth := [k_M160, k_M161, k_M162, k_M163, k_M164, k_M165, k_M166, k_M167, k_M168, k_M169, k_M170, k_M171, k_M172, k_M173, k_M174, k_M175, k_M176, k_M177, k_M178, k_M179]
def k_mt9 : List cMth := [k_M180, k_M181, k_M182, k_M183, k_M184, k_M185, k_M186, k_M187, k_M188, k_M189, k_M190, k_M191, k_M192, k_M193, k_M194, k_M195, k_M196, k_M197, k_M198, k_M199]
def k_mt10 : List cMth := [k_M200, k_M201, k_M202, k_M203, k_M204, k_M205, k_M206, k_M207, k_M208, k_M209, k_M210, k_M211, k_M212, k_M213, k_M214, k_M215, k_M216, k_M217, k_M218, k_M219]
def k_mt11 : List cMth := [k_M220, k_M221, k_M222, k_M223, k_M224, k_M225, k_M226, k_M227, k_M228, k_M229, k_M230, k_M231, k_M232, k_M233, k_M234, k_M235, k_M236, k_M237, k_M238, k_M239]
def k_mt12 : List cMth := [k_M240, k_M241, k_M242, k_M243, k_M244, k_M245, k_M246, k_M247, k_M248, k_M249, k_M250, k_M251, k_M252, k_M253, k_M254, k_M255, k_M256, k_M257, k_M258, k_M259]
def k_mt13 : List cMth := [k_M260, k_M261, k_M262, k_M263, k_M264, k_M265, k_M266, k_M267, k_M268, k_M269, k_M270, k_M271, k_M272, k_M273, k_M274, k_M275, k_M276, k_M277, k_M278, k_M279]
def k_mt14 : List cMth := [k_M280, k_M281, k_M282, k_M283, k_M284, k_M285, k_M286, k_M287, k_M288, k_M289, k_M290, k_M291, k_M292, k_M293, k_M294, k_M295, k_M296, k_M297, k_M298, k_M299]
def k_mt15 : List cMth := [k_M300, k_M301, k_M302, k_M303, k_M304, k_M305, k_M306, k_M307, k_M308, k_M309, k_M310, k_M311, k_M312, k_M313, k_M314, k_M315, k_M316, k_M317, k_M318, k_M319]
def k_mt16 : List cMth := [k_M320, k_M321, k_M322, k_M323, k_M324, k_M325, k_M326, k_M327, k_M328, k_M329, k_M330, k_M331, k_M332, k_M333, k_M334, k_M335, k_M336, k_M337, k_M338, k_M339]
def k_mt17 : List cMth := [k_M340, k_M341, k_M342, k_M343, k_M344, k_M345, k_M346, k_M347, k_M348, k_M349, k_M350, k_M351, k_M352, k_M353, k_M354, k_M355, k_M356, k_M357, k_M358, k_M359]
def k_mt18 : List cMth := [k_M360, k_M361, k_M362, k_M363, k_M364, k_M365, k_M366, k_M367, k_M368, k_M369, k_M370, k_M371, k_M372, k_M373, k_M374, k_M375]
def k_mtb : Nat → List cMth
  | 0 => k_mt0
  | 1 => k_mt1
  | 2 => k_mt2
  | 3 => k_mt3
  | 4 => k_mt4
  | 5 => k_mt5
  | 6 => k_mt6
  | 7 => k_mt7
  | 8 => k_mt8
  | 9 => k_mt9
  | 10 => k_mt10
  | 11 => k_mt11
  | 12 => k_mt12
  | 13 => k_mt13
  | 14 => k_mt14
  | 15 => k_mt15
  | 16 => k_mt16
  | 17 => k_mt17
  | 18 => k_mt18
  | _ => []
def k_meth (a : Nat) : Option cMth := (k_mtb (a / 20))[a % 20]?
def k_isN : Cond → Bool
  | .methodLinkNest _ _ _ _ => true
  | _ => false
def k_ws : List Cond := lw_tbl.filter goodWord
def k_ns : List Cond := lw_tbl.filter k_isN
def k_Z : cStat := (k_nm, k_meth, k_ws, k_ns, "MayBoats")
def k_tb : Nat → List Cond
  | 0 => k2_sels lw_privs
  | 1 => tables_1_1
  | 2 => tables_1_2
  | 3 => tables_1_3
  | 4 => tables_1_4
  | 5 => tables_1_5
  | 6 => tables_1_6
  | 7 => tables_1_7
  | 8 => tables_1_8
  | 9 => tables_1_9
  | 10 => tables_1_10
  | _ => []
theorem k_tb_in {c : Nat} {w : Cond} (h : w ∈ k_tb c) : w ∈ lw_tbl := by
  unfold k_tb at h
  unfold lw_tbl tables_1
  split at h
  · simp only [List.mem_append, h, true_or, or_true]
  · simp only [List.mem_append, h, true_or, or_true]
  · simp only [List.mem_append, h, true_or, or_true]
  · simp only [List.mem_append, h, true_or, or_true]
  · simp only [List.mem_append, h, true_or, or_true]
  · simp only [List.mem_append, h, true_or, or_true]
  · simp only [List.mem_append, h, true_or, or_true]
  · simp only [List.mem_append, h, true_or, or_true]
  · simp only [List.mem_append, h, true_or, or_true]
  · simp only [List.mem_append, h, true_or, or_true]
  · simp only [List.mem_append, h, true_or, or_true]
  · cases h
theorem k_in (c i : Nat) {w : Cond} (h : (k_tb c)[i]? = some w) (g : goodWord w = true) : w ∈ k_ws := List.mem_filter.mpr ⟨k_tb_in (List.mem_of_getElem? h), g⟩
theorem k_inN (c i : Nat) {w : Cond} (h : (k_tb c)[i]? = some w) (g : k_isN w = true) : w ∈ k_ns := List.mem_filter.mpr ⟨k_tb_in (List.mem_of_getElem? h), g⟩
def k_allF (P : Nat → cMth → Prop) : Nat → List cMth → Prop
  | _, [] => True
  | n, x :: l => P n x ∧ k_allF P (n + 1) l
theorem k_allF_ok {P : Nat → cMth → Prop} : ∀ {l : List cMth} {n j : Nat} {M : cMth}, k_allF P n l → l[j]? = some M → P (n + j) M
  | [], _, _, _, _, h => by simp at h
  | x :: l, n, 0, M, h, hq => by cases hq; exact h.1
  | x :: l, n, j + 1, M, h, hq => by
    have := k_allF_ok (j := j) h.2 (by simpa using hq)
    rw [show n + (j + 1) = n + 1 + j by omega]
    exact this
def k_cw (C : String) : Prop := Jvm.Cond.initialized C ∈ k_ws ∧ C ≠ "java/lang/invoke/MethodHandle" ∧ C ≠ "java/lang/invoke/VarHandle"
theorem k_cw0 : k_cw "MayBoats$Book" := ⟨(k_in 1 8 rfl rfl), by decide +kernel, by decide +kernel⟩
theorem k_cw1 : k_cw "MayBoats$Fraction" := ⟨(k_in 1 2 rfl rfl), by decide +kernel, by decide +kernel⟩
theorem k_cw2 : k_cw "MayBoats$Land" := ⟨(k_in 1 9 rfl rfl), by decide +kernel, by decide +kernel⟩
theorem k_cw3 : k_cw "MayBoats$Line" := ⟨(k_in 1 11 rfl rfl), by decide +kernel, by decide +kernel⟩
theorem k_cw4 : k_cw "MayBoats$Reader" := ⟨(k_in 1 3 rfl rfl), by decide +kernel, by decide +kernel⟩
theorem k_cw5 : k_cw "MayBoats$Sight" := ⟨(k_in 1 12 rfl rfl), by decide +kernel, by decide +kernel⟩
theorem k_cw6 : k_cw "MayBoats$Tally" := ⟨(k_in 1 13 rfl rfl), by decide +kernel, by decide +kernel⟩
theorem k_cw7 : k_cw "MayBoats$Turning" := ⟨(k_in 1 16 rfl rfl), by decide +kernel, by decide +kernel⟩
theorem k_cw8 : k_cw "MayBoats$Ways" := ⟨(k_in 1 10 rfl rfl), by decide +kernel, by decide +kernel⟩
theorem k_cw9 : k_cw "MayBoats$Weave" := ⟨(k_in 1 14 rfl rfl), by decide +kernel, by decide +kernel⟩
theorem k_cw10 : k_cw "MayBoats$Writing" := ⟨(k_in 1 15 rfl rfl), by decide +kernel, by decide +kernel⟩
theorem k_cw11 : k_cw "MayBoats" := ⟨(k_in 1 1 rfl rfl), by decide +kernel, by decide +kernel⟩
theorem k_cw12 : k_cw "MayBoatsModel" := ⟨(k_in 1 18 rfl rfl), by decide +kernel, by decide +kernel⟩
theorem k_cw13 : k_cw "java/lang/Math" := ⟨(k_in 1 20 rfl rfl), by decide +kernel, by decide +kernel⟩
theorem k_cw14 : k_cw "java/lang/String" := ⟨(k_in 1 4 rfl rfl), by decide +kernel, by decide +kernel⟩
theorem k_cw15 : k_cw "java/lang/StringLatin1" := ⟨(k_in 1 5 rfl rfl), by decide +kernel, by decide +kernel⟩
theorem k_cw16 : k_cw "java/lang/StringUTF16" := ⟨(k_in 1 7 rfl rfl), by decide +kernel, by decide +kernel⟩
theorem k_cw17 : k_cw "java/util/Arrays" := ⟨(k_in 1 17 rfl rfl), by decide +kernel, by decide +kernel⟩
theorem k_cw18 : k_cw "jdk/internal/util/Preconditions" := ⟨(k_in 1 6 rfl rfl), by decide +kernel, by decide +kernel⟩
def k_ctB (a np h ci N : Nat) (ct : cCtr) : Bool := Nat.beq (ct_m ct) a && decide (ct_dep ct ∈ ct_pre ct) && Nat.beq ((ct_args ct).length - (if h = 1 then 0 else 1)) np && (Nat.beq h 1 || (match ct_args ct with
  | (2, t, _) :: _ => (match k_K.2.1 t with
    | (0, N', ci') => Nat.beq ci' ci && Nat.beq N' N
    | _ => false)
  | _ => false))
def k_mP (a : Nat) (M : cMth) : Prop := ∀ ct ∈ k_P.2.1 a, ct_m ct = a ∧ ct_dep ct ∈ ct_pre ct ∧ (parseMethodDescriptor M.1.desc).map (fun d => d.parameters.length) = some ((ct_args ct).length - (if M.2.2.2.2 = 1 then 0 else 1)) ∧
    (M.2.2.2.2 ≠ 1 → ∃ (t : Nat) (b : Int × Int) (l : List (Nat × Nat × Int × Int)) (ci N : Nat) (T : u_T), ct_args ct = (2, t, b) :: l ∧ k_K.2.1 t = (0, N, ci) ∧ k_cl[ci]? = some (M.1.cls, T, N))
theorem k_ctB_ok {a np ci N : Nat} {M : cMth} {T : u_T} (hd : (parseMethodDescriptor M.1.desc).map (fun d => d.parameters.length) = some np) (hc : M.2.2.2.2 ≠ 1 → k_cl[ci]? = some (M.1.cls, T, N)) (h : (k_P.2.1 a).all (k_ctB a np M.2.2.2.2 ci N) = true) : k_mP a M := by
  intro ct hct
  have g := List.all_eq_true.mp h ct hct
  unfold k_ctB at g
  rw [Bool.and_eq_true, Bool.and_eq_true, Bool.and_eq_true] at g
  obtain ⟨⟨⟨g1, g2⟩, g3⟩, g4⟩ := g
  refine ⟨Nat.eq_of_beq_eq_true g1, of_decide_eq_true g2, by rw [hd, Nat.eq_of_beq_eq_true g3], fun e => ?_⟩
  rw [Bool.or_eq_true] at g4
  rcases g4 with g4 | g4
  · exact absurd (Nat.eq_of_beq_eq_true g4) e
  · split at g4
    · rename_i t bb ll hargs
      split at g4
      · rename_i N' ci' hsh
        rw [Bool.and_eq_true] at g4
        have e1 := Nat.eq_of_beq_eq_true g4.1
        have e2 := Nat.eq_of_beq_eq_true g4.2
        subst e1; subst e2
        exact ⟨t, bb, ll, _, _, T, hargs, hsh, hc e⟩
      · cases g4
    · cases g4
theorem k_mP_nil {a : Nat} {M : cMth} (h : (k_P.2.1 a).isEmpty = true) : k_mP a M := by
  intro ct hct
  rw [List.isEmpty_iff.mp h] at hct
  cases hct
def k_mo (a : Nat) (M : cMth) : Prop := Jvm.Cond.code M.1 M.2.1 M.2.2.1 M.2.2.2.1 ∈ k_ws ∧ Jvm.Cond.initialized M.1.cls ∈ k_ws ∧ (M.1.cls ≠ "java/lang/invoke/MethodHandle" ∧ M.1.cls ≠ "java/lang/invoke/VarHandle") ∧ M.2.2.1 ≤ 44 ∧
  (M.2.2.2.2 = 0 → Jvm.Cond.instanceMethod M.1 ∈ k_ws ∧ Jvm.Cond.selects M.1.cls M.1 M.1 ∈ k_ws) ∧ (M.2.2.2.2 = 1 → Jvm.Cond.static M.1 ∈ k_ws) ∧ (M.2.2.2.2 = 2 → Jvm.Cond.instanceMethod M.1 ∈ k_ws ∧ M.1.name = "<init>" ∧ M.2.2.2.1 = none) ∧ k_mP a M
theorem k_mo0 {a : Nat} {m : MethodName} {b : ByteArray} {l : Nat} {r : Option FieldType} (hc : k_cw m.cls) (h1 : Jvm.Cond.code m b l r ∈ k_ws) (h2 : Nat.ble l 44 = true) (h3 : Jvm.Cond.instanceMethod m ∈ k_ws) (h4 : Jvm.Cond.selects m.cls m m ∈ k_ws) (hp : k_mP a (m, b, l, r, 0)) : k_mo a (m, b, l, r, 0) :=
  ⟨h1, hc.1, hc.2, Nat.le_of_ble_eq_true h2, fun _ => ⟨h3, h4⟩, fun e => absurd e (show ¬ (0 : Nat) = 1 by decide), fun e => absurd e (show ¬ (0 : Nat) = 2 by decide), hp⟩
theorem k_mo1 {a : Nat} {m : MethodName} {b : ByteArray} {l : Nat} {r : Option FieldType} (hc : k_cw m.cls) (h1 : Jvm.Cond.code m b l r ∈ k_ws) (h2 : Nat.ble l 44 = true) (h3 : Jvm.Cond.static m ∈ k_ws) (hp : k_mP a (m, b, l, r, 1)) : k_mo a (m, b, l, r, 1) :=
  ⟨h1, hc.1, hc.2, Nat.le_of_ble_eq_true h2, fun e => absurd e (show ¬ (1 : Nat) = 0 by decide), fun _ => h3, fun e => absurd e (show ¬ (1 : Nat) = 2 by decide), hp⟩
theorem k_mo2 {a : Nat} {c d : String} {b : ByteArray} {l : Nat} (hc : k_cw c) (h1 : Jvm.Cond.code ⟨c, "<init>", d⟩ b l none ∈ k_ws) (h2 : Nat.ble l 44 = true) (h3 : Jvm.Cond.instanceMethod ⟨c, "<init>", d⟩ ∈ k_ws) (hp : k_mP a (⟨c, "<init>", d⟩, b, l, none, 2)) : k_mo a (⟨c, "<init>", d⟩, b, l, none, 2) :=
  ⟨h1, hc.1, hc.2, Nat.le_of_ble_eq_true h2, fun e => absurd e (show ¬ (2 : Nat) = 0 by decide), fun e => absurd e (show ¬ (2 : Nat) = 1 by decide), fun _ => ⟨h3, rfl, rfl⟩, hp⟩
theorem k_ds0 : (parseMethodDescriptor "()V").map (fun d => d.parameters.length) = some 0 := by decide +kernel
theorem k_ds1 : (parseMethodDescriptor "(LMayBoats$Book;)V").map (fun d => d.parameters.length) = some 1 := by decide +kernel
theorem k_ds2 : (parseMethodDescriptor "(II)I").map (fun d => d.parameters.length) = some 2 := by decide +kernel
theorem k_ds3 : (parseMethodDescriptor "(III)V").map (fun d => d.parameters.length) = some 3 := by decide +kernel
theorem k_ds4 : (parseMethodDescriptor "([J)Z").map (fun d => d.parameters.length) = some 1 := by decide +kernel
theorem k_ds5 : (parseMethodDescriptor "([J)I").map (fun d => d.parameters.length) = some 1 := by decide +kernel
theorem k_ds6 : (parseMethodDescriptor "(III)I").map (fun d => d.parameters.length) = some 3 := by decide +kernel
theorem k_ds7 : (parseMethodDescriptor "(JJ)J").map (fun d => d.parameters.length) = some 2 := by decide +kernel
theorem k_ds8 : (parseMethodDescriptor "(JJ)V").map (fun d => d.parameters.length) = some 2 := by decide +kernel
theorem k_ds9 : (parseMethodDescriptor "(JJ)Z").map (fun d => d.parameters.length) = some 2 := by decide +kernel
theorem k_ds10 : (parseMethodDescriptor "(LMayBoats$Land;)V").map (fun d => d.parameters.length) = some 1 := by decide +kernel
theorem k_ds11 : (parseMethodDescriptor "(LMayBoats$Reader;)V").map (fun d => d.parameters.length) = some 1 := by decide +kernel
theorem k_ds12 : (parseMethodDescriptor "(LMayBoats$Reader;[JI)Z").map (fun d => d.parameters.length) = some 3 := by decide +kernel
theorem k_ds13 : (parseMethodDescriptor "(J)Z").map (fun d => d.parameters.length) = some 1 := by decide +kernel
theorem k_ds14 : (parseMethodDescriptor "([JIJ)I").map (fun d => d.parameters.length) = some 3 := by decide +kernel
theorem k_ds15 : (parseMethodDescriptor "(LMayBoats$Reader;[JI)I").map (fun d => d.parameters.length) = some 3 := by decide +kernel
theorem k_ds16 : (parseMethodDescriptor "(I)I").map (fun d => d.parameters.length) = some 1 := by decide +kernel
theorem k_ds17 : (parseMethodDescriptor "(I)V").map (fun d => d.parameters.length) = some 1 := by decide +kernel
theorem k_ds18 : (parseMethodDescriptor "(LMayBoats$Reader;I)V").map (fun d => d.parameters.length) = some 2 := by decide +kernel
theorem k_ds19 : (parseMethodDescriptor "(IIIIII)I").map (fun d => d.parameters.length) = some 6 := by decide +kernel
theorem k_ds20 : (parseMethodDescriptor "(I)J").map (fun d => d.parameters.length) = some 1 := by decide +kernel
theorem k_ds21 : (parseMethodDescriptor "(IJJ)J").map (fun d => d.parameters.length) = some 3 := by decide +kernel
theorem k_ds22 : (parseMethodDescriptor "(LMayBoats$Line;)V").map (fun d => d.parameters.length) = some 1 := by decide +kernel
theorem k_ds23 : (parseMethodDescriptor "(LMayBoats$Reader;LMayBoats$Land;)V").map (fun d => d.parameters.length) = some 2 := by decide +kernel
theorem k_ds24 : (parseMethodDescriptor "(LMayBoats$Reader;LMayBoats$Land;I)V").map (fun d => d.parameters.length) = some 3 := by decide +kernel
theorem k_ds25 : (parseMethodDescriptor "(ILMayBoats$Tally;)I").map (fun d => d.parameters.length) = some 2 := by decide +kernel
theorem k_ds26 : (parseMethodDescriptor "([I)I").map (fun d => d.parameters.length) = some 1 := by decide +kernel
theorem k_ds27 : (parseMethodDescriptor "(Ljava/lang/String;I)I").map (fun d => d.parameters.length) = some 2 := by decide +kernel
theorem k_ds28 : (parseMethodDescriptor "([BI)V").map (fun d => d.parameters.length) = some 2 := by decide +kernel
theorem k_ds29 : (parseMethodDescriptor "(I)Z").map (fun d => d.parameters.length) = some 1 := by decide +kernel
theorem k_ds30 : (parseMethodDescriptor "(IIJ)V").map (fun d => d.parameters.length) = some 3 := by decide +kernel
theorem k_ds31 : (parseMethodDescriptor "(J)I").map (fun d => d.parameters.length) = some 1 := by decide +kernel
theorem k_ds32 : (parseMethodDescriptor "([BII)I").map (fun d => d.parameters.length) = some 3 := by decide +kernel
theorem k_ds33 : (parseMethodDescriptor "()Z").map (fun d => d.parameters.length) = some 0 := by decide +kernel
theorem k_ds34 : (parseMethodDescriptor "(C)Z").map (fun d => d.parameters.length) = some 1 := by decide +kernel
theorem k_ds35 : (parseMethodDescriptor "(II)Z").map (fun d => d.parameters.length) = some 2 := by decide +kernel
theorem k_ds36 : (parseMethodDescriptor "()I").map (fun d => d.parameters.length) = some 0 := by decide +kernel
theorem k_ds37 : (parseMethodDescriptor "()J").map (fun d => d.parameters.length) = some 0 := by decide +kernel
theorem k_ds38 : (parseMethodDescriptor "(C)V").map (fun d => d.parameters.length) = some 1 := by decide +kernel
theorem k_ds39 : (parseMethodDescriptor "([JIII)I").map (fun d => d.parameters.length) = some 4 := by decide +kernel
theorem k_ds40 : (parseMethodDescriptor "(II)V").map (fun d => d.parameters.length) = some 2 := by decide +kernel
theorem k_ds41 : (parseMethodDescriptor "(LMayBoats$Sight;)V").map (fun d => d.parameters.length) = some 1 := by decide +kernel
theorem k_ds42 : (parseMethodDescriptor "(LMayBoats$Book;II)I").map (fun d => d.parameters.length) = some 3 := by decide +kernel
theorem k_ds43 : (parseMethodDescriptor "(LMayBoats$Book;LMayBoats$Sight;I)Z").map (fun d => d.parameters.length) = some 3 := by decide +kernel
theorem k_ds44 : (parseMethodDescriptor "(LMayBoats$Book;III)V").map (fun d => d.parameters.length) = some 4 := by decide +kernel
theorem k_ds45 : (parseMethodDescriptor "(III)Z").map (fun d => d.parameters.length) = some 3 := by decide +kernel
theorem k_ds46 : (parseMethodDescriptor "(LMayBoats$Ways;)V").map (fun d => d.parameters.length) = some 1 := by decide +kernel
theorem k_ds47 : (parseMethodDescriptor "(LMayBoats$Reader;)I").map (fun d => d.parameters.length) = some 1 := by decide +kernel
theorem k_ds48 : (parseMethodDescriptor "(LMayBoats$Book;LMayBoats$Tally;)V").map (fun d => d.parameters.length) = some 2 := by decide +kernel
theorem k_ds49 : (parseMethodDescriptor "(II)J").map (fun d => d.parameters.length) = some 2 := by decide +kernel
theorem k_ds50 : (parseMethodDescriptor "(JJJ)Z").map (fun d => d.parameters.length) = some 3 := by decide +kernel
theorem k_ds51 : (parseMethodDescriptor "(IIJ)Z").map (fun d => d.parameters.length) = some 3 := by decide +kernel
theorem k_ds52 : (parseMethodDescriptor "(IJ)J").map (fun d => d.parameters.length) = some 2 := by decide +kernel
theorem k_ds53 : (parseMethodDescriptor "(IIIII)Z").map (fun d => d.parameters.length) = some 5 := by decide +kernel
theorem k_ds54 : (parseMethodDescriptor "(IIIII)I").map (fun d => d.parameters.length) = some 5 := by decide +kernel
theorem k_ds55 : (parseMethodDescriptor "(IZI)Z").map (fun d => d.parameters.length) = some 3 := by decide +kernel
theorem k_ds56 : (parseMethodDescriptor "(IIII)Z").map (fun d => d.parameters.length) = some 4 := by decide +kernel
theorem k_ds57 : (parseMethodDescriptor "(Z)Z").map (fun d => d.parameters.length) = some 1 := by decide +kernel
theorem k_ds58 : (parseMethodDescriptor "(IZ)I").map (fun d => d.parameters.length) = some 2 := by decide +kernel
theorem k_ds59 : (parseMethodDescriptor "(IIIIZ)Z").map (fun d => d.parameters.length) = some 5 := by decide +kernel
theorem k_ds60 : (parseMethodDescriptor "(IZ)Z").map (fun d => d.parameters.length) = some 2 := by decide +kernel
theorem k_ds61 : (parseMethodDescriptor "(JJZ)V").map (fun d => d.parameters.length) = some 3 := by decide +kernel
theorem k_ds62 : (parseMethodDescriptor "(III)J").map (fun d => d.parameters.length) = some 3 := by decide +kernel
theorem k_ds63 : (parseMethodDescriptor "(IIIIII)J").map (fun d => d.parameters.length) = some 6 := by decide +kernel
theorem k_ds64 : (parseMethodDescriptor "(Z)V").map (fun d => d.parameters.length) = some 1 := by decide +kernel
theorem k_ds65 : (parseMethodDescriptor "(IIIII)V").map (fun d => d.parameters.length) = some 5 := by decide +kernel
theorem k_ds66 : (parseMethodDescriptor "(IJ)Z").map (fun d => d.parameters.length) = some 2 := by decide +kernel
theorem k_ds67 : (parseMethodDescriptor "(Z)I").map (fun d => d.parameters.length) = some 1 := by decide +kernel
theorem k_ds68 : (parseMethodDescriptor "(J)J").map (fun d => d.parameters.length) = some 1 := by decide +kernel
theorem k_ds69 : (parseMethodDescriptor "(I)C").map (fun d => d.parameters.length) = some 1 := by decide +kernel
theorem k_ds70 : (parseMethodDescriptor "()B").map (fun d => d.parameters.length) = some 0 := by decide +kernel
theorem k_ds71 : (parseMethodDescriptor "([BI)C").map (fun d => d.parameters.length) = some 2 := by decide +kernel
theorem k_ds72 : (parseMethodDescriptor "([B)I").map (fun d => d.parameters.length) = some 1 := by decide +kernel
theorem k_ds73 : (parseMethodDescriptor "(I[B)V").map (fun d => d.parameters.length) = some 2 := by decide +kernel
theorem k_ds74 : (parseMethodDescriptor "([JJ)V").map (fun d => d.parameters.length) = some 2 := by decide +kernel
theorem k_ds75 : (parseMethodDescriptor "([II)V").map (fun d => d.parameters.length) = some 2 := by decide +kernel
theorem k_ds76 : (parseMethodDescriptor "(IILjava/util/function/BiFunction;)I").map (fun d => d.parameters.length) = some 3 := by decide +kernel
