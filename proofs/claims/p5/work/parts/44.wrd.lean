/-! words, methods, links, classes (printed by words.py) -/
def k_f0 : List (String × String × String × Bool) := [("MayBoats$Book", "land", "LMayBoats$Land;", false), ("MayBoats$Book", "ways", "LMayBoats$Ways;", false), ("MayBoats$Book", "line", "LMayBoats$Line;", false), ("MayBoats$Book", "sight", "LMayBoats$Sight;", true), ("MayBoats$Book", "cells", "[I", true), ("MayBoats$Book", "sheets", "I", false)]
def k_T0 : u_T := fun k => k_f0.getD k ("", "", "", false)
def k_f1 : List (String × String × String × Bool) := [("MayBoats$Fraction", "over", "J", false), ("MayBoats$Fraction", "under", "J", false)]
def k_T1 : u_T := fun k => k_f1.getD k ("", "", "", false)
def k_f2 : List (String × String × String × Bool) := [("MayBoats$Land", "townNames", "[J", true), ("MayBoats$Land", "kindNames", "[J", true), ("MayBoats$Land", "lawNames", "[J", true), ("MayBoats$Land", "boatTown", "[I", true), ("MayBoats$Land", "boatYear", "[I", true), ("MayBoats$Land", "lawEnd", "[I", true), ("MayBoats$Land", "code", "[S", true), ("MayBoats$Land", "variables", "[J", true), ("MayBoats$Land", "stack", "[J", true), ("MayBoats$Land", "towns", "I", false), ("MayBoats$Land", "kinds", "I", false), ("MayBoats$Land", "laws", "I", false), ("MayBoats$Land", "boats", "I", false), ("MayBoats$Land", "codeSize", "I", false)]
def k_T2 : u_T := fun k => k_f2.getD k ("", "", "", false)
def k_f3 : List (String × String × String × Bool) := [("MayBoats$Line", "claim", "[B", true), ("MayBoats$Line", "size", "[S", true), ("MayBoats$Line", "kinds", "[B", true), ("MayBoats$Line", "least", "[B", true), ("MayBoats$Line", "code", "[B", true), ("MayBoats$Line", "stack", "[I", true), ("MayBoats$Line", "codeSize", "I", false), ("MayBoats$Line", "claims", "I", false)]
def k_T3 : u_T := fun k => k_f3.getD k ("", "", "", false)
def k_f4 : List (String × String × String × Bool) := [("MayBoats$Reader", "sort", "[B", true), ("MayBoats$Reader", "wordNumber", "[B", true), ("MayBoats$Reader", "place", "[S", true), ("MayBoats$Reader", "value", "[J", true), ("MayBoats$Reader", "keys", "[J", true), ("MayBoats$Reader", "size", "I", false), ("MayBoats$Reader", "now", "I", false), ("MayBoats$Reader", "sortNow", "I", false), ("MayBoats$Reader", "wordNow", "I", false), ("MayBoats$Reader", "valueNow", "J", false), ("MayBoats$Reader", "faultKind", "I", false), ("MayBoats$Reader", "faultPlace", "I", false)]
def k_T4 : u_T := fun k => k_f4.getD k ("", "", "", false)
def k_f5 : List (String × String × String × Bool) := [("MayBoats$Sight", "beside", "I", false), ("MayBoats$Sight", "cut", "I", false), ("MayBoats$Sight", "streets", "I", false), ("MayBoats$Sight", "from", "I", false), ("MayBoats$Sight", "to", "I", false), ("MayBoats$Sight", "then", "I", false), ("MayBoats$Sight", "till", "I", false), ("MayBoats$Sight", "rents", "Z", false)]
def k_T5 : u_T := fun k => k_f5.getD k ("", "", "", false)
def k_f6 : List (String × String × String × Bool) := [("MayBoats$Tally", "count", "[I", true), ("MayBoats$Tally", "sum", "[J", true), ("MayBoats$Tally", "square", "[J", true), ("MayBoats$Tally", "picked", "I", false), ("MayBoats$Tally", "total", "J", false)]
def k_T6 : u_T := fun k => k_f6.getD k ("", "", "", false)
def k_f7 : List (String × String × String × Bool) := [("MayBoats$Turning", "book", "LMayBoats$Book;", true), ("MayBoats$Turning", "trial", "LMayBoats$Tally;", true), ("MayBoats$Turning", "count", "[I", true), ("MayBoats$Turning", "sum", "[I", true), ("MayBoats$Turning", "values", "[I", true), ("MayBoats$Turning", "group", "[I", true), ("MayBoats$Turning", "saying", "[I", true), ("MayBoats$Turning", "matters", "[Z", true), ("MayBoats$Turning", "found", "I", false), ("MayBoats$Turning", "first", "I", false), ("MayBoats$Turning", "second", "I", false)]
def k_T7 : u_T := fun k => k_f7.getD k ("", "", "", false)
def k_f8 : List (String × String × String × Bool) := [("MayBoats$Ways", "step", "[B", true), ("MayBoats$Ways", "first", "[S", true), ("MayBoats$Ways", "second", "[B", true), ("MayBoats$Ways", "stop", "[B", true), ("MayBoats$Ways", "open", "[I", true), ("MayBoats$Ways", "depth", "I", false), ("MayBoats$Ways", "steps", "I", false)]
def k_T8 : u_T := fun k => k_f8.getD k ("", "", "", false)
def k_f9 : List (String × String × String × Bool) := [("MayBoats$Weave", "book", "LMayBoats$Book;", true), ("MayBoats$Weave", "tally", "LMayBoats$Tally;", true), ("MayBoats$Weave", "others", "[I", true), ("MayBoats$Weave", "trial", "[I", true), ("MayBoats$Weave", "best", "[I", true), ("MayBoats$Weave", "prices", "[J", true), ("MayBoats$Weave", "many", "I", false), ("MayBoats$Weave", "among", "I", false), ("MayBoats$Weave", "bestSum", "J", false), ("MayBoats$Weave", "weight", "[I", true), ("MayBoats$Weave", "there", "Z", false), ("MayBoats$Weave", "own", "I", false), ("MayBoats$Weave", "n", "I", false), ("MayBoats$Weave", "towns", "I", false), ("MayBoats$Weave", "least", "J", false), ("MayBoats$Weave", "gapOver", "J", false)]
def k_T9 : u_T := fun k => k_f9.getD k ("", "", "", false)
def k_f10 : List (String × String × String × Bool) := [("MayBoats$Writing", "book", "LMayBoats$Book;", true), ("MayBoats$Writing", "tally", "LMayBoats$Tally;", true), ("MayBoats$Writing", "kept", "LMayBoats$Sight;", true), ("MayBoats$Writing", "own", "I", false), ("MayBoats$Writing", "there", "Z", false), ("MayBoats$Writing", "tries", "I", false), ("MayBoats$Writing", "farthestTry", "I", false), ("MayBoats$Writing", "farthest", "LMayBoats$Fraction;", true), ("MayBoats$Writing", "done", "I", false), ("MayBoats$Writing", "isCutOff", "Z", false)]
def k_T10 : u_T := fun k => k_f10.getD k ("", "", "", false)
def k_f11 : List (String × String × String × Bool) := [("MayBoats", "status", "I", false), ("MayBoats", "told", "LMayBoats$Fraction;", true), ("MayBoats", "other", "LMayBoats$Fraction;", true), ("MayBoats", "rows", "[[J", true), ("MayBoats", "sorts", "[I", true), ("MayBoats", "sizes", "[I", true), ("MayBoats", "tape", "[B", true), ("MayBoats", "tapeSize", "I", false), ("MayBoats", "reader", "LMayBoats$Reader;", true), ("MayBoats", "book", "LMayBoats$Book;", true), ("MayBoats", "spareLand", "LMayBoats$Land;", false), ("MayBoats", "spareWays", "LMayBoats$Ways;", false), ("MayBoats", "spareLine", "LMayBoats$Line;", false), ("MayBoats", "marks", "[LMayBoats$Book;", true), ("MayBoats", "markCount", "I", false), ("MayBoats", "tally", "LMayBoats$Tally;", true), ("MayBoats", "played", "LMayBoats$Sight;", true), ("MayBoats", "weaver", "LMayBoats$Weave;", true), ("MayBoats", "writing", "LMayBoats$Writing;", true), ("MayBoats", "turner", "LMayBoats$Turning;", true)]
def k_T11 : u_T := fun k => k_f11.getD k ("", "", "", false)
def k_f12 : List (String × String × String × Bool) := [("MayBoatsModel", "status", "I", false), ("MayBoatsModel", "thrown", "I", false), ("MayBoatsModel", "above", "J", false), ("MayBoatsModel", "under", "J", false), ("MayBoatsModel", "traySort", "[I", true), ("MayBoatsModel", "trayMany", "[I", true), ("MayBoatsModel", "numbers", "[J", true), ("MayBoatsModel", "tape", "[B", true), ("MayBoatsModel", "taped", "I", false), ("MayBoatsModel", "textEnd", "I", false), ("MayBoatsModel", "faultKind", "I", false), ("MayBoatsModel", "faultAt", "I", false), ("MayBoatsModel", "bad", "I", false), ("MayBoatsModel", "badAt", "I", false), ("MayBoatsModel", "token", "I", false), ("MayBoatsModel", "at", "I", false), ("MayBoatsModel", "behind", "I", false), ("MayBoatsModel", "number", "I", false), ("MayBoatsModel", "letters", "I", false), ("MayBoatsModel", "codeEnd", "I", false), ("MayBoatsModel", "open", "I", false), ("MayBoatsModel", "word", "J", false), ("MayBoatsModel", "c", "[I", true), ("MayBoatsModel", "words", "[J", true), ("MayBoatsModel", "stack", "[J", true), ("MayBoatsModel", "markMany", "I", false), ("MayBoatsModel", "sums", "[J", true), ("MayBoatsModel", "squares", "[J", true), ("MayBoatsModel", "counts", "[I", true), ("MayBoatsModel", "top", "J", false), ("MayBoatsModel", "bottom", "J", false), ("MayBoatsModel", "wages", "[I", true), ("MayBoatsModel", "weights", "[I", true), ("MayBoatsModel", "tried", "[I", true), ("MayBoatsModel", "who", "[I", true), ("MayBoatsModel", "prices", "[J", true), ("MayBoatsModel", "weaveTown", "I", false), ("MayBoatsModel", "weaveMany", "I", false), ("MayBoatsModel", "weaveBy", "I", false), ("MayBoatsModel", "whoMany", "I", false), ("MayBoatsModel", "leastSum", "J", false), ("MayBoatsModel", "hasWoven", "Z", false), ("MayBoatsModel", "done", "I", false), ("MayBoatsModel", "tries", "I", false), ("MayBoatsModel", "farTry", "I", false), ("MayBoatsModel", "leftOver", "I", false), ("MayBoatsModel", "writtenBoat", "I", false), ("MayBoatsModel", "farTop", "J", false), ("MayBoatsModel", "farBottom", "J", false), ("MayBoatsModel", "hasWritten", "Z", false), ("MayBoatsModel", "playedMany", "I", false), ("MayBoatsModel", "lastDraw", "I", false), ("MayBoatsModel", "newSteps", "I", false), ("MayBoatsModel", "lineEnd", "I", false), ("MayBoatsModel", "turnMany", "I", false), ("MayBoatsModel", "turns", "[I", true), ("MayBoatsModel", "wasWage", "[I", true), ("MayBoatsModel", "wasRent", "[I", true)]
def k_T12 : u_T := fun k => k_f12.getD k ("", "", "", false)
def k_cl : List vw_C := [("MayBoats$Book", k_T0, 6), ("MayBoats$Fraction", k_T1, 2), ("MayBoats$Land", k_T2, 14), ("MayBoats$Line", k_T3, 8), ("MayBoats$Reader", k_T4, 12), ("MayBoats$Sight", k_T5, 8), ("MayBoats$Tally", k_T6, 5), ("MayBoats$Turning", k_T7, 11), ("MayBoats$Ways", k_T8, 7), ("MayBoats$Weave", k_T9, 16), ("MayBoats$Writing", k_T10, 10), ("MayBoats", k_T11, 20), ("MayBoatsModel", k_T12, 58)]
def k_nms : List String := ["MayBoats$Book", "MayBoats$Fraction", "MayBoats$Land", "MayBoats$Line", "MayBoats$Reader", "MayBoats$Sight", "MayBoats$Tally", "MayBoats$Turning", "MayBoats$Ways", "MayBoats$Weave", "MayBoats$Writing", "MayBoats", "MayBoatsModel", "java/lang/Math", "java/util/Arrays", "java/lang/String", "java/lang/StringLatin1", "java/lang/StringUTF16", "jdk/internal/util/Preconditions"]
def k_nm (i : Nat) : String := k_nms.getD i ""
def k_mI0 : List (Nat × cMth × Nat × Nat × Nat × Nat) := [(0, (⟨"MayBoats$Book", "<init>", "()V"⟩, prog_2_method_1_code, 1, (Option.none : Option Jvm.ClassFile.FieldType), 2), 1157, 1008, 1156, 0),
  (1, (⟨"MayBoats$Book", "copy", "(LMayBoats$Book;)V"⟩, prog_2_method_2_code, 2, (Option.none : Option Jvm.ClassFile.FieldType), 0), 7040, 1008, 7038, 7039),
  (2, (⟨"MayBoats$Book", "cell", "(II)I"⟩, prog_2_method_3_code, 4, (Option.some Jvm.ClassFile.FieldType.int), 0), 4215, 1008, 4213, 4214),
  (3, (⟨"MayBoats$Book", "setCell", "(III)V"⟩, prog_2_method_4_code, 5, (Option.none : Option Jvm.ClassFile.FieldType), 0), 4202, 1008, 4200, 4201),
  (4, (⟨"MayBoats$Book", "fits", "([J)Z"⟩, prog_2_method_5_code, 2, (Option.some Jvm.ClassFile.FieldType.boolean), 0), 4189, 1008, 4187, 4188),
  (5, (⟨"MayBoats$Book", "add", "([J)I"⟩, prog_2_method_6_code, 3, (Option.some Jvm.ClassFile.FieldType.int), 0), 4198, 1008, 4196, 4197),
  (6, (⟨"MayBoats$Book", "wageBy", "(III)I"⟩, prog_2_method_7_code, 4, (Option.some Jvm.ClassFile.FieldType.int), 0), 6036, 1008, 6034, 6035),
  (7, (⟨"MayBoats$Fraction", "<init>", "()V"⟩, prog_3_method_1_code, 1, (Option.none : Option Jvm.ClassFile.FieldType), 2), 1033, 1002, 1032, 0),
  (8, (⟨"MayBoats$Fraction", "divisorOf", "(JJ)J"⟩, prog_3_method_2_code, 11, (Option.some Jvm.ClassFile.FieldType.long), 1), 5046, 1002, 5045, 0),
  (9, (⟨"MayBoats$Fraction", "put", "(JJ)V"⟩, prog_3_method_3_code, 7, (Option.none : Option Jvm.ClassFile.FieldType), 0), 5043, 1002, 5041, 5042),
  (10, (⟨"MayBoats$Fraction", "add", "(JJ)V"⟩, prog_3_method_4_code, 7, (Option.none : Option Jvm.ClassFile.FieldType), 0), 5204, 1002, 5202, 5203),
  (11, (⟨"MayBoats$Fraction", "isReachedBy", "(JJ)Z"⟩, prog_3_method_5_code, 5, (Option.some Jvm.ClassFile.FieldType.boolean), 0), 5124, 1002, 5122, 5123),
  (12, (⟨"MayBoats$Fraction", "isPassedBy", "(JJ)Z"⟩, prog_3_method_6_code, 5, (Option.some Jvm.ClassFile.FieldType.boolean), 0), 6155, 1002, 6153, 6154),
  (13, (⟨"MayBoats$Fraction", "isAbove", "(JJ)Z"⟩, prog_3_method_7_code, 5, (Option.some Jvm.ClassFile.FieldType.boolean), 0), 5191, 1002, 5189, 5190),
  (14, (⟨"MayBoats$Land", "<init>", "()V"⟩, prog_4_method_1_code, 1, (Option.none : Option Jvm.ClassFile.FieldType), 2), 1163, 1009, 1162, 0),
  (15, (⟨"MayBoats$Land", "copy", "(LMayBoats$Land;)V"⟩, prog_4_method_2_code, 2, (Option.none : Option Jvm.ClassFile.FieldType), 0), 7044, 1009, 7042, 7043),
  (16, (⟨"MayBoats$Land", "parse", "(LMayBoats$Reader;)V"⟩, prog_4_method_3_code, 3, (Option.none : Option Jvm.ClassFile.FieldType), 0), 4027, 1009, 4025, 4026),
  (17, (⟨"MayBoats$Land", "takeName", "(LMayBoats$Reader;[JI)Z"⟩, prog_4_method_4_code, 4, (Option.some Jvm.ClassFile.FieldType.boolean), 0), 4043, 1009, 4042, 12),
  (18, (⟨"MayBoats$Land", "isKnown", "(J)Z"⟩, prog_4_method_5_code, 3, (Option.some Jvm.ClassFile.FieldType.boolean), 0), 4060, 1009, 4059, 13),
  (19, (⟨"MayBoats$Land", "placeOf", "([JIJ)I"⟩, prog_4_method_6_code, 5, (Option.some Jvm.ClassFile.FieldType.int), 1), 4063, 1009, 4062, 0),
  (20, (⟨"MayBoats$Land", "namePart", "(LMayBoats$Reader;[JI)I"⟩, prog_4_method_7_code, 4, (Option.some Jvm.ClassFile.FieldType.int), 0), 4039, 1009, 4038, 11),
  (21, (⟨"MayBoats$Land", "boatPart", "(LMayBoats$Reader;)V"⟩, prog_4_method_8_code, 3, (Option.none : Option Jvm.ClassFile.FieldType), 0), 4076, 1009, 4075, 14),
  (22, (⟨"MayBoats$Land", "boatTo", "(I)I"⟩, prog_4_method_9_code, 3, (Option.some Jvm.ClassFile.FieldType.int), 0), 4080, 1009, 4078, 4079),
  (23, (⟨"MayBoats$Land", "lawPart", "(LMayBoats$Reader;)V"⟩, prog_4_method_10_code, 2, (Option.none : Option Jvm.ClassFile.FieldType), 0), 4088, 1009, 4087, 15),
  (24, (⟨"MayBoats$Land", "emit", "(I)V"⟩, prog_4_method_11_code, 2, (Option.none : Option Jvm.ClassFile.FieldType), 0), 4108, 1009, 4107, 19),
  (25, (⟨"MayBoats$Land", "sumPart", "(LMayBoats$Reader;I)V"⟩, prog_4_method_12_code, 5, (Option.none : Option Jvm.ClassFile.FieldType), 0), 4092, 1009, 4091, 16),
  (26, (⟨"MayBoats$Land", "itemPart", "(LMayBoats$Reader;I)V"⟩, prog_4_method_13_code, 5, (Option.none : Option Jvm.ClassFile.FieldType), 0), 4096, 1009, 4095, 17),
  (27, (⟨"MayBoats$Land", "atomPart", "(LMayBoats$Reader;I)V"⟩, prog_4_method_14_code, 4, (Option.none : Option Jvm.ClassFile.FieldType), 0), 4100, 1009, 4099, 18),
  (28, (⟨"MayBoats$Land", "wageBy", "(IIIIII)I"⟩, prog_4_method_15_code, 8, (Option.some Jvm.ClassFile.FieldType.int), 0), 4167, 1009, 4165, 4166),
  (29, (⟨"MayBoats$Land", "runLaw", "(I)J"⟩, prog_4_method_16_code, 5, (Option.some Jvm.ClassFile.FieldType.long), 0), 4172, 1009, 4171, 25),
  (30, (⟨"MayBoats$Land", "joinedBy", "(IJJ)J"⟩, prog_4_method_17_code, 5, (Option.some Jvm.ClassFile.FieldType.long), 1), 4175, 1009, 4174, 0),
  (31, (⟨"MayBoats$Line", "<init>", "()V"⟩, prog_5_method_1_code, 1, (Option.none : Option Jvm.ClassFile.FieldType), 2), 2023, 1011, 2022, 0),
  (32, (⟨"MayBoats$Line", "copy", "(LMayBoats$Line;)V"⟩, prog_5_method_2_code, 2, (Option.none : Option Jvm.ClassFile.FieldType), 0), 7054, 1011, 7052, 7053),
  (33, (⟨"MayBoats$Line", "parse", "(LMayBoats$Reader;LMayBoats$Land;)V"⟩, prog_5_method_3_code, 3, (Option.none : Option Jvm.ClassFile.FieldType), 0), 6174, 1011, 6172, 6173),
  (34, (⟨"MayBoats$Line", "emit", "(I)V"⟩, prog_5_method_4_code, 2, (Option.none : Option Jvm.ClassFile.FieldType), 0), 6198, 1011, 6197, 58),
  (35, (⟨"MayBoats$Line", "eitherPart", "(LMayBoats$Reader;LMayBoats$Land;I)V"⟩, prog_5_method_5_code, 5, (Option.none : Option Jvm.ClassFile.FieldType), 0), 6178, 1011, 6177, 55),
  (36, (⟨"MayBoats$Line", "bothPart", "(LMayBoats$Reader;LMayBoats$Land;I)V"⟩, prog_5_method_6_code, 5, (Option.none : Option Jvm.ClassFile.FieldType), 0), 6182, 1011, 6181, 56),
  (37, (⟨"MayBoats$Line", "onePart", "(LMayBoats$Reader;LMayBoats$Land;I)V"⟩, prog_5_method_7_code, 6, (Option.none : Option Jvm.ClassFile.FieldType), 0), 6186, 1011, 6185, 57),
  (38, (⟨"MayBoats$Line", "claimPart", "(LMayBoats$Reader;LMayBoats$Land;I)V"⟩, prog_5_method_8_code, 4, (Option.none : Option Jvm.ClassFile.FieldType), 0), 6203, 1011, 6202, 59),
  (39, (⟨"MayBoats$Line", "valueOf", "(ILMayBoats$Tally;)I"⟩, prog_5_method_9_code, 8, (Option.some Jvm.ClassFile.FieldType.int), 0), 7005, 1011, 7003, 7004),
  (40, (⟨"MayBoats$Line", "valueBy", "([I)I"⟩, prog_5_method_10_code, 6, (Option.some Jvm.ClassFile.FieldType.int), 0), 7013, 1011, 7011, 7012),
  (41, (⟨"MayBoats$Reader", "<init>", "()V"⟩, prog_6_method_1_code, 2, (Option.none : Option Jvm.ClassFile.FieldType), 2), 1052, 1003, 1051, 0),
  (42, (⟨"MayBoats$Reader", "addKeys", "(Ljava/lang/String;I)I"⟩, prog_6_method_2_code, 8, (Option.some Jvm.ClassFile.FieldType.int), 0), 1058, 1003, 1057, 0),
  (43, (⟨"MayBoats$Reader", "scan", "([BI)V"⟩, prog_6_method_3_code, 6, (Option.none : Option Jvm.ClassFile.FieldType), 0), 3234, 1003, 3232, 3233),
  (44, (⟨"MayBoats$Reader", "isLetter", "(I)Z"⟩, prog_6_method_4_code, 1, (Option.some Jvm.ClassFile.FieldType.boolean), 1), 3237, 1003, 3236, 0),
  (45, (⟨"MayBoats$Reader", "isDigit", "(I)Z"⟩, prog_6_method_5_code, 1, (Option.some Jvm.ClassFile.FieldType.boolean), 1), 4012, 1003, 4011, 0),
  (46, (⟨"MayBoats$Reader", "isSignByte", "(I)Z"⟩, prog_6_method_6_code, 1, (Option.some Jvm.ClassFile.FieldType.boolean), 1), 4019, 1003, 4018, 0),
  (47, (⟨"MayBoats$Reader", "put", "(IIJ)V"⟩, prog_6_method_7_code, 5, (Option.none : Option Jvm.ClassFile.FieldType), 0), 4005, 1003, 4004, 8),
  (48, (⟨"MayBoats$Reader", "keyOf", "(J)I"⟩, prog_6_method_8_code, 4, (Option.some Jvm.ClassFile.FieldType.int), 0), 4009, 1003, 4008, 9),
  (49, (⟨"MayBoats$Reader", "scanWord", "([BII)I"⟩, prog_6_method_9_code, 7, (Option.some Jvm.ClassFile.FieldType.int), 0), 4001, 1003, 4000, 7),
  (50, (⟨"MayBoats$Reader", "scanNumber", "([BII)I"⟩, prog_6_method_10_code, 6, (Option.some Jvm.ClassFile.FieldType.int), 0), 4016, 1003, 4015, 10),
  (51, (⟨"MayBoats$Reader", "atEnd", "()Z"⟩, prog_6_method_11_code, 1, (Option.some Jvm.ClassFile.FieldType.boolean), 0), 4031, 1003, 4029, 4030),
  (52, (⟨"MayBoats$Reader", "isNumber", "()Z"⟩, prog_6_method_12_code, 1, (Option.some Jvm.ClassFile.FieldType.boolean), 0), 4104, 1003, 4102, 4103),
  (53, (⟨"MayBoats$Reader", "isSign", "(C)Z"⟩, prog_6_method_13_code, 2, (Option.some Jvm.ClassFile.FieldType.boolean), 0), 4071, 1003, 4069, 4070),
  (54, (⟨"MayBoats$Reader", "isName", "(II)Z"⟩, prog_6_method_14_code, 4, (Option.some Jvm.ClassFile.FieldType.boolean), 0), 4052, 1003, 4050, 4051),
  (55, (⟨"MayBoats$Reader", "word", "()I"⟩, prog_6_method_15_code, 1, (Option.some Jvm.ClassFile.FieldType.int), 0), 4035, 1003, 4033, 4034),
  (56, (⟨"MayBoats$Reader", "held", "()J"⟩, prog_6_method_16_code, 1, (Option.some Jvm.ClassFile.FieldType.long), 0), 4056, 1003, 4054, 4055),
  (57, (⟨"MayBoats$Reader", "skip", "()V"⟩, prog_6_method_17_code, 1, (Option.none : Option Jvm.ClassFile.FieldType), 0), 4023, 1003, 4021, 4022),
  (58, (⟨"MayBoats$Reader", "fail", "(I)V"⟩, prog_6_method_18_code, 2, (Option.none : Option Jvm.ClassFile.FieldType), 0), 4047, 1003, 4045, 4046),
  (59, (⟨"MayBoats$Reader", "need", "(C)V"⟩, prog_6_method_19_code, 2, (Option.none : Option Jvm.ClassFile.FieldType), 0), 4067, 1003, 4065, 4066)]
def k_mI1 : List (Nat × cMth × Nat × Nat × Nat × Nat) := [(60, (⟨"MayBoats$Reader", "numberWithin", "(II)I"⟩, prog_6_method_20_code, 4, (Option.some Jvm.ClassFile.FieldType.int), 0), 4084, 1003, 4082, 4083),
  (61, (⟨"MayBoats$Reader", "nameSet", "([JIII)I"⟩, prog_6_method_21_code, 8, (Option.some Jvm.ClassFile.FieldType.int), 0), 6109, 1003, 6107, 6108),
  (62, (⟨"MayBoats$Sight", "<init>", "()V"⟩, prog_7_method_1_code, 1, (Option.none : Option Jvm.ClassFile.FieldType), 2), 2057, 1012, 2056, 0),
  (63, (⟨"MayBoats$Sight", "reset", "(II)V"⟩, prog_7_method_2_code, 3, (Option.none : Option Jvm.ClassFile.FieldType), 0), 4115, 1012, 4113, 4114),
  (64, (⟨"MayBoats$Sight", "copy", "(LMayBoats$Sight;)V"⟩, prog_7_method_3_code, 2, (Option.none : Option Jvm.ClassFile.FieldType), 0), 5118, 1012, 5116, 5117),
  (65, (⟨"MayBoats$Sight", "putBefore", "(II)V"⟩, prog_7_method_4_code, 3, (Option.none : Option Jvm.ClassFile.FieldType), 0), 4119, 1012, 4117, 4118),
  (66, (⟨"MayBoats$Sight", "putAfter", "(II)V"⟩, prog_7_method_5_code, 3, (Option.none : Option Jvm.ClassFile.FieldType), 0), 4123, 1012, 4121, 4122),
  (67, (⟨"MayBoats$Sight", "overlaps", "()Z"⟩, prog_7_method_6_code, 1, (Option.some Jvm.ClassFile.FieldType.boolean), 0), 5084, 1012, 5082, 5083),
  (68, (⟨"MayBoats$Sight", "saidBy", "(LMayBoats$Book;II)I"⟩, prog_7_method_7_code, 4, (Option.some Jvm.ClassFile.FieldType.int), 0), 5024, 1012, 5022, 5023),
  (69, (⟨"MayBoats$Sight", "groupOf", "(LMayBoats$Book;II)I"⟩, prog_7_method_8_code, 7, (Option.some Jvm.ClassFile.FieldType.int), 0), 5072, 1012, 5070, 5071),
  (70, (⟨"MayBoats$Tally", "<init>", "()V"⟩, prog_8_method_1_code, 1, (Option.none : Option Jvm.ClassFile.FieldType), 2), 2150, 1013, 2149, 0),
  (71, (⟨"MayBoats$Tally", "clear", "()V"⟩, prog_8_method_2_code, 1, (Option.none : Option Jvm.ClassFile.FieldType), 0), 5066, 1013, 5064, 5065),
  (72, (⟨"MayBoats$Tally", "put", "(II)V"⟩, prog_8_method_3_code, 3, (Option.none : Option Jvm.ClassFile.FieldType), 0), 5076, 1013, 5074, 5075),
  (73, (⟨"MayBoats$Tally", "take", "(LMayBoats$Book;LMayBoats$Sight;I)Z"⟩, prog_8_method_4_code, 6, (Option.some Jvm.ClassFile.FieldType.boolean), 0), 5062, 1013, 5060, 5061),
  (74, (⟨"MayBoats$Tally", "draw", "(LMayBoats$Book;III)V"⟩, prog_8_method_5_code, 9, (Option.none : Option Jvm.ClassFile.FieldType), 0), 6053, 1013, 6051, 6052),
  (75, (⟨"MayBoats$Tally", "pick", "(LMayBoats$Book;III)V"⟩, prog_8_method_6_code, 7, (Option.none : Option Jvm.ClassFile.FieldType), 0), 5020, 1013, 5018, 5019),
  (76, (⟨"MayBoats$Tally", "hasEach", "(I)Z"⟩, prog_8_method_7_code, 2, (Option.some Jvm.ClassFile.FieldType.boolean), 0), 5080, 1013, 5078, 5079),
  (77, (⟨"MayBoats$Tally", "under", "()J"⟩, prog_8_method_8_code, 1, (Option.some Jvm.ClassFile.FieldType.long), 0), 5098, 1013, 5096, 5097),
  (78, (⟨"MayBoats$Tally", "over", "()J"⟩, prog_8_method_9_code, 5, (Option.some Jvm.ClassFile.FieldType.long), 0), 5094, 1013, 5092, 5093),
  (79, (⟨"MayBoats$Tally", "rounded", "()J"⟩, prog_8_method_10_code, 1, (Option.some Jvm.ClassFile.FieldType.long), 0), 6060, 1013, 6058, 6059),
  (80, (⟨"MayBoats$Turning", "<init>", "(LMayBoats$Book;)V"⟩, prog_9_method_1_code, 2, (Option.none : Option Jvm.ClassFile.FieldType), 2), 3051, 1016, 3050, 0),
  (81, (⟨"MayBoats$Turning", "valueNow", "(I)I"⟩, prog_9_method_2_code, 2, (Option.some Jvm.ClassFile.FieldType.int), 0), 6218, 1016, 6216, 6217),
  (82, (⟨"MayBoats$Turning", "prepare", "(I)V"⟩, prog_9_method_3_code, 6, (Option.none : Option Jvm.ClassFile.FieldType), 0), 6222, 1016, 6221, 61),
  (83, (⟨"MayBoats$Turning", "isOf", "(II)Z"⟩, prog_9_method_4_code, 4, (Option.some Jvm.ClassFile.FieldType.boolean), 0), 6231, 1016, 6230, 62),
  (84, (⟨"MayBoats$Turning", "valueWithout", "(II)I"⟩, prog_9_method_5_code, 5, (Option.some Jvm.ClassFile.FieldType.int), 0), 6237, 1016, 6236, 63),
  (85, (⟨"MayBoats$Turning", "drop", "(II)V"⟩, prog_9_method_6_code, 3, (Option.none : Option Jvm.ClassFile.FieldType), 0), 7001, 1016, 7000, 64),
  (86, (⟨"MayBoats$Turning", "find", "(I)Z"⟩, prog_9_method_7_code, 5, (Option.some Jvm.ClassFile.FieldType.boolean), 0), 7023, 1016, 7021, 7022),
  (87, (⟨"MayBoats$Turning", "keep", "(III)Z"⟩, prog_9_method_8_code, 4, (Option.some Jvm.ClassFile.FieldType.boolean), 0), 7028, 1016, 7027, 65),
  (88, (⟨"MayBoats$Ways", "<init>", "()V"⟩, prog_10_method_1_code, 1, (Option.none : Option Jvm.ClassFile.FieldType), 2), 1229, 1010, 1228, 0),
  (89, (⟨"MayBoats$Ways", "copy", "(LMayBoats$Ways;)V"⟩, prog_10_method_2_code, 2, (Option.none : Option Jvm.ClassFile.FieldType), 0), 7049, 1010, 7047, 7048),
  (90, (⟨"MayBoats$Ways", "parse", "(LMayBoats$Reader;LMayBoats$Land;)V"⟩, prog_10_method_3_code, 4, (Option.none : Option Jvm.ClassFile.FieldType), 0), 6085, 1010, 6083, 6084),
  (91, (⟨"MayBoats$Ways", "endPart", "(LMayBoats$Reader;)V"⟩, prog_10_method_4_code, 3, (Option.none : Option Jvm.ClassFile.FieldType), 0), 6091, 1010, 6090, 46),
  (92, (⟨"MayBoats$Ways", "stepPart", "(LMayBoats$Reader;LMayBoats$Land;)V"⟩, prog_10_method_5_code, 5, (Option.none : Option Jvm.ClassFile.FieldType), 0), 6098, 1010, 6097, 47),
  (93, (⟨"MayBoats$Ways", "readRest", "(LMayBoats$Reader;LMayBoats$Land;I)V"⟩, prog_10_method_6_code, 4, (Option.none : Option Jvm.ClassFile.FieldType), 0), 6105, 1010, 6104, 48),
  (94, (⟨"MayBoats$Ways", "streetSet", "(LMayBoats$Reader;)I"⟩, prog_10_method_7_code, 3, (Option.some Jvm.ClassFile.FieldType.int), 1), 6115, 1010, 6114, 0),
  (95, (⟨"MayBoats$Weave", "<init>", "(LMayBoats$Book;LMayBoats$Tally;)V"⟩, prog_11_method_1_code, 3, (Option.none : Option Jvm.ClassFile.FieldType), 2), 2183, 1014, 2182, 0),
  (96, (⟨"MayBoats$Weave", "priceOf", "(II)J"⟩, prog_11_method_2_code, 3, (Option.some Jvm.ClassFile.FieldType.long), 0), 5145, 1014, 5144, 35),
  (97, (⟨"MayBoats$Weave", "takePrices", "(II)Z"⟩, prog_11_method_3_code, 7, (Option.some Jvm.ClassFile.FieldType.boolean), 0), 5141, 1014, 5140, 34),
  (98, (⟨"MayBoats$Weave", "find", "(II)Z"⟩, prog_11_method_4_code, 5, (Option.some Jvm.ClassFile.FieldType.boolean), 0), 5137, 1014, 5135, 5136),
  (99, (⟨"MayBoats$Weave", "keep", "(I)V"⟩, prog_11_method_5_code, 3, (Option.none : Option Jvm.ClassFile.FieldType), 0), 5162, 1014, 5161, 38),
  (100, (⟨"MayBoats$Weave", "tryFrom", "(II)V"⟩, prog_11_method_6_code, 4, (Option.none : Option Jvm.ClassFile.FieldType), 0), 5153, 1014, 5152, 36),
  (101, (⟨"MayBoats$Weave", "judge", "()V"⟩, prog_11_method_7_code, 7, (Option.none : Option Jvm.ClassFile.FieldType), 0), 5157, 1014, 5156, 37),
  (102, (⟨"MayBoats$Weave", "hasGap", "(I)Z"⟩, prog_11_method_8_code, 9, (Option.some Jvm.ClassFile.FieldType.boolean), 0), 5175, 1014, 5173, 5174),
  (103, (⟨"MayBoats$Writing", "<init>", "(LMayBoats$Book;LMayBoats$Tally;)V"⟩, prog_12_method_1_code, 3, (Option.none : Option Jvm.ClassFile.FieldType), 2), 3004, 1015, 3003, 0),
  (104, (⟨"MayBoats$Writing", "run", "(I)V"⟩, prog_12_method_2_code, 2, (Option.none : Option Jvm.ClassFile.FieldType), 0), 6125, 1015, 6123, 6124),
  (105, (⟨"MayBoats$Writing", "doSteps", "(III)V"⟩, prog_12_method_3_code, 6, (Option.none : Option Jvm.ClassFile.FieldType), 0), 6131, 1015, 6130, 49),
  (106, (⟨"MayBoats$Writing", "doStep", "(II)I"⟩, prog_12_method_4_code, 5, (Option.some Jvm.ClassFile.FieldType.int), 0), 6135, 1015, 6134, 50),
  (107, (⟨"MayBoats$Writing", "doEach", "(II)V"⟩, prog_12_method_5_code, 5, (Option.none : Option Jvm.ClassFile.FieldType), 0), 6139, 1015, 6138, 51),
  (108, (⟨"MayBoats$Writing", "isReached", "(J)Z"⟩, prog_12_method_6_code, 3, (Option.some Jvm.ClassFile.FieldType.boolean), 0), 6143, 1015, 6142, 52),
  (109, (⟨"MayBoats$Writing", "doTry", "()V"⟩, prog_12_method_7_code, 1, (Option.none : Option Jvm.ClassFile.FieldType), 0), 6148, 1015, 6147, 53),
  (110, (⟨"MayBoats$Writing", "changeSight", "(III)V"⟩, prog_12_method_8_code, 5, (Option.none : Option Jvm.ClassFile.FieldType), 0), 6159, 1015, 6158, 54),
  (111, (⟨"MayBoats", "<init>", "()V"⟩, prog_1_method_1_code, 1, (Option.none : Option Jvm.ClassFile.FieldType), 2), 1025, 1001, 1024, 0),
  (112, (⟨"MayBoats", "status", "()I"⟩, prog_1_method_2_code, 1, (Option.some Jvm.ClassFile.FieldType.int), 0), 3160, 1001, 3158, 3159),
  (113, (⟨"MayBoats", "top", "()J"⟩, prog_1_method_3_code, 1, (Option.some Jvm.ClassFile.FieldType.long), 0), 3164, 1001, 3162, 3163),
  (114, (⟨"MayBoats", "bottom", "()J"⟩, prog_1_method_4_code, 1, (Option.some Jvm.ClassFile.FieldType.long), 0), 3168, 1001, 3166, 3167),
  (115, (⟨"MayBoats", "refuse", "(I)Z"⟩, prog_1_method_5_code, 2, (Option.some Jvm.ClassFile.FieldType.boolean), 0), 3180, 1001, 3179, 1),
  (116, (⟨"MayBoats", "none", "(I)I"⟩, prog_1_method_6_code, 2, (Option.some Jvm.ClassFile.FieldType.int), 0), 3226, 1001, 3225, 5),
  (117, (⟨"MayBoats", "grant", "()Z"⟩, prog_1_method_7_code, 1, (Option.some Jvm.ClassFile.FieldType.boolean), 0), 3187, 1001, 3186, 2),
  (118, (⟨"MayBoats", "give", "(I)I"⟩, prog_1_method_8_code, 2, (Option.some Jvm.ClassFile.FieldType.int), 0), 4127, 1001, 4126, 20),
  (119, (⟨"MayBoats", "tell", "(JJ)Z"⟩, prog_1_method_9_code, 5, (Option.some Jvm.ClassFile.FieldType.boolean), 0), 5039, 1001, 5038, 29)]
def k_mI2 : List (Nat × cMth × Nat × Nat × Nat × Nat) := [(120, (⟨"MayBoats", "isWithin", "(JJJ)Z"⟩, prog_1_method_10_code, 6, (Option.some Jvm.ClassFile.FieldType.boolean), 1), 3176, 1001, 3175, 0),
  (121, (⟨"MayBoats", "allOf", "(I)I"⟩, prog_1_method_11_code, 1, (Option.some Jvm.ClassFile.FieldType.int), 1), 2061, 1001, 2060, 0),
  (122, (⟨"MayBoats", "holds", "(II)Z"⟩, prog_1_method_12_code, 2, (Option.some Jvm.ClassFile.FieldType.boolean), 1), 5028, 1001, 5027, 0),
  (123, (⟨"MayBoats", "tray", "(III)Z"⟩, prog_1_method_13_code, 4, (Option.some Jvm.ClassFile.FieldType.boolean), 0), 3172, 1001, 3170, 3171),
  (124, (⟨"MayBoats", "placeStatus", "(II)I"⟩, prog_1_method_14_code, 3, (Option.some Jvm.ClassFile.FieldType.int), 0), 3195, 1001, 3194, 3),
  (125, (⟨"MayBoats", "write", "(IIJ)Z"⟩, prog_1_method_15_code, 6, (Option.some Jvm.ClassFile.FieldType.boolean), 0), 3191, 1001, 3189, 3190),
  (126, (⟨"MayBoats", "cutTo", "(IJ)J"⟩, prog_1_method_16_code, 3, (Option.some Jvm.ClassFile.FieldType.long), 1), 3198, 1001, 3197, 0),
  (127, (⟨"MayBoats", "read", "(II)J"⟩, prog_1_method_17_code, 4, (Option.some Jvm.ClassFile.FieldType.long), 0), 3202, 1001, 3200, 3201),
  (128, (⟨"MayBoats", "pour", "(IIIII)Z"⟩, prog_1_method_18_code, 6, (Option.some Jvm.ClassFile.FieldType.boolean), 0), 3207, 1001, 3205, 3206),
  (129, (⟨"MayBoats", "feed", "(IIIII)I"⟩, prog_1_method_19_code, 6, (Option.some Jvm.ClassFile.FieldType.int), 0), 3214, 1001, 3212, 3213),
  (130, (⟨"MayBoats", "feedBytes", "(I)V"⟩, prog_1_method_20_code, 3, (Option.none : Option Jvm.ClassFile.FieldType), 0), 3218, 1001, 3217, 4),
  (131, (⟨"MayBoats", "scanTape", "(I)V"⟩, prog_1_method_21_code, 2, (Option.none : Option Jvm.ClassFile.FieldType), 0), 3230, 1001, 3229, 6),
  (132, (⟨"MayBoats", "land", "(I)I"⟩, prog_1_method_22_code, 3, (Option.some Jvm.ClassFile.FieldType.int), 0), 3222, 1001, 3220, 3221),
  (133, (⟨"MayBoats", "fault", "(I)I"⟩, prog_1_method_23_code, 2, (Option.some Jvm.ClassFile.FieldType.int), 0), 4131, 1001, 4129, 4130),
  (134, (⟨"MayBoats", "many", "(I)I"⟩, prog_1_method_24_code, 2, (Option.some Jvm.ClassFile.FieldType.int), 0), 4135, 1001, 4133, 4134),
  (135, (⟨"MayBoats", "isTown", "(I)Z"⟩, prog_1_method_25_code, 2, (Option.some Jvm.ClassFile.FieldType.boolean), 0), 4155, 1001, 4154, 23),
  (136, (⟨"MayBoats", "isKind", "(I)Z"⟩, prog_1_method_26_code, 2, (Option.some Jvm.ClassFile.FieldType.boolean), 0), 4159, 1001, 4158, 24),
  (137, (⟨"MayBoats", "isLaw", "(I)Z"⟩, prog_1_method_27_code, 2, (Option.some Jvm.ClassFile.FieldType.boolean), 0), 4151, 1001, 4150, 22),
  (138, (⟨"MayBoats", "isBoat", "(I)Z"⟩, prog_1_method_28_code, 2, (Option.some Jvm.ClassFile.FieldType.boolean), 0), 4143, 1001, 4142, 21),
  (139, (⟨"MayBoats", "isSheet", "(I)Z"⟩, prog_1_method_29_code, 2, (Option.some Jvm.ClassFile.FieldType.boolean), 0), 4210, 1001, 4209, 26),
  (140, (⟨"MayBoats", "areTowns", "(I)Z"⟩, prog_1_method_30_code, 2, (Option.some Jvm.ClassFile.FieldType.boolean), 0), 4229, 1001, 4228, 27),
  (141, (⟨"MayBoats", "areYears", "(II)Z"⟩, prog_1_method_31_code, 2, (Option.some Jvm.ClassFile.FieldType.boolean), 1), 4162, 1001, 4161, 0),
  (142, (⟨"MayBoats", "townOf", "(I)I"⟩, prog_1_method_32_code, 2, (Option.some Jvm.ClassFile.FieldType.int), 0), 5110, 1001, 5109, 32),
  (143, (⟨"MayBoats", "boat", "(II)I"⟩, prog_1_method_33_code, 3, (Option.some Jvm.ClassFile.FieldType.int), 0), 4139, 1001, 4137, 4138),
  (144, (⟨"MayBoats", "tells", "(IIIIII)I"⟩, prog_1_method_34_code, 7, (Option.some Jvm.ClassFile.FieldType.int), 0), 4147, 1001, 4145, 4146),
  (145, (⟨"MayBoats", "sheet", "(I)I"⟩, prog_1_method_35_code, 3, (Option.some Jvm.ClassFile.FieldType.int), 0), 4185, 1001, 4183, 4184),
  (146, (⟨"MayBoats", "look", "(II)I"⟩, prog_1_method_36_code, 4, (Option.some Jvm.ClassFile.FieldType.int), 0), 4206, 1001, 4204, 4205),
  (147, (⟨"MayBoats", "say", "(IZI)Z"⟩, prog_1_method_37_code, 4, (Option.some Jvm.ClassFile.FieldType.boolean), 0), 4219, 1001, 4217, 4218),
  (148, (⟨"MayBoats", "beside", "(I)Z"⟩, prog_1_method_38_code, 2, (Option.some Jvm.ClassFile.FieldType.boolean), 0), 4225, 1001, 4223, 4224),
  (149, (⟨"MayBoats", "cut", "(II)Z"⟩, prog_1_method_39_code, 3, (Option.some Jvm.ClassFile.FieldType.boolean), 0), 4234, 1001, 4232, 4233),
  (150, (⟨"MayBoats", "years", "(IIII)Z"⟩, prog_1_method_40_code, 5, (Option.some Jvm.ClassFile.FieldType.boolean), 0), 4238, 1001, 4236, 4237),
  (151, (⟨"MayBoats", "rents", "(Z)Z"⟩, prog_1_method_41_code, 2, (Option.some Jvm.ClassFile.FieldType.boolean), 0), 5004, 1001, 5002, 5003),
  (152, (⟨"MayBoats", "sight", "(I)I"⟩, prog_1_method_42_code, 3, (Option.some Jvm.ClassFile.FieldType.int), 0), 5008, 1001, 5006, 5007),
  (153, (⟨"MayBoats", "pickStatus", "(III)I"⟩, prog_1_method_43_code, 4, (Option.some Jvm.ClassFile.FieldType.int), 0), 5016, 1001, 5015, 28),
  (154, (⟨"MayBoats", "counts", "(III)I"⟩, prog_1_method_44_code, 5, (Option.some Jvm.ClassFile.FieldType.int), 0), 5012, 1001, 5010, 5011),
  (155, (⟨"MayBoats", "mean", "(III)Z"⟩, prog_1_method_45_code, 5, (Option.some Jvm.ClassFile.FieldType.boolean), 0), 5035, 1001, 5033, 5034),
  (156, (⟨"MayBoats", "hasDiffer", "(I)Z"⟩, prog_1_method_46_code, 2, (Option.some Jvm.ClassFile.FieldType.boolean), 0), 5058, 1001, 5057, 30),
  (157, (⟨"MayBoats", "differ", "(I)Z"⟩, prog_1_method_47_code, 2, (Option.some Jvm.ClassFile.FieldType.boolean), 0), 5054, 1001, 5052, 5053),
  (158, (⟨"MayBoats", "boatStatus", "(I)I"⟩, prog_1_method_48_code, 2, (Option.some Jvm.ClassFile.FieldType.int), 0), 5106, 1001, 5105, 31),
  (159, (⟨"MayBoats", "countPlayed", "(IZ)I"⟩, prog_1_method_49_code, 6, (Option.some Jvm.ClassFile.FieldType.int), 0), 5114, 1001, 5113, 33),
  (160, (⟨"MayBoats", "far", "(I)I"⟩, prog_1_method_50_code, 3, (Option.some Jvm.ClassFile.FieldType.int), 0), 5102, 1001, 5100, 5101),
  (161, (⟨"MayBoats", "chance", "(I)Z"⟩, prog_1_method_51_code, 4, (Option.some Jvm.ClassFile.FieldType.boolean), 0), 5128, 1001, 5126, 5127),
  (162, (⟨"MayBoats", "weave", "(II)J"⟩, prog_1_method_52_code, 3, (Option.some Jvm.ClassFile.FieldType.long), 0), 5132, 1001, 5130, 5131),
  (163, (⟨"MayBoats", "woven", "(I)I"⟩, prog_1_method_53_code, 2, (Option.some Jvm.ClassFile.FieldType.int), 0), 5167, 1001, 5165, 5166),
  (164, (⟨"MayBoats", "gap", "(I)Z"⟩, prog_1_method_54_code, 2, (Option.some Jvm.ClassFile.FieldType.boolean), 0), 5171, 1001, 5169, 5170),
  (165, (⟨"MayBoats", "cuts", "(III)I"⟩, prog_1_method_55_code, 7, (Option.some Jvm.ClassFile.FieldType.int), 0), 5180, 1001, 5178, 5179),
  (166, (⟨"MayBoats", "deepest", "(II)I"⟩, prog_1_method_56_code, 6, (Option.some Jvm.ClassFile.FieldType.int), 0), 5187, 1001, 5185, 5186),
  (167, (⟨"MayBoats", "right", "(I)Z"⟩, prog_1_method_57_code, 4, (Option.some Jvm.ClassFile.FieldType.boolean), 0), 5195, 1001, 5193, 5194),
  (168, (⟨"MayBoats", "addRight", "(III)Z"⟩, prog_1_method_58_code, 11, (Option.some Jvm.ClassFile.FieldType.boolean), 0), 5200, 1001, 5199, 39),
  (169, (⟨"MayBoats", "left", "(IIIIZ)Z"⟩, prog_1_method_59_code, 7, (Option.some Jvm.ClassFile.FieldType.boolean), 0), 5209, 1001, 5207, 5208),
  (170, (⟨"MayBoats", "joined", "()Z"⟩, prog_1_method_60_code, 3, (Option.some Jvm.ClassFile.FieldType.boolean), 0), 5214, 1001, 5212, 5213),
  (171, (⟨"MayBoats", "needs", "(II)I"⟩, prog_1_method_61_code, 7, (Option.some Jvm.ClassFile.FieldType.int), 0), 5218, 1001, 5216, 5217),
  (172, (⟨"MayBoats", "hasEarlier", "(II)Z"⟩, prog_1_method_62_code, 3, (Option.some Jvm.ClassFile.FieldType.boolean), 0), 5228, 1001, 5227, 40),
  (173, (⟨"MayBoats", "earlier", "(II)Z"⟩, prog_1_method_63_code, 3, (Option.some Jvm.ClassFile.FieldType.boolean), 0), 5224, 1001, 5222, 5223),
  (174, (⟨"MayBoats", "earliers", "(I)I"⟩, prog_1_method_64_code, 5, (Option.some Jvm.ClassFile.FieldType.int), 0), 5232, 1001, 5230, 5231),
  (175, (⟨"MayBoats", "addTrend", "(II)Z"⟩, prog_1_method_65_code, 12, (Option.some Jvm.ClassFile.FieldType.boolean), 0), 6000, 1001, 5239, 41),
  (176, (⟨"MayBoats", "trend", "(I)Z"⟩, prog_1_method_66_code, 2, (Option.some Jvm.ClassFile.FieldType.boolean), 0), 5236, 1001, 5234, 5235),
  (177, (⟨"MayBoats", "split", "(I)Z"⟩, prog_1_method_67_code, 3, (Option.some Jvm.ClassFile.FieldType.boolean), 0), 6005, 1001, 6003, 6004),
  (178, (⟨"MayBoats", "hasPart", "(IZ)Z"⟩, prog_1_method_68_code, 8, (Option.some Jvm.ClassFile.FieldType.boolean), 0), 6013, 1001, 6012, 42),
  (179, (⟨"MayBoats", "addPart", "(JJZ)V"⟩, prog_1_method_69_code, 10, (Option.none : Option Jvm.ClassFile.FieldType), 0), 6017, 1001, 6016, 43)]
def k_mI3 : List (Nat × cMth × Nat × Nat × Nat × Nat) := [(180, (⟨"MayBoats", "mix", "(I)Z"⟩, prog_1_method_70_code, 2, (Option.some Jvm.ClassFile.FieldType.boolean), 0), 6009, 1001, 6007, 6008),
  (181, (⟨"MayBoats", "pure", "(I)Z"⟩, prog_1_method_71_code, 2, (Option.some Jvm.ClassFile.FieldType.boolean), 0), 6021, 1001, 6019, 6020),
  (182, (⟨"MayBoats", "nextDraw", "(I)I"⟩, prog_1_method_72_code, 1, (Option.some Jvm.ClassFile.FieldType.int), 1), 6028, 1001, 6027, 0),
  (183, (⟨"MayBoats", "drawOf", "(I)I"⟩, prog_1_method_73_code, 1, (Option.some Jvm.ClassFile.FieldType.int), 1), 6032, 1001, 6031, 0),
  (184, (⟨"MayBoats", "world", "(II)I"⟩, prog_1_method_74_code, 8, (Option.some Jvm.ClassFile.FieldType.int), 0), 6025, 1001, 6023, 6024),
  (185, (⟨"MayBoats", "areWorlds", "(II)Z"⟩, prog_1_method_75_code, 2, (Option.some Jvm.ClassFile.FieldType.boolean), 1), 6045, 1001, 6044, 0),
  (186, (⟨"MayBoats", "span", "(IIIII)I"⟩, prog_1_method_76_code, 13, (Option.some Jvm.ClassFile.FieldType.int), 0), 6042, 1001, 6040, 6041),
  (187, (⟨"MayBoats", "drawnRounded", "(III)J"⟩, prog_1_method_77_code, 4, (Option.some Jvm.ClassFile.FieldType.long), 0), 6049, 1001, 6048, 44),
  (188, (⟨"MayBoats", "odds", "(IIIII)Z"⟩, prog_1_method_78_code, 13, (Option.some Jvm.ClassFile.FieldType.boolean), 0), 6071, 1001, 6069, 6070),
  (189, (⟨"MayBoats", "isText", "(I)Z"⟩, prog_1_method_79_code, 2, (Option.some Jvm.ClassFile.FieldType.boolean), 0), 6080, 1001, 6079, 45),
  (190, (⟨"MayBoats", "ways", "(I)I"⟩, prog_1_method_80_code, 3, (Option.some Jvm.ClassFile.FieldType.int), 0), 6076, 1001, 6074, 6075),
  (191, (⟨"MayBoats", "written", "(I)I"⟩, prog_1_method_81_code, 2, (Option.some Jvm.ClassFile.FieldType.int), 0), 6121, 1001, 6119, 6120),
  (192, (⟨"MayBoats", "writ", "(I)I"⟩, prog_1_method_82_code, 2, (Option.some Jvm.ClassFile.FieldType.int), 0), 6166, 1001, 6164, 6165),
  (193, (⟨"MayBoats", "line", "(I)I"⟩, prog_1_method_83_code, 3, (Option.some Jvm.ClassFile.FieldType.int), 0), 6170, 1001, 6168, 6169),
  (194, (⟨"MayBoats", "lineStatus", "(I)I"⟩, prog_1_method_84_code, 2, (Option.some Jvm.ClassFile.FieldType.int), 0), 6214, 1001, 6213, 60),
  (195, (⟨"MayBoats", "said", "(I)I"⟩, prog_1_method_85_code, 3, (Option.some Jvm.ClassFile.FieldType.int), 0), 6210, 1001, 6208, 6209),
  (196, (⟨"MayBoats", "turned", "(I)I"⟩, prog_1_method_86_code, 3, (Option.some Jvm.ClassFile.FieldType.int), 0), 7019, 1001, 7017, 7018),
  (197, (⟨"MayBoats", "turning", "(I)I"⟩, prog_1_method_87_code, 2, (Option.some Jvm.ClassFile.FieldType.int), 0), 7032, 1001, 7030, 7031),
  (198, (⟨"MayBoats", "mark", "()I"⟩, prog_1_method_88_code, 1, (Option.some Jvm.ClassFile.FieldType.int), 0), 7036, 1001, 7034, 7035),
  (199, (⟨"MayBoats", "back", "()I"⟩, prog_1_method_89_code, 1, (Option.some Jvm.ClassFile.FieldType.int), 0), 7061, 1001, 7059, 7060),
  (200, (⟨"MayBoatsModel", "<init>", "()V"⟩, prog_14_method_1_code, 2, (Option.none : Option Jvm.ClassFile.FieldType), 2), 7066, 1018, 7065, 0),
  (201, (⟨"MayBoatsModel", "status", "()I"⟩, prog_14_method_3_code, 1, (Option.some Jvm.ClassFile.FieldType.int), 0), 8010, 1018, 8008, 8009),
  (202, (⟨"MayBoatsModel", "top", "()J"⟩, prog_14_method_4_code, 1, (Option.some Jvm.ClassFile.FieldType.long), 0), 8014, 1018, 8012, 8013),
  (203, (⟨"MayBoatsModel", "bottom", "()J"⟩, prog_14_method_5_code, 1, (Option.some Jvm.ClassFile.FieldType.long), 0), 8018, 1018, 8016, 8017),
  (204, (⟨"MayBoatsModel", "refuse", "(I)I"⟩, prog_14_method_6_code, 2, (Option.some Jvm.ClassFile.FieldType.int), 0), 8192, 1018, 8191, 96),
  (205, (⟨"MayBoatsModel", "no", "(I)Z"⟩, prog_14_method_7_code, 2, (Option.some Jvm.ClassFile.FieldType.boolean), 0), 8026, 1018, 8025, 67),
  (206, (⟨"MayBoatsModel", "isIn", "(JJJ)Z"⟩, prog_14_method_8_code, 6, (Option.some Jvm.ClassFile.FieldType.boolean), 1), 8147, 1018, 8146, 0),
  (207, (⟨"MayBoatsModel", "common", "(JJ)J"⟩, prog_14_method_9_code, 10, (Option.some Jvm.ClassFile.FieldType.long), 1), 9075, 1018, 9074, 0),
  (208, (⟨"MayBoatsModel", "fraction", "(JJ)Z"⟩, prog_14_method_10_code, 7, (Option.some Jvm.ClassFile.FieldType.boolean), 0), 9072, 1018, 9071, 111),
  (209, (⟨"MayBoatsModel", "cut", "(IJ)J"⟩, prog_14_method_11_code, 3, (Option.some Jvm.ClassFile.FieldType.long), 1), 8041, 1018, 8040, 0),
  (210, (⟨"MayBoatsModel", "tray", "(III)Z"⟩, prog_14_method_12_code, 5, (Option.some Jvm.ClassFile.FieldType.boolean), 0), 8022, 1018, 8020, 8021),
  (211, (⟨"MayBoatsModel", "trayed", "(I)I"⟩, prog_14_method_13_code, 2, (Option.some Jvm.ClassFile.FieldType.int), 0), 8038, 1018, 8037, 69),
  (212, (⟨"MayBoatsModel", "placed", "(II)I"⟩, prog_14_method_14_code, 4, (Option.some Jvm.ClassFile.FieldType.int), 0), 8034, 1018, 8033, 68),
  (213, (⟨"MayBoatsModel", "write", "(IIJ)Z"⟩, prog_14_method_15_code, 5, (Option.some Jvm.ClassFile.FieldType.boolean), 0), 8030, 1018, 8028, 8029),
  (214, (⟨"MayBoatsModel", "read", "(II)J"⟩, prog_14_method_16_code, 3, (Option.some Jvm.ClassFile.FieldType.long), 0), 8045, 1018, 8043, 8044),
  (215, (⟨"MayBoatsModel", "pour", "(IIIII)Z"⟩, prog_14_method_17_code, 9, (Option.some Jvm.ClassFile.FieldType.boolean), 0), 8050, 1018, 8048, 8049),
  (216, (⟨"MayBoatsModel", "numberOf", "(II)J"⟩, prog_14_method_18_code, 3, (Option.some Jvm.ClassFile.FieldType.long), 0), 9005, 1018, 9004, 104),
  (217, (⟨"MayBoatsModel", "isTray", "(I)Z"⟩, prog_14_method_19_code, 2, (Option.some Jvm.ClassFile.FieldType.boolean), 0), 9001, 1018, 9000, 103),
  (218, (⟨"MayBoatsModel", "look2", "(I)I"⟩, prog_14_method_20_code, 2, (Option.some Jvm.ClassFile.FieldType.int), 0), 8074, 1018, 8073, 73),
  (219, (⟨"MayBoatsModel", "isLetter", "(I)Z"⟩, prog_14_method_21_code, 1, (Option.some Jvm.ClassFile.FieldType.boolean), 1), 8077, 1018, 8076, 0),
  (220, (⟨"MayBoatsModel", "isDigit", "(I)Z"⟩, prog_14_method_22_code, 1, (Option.some Jvm.ClassFile.FieldType.boolean), 1), 8082, 1018, 8081, 0),
  (221, (⟨"MayBoatsModel", "isSignByte", "(I)Z"⟩, prog_14_method_23_code, 1, (Option.some Jvm.ClassFile.FieldType.boolean), 1), 8085, 1018, 8084, 0),
  (222, (⟨"MayBoatsModel", "next", "()V"⟩, prog_14_method_24_code, 2, (Option.none : Option Jvm.ClassFile.FieldType), 0), 8070, 1018, 8069, 72),
  (223, (⟨"MayBoatsModel", "isSign", "(I)Z"⟩, prog_14_method_25_code, 2, (Option.some Jvm.ClassFile.FieldType.boolean), 0), 8171, 1018, 8170, 93),
  (224, (⟨"MayBoatsModel", "spelled", "(IIIIII)J"⟩, prog_14_method_26_code, 8, (Option.some Jvm.ClassFile.FieldType.long), 1), 8092, 1018, 8091, 0),
  (225, (⟨"MayBoatsModel", "isWord", "(J)Z"⟩, prog_14_method_27_code, 3, (Option.some Jvm.ClassFile.FieldType.boolean), 0), 8096, 1018, 8095, 75),
  (226, (⟨"MayBoatsModel", "isTownWord", "()Z"⟩, prog_14_method_28_code, 1, (Option.some Jvm.ClassFile.FieldType.boolean), 0), 8089, 1018, 8088, 74),
  (227, (⟨"MayBoatsModel", "isKindWord", "()Z"⟩, prog_14_method_29_code, 1, (Option.some Jvm.ClassFile.FieldType.boolean), 0), 8116, 1018, 8115, 80),
  (228, (⟨"MayBoatsModel", "isBoatWord", "()Z"⟩, prog_14_method_30_code, 1, (Option.some Jvm.ClassFile.FieldType.boolean), 0), 8120, 1018, 8119, 81),
  (229, (⟨"MayBoatsModel", "isLawWord", "()Z"⟩, prog_14_method_31_code, 1, (Option.some Jvm.ClassFile.FieldType.boolean), 0), 8124, 1018, 8123, 82),
  (230, (⟨"MayBoatsModel", "variable", "()I"⟩, prog_14_method_32_code, 1, (Option.some Jvm.ClassFile.FieldType.int), 0), 8112, 1018, 8111, 79),
  (231, (⟨"MayBoatsModel", "isLandName", "()Z"⟩, prog_14_method_33_code, 1, (Option.some Jvm.ClassFile.FieldType.boolean), 0), 8108, 1018, 8107, 78),
  (232, (⟨"MayBoatsModel", "fail", "(II)V"⟩, prog_14_method_34_code, 3, (Option.none : Option Jvm.ClassFile.FieldType), 0), 8104, 1018, 8103, 77),
  (233, (⟨"MayBoatsModel", "wrong", "()V"⟩, prog_14_method_35_code, 1, (Option.none : Option Jvm.ClassFile.FieldType), 0), 8128, 1018, 8127, 83),
  (234, (⟨"MayBoatsModel", "must", "(Z)V"⟩, prog_14_method_36_code, 2, (Option.none : Option Jvm.ClassFile.FieldType), 0), 8175, 1018, 8174, 94),
  (235, (⟨"MayBoatsModel", "count", "(II)I"⟩, prog_14_method_37_code, 4, (Option.some Jvm.ClassFile.FieldType.int), 0), 8144, 1018, 8143, 87),
  (236, (⟨"MayBoatsModel", "feed", "(IIIII)I"⟩, prog_14_method_38_code, 6, (Option.some Jvm.ClassFile.FieldType.int), 0), 8054, 1018, 8052, 8053),
  (237, (⟨"MayBoatsModel", "lay", "(I)V"⟩, prog_14_method_39_code, 3, (Option.none : Option Jvm.ClassFile.FieldType), 0), 8058, 1018, 8057, 70),
  (238, (⟨"MayBoatsModel", "opens", "(II)Z"⟩, prog_14_method_40_code, 3, (Option.some Jvm.ClassFile.FieldType.boolean), 0), 8066, 1018, 8065, 71),
  (239, (⟨"MayBoatsModel", "isWell", "()Z"⟩, prog_14_method_41_code, 1, (Option.some Jvm.ClassFile.FieldType.boolean), 0), 8179, 1018, 8178, 95)]
def k_mI4 : List (Nat × cMth × Nat × Nat × Nat × Nat) := [(240, (⟨"MayBoatsModel", "named", "(III)I"⟩, prog_14_method_42_code, 5, (Option.some Jvm.ClassFile.FieldType.int), 0), 8136, 1018, 8135, 85),
  (241, (⟨"MayBoatsModel", "isNamed", "()Z"⟩, prog_14_method_43_code, 1, (Option.some Jvm.ClassFile.FieldType.boolean), 0), 8132, 1018, 8131, 84),
  (242, (⟨"MayBoatsModel", "readNamed", "(III)V"⟩, prog_14_method_44_code, 4, (Option.none : Option Jvm.ClassFile.FieldType), 0), 8100, 1018, 8099, 76),
  (243, (⟨"MayBoatsModel", "readBoat", "()V"⟩, prog_14_method_45_code, 4, (Option.none : Option Jvm.ClassFile.FieldType), 0), 8140, 1018, 8139, 86),
  (244, (⟨"MayBoatsModel", "code", "(II)V"⟩, prog_14_method_46_code, 3, (Option.none : Option Jvm.ClassFile.FieldType), 0), 8167, 1018, 8166, 92),
  (245, (⟨"MayBoatsModel", "readAtom", "()V"⟩, prog_14_method_47_code, 2, (Option.none : Option Jvm.ClassFile.FieldType), 0), 8163, 1018, 8162, 91),
  (246, (⟨"MayBoatsModel", "readItem", "()V"⟩, prog_14_method_48_code, 2, (Option.none : Option Jvm.ClassFile.FieldType), 0), 8159, 1018, 8158, 90),
  (247, (⟨"MayBoatsModel", "readSum", "()V"⟩, prog_14_method_49_code, 2, (Option.none : Option Jvm.ClassFile.FieldType), 0), 8155, 1018, 8154, 89),
  (248, (⟨"MayBoatsModel", "readLaw", "()V"⟩, prog_14_method_50_code, 2, (Option.none : Option Jvm.ClassFile.FieldType), 0), 8151, 1018, 8150, 88),
  (249, (⟨"MayBoatsModel", "firstSight", "(I)V"⟩, prog_14_method_51_code, 3, (Option.none : Option Jvm.ClassFile.FieldType), 0), 7071, 1018, 7070, 66),
  (250, (⟨"MayBoatsModel", "land", "(I)I"⟩, prog_14_method_52_code, 3, (Option.some Jvm.ClassFile.FieldType.int), 0), 8062, 1018, 8060, 8061),
  (251, (⟨"MayBoatsModel", "fault", "(I)I"⟩, prog_14_method_53_code, 2, (Option.some Jvm.ClassFile.FieldType.int), 0), 8183, 1018, 8181, 8182),
  (252, (⟨"MayBoatsModel", "isTown", "(J)Z"⟩, prog_14_method_54_code, 3, (Option.some Jvm.ClassFile.FieldType.boolean), 0), 8212, 1018, 8211, 99),
  (253, (⟨"MayBoatsModel", "isKind", "(J)Z"⟩, prog_14_method_55_code, 3, (Option.some Jvm.ClassFile.FieldType.boolean), 0), 8216, 1018, 8215, 100),
  (254, (⟨"MayBoatsModel", "isBoat", "(I)Z"⟩, prog_14_method_56_code, 2, (Option.some Jvm.ClassFile.FieldType.boolean), 0), 8200, 1018, 8199, 97),
  (255, (⟨"MayBoatsModel", "isLaw", "(I)Z"⟩, prog_14_method_57_code, 2, (Option.some Jvm.ClassFile.FieldType.boolean), 0), 8208, 1018, 8207, 98),
  (256, (⟨"MayBoatsModel", "isSheet", "(I)Z"⟩, prog_14_method_58_code, 2, (Option.some Jvm.ClassFile.FieldType.boolean), 0), 9017, 1018, 9016, 106),
  (257, (⟨"MayBoatsModel", "many", "(I)I"⟩, prog_14_method_59_code, 2, (Option.some Jvm.ClassFile.FieldType.int), 0), 8187, 1018, 8185, 8186),
  (258, (⟨"MayBoatsModel", "boat", "(II)I"⟩, prog_14_method_60_code, 3, (Option.some Jvm.ClassFile.FieldType.int), 0), 8196, 1018, 8194, 8195),
  (259, (⟨"MayBoatsModel", "reckon", "(IJJ)J"⟩, prog_14_method_61_code, 5, (Option.some Jvm.ClassFile.FieldType.long), 1), 8226, 1018, 8225, 0),
  (260, (⟨"MayBoatsModel", "hit", "(II)I"⟩, prog_14_method_62_code, 4, (Option.some Jvm.ClassFile.FieldType.int), 0), 8230, 1018, 8229, 102),
  (261, (⟨"MayBoatsModel", "tellsBy", "(IIIIII)I"⟩, prog_14_method_63_code, 10, (Option.some Jvm.ClassFile.FieldType.int), 0), 8223, 1018, 8222, 101),
  (262, (⟨"MayBoatsModel", "tells", "(IIIIII)I"⟩, prog_14_method_64_code, 7, (Option.some Jvm.ClassFile.FieldType.int), 0), 8204, 1018, 8202, 8203),
  (263, (⟨"MayBoatsModel", "cell", "(II)I"⟩, prog_14_method_65_code, 3, (Option.some Jvm.ClassFile.FieldType.int), 0), 9009, 1018, 9008, 105),
  (264, (⟨"MayBoatsModel", "sheet", "(I)I"⟩, prog_14_method_66_code, 4, (Option.some Jvm.ClassFile.FieldType.int), 0), 8237, 1018, 8235, 8236),
  (265, (⟨"MayBoatsModel", "look", "(II)I"⟩, prog_14_method_67_code, 3, (Option.some Jvm.ClassFile.FieldType.int), 0), 9013, 1018, 9011, 9012),
  (266, (⟨"MayBoatsModel", "say", "(IZI)Z"⟩, prog_14_method_68_code, 4, (Option.some Jvm.ClassFile.FieldType.boolean), 0), 9022, 1018, 9020, 9021),
  (267, (⟨"MayBoatsModel", "beside", "(I)Z"⟩, prog_14_method_69_code, 2, (Option.some Jvm.ClassFile.FieldType.boolean), 0), 9026, 1018, 9024, 9025),
  (268, (⟨"MayBoatsModel", "cut", "(II)Z"⟩, prog_14_method_70_code, 3, (Option.some Jvm.ClassFile.FieldType.boolean), 0), 9030, 1018, 9028, 9029),
  (269, (⟨"MayBoatsModel", "years", "(IIII)Z"⟩, prog_14_method_71_code, 5, (Option.some Jvm.ClassFile.FieldType.boolean), 0), 9035, 1018, 9033, 9034),
  (270, (⟨"MayBoatsModel", "rents", "(Z)Z"⟩, prog_14_method_72_code, 2, (Option.some Jvm.ClassFile.FieldType.boolean), 0), 9039, 1018, 9037, 9038),
  (271, (⟨"MayBoatsModel", "sight", "(I)I"⟩, prog_14_method_73_code, 2, (Option.some Jvm.ClassFile.FieldType.int), 0), 9043, 1018, 9041, 9042),
  (272, (⟨"MayBoatsModel", "saidBy", "(I)I"⟩, prog_14_method_74_code, 2, (Option.some Jvm.ClassFile.FieldType.int), 0), 9064, 1018, 9063, 110),
  (273, (⟨"MayBoatsModel", "isCounted", "(IIIII)Z"⟩, prog_14_method_75_code, 6, (Option.some Jvm.ClassFile.FieldType.boolean), 0), 9060, 1018, 9059, 109),
  (274, (⟨"MayBoatsModel", "gather", "(IIIII)V"⟩, prog_14_method_76_code, 7, (Option.none : Option Jvm.ClassFile.FieldType), 0), 9056, 1018, 9055, 108),
  (275, (⟨"MayBoatsModel", "isSpan", "(II)Z"⟩, prog_14_method_77_code, 3, (Option.some Jvm.ClassFile.FieldType.boolean), 0), 9052, 1018, 9051, 107),
  (276, (⟨"MayBoatsModel", "counts", "(III)I"⟩, prog_14_method_78_code, 4, (Option.some Jvm.ClassFile.FieldType.int), 0), 9048, 1018, 9046, 9047),
  (277, (⟨"MayBoatsModel", "mean", "(III)Z"⟩, prog_14_method_79_code, 4, (Option.some Jvm.ClassFile.FieldType.boolean), 0), 9068, 1018, 9066, 9067),
  (278, (⟨"MayBoatsModel", "none", "()V"⟩, prog_14_method_80_code, 1, (Option.none : Option Jvm.ClassFile.FieldType), 0), 9096, 1018, 9095, 115),
  (279, (⟨"MayBoatsModel", "addTo", "(JJ)V"⟩, prog_14_method_81_code, 7, (Option.none : Option Jvm.ClassFile.FieldType), 0), 9100, 1018, 9099, 116),
  (280, (⟨"MayBoatsModel", "isMixed", "()Z"⟩, prog_14_method_82_code, 1, (Option.some Jvm.ClassFile.FieldType.boolean), 0), 9092, 1018, 9091, 114),
  (281, (⟨"MayBoatsModel", "gatherAll", "(II)Z"⟩, prog_14_method_83_code, 4, (Option.some Jvm.ClassFile.FieldType.boolean), 0), 9088, 1018, 9087, 113),
  (282, (⟨"MayBoatsModel", "differBy", "(II)Z"⟩, prog_14_method_84_code, 3, (Option.some Jvm.ClassFile.FieldType.boolean), 0), 9084, 1018, 9083, 112),
  (283, (⟨"MayBoatsModel", "boatDiffers", "(I)Z"⟩, prog_14_method_85_code, 2, (Option.some Jvm.ClassFile.FieldType.boolean), 0), 9116, 1018, 9115, 119),
  (284, (⟨"MayBoatsModel", "tellTop", "()Z"⟩, prog_14_method_86_code, 1, (Option.some Jvm.ClassFile.FieldType.boolean), 0), 9104, 1018, 9103, 117),
  (285, (⟨"MayBoatsModel", "differ", "(I)Z"⟩, prog_14_method_87_code, 2, (Option.some Jvm.ClassFile.FieldType.boolean), 0), 9080, 1018, 9078, 9079),
  (286, (⟨"MayBoatsModel", "farBy", "(I)I"⟩, prog_14_method_88_code, 10, (Option.some Jvm.ClassFile.FieldType.int), 0), 9112, 1018, 9111, 118),
  (287, (⟨"MayBoatsModel", "far", "(I)I"⟩, prog_14_method_89_code, 3, (Option.some Jvm.ClassFile.FieldType.int), 0), 9108, 1018, 9106, 9107),
  (288, (⟨"MayBoatsModel", "chance", "(I)Z"⟩, prog_14_method_90_code, 3, (Option.some Jvm.ClassFile.FieldType.boolean), 0), 9120, 1018, 9118, 9119),
  (289, (⟨"MayBoatsModel", "price", "(II)J"⟩, prog_14_method_91_code, 3, (Option.some Jvm.ClassFile.FieldType.long), 0), 9129, 1018, 9128, 120),
  (290, (⟨"MayBoatsModel", "weaveFrom", "(II)V"⟩, prog_14_method_92_code, 9, (Option.none : Option Jvm.ClassFile.FieldType), 0), 9134, 1018, 9133, 121),
  (291, (⟨"MayBoatsModel", "weave", "(II)J"⟩, prog_14_method_93_code, 7, (Option.some Jvm.ClassFile.FieldType.long), 0), 9124, 1018, 9122, 9123),
  (292, (⟨"MayBoatsModel", "woven", "(I)I"⟩, prog_14_method_94_code, 2, (Option.some Jvm.ClassFile.FieldType.int), 0), 9138, 1018, 9136, 9137),
  (293, (⟨"MayBoatsModel", "gap", "(I)Z"⟩, prog_14_method_95_code, 7, (Option.some Jvm.ClassFile.FieldType.boolean), 0), 9142, 1018, 9140, 9141),
  (294, (⟨"MayBoatsModel", "isOf", "(I)Z"⟩, prog_14_method_96_code, 2, (Option.some Jvm.ClassFile.FieldType.boolean), 0), 9152, 1018, 9151, 122),
  (295, (⟨"MayBoatsModel", "cuts", "(III)I"⟩, prog_14_method_97_code, 7, (Option.some Jvm.ClassFile.FieldType.int), 0), 9146, 1018, 9144, 9145),
  (296, (⟨"MayBoatsModel", "deepest", "(II)I"⟩, prog_14_method_98_code, 10, (Option.some Jvm.ClassFile.FieldType.int), 0), 9156, 1018, 9154, 9155),
  (297, (⟨"MayBoatsModel", "addRight", "(IJ)Z"⟩, prog_14_method_99_code, 7, (Option.some Jvm.ClassFile.FieldType.boolean), 0), 9164, 1018, 9163, 123),
  (298, (⟨"MayBoatsModel", "right", "(I)Z"⟩, prog_14_method_100_code, 3, (Option.some Jvm.ClassFile.FieldType.boolean), 0), 9160, 1018, 9158, 9159),
  (299, (⟨"MayBoatsModel", "left", "(IIIIZ)Z"⟩, prog_14_method_101_code, 6, (Option.some Jvm.ClassFile.FieldType.boolean), 0), 9168, 1018, 9166, 9167)]
def k_mI5 : List (Nat × cMth × Nat × Nat × Nat × Nat) := [(300, (⟨"MayBoatsModel", "joined", "()Z"⟩, prog_14_method_102_code, 7, (Option.some Jvm.ClassFile.FieldType.boolean), 0), 9173, 1018, 9171, 9172),
  (301, (⟨"MayBoatsModel", "needs", "(II)I"⟩, prog_14_method_103_code, 5, (Option.some Jvm.ClassFile.FieldType.int), 0), 9177, 1018, 9175, 9176),
  (302, (⟨"MayBoatsModel", "earlierBy", "(II)Z"⟩, prog_14_method_104_code, 7, (Option.some Jvm.ClassFile.FieldType.boolean), 0), 9185, 1018, 9184, 124),
  (303, (⟨"MayBoatsModel", "earlier", "(II)Z"⟩, prog_14_method_105_code, 3, (Option.some Jvm.ClassFile.FieldType.boolean), 0), 9181, 1018, 9179, 9180),
  (304, (⟨"MayBoatsModel", "earliers", "(I)I"⟩, prog_14_method_106_code, 8, (Option.some Jvm.ClassFile.FieldType.int), 0), 9189, 1018, 9187, 9188),
  (305, (⟨"MayBoatsModel", "slope", "(I)Z"⟩, prog_14_method_107_code, 10, (Option.some Jvm.ClassFile.FieldType.boolean), 0), 9197, 1018, 9196, 125),
  (306, (⟨"MayBoatsModel", "trend", "(I)Z"⟩, prog_14_method_108_code, 2, (Option.some Jvm.ClassFile.FieldType.boolean), 0), 9193, 1018, 9191, 9192),
  (307, (⟨"MayBoatsModel", "split", "(I)Z"⟩, prog_14_method_109_code, 6, (Option.some Jvm.ClassFile.FieldType.boolean), 0), 9201, 1018, 9199, 9200),
  (308, (⟨"MayBoatsModel", "gatherKind", "(II)V"⟩, prog_14_method_110_code, 4, (Option.none : Option Jvm.ClassFile.FieldType), 0), 9213, 1018, 9212, 127),
  (309, (⟨"MayBoatsModel", "part", "(IZ)Z"⟩, prog_14_method_111_code, 8, (Option.some Jvm.ClassFile.FieldType.boolean), 0), 9209, 1018, 9208, 126),
  (310, (⟨"MayBoatsModel", "mix", "(I)Z"⟩, prog_14_method_112_code, 2, (Option.some Jvm.ClassFile.FieldType.boolean), 0), 9205, 1018, 9203, 9204),
  (311, (⟨"MayBoatsModel", "pure", "(I)Z"⟩, prog_14_method_113_code, 2, (Option.some Jvm.ClassFile.FieldType.boolean), 0), 9217, 1018, 9215, 9216),
  (312, (⟨"MayBoatsModel", "draw", "()I"⟩, prog_14_method_114_code, 1, (Option.some Jvm.ClassFile.FieldType.int), 0), 9229, 1018, 9228, 129),
  (313, (⟨"MayBoatsModel", "drawWorld", "(II)I"⟩, prog_14_method_115_code, 7, (Option.some Jvm.ClassFile.FieldType.int), 0), 9225, 1018, 9224, 128),
  (314, (⟨"MayBoatsModel", "world", "(II)I"⟩, prog_14_method_116_code, 3, (Option.some Jvm.ClassFile.FieldType.int), 0), 9221, 1018, 9219, 9220),
  (315, (⟨"MayBoatsModel", "keepWages", "()V"⟩, prog_14_method_117_code, 2, (Option.none : Option Jvm.ClassFile.FieldType), 0), 9239, 1018, 9238, 130),
  (316, (⟨"MayBoatsModel", "giveWages", "()V"⟩, prog_14_method_118_code, 2, (Option.none : Option Jvm.ClassFile.FieldType), 0), 10008, 1018, 10007, 132),
  (317, (⟨"MayBoatsModel", "rounded", "()J"⟩, prog_14_method_119_code, 1, (Option.some Jvm.ClassFile.FieldType.long), 0), 10003, 1018, 10002, 131),
  (318, (⟨"MayBoatsModel", "span", "(IIIII)I"⟩, prog_14_method_120_code, 12, (Option.some Jvm.ClassFile.FieldType.int), 0), 9234, 1018, 9232, 9233),
  (319, (⟨"MayBoatsModel", "odds", "(IIIII)Z"⟩, prog_14_method_121_code, 13, (Option.some Jvm.ClassFile.FieldType.boolean), 0), 10012, 1018, 10010, 10011),
  (320, (⟨"MayBoatsModel", "stepWord", "()I"⟩, prog_14_method_122_code, 1, (Option.some Jvm.ClassFile.FieldType.int), 0), 10024, 1018, 10023, 134),
  (321, (⟨"MayBoatsModel", "isEnd", "()Z"⟩, prog_14_method_123_code, 1, (Option.some Jvm.ClassFile.FieldType.boolean), 0), 10033, 1018, 10032, 136),
  (322, (⟨"MayBoatsModel", "readSet", "(Z)I"⟩, prog_14_method_124_code, 5, (Option.some Jvm.ClassFile.FieldType.int), 0), 10029, 1018, 10028, 135),
  (323, (⟨"MayBoatsModel", "readStreets", "()I"⟩, prog_14_method_125_code, 3, (Option.some Jvm.ClassFile.FieldType.int), 0), 10037, 1018, 10036, 137),
  (324, (⟨"MayBoatsModel", "readStep", "(I)V"⟩, prog_14_method_126_code, 5, (Option.none : Option Jvm.ClassFile.FieldType), 0), 10020, 1018, 10019, 133),
  (325, (⟨"MayBoatsModel", "ways", "(I)I"⟩, prog_14_method_127_code, 3, (Option.some Jvm.ClassFile.FieldType.int), 0), 10016, 1018, 10014, 10015),
  (326, (⟨"MayBoatsModel", "tryOne", "()V"⟩, prog_14_method_128_code, 1, (Option.none : Option Jvm.ClassFile.FieldType), 0), 10053, 1018, 10052, 140),
  (327, (⟨"MayBoatsModel", "isFarAs", "(I)Z"⟩, prog_14_method_129_code, 2, (Option.some Jvm.ClassFile.FieldType.boolean), 0), 10061, 1018, 10060, 142),
  (328, (⟨"MayBoatsModel", "doAll", "(II)V"⟩, prog_14_method_130_code, 4, (Option.none : Option Jvm.ClassFile.FieldType), 0), 10045, 1018, 10044, 138),
  (329, (⟨"MayBoatsModel", "doEach", "(II)V"⟩, prog_14_method_131_code, 5, (Option.none : Option Jvm.ClassFile.FieldType), 0), 10057, 1018, 10056, 141),
  (330, (⟨"MayBoatsModel", "doOne", "(I)V"⟩, prog_14_method_132_code, 5, (Option.none : Option Jvm.ClassFile.FieldType), 0), 10049, 1018, 10048, 139),
  (331, (⟨"MayBoatsModel", "written", "(I)I"⟩, prog_14_method_133_code, 3, (Option.some Jvm.ClassFile.FieldType.int), 0), 10041, 1018, 10039, 10040),
  (332, (⟨"MayBoatsModel", "writ", "(I)I"⟩, prog_14_method_134_code, 2, (Option.some Jvm.ClassFile.FieldType.int), 0), 10065, 1018, 10063, 10064),
  (333, (⟨"MayBoatsModel", "isOr", "()Z"⟩, prog_14_method_135_code, 1, (Option.some Jvm.ClassFile.FieldType.boolean), 0), 10113, 1018, 10112, 153),
  (334, (⟨"MayBoatsModel", "isAnd", "()Z"⟩, prog_14_method_136_code, 1, (Option.some Jvm.ClassFile.FieldType.boolean), 0), 10117, 1018, 10116, 154),
  (335, (⟨"MayBoatsModel", "isNot", "()Z"⟩, prog_14_method_137_code, 1, (Option.some Jvm.ClassFile.FieldType.boolean), 0), 10085, 1018, 10084, 146),
  (336, (⟨"MayBoatsModel", "isOf", "()Z"⟩, prog_14_method_138_code, 1, (Option.some Jvm.ClassFile.FieldType.boolean), 0), 10101, 1018, 10100, 150),
  (337, (⟨"MayBoatsModel", "isLeastWord", "()Z"⟩, prog_14_method_139_code, 1, (Option.some Jvm.ClassFile.FieldType.boolean), 0), 10121, 1018, 10120, 155),
  (338, (⟨"MayBoatsModel", "claimWord", "()I"⟩, prog_14_method_140_code, 1, (Option.some Jvm.ClassFile.FieldType.int), 0), 10089, 1018, 10088, 147),
  (339, (⟨"MayBoatsModel", "isLineName", "()Z"⟩, prog_14_method_141_code, 1, (Option.some Jvm.ClassFile.FieldType.boolean), 0), 10109, 1018, 10108, 152),
  (340, (⟨"MayBoatsModel", "step", "(I)V"⟩, prog_14_method_142_code, 2, (Option.none : Option Jvm.ClassFile.FieldType), 0), 10093, 1018, 10092, 148),
  (341, (⟨"MayBoatsModel", "readClaim", "()V"⟩, prog_14_method_143_code, 3, (Option.none : Option Jvm.ClassFile.FieldType), 0), 10097, 1018, 10096, 149),
  (342, (⟨"MayBoatsModel", "readKinds", "()I"⟩, prog_14_method_144_code, 4, (Option.some Jvm.ClassFile.FieldType.int), 0), 10105, 1018, 10104, 151),
  (343, (⟨"MayBoatsModel", "readOne", "(I)V"⟩, prog_14_method_145_code, 4, (Option.none : Option Jvm.ClassFile.FieldType), 0), 10081, 1018, 10080, 145),
  (344, (⟨"MayBoatsModel", "readBoth", "(I)V"⟩, prog_14_method_146_code, 2, (Option.none : Option Jvm.ClassFile.FieldType), 0), 10077, 1018, 10076, 144),
  (345, (⟨"MayBoatsModel", "readEither", "(I)V"⟩, prog_14_method_147_code, 2, (Option.none : Option Jvm.ClassFile.FieldType), 0), 10073, 1018, 10072, 143),
  (346, (⟨"MayBoatsModel", "line", "(I)I"⟩, prog_14_method_148_code, 3, (Option.some Jvm.ClassFile.FieldType.int), 0), 10069, 1018, 10067, 10068),
  (347, (⟨"MayBoatsModel", "claimed", "(II)I"⟩, prog_14_method_149_code, 9, (Option.some Jvm.ClassFile.FieldType.int), 0), 10133, 1018, 10132, 157),
  (348, (⟨"MayBoatsModel", "lineBy", "(I)I"⟩, prog_14_method_150_code, 5, (Option.some Jvm.ClassFile.FieldType.int), 0), 10129, 1018, 10128, 156),
  (349, (⟨"MayBoatsModel", "said", "(I)I"⟩, prog_14_method_151_code, 2, (Option.some Jvm.ClassFile.FieldType.int), 0), 10125, 1018, 10123, 10124),
  (350, (⟨"MayBoatsModel", "hush", "(II)V"⟩, prog_14_method_152_code, 3, (Option.none : Option Jvm.ClassFile.FieldType), 0), 10141, 1018, 10140, 158),
  (351, (⟨"MayBoatsModel", "giveBack", "(II)V"⟩, prog_14_method_153_code, 3, (Option.none : Option Jvm.ClassFile.FieldType), 0), 10145, 1018, 10144, 159),
  (352, (⟨"MayBoatsModel", "turned", "(I)I"⟩, prog_14_method_154_code, 6, (Option.some Jvm.ClassFile.FieldType.int), 0), 10137, 1018, 10135, 10136),
  (353, (⟨"MayBoatsModel", "turning", "(I)I"⟩, prog_14_method_155_code, 2, (Option.some Jvm.ClassFile.FieldType.int), 0), 10149, 1018, 10147, 10148),
  (354, (⟨"MayBoatsModel", "copy", "(II)V"⟩, prog_14_method_156_code, 4, (Option.none : Option Jvm.ClassFile.FieldType), 0), 10157, 1018, 10156, 160),
  (355, (⟨"MayBoatsModel", "mark", "()I"⟩, prog_14_method_157_code, 1, (Option.some Jvm.ClassFile.FieldType.int), 0), 10153, 1018, 10151, 10152),
  (356, (⟨"MayBoatsModel", "back", "()I"⟩, prog_14_method_158_code, 1, (Option.some Jvm.ClassFile.FieldType.int), 0), 10161, 1018, 10159, 10160),
  (357, (⟨"java/lang/Math", "floorDiv", "(JJ)J"⟩, prog_15_method_49_code, 6, (Option.some Jvm.ClassFile.FieldType.long), 1), 6066, 1020, 6065, 0),
  (358, (⟨"java/lang/Math", "abs", "(J)J"⟩, prog_15_method_61_code, 2, (Option.some Jvm.ClassFile.FieldType.long), 1), 5049, 1020, 5048, 0),
  (359, (⟨"java/lang/Math", "max", "(II)I"⟩, prog_15_method_65_code, 2, (Option.some Jvm.ClassFile.FieldType.int), 1), 5087, 1020, 5086, 0)]
def k_mI6 : List (Nat × cMth × Nat × Nat × Nat × Nat) := [(360, (⟨"java/lang/Math", "max", "(JJ)J"⟩, prog_15_method_66_code, 4, (Option.some Jvm.ClassFile.FieldType.long), 1), 4181, 1020, 4180, 0),
  (361, (⟨"java/lang/Math", "min", "(II)I"⟩, prog_15_method_69_code, 2, (Option.some Jvm.ClassFile.FieldType.int), 1), 5090, 1020, 5089, 0),
  (362, (⟨"java/lang/Math", "min", "(JJ)J"⟩, prog_15_method_70_code, 4, (Option.some Jvm.ClassFile.FieldType.long), 1), 4178, 1020, 4177, 0),
  (363, (⟨"java/lang/String", "length", "()I"⟩, prog_16_method_54_code, 1, (Option.some Jvm.ClassFile.FieldType.int), 0), 1062, 1004, 1060, 1061),
  (364, (⟨"java/lang/String", "charAt", "(I)C"⟩, prog_16_method_56_code, 2, (Option.some Jvm.ClassFile.FieldType.char), 0), 1072, 1004, 1070, 1071),
  (365, (⟨"java/lang/String", "coder", "()B"⟩, prog_16_method_152_code, 1, (Option.some Jvm.ClassFile.FieldType.byte), 0), 1066, 1004, 1064, 1065),
  (366, (⟨"java/lang/String", "isLatin1", "()Z"⟩, prog_16_method_154_code, 1, (Option.some Jvm.ClassFile.FieldType.boolean), 0), 1076, 1004, 1074, 1075),
  (367, (⟨"java/lang/String", "checkIndex", "(II)V"⟩, prog_16_method_155_code, 2, (Option.none : Option Jvm.ClassFile.FieldType), 1), 1082, 1004, 1081, 0),
  (368, (⟨"java/lang/StringLatin1", "charAt", "([BI)C"⟩, prog_17_method_2_code, 2, (Option.some Jvm.ClassFile.FieldType.char), 1), 1079, 1005, 1078, 0),
  (369, (⟨"java/lang/StringUTF16", "getChar", "([BI)C"⟩, prog_18_method_5_code, 2, (Option.some Jvm.ClassFile.FieldType.char), 1), 1100, 1007, 1099, 0),
  (370, (⟨"java/lang/StringUTF16", "length", "([B)I"⟩, prog_18_method_6_code, 1, (Option.some Jvm.ClassFile.FieldType.int), 1), 1096, 1007, 1095, 0),
  (371, (⟨"java/lang/StringUTF16", "charAt", "([BI)C"⟩, prog_18_method_83_code, 2, (Option.some Jvm.ClassFile.FieldType.char), 1), 1090, 1007, 1089, 0),
  (372, (⟨"java/lang/StringUTF16", "checkIndex", "(I[B)V"⟩, prog_18_method_91_code, 2, (Option.none : Option Jvm.ClassFile.FieldType), 1), 1093, 1007, 1092, 0),
  (373, (⟨"java/util/Arrays", "fill", "([JJ)V"⟩, prog_20_method_101_code, 5, (Option.none : Option Jvm.ClassFile.FieldType), 1), 3183, 1017, 3182, 0),
  (374, (⟨"java/util/Arrays", "fill", "([II)V"⟩, prog_20_method_103_code, 4, (Option.none : Option Jvm.ClassFile.FieldType), 1), 3095, 1017, 3094, 0),
  (375, (⟨"jdk/internal/util/Preconditions", "checkIndex", "(IILjava/util/function/BiFunction;)I"⟩, prog_21_method_11_code, 3, (Option.some Jvm.ClassFile.FieldType.int), 1), 1087, 1006, 1086, 0)]
def k_mI : List (Nat × cMth × Nat × Nat × Nat × Nat) := k_mI0 ++ (k_mI1 ++ (k_mI2 ++ (k_mI3 ++ (k_mI4 ++ (k_mI5 ++ (k_mI6))))))
def k_mths : List (Nat × cMth) := k_mI.map (fun q => (q.1, q.2.1))
def k_isN : Cond → Bool
  | .methodLinkNest _ _ _ _ => true
  | _ => false
def k_ws : List Cond := lw_tbl.filter goodWord
def k_ns : List Cond := lw_tbl.filter k_isN
def k_Z : cStat := (k_nm, fun a => k_look a k_mths, k_ws, k_ns, "MayBoats")
def k_tb : Nat → List Cond
  | 0 => k2_sels lw_privs
  | 1 => tables_1_1
  | 2 => tables_1_2
  | 3 => tables_1_3
  | 4 => tables_1_4
  | 5 => tables_1_5
  | 6 => tables_1_6
  | 7 => tables_1_7
  | 8 => tables_1_8
  | 9 => tables_1_9
  | 10 => tables_1_10
  | _ => []
theorem k_tb_in {c : Nat} {w : Cond} (h : w ∈ k_tb c) : w ∈ lw_tbl := by
  unfold k_tb at h
  unfold lw_tbl tables_1
  split at h
  · simp only [List.mem_append, h, true_or, or_true]
  · simp only [List.mem_append, h, true_or, or_true]
  · simp only [List.mem_append, h, true_or, or_true]
  · simp only [List.mem_append, h, true_or, or_true]
  · simp only [List.mem_append, h, true_or, or_true]
  · simp only [List.mem_append, h, true_or, or_true]
  · simp only [List.mem_append, h, true_or, or_true]
  · simp only [List.mem_append, h, true_or, or_true]
  · simp only [List.mem_append, h, true_or, or_true]
  · simp only [List.mem_append, h, true_or, or_true]
  · simp only [List.mem_append, h, true_or, or_true]
  · cases h
def k_at (i : Nat) (w : Cond) : Bool := decide ((k_tb (i / 1000))[i % 1000]? = some w) && goodWord w
def k_atN (i : Nat) (w : Cond) : Bool := decide ((k_tb (i / 1000))[i % 1000]? = some w) && k_isN w
theorem k_at_ok {i : Nat} {w : Cond} (h : k_at i w = true) : w ∈ k_ws := by
  unfold k_at at h
  rw [Bool.and_eq_true] at h
  exact List.mem_filter.mpr ⟨k_tb_in (List.mem_of_getElem? (of_decide_eq_true h.1)), h.2⟩
theorem k_atN_ok {i : Nat} {w : Cond} (h : k_atN i w = true) : w ∈ k_ns := by
  unfold k_atN at h
  rw [Bool.and_eq_true] at h
  exact List.mem_filter.mpr ⟨k_tb_in (List.mem_of_getElem? (of_decide_eq_true h.1)), h.2⟩
theorem k_look_ok {α : Type} {t : Nat} {x : α} : ∀ {l : List (Nat × α)}, k_look t l = some x → (t, x) ∈ l
  | [], h => by cases h
  | q :: l, h => by
    unfold k_look at h
    split at h
    · rename_i hq
      cases h
      rw [← Nat.eq_of_beq_eq_true hq]
      exact List.mem_cons_self
    · exact List.mem_cons_of_mem _ (k_look_ok h)
/-! methods -/
def k_ctB (a : Nat) (M : cMth) (ct : cCtr) : Bool := Nat.beq (ct_m ct) a && decide (ct_dep ct ∈ ct_pre ct) && decide ((parseMethodDescriptor M.1.desc).map (fun d => d.parameters.length) = some ((ct_args ct).length - (if M.2.2.2.2 = 1 then 0 else 1))) && (Nat.beq M.2.2.2.2 1 || (match ct_args ct with
  | (2, t, _) :: _ => (match k_K.2.1 t with
    | (0, N, ci) => (match k_cl[ci]? with
      | some (C, _, N') => decide (C = M.1.cls) && Nat.beq N N'
      | none => false)
    | _ => false)
  | _ => false))
def k_mB (q : Nat × cMth × Nat × Nat × Nat × Nat) : Bool := k_at q.2.2.1 (.code q.2.1.1 q.2.1.2.1 q.2.1.2.2.1 q.2.1.2.2.2.1) && k_at q.2.2.2.1 (.initialized q.2.1.1.cls) && decide (q.2.1.1.cls ≠ "java/lang/invoke/MethodHandle") && decide (q.2.1.1.cls ≠ "java/lang/invoke/VarHandle") && Nat.ble q.2.1.2.2.1 44 &&
  (match q.2.1.2.2.2.2 with
  | 0 => k_at q.2.2.2.2.1 (.instanceMethod q.2.1.1) && k_at q.2.2.2.2.2 (.selects q.2.1.1.cls q.2.1.1 q.2.1.1)
  | 1 => k_at q.2.2.2.2.1 (.static q.2.1.1)
  | 2 => k_at q.2.2.2.2.1 (.instanceMethod q.2.1.1) && decide (q.2.1.1.name = "<init>") && decide (q.2.1.2.2.2.1 = none)
  | _ => false) && (k_P.2.1 q.1).all (k_ctB q.1 q.2.1)
theorem k_mB0 : k_mI0.all k_mB = true := by decide +kernel
theorem k_mB1 : k_mI1.all k_mB = true := by decide +kernel
theorem k_mB2 : k_mI2.all k_mB = true := by decide +kernel
theorem k_mB3 : k_mI3.all k_mB = true := by decide +kernel
theorem k_mB4 : k_mI4.all k_mB = true := by decide +kernel
theorem k_mB5 : k_mI5.all k_mB = true := by decide +kernel
theorem k_mB6 : k_mI6.all k_mB = true := by decide +kernel
theorem k_mB_all : k_mI.all k_mB = true := by
  unfold k_mI
  rw [List.all_append, List.all_append, List.all_append, List.all_append, List.all_append, List.all_append, k_mB0, k_mB1, k_mB2, k_mB3, k_mB4, k_mB5, k_mB6]
  rfl
theorem k_mOk : c_mOk k_K k_P k_cl k_Z := by
  intro a M hM
  have hm := k_look_ok (show k_look a k_mths = some M from hM)
  obtain ⟨q, hq, he⟩ := List.mem_map.mp hm
  cases he
  have h := List.all_eq_true.mp k_mB_all q hq
  unfold k_mB at h
  rw [Bool.and_eq_true, Bool.and_eq_true, Bool.and_eq_true, Bool.and_eq_true, Bool.and_eq_true, Bool.and_eq_true] at h
  obtain ⟨⟨⟨⟨⟨⟨h1, h2⟩, h3⟩, h4⟩, h5⟩, h6⟩, h7⟩ := h
  refine ⟨k_at_ok h1, k_at_ok h2, ⟨of_decide_eq_true h3, of_decide_eq_true h4⟩, Nat.le_of_ble_eq_true h5, fun e => ?_, fun e => ?_, fun e => ?_, fun ct hct => ?_⟩
  · rw [e] at h6
    rw [Bool.and_eq_true] at h6
    exact ⟨k_at_ok h6.1, k_at_ok h6.2⟩
  · rw [e] at h6
    exact k_at_ok h6
  · rw [e] at h6
    rw [Bool.and_eq_true, Bool.and_eq_true] at h6
    exact ⟨k_at_ok h6.1.1, of_decide_eq_true h6.1.2, of_decide_eq_true h6.2⟩
  · have g := List.all_eq_true.mp h7 ct hct
    unfold k_ctB at g
    rw [Bool.and_eq_true, Bool.and_eq_true, Bool.and_eq_true] at g
    obtain ⟨⟨⟨g1, g2⟩, g3⟩, g4⟩ := g
    refine ⟨Nat.eq_of_beq_eq_true g1, of_decide_eq_true g2, of_decide_eq_true g3, fun e => ?_⟩
    rw [Bool.or_eq_true] at g4
    rcases g4 with g4 | g4
    · exact absurd (Nat.eq_of_beq_eq_true g4) e
    · split at g4
      · rename_i t bb ll hargs
        split at g4
        · rename_i N ci hsh
          split at g4
          · rename_i C T N' hcl
            rw [Bool.and_eq_true] at g4
            have e1 := of_decide_eq_true g4.1
            have e2 := Nat.eq_of_beq_eq_true g4.2
            subst e1; subst e2
            exact ⟨t, bb, ll, ci, N, T, hargs, hsh, hcl⟩
          · cases g4
        · cases g4
      · cases g4
/-! links -/
def k_lI0_0 : List (Nat × cLk × List Nat) := [(3, (5, 0, 0, 0), [1158]), (9, (3, 2, 14, 0), [1159, 1160, 1009]), (11, (2, 14, 2, 0), [1161]), (12, (0, 0, 0, 0), [2105]), (18, (3, 8, 7, 0), [1225, 1226, 1010]), (20, (2, 88, 2, 0), [1227]), (21, (0, 0, 1, 0), [2109]), (25, (3, 3, 8, 0), [2019, 2020, 1011]), (27, (2, 31, 2, 0), [2021]), (28, (0, 0, 2, 0), [2112]), (32, (3, 5, 8, 0), [2053, 2054, 1012]), (34, (2, 62, 2, 0), [2055]), (35, (0, 0, 3, 0), [2115]), (39, (0, 0, 4, 0), [2121]), (43, (1, 15, 0, 0), [7041]), (47, (1, 89, 0, 0), [7046]), (50, (1, 32, 0, 0), [7051]), (53, (1, 64, 0, 0), [7056]), (56, (6, 0, 0, 0), [7057]), (62, (0, 0, 5, 0), [2122]), (66, (0, 2, 9, 0), [1181]), (69, (2, 120, 1, 0), [4190]), (73, (9, 0, 0, 11), [4191]), (75, (0, 2, 10, 0), [1187]), (78, (9, 0, 0, 3), [4192]), (80, (9, 0, 0, (-1)), [4193]), (82, (9, 0, 0, 999), [4194]), (84, (1, 3, 0, 0), [4199]), (88, (1, 2, 0, 0), [6037]), (92, (1, 28, 0, 0), [6038])]
def k_lI0 : List (Nat × cLk × List Nat) := k_lI0_0
def k_lI1_0 : List (Nat × cLk × List Nat) := [(1, (5, 0, 0, 0), [1034]), (7, (0, 1, 0, 0), [1035]), (13, (0, 1, 1, 0), [1038]), (16, (1, 358, 1, 0), [5047]), (22, (1, 360, 1, 0), [5050]), (26, (1, 8, 1, 0), [5044]), (29, (1, 9, 0, 0), [5205])]
def k_lI1 : List (Nat × cLk × List Nat) := k_lI1_0
def k_lI2_0 : List (Nat × cLk × List Nat) := [(3, (5, 0, 0, 0), [1164]), (9, (0, 2, 0, 0), [1165]), (15, (0, 2, 1, 0), [1167]), (18, (0, 2, 2, 0), [1170]), (21, (0, 2, 3, 0), [1171]), (25, (0, 2, 4, 0), [1173]), (28, (0, 2, 5, 0), [1175]), (31, (0, 2, 6, 0), [1176]), (35, (0, 2, 7, 0), [1177]), (38, (0, 2, 8, 0), [1178]), (41, (6, 0, 0, 0), [7045]), (47, (0, 2, 9, 0), [1179]), (51, (0, 2, 10, 0), [1185]), (54, (0, 2, 11, 0), [1191]), (57, (0, 2, 12, 0), [1193]), (60, (0, 2, 13, 0), [1195]), (63, (1, 51, 0, 0), [4028]), (69, (1, 55, 0, 0), [4032]), (73, (1, 20, 0, 0), [4036]), (77, (1, 21, 0, 0), [4073]), (81, (1, 23, 0, 0), [4085]), (84, (1, 58, 0, 0), [4044]), (88, (1, 57, 0, 0), [4048]), (91, (1, 54, 0, 0), [4049]), (95, (1, 56, 0, 0), [4053]), (99, (1, 18, 0, 0), [4057]), (103, (1, 19, 1, 0), [4061]), (107, (1, 17, 0, 0), [4040]), (111, (1, 59, 0, 0), [4064]), (115, (1, 22, 0, 0), [4077]), (119, (1, 60, 0, 0), [4081]), (123, (1, 25, 0, 0), [4089]), (127, (1, 26, 0, 0), [4093]), (130, (1, 53, 0, 0), [4111]), (134, (1, 24, 0, 0), [4105]), (137, (1, 27, 0, 0), [4097]), (140, (1, 52, 0, 0), [4101]), (143, (9, 0, 0, 7), [4109]), (145, (2, 120, 1, 0), [4110]), (149, (9, 0, 0, 999), [4168]), (151, (1, 29, 0, 0), [4169]), (155, (1, 362, 1, 0), [4176]), (161, (1, 360, 1, 0), [4179]), (164, (1, 30, 1, 0), [4173])]
def k_lI2 : List (Nat × cLk × List Nat) := k_lI2_0
def k_lI3_0 : List (Nat × cLk × List Nat) := [(3, (5, 0, 0, 0), [2024]), (9, (0, 3, 0, 0), [2025]), (15, (0, 3, 1, 0), [2026]), (19, (0, 3, 2, 0), [2027]), (22, (0, 3, 3, 0), [2029]), (25, (0, 3, 4, 0), [2030]), (28, (0, 3, 5, 0), [2031]), (32, (6, 0, 0, 0), [7055]), (38, (0, 3, 6, 0), [2032]), (42, (0, 3, 7, 0), [2033]), (45, (1, 35, 0, 0), [6175]), (49, (1, 59, 0, 0), [6199]), (55, (1, 51, 0, 0), [6206]), (59, (1, 58, 0, 0), [6193]), (63, (1, 36, 0, 0), [6179]), (66, (1, 55, 0, 0), [6187]), (70, (1, 57, 0, 0), [6194]), (73, (1, 34, 0, 0), [6195]), (76, (1, 37, 0, 0), [6183]), (79, (9, 0, 0, 22), [6188]), (81, (9, 0, 0, 24), [6189]), (83, (2, 120, 1, 0), [6190]), (87, (1, 53, 0, 0), [6191]), (91, (9, 0, 0, 21), [6192]), (93, (1, 38, 0, 0), [6200]), (96, (1, 60, 0, 0), [6204]), (100, (0, 2, 1, 0), [1169]), (106, (0, 2, 10, 0), [1189]), (108, (1, 61, 0, 0), [6205]), (112, (1, 76, 0, 0), [7006]), (118, (1, 78, 0, 0), [7007]), (122, (1, 77, 0, 0), [7008]), (125, (1, 358, 1, 0), [7009]), (131, (1, 361, 1, 0), [7014]), (134, (1, 359, 1, 0), [7015])]
def k_lI3 : List (Nat × cLk × List Nat) := k_lI3_0
def k_lI4_0 : List (Nat × cLk × List Nat) := [(3, (5, 0, 0, 0), [1053]), (11, (0, 4, 0, 0), [1110]), (15, (0, 4, 1, 0), [1111]), (18, (0, 4, 2, 0), [1112]), (22, (0, 4, 3, 0), [1113]), (26, (0, 4, 4, 0), [1114]), (29, (0, 4, 7, 0), [1117]), (33, (0, 4, 8, 0), [1118]), (36, (0, 4, 10, 0), [1120]), (39, (0, 4, 11, 0), [1122]), (44, (1, 42, 0, 0), [1055]), (52, (1, 363, 0, 0), [1059]), (58, (1, 364, 0, 0), [1069]), (62, (9, 0, 0, 32), [1107]), (64, (0, 4, 5, 0), [1115]), (67, (1, 44, 1, 0), [3235]), (71, (1, 49, 0, 0), [3238]), (75, (1, 45, 1, 0), [4010]), (78, (1, 50, 0, 0), [4013]), (81, (1, 46, 1, 0), [4017]), (84, (1, 47, 0, 0), [4002]), (88, (0, 4, 6, 0), [1116]), (91, (1, 57, 0, 0), [4020]), (94, (1, 48, 0, 0), [4006]), (98, (0, 4, 9, 0), [1119]), (102, (1, 53, 0, 0), [4068]), (106, (1, 58, 0, 0), [4072]), (110, (1, 54, 0, 0), [6110]), (114, (1, 19, 1, 0), [6111]), (120, (2, 122, 1, 0), [6112])]
def k_lI4 : List (Nat × cLk × List Nat) := k_lI4_0
def k_lI5_0 : List (Nat × cLk × List Nat) := [(3, (5, 0, 0, 0), [2058]), (9, (2, 121, 1, 0), [2059]), (13, (0, 5, 2, 0), [2071]), (19, (0, 5, 3, 0), [2074]), (22, (0, 5, 4, 0), [2077]), (25, (0, 5, 5, 0), [2080]), (28, (0, 5, 6, 0), [2082]), (31, (0, 5, 0, 0), [2062]), (34, (0, 5, 1, 0), [2066]), (37, (1, 65, 0, 0), [4116]), (41, (1, 66, 0, 0), [4120]), (44, (0, 5, 7, 0), [2084]), (48, (1, 359, 1, 0), [5085]), (54, (1, 361, 1, 0), [5088]), (57, (1, 2, 0, 0), [5025]), (62, (2, 122, 1, 0), [5026])]
def k_lI5 : List (Nat × cLk × List Nat) := k_lI5_0
def k_lI6_0 : List (Nat × cLk × List Nat) := [(3, (5, 0, 0, 0), [2151]), (9, (0, 6, 0, 0), [2152]), (15, (0, 6, 1, 0), [2155]), (19, (0, 6, 2, 0), [2158]), (22, (1, 374, 1, 0), [5067]), (28, (1, 373, 1, 0), [5068]), (31, (1, 71, 0, 0), [5063]), (34, (0, 0, 5, 0), [2124]), (40, (0, 5, 1, 0), [2067]), (45, (1, 68, 0, 0), [5021]), (49, (1, 69, 0, 0), [5069]), (52, (1, 72, 0, 0), [5073]), (56, (1, 76, 0, 0), [5077]), (60, (1, 67, 0, 0), [5081]), (64, (2, 182, 1, 0), [6054]), (68, (0, 0, 3, 0), [2119]), (72, (0, 5, 7, 0), [2085]), (76, (2, 183, 1, 0), [6055]), (79, (1, 6, 0, 0), [6056]), (83, (0, 6, 3, 0), [2161]), (86, (0, 6, 4, 0), [2164]), (90, (1, 2, 0, 0), [5029]), (94, (2, 122, 1, 0), [5030]), (98, (2, 120, 1, 0), [5031]), (102, (1, 78, 0, 0), [6061]), (106, (1, 77, 0, 0), [6062]), (109, (1, 360, 1, 0), [6063]), (115, (1, 357, 1, 0), [6064])]
def k_lI6 : List (Nat × cLk × List Nat) := k_lI6_0
def k_lI7_0 : List (Nat × cLk × List Nat) := [(3, (5, 0, 0, 0), [3052]), (9, (3, 6, 5, 0), [3053, 2147, 1013]), (11, (2, 70, 2, 0), [3054]), (12, (0, 7, 1, 0), [3056]), (18, (0, 7, 2, 0), [3057]), (22, (0, 7, 3, 0), [3058]), (25, (0, 7, 4, 0), [3059]), (28, (0, 7, 5, 0), [3060]), (31, (0, 7, 6, 0), [3061]), (34, (0, 7, 7, 0), [3062]), (38, (0, 7, 0, 0), [3055]), (42, (1, 82, 0, 0), [6219]), (46, (1, 84, 0, 0), [6234]), (50, (0, 0, 3, 0), [2118]), (56, (1, 67, 0, 0), [6223]), (62, (1, 374, 1, 0), [6224]), (68, (0, 0, 5, 0), [2123]), (72, (2, 121, 1, 0), [6225]), (76, (1, 68, 0, 0), [6226]), (80, (1, 69, 0, 0), [6227]), (83, (0, 0, 2, 0), [2113]), (87, (0, 3, 7, 0), [2034]), (92, (1, 83, 0, 0), [6228]), (96, (0, 3, 2, 0), [2028]), (100, (0, 5, 1, 0), [2068]), (103, (1, 2, 0, 0), [6232]), (106, (2, 122, 1, 0), [6233]), (109, (0, 6, 0, 0), [2153]), (110, (0, 6, 1, 0), [2156]), (113, (1, 85, 0, 0), [6238]), (117, (1, 39, 0, 0), [7002]), (121, (1, 40, 0, 0), [7010]), (125, (1, 81, 0, 0), [7024]), (128, (1, 87, 0, 0), [7025]), (132, (0, 7, 8, 0), [3063]), (135, (0, 7, 9, 0), [3065]), (138, (0, 7, 10, 0), [3067])]
def k_lI7 : List (Nat × cLk × List Nat) := k_lI7_0
def k_lI8_0 : List (Nat × cLk × List Nat) := [(3, (5, 0, 0, 0), [1230]), (9, (0, 8, 0, 0), [1231]), (15, (0, 8, 1, 0), [1233]), (19, (0, 8, 2, 0), [1235]), (22, (0, 8, 3, 0), [1237]), (25, (0, 8, 4, 0), [1239]), (29, (6, 0, 0, 0), [7050]), (35, (0, 8, 6, 0), [2002]), (39, (0, 8, 5, 0), [2000]), (42, (1, 51, 0, 0), [6086]), (48, (1, 55, 0, 0), [6087]), (52, (1, 91, 0, 0), [6088]), (56, (1, 92, 0, 0), [6095]), (60, (1, 58, 0, 0), [6092]), (64, (1, 57, 0, 0), [6093]), (67, (1, 59, 0, 0), [6094]), (71, (9, 0, 0, 8), [6099]), (73, (9, 0, 0, 18), [6100]), (75, (2, 120, 1, 0), [6101]), (79, (1, 93, 0, 0), [6102]), (83, (0, 2, 0, 0), [1166]), (89, (0, 2, 9, 0), [1182]), (92, (1, 61, 0, 0), [6106]), (96, (0, 2, 1, 0), [1168]), (99, (0, 2, 10, 0), [1188]), (102, (1, 94, 1, 0), [6113]), (106, (1, 60, 0, 0), [6116]), (110, (1, 52, 0, 0), [6117])]
def k_lI8 : List (Nat × cLk × List Nat) := k_lI8_0
def k_lI9_0 : List (Nat × cLk × List Nat) := [(3, (5, 0, 0, 0), [2184]), (9, (0, 9, 2, 0), [2187]), (15, (0, 9, 3, 0), [2188]), (18, (0, 9, 4, 0), [2189]), (21, (0, 9, 5, 0), [2190]), (25, (0, 9, 9, 0), [2194]), (28, (0, 9, 0, 0), [2185]), (32, (0, 9, 1, 0), [2186]), (36, (1, 75, 0, 0), [5146]), (42, (0, 6, 3, 0), [2160]), (46, (9, 0, 0, (-1)), [5147]), (48, (9, 0, 0, 60), [5148]), (50, (0, 6, 4, 0), [2163]), (54, (0, 0, 3, 0), [2117]), (60, (0, 5, 3, 0), [2075]), (65, (0, 5, 4, 0), [2078]), (68, (1, 96, 0, 0), [5142]), (72, (0, 9, 6, 0), [2191]), (75, (1, 97, 0, 0), [5138]), (79, (0, 0, 0, 0), [2106]), (83, (0, 2, 9, 0), [1180]), (88, (0, 5, 0, 0), [2063]), (91, (2, 122, 1, 0), [5149]), (94, (0, 9, 7, 0), [2192]), (97, (0, 9, 8, 0), [2193]), (100, (1, 100, 0, 0), [5150]), (104, (1, 99, 0, 0), [5159]), (108, (0, 9, 10, 0), [2196]), (112, (0, 9, 11, 0), [2198]), (115, (0, 9, 12, 0), [2199]), (118, (0, 9, 13, 0), [2201]), (119, (0, 9, 14, 0), [2203]), (122, (1, 374, 1, 0), [5163]), (128, (1, 101, 0, 0), [5154]), (131, (6, 0, 0, 0), [5158]), (137, (0, 9, 15, 0), [2205])]
def k_lI9 : List (Nat × cLk × List Nat) := k_lI9_0
def k_lI10_0 : List (Nat × cLk × List Nat) := [(3, (5, 0, 0, 0), [3005]), (9, (3, 5, 8, 0), [3006, 2054, 1012]), (11, (2, 62, 2, 0), [3007]), (12, (0, 10, 2, 0), [3012]), (18, (3, 1, 2, 0), [3008, 1030, 1002]), (20, (2, 7, 2, 0), [3009]), (21, (0, 10, 7, 0), [3020]), (25, (0, 10, 0, 0), [3010]), (29, (0, 10, 1, 0), [3011]), (33, (0, 10, 3, 0), [3013]), (37, (0, 10, 4, 0), [3014]), (41, (0, 10, 5, 0), [3016]), (44, (0, 10, 6, 0), [3018]), (47, (1, 9, 0, 0), [6126]), (51, (0, 10, 8, 0), [3022]), (54, (0, 10, 9, 0), [3024]), (57, (0, 0, 3, 0), [2116]), (62, (1, 64, 0, 0), [6127]), (66, (0, 0, 1, 0), [2110]), (70, (0, 8, 6, 0), [2001]), (75, (1, 105, 0, 0), [6128]), (79, (1, 106, 0, 0), [6132]), (83, (0, 8, 0, 0), [1232]), (87, (1, 107, 0, 0), [6136]), (91, (0, 8, 3, 0), [1238]), (94, (0, 8, 1, 0), [1234]), (98, (1, 108, 0, 0), [6140]), (102, (1, 109, 0, 0), [6145]), (105, (0, 8, 2, 0), [1236]), (108, (1, 110, 0, 0), [6156]), (111, (0, 5, 1, 0), [2069]), (114, (0, 0, 0, 0), [2107]), (118, (0, 2, 10, 0), [1186]), (123, (0, 1, 0, 0), [1037]), (127, (1, 358, 1, 0), [6144]), (133, (0, 1, 1, 0), [1040]), (136, (1, 73, 0, 0), [6149]), (142, (1, 78, 0, 0), [6150]), (145, (1, 77, 0, 0), [6151]), (147, (1, 12, 0, 0), [6152]), (151, (0, 2, 9, 0), [1183]), (154, (2, 121, 1, 0), [6160]), (158, (0, 5, 0, 0), [2064]), (161, (0, 5, 2, 0), [2072]), (164, (1, 65, 0, 0), [6161]), (167, (1, 66, 0, 0), [6162]), (170, (0, 5, 7, 0), [2086])]
def k_lI10 : List (Nat × cLk × List Nat) := k_lI10_0
def k_lI11_0 : List (Nat × cLk × List Nat) := [(1, (5, 0, 0, 0), [1026]), (7, (3, 1, 2, 0), [1029, 1030, 1002]), (9, (2, 7, 2, 0), [1031]), (10, (0, 11, 1, 0), [3097]), (16, (0, 11, 2, 0), [3098]), (21, (0, 11, 3, 0), [3099]), (24, (0, 11, 4, 0), [3100]), (28, (0, 11, 5, 0), [3101]), (31, (0, 11, 6, 0), [3102]), (35, (3, 4, 12, 0), [1048, 1049, 1003]), (37, (1, 41, 2, 0), [1050]), (38, (0, 11, 8, 0), [3104]), (42, (3, 0, 6, 0), [1153, 1154, 1008]), (44, (2, 0, 2, 0), [1155]), (45, (0, 11, 9, 0), [3105]), (49, (3, 2, 14, 0), [2139, 1160, 1009]), (51, (2, 14, 2, 0), [2140]), (52, (0, 11, 10, 0), [3106]), (56, (3, 8, 7, 0), [2141, 1226, 1010]), (58, (2, 88, 2, 0), [2142]), (59, (0, 11, 11, 0), [3107]), (63, (3, 3, 8, 0), [2143, 2020, 1011]), (65, (2, 31, 2, 0), [2144]), (66, (0, 11, 12, 0), [3108]), (70, (0, 11, 13, 0), [3109]), (74, (3, 6, 5, 0), [2146, 2147, 1013]), (76, (2, 70, 2, 0), [2148]), (77, (0, 11, 15, 0), [3111]), (81, (3, 5, 8, 0), [2177, 2054, 1012]), (83, (2, 62, 2, 0), [2178]), (84, (0, 11, 16, 0), [3112]), (88, (3, 9, 16, 0), [2179, 2180, 1014]), (90, (1, 95, 2, 0), [2181]), (93, (0, 11, 17, 0), [3113]), (97, (3, 10, 10, 0), [3000, 3001, 1015]), (99, (1, 103, 2, 0), [3002]), (100, (0, 11, 18, 0), [3114]), (104, (3, 7, 11, 0), [3047, 3048, 1016]), (106, (1, 80, 2, 0), [3049]), (109, (0, 11, 19, 0), [3115]), (113, (1, 374, 1, 0), [3093]), (119, (0, 11, 0, 0), [3096]), (123, (0, 1, 0, 0), [1036]), (127, (0, 1, 1, 0), [1039]), (130, (1, 9, 0, 0), [5040]), (134, (1, 117, 0, 0), [3184]), (138, (9, 0, 0, 3), [3173]), (140, (1, 120, 1, 0), [3174]), (144, (1, 115, 0, 0), [3177]), (148, (1, 373, 1, 0), [3181]), (151, (1, 124, 0, 0), [3192]), (155, (1, 126, 1, 0), [3196]), (159, (9, 0, 0, (-1)), [3203]), (161, (6, 0, 0, 0), [3208]), (167, (0, 11, 7, 0), [3103]), (170, (1, 130, 0, 0), [3215]), (174, (1, 43, 0, 0), [3231]), (178, (1, 116, 0, 0), [3223]), (182, (1, 131, 0, 0), [3227]), (185, (1, 16, 0, 0), [4024]), (189, (0, 4, 10, 0), [1121]), (192, (0, 0, 0, 0), [2108]), (195, (0, 0, 5, 0), [2125]), (198, (0, 0, 3, 0), [2120]), (201, (0, 2, 9, 0), [1184]), (204, (0, 2, 10, 0), [1190]), (207, (1, 63, 0, 0), [4112]), (211, (1, 118, 0, 0), [4124]), (214, (0, 4, 11, 0), [1123]), (217, (0, 2, 12, 0), [1194]), (220, (0, 2, 11, 0), [1192]), (223, (1, 121, 1, 0), [4230]), (226, (1, 138, 0, 0), [4140]), (229, (0, 2, 3, 0), [1172]), (232, (0, 2, 4, 0), [1174]), (235, (1, 137, 0, 0), [4148]), (238, (1, 135, 0, 0), [4152]), (241, (1, 136, 0, 0), [4156]), (244, (1, 141, 1, 0), [4160]), (248, (9, 0, 0, 99), [4163]), (250, (1, 28, 0, 0), [4164]), (254, (1, 4, 0, 0), [4186]), (258, (1, 5, 0, 0), [4195]), (262, (1, 139, 0, 0), [4207]), (265, (9, 0, 0, 5), [4211]), (267, (1, 2, 0, 0), [4212]), (270, (9, 0, 0, 999), [4220]), (272, (1, 3, 0, 0), [4221]), (276, (1, 140, 0, 0), [4226]), (279, (0, 5, 0, 0), [2065]), (282, (0, 5, 1, 0), [2070]), (285, (0, 5, 2, 0), [2073]), (288, (1, 65, 0, 0), [4239]), (291, (1, 66, 0, 0), [5000]), (294, (0, 5, 7, 0), [2087]), (298, (0, 5, 3, 0), [2076]), (301, (0, 5, 4, 0), [2079]), (304, (0, 5, 5, 0), [2081]), (307, (0, 5, 6, 0), [2083]), (310, (1, 75, 0, 0), [5017])]
def k_lI11_1 : List (Nat × cLk × List Nat) := [(314, (1, 153, 0, 0), [5013]), (318, (0, 6, 3, 0), [2162]), (321, (0, 6, 4, 0), [2165]), (324, (1, 119, 0, 0), [5036]), (328, (1, 73, 0, 0), [5059]), (332, (1, 156, 0, 0), [5055]), (335, (1, 78, 0, 0), [5091]), (338, (1, 77, 0, 0), [5095]), (340, (1, 142, 0, 0), [5107]), (343, (1, 64, 0, 0), [5115]), (347, (1, 122, 1, 0), [5119]), (350, (1, 22, 0, 0), [5120]), (353, (1, 11, 0, 0), [5121]), (356, (1, 158, 0, 0), [5103]), (359, (1, 159, 0, 0), [5111]), (363, (9, 0, 0, 8), [5133]), (365, (1, 98, 0, 0), [5134]), (368, (0, 9, 14, 0), [2204]), (371, (0, 9, 10, 0), [2197]), (374, (0, 9, 13, 0), [2202]), (375, (0, 9, 9, 0), [2195]), (378, (1, 102, 0, 0), [5172]), (381, (0, 9, 15, 0), [2206]), (384, (9, 0, 0, 60), [5176]), (386, (0, 9, 12, 0), [2200]), (389, (9, 0, 0, (-9999)), [5181]), (391, (9, 0, 0, 9999), [5182]), (393, (1, 76, 0, 0), [5183]), (396, (1, 13, 0, 0), [5188]), (399, (1, 67, 0, 0), [5196]), (402, (1, 168, 0, 0), [5197]), (406, (0, 6, 0, 0), [2154]), (409, (0, 6, 1, 0), [2157]), (413, (1, 10, 0, 0), [5201]), (415, (9, 0, 0, 50), [5210]), (417, (0, 6, 2, 0), [2159]), (420, (9, 0, 0, 4), [5219]), (422, (1, 360, 1, 0), [5220]), (428, (1, 172, 0, 0), [5225]), (431, (9, 0, 0, 2), [6001]), (433, (1, 175, 0, 0), [5237]), (436, (1, 179, 0, 0), [6014]), (440, (1, 178, 0, 0), [6010]), (444, (4, 0, 0, 65536), [6029]), (445, (1, 182, 1, 0), [6026]), (448, (1, 183, 1, 0), [6030]), (451, (1, 6, 0, 0), [6033]), (453, (1, 185, 1, 0), [6043]), (456, (1, 187, 0, 0), [6046]), (460, (1, 362, 1, 0), [6067]), (463, (1, 74, 0, 0), [6050]), (466, (1, 79, 0, 0), [6057]), (469, (1, 358, 1, 0), [6072]), (473, (1, 361, 1, 0), [6081]), (475, (1, 189, 0, 0), [6077]), (478, (1, 90, 0, 0), [6082]), (481, (0, 0, 1, 0), [2111]), (484, (0, 8, 6, 0), [2003]), (487, (1, 104, 0, 0), [6122]), (490, (0, 10, 5, 0), [3017]), (493, (0, 10, 4, 0), [3015]), (494, (0, 10, 7, 0), [3021]), (497, (0, 10, 6, 0), [3019]), (500, (0, 10, 8, 0), [3023]), (503, (0, 10, 9, 0), [3025]), (506, (1, 33, 0, 0), [6171]), (507, (0, 0, 2, 0), [2114]), (510, (0, 3, 7, 0), [2035]), (513, (1, 194, 0, 0), [6211]), (516, (1, 81, 0, 0), [6215]), (519, (1, 86, 0, 0), [7020]), (521, (0, 7, 8, 0), [3064]), (524, (0, 7, 9, 0), [3066]), (527, (0, 7, 10, 0), [3068]), (530, (0, 11, 14, 0), [3110]), (533, (1, 1, 0, 0), [7037])]
def k_lI11 : List (Nat × cLk × List Nat) := k_lI11_0 ++ (k_lI11_1)
def k_lI12_0 : List (Nat × cLk × List Nat) := [(1, (5, 0, 0, 0), [7067]), (7, (0, 12, 3, 0), [7075]), (13, (0, 12, 4, 0), [7076]), (17, (0, 12, 5, 0), [7077]), (20, (0, 12, 6, 0), [7078]), (24, (0, 12, 7, 0), [7079]), (28, (0, 12, 10, 0), [7082]), (32, (0, 12, 11, 0), [7083]), (35, (0, 12, 22, 0), [7094]), (38, (0, 12, 23, 0), [7095]), (41, (0, 12, 24, 0), [7096]), (44, (0, 12, 26, 0), [7098]), (47, (0, 12, 27, 0), [7099]), (50, (0, 12, 28, 0), [7100]), (53, (0, 12, 31, 0), [7103]), (56, (0, 12, 32, 0), [7104]), (59, (0, 12, 33, 0), [7105]), (62, (0, 12, 34, 0), [7106]), (65, (0, 12, 35, 0), [7107]), (68, (0, 12, 55, 0), [7127]), (71, (0, 12, 56, 0), [7128]), (74, (0, 12, 57, 0), [7129]), (77, (1, 249, 0, 0), [7068]), (81, (0, 12, 1, 0), [7073]), (84, (0, 12, 0, 0), [7072]), (87, (0, 12, 2, 0), [7074]), (90, (1, 358, 1, 0), [9076]), (96, (1, 207, 1, 0), [9073]), (100, (1, 205, 0, 0), [8023]), (104, (1, 211, 0, 0), [8035]), (108, (1, 212, 0, 0), [8031]), (112, (1, 209, 1, 0), [8039]), (116, (9, 0, 0, (-1)), [8046]), (118, (9, 0, 0, 3), [8218]), (120, (1, 206, 1, 0), [8145]), (124, (0, 12, 9, 0), [7081]), (127, (0, 12, 16, 0), [7088]), (130, (0, 12, 15, 0), [7087]), (133, (1, 218, 0, 0), [8071]), (136, (0, 12, 14, 0), [7086]), (139, (1, 219, 1, 0), [8075]), (142, (0, 12, 21, 0), [7093]), (145, (9, 0, 0, 32), [8078]), (147, (9, 0, 0, 96), [8079]), (149, (0, 12, 18, 0), [7090]), (152, (1, 220, 1, 0), [8080]), (155, (0, 12, 17, 0), [7089]), (158, (1, 221, 1, 0), [8083]), (161, (1, 224, 1, 0), [8090]), (165, (1, 225, 0, 0), [8093]), (169, (1, 226, 0, 0), [8086]), (173, (1, 227, 0, 0), [8113]), (176, (1, 230, 0, 0), [8109]), (180, (1, 228, 0, 0), [8117]), (183, (1, 229, 0, 0), [8121]), (186, (0, 12, 12, 0), [7084]), (189, (0, 12, 13, 0), [7085]), (192, (1, 232, 0, 0), [8101]), (196, (1, 222, 0, 0), [8067]), (199, (1, 233, 0, 0), [8125]), (202, (0, 12, 8, 0), [7080]), (205, (1, 237, 0, 0), [8055]), (208, (1, 240, 0, 0), [8133]), (212, (1, 231, 0, 0), [8105]), (215, (1, 241, 0, 0), [8129]), (218, (1, 235, 0, 0), [8141]), (221, (0, 12, 19, 0), [7091]), (224, (1, 244, 0, 0), [8164]), (227, (1, 223, 0, 0), [8168]), (230, (0, 12, 20, 0), [7092]), (233, (1, 247, 0, 0), [8152]), (236, (1, 234, 0, 0), [8172]), (240, (1, 245, 0, 0), [8160]), (243, (1, 246, 0, 0), [8156]), (246, (1, 242, 0, 0), [8097]), (250, (1, 238, 0, 0), [8063]), (254, (1, 243, 0, 0), [8137]), (257, (1, 248, 0, 0), [8148]), (260, (1, 239, 0, 0), [8176]), (263, (9, 0, 0, 4), [8188]), (265, (1, 204, 0, 0), [8189]), (268, (1, 254, 0, 0), [8197]), (271, (1, 259, 1, 0), [8224]), (275, (1, 260, 0, 0), [8227]), (278, (9, 0, 0, 999), [8231]), (280, (1, 362, 1, 0), [8232]), (283, (1, 360, 1, 0), [8233]), (286, (1, 255, 0, 0), [8205]), (289, (1, 252, 0, 0), [8209]), (292, (1, 253, 0, 0), [8213]), (295, (9, 0, 0, 11), [8217]), (297, (9, 0, 0, 99), [8219]), (299, (1, 261, 0, 0), [8220]), (303, (1, 217, 0, 0), [8238]), (306, (1, 216, 0, 0), [9002]), (310, (1, 263, 0, 0), [9006]), (313, (1, 256, 0, 0), [9014]), (316, (9, 0, 0, 5), [9018]), (318, (9, 0, 0, 15), [9031]), (320, (9, 0, 0, 7), [9044])]
def k_lI12_1 : List (Nat × cLk × List Nat) := [(322, (1, 272, 0, 0), [9061]), (325, (1, 273, 0, 0), [9057]), (329, (1, 275, 0, 0), [9049]), (332, (1, 274, 0, 0), [9053]), (336, (1, 208, 0, 0), [9069]), (340, (0, 12, 29, 0), [7101]), (343, (0, 12, 30, 0), [7102]), (346, (1, 280, 0, 0), [9089]), (349, (1, 281, 0, 0), [9085]), (352, (1, 278, 0, 0), [9093]), (355, (1, 279, 0, 0), [9097]), (359, (1, 282, 0, 0), [9081]), (362, (1, 284, 0, 0), [9101]), (365, (1, 283, 0, 0), [9113]), (368, (0, 12, 50, 0), [7122]), (371, (1, 286, 0, 0), [9109]), (374, (9, 0, 0, 60), [9130]), (376, (0, 12, 39, 0), [7111]), (379, (0, 12, 38, 0), [7110]), (382, (0, 12, 36, 0), [7108]), (385, (0, 12, 40, 0), [7112]), (388, (1, 290, 0, 0), [9131]), (391, (9, 0, 0, 8), [9125]), (393, (1, 289, 0, 0), [9126]), (396, (0, 12, 37, 0), [7109]), (399, (0, 12, 41, 0), [7113]), (403, (9, 0, 0, (-9999)), [9147]), (405, (9, 0, 0, 9999), [9148]), (407, (1, 294, 0, 0), [9149]), (410, (1, 297, 0, 0), [9161]), (414, (9, 0, 0, 50), [9169]), (416, (1, 302, 0, 0), [9182]), (419, (1, 305, 0, 0), [9194]), (422, (1, 308, 0, 0), [9210]), (425, (1, 309, 0, 0), [9206]), (429, (0, 12, 51, 0), [7123]), (432, (4, 0, 0, 65536), [9230]), (433, (1, 312, 0, 0), [9226]), (436, (1, 313, 0, 0), [9222]), (439, (1, 357, 1, 0), [10004]), (442, (9, 0, 0, 2), [9235]), (444, (1, 315, 0, 0), [9236]), (447, (1, 317, 0, 0), [10000]), (451, (1, 316, 0, 0), [10005]), (454, (9, 0, 0, 115), [10025]), (456, (1, 320, 0, 0), [10021]), (459, (1, 321, 0, 0), [10030]), (462, (0, 12, 52, 0), [7124]), (465, (1, 322, 0, 0), [10026]), (469, (1, 323, 0, 0), [10034]), (472, (1, 324, 0, 0), [10017]), (475, (0, 12, 46, 0), [7118]), (478, (0, 12, 43, 0), [7115]), (481, (0, 12, 48, 0), [7120]), (484, (0, 12, 47, 0), [7119]), (487, (0, 12, 44, 0), [7116]), (490, (0, 12, 45, 0), [7117]), (493, (1, 330, 0, 0), [10046]), (496, (1, 328, 0, 0), [10042]), (499, (0, 12, 42, 0), [7114]), (502, (1, 326, 0, 0), [10050]), (505, (1, 329, 0, 0), [10054]), (508, (1, 327, 0, 0), [10058]), (511, (0, 12, 49, 0), [7121]), (514, (1, 338, 0, 0), [10086]), (517, (1, 333, 0, 0), [10110]), (520, (1, 334, 0, 0), [10114]), (523, (1, 335, 0, 0), [10082]), (526, (1, 336, 0, 0), [10098]), (528, (1, 337, 0, 0), [10118]), (531, (0, 12, 53, 0), [7125]), (534, (1, 342, 0, 0), [10102]), (537, (1, 340, 0, 0), [10090]), (540, (1, 339, 0, 0), [10106]), (543, (1, 343, 0, 0), [10078]), (546, (1, 345, 0, 0), [10070]), (549, (1, 341, 0, 0), [10094]), (552, (1, 344, 0, 0), [10074]), (555, (1, 347, 0, 0), [10130]), (558, (1, 348, 0, 0), [10126]), (561, (1, 350, 0, 0), [10138]), (564, (1, 351, 0, 0), [10142]), (567, (0, 12, 54, 0), [7126]), (570, (0, 12, 25, 0), [7097]), (573, (1, 354, 0, 0), [10154])]
def k_lI12 : List (Nat × cLk × List Nat) := k_lI12_0 ++ (k_lI12_1)
def k_lI : List (Nat × List (Nat × cLk × List Nat)) := [(0, k_lI0), (1, k_lI1), (2, k_lI2), (3, k_lI3), (4, k_lI4), (5, k_lI5), (6, k_lI6), (7, k_lI7), (8, k_lI8), (9, k_lI9), (10, k_lI10), (11, k_lI11), (12, k_lI12)]
theorem k_lI_eq : k_lnks = k_lI.map (fun q => (q.1, q.2.map (fun z => (z.1, z.2.1)))) := by decide +kernel
def k_lB (own : Nat) (z : Nat × cLk × List Nat) : Bool := match z.2.1.1 with
  | 0 => (match k_cl[z.2.1.2.1]? with
    | some (_, T, N) => Nat.blt z.2.1.2.2.1 N && k_at (z.2.2.getD 0 0) (.fieldLink (k_nm own) z.1 (T z.2.1.2.2.1).1 (T z.2.1.2.2.1).2.1 (T z.2.1.2.2.1).2.2.1)
    | none => false)
  | 1 => (match k_look z.2.1.2.1 k_mths with
    | some M => k_at (z.2.2.getD 0 0) (.methodLink (k_nm own) z.1 M.1) && Nat.beq M.2.2.2.2 z.2.1.2.2.1
    | none => false)
  | 2 => (match k_look z.2.1.2.1 k_mths with
    | some M => k_atN (z.2.2.getD 0 0) (.methodLinkNest (k_nm own) z.1 M.1 "MayBoats") && Nat.beq M.2.2.2.2 z.2.1.2.2.1
    | none => false)
  | 3 => (match k_cl[z.2.1.2.1]? with
    | some (C, _, N) => Nat.beq N z.2.1.2.2.1 && k_at (z.2.2.getD 0 0) (.classLink (k_nm own) z.1 C) && k_at (z.2.2.getD 1 0) (.instantiable C z.2.1.2.2.1) && k_at (z.2.2.getD 2 0) (.initialized C)
    | none => false)
  | 4 => k_at (z.2.2.getD 0 0) (.constant (k_nm own) z.1 (Int32.ofInt z.2.1.2.2.2))
  | 9 => k_at (z.2.2.getD 0 0) (.constantLong (k_nm own) z.1 (Int64.ofInt z.2.1.2.2.2))
  | 5 => k_at (z.2.2.getD 0 0) (.methodLink (k_nm own) z.1 Lib.objectInit)
  | 6 => k_at (z.2.2.getD 0 0) (.methodLink (k_nm own) z.1 arraycopyName)
  | _ => false
theorem k_lB0_0 : k_lI0_0.all (k_lB 0) = true := by decide +kernel
theorem k_lB1_0 : k_lI1_0.all (k_lB 1) = true := by decide +kernel
theorem k_lB2_0 : k_lI2_0.all (k_lB 2) = true := by decide +kernel
theorem k_lB3_0 : k_lI3_0.all (k_lB 3) = true := by decide +kernel
theorem k_lB4_0 : k_lI4_0.all (k_lB 4) = true := by decide +kernel
theorem k_lB5_0 : k_lI5_0.all (k_lB 5) = true := by decide +kernel
theorem k_lB6_0 : k_lI6_0.all (k_lB 6) = true := by decide +kernel
theorem k_lB7_0 : k_lI7_0.all (k_lB 7) = true := by decide +kernel
theorem k_lB8_0 : k_lI8_0.all (k_lB 8) = true := by decide +kernel
theorem k_lB9_0 : k_lI9_0.all (k_lB 9) = true := by decide +kernel
theorem k_lB10_0 : k_lI10_0.all (k_lB 10) = true := by decide +kernel
theorem k_lB11_0 : k_lI11_0.all (k_lB 11) = true := by decide +kernel
theorem k_lB11_1 : k_lI11_1.all (k_lB 11) = true := by decide +kernel
theorem k_lB12_0 : k_lI12_0.all (k_lB 12) = true := by decide +kernel
theorem k_lB12_1 : k_lI12_1.all (k_lB 12) = true := by decide +kernel
theorem k_lB_all : ∀ q ∈ k_lI, q.2.all (k_lB q.1) = true := by
  intro q hq
  unfold k_lI at hq
  simp only [List.mem_cons, List.not_mem_nil, or_false] at hq
  rcases hq with rfl | rfl | rfl | rfl | rfl | rfl | rfl | rfl | rfl | rfl | rfl | rfl | rfl
  · show k_lI0.all (k_lB 0) = true
    unfold k_lI0
    exact k_lB0_0
  · show k_lI1.all (k_lB 1) = true
    unfold k_lI1
    exact k_lB1_0
  · show k_lI2.all (k_lB 2) = true
    unfold k_lI2
    exact k_lB2_0
  · show k_lI3.all (k_lB 3) = true
    unfold k_lI3
    exact k_lB3_0
  · show k_lI4.all (k_lB 4) = true
    unfold k_lI4
    exact k_lB4_0
  · show k_lI5.all (k_lB 5) = true
    unfold k_lI5
    exact k_lB5_0
  · show k_lI6.all (k_lB 6) = true
    unfold k_lI6
    exact k_lB6_0
  · show k_lI7.all (k_lB 7) = true
    unfold k_lI7
    exact k_lB7_0
  · show k_lI8.all (k_lB 8) = true
    unfold k_lI8
    exact k_lB8_0
  · show k_lI9.all (k_lB 9) = true
    unfold k_lI9
    exact k_lB9_0
  · show k_lI10.all (k_lB 10) = true
    unfold k_lI10
    exact k_lB10_0
  · show k_lI11.all (k_lB 11) = true
    unfold k_lI11
    rw [List.all_append, k_lB11_0, k_lB11_1]
    rfl
  · show k_lI12.all (k_lB 12) = true
    unfold k_lI12
    rw [List.all_append, k_lB12_0, k_lB12_1]
    rfl
theorem k_lnkOk : c_lnkOk k_P k_cl k_Z := by
  intro own idx k a b v h
  have h : (match k_look own k_lnks with | some l => k_look idx l | none => none) = some (k, a, b, v) := h
  split at h
  · rename_i l hl
    have h1 := k_look_ok hl
    have h2 := k_look_ok h
    rw [k_lI_eq] at h1
    obtain ⟨q, hq, he⟩ := List.mem_map.mp h1
    cases he
    obtain ⟨z, hz, he⟩ := List.mem_map.mp h2
    cases he
    have g := List.all_eq_true.mp (k_lB_all q hq) z hz
    unfold k_lB at g
    unfold c_lk
    obtain ⟨zi, ⟨zk, za, zb, zv⟩, zl⟩ := z
    dsimp only at g ⊢
    split at g
    · split at g
      · rename_i T N hc
        rw [Bool.and_eq_true] at g
        exact ⟨_, T, N, hc, Nat.le_of_ble_eq_true g.1, k_at_ok g.2⟩
      · cases g
    · split at g
      · rename_i M hM
        rw [Bool.and_eq_true] at g
        exact ⟨M, hM, k_at_ok g.1, Nat.eq_of_beq_eq_true g.2⟩
      · cases g
    · split at g
      · rename_i M hM
        rw [Bool.and_eq_true] at g
        exact ⟨M, hM, k_atN_ok g.1, Nat.eq_of_beq_eq_true g.2⟩
      · cases g
    · split at g
      · rename_i C T N hc
        rw [Bool.and_eq_true, Bool.and_eq_true, Bool.and_eq_true] at g
        have e := Nat.eq_of_beq_eq_true g.1.1.1
        subst e
        exact ⟨C, T, hc, k_at_ok g.1.1.2, k_at_ok g.1.2, k_at_ok g.2⟩
      · cases g
    · exact k_at_ok g
    · exact k_at_ok g
    · exact k_at_ok g
    · exact k_at_ok g
    · cases g
  · cases h
def k_cI : List (List Nat) := [[2126, 2128, 2130, 2132, 2134, 2136], [1041, 1043], [1196, 1198, 1200, 1202, 1204, 1206, 1208, 1210, 1212, 1214, 1216, 1218, 1220, 1222], [2036, 2038, 2040, 2042, 2044, 2046, 2048, 2050], [1124, 1126, 1128, 1130, 1132, 1134, 1136, 1138, 1140, 1142, 1144, 1146], [2088, 2090, 2092, 2094, 2096, 2098, 2100, 2102], [2166, 2168, 2170, 2172, 2174], [3069, 3071, 3073, 3075, 3077, 3079, 3081, 3083, 3085, 3087, 3089], [2004, 2006, 2008, 2010, 2012, 2014, 2016], [2207, 2209, 2211, 2213, 2215, 2217, 2219, 2221, 2223, 2225, 2227, 2229, 2231, 2233, 2235, 2237], [3026, 3028, 3030, 3032, 3034, 3036, 3038, 3040, 3042, 3044], [3116, 3118, 3120, 3122, 3124, 3126, 3128, 3130, 3132, 3134, 3136, 3138, 3140, 3142, 3144, 3146, 3148, 3150, 3152, 3154], [7130, 7132, 7134, 7136, 7138, 7140, 7142, 7144, 7146, 7148, 7150, 7152, 7154, 7156, 7158, 7160, 7162, 7164, 7166, 7168, 7170, 7172, 7174, 7176, 7178, 7180, 7182, 7184, 7186, 7188, 7190, 7192, 7194, 7196, 7198, 7200, 7202, 7204, 7206, 7208, 7210, 7212, 7214, 7216, 7218, 7220, 7222, 7224, 7226, 7228, 7230, 7232, 7234, 7236, 7238, 8000, 8002, 8004]]
/-! classes -/
def k_cB (ci : Nat) (q : vw_C) : Bool := (List.range q.2.2).all (fun k => k_at ((k_cI.getD ci []).getD k 0) (u_lay q.1 q.2.1 k) && (List.range q.2.2).all (fun j => Nat.beq j k || decide ((q.2.1 k).2.1 ≠ (q.2.1 j).2.1)) && decide ((q.2.1 k).1 = q.1) && (match parseFieldDescriptor (q.2.1 k).2.2.1 with
  | some ty => Nat.beq (k_P.2.2.2 ci k) (c_tyC ty + (if (q.2.1 k).2.2.2 = true then 10 else 0))
  | none => false))
def k_cBs : Nat → List vw_C → Bool
  | _, [] => true
  | ci, q :: l => k_cB ci q && k_cBs (ci + 1) l
theorem k_cBs_ok : ∀ {l : List vw_C} {n ci : Nat} {q : vw_C}, k_cBs n l = true → l[ci]? = some q → k_cB (n + ci) q = true
  | [], _, _, _, _, h => by simp at h
  | x :: l, n, 0, q, h, hq => by
    unfold k_cBs at h
    rw [Bool.and_eq_true] at h
    cases hq
    exact h.1
  | x :: l, n, ci + 1, q, h, hq => by
    unfold k_cBs at h
    rw [Bool.and_eq_true] at h
    have := k_cBs_ok (ci := ci) h.2 (by simpa using hq)
    rw [show n + (ci + 1) = n + 1 + ci by omega]
    exact this
theorem k_cB_all : k_cBs 0 k_cl = true := by decide +kernel
theorem k_clsOk : c_clsOk k_P k_cl k_Z.2.2.1 := by
  intro ci C T N hc
  have h := k_cBs_ok k_cB_all hc
  rw [Nat.zero_add] at h
  unfold k_cB at h
  have key : ∀ k, k < N → _ := fun k hk => List.all_eq_true.mp h k (List.mem_range.mpr hk)
  refine ⟨fun w hw => ?_, fun a ha b hb hab => ?_, fun k => (parseFieldDescriptor (T k).2.2.1).getD .int, fun k hk => ?_, fun k hk => ?_⟩
  · obtain ⟨k, hk, rfl⟩ := List.mem_map.mp hw
    have g := key k (List.mem_range.mp hk)
    rw [Bool.and_eq_true, Bool.and_eq_true, Bool.and_eq_true] at g
    exact k_at_ok g.1.1.1
  · have g := key a ha
    rw [Bool.and_eq_true, Bool.and_eq_true, Bool.and_eq_true] at g
    have g2 := List.all_eq_true.mp g.1.1.2 b (List.mem_range.mpr hb)
    rw [Bool.or_eq_true] at g2
    rcases g2 with g2 | g2
    · exact absurd (Nat.eq_of_beq_eq_true g2).symm hab
    · exact of_decide_eq_true g2
  · have g := key k hk
    rw [Bool.and_eq_true] at g
    have g2 := g.2
    dsimp only
    split at g2
    · rename_i ty ht
      have ht : parseFieldDescriptor (T k).2.2.1 = some ty := ht
      rw [ht]; rfl
    · cases g2
  · have g := key k hk
    rw [Bool.and_eq_true, Bool.and_eq_true] at g
    have g2 := g.2
    split at g2
    · rename_i ty ht
      have ht : parseFieldDescriptor (T k).2.2.1 = some ty := ht
      dsimp only
      rw [ht]
      exact ⟨Nat.eq_of_beq_eq_true g2, of_decide_eq_true g.1.2⟩
    · cases g2
theorem k_good : GoodIn k_ws k_ws := fun w hw => ⟨hw, good_of_word (List.mem_filter.mp hw).2⟩
theorem k_nest : ∀ x ∈ k_Z.2.2.2.1, ∃ (a : String) (i : Nat) (y : MethodName) (h : String), x = .methodLinkNest a i y h := by
  intro x hx
  have h := (List.mem_filter.mp hx).2
  unfold k_isN at h
  split at h
  · exact ⟨_, _, _, _, rfl⟩
  · cases h
theorem k_acOk : c_acOk k_cl k_Z "MayBoats$Book" := by
  refine ⟨fun ty h => ?_, k_at_ok (i := 2145) (by decide +kernel), _, _, rfl⟩
  rcases h with rfl | rfl | rfl | rfl | rfl
  · exact k_at_ok (i := 1150) (by decide +kernel)
  · exact k_at_ok (i := 1149) (by decide +kernel)
  · exact k_at_ok (i := 1151) (by decide +kernel)
  · exact k_at_ok (i := 1152) (by decide +kernel)
  · exact k_at_ok (i := 3092) (by decide +kernel)
theorem k_libOk : c_libOk k_Z := ⟨k_at_ok (i := 1027) (by decide +kernel), k_at_ok (i := 1028) (by decide +kernel), k_at_ok (i := 3210) (by decide +kernel), k_at_ok (i := 3209) (by decide +kernel), k_at_ok (i := 1019) (by decide +kernel)⟩
