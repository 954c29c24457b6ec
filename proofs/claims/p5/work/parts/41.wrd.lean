/-! words, methods, links, classes (printed by words.py) -/
def k_f0 : List (String × String × String × Bool) := [("MayBoats$Book", "land", "LMayBoats$Land;", false), ("MayBoats$Book", "ways", "LMayBoats$Ways;", false), ("MayBoats$Book", "line", "LMayBoats$Line;", false), ("MayBoats$Book", "sight", "LMayBoats$Sight;", true), ("MayBoats$Book", "cells", "[I", true), ("MayBoats$Book", "sheets", "I", false)]
def k_T0 : u_T := fun k => k_f0.getD k ("", "", "", false)
def k_f1 : List (String × String × String × Bool) := [("MayBoats$Fraction", "over", "J", false), ("MayBoats$Fraction", "under", "J", false)]
def k_T1 : u_T := fun k => k_f1.getD k ("", "", "", false)
def k_f2 : List (String × String × String × Bool) := [("MayBoats$Land", "townNames", "[J", true), ("MayBoats$Land", "kindNames", "[J", true), ("MayBoats$Land", "lawNames", "[J", true), ("MayBoats$Land", "boatTown", "[I", true), ("MayBoats$Land", "boatYear", "[I", true), ("MayBoats$Land", "lawEnd", "[I", true), ("MayBoats$Land", "code", "[S", true), ("MayBoats$Land", "variables", "[J", true), ("MayBoats$Land", "stack", "[J", true), ("MayBoats$Land", "towns", "I", false), ("MayBoats$Land", "kinds", "I", false), ("MayBoats$Land", "laws", "I", false), ("MayBoats$Land", "boats", "I", false), ("MayBoats$Land", "codeSize", "I", false)]
def k_T2 : u_T := fun k => k_f2.getD k ("", "", "", false)
def k_f3 : List (String × String × String × Bool) := [("MayBoats$Line", "claim", "[B", true), ("MayBoats$Line", "size", "[S", true), ("MayBoats$Line", "kinds", "[B", true), ("MayBoats$Line", "least", "[B", true), ("MayBoats$Line", "code", "[B", true), ("MayBoats$Line", "stack", "[I", true), ("MayBoats$Line", "codeSize", "I", false), ("MayBoats$Line", "claims", "I", false)]
def k_T3 : u_T := fun k => k_f3.getD k ("", "", "", false)
def k_f4 : List (String × String × String × Bool) := [("MayBoats$Reader", "sort", "[B", true), ("MayBoats$Reader", "wordNumber", "[B", true), ("MayBoats$Reader", "place", "[S", true), ("MayBoats$Reader", "value", "[J", true), ("MayBoats$Reader", "keys", "[J", true), ("MayBoats$Reader", "size", "I", false), ("MayBoats$Reader", "now", "I", false), ("MayBoats$Reader", "sortNow", "I", false), ("MayBoats$Reader", "wordNow", "I", false), ("MayBoats$Reader", "valueNow", "J", false), ("MayBoats$Reader", "faultKind", "I", false), ("MayBoats$Reader", "faultPlace", "I", false)]
def k_T4 : u_T := fun k => k_f4.getD k ("", "", "", false)
def k_f5 : List (String × String × String × Bool) := [("MayBoats$Sight", "beside", "I", false), ("MayBoats$Sight", "cut", "I", false), ("MayBoats$Sight", "streets", "I", false), ("MayBoats$Sight", "from", "I", false), ("MayBoats$Sight", "to", "I", false), ("MayBoats$Sight", "then", "I", false), ("MayBoats$Sight", "till", "I", false), ("MayBoats$Sight", "rents", "Z", false)]
def k_T5 : u_T := fun k => k_f5.getD k ("", "", "", false)
def k_f6 : List (String × String × String × Bool) := [("MayBoats$Tally", "count", "[I", true), ("MayBoats$Tally", "sum", "[J", true), ("MayBoats$Tally", "square", "[J", true), ("MayBoats$Tally", "picked", "I", false), ("MayBoats$Tally", "total", "J", false)]
def k_T6 : u_T := fun k => k_f6.getD k ("", "", "", false)
def k_f7 : List (String × String × String × Bool) := [("MayBoats$Turning", "book", "LMayBoats$Book;", true), ("MayBoats$Turning", "trial", "LMayBoats$Tally;", true), ("MayBoats$Turning", "count", "[I", true), ("MayBoats$Turning", "sum", "[I", true), ("MayBoats$Turning", "values", "[I", true), ("MayBoats$Turning", "group", "[I", true), ("MayBoats$Turning", "saying", "[I", true), ("MayBoats$Turning", "matters", "[Z", true), ("MayBoats$Turning", "found", "I", false), ("MayBoats$Turning", "first", "I", false), ("MayBoats$Turning", "second", "I", false)]
def k_T7 : u_T := fun k => k_f7.getD k ("", "", "", false)
def k_f8 : List (String × String × String × Bool) := [("MayBoats$Ways", "step", "[B", true), ("MayBoats$Ways", "first", "[S", true), ("MayBoats$Ways", "second", "[B", true), ("MayBoats$Ways", "stop", "[B", true), ("MayBoats$Ways", "open", "[I", true), ("MayBoats$Ways", "depth", "I", false), ("MayBoats$Ways", "steps", "I", false)]
def k_T8 : u_T := fun k => k_f8.getD k ("", "", "", false)
def k_f9 : List (String × String × String × Bool) := [("MayBoats$Weave", "book", "LMayBoats$Book;", true), ("MayBoats$Weave", "tally", "LMayBoats$Tally;", true), ("MayBoats$Weave", "others", "[I", true), ("MayBoats$Weave", "trial", "[I", true), ("MayBoats$Weave", "best", "[I", true), ("MayBoats$Weave", "prices", "[J", true), ("MayBoats$Weave", "many", "I", false), ("MayBoats$Weave", "among", "I", false), ("MayBoats$Weave", "bestSum", "J", false), ("MayBoats$Weave", "weight", "[I", true), ("MayBoats$Weave", "there", "Z", false), ("MayBoats$Weave", "own", "I", false), ("MayBoats$Weave", "n", "I", false), ("MayBoats$Weave", "towns", "I", false), ("MayBoats$Weave", "least", "J", false), ("MayBoats$Weave", "gapOver", "J", false)]
def k_T9 : u_T := fun k => k_f9.getD k ("", "", "", false)
def k_f10 : List (String × String × String × Bool) := [("MayBoats$Writing", "book", "LMayBoats$Book;", true), ("MayBoats$Writing", "tally", "LMayBoats$Tally;", true), ("MayBoats$Writing", "kept", "LMayBoats$Sight;", true), ("MayBoats$Writing", "own", "I", false), ("MayBoats$Writing", "there", "Z", false), ("MayBoats$Writing", "tries", "I", false), ("MayBoats$Writing", "farthestTry", "I", false), ("MayBoats$Writing", "farthest", "LMayBoats$Fraction;", true), ("MayBoats$Writing", "done", "I", false), ("MayBoats$Writing", "isCutOff", "Z", false)]
def k_T10 : u_T := fun k => k_f10.getD k ("", "", "", false)
def k_f11 : List (String × String × String × Bool) := [("MayBoats", "status", "I", false), ("MayBoats", "told", "LMayBoats$Fraction;", true), ("MayBoats", "other", "LMayBoats$Fraction;", true), ("MayBoats", "rows", "[[J", true), ("MayBoats", "sorts", "[I", true), ("MayBoats", "sizes", "[I", true), ("MayBoats", "tape", "[B", true), ("MayBoats", "tapeSize", "I", false), ("MayBoats", "reader", "LMayBoats$Reader;", true), ("MayBoats", "book", "LMayBoats$Book;", true), ("MayBoats", "spareLand", "LMayBoats$Land;", false), ("MayBoats", "spareWays", "LMayBoats$Ways;", false), ("MayBoats", "spareLine", "LMayBoats$Line;", false), ("MayBoats", "marks", "[LMayBoats$Book;", true), ("MayBoats", "markCount", "I", false), ("MayBoats", "tally", "LMayBoats$Tally;", true), ("MayBoats", "played", "LMayBoats$Sight;", true), ("MayBoats", "weaver", "LMayBoats$Weave;", true), ("MayBoats", "writing", "LMayBoats$Writing;", true), ("MayBoats", "turner", "LMayBoats$Turning;", true)]
def k_T11 : u_T := fun k => k_f11.getD k ("", "", "", false)
def k_f12 : List (String × String × String × Bool) := [("MayBoatsModel", "status", "I", false), ("MayBoatsModel", "thrown", "I", false), ("MayBoatsModel", "above", "J", false), ("MayBoatsModel", "under", "J", false), ("MayBoatsModel", "traySort", "[I", true), ("MayBoatsModel", "trayMany", "[I", true), ("MayBoatsModel", "numbers", "[J", true), ("MayBoatsModel", "tape", "[B", true), ("MayBoatsModel", "taped", "I", false), ("MayBoatsModel", "textEnd", "I", false), ("MayBoatsModel", "faultKind", "I", false), ("MayBoatsModel", "faultAt", "I", false), ("MayBoatsModel", "bad", "I", false), ("MayBoatsModel", "badAt", "I", false), ("MayBoatsModel", "token", "I", false), ("MayBoatsModel", "at", "I", false), ("MayBoatsModel", "behind", "I", false), ("MayBoatsModel", "number", "I", false), ("MayBoatsModel", "letters", "I", false), ("MayBoatsModel", "codeEnd", "I", false), ("MayBoatsModel", "open", "I", false), ("MayBoatsModel", "word", "J", false), ("MayBoatsModel", "c", "[I", true), ("MayBoatsModel", "words", "[J", true), ("MayBoatsModel", "stack", "[J", true), ("MayBoatsModel", "markMany", "I", false), ("MayBoatsModel", "sums", "[J", true), ("MayBoatsModel", "squares", "[J", true), ("MayBoatsModel", "counts", "[I", true), ("MayBoatsModel", "top", "J", false), ("MayBoatsModel", "bottom", "J", false), ("MayBoatsModel", "wages", "[I", true), ("MayBoatsModel", "weights", "[I", true), ("MayBoatsModel", "tried", "[I", true), ("MayBoatsModel", "who", "[I", true), ("MayBoatsModel", "prices", "[J", true), ("MayBoatsModel", "weaveTown", "I", false), ("MayBoatsModel", "weaveMany", "I", false), ("MayBoatsModel", "weaveBy", "I", false), ("MayBoatsModel", "whoMany", "I", false), ("MayBoatsModel", "leastSum", "J", false), ("MayBoatsModel", "hasWoven", "Z", false), ("MayBoatsModel", "done", "I", false), ("MayBoatsModel", "tries", "I", false), ("MayBoatsModel", "farTry", "I", false), ("MayBoatsModel", "leftOver", "I", false), ("MayBoatsModel", "writtenBoat", "I", false), ("MayBoatsModel", "farTop", "J", false), ("MayBoatsModel", "farBottom", "J", false), ("MayBoatsModel", "hasWritten", "Z", false), ("MayBoatsModel", "playedMany", "I", false), ("MayBoatsModel", "lastDraw", "I", false), ("MayBoatsModel", "newSteps", "I", false), ("MayBoatsModel", "lineEnd", "I", false), ("MayBoatsModel", "turnMany", "I", false), ("MayBoatsModel", "turns", "[I", true), ("MayBoatsModel", "wasWage", "[I", true), ("MayBoatsModel", "wasRent", "[I", true)]
def k_T12 : u_T := fun k => k_f12.getD k ("", "", "", false)
def k_cl : List vw_C := [("MayBoats$Book", k_T0, 6), ("MayBoats$Fraction", k_T1, 2), ("MayBoats$Land", k_T2, 14), ("MayBoats$Line", k_T3, 8), ("MayBoats$Reader", k_T4, 12), ("MayBoats$Sight", k_T5, 8), ("MayBoats$Tally", k_T6, 5), ("MayBoats$Turning", k_T7, 11), ("MayBoats$Ways", k_T8, 7), ("MayBoats$Weave", k_T9, 16), ("MayBoats$Writing", k_T10, 10), ("MayBoats", k_T11, 20), ("MayBoatsModel", k_T12, 58)]
def k_nms : List String := ["MayBoats$Book", "MayBoats$Fraction", "MayBoats$Land", "MayBoats$Line", "MayBoats$Reader", "MayBoats$Sight", "MayBoats$Tally", "MayBoats$Turning", "MayBoats$Ways", "MayBoats$Weave", "MayBoats$Writing", "MayBoats", "MayBoatsModel", "java/lang/Math", "java/util/Arrays", "java/lang/String", "java/lang/StringLatin1", "java/lang/StringUTF16", "jdk/internal/util/Preconditions"]
def k_nm (i : Nat) : String := k_nms.getD i ""
def k_mI0 : List (Nat × cMth × Nat × Nat × Nat × Nat) := [(0, (⟨"MayBoats$Book", "<init>", "()V"⟩, prog_2_method_1_code, 1, (Option.none : Option Jvm.ClassFile.FieldType), 2), 318, 169, 317, 0),
  (1, (⟨"MayBoats$Book", "copy", "(LMayBoats$Book;)V"⟩, prog_2_method_2_code, 2, (Option.none : Option Jvm.ClassFile.FieldType), 0), 1641, 169, 1639, 1640),
  (2, (⟨"MayBoats$Book", "cell", "(II)I"⟩, prog_2_method_3_code, 4, (Option.some Jvm.ClassFile.FieldType.int), 0), 1096, 169, 1094, 1095),
  (3, (⟨"MayBoats$Book", "setCell", "(III)V"⟩, prog_2_method_4_code, 5, (Option.none : Option Jvm.ClassFile.FieldType), 0), 1083, 169, 1081, 1082),
  (4, (⟨"MayBoats$Book", "fits", "([J)Z"⟩, prog_2_method_5_code, 2, (Option.some Jvm.ClassFile.FieldType.boolean), 0), 1070, 169, 1068, 1069),
  (5, (⟨"MayBoats$Book", "add", "([J)I"⟩, prog_2_method_6_code, 3, (Option.some Jvm.ClassFile.FieldType.int), 0), 1079, 169, 1077, 1078),
  (6, (⟨"MayBoats$Book", "wageBy", "(III)I"⟩, prog_2_method_7_code, 4, (Option.some Jvm.ClassFile.FieldType.int), 0), 1397, 169, 1395, 1396),
  (7, (⟨"MayBoats$Fraction", "<init>", "()V"⟩, prog_3_method_1_code, 1, (Option.none : Option Jvm.ClassFile.FieldType), 2), 194, 163, 193, 0),
  (8, (⟨"MayBoats$Fraction", "divisorOf", "(JJ)J"⟩, prog_3_method_2_code, 11, (Option.some Jvm.ClassFile.FieldType.long), 1), 1167, 163, 1166, 0),
  (9, (⟨"MayBoats$Fraction", "put", "(JJ)V"⟩, prog_3_method_3_code, 7, (Option.none : Option Jvm.ClassFile.FieldType), 0), 1164, 163, 1162, 1163),
  (10, (⟨"MayBoats$Fraction", "add", "(JJ)V"⟩, prog_3_method_4_code, 7, (Option.none : Option Jvm.ClassFile.FieldType), 0), 1325, 163, 1323, 1324),
  (11, (⟨"MayBoats$Fraction", "isReachedBy", "(JJ)Z"⟩, prog_3_method_5_code, 5, (Option.some Jvm.ClassFile.FieldType.boolean), 0), 1245, 163, 1243, 1244),
  (12, (⟨"MayBoats$Fraction", "isPassedBy", "(JJ)Z"⟩, prog_3_method_6_code, 5, (Option.some Jvm.ClassFile.FieldType.boolean), 0), 1516, 163, 1514, 1515),
  (13, (⟨"MayBoats$Fraction", "isAbove", "(JJ)Z"⟩, prog_3_method_7_code, 5, (Option.some Jvm.ClassFile.FieldType.boolean), 0), 1312, 163, 1310, 1311),
  (14, (⟨"MayBoats$Land", "<init>", "()V"⟩, prog_4_method_1_code, 1, (Option.none : Option Jvm.ClassFile.FieldType), 2), 324, 170, 323, 0),
  (15, (⟨"MayBoats$Land", "copy", "(LMayBoats$Land;)V"⟩, prog_4_method_2_code, 2, (Option.none : Option Jvm.ClassFile.FieldType), 0), 1645, 170, 1643, 1644),
  (16, (⟨"MayBoats$Land", "parse", "(LMayBoats$Reader;)V"⟩, prog_4_method_3_code, 3, (Option.none : Option Jvm.ClassFile.FieldType), 0), 908, 170, 906, 907),
  (17, (⟨"MayBoats$Land", "takeName", "(LMayBoats$Reader;[JI)Z"⟩, prog_4_method_4_code, 4, (Option.some Jvm.ClassFile.FieldType.boolean), 0), 924, 170, 923, 12),
  (18, (⟨"MayBoats$Land", "isKnown", "(J)Z"⟩, prog_4_method_5_code, 3, (Option.some Jvm.ClassFile.FieldType.boolean), 0), 941, 170, 940, 13),
  (19, (⟨"MayBoats$Land", "placeOf", "([JIJ)I"⟩, prog_4_method_6_code, 5, (Option.some Jvm.ClassFile.FieldType.int), 1), 944, 170, 943, 0),
  (20, (⟨"MayBoats$Land", "namePart", "(LMayBoats$Reader;[JI)I"⟩, prog_4_method_7_code, 4, (Option.some Jvm.ClassFile.FieldType.int), 0), 920, 170, 919, 11),
  (21, (⟨"MayBoats$Land", "boatPart", "(LMayBoats$Reader;)V"⟩, prog_4_method_8_code, 3, (Option.none : Option Jvm.ClassFile.FieldType), 0), 957, 170, 956, 14),
  (22, (⟨"MayBoats$Land", "boatTo", "(I)I"⟩, prog_4_method_9_code, 3, (Option.some Jvm.ClassFile.FieldType.int), 0), 961, 170, 959, 960),
  (23, (⟨"MayBoats$Land", "lawPart", "(LMayBoats$Reader;)V"⟩, prog_4_method_10_code, 2, (Option.none : Option Jvm.ClassFile.FieldType), 0), 969, 170, 968, 15),
  (24, (⟨"MayBoats$Land", "emit", "(I)V"⟩, prog_4_method_11_code, 2, (Option.none : Option Jvm.ClassFile.FieldType), 0), 989, 170, 988, 19),
  (25, (⟨"MayBoats$Land", "sumPart", "(LMayBoats$Reader;I)V"⟩, prog_4_method_12_code, 5, (Option.none : Option Jvm.ClassFile.FieldType), 0), 973, 170, 972, 16),
  (26, (⟨"MayBoats$Land", "itemPart", "(LMayBoats$Reader;I)V"⟩, prog_4_method_13_code, 5, (Option.none : Option Jvm.ClassFile.FieldType), 0), 977, 170, 976, 17),
  (27, (⟨"MayBoats$Land", "atomPart", "(LMayBoats$Reader;I)V"⟩, prog_4_method_14_code, 4, (Option.none : Option Jvm.ClassFile.FieldType), 0), 981, 170, 980, 18),
  (28, (⟨"MayBoats$Land", "wageBy", "(IIIIII)I"⟩, prog_4_method_15_code, 8, (Option.some Jvm.ClassFile.FieldType.int), 0), 1048, 170, 1046, 1047),
  (29, (⟨"MayBoats$Land", "runLaw", "(I)J"⟩, prog_4_method_16_code, 5, (Option.some Jvm.ClassFile.FieldType.long), 0), 1053, 170, 1052, 25),
  (30, (⟨"MayBoats$Land", "joinedBy", "(IJJ)J"⟩, prog_4_method_17_code, 5, (Option.some Jvm.ClassFile.FieldType.long), 1), 1056, 170, 1055, 0),
  (31, (⟨"MayBoats$Line", "<init>", "()V"⟩, prog_5_method_1_code, 1, (Option.none : Option Jvm.ClassFile.FieldType), 2), 424, 172, 423, 0),
  (32, (⟨"MayBoats$Line", "copy", "(LMayBoats$Line;)V"⟩, prog_5_method_2_code, 2, (Option.none : Option Jvm.ClassFile.FieldType), 0), 1655, 172, 1653, 1654),
  (33, (⟨"MayBoats$Line", "parse", "(LMayBoats$Reader;LMayBoats$Land;)V"⟩, prog_5_method_3_code, 3, (Option.none : Option Jvm.ClassFile.FieldType), 0), 1535, 172, 1533, 1534),
  (34, (⟨"MayBoats$Line", "emit", "(I)V"⟩, prog_5_method_4_code, 2, (Option.none : Option Jvm.ClassFile.FieldType), 0), 1559, 172, 1558, 58),
  (35, (⟨"MayBoats$Line", "eitherPart", "(LMayBoats$Reader;LMayBoats$Land;I)V"⟩, prog_5_method_5_code, 5, (Option.none : Option Jvm.ClassFile.FieldType), 0), 1539, 172, 1538, 55),
  (36, (⟨"MayBoats$Line", "bothPart", "(LMayBoats$Reader;LMayBoats$Land;I)V"⟩, prog_5_method_6_code, 5, (Option.none : Option Jvm.ClassFile.FieldType), 0), 1543, 172, 1542, 56),
  (37, (⟨"MayBoats$Line", "onePart", "(LMayBoats$Reader;LMayBoats$Land;I)V"⟩, prog_5_method_7_code, 6, (Option.none : Option Jvm.ClassFile.FieldType), 0), 1547, 172, 1546, 57),
  (38, (⟨"MayBoats$Line", "claimPart", "(LMayBoats$Reader;LMayBoats$Land;I)V"⟩, prog_5_method_8_code, 4, (Option.none : Option Jvm.ClassFile.FieldType), 0), 1564, 172, 1563, 59),
  (39, (⟨"MayBoats$Line", "valueOf", "(ILMayBoats$Tally;)I"⟩, prog_5_method_9_code, 8, (Option.some Jvm.ClassFile.FieldType.int), 0), 1606, 172, 1604, 1605),
  (40, (⟨"MayBoats$Line", "valueBy", "([I)I"⟩, prog_5_method_10_code, 6, (Option.some Jvm.ClassFile.FieldType.int), 0), 1614, 172, 1612, 1613),
  (41, (⟨"MayBoats$Reader", "<init>", "()V"⟩, prog_6_method_1_code, 2, (Option.none : Option Jvm.ClassFile.FieldType), 2), 213, 164, 212, 0),
  (42, (⟨"MayBoats$Reader", "addKeys", "(Ljava/lang/String;I)I"⟩, prog_6_method_2_code, 8, (Option.some Jvm.ClassFile.FieldType.int), 0), 219, 164, 218, 0),
  (43, (⟨"MayBoats$Reader", "scan", "([BI)V"⟩, prog_6_method_3_code, 6, (Option.none : Option Jvm.ClassFile.FieldType), 0), 875, 164, 873, 874),
  (44, (⟨"MayBoats$Reader", "isLetter", "(I)Z"⟩, prog_6_method_4_code, 1, (Option.some Jvm.ClassFile.FieldType.boolean), 1), 878, 164, 877, 0),
  (45, (⟨"MayBoats$Reader", "isDigit", "(I)Z"⟩, prog_6_method_5_code, 1, (Option.some Jvm.ClassFile.FieldType.boolean), 1), 893, 164, 892, 0),
  (46, (⟨"MayBoats$Reader", "isSignByte", "(I)Z"⟩, prog_6_method_6_code, 1, (Option.some Jvm.ClassFile.FieldType.boolean), 1), 900, 164, 899, 0),
  (47, (⟨"MayBoats$Reader", "put", "(IIJ)V"⟩, prog_6_method_7_code, 5, (Option.none : Option Jvm.ClassFile.FieldType), 0), 886, 164, 885, 8),
  (48, (⟨"MayBoats$Reader", "keyOf", "(J)I"⟩, prog_6_method_8_code, 4, (Option.some Jvm.ClassFile.FieldType.int), 0), 890, 164, 889, 9),
  (49, (⟨"MayBoats$Reader", "scanWord", "([BII)I"⟩, prog_6_method_9_code, 7, (Option.some Jvm.ClassFile.FieldType.int), 0), 882, 164, 881, 7),
  (50, (⟨"MayBoats$Reader", "scanNumber", "([BII)I"⟩, prog_6_method_10_code, 6, (Option.some Jvm.ClassFile.FieldType.int), 0), 897, 164, 896, 10),
  (51, (⟨"MayBoats$Reader", "atEnd", "()Z"⟩, prog_6_method_11_code, 1, (Option.some Jvm.ClassFile.FieldType.boolean), 0), 912, 164, 910, 911),
  (52, (⟨"MayBoats$Reader", "isNumber", "()Z"⟩, prog_6_method_12_code, 1, (Option.some Jvm.ClassFile.FieldType.boolean), 0), 985, 164, 983, 984),
  (53, (⟨"MayBoats$Reader", "isSign", "(C)Z"⟩, prog_6_method_13_code, 2, (Option.some Jvm.ClassFile.FieldType.boolean), 0), 952, 164, 950, 951),
  (54, (⟨"MayBoats$Reader", "isName", "(II)Z"⟩, prog_6_method_14_code, 4, (Option.some Jvm.ClassFile.FieldType.boolean), 0), 933, 164, 931, 932),
  (55, (⟨"MayBoats$Reader", "word", "()I"⟩, prog_6_method_15_code, 1, (Option.some Jvm.ClassFile.FieldType.int), 0), 916, 164, 914, 915),
  (56, (⟨"MayBoats$Reader", "held", "()J"⟩, prog_6_method_16_code, 1, (Option.some Jvm.ClassFile.FieldType.long), 0), 937, 164, 935, 936),
  (57, (⟨"MayBoats$Reader", "skip", "()V"⟩, prog_6_method_17_code, 1, (Option.none : Option Jvm.ClassFile.FieldType), 0), 904, 164, 902, 903),
  (58, (⟨"MayBoats$Reader", "fail", "(I)V"⟩, prog_6_method_18_code, 2, (Option.none : Option Jvm.ClassFile.FieldType), 0), 928, 164, 926, 927),
  (59, (⟨"MayBoats$Reader", "need", "(C)V"⟩, prog_6_method_19_code, 2, (Option.none : Option Jvm.ClassFile.FieldType), 0), 948, 164, 946, 947)]
def k_mI1 : List (Nat × cMth × Nat × Nat × Nat × Nat) := [(60, (⟨"MayBoats$Reader", "numberWithin", "(II)I"⟩, prog_6_method_20_code, 4, (Option.some Jvm.ClassFile.FieldType.int), 0), 965, 164, 963, 964),
  (61, (⟨"MayBoats$Reader", "nameSet", "([JIII)I"⟩, prog_6_method_21_code, 8, (Option.some Jvm.ClassFile.FieldType.int), 0), 1470, 164, 1468, 1469),
  (62, (⟨"MayBoats$Sight", "<init>", "()V"⟩, prog_7_method_1_code, 1, (Option.none : Option Jvm.ClassFile.FieldType), 2), 458, 173, 457, 0),
  (63, (⟨"MayBoats$Sight", "reset", "(II)V"⟩, prog_7_method_2_code, 3, (Option.none : Option Jvm.ClassFile.FieldType), 0), 996, 173, 994, 995),
  (64, (⟨"MayBoats$Sight", "copy", "(LMayBoats$Sight;)V"⟩, prog_7_method_3_code, 2, (Option.none : Option Jvm.ClassFile.FieldType), 0), 1239, 173, 1237, 1238),
  (65, (⟨"MayBoats$Sight", "putBefore", "(II)V"⟩, prog_7_method_4_code, 3, (Option.none : Option Jvm.ClassFile.FieldType), 0), 1000, 173, 998, 999),
  (66, (⟨"MayBoats$Sight", "putAfter", "(II)V"⟩, prog_7_method_5_code, 3, (Option.none : Option Jvm.ClassFile.FieldType), 0), 1004, 173, 1002, 1003),
  (67, (⟨"MayBoats$Sight", "overlaps", "()Z"⟩, prog_7_method_6_code, 1, (Option.some Jvm.ClassFile.FieldType.boolean), 0), 1205, 173, 1203, 1204),
  (68, (⟨"MayBoats$Sight", "saidBy", "(LMayBoats$Book;II)I"⟩, prog_7_method_7_code, 4, (Option.some Jvm.ClassFile.FieldType.int), 0), 1145, 173, 1143, 1144),
  (69, (⟨"MayBoats$Sight", "groupOf", "(LMayBoats$Book;II)I"⟩, prog_7_method_8_code, 7, (Option.some Jvm.ClassFile.FieldType.int), 0), 1193, 173, 1191, 1192),
  (70, (⟨"MayBoats$Tally", "<init>", "()V"⟩, prog_8_method_1_code, 1, (Option.none : Option Jvm.ClassFile.FieldType), 2), 551, 174, 550, 0),
  (71, (⟨"MayBoats$Tally", "clear", "()V"⟩, prog_8_method_2_code, 1, (Option.none : Option Jvm.ClassFile.FieldType), 0), 1187, 174, 1185, 1186),
  (72, (⟨"MayBoats$Tally", "put", "(II)V"⟩, prog_8_method_3_code, 3, (Option.none : Option Jvm.ClassFile.FieldType), 0), 1197, 174, 1195, 1196),
  (73, (⟨"MayBoats$Tally", "take", "(LMayBoats$Book;LMayBoats$Sight;I)Z"⟩, prog_8_method_4_code, 6, (Option.some Jvm.ClassFile.FieldType.boolean), 0), 1183, 174, 1181, 1182),
  (74, (⟨"MayBoats$Tally", "draw", "(LMayBoats$Book;III)V"⟩, prog_8_method_5_code, 9, (Option.none : Option Jvm.ClassFile.FieldType), 0), 1414, 174, 1412, 1413),
  (75, (⟨"MayBoats$Tally", "pick", "(LMayBoats$Book;III)V"⟩, prog_8_method_6_code, 7, (Option.none : Option Jvm.ClassFile.FieldType), 0), 1141, 174, 1139, 1140),
  (76, (⟨"MayBoats$Tally", "hasEach", "(I)Z"⟩, prog_8_method_7_code, 2, (Option.some Jvm.ClassFile.FieldType.boolean), 0), 1201, 174, 1199, 1200),
  (77, (⟨"MayBoats$Tally", "under", "()J"⟩, prog_8_method_8_code, 1, (Option.some Jvm.ClassFile.FieldType.long), 0), 1219, 174, 1217, 1218),
  (78, (⟨"MayBoats$Tally", "over", "()J"⟩, prog_8_method_9_code, 5, (Option.some Jvm.ClassFile.FieldType.long), 0), 1215, 174, 1213, 1214),
  (79, (⟨"MayBoats$Tally", "rounded", "()J"⟩, prog_8_method_10_code, 1, (Option.some Jvm.ClassFile.FieldType.long), 0), 1421, 174, 1419, 1420),
  (80, (⟨"MayBoats$Turning", "<init>", "(LMayBoats$Book;)V"⟩, prog_9_method_1_code, 2, (Option.none : Option Jvm.ClassFile.FieldType), 2), 692, 177, 691, 0),
  (81, (⟨"MayBoats$Turning", "valueNow", "(I)I"⟩, prog_9_method_2_code, 2, (Option.some Jvm.ClassFile.FieldType.int), 0), 1579, 177, 1577, 1578),
  (82, (⟨"MayBoats$Turning", "prepare", "(I)V"⟩, prog_9_method_3_code, 6, (Option.none : Option Jvm.ClassFile.FieldType), 0), 1583, 177, 1582, 61),
  (83, (⟨"MayBoats$Turning", "isOf", "(II)Z"⟩, prog_9_method_4_code, 4, (Option.some Jvm.ClassFile.FieldType.boolean), 0), 1592, 177, 1591, 62),
  (84, (⟨"MayBoats$Turning", "valueWithout", "(II)I"⟩, prog_9_method_5_code, 5, (Option.some Jvm.ClassFile.FieldType.int), 0), 1598, 177, 1597, 63),
  (85, (⟨"MayBoats$Turning", "drop", "(II)V"⟩, prog_9_method_6_code, 3, (Option.none : Option Jvm.ClassFile.FieldType), 0), 1602, 177, 1601, 64),
  (86, (⟨"MayBoats$Turning", "find", "(I)Z"⟩, prog_9_method_7_code, 5, (Option.some Jvm.ClassFile.FieldType.boolean), 0), 1624, 177, 1622, 1623),
  (87, (⟨"MayBoats$Turning", "keep", "(III)Z"⟩, prog_9_method_8_code, 4, (Option.some Jvm.ClassFile.FieldType.boolean), 0), 1629, 177, 1628, 65),
  (88, (⟨"MayBoats$Ways", "<init>", "()V"⟩, prog_10_method_1_code, 1, (Option.none : Option Jvm.ClassFile.FieldType), 2), 390, 171, 389, 0),
  (89, (⟨"MayBoats$Ways", "copy", "(LMayBoats$Ways;)V"⟩, prog_10_method_2_code, 2, (Option.none : Option Jvm.ClassFile.FieldType), 0), 1650, 171, 1648, 1649),
  (90, (⟨"MayBoats$Ways", "parse", "(LMayBoats$Reader;LMayBoats$Land;)V"⟩, prog_10_method_3_code, 4, (Option.none : Option Jvm.ClassFile.FieldType), 0), 1446, 171, 1444, 1445),
  (91, (⟨"MayBoats$Ways", "endPart", "(LMayBoats$Reader;)V"⟩, prog_10_method_4_code, 3, (Option.none : Option Jvm.ClassFile.FieldType), 0), 1452, 171, 1451, 46),
  (92, (⟨"MayBoats$Ways", "stepPart", "(LMayBoats$Reader;LMayBoats$Land;)V"⟩, prog_10_method_5_code, 5, (Option.none : Option Jvm.ClassFile.FieldType), 0), 1459, 171, 1458, 47),
  (93, (⟨"MayBoats$Ways", "readRest", "(LMayBoats$Reader;LMayBoats$Land;I)V"⟩, prog_10_method_6_code, 4, (Option.none : Option Jvm.ClassFile.FieldType), 0), 1466, 171, 1465, 48),
  (94, (⟨"MayBoats$Ways", "streetSet", "(LMayBoats$Reader;)I"⟩, prog_10_method_7_code, 3, (Option.some Jvm.ClassFile.FieldType.int), 1), 1476, 171, 1475, 0),
  (95, (⟨"MayBoats$Weave", "<init>", "(LMayBoats$Book;LMayBoats$Tally;)V"⟩, prog_11_method_1_code, 3, (Option.none : Option Jvm.ClassFile.FieldType), 2), 584, 175, 583, 0),
  (96, (⟨"MayBoats$Weave", "priceOf", "(II)J"⟩, prog_11_method_2_code, 3, (Option.some Jvm.ClassFile.FieldType.long), 0), 1266, 175, 1265, 35),
  (97, (⟨"MayBoats$Weave", "takePrices", "(II)Z"⟩, prog_11_method_3_code, 7, (Option.some Jvm.ClassFile.FieldType.boolean), 0), 1262, 175, 1261, 34),
  (98, (⟨"MayBoats$Weave", "find", "(II)Z"⟩, prog_11_method_4_code, 5, (Option.some Jvm.ClassFile.FieldType.boolean), 0), 1258, 175, 1256, 1257),
  (99, (⟨"MayBoats$Weave", "keep", "(I)V"⟩, prog_11_method_5_code, 3, (Option.none : Option Jvm.ClassFile.FieldType), 0), 1283, 175, 1282, 38),
  (100, (⟨"MayBoats$Weave", "tryFrom", "(II)V"⟩, prog_11_method_6_code, 4, (Option.none : Option Jvm.ClassFile.FieldType), 0), 1274, 175, 1273, 36),
  (101, (⟨"MayBoats$Weave", "judge", "()V"⟩, prog_11_method_7_code, 7, (Option.none : Option Jvm.ClassFile.FieldType), 0), 1278, 175, 1277, 37),
  (102, (⟨"MayBoats$Weave", "hasGap", "(I)Z"⟩, prog_11_method_8_code, 9, (Option.some Jvm.ClassFile.FieldType.boolean), 0), 1296, 175, 1294, 1295),
  (103, (⟨"MayBoats$Writing", "<init>", "(LMayBoats$Book;LMayBoats$Tally;)V"⟩, prog_12_method_1_code, 3, (Option.none : Option Jvm.ClassFile.FieldType), 2), 645, 176, 644, 0),
  (104, (⟨"MayBoats$Writing", "run", "(I)V"⟩, prog_12_method_2_code, 2, (Option.none : Option Jvm.ClassFile.FieldType), 0), 1486, 176, 1484, 1485),
  (105, (⟨"MayBoats$Writing", "doSteps", "(III)V"⟩, prog_12_method_3_code, 6, (Option.none : Option Jvm.ClassFile.FieldType), 0), 1492, 176, 1491, 49),
  (106, (⟨"MayBoats$Writing", "doStep", "(II)I"⟩, prog_12_method_4_code, 5, (Option.some Jvm.ClassFile.FieldType.int), 0), 1496, 176, 1495, 50),
  (107, (⟨"MayBoats$Writing", "doEach", "(II)V"⟩, prog_12_method_5_code, 5, (Option.none : Option Jvm.ClassFile.FieldType), 0), 1500, 176, 1499, 51),
  (108, (⟨"MayBoats$Writing", "isReached", "(J)Z"⟩, prog_12_method_6_code, 3, (Option.some Jvm.ClassFile.FieldType.boolean), 0), 1504, 176, 1503, 52),
  (109, (⟨"MayBoats$Writing", "doTry", "()V"⟩, prog_12_method_7_code, 1, (Option.none : Option Jvm.ClassFile.FieldType), 0), 1509, 176, 1508, 53),
  (110, (⟨"MayBoats$Writing", "changeSight", "(III)V"⟩, prog_12_method_8_code, 5, (Option.none : Option Jvm.ClassFile.FieldType), 0), 1520, 176, 1519, 54),
  (111, (⟨"MayBoats", "<init>", "()V"⟩, prog_1_method_1_code, 1, (Option.none : Option Jvm.ClassFile.FieldType), 2), 186, 162, 185, 0),
  (112, (⟨"MayBoats", "status", "()I"⟩, prog_1_method_2_code, 1, (Option.some Jvm.ClassFile.FieldType.int), 0), 801, 162, 799, 800),
  (113, (⟨"MayBoats", "top", "()J"⟩, prog_1_method_3_code, 1, (Option.some Jvm.ClassFile.FieldType.long), 0), 805, 162, 803, 804),
  (114, (⟨"MayBoats", "bottom", "()J"⟩, prog_1_method_4_code, 1, (Option.some Jvm.ClassFile.FieldType.long), 0), 809, 162, 807, 808),
  (115, (⟨"MayBoats", "refuse", "(I)Z"⟩, prog_1_method_5_code, 2, (Option.some Jvm.ClassFile.FieldType.boolean), 0), 821, 162, 820, 1),
  (116, (⟨"MayBoats", "none", "(I)I"⟩, prog_1_method_6_code, 2, (Option.some Jvm.ClassFile.FieldType.int), 0), 867, 162, 866, 5),
  (117, (⟨"MayBoats", "grant", "()Z"⟩, prog_1_method_7_code, 1, (Option.some Jvm.ClassFile.FieldType.boolean), 0), 828, 162, 827, 2),
  (118, (⟨"MayBoats", "give", "(I)I"⟩, prog_1_method_8_code, 2, (Option.some Jvm.ClassFile.FieldType.int), 0), 1008, 162, 1007, 20),
  (119, (⟨"MayBoats", "tell", "(JJ)Z"⟩, prog_1_method_9_code, 5, (Option.some Jvm.ClassFile.FieldType.boolean), 0), 1160, 162, 1159, 29)]
def k_mI2 : List (Nat × cMth × Nat × Nat × Nat × Nat) := [(120, (⟨"MayBoats", "isWithin", "(JJJ)Z"⟩, prog_1_method_10_code, 6, (Option.some Jvm.ClassFile.FieldType.boolean), 1), 817, 162, 816, 0),
  (121, (⟨"MayBoats", "allOf", "(I)I"⟩, prog_1_method_11_code, 1, (Option.some Jvm.ClassFile.FieldType.int), 1), 462, 162, 461, 0),
  (122, (⟨"MayBoats", "holds", "(II)Z"⟩, prog_1_method_12_code, 2, (Option.some Jvm.ClassFile.FieldType.boolean), 1), 1149, 162, 1148, 0),
  (123, (⟨"MayBoats", "tray", "(III)Z"⟩, prog_1_method_13_code, 4, (Option.some Jvm.ClassFile.FieldType.boolean), 0), 813, 162, 811, 812),
  (124, (⟨"MayBoats", "placeStatus", "(II)I"⟩, prog_1_method_14_code, 3, (Option.some Jvm.ClassFile.FieldType.int), 0), 836, 162, 835, 3),
  (125, (⟨"MayBoats", "write", "(IIJ)Z"⟩, prog_1_method_15_code, 6, (Option.some Jvm.ClassFile.FieldType.boolean), 0), 832, 162, 830, 831),
  (126, (⟨"MayBoats", "cutTo", "(IJ)J"⟩, prog_1_method_16_code, 3, (Option.some Jvm.ClassFile.FieldType.long), 1), 839, 162, 838, 0),
  (127, (⟨"MayBoats", "read", "(II)J"⟩, prog_1_method_17_code, 4, (Option.some Jvm.ClassFile.FieldType.long), 0), 843, 162, 841, 842),
  (128, (⟨"MayBoats", "pour", "(IIIII)Z"⟩, prog_1_method_18_code, 6, (Option.some Jvm.ClassFile.FieldType.boolean), 0), 848, 162, 846, 847),
  (129, (⟨"MayBoats", "feed", "(IIIII)I"⟩, prog_1_method_19_code, 6, (Option.some Jvm.ClassFile.FieldType.int), 0), 855, 162, 853, 854),
  (130, (⟨"MayBoats", "feedBytes", "(I)V"⟩, prog_1_method_20_code, 3, (Option.none : Option Jvm.ClassFile.FieldType), 0), 859, 162, 858, 4),
  (131, (⟨"MayBoats", "scanTape", "(I)V"⟩, prog_1_method_21_code, 2, (Option.none : Option Jvm.ClassFile.FieldType), 0), 871, 162, 870, 6),
  (132, (⟨"MayBoats", "land", "(I)I"⟩, prog_1_method_22_code, 3, (Option.some Jvm.ClassFile.FieldType.int), 0), 863, 162, 861, 862),
  (133, (⟨"MayBoats", "fault", "(I)I"⟩, prog_1_method_23_code, 2, (Option.some Jvm.ClassFile.FieldType.int), 0), 1012, 162, 1010, 1011),
  (134, (⟨"MayBoats", "many", "(I)I"⟩, prog_1_method_24_code, 2, (Option.some Jvm.ClassFile.FieldType.int), 0), 1016, 162, 1014, 1015),
  (135, (⟨"MayBoats", "isTown", "(I)Z"⟩, prog_1_method_25_code, 2, (Option.some Jvm.ClassFile.FieldType.boolean), 0), 1036, 162, 1035, 23),
  (136, (⟨"MayBoats", "isKind", "(I)Z"⟩, prog_1_method_26_code, 2, (Option.some Jvm.ClassFile.FieldType.boolean), 0), 1040, 162, 1039, 24),
  (137, (⟨"MayBoats", "isLaw", "(I)Z"⟩, prog_1_method_27_code, 2, (Option.some Jvm.ClassFile.FieldType.boolean), 0), 1032, 162, 1031, 22),
  (138, (⟨"MayBoats", "isBoat", "(I)Z"⟩, prog_1_method_28_code, 2, (Option.some Jvm.ClassFile.FieldType.boolean), 0), 1024, 162, 1023, 21),
  (139, (⟨"MayBoats", "isSheet", "(I)Z"⟩, prog_1_method_29_code, 2, (Option.some Jvm.ClassFile.FieldType.boolean), 0), 1091, 162, 1090, 26),
  (140, (⟨"MayBoats", "areTowns", "(I)Z"⟩, prog_1_method_30_code, 2, (Option.some Jvm.ClassFile.FieldType.boolean), 0), 1110, 162, 1109, 27),
  (141, (⟨"MayBoats", "areYears", "(II)Z"⟩, prog_1_method_31_code, 2, (Option.some Jvm.ClassFile.FieldType.boolean), 1), 1043, 162, 1042, 0),
  (142, (⟨"MayBoats", "townOf", "(I)I"⟩, prog_1_method_32_code, 2, (Option.some Jvm.ClassFile.FieldType.int), 0), 1231, 162, 1230, 32),
  (143, (⟨"MayBoats", "boat", "(II)I"⟩, prog_1_method_33_code, 3, (Option.some Jvm.ClassFile.FieldType.int), 0), 1020, 162, 1018, 1019),
  (144, (⟨"MayBoats", "tells", "(IIIIII)I"⟩, prog_1_method_34_code, 7, (Option.some Jvm.ClassFile.FieldType.int), 0), 1028, 162, 1026, 1027),
  (145, (⟨"MayBoats", "sheet", "(I)I"⟩, prog_1_method_35_code, 3, (Option.some Jvm.ClassFile.FieldType.int), 0), 1066, 162, 1064, 1065),
  (146, (⟨"MayBoats", "look", "(II)I"⟩, prog_1_method_36_code, 4, (Option.some Jvm.ClassFile.FieldType.int), 0), 1087, 162, 1085, 1086),
  (147, (⟨"MayBoats", "say", "(IZI)Z"⟩, prog_1_method_37_code, 4, (Option.some Jvm.ClassFile.FieldType.boolean), 0), 1100, 162, 1098, 1099),
  (148, (⟨"MayBoats", "beside", "(I)Z"⟩, prog_1_method_38_code, 2, (Option.some Jvm.ClassFile.FieldType.boolean), 0), 1106, 162, 1104, 1105),
  (149, (⟨"MayBoats", "cut", "(II)Z"⟩, prog_1_method_39_code, 3, (Option.some Jvm.ClassFile.FieldType.boolean), 0), 1115, 162, 1113, 1114),
  (150, (⟨"MayBoats", "years", "(IIII)Z"⟩, prog_1_method_40_code, 5, (Option.some Jvm.ClassFile.FieldType.boolean), 0), 1119, 162, 1117, 1118),
  (151, (⟨"MayBoats", "rents", "(Z)Z"⟩, prog_1_method_41_code, 2, (Option.some Jvm.ClassFile.FieldType.boolean), 0), 1125, 162, 1123, 1124),
  (152, (⟨"MayBoats", "sight", "(I)I"⟩, prog_1_method_42_code, 3, (Option.some Jvm.ClassFile.FieldType.int), 0), 1129, 162, 1127, 1128),
  (153, (⟨"MayBoats", "pickStatus", "(III)I"⟩, prog_1_method_43_code, 4, (Option.some Jvm.ClassFile.FieldType.int), 0), 1137, 162, 1136, 28),
  (154, (⟨"MayBoats", "counts", "(III)I"⟩, prog_1_method_44_code, 5, (Option.some Jvm.ClassFile.FieldType.int), 0), 1133, 162, 1131, 1132),
  (155, (⟨"MayBoats", "mean", "(III)Z"⟩, prog_1_method_45_code, 5, (Option.some Jvm.ClassFile.FieldType.boolean), 0), 1156, 162, 1154, 1155),
  (156, (⟨"MayBoats", "hasDiffer", "(I)Z"⟩, prog_1_method_46_code, 2, (Option.some Jvm.ClassFile.FieldType.boolean), 0), 1179, 162, 1178, 30),
  (157, (⟨"MayBoats", "differ", "(I)Z"⟩, prog_1_method_47_code, 2, (Option.some Jvm.ClassFile.FieldType.boolean), 0), 1175, 162, 1173, 1174),
  (158, (⟨"MayBoats", "boatStatus", "(I)I"⟩, prog_1_method_48_code, 2, (Option.some Jvm.ClassFile.FieldType.int), 0), 1227, 162, 1226, 31),
  (159, (⟨"MayBoats", "countPlayed", "(IZ)I"⟩, prog_1_method_49_code, 6, (Option.some Jvm.ClassFile.FieldType.int), 0), 1235, 162, 1234, 33),
  (160, (⟨"MayBoats", "far", "(I)I"⟩, prog_1_method_50_code, 3, (Option.some Jvm.ClassFile.FieldType.int), 0), 1223, 162, 1221, 1222),
  (161, (⟨"MayBoats", "chance", "(I)Z"⟩, prog_1_method_51_code, 4, (Option.some Jvm.ClassFile.FieldType.boolean), 0), 1249, 162, 1247, 1248),
  (162, (⟨"MayBoats", "weave", "(II)J"⟩, prog_1_method_52_code, 3, (Option.some Jvm.ClassFile.FieldType.long), 0), 1253, 162, 1251, 1252),
  (163, (⟨"MayBoats", "woven", "(I)I"⟩, prog_1_method_53_code, 2, (Option.some Jvm.ClassFile.FieldType.int), 0), 1288, 162, 1286, 1287),
  (164, (⟨"MayBoats", "gap", "(I)Z"⟩, prog_1_method_54_code, 2, (Option.some Jvm.ClassFile.FieldType.boolean), 0), 1292, 162, 1290, 1291),
  (165, (⟨"MayBoats", "cuts", "(III)I"⟩, prog_1_method_55_code, 7, (Option.some Jvm.ClassFile.FieldType.int), 0), 1301, 162, 1299, 1300),
  (166, (⟨"MayBoats", "deepest", "(II)I"⟩, prog_1_method_56_code, 6, (Option.some Jvm.ClassFile.FieldType.int), 0), 1308, 162, 1306, 1307),
  (167, (⟨"MayBoats", "right", "(I)Z"⟩, prog_1_method_57_code, 4, (Option.some Jvm.ClassFile.FieldType.boolean), 0), 1316, 162, 1314, 1315),
  (168, (⟨"MayBoats", "addRight", "(III)Z"⟩, prog_1_method_58_code, 11, (Option.some Jvm.ClassFile.FieldType.boolean), 0), 1321, 162, 1320, 39),
  (169, (⟨"MayBoats", "left", "(IIIIZ)Z"⟩, prog_1_method_59_code, 7, (Option.some Jvm.ClassFile.FieldType.boolean), 0), 1330, 162, 1328, 1329),
  (170, (⟨"MayBoats", "joined", "()Z"⟩, prog_1_method_60_code, 3, (Option.some Jvm.ClassFile.FieldType.boolean), 0), 1335, 162, 1333, 1334),
  (171, (⟨"MayBoats", "needs", "(II)I"⟩, prog_1_method_61_code, 7, (Option.some Jvm.ClassFile.FieldType.int), 0), 1339, 162, 1337, 1338),
  (172, (⟨"MayBoats", "hasEarlier", "(II)Z"⟩, prog_1_method_62_code, 3, (Option.some Jvm.ClassFile.FieldType.boolean), 0), 1349, 162, 1348, 40),
  (173, (⟨"MayBoats", "earlier", "(II)Z"⟩, prog_1_method_63_code, 3, (Option.some Jvm.ClassFile.FieldType.boolean), 0), 1345, 162, 1343, 1344),
  (174, (⟨"MayBoats", "earliers", "(I)I"⟩, prog_1_method_64_code, 5, (Option.some Jvm.ClassFile.FieldType.int), 0), 1353, 162, 1351, 1352),
  (175, (⟨"MayBoats", "addTrend", "(II)Z"⟩, prog_1_method_65_code, 12, (Option.some Jvm.ClassFile.FieldType.boolean), 0), 1361, 162, 1360, 41),
  (176, (⟨"MayBoats", "trend", "(I)Z"⟩, prog_1_method_66_code, 2, (Option.some Jvm.ClassFile.FieldType.boolean), 0), 1357, 162, 1355, 1356),
  (177, (⟨"MayBoats", "split", "(I)Z"⟩, prog_1_method_67_code, 3, (Option.some Jvm.ClassFile.FieldType.boolean), 0), 1366, 162, 1364, 1365),
  (178, (⟨"MayBoats", "hasPart", "(IZ)Z"⟩, prog_1_method_68_code, 8, (Option.some Jvm.ClassFile.FieldType.boolean), 0), 1374, 162, 1373, 42),
  (179, (⟨"MayBoats", "addPart", "(JJZ)V"⟩, prog_1_method_69_code, 10, (Option.none : Option Jvm.ClassFile.FieldType), 0), 1378, 162, 1377, 43)]
def k_mI3 : List (Nat × cMth × Nat × Nat × Nat × Nat) := [(180, (⟨"MayBoats", "mix", "(I)Z"⟩, prog_1_method_70_code, 2, (Option.some Jvm.ClassFile.FieldType.boolean), 0), 1370, 162, 1368, 1369),
  (181, (⟨"MayBoats", "pure", "(I)Z"⟩, prog_1_method_71_code, 2, (Option.some Jvm.ClassFile.FieldType.boolean), 0), 1382, 162, 1380, 1381),
  (182, (⟨"MayBoats", "nextDraw", "(I)I"⟩, prog_1_method_72_code, 1, (Option.some Jvm.ClassFile.FieldType.int), 1), 1389, 162, 1388, 0),
  (183, (⟨"MayBoats", "drawOf", "(I)I"⟩, prog_1_method_73_code, 1, (Option.some Jvm.ClassFile.FieldType.int), 1), 1393, 162, 1392, 0),
  (184, (⟨"MayBoats", "world", "(II)I"⟩, prog_1_method_74_code, 8, (Option.some Jvm.ClassFile.FieldType.int), 0), 1386, 162, 1384, 1385),
  (185, (⟨"MayBoats", "areWorlds", "(II)Z"⟩, prog_1_method_75_code, 2, (Option.some Jvm.ClassFile.FieldType.boolean), 1), 1406, 162, 1405, 0),
  (186, (⟨"MayBoats", "span", "(IIIII)I"⟩, prog_1_method_76_code, 13, (Option.some Jvm.ClassFile.FieldType.int), 0), 1403, 162, 1401, 1402),
  (187, (⟨"MayBoats", "drawnRounded", "(III)J"⟩, prog_1_method_77_code, 4, (Option.some Jvm.ClassFile.FieldType.long), 0), 1410, 162, 1409, 44),
  (188, (⟨"MayBoats", "odds", "(IIIII)Z"⟩, prog_1_method_78_code, 13, (Option.some Jvm.ClassFile.FieldType.boolean), 0), 1432, 162, 1430, 1431),
  (189, (⟨"MayBoats", "isText", "(I)Z"⟩, prog_1_method_79_code, 2, (Option.some Jvm.ClassFile.FieldType.boolean), 0), 1441, 162, 1440, 45),
  (190, (⟨"MayBoats", "ways", "(I)I"⟩, prog_1_method_80_code, 3, (Option.some Jvm.ClassFile.FieldType.int), 0), 1437, 162, 1435, 1436),
  (191, (⟨"MayBoats", "written", "(I)I"⟩, prog_1_method_81_code, 2, (Option.some Jvm.ClassFile.FieldType.int), 0), 1482, 162, 1480, 1481),
  (192, (⟨"MayBoats", "writ", "(I)I"⟩, prog_1_method_82_code, 2, (Option.some Jvm.ClassFile.FieldType.int), 0), 1527, 162, 1525, 1526),
  (193, (⟨"MayBoats", "line", "(I)I"⟩, prog_1_method_83_code, 3, (Option.some Jvm.ClassFile.FieldType.int), 0), 1531, 162, 1529, 1530),
  (194, (⟨"MayBoats", "lineStatus", "(I)I"⟩, prog_1_method_84_code, 2, (Option.some Jvm.ClassFile.FieldType.int), 0), 1575, 162, 1574, 60),
  (195, (⟨"MayBoats", "said", "(I)I"⟩, prog_1_method_85_code, 3, (Option.some Jvm.ClassFile.FieldType.int), 0), 1571, 162, 1569, 1570),
  (196, (⟨"MayBoats", "turned", "(I)I"⟩, prog_1_method_86_code, 3, (Option.some Jvm.ClassFile.FieldType.int), 0), 1620, 162, 1618, 1619),
  (197, (⟨"MayBoats", "turning", "(I)I"⟩, prog_1_method_87_code, 2, (Option.some Jvm.ClassFile.FieldType.int), 0), 1633, 162, 1631, 1632),
  (198, (⟨"MayBoats", "mark", "()I"⟩, prog_1_method_88_code, 1, (Option.some Jvm.ClassFile.FieldType.int), 0), 1637, 162, 1635, 1636),
  (199, (⟨"MayBoats", "back", "()I"⟩, prog_1_method_89_code, 1, (Option.some Jvm.ClassFile.FieldType.int), 0), 1662, 162, 1660, 1661),
  (200, (⟨"MayBoatsModel", "<init>", "()V"⟩, prog_14_method_1_code, 2, (Option.none : Option Jvm.ClassFile.FieldType), 2), 1667, 179, 1666, 0),
  (201, (⟨"MayBoatsModel", "status", "()I"⟩, prog_14_method_3_code, 1, (Option.some Jvm.ClassFile.FieldType.int), 0), 1851, 179, 1849, 1850),
  (202, (⟨"MayBoatsModel", "top", "()J"⟩, prog_14_method_4_code, 1, (Option.some Jvm.ClassFile.FieldType.long), 0), 1855, 179, 1853, 1854),
  (203, (⟨"MayBoatsModel", "bottom", "()J"⟩, prog_14_method_5_code, 1, (Option.some Jvm.ClassFile.FieldType.long), 0), 1859, 179, 1857, 1858),
  (204, (⟨"MayBoatsModel", "refuse", "(I)I"⟩, prog_14_method_6_code, 2, (Option.some Jvm.ClassFile.FieldType.int), 0), 2033, 179, 2032, 96),
  (205, (⟨"MayBoatsModel", "no", "(I)Z"⟩, prog_14_method_7_code, 2, (Option.some Jvm.ClassFile.FieldType.boolean), 0), 1867, 179, 1866, 67),
  (206, (⟨"MayBoatsModel", "isIn", "(JJJ)Z"⟩, prog_14_method_8_code, 6, (Option.some Jvm.ClassFile.FieldType.boolean), 1), 1988, 179, 1987, 0),
  (207, (⟨"MayBoatsModel", "common", "(JJ)J"⟩, prog_14_method_9_code, 10, (Option.some Jvm.ClassFile.FieldType.long), 1), 2156, 179, 2155, 0),
  (208, (⟨"MayBoatsModel", "fraction", "(JJ)Z"⟩, prog_14_method_10_code, 7, (Option.some Jvm.ClassFile.FieldType.boolean), 0), 2153, 179, 2152, 111),
  (209, (⟨"MayBoatsModel", "cut", "(IJ)J"⟩, prog_14_method_11_code, 3, (Option.some Jvm.ClassFile.FieldType.long), 1), 1882, 179, 1881, 0),
  (210, (⟨"MayBoatsModel", "tray", "(III)Z"⟩, prog_14_method_12_code, 5, (Option.some Jvm.ClassFile.FieldType.boolean), 0), 1863, 179, 1861, 1862),
  (211, (⟨"MayBoatsModel", "trayed", "(I)I"⟩, prog_14_method_13_code, 2, (Option.some Jvm.ClassFile.FieldType.int), 0), 1879, 179, 1878, 69),
  (212, (⟨"MayBoatsModel", "placed", "(II)I"⟩, prog_14_method_14_code, 4, (Option.some Jvm.ClassFile.FieldType.int), 0), 1875, 179, 1874, 68),
  (213, (⟨"MayBoatsModel", "write", "(IIJ)Z"⟩, prog_14_method_15_code, 5, (Option.some Jvm.ClassFile.FieldType.boolean), 0), 1871, 179, 1869, 1870),
  (214, (⟨"MayBoatsModel", "read", "(II)J"⟩, prog_14_method_16_code, 3, (Option.some Jvm.ClassFile.FieldType.long), 0), 1886, 179, 1884, 1885),
  (215, (⟨"MayBoatsModel", "pour", "(IIIII)Z"⟩, prog_14_method_17_code, 9, (Option.some Jvm.ClassFile.FieldType.boolean), 0), 1891, 179, 1889, 1890),
  (216, (⟨"MayBoatsModel", "numberOf", "(II)J"⟩, prog_14_method_18_code, 3, (Option.some Jvm.ClassFile.FieldType.long), 0), 2086, 179, 2085, 104),
  (217, (⟨"MayBoatsModel", "isTray", "(I)Z"⟩, prog_14_method_19_code, 2, (Option.some Jvm.ClassFile.FieldType.boolean), 0), 2082, 179, 2081, 103),
  (218, (⟨"MayBoatsModel", "look2", "(I)I"⟩, prog_14_method_20_code, 2, (Option.some Jvm.ClassFile.FieldType.int), 0), 1915, 179, 1914, 73),
  (219, (⟨"MayBoatsModel", "isLetter", "(I)Z"⟩, prog_14_method_21_code, 1, (Option.some Jvm.ClassFile.FieldType.boolean), 1), 1918, 179, 1917, 0),
  (220, (⟨"MayBoatsModel", "isDigit", "(I)Z"⟩, prog_14_method_22_code, 1, (Option.some Jvm.ClassFile.FieldType.boolean), 1), 1923, 179, 1922, 0),
  (221, (⟨"MayBoatsModel", "isSignByte", "(I)Z"⟩, prog_14_method_23_code, 1, (Option.some Jvm.ClassFile.FieldType.boolean), 1), 1926, 179, 1925, 0),
  (222, (⟨"MayBoatsModel", "next", "()V"⟩, prog_14_method_24_code, 2, (Option.none : Option Jvm.ClassFile.FieldType), 0), 1911, 179, 1910, 72),
  (223, (⟨"MayBoatsModel", "isSign", "(I)Z"⟩, prog_14_method_25_code, 2, (Option.some Jvm.ClassFile.FieldType.boolean), 0), 2012, 179, 2011, 93),
  (224, (⟨"MayBoatsModel", "spelled", "(IIIIII)J"⟩, prog_14_method_26_code, 8, (Option.some Jvm.ClassFile.FieldType.long), 1), 1933, 179, 1932, 0),
  (225, (⟨"MayBoatsModel", "isWord", "(J)Z"⟩, prog_14_method_27_code, 3, (Option.some Jvm.ClassFile.FieldType.boolean), 0), 1937, 179, 1936, 75),
  (226, (⟨"MayBoatsModel", "isTownWord", "()Z"⟩, prog_14_method_28_code, 1, (Option.some Jvm.ClassFile.FieldType.boolean), 0), 1930, 179, 1929, 74),
  (227, (⟨"MayBoatsModel", "isKindWord", "()Z"⟩, prog_14_method_29_code, 1, (Option.some Jvm.ClassFile.FieldType.boolean), 0), 1957, 179, 1956, 80),
  (228, (⟨"MayBoatsModel", "isBoatWord", "()Z"⟩, prog_14_method_30_code, 1, (Option.some Jvm.ClassFile.FieldType.boolean), 0), 1961, 179, 1960, 81),
  (229, (⟨"MayBoatsModel", "isLawWord", "()Z"⟩, prog_14_method_31_code, 1, (Option.some Jvm.ClassFile.FieldType.boolean), 0), 1965, 179, 1964, 82),
  (230, (⟨"MayBoatsModel", "variable", "()I"⟩, prog_14_method_32_code, 1, (Option.some Jvm.ClassFile.FieldType.int), 0), 1953, 179, 1952, 79),
  (231, (⟨"MayBoatsModel", "isLandName", "()Z"⟩, prog_14_method_33_code, 1, (Option.some Jvm.ClassFile.FieldType.boolean), 0), 1949, 179, 1948, 78),
  (232, (⟨"MayBoatsModel", "fail", "(II)V"⟩, prog_14_method_34_code, 3, (Option.none : Option Jvm.ClassFile.FieldType), 0), 1945, 179, 1944, 77),
  (233, (⟨"MayBoatsModel", "wrong", "()V"⟩, prog_14_method_35_code, 1, (Option.none : Option Jvm.ClassFile.FieldType), 0), 1969, 179, 1968, 83),
  (234, (⟨"MayBoatsModel", "must", "(Z)V"⟩, prog_14_method_36_code, 2, (Option.none : Option Jvm.ClassFile.FieldType), 0), 2016, 179, 2015, 94),
  (235, (⟨"MayBoatsModel", "count", "(II)I"⟩, prog_14_method_37_code, 4, (Option.some Jvm.ClassFile.FieldType.int), 0), 1985, 179, 1984, 87),
  (236, (⟨"MayBoatsModel", "feed", "(IIIII)I"⟩, prog_14_method_38_code, 6, (Option.some Jvm.ClassFile.FieldType.int), 0), 1895, 179, 1893, 1894),
  (237, (⟨"MayBoatsModel", "lay", "(I)V"⟩, prog_14_method_39_code, 3, (Option.none : Option Jvm.ClassFile.FieldType), 0), 1899, 179, 1898, 70),
  (238, (⟨"MayBoatsModel", "opens", "(II)Z"⟩, prog_14_method_40_code, 3, (Option.some Jvm.ClassFile.FieldType.boolean), 0), 1907, 179, 1906, 71),
  (239, (⟨"MayBoatsModel", "isWell", "()Z"⟩, prog_14_method_41_code, 1, (Option.some Jvm.ClassFile.FieldType.boolean), 0), 2020, 179, 2019, 95)]
def k_mI4 : List (Nat × cMth × Nat × Nat × Nat × Nat) := [(240, (⟨"MayBoatsModel", "named", "(III)I"⟩, prog_14_method_42_code, 5, (Option.some Jvm.ClassFile.FieldType.int), 0), 1977, 179, 1976, 85),
  (241, (⟨"MayBoatsModel", "isNamed", "()Z"⟩, prog_14_method_43_code, 1, (Option.some Jvm.ClassFile.FieldType.boolean), 0), 1973, 179, 1972, 84),
  (242, (⟨"MayBoatsModel", "readNamed", "(III)V"⟩, prog_14_method_44_code, 4, (Option.none : Option Jvm.ClassFile.FieldType), 0), 1941, 179, 1940, 76),
  (243, (⟨"MayBoatsModel", "readBoat", "()V"⟩, prog_14_method_45_code, 4, (Option.none : Option Jvm.ClassFile.FieldType), 0), 1981, 179, 1980, 86),
  (244, (⟨"MayBoatsModel", "code", "(II)V"⟩, prog_14_method_46_code, 3, (Option.none : Option Jvm.ClassFile.FieldType), 0), 2008, 179, 2007, 92),
  (245, (⟨"MayBoatsModel", "readAtom", "()V"⟩, prog_14_method_47_code, 2, (Option.none : Option Jvm.ClassFile.FieldType), 0), 2004, 179, 2003, 91),
  (246, (⟨"MayBoatsModel", "readItem", "()V"⟩, prog_14_method_48_code, 2, (Option.none : Option Jvm.ClassFile.FieldType), 0), 2000, 179, 1999, 90),
  (247, (⟨"MayBoatsModel", "readSum", "()V"⟩, prog_14_method_49_code, 2, (Option.none : Option Jvm.ClassFile.FieldType), 0), 1996, 179, 1995, 89),
  (248, (⟨"MayBoatsModel", "readLaw", "()V"⟩, prog_14_method_50_code, 2, (Option.none : Option Jvm.ClassFile.FieldType), 0), 1992, 179, 1991, 88),
  (249, (⟨"MayBoatsModel", "firstSight", "(I)V"⟩, prog_14_method_51_code, 3, (Option.none : Option Jvm.ClassFile.FieldType), 0), 1672, 179, 1671, 66),
  (250, (⟨"MayBoatsModel", "land", "(I)I"⟩, prog_14_method_52_code, 3, (Option.some Jvm.ClassFile.FieldType.int), 0), 1903, 179, 1901, 1902),
  (251, (⟨"MayBoatsModel", "fault", "(I)I"⟩, prog_14_method_53_code, 2, (Option.some Jvm.ClassFile.FieldType.int), 0), 2024, 179, 2022, 2023),
  (252, (⟨"MayBoatsModel", "isTown", "(J)Z"⟩, prog_14_method_54_code, 3, (Option.some Jvm.ClassFile.FieldType.boolean), 0), 2053, 179, 2052, 99),
  (253, (⟨"MayBoatsModel", "isKind", "(J)Z"⟩, prog_14_method_55_code, 3, (Option.some Jvm.ClassFile.FieldType.boolean), 0), 2057, 179, 2056, 100),
  (254, (⟨"MayBoatsModel", "isBoat", "(I)Z"⟩, prog_14_method_56_code, 2, (Option.some Jvm.ClassFile.FieldType.boolean), 0), 2041, 179, 2040, 97),
  (255, (⟨"MayBoatsModel", "isLaw", "(I)Z"⟩, prog_14_method_57_code, 2, (Option.some Jvm.ClassFile.FieldType.boolean), 0), 2049, 179, 2048, 98),
  (256, (⟨"MayBoatsModel", "isSheet", "(I)Z"⟩, prog_14_method_58_code, 2, (Option.some Jvm.ClassFile.FieldType.boolean), 0), 2098, 179, 2097, 106),
  (257, (⟨"MayBoatsModel", "many", "(I)I"⟩, prog_14_method_59_code, 2, (Option.some Jvm.ClassFile.FieldType.int), 0), 2028, 179, 2026, 2027),
  (258, (⟨"MayBoatsModel", "boat", "(II)I"⟩, prog_14_method_60_code, 3, (Option.some Jvm.ClassFile.FieldType.int), 0), 2037, 179, 2035, 2036),
  (259, (⟨"MayBoatsModel", "reckon", "(IJJ)J"⟩, prog_14_method_61_code, 5, (Option.some Jvm.ClassFile.FieldType.long), 1), 2067, 179, 2066, 0),
  (260, (⟨"MayBoatsModel", "hit", "(II)I"⟩, prog_14_method_62_code, 4, (Option.some Jvm.ClassFile.FieldType.int), 0), 2071, 179, 2070, 102),
  (261, (⟨"MayBoatsModel", "tellsBy", "(IIIIII)I"⟩, prog_14_method_63_code, 10, (Option.some Jvm.ClassFile.FieldType.int), 0), 2064, 179, 2063, 101),
  (262, (⟨"MayBoatsModel", "tells", "(IIIIII)I"⟩, prog_14_method_64_code, 7, (Option.some Jvm.ClassFile.FieldType.int), 0), 2045, 179, 2043, 2044),
  (263, (⟨"MayBoatsModel", "cell", "(II)I"⟩, prog_14_method_65_code, 3, (Option.some Jvm.ClassFile.FieldType.int), 0), 2090, 179, 2089, 105),
  (264, (⟨"MayBoatsModel", "sheet", "(I)I"⟩, prog_14_method_66_code, 4, (Option.some Jvm.ClassFile.FieldType.int), 0), 2078, 179, 2076, 2077),
  (265, (⟨"MayBoatsModel", "look", "(II)I"⟩, prog_14_method_67_code, 3, (Option.some Jvm.ClassFile.FieldType.int), 0), 2094, 179, 2092, 2093),
  (266, (⟨"MayBoatsModel", "say", "(IZI)Z"⟩, prog_14_method_68_code, 4, (Option.some Jvm.ClassFile.FieldType.boolean), 0), 2103, 179, 2101, 2102),
  (267, (⟨"MayBoatsModel", "beside", "(I)Z"⟩, prog_14_method_69_code, 2, (Option.some Jvm.ClassFile.FieldType.boolean), 0), 2107, 179, 2105, 2106),
  (268, (⟨"MayBoatsModel", "cut", "(II)Z"⟩, prog_14_method_70_code, 3, (Option.some Jvm.ClassFile.FieldType.boolean), 0), 2111, 179, 2109, 2110),
  (269, (⟨"MayBoatsModel", "years", "(IIII)Z"⟩, prog_14_method_71_code, 5, (Option.some Jvm.ClassFile.FieldType.boolean), 0), 2116, 179, 2114, 2115),
  (270, (⟨"MayBoatsModel", "rents", "(Z)Z"⟩, prog_14_method_72_code, 2, (Option.some Jvm.ClassFile.FieldType.boolean), 0), 2120, 179, 2118, 2119),
  (271, (⟨"MayBoatsModel", "sight", "(I)I"⟩, prog_14_method_73_code, 2, (Option.some Jvm.ClassFile.FieldType.int), 0), 2124, 179, 2122, 2123),
  (272, (⟨"MayBoatsModel", "saidBy", "(I)I"⟩, prog_14_method_74_code, 2, (Option.some Jvm.ClassFile.FieldType.int), 0), 2145, 179, 2144, 110),
  (273, (⟨"MayBoatsModel", "isCounted", "(IIIII)Z"⟩, prog_14_method_75_code, 6, (Option.some Jvm.ClassFile.FieldType.boolean), 0), 2141, 179, 2140, 109),
  (274, (⟨"MayBoatsModel", "gather", "(IIIII)V"⟩, prog_14_method_76_code, 7, (Option.none : Option Jvm.ClassFile.FieldType), 0), 2137, 179, 2136, 108),
  (275, (⟨"MayBoatsModel", "isSpan", "(II)Z"⟩, prog_14_method_77_code, 3, (Option.some Jvm.ClassFile.FieldType.boolean), 0), 2133, 179, 2132, 107),
  (276, (⟨"MayBoatsModel", "counts", "(III)I"⟩, prog_14_method_78_code, 4, (Option.some Jvm.ClassFile.FieldType.int), 0), 2129, 179, 2127, 2128),
  (277, (⟨"MayBoatsModel", "mean", "(III)Z"⟩, prog_14_method_79_code, 4, (Option.some Jvm.ClassFile.FieldType.boolean), 0), 2149, 179, 2147, 2148),
  (278, (⟨"MayBoatsModel", "none", "()V"⟩, prog_14_method_80_code, 1, (Option.none : Option Jvm.ClassFile.FieldType), 0), 2177, 179, 2176, 115),
  (279, (⟨"MayBoatsModel", "addTo", "(JJ)V"⟩, prog_14_method_81_code, 7, (Option.none : Option Jvm.ClassFile.FieldType), 0), 2181, 179, 2180, 116),
  (280, (⟨"MayBoatsModel", "isMixed", "()Z"⟩, prog_14_method_82_code, 1, (Option.some Jvm.ClassFile.FieldType.boolean), 0), 2173, 179, 2172, 114),
  (281, (⟨"MayBoatsModel", "gatherAll", "(II)Z"⟩, prog_14_method_83_code, 4, (Option.some Jvm.ClassFile.FieldType.boolean), 0), 2169, 179, 2168, 113),
  (282, (⟨"MayBoatsModel", "differBy", "(II)Z"⟩, prog_14_method_84_code, 3, (Option.some Jvm.ClassFile.FieldType.boolean), 0), 2165, 179, 2164, 112),
  (283, (⟨"MayBoatsModel", "boatDiffers", "(I)Z"⟩, prog_14_method_85_code, 2, (Option.some Jvm.ClassFile.FieldType.boolean), 0), 2197, 179, 2196, 119),
  (284, (⟨"MayBoatsModel", "tellTop", "()Z"⟩, prog_14_method_86_code, 1, (Option.some Jvm.ClassFile.FieldType.boolean), 0), 2185, 179, 2184, 117),
  (285, (⟨"MayBoatsModel", "differ", "(I)Z"⟩, prog_14_method_87_code, 2, (Option.some Jvm.ClassFile.FieldType.boolean), 0), 2161, 179, 2159, 2160),
  (286, (⟨"MayBoatsModel", "farBy", "(I)I"⟩, prog_14_method_88_code, 10, (Option.some Jvm.ClassFile.FieldType.int), 0), 2193, 179, 2192, 118),
  (287, (⟨"MayBoatsModel", "far", "(I)I"⟩, prog_14_method_89_code, 3, (Option.some Jvm.ClassFile.FieldType.int), 0), 2189, 179, 2187, 2188),
  (288, (⟨"MayBoatsModel", "chance", "(I)Z"⟩, prog_14_method_90_code, 3, (Option.some Jvm.ClassFile.FieldType.boolean), 0), 2201, 179, 2199, 2200),
  (289, (⟨"MayBoatsModel", "price", "(II)J"⟩, prog_14_method_91_code, 3, (Option.some Jvm.ClassFile.FieldType.long), 0), 2210, 179, 2209, 120),
  (290, (⟨"MayBoatsModel", "weaveFrom", "(II)V"⟩, prog_14_method_92_code, 9, (Option.none : Option Jvm.ClassFile.FieldType), 0), 2215, 179, 2214, 121),
  (291, (⟨"MayBoatsModel", "weave", "(II)J"⟩, prog_14_method_93_code, 7, (Option.some Jvm.ClassFile.FieldType.long), 0), 2205, 179, 2203, 2204),
  (292, (⟨"MayBoatsModel", "woven", "(I)I"⟩, prog_14_method_94_code, 2, (Option.some Jvm.ClassFile.FieldType.int), 0), 2219, 179, 2217, 2218),
  (293, (⟨"MayBoatsModel", "gap", "(I)Z"⟩, prog_14_method_95_code, 7, (Option.some Jvm.ClassFile.FieldType.boolean), 0), 2223, 179, 2221, 2222),
  (294, (⟨"MayBoatsModel", "isOf", "(I)Z"⟩, prog_14_method_96_code, 2, (Option.some Jvm.ClassFile.FieldType.boolean), 0), 2233, 179, 2232, 122),
  (295, (⟨"MayBoatsModel", "cuts", "(III)I"⟩, prog_14_method_97_code, 7, (Option.some Jvm.ClassFile.FieldType.int), 0), 2227, 179, 2225, 2226),
  (296, (⟨"MayBoatsModel", "deepest", "(II)I"⟩, prog_14_method_98_code, 10, (Option.some Jvm.ClassFile.FieldType.int), 0), 2237, 179, 2235, 2236),
  (297, (⟨"MayBoatsModel", "addRight", "(IJ)Z"⟩, prog_14_method_99_code, 7, (Option.some Jvm.ClassFile.FieldType.boolean), 0), 2245, 179, 2244, 123),
  (298, (⟨"MayBoatsModel", "right", "(I)Z"⟩, prog_14_method_100_code, 3, (Option.some Jvm.ClassFile.FieldType.boolean), 0), 2241, 179, 2239, 2240),
  (299, (⟨"MayBoatsModel", "left", "(IIIIZ)Z"⟩, prog_14_method_101_code, 6, (Option.some Jvm.ClassFile.FieldType.boolean), 0), 2249, 179, 2247, 2248)]
def k_mI5 : List (Nat × cMth × Nat × Nat × Nat × Nat) := [(300, (⟨"MayBoatsModel", "joined", "()Z"⟩, prog_14_method_102_code, 7, (Option.some Jvm.ClassFile.FieldType.boolean), 0), 2254, 179, 2252, 2253),
  (301, (⟨"MayBoatsModel", "needs", "(II)I"⟩, prog_14_method_103_code, 5, (Option.some Jvm.ClassFile.FieldType.int), 0), 2258, 179, 2256, 2257),
  (302, (⟨"MayBoatsModel", "earlierBy", "(II)Z"⟩, prog_14_method_104_code, 7, (Option.some Jvm.ClassFile.FieldType.boolean), 0), 2266, 179, 2265, 124),
  (303, (⟨"MayBoatsModel", "earlier", "(II)Z"⟩, prog_14_method_105_code, 3, (Option.some Jvm.ClassFile.FieldType.boolean), 0), 2262, 179, 2260, 2261),
  (304, (⟨"MayBoatsModel", "earliers", "(I)I"⟩, prog_14_method_106_code, 8, (Option.some Jvm.ClassFile.FieldType.int), 0), 2270, 179, 2268, 2269),
  (305, (⟨"MayBoatsModel", "slope", "(I)Z"⟩, prog_14_method_107_code, 10, (Option.some Jvm.ClassFile.FieldType.boolean), 0), 2278, 179, 2277, 125),
  (306, (⟨"MayBoatsModel", "trend", "(I)Z"⟩, prog_14_method_108_code, 2, (Option.some Jvm.ClassFile.FieldType.boolean), 0), 2274, 179, 2272, 2273),
  (307, (⟨"MayBoatsModel", "split", "(I)Z"⟩, prog_14_method_109_code, 6, (Option.some Jvm.ClassFile.FieldType.boolean), 0), 2282, 179, 2280, 2281),
  (308, (⟨"MayBoatsModel", "gatherKind", "(II)V"⟩, prog_14_method_110_code, 4, (Option.none : Option Jvm.ClassFile.FieldType), 0), 2294, 179, 2293, 127),
  (309, (⟨"MayBoatsModel", "part", "(IZ)Z"⟩, prog_14_method_111_code, 8, (Option.some Jvm.ClassFile.FieldType.boolean), 0), 2290, 179, 2289, 126),
  (310, (⟨"MayBoatsModel", "mix", "(I)Z"⟩, prog_14_method_112_code, 2, (Option.some Jvm.ClassFile.FieldType.boolean), 0), 2286, 179, 2284, 2285),
  (311, (⟨"MayBoatsModel", "pure", "(I)Z"⟩, prog_14_method_113_code, 2, (Option.some Jvm.ClassFile.FieldType.boolean), 0), 2298, 179, 2296, 2297),
  (312, (⟨"MayBoatsModel", "draw", "()I"⟩, prog_14_method_114_code, 1, (Option.some Jvm.ClassFile.FieldType.int), 0), 2310, 179, 2309, 129),
  (313, (⟨"MayBoatsModel", "drawWorld", "(II)I"⟩, prog_14_method_115_code, 7, (Option.some Jvm.ClassFile.FieldType.int), 0), 2306, 179, 2305, 128),
  (314, (⟨"MayBoatsModel", "world", "(II)I"⟩, prog_14_method_116_code, 3, (Option.some Jvm.ClassFile.FieldType.int), 0), 2302, 179, 2300, 2301),
  (315, (⟨"MayBoatsModel", "keepWages", "()V"⟩, prog_14_method_117_code, 2, (Option.none : Option Jvm.ClassFile.FieldType), 0), 2320, 179, 2319, 130),
  (316, (⟨"MayBoatsModel", "giveWages", "()V"⟩, prog_14_method_118_code, 2, (Option.none : Option Jvm.ClassFile.FieldType), 0), 2329, 179, 2328, 132),
  (317, (⟨"MayBoatsModel", "rounded", "()J"⟩, prog_14_method_119_code, 1, (Option.some Jvm.ClassFile.FieldType.long), 0), 2324, 179, 2323, 131),
  (318, (⟨"MayBoatsModel", "span", "(IIIII)I"⟩, prog_14_method_120_code, 12, (Option.some Jvm.ClassFile.FieldType.int), 0), 2315, 179, 2313, 2314),
  (319, (⟨"MayBoatsModel", "odds", "(IIIII)Z"⟩, prog_14_method_121_code, 13, (Option.some Jvm.ClassFile.FieldType.boolean), 0), 2333, 179, 2331, 2332),
  (320, (⟨"MayBoatsModel", "stepWord", "()I"⟩, prog_14_method_122_code, 1, (Option.some Jvm.ClassFile.FieldType.int), 0), 2345, 179, 2344, 134),
  (321, (⟨"MayBoatsModel", "isEnd", "()Z"⟩, prog_14_method_123_code, 1, (Option.some Jvm.ClassFile.FieldType.boolean), 0), 2354, 179, 2353, 136),
  (322, (⟨"MayBoatsModel", "readSet", "(Z)I"⟩, prog_14_method_124_code, 5, (Option.some Jvm.ClassFile.FieldType.int), 0), 2350, 179, 2349, 135),
  (323, (⟨"MayBoatsModel", "readStreets", "()I"⟩, prog_14_method_125_code, 3, (Option.some Jvm.ClassFile.FieldType.int), 0), 2358, 179, 2357, 137),
  (324, (⟨"MayBoatsModel", "readStep", "(I)V"⟩, prog_14_method_126_code, 5, (Option.none : Option Jvm.ClassFile.FieldType), 0), 2341, 179, 2340, 133),
  (325, (⟨"MayBoatsModel", "ways", "(I)I"⟩, prog_14_method_127_code, 3, (Option.some Jvm.ClassFile.FieldType.int), 0), 2337, 179, 2335, 2336),
  (326, (⟨"MayBoatsModel", "tryOne", "()V"⟩, prog_14_method_128_code, 1, (Option.none : Option Jvm.ClassFile.FieldType), 0), 2374, 179, 2373, 140),
  (327, (⟨"MayBoatsModel", "isFarAs", "(I)Z"⟩, prog_14_method_129_code, 2, (Option.some Jvm.ClassFile.FieldType.boolean), 0), 2382, 179, 2381, 142),
  (328, (⟨"MayBoatsModel", "doAll", "(II)V"⟩, prog_14_method_130_code, 4, (Option.none : Option Jvm.ClassFile.FieldType), 0), 2366, 179, 2365, 138),
  (329, (⟨"MayBoatsModel", "doEach", "(II)V"⟩, prog_14_method_131_code, 5, (Option.none : Option Jvm.ClassFile.FieldType), 0), 2378, 179, 2377, 141),
  (330, (⟨"MayBoatsModel", "doOne", "(I)V"⟩, prog_14_method_132_code, 5, (Option.none : Option Jvm.ClassFile.FieldType), 0), 2370, 179, 2369, 139),
  (331, (⟨"MayBoatsModel", "written", "(I)I"⟩, prog_14_method_133_code, 3, (Option.some Jvm.ClassFile.FieldType.int), 0), 2362, 179, 2360, 2361),
  (332, (⟨"MayBoatsModel", "writ", "(I)I"⟩, prog_14_method_134_code, 2, (Option.some Jvm.ClassFile.FieldType.int), 0), 2386, 179, 2384, 2385),
  (333, (⟨"MayBoatsModel", "isOr", "()Z"⟩, prog_14_method_135_code, 1, (Option.some Jvm.ClassFile.FieldType.boolean), 0), 2434, 179, 2433, 153),
  (334, (⟨"MayBoatsModel", "isAnd", "()Z"⟩, prog_14_method_136_code, 1, (Option.some Jvm.ClassFile.FieldType.boolean), 0), 2438, 179, 2437, 154),
  (335, (⟨"MayBoatsModel", "isNot", "()Z"⟩, prog_14_method_137_code, 1, (Option.some Jvm.ClassFile.FieldType.boolean), 0), 2406, 179, 2405, 146),
  (336, (⟨"MayBoatsModel", "isOf", "()Z"⟩, prog_14_method_138_code, 1, (Option.some Jvm.ClassFile.FieldType.boolean), 0), 2422, 179, 2421, 150),
  (337, (⟨"MayBoatsModel", "isLeastWord", "()Z"⟩, prog_14_method_139_code, 1, (Option.some Jvm.ClassFile.FieldType.boolean), 0), 2442, 179, 2441, 155),
  (338, (⟨"MayBoatsModel", "claimWord", "()I"⟩, prog_14_method_140_code, 1, (Option.some Jvm.ClassFile.FieldType.int), 0), 2410, 179, 2409, 147),
  (339, (⟨"MayBoatsModel", "isLineName", "()Z"⟩, prog_14_method_141_code, 1, (Option.some Jvm.ClassFile.FieldType.boolean), 0), 2430, 179, 2429, 152),
  (340, (⟨"MayBoatsModel", "step", "(I)V"⟩, prog_14_method_142_code, 2, (Option.none : Option Jvm.ClassFile.FieldType), 0), 2414, 179, 2413, 148),
  (341, (⟨"MayBoatsModel", "readClaim", "()V"⟩, prog_14_method_143_code, 3, (Option.none : Option Jvm.ClassFile.FieldType), 0), 2418, 179, 2417, 149),
  (342, (⟨"MayBoatsModel", "readKinds", "()I"⟩, prog_14_method_144_code, 4, (Option.some Jvm.ClassFile.FieldType.int), 0), 2426, 179, 2425, 151),
  (343, (⟨"MayBoatsModel", "readOne", "(I)V"⟩, prog_14_method_145_code, 4, (Option.none : Option Jvm.ClassFile.FieldType), 0), 2402, 179, 2401, 145),
  (344, (⟨"MayBoatsModel", "readBoth", "(I)V"⟩, prog_14_method_146_code, 2, (Option.none : Option Jvm.ClassFile.FieldType), 0), 2398, 179, 2397, 144),
  (345, (⟨"MayBoatsModel", "readEither", "(I)V"⟩, prog_14_method_147_code, 2, (Option.none : Option Jvm.ClassFile.FieldType), 0), 2394, 179, 2393, 143),
  (346, (⟨"MayBoatsModel", "line", "(I)I"⟩, prog_14_method_148_code, 3, (Option.some Jvm.ClassFile.FieldType.int), 0), 2390, 179, 2388, 2389),
  (347, (⟨"MayBoatsModel", "claimed", "(II)I"⟩, prog_14_method_149_code, 9, (Option.some Jvm.ClassFile.FieldType.int), 0), 2454, 179, 2453, 157),
  (348, (⟨"MayBoatsModel", "lineBy", "(I)I"⟩, prog_14_method_150_code, 5, (Option.some Jvm.ClassFile.FieldType.int), 0), 2450, 179, 2449, 156),
  (349, (⟨"MayBoatsModel", "said", "(I)I"⟩, prog_14_method_151_code, 2, (Option.some Jvm.ClassFile.FieldType.int), 0), 2446, 179, 2444, 2445),
  (350, (⟨"MayBoatsModel", "hush", "(II)V"⟩, prog_14_method_152_code, 3, (Option.none : Option Jvm.ClassFile.FieldType), 0), 2462, 179, 2461, 158),
  (351, (⟨"MayBoatsModel", "giveBack", "(II)V"⟩, prog_14_method_153_code, 3, (Option.none : Option Jvm.ClassFile.FieldType), 0), 2466, 179, 2465, 159),
  (352, (⟨"MayBoatsModel", "turned", "(I)I"⟩, prog_14_method_154_code, 6, (Option.some Jvm.ClassFile.FieldType.int), 0), 2458, 179, 2456, 2457),
  (353, (⟨"MayBoatsModel", "turning", "(I)I"⟩, prog_14_method_155_code, 2, (Option.some Jvm.ClassFile.FieldType.int), 0), 2470, 179, 2468, 2469),
  (354, (⟨"MayBoatsModel", "copy", "(II)V"⟩, prog_14_method_156_code, 4, (Option.none : Option Jvm.ClassFile.FieldType), 0), 2478, 179, 2477, 160),
  (355, (⟨"MayBoatsModel", "mark", "()I"⟩, prog_14_method_157_code, 1, (Option.some Jvm.ClassFile.FieldType.int), 0), 2474, 179, 2472, 2473),
  (356, (⟨"MayBoatsModel", "back", "()I"⟩, prog_14_method_158_code, 1, (Option.some Jvm.ClassFile.FieldType.int), 0), 2482, 179, 2480, 2481),
  (357, (⟨"java/lang/Math", "floorDiv", "(JJ)J"⟩, prog_15_method_49_code, 6, (Option.some Jvm.ClassFile.FieldType.long), 1), 1427, 181, 1426, 0),
  (358, (⟨"java/lang/Math", "abs", "(J)J"⟩, prog_15_method_61_code, 2, (Option.some Jvm.ClassFile.FieldType.long), 1), 1170, 181, 1169, 0),
  (359, (⟨"java/lang/Math", "max", "(II)I"⟩, prog_15_method_65_code, 2, (Option.some Jvm.ClassFile.FieldType.int), 1), 1208, 181, 1207, 0)]
def k_mI6 : List (Nat × cMth × Nat × Nat × Nat × Nat) := [(360, (⟨"java/lang/Math", "max", "(JJ)J"⟩, prog_15_method_66_code, 4, (Option.some Jvm.ClassFile.FieldType.long), 1), 1062, 181, 1061, 0),
  (361, (⟨"java/lang/Math", "min", "(II)I"⟩, prog_15_method_69_code, 2, (Option.some Jvm.ClassFile.FieldType.int), 1), 1211, 181, 1210, 0),
  (362, (⟨"java/lang/Math", "min", "(JJ)J"⟩, prog_15_method_70_code, 4, (Option.some Jvm.ClassFile.FieldType.long), 1), 1059, 181, 1058, 0),
  (363, (⟨"java/lang/String", "length", "()I"⟩, prog_16_method_54_code, 1, (Option.some Jvm.ClassFile.FieldType.int), 0), 223, 165, 221, 222),
  (364, (⟨"java/lang/String", "charAt", "(I)C"⟩, prog_16_method_56_code, 2, (Option.some Jvm.ClassFile.FieldType.char), 0), 233, 165, 231, 232),
  (365, (⟨"java/lang/String", "coder", "()B"⟩, prog_16_method_152_code, 1, (Option.some Jvm.ClassFile.FieldType.byte), 0), 227, 165, 225, 226),
  (366, (⟨"java/lang/String", "isLatin1", "()Z"⟩, prog_16_method_154_code, 1, (Option.some Jvm.ClassFile.FieldType.boolean), 0), 237, 165, 235, 236),
  (367, (⟨"java/lang/String", "checkIndex", "(II)V"⟩, prog_16_method_155_code, 2, (Option.none : Option Jvm.ClassFile.FieldType), 1), 243, 165, 242, 0),
  (368, (⟨"java/lang/StringLatin1", "charAt", "([BI)C"⟩, prog_17_method_2_code, 2, (Option.some Jvm.ClassFile.FieldType.char), 1), 240, 166, 239, 0),
  (369, (⟨"java/lang/StringUTF16", "getChar", "([BI)C"⟩, prog_18_method_5_code, 2, (Option.some Jvm.ClassFile.FieldType.char), 1), 261, 168, 260, 0),
  (370, (⟨"java/lang/StringUTF16", "length", "([B)I"⟩, prog_18_method_6_code, 1, (Option.some Jvm.ClassFile.FieldType.int), 1), 257, 168, 256, 0),
  (371, (⟨"java/lang/StringUTF16", "charAt", "([BI)C"⟩, prog_18_method_83_code, 2, (Option.some Jvm.ClassFile.FieldType.char), 1), 251, 168, 250, 0),
  (372, (⟨"java/lang/StringUTF16", "checkIndex", "(I[B)V"⟩, prog_18_method_91_code, 2, (Option.none : Option Jvm.ClassFile.FieldType), 1), 254, 168, 253, 0),
  (373, (⟨"java/util/Arrays", "fill", "([JJ)V"⟩, prog_20_method_101_code, 5, (Option.none : Option Jvm.ClassFile.FieldType), 1), 824, 178, 823, 0),
  (374, (⟨"java/util/Arrays", "fill", "([II)V"⟩, prog_20_method_103_code, 4, (Option.none : Option Jvm.ClassFile.FieldType), 1), 736, 178, 735, 0),
  (375, (⟨"jdk/internal/util/Preconditions", "checkIndex", "(IILjava/util/function/BiFunction;)I"⟩, prog_21_method_11_code, 3, (Option.some Jvm.ClassFile.FieldType.int), 1), 248, 167, 247, 0)]
def k_mI : List (Nat × cMth × Nat × Nat × Nat × Nat) := k_mI0 ++ (k_mI1 ++ (k_mI2 ++ (k_mI3 ++ (k_mI4 ++ (k_mI5 ++ (k_mI6))))))
def k_mths : List (Nat × cMth) := k_mI.map (fun q => (q.1, q.2.1))
def k_isN : Cond → Bool
  | .methodLinkNest _ _ _ _ => true
  | _ => false
def k_ws : List Cond := lw_tbl.filter goodWord
def k_ns : List Cond := lw_tbl.filter k_isN
def k_Z : cStat := (k_nm, fun a => k_look a k_mths, k_ws, k_ns, "MayBoats")
def k_at (i : Nat) (w : Cond) : Bool := decide (lw_tbl[i]? = some w) && goodWord w
def k_atN (i : Nat) (w : Cond) : Bool := decide (lw_tbl[i]? = some w) && k_isN w
theorem k_at_ok {i : Nat} {w : Cond} (h : k_at i w = true) : w ∈ k_ws := by
  unfold k_at at h
  rw [Bool.and_eq_true] at h
  exact List.mem_filter.mpr ⟨List.mem_of_getElem? (of_decide_eq_true h.1), h.2⟩
theorem k_atN_ok {i : Nat} {w : Cond} (h : k_atN i w = true) : w ∈ k_ns := by
  unfold k_atN at h
  rw [Bool.and_eq_true] at h
  exact List.mem_filter.mpr ⟨List.mem_of_getElem? (of_decide_eq_true h.1), h.2⟩
theorem k_look_ok {α : Type} {t : Nat} {x : α} : ∀ {l : List (Nat × α)}, k_look t l = some x → (t, x) ∈ l
  | [], h => by cases h
  | q :: l, h => by
    unfold k_look at h
    split at h
    · rename_i hq
      cases h
      rw [← Nat.eq_of_beq_eq_true hq]
      exact List.mem_cons_self
    · exact List.mem_cons_of_mem _ (k_look_ok h)
/-! methods -/
def k_ctB (a : Nat) (M : cMth) (ct : cCtr) : Bool := Nat.beq (ct_m ct) a && decide (ct_dep ct ∈ ct_pre ct) && decide ((parseMethodDescriptor M.1.desc).map (fun d => d.parameters.length) = some ((ct_args ct).length - (if M.2.2.2.2 = 1 then 0 else 1))) && (Nat.beq M.2.2.2.2 1 || (match ct_args ct with
  | (2, t, _) :: _ => (match k_K.2.1 t with
    | (0, N, ci) => (match k_cl[ci]? with
      | some (C, _, N') => decide (C = M.1.cls) && Nat.beq N N'
      | none => false)
    | _ => false)
  | _ => false))
def k_mB (q : Nat × cMth × Nat × Nat × Nat × Nat) : Bool := k_at q.2.2.1 (.code q.2.1.1 q.2.1.2.1 q.2.1.2.2.1 q.2.1.2.2.2.1) && k_at q.2.2.2.1 (.initialized q.2.1.1.cls) && decide (q.2.1.1.cls ≠ "java/lang/invoke/MethodHandle") && decide (q.2.1.1.cls ≠ "java/lang/invoke/VarHandle") && Nat.ble q.2.1.2.2.1 44 &&
  (match q.2.1.2.2.2.2 with
  | 0 => k_at q.2.2.2.2.1 (.instanceMethod q.2.1.1) && k_at q.2.2.2.2.2 (.selects q.2.1.1.cls q.2.1.1 q.2.1.1)
  | 1 => k_at q.2.2.2.2.1 (.static q.2.1.1)
  | 2 => k_at q.2.2.2.2.1 (.instanceMethod q.2.1.1) && decide (q.2.1.1.name = "<init>") && decide (q.2.1.2.2.2.1 = none)
  | _ => false) && (k_P.2.1 q.1).all (k_ctB q.1 q.2.1)
theorem k_mB0 : k_mI0.all k_mB = true := by decide +kernel
theorem k_mB1 : k_mI1.all k_mB = true := by decide +kernel
theorem k_mB2 : k_mI2.all k_mB = true := by decide +kernel
theorem k_mB3 : k_mI3.all k_mB = true := by decide +kernel
theorem k_mB4 : k_mI4.all k_mB = true := by decide +kernel
theorem k_mB5 : k_mI5.all k_mB = true := by decide +kernel
theorem k_mB6 : k_mI6.all k_mB = true := by decide +kernel
theorem k_mB_all : k_mI.all k_mB = true := by
  unfold k_mI
  rw [List.all_append, List.all_append, List.all_append, List.all_append, List.all_append, List.all_append, k_mB0, k_mB1, k_mB2, k_mB3, k_mB4, k_mB5, k_mB6]
  rfl
theorem k_mOk : c_mOk k_K k_P k_cl k_Z := by
  intro a M hM
  have hm := k_look_ok (show k_look a k_mths = some M from hM)
  obtain ⟨q, hq, he⟩ := List.mem_map.mp hm
  cases he
  have h := List.all_eq_true.mp k_mB_all q hq
  unfold k_mB at h
  rw [Bool.and_eq_true, Bool.and_eq_true, Bool.and_eq_true, Bool.and_eq_true, Bool.and_eq_true, Bool.and_eq_true] at h
  obtain ⟨⟨⟨⟨⟨⟨h1, h2⟩, h3⟩, h4⟩, h5⟩, h6⟩, h7⟩ := h
  refine ⟨k_at_ok h1, k_at_ok h2, ⟨of_decide_eq_true h3, of_decide_eq_true h4⟩, Nat.le_of_ble_eq_true h5, fun e => ?_, fun e => ?_, fun e => ?_, fun ct hct => ?_⟩
  · rw [e] at h6
    rw [Bool.and_eq_true] at h6
    exact ⟨k_at_ok h6.1, k_at_ok h6.2⟩
  · rw [e] at h6
    exact k_at_ok h6
  · rw [e] at h6
    rw [Bool.and_eq_true, Bool.and_eq_true] at h6
    exact ⟨k_at_ok h6.1.1, of_decide_eq_true h6.1.2, of_decide_eq_true h6.2⟩
  · have g := List.all_eq_true.mp h7 ct hct
    unfold k_ctB at g
    rw [Bool.and_eq_true, Bool.and_eq_true, Bool.and_eq_true] at g
    obtain ⟨⟨⟨g1, g2⟩, g3⟩, g4⟩ := g
    refine ⟨Nat.eq_of_beq_eq_true g1, of_decide_eq_true g2, of_decide_eq_true g3, fun e => ?_⟩
    rw [Bool.or_eq_true] at g4
    rcases g4 with g4 | g4
    · exact absurd (Nat.eq_of_beq_eq_true g4) e
    · split at g4
      · rename_i t bb ll hargs
        split at g4
        · rename_i N ci hsh
          split at g4
          · rename_i C T N' hcl
            rw [Bool.and_eq_true] at g4
            have e1 := of_decide_eq_true g4.1
            have e2 := Nat.eq_of_beq_eq_true g4.2
            subst e1; subst e2
            exact ⟨t, bb, ll, ci, N, T, hargs, hsh, hcl⟩
          · cases g4
        · cases g4
      · cases g4
/-! links -/
def k_lI0_0 : List (Nat × cLk × List Nat) := [(3, (5, 0, 0, 0), [319]), (9, (3, 2, 14, 0), [320, 321, 170]), (11, (2, 14, 2, 0), [322]), (12, (0, 0, 0, 0), [506]), (18, (3, 8, 7, 0), [386, 387, 171]), (20, (2, 88, 2, 0), [388]), (21, (0, 0, 1, 0), [510]), (25, (3, 3, 8, 0), [420, 421, 172]), (27, (2, 31, 2, 0), [422]), (28, (0, 0, 2, 0), [513]), (32, (3, 5, 8, 0), [454, 455, 173]), (34, (2, 62, 2, 0), [456]), (35, (0, 0, 3, 0), [516]), (39, (0, 0, 4, 0), [522]), (43, (1, 15, 0, 0), [1642]), (47, (1, 89, 0, 0), [1647]), (50, (1, 32, 0, 0), [1652]), (53, (1, 64, 0, 0), [1657]), (56, (6, 0, 0, 0), [1658]), (62, (0, 0, 5, 0), [523]), (66, (0, 2, 9, 0), [342]), (69, (2, 120, 1, 0), [1071]), (73, (9, 0, 0, 11), [1072]), (75, (0, 2, 10, 0), [348]), (78, (9, 0, 0, 3), [1073]), (80, (9, 0, 0, (-1)), [1074]), (82, (9, 0, 0, 999), [1075]), (84, (1, 3, 0, 0), [1080]), (88, (1, 2, 0, 0), [1398]), (92, (1, 28, 0, 0), [1399])]
def k_lI0 : List (Nat × cLk × List Nat) := k_lI0_0
def k_lI1_0 : List (Nat × cLk × List Nat) := [(1, (5, 0, 0, 0), [195]), (7, (0, 1, 0, 0), [196]), (13, (0, 1, 1, 0), [199]), (16, (1, 358, 1, 0), [1168]), (22, (1, 360, 1, 0), [1171]), (26, (1, 8, 1, 0), [1165]), (29, (1, 9, 0, 0), [1326])]
def k_lI1 : List (Nat × cLk × List Nat) := k_lI1_0
def k_lI2_0 : List (Nat × cLk × List Nat) := [(3, (5, 0, 0, 0), [325]), (9, (0, 2, 0, 0), [326]), (15, (0, 2, 1, 0), [328]), (18, (0, 2, 2, 0), [331]), (21, (0, 2, 3, 0), [332]), (25, (0, 2, 4, 0), [334]), (28, (0, 2, 5, 0), [336]), (31, (0, 2, 6, 0), [337]), (35, (0, 2, 7, 0), [338]), (38, (0, 2, 8, 0), [339]), (41, (6, 0, 0, 0), [1646]), (47, (0, 2, 9, 0), [340]), (51, (0, 2, 10, 0), [346]), (54, (0, 2, 11, 0), [352]), (57, (0, 2, 12, 0), [354]), (60, (0, 2, 13, 0), [356]), (63, (1, 51, 0, 0), [909]), (69, (1, 55, 0, 0), [913]), (73, (1, 20, 0, 0), [917]), (77, (1, 21, 0, 0), [954]), (81, (1, 23, 0, 0), [966]), (84, (1, 58, 0, 0), [925]), (88, (1, 57, 0, 0), [929]), (91, (1, 54, 0, 0), [930]), (95, (1, 56, 0, 0), [934]), (99, (1, 18, 0, 0), [938]), (103, (1, 19, 1, 0), [942]), (107, (1, 17, 0, 0), [921]), (111, (1, 59, 0, 0), [945]), (115, (1, 22, 0, 0), [958]), (119, (1, 60, 0, 0), [962]), (123, (1, 25, 0, 0), [970]), (127, (1, 26, 0, 0), [974]), (130, (1, 53, 0, 0), [992]), (134, (1, 24, 0, 0), [986]), (137, (1, 27, 0, 0), [978]), (140, (1, 52, 0, 0), [982]), (143, (9, 0, 0, 7), [990]), (145, (2, 120, 1, 0), [991]), (149, (9, 0, 0, 999), [1049]), (151, (1, 29, 0, 0), [1050]), (155, (1, 362, 1, 0), [1057]), (161, (1, 360, 1, 0), [1060]), (164, (1, 30, 1, 0), [1054])]
def k_lI2 : List (Nat × cLk × List Nat) := k_lI2_0
def k_lI3_0 : List (Nat × cLk × List Nat) := [(3, (5, 0, 0, 0), [425]), (9, (0, 3, 0, 0), [426]), (15, (0, 3, 1, 0), [427]), (19, (0, 3, 2, 0), [428]), (22, (0, 3, 3, 0), [430]), (25, (0, 3, 4, 0), [431]), (28, (0, 3, 5, 0), [432]), (32, (6, 0, 0, 0), [1656]), (38, (0, 3, 6, 0), [433]), (42, (0, 3, 7, 0), [434]), (45, (1, 35, 0, 0), [1536]), (49, (1, 59, 0, 0), [1560]), (55, (1, 51, 0, 0), [1567]), (59, (1, 58, 0, 0), [1554]), (63, (1, 36, 0, 0), [1540]), (66, (1, 55, 0, 0), [1548]), (70, (1, 57, 0, 0), [1555]), (73, (1, 34, 0, 0), [1556]), (76, (1, 37, 0, 0), [1544]), (79, (9, 0, 0, 22), [1549]), (81, (9, 0, 0, 24), [1550]), (83, (2, 120, 1, 0), [1551]), (87, (1, 53, 0, 0), [1552]), (91, (9, 0, 0, 21), [1553]), (93, (1, 38, 0, 0), [1561]), (96, (1, 60, 0, 0), [1565]), (100, (0, 2, 1, 0), [330]), (106, (0, 2, 10, 0), [350]), (108, (1, 61, 0, 0), [1566]), (112, (1, 76, 0, 0), [1607]), (118, (1, 78, 0, 0), [1608]), (122, (1, 77, 0, 0), [1609]), (125, (1, 358, 1, 0), [1610]), (131, (1, 361, 1, 0), [1615]), (134, (1, 359, 1, 0), [1616])]
def k_lI3 : List (Nat × cLk × List Nat) := k_lI3_0
def k_lI4_0 : List (Nat × cLk × List Nat) := [(3, (5, 0, 0, 0), [214]), (11, (0, 4, 0, 0), [271]), (15, (0, 4, 1, 0), [272]), (18, (0, 4, 2, 0), [273]), (22, (0, 4, 3, 0), [274]), (26, (0, 4, 4, 0), [275]), (29, (0, 4, 7, 0), [278]), (33, (0, 4, 8, 0), [279]), (36, (0, 4, 10, 0), [281]), (39, (0, 4, 11, 0), [283]), (44, (1, 42, 0, 0), [216]), (52, (1, 363, 0, 0), [220]), (58, (1, 364, 0, 0), [230]), (62, (9, 0, 0, 32), [268]), (64, (0, 4, 5, 0), [276]), (67, (1, 44, 1, 0), [876]), (71, (1, 49, 0, 0), [879]), (75, (1, 45, 1, 0), [891]), (78, (1, 50, 0, 0), [894]), (81, (1, 46, 1, 0), [898]), (84, (1, 47, 0, 0), [883]), (88, (0, 4, 6, 0), [277]), (91, (1, 57, 0, 0), [901]), (94, (1, 48, 0, 0), [887]), (98, (0, 4, 9, 0), [280]), (102, (1, 53, 0, 0), [949]), (106, (1, 58, 0, 0), [953]), (110, (1, 54, 0, 0), [1471]), (114, (1, 19, 1, 0), [1472]), (120, (2, 122, 1, 0), [1473])]
def k_lI4 : List (Nat × cLk × List Nat) := k_lI4_0
def k_lI5_0 : List (Nat × cLk × List Nat) := [(3, (5, 0, 0, 0), [459]), (9, (2, 121, 1, 0), [460]), (13, (0, 5, 2, 0), [472]), (19, (0, 5, 3, 0), [475]), (22, (0, 5, 4, 0), [478]), (25, (0, 5, 5, 0), [481]), (28, (0, 5, 6, 0), [483]), (31, (0, 5, 0, 0), [463]), (34, (0, 5, 1, 0), [467]), (37, (1, 65, 0, 0), [997]), (41, (1, 66, 0, 0), [1001]), (44, (0, 5, 7, 0), [485]), (48, (1, 359, 1, 0), [1206]), (54, (1, 361, 1, 0), [1209]), (57, (1, 2, 0, 0), [1146]), (62, (2, 122, 1, 0), [1147])]
def k_lI5 : List (Nat × cLk × List Nat) := k_lI5_0
def k_lI6_0 : List (Nat × cLk × List Nat) := [(3, (5, 0, 0, 0), [552]), (9, (0, 6, 0, 0), [553]), (15, (0, 6, 1, 0), [556]), (19, (0, 6, 2, 0), [559]), (22, (1, 374, 1, 0), [1188]), (28, (1, 373, 1, 0), [1189]), (31, (1, 71, 0, 0), [1184]), (34, (0, 0, 5, 0), [525]), (40, (0, 5, 1, 0), [468]), (45, (1, 68, 0, 0), [1142]), (49, (1, 69, 0, 0), [1190]), (52, (1, 72, 0, 0), [1194]), (56, (1, 76, 0, 0), [1198]), (60, (1, 67, 0, 0), [1202]), (64, (2, 182, 1, 0), [1415]), (68, (0, 0, 3, 0), [520]), (72, (0, 5, 7, 0), [486]), (76, (2, 183, 1, 0), [1416]), (79, (1, 6, 0, 0), [1417]), (83, (0, 6, 3, 0), [562]), (86, (0, 6, 4, 0), [565]), (90, (1, 2, 0, 0), [1150]), (94, (2, 122, 1, 0), [1151]), (98, (2, 120, 1, 0), [1152]), (102, (1, 78, 0, 0), [1422]), (106, (1, 77, 0, 0), [1423]), (109, (1, 360, 1, 0), [1424]), (115, (1, 357, 1, 0), [1425])]
def k_lI6 : List (Nat × cLk × List Nat) := k_lI6_0
def k_lI7_0 : List (Nat × cLk × List Nat) := [(3, (5, 0, 0, 0), [693]), (9, (3, 6, 5, 0), [694, 548, 174]), (11, (2, 70, 2, 0), [695]), (12, (0, 7, 1, 0), [697]), (18, (0, 7, 2, 0), [698]), (22, (0, 7, 3, 0), [699]), (25, (0, 7, 4, 0), [700]), (28, (0, 7, 5, 0), [701]), (31, (0, 7, 6, 0), [702]), (34, (0, 7, 7, 0), [703]), (38, (0, 7, 0, 0), [696]), (42, (1, 82, 0, 0), [1580]), (46, (1, 84, 0, 0), [1595]), (50, (0, 0, 3, 0), [519]), (56, (1, 67, 0, 0), [1584]), (62, (1, 374, 1, 0), [1585]), (68, (0, 0, 5, 0), [524]), (72, (2, 121, 1, 0), [1586]), (76, (1, 68, 0, 0), [1587]), (80, (1, 69, 0, 0), [1588]), (83, (0, 0, 2, 0), [514]), (87, (0, 3, 7, 0), [435]), (92, (1, 83, 0, 0), [1589]), (96, (0, 3, 2, 0), [429]), (100, (0, 5, 1, 0), [469]), (103, (1, 2, 0, 0), [1593]), (106, (2, 122, 1, 0), [1594]), (109, (0, 6, 0, 0), [554]), (110, (0, 6, 1, 0), [557]), (113, (1, 85, 0, 0), [1599]), (117, (1, 39, 0, 0), [1603]), (121, (1, 40, 0, 0), [1611]), (125, (1, 81, 0, 0), [1625]), (128, (1, 87, 0, 0), [1626]), (132, (0, 7, 8, 0), [704]), (135, (0, 7, 9, 0), [706]), (138, (0, 7, 10, 0), [708])]
def k_lI7 : List (Nat × cLk × List Nat) := k_lI7_0
def k_lI8_0 : List (Nat × cLk × List Nat) := [(3, (5, 0, 0, 0), [391]), (9, (0, 8, 0, 0), [392]), (15, (0, 8, 1, 0), [394]), (19, (0, 8, 2, 0), [396]), (22, (0, 8, 3, 0), [398]), (25, (0, 8, 4, 0), [400]), (29, (6, 0, 0, 0), [1651]), (35, (0, 8, 6, 0), [403]), (39, (0, 8, 5, 0), [401]), (42, (1, 51, 0, 0), [1447]), (48, (1, 55, 0, 0), [1448]), (52, (1, 91, 0, 0), [1449]), (56, (1, 92, 0, 0), [1456]), (60, (1, 58, 0, 0), [1453]), (64, (1, 57, 0, 0), [1454]), (67, (1, 59, 0, 0), [1455]), (71, (9, 0, 0, 8), [1460]), (73, (9, 0, 0, 18), [1461]), (75, (2, 120, 1, 0), [1462]), (79, (1, 93, 0, 0), [1463]), (83, (0, 2, 0, 0), [327]), (89, (0, 2, 9, 0), [343]), (92, (1, 61, 0, 0), [1467]), (96, (0, 2, 1, 0), [329]), (99, (0, 2, 10, 0), [349]), (102, (1, 94, 1, 0), [1474]), (106, (1, 60, 0, 0), [1477]), (110, (1, 52, 0, 0), [1478])]
def k_lI8 : List (Nat × cLk × List Nat) := k_lI8_0
def k_lI9_0 : List (Nat × cLk × List Nat) := [(3, (5, 0, 0, 0), [585]), (9, (0, 9, 2, 0), [588]), (15, (0, 9, 3, 0), [589]), (18, (0, 9, 4, 0), [590]), (21, (0, 9, 5, 0), [591]), (25, (0, 9, 9, 0), [595]), (28, (0, 9, 0, 0), [586]), (32, (0, 9, 1, 0), [587]), (36, (1, 75, 0, 0), [1267]), (42, (0, 6, 3, 0), [561]), (46, (9, 0, 0, (-1)), [1268]), (48, (9, 0, 0, 60), [1269]), (50, (0, 6, 4, 0), [564]), (54, (0, 0, 3, 0), [518]), (60, (0, 5, 3, 0), [476]), (65, (0, 5, 4, 0), [479]), (68, (1, 96, 0, 0), [1263]), (72, (0, 9, 6, 0), [592]), (75, (1, 97, 0, 0), [1259]), (79, (0, 0, 0, 0), [507]), (83, (0, 2, 9, 0), [341]), (88, (0, 5, 0, 0), [464]), (91, (2, 122, 1, 0), [1270]), (94, (0, 9, 7, 0), [593]), (97, (0, 9, 8, 0), [594]), (100, (1, 100, 0, 0), [1271]), (104, (1, 99, 0, 0), [1280]), (108, (0, 9, 10, 0), [597]), (112, (0, 9, 11, 0), [599]), (115, (0, 9, 12, 0), [600]), (118, (0, 9, 13, 0), [602]), (119, (0, 9, 14, 0), [604]), (122, (1, 374, 1, 0), [1284]), (128, (1, 101, 0, 0), [1275]), (131, (6, 0, 0, 0), [1279]), (137, (0, 9, 15, 0), [606])]
def k_lI9 : List (Nat × cLk × List Nat) := k_lI9_0
def k_lI10_0 : List (Nat × cLk × List Nat) := [(3, (5, 0, 0, 0), [646]), (9, (3, 5, 8, 0), [647, 455, 173]), (11, (2, 62, 2, 0), [648]), (12, (0, 10, 2, 0), [653]), (18, (3, 1, 2, 0), [649, 191, 163]), (20, (2, 7, 2, 0), [650]), (21, (0, 10, 7, 0), [661]), (25, (0, 10, 0, 0), [651]), (29, (0, 10, 1, 0), [652]), (33, (0, 10, 3, 0), [654]), (37, (0, 10, 4, 0), [655]), (41, (0, 10, 5, 0), [657]), (44, (0, 10, 6, 0), [659]), (47, (1, 9, 0, 0), [1487]), (51, (0, 10, 8, 0), [663]), (54, (0, 10, 9, 0), [665]), (57, (0, 0, 3, 0), [517]), (62, (1, 64, 0, 0), [1488]), (66, (0, 0, 1, 0), [511]), (70, (0, 8, 6, 0), [402]), (75, (1, 105, 0, 0), [1489]), (79, (1, 106, 0, 0), [1493]), (83, (0, 8, 0, 0), [393]), (87, (1, 107, 0, 0), [1497]), (91, (0, 8, 3, 0), [399]), (94, (0, 8, 1, 0), [395]), (98, (1, 108, 0, 0), [1501]), (102, (1, 109, 0, 0), [1506]), (105, (0, 8, 2, 0), [397]), (108, (1, 110, 0, 0), [1517]), (111, (0, 5, 1, 0), [470]), (114, (0, 0, 0, 0), [508]), (118, (0, 2, 10, 0), [347]), (123, (0, 1, 0, 0), [198]), (127, (1, 358, 1, 0), [1505]), (133, (0, 1, 1, 0), [201]), (136, (1, 73, 0, 0), [1510]), (142, (1, 78, 0, 0), [1511]), (145, (1, 77, 0, 0), [1512]), (147, (1, 12, 0, 0), [1513]), (151, (0, 2, 9, 0), [344]), (154, (2, 121, 1, 0), [1521]), (158, (0, 5, 0, 0), [465]), (161, (0, 5, 2, 0), [473]), (164, (1, 65, 0, 0), [1522]), (167, (1, 66, 0, 0), [1523]), (170, (0, 5, 7, 0), [487])]
def k_lI10 : List (Nat × cLk × List Nat) := k_lI10_0
def k_lI11_0 : List (Nat × cLk × List Nat) := [(1, (5, 0, 0, 0), [187]), (7, (3, 1, 2, 0), [190, 191, 163]), (9, (2, 7, 2, 0), [192]), (10, (0, 11, 1, 0), [738]), (16, (0, 11, 2, 0), [739]), (21, (0, 11, 3, 0), [740]), (24, (0, 11, 4, 0), [741]), (28, (0, 11, 5, 0), [742]), (31, (0, 11, 6, 0), [743]), (35, (3, 4, 12, 0), [209, 210, 164]), (37, (1, 41, 2, 0), [211]), (38, (0, 11, 8, 0), [745]), (42, (3, 0, 6, 0), [314, 315, 169]), (44, (2, 0, 2, 0), [316]), (45, (0, 11, 9, 0), [746]), (49, (3, 2, 14, 0), [540, 321, 170]), (51, (2, 14, 2, 0), [541]), (52, (0, 11, 10, 0), [747]), (56, (3, 8, 7, 0), [542, 387, 171]), (58, (2, 88, 2, 0), [543]), (59, (0, 11, 11, 0), [748]), (63, (3, 3, 8, 0), [544, 421, 172]), (65, (2, 31, 2, 0), [545]), (66, (0, 11, 12, 0), [749]), (70, (0, 11, 13, 0), [750]), (74, (3, 6, 5, 0), [547, 548, 174]), (76, (2, 70, 2, 0), [549]), (77, (0, 11, 15, 0), [752]), (81, (3, 5, 8, 0), [578, 455, 173]), (83, (2, 62, 2, 0), [579]), (84, (0, 11, 16, 0), [753]), (88, (3, 9, 16, 0), [580, 581, 175]), (90, (1, 95, 2, 0), [582]), (93, (0, 11, 17, 0), [754]), (97, (3, 10, 10, 0), [641, 642, 176]), (99, (1, 103, 2, 0), [643]), (100, (0, 11, 18, 0), [755]), (104, (3, 7, 11, 0), [688, 689, 177]), (106, (1, 80, 2, 0), [690]), (109, (0, 11, 19, 0), [756]), (113, (1, 374, 1, 0), [734]), (119, (0, 11, 0, 0), [737]), (123, (0, 1, 0, 0), [197]), (127, (0, 1, 1, 0), [200]), (130, (1, 9, 0, 0), [1161]), (134, (1, 117, 0, 0), [825]), (138, (9, 0, 0, 3), [814]), (140, (1, 120, 1, 0), [815]), (144, (1, 115, 0, 0), [818]), (148, (1, 373, 1, 0), [822]), (151, (1, 124, 0, 0), [833]), (155, (1, 126, 1, 0), [837]), (159, (9, 0, 0, (-1)), [844]), (161, (6, 0, 0, 0), [849]), (167, (0, 11, 7, 0), [744]), (170, (1, 130, 0, 0), [856]), (174, (1, 43, 0, 0), [872]), (178, (1, 116, 0, 0), [864]), (182, (1, 131, 0, 0), [868]), (185, (1, 16, 0, 0), [905]), (189, (0, 4, 10, 0), [282]), (192, (0, 0, 0, 0), [509]), (195, (0, 0, 5, 0), [526]), (198, (0, 0, 3, 0), [521]), (201, (0, 2, 9, 0), [345]), (204, (0, 2, 10, 0), [351]), (207, (1, 63, 0, 0), [993]), (211, (1, 118, 0, 0), [1005]), (214, (0, 4, 11, 0), [284]), (217, (0, 2, 12, 0), [355]), (220, (0, 2, 11, 0), [353]), (223, (1, 121, 1, 0), [1111]), (226, (1, 138, 0, 0), [1021]), (229, (0, 2, 3, 0), [333]), (232, (0, 2, 4, 0), [335]), (235, (1, 137, 0, 0), [1029]), (238, (1, 135, 0, 0), [1033]), (241, (1, 136, 0, 0), [1037]), (244, (1, 141, 1, 0), [1041]), (248, (9, 0, 0, 99), [1044]), (250, (1, 28, 0, 0), [1045]), (254, (1, 4, 0, 0), [1067]), (258, (1, 5, 0, 0), [1076]), (262, (1, 139, 0, 0), [1088]), (265, (9, 0, 0, 5), [1092]), (267, (1, 2, 0, 0), [1093]), (270, (9, 0, 0, 999), [1101]), (272, (1, 3, 0, 0), [1102]), (276, (1, 140, 0, 0), [1107]), (279, (0, 5, 0, 0), [466]), (282, (0, 5, 1, 0), [471]), (285, (0, 5, 2, 0), [474]), (288, (1, 65, 0, 0), [1120]), (291, (1, 66, 0, 0), [1121]), (294, (0, 5, 7, 0), [488]), (298, (0, 5, 3, 0), [477]), (301, (0, 5, 4, 0), [480]), (304, (0, 5, 5, 0), [482]), (307, (0, 5, 6, 0), [484]), (310, (1, 75, 0, 0), [1138])]
def k_lI11_1 : List (Nat × cLk × List Nat) := [(314, (1, 153, 0, 0), [1134]), (318, (0, 6, 3, 0), [563]), (321, (0, 6, 4, 0), [566]), (324, (1, 119, 0, 0), [1157]), (328, (1, 73, 0, 0), [1180]), (332, (1, 156, 0, 0), [1176]), (335, (1, 78, 0, 0), [1212]), (338, (1, 77, 0, 0), [1216]), (340, (1, 142, 0, 0), [1228]), (343, (1, 64, 0, 0), [1236]), (347, (1, 122, 1, 0), [1240]), (350, (1, 22, 0, 0), [1241]), (353, (1, 11, 0, 0), [1242]), (356, (1, 158, 0, 0), [1224]), (359, (1, 159, 0, 0), [1232]), (363, (9, 0, 0, 8), [1254]), (365, (1, 98, 0, 0), [1255]), (368, (0, 9, 14, 0), [605]), (371, (0, 9, 10, 0), [598]), (374, (0, 9, 13, 0), [603]), (375, (0, 9, 9, 0), [596]), (378, (1, 102, 0, 0), [1293]), (381, (0, 9, 15, 0), [607]), (384, (9, 0, 0, 60), [1297]), (386, (0, 9, 12, 0), [601]), (389, (9, 0, 0, (-9999)), [1302]), (391, (9, 0, 0, 9999), [1303]), (393, (1, 76, 0, 0), [1304]), (396, (1, 13, 0, 0), [1309]), (399, (1, 67, 0, 0), [1317]), (402, (1, 168, 0, 0), [1318]), (406, (0, 6, 0, 0), [555]), (409, (0, 6, 1, 0), [558]), (413, (1, 10, 0, 0), [1322]), (415, (9, 0, 0, 50), [1331]), (417, (0, 6, 2, 0), [560]), (420, (9, 0, 0, 4), [1340]), (422, (1, 360, 1, 0), [1341]), (428, (1, 172, 0, 0), [1346]), (431, (9, 0, 0, 2), [1362]), (433, (1, 175, 0, 0), [1358]), (436, (1, 179, 0, 0), [1375]), (440, (1, 178, 0, 0), [1371]), (444, (4, 0, 0, 65536), [1390]), (445, (1, 182, 1, 0), [1387]), (448, (1, 183, 1, 0), [1391]), (451, (1, 6, 0, 0), [1394]), (453, (1, 185, 1, 0), [1404]), (456, (1, 187, 0, 0), [1407]), (460, (1, 362, 1, 0), [1428]), (463, (1, 74, 0, 0), [1411]), (466, (1, 79, 0, 0), [1418]), (469, (1, 358, 1, 0), [1433]), (473, (1, 361, 1, 0), [1442]), (475, (1, 189, 0, 0), [1438]), (478, (1, 90, 0, 0), [1443]), (481, (0, 0, 1, 0), [512]), (484, (0, 8, 6, 0), [404]), (487, (1, 104, 0, 0), [1483]), (490, (0, 10, 5, 0), [658]), (493, (0, 10, 4, 0), [656]), (494, (0, 10, 7, 0), [662]), (497, (0, 10, 6, 0), [660]), (500, (0, 10, 8, 0), [664]), (503, (0, 10, 9, 0), [666]), (506, (1, 33, 0, 0), [1532]), (507, (0, 0, 2, 0), [515]), (510, (0, 3, 7, 0), [436]), (513, (1, 194, 0, 0), [1572]), (516, (1, 81, 0, 0), [1576]), (519, (1, 86, 0, 0), [1621]), (521, (0, 7, 8, 0), [705]), (524, (0, 7, 9, 0), [707]), (527, (0, 7, 10, 0), [709]), (530, (0, 11, 14, 0), [751]), (533, (1, 1, 0, 0), [1638])]
def k_lI11 : List (Nat × cLk × List Nat) := k_lI11_0 ++ (k_lI11_1)
def k_lI12_0 : List (Nat × cLk × List Nat) := [(1, (5, 0, 0, 0), [1668]), (7, (0, 12, 3, 0), [1676]), (13, (0, 12, 4, 0), [1677]), (17, (0, 12, 5, 0), [1678]), (20, (0, 12, 6, 0), [1679]), (24, (0, 12, 7, 0), [1680]), (28, (0, 12, 10, 0), [1683]), (32, (0, 12, 11, 0), [1684]), (35, (0, 12, 22, 0), [1695]), (38, (0, 12, 23, 0), [1696]), (41, (0, 12, 24, 0), [1697]), (44, (0, 12, 26, 0), [1699]), (47, (0, 12, 27, 0), [1700]), (50, (0, 12, 28, 0), [1701]), (53, (0, 12, 31, 0), [1704]), (56, (0, 12, 32, 0), [1705]), (59, (0, 12, 33, 0), [1706]), (62, (0, 12, 34, 0), [1707]), (65, (0, 12, 35, 0), [1708]), (68, (0, 12, 55, 0), [1728]), (71, (0, 12, 56, 0), [1729]), (74, (0, 12, 57, 0), [1730]), (77, (1, 249, 0, 0), [1669]), (81, (0, 12, 1, 0), [1674]), (84, (0, 12, 0, 0), [1673]), (87, (0, 12, 2, 0), [1675]), (90, (1, 358, 1, 0), [2157]), (96, (1, 207, 1, 0), [2154]), (100, (1, 205, 0, 0), [1864]), (104, (1, 211, 0, 0), [1876]), (108, (1, 212, 0, 0), [1872]), (112, (1, 209, 1, 0), [1880]), (116, (9, 0, 0, (-1)), [1887]), (118, (9, 0, 0, 3), [2059]), (120, (1, 206, 1, 0), [1986]), (124, (0, 12, 9, 0), [1682]), (127, (0, 12, 16, 0), [1689]), (130, (0, 12, 15, 0), [1688]), (133, (1, 218, 0, 0), [1912]), (136, (0, 12, 14, 0), [1687]), (139, (1, 219, 1, 0), [1916]), (142, (0, 12, 21, 0), [1694]), (145, (9, 0, 0, 32), [1919]), (147, (9, 0, 0, 96), [1920]), (149, (0, 12, 18, 0), [1691]), (152, (1, 220, 1, 0), [1921]), (155, (0, 12, 17, 0), [1690]), (158, (1, 221, 1, 0), [1924]), (161, (1, 224, 1, 0), [1931]), (165, (1, 225, 0, 0), [1934]), (169, (1, 226, 0, 0), [1927]), (173, (1, 227, 0, 0), [1954]), (176, (1, 230, 0, 0), [1950]), (180, (1, 228, 0, 0), [1958]), (183, (1, 229, 0, 0), [1962]), (186, (0, 12, 12, 0), [1685]), (189, (0, 12, 13, 0), [1686]), (192, (1, 232, 0, 0), [1942]), (196, (1, 222, 0, 0), [1908]), (199, (1, 233, 0, 0), [1966]), (202, (0, 12, 8, 0), [1681]), (205, (1, 237, 0, 0), [1896]), (208, (1, 240, 0, 0), [1974]), (212, (1, 231, 0, 0), [1946]), (215, (1, 241, 0, 0), [1970]), (218, (1, 235, 0, 0), [1982]), (221, (0, 12, 19, 0), [1692]), (224, (1, 244, 0, 0), [2005]), (227, (1, 223, 0, 0), [2009]), (230, (0, 12, 20, 0), [1693]), (233, (1, 247, 0, 0), [1993]), (236, (1, 234, 0, 0), [2013]), (240, (1, 245, 0, 0), [2001]), (243, (1, 246, 0, 0), [1997]), (246, (1, 242, 0, 0), [1938]), (250, (1, 238, 0, 0), [1904]), (254, (1, 243, 0, 0), [1978]), (257, (1, 248, 0, 0), [1989]), (260, (1, 239, 0, 0), [2017]), (263, (9, 0, 0, 4), [2029]), (265, (1, 204, 0, 0), [2030]), (268, (1, 254, 0, 0), [2038]), (271, (1, 259, 1, 0), [2065]), (275, (1, 260, 0, 0), [2068]), (278, (9, 0, 0, 999), [2072]), (280, (1, 362, 1, 0), [2073]), (283, (1, 360, 1, 0), [2074]), (286, (1, 255, 0, 0), [2046]), (289, (1, 252, 0, 0), [2050]), (292, (1, 253, 0, 0), [2054]), (295, (9, 0, 0, 11), [2058]), (297, (9, 0, 0, 99), [2060]), (299, (1, 261, 0, 0), [2061]), (303, (1, 217, 0, 0), [2079]), (306, (1, 216, 0, 0), [2083]), (310, (1, 263, 0, 0), [2087]), (313, (1, 256, 0, 0), [2095]), (316, (9, 0, 0, 5), [2099]), (318, (9, 0, 0, 15), [2112]), (320, (9, 0, 0, 7), [2125])]
def k_lI12_1 : List (Nat × cLk × List Nat) := [(322, (1, 272, 0, 0), [2142]), (325, (1, 273, 0, 0), [2138]), (329, (1, 275, 0, 0), [2130]), (332, (1, 274, 0, 0), [2134]), (336, (1, 208, 0, 0), [2150]), (340, (0, 12, 29, 0), [1702]), (343, (0, 12, 30, 0), [1703]), (346, (1, 280, 0, 0), [2170]), (349, (1, 281, 0, 0), [2166]), (352, (1, 278, 0, 0), [2174]), (355, (1, 279, 0, 0), [2178]), (359, (1, 282, 0, 0), [2162]), (362, (1, 284, 0, 0), [2182]), (365, (1, 283, 0, 0), [2194]), (368, (0, 12, 50, 0), [1723]), (371, (1, 286, 0, 0), [2190]), (374, (9, 0, 0, 60), [2211]), (376, (0, 12, 39, 0), [1712]), (379, (0, 12, 38, 0), [1711]), (382, (0, 12, 36, 0), [1709]), (385, (0, 12, 40, 0), [1713]), (388, (1, 290, 0, 0), [2212]), (391, (9, 0, 0, 8), [2206]), (393, (1, 289, 0, 0), [2207]), (396, (0, 12, 37, 0), [1710]), (399, (0, 12, 41, 0), [1714]), (403, (9, 0, 0, (-9999)), [2228]), (405, (9, 0, 0, 9999), [2229]), (407, (1, 294, 0, 0), [2230]), (410, (1, 297, 0, 0), [2242]), (414, (9, 0, 0, 50), [2250]), (416, (1, 302, 0, 0), [2263]), (419, (1, 305, 0, 0), [2275]), (422, (1, 308, 0, 0), [2291]), (425, (1, 309, 0, 0), [2287]), (429, (0, 12, 51, 0), [1724]), (432, (4, 0, 0, 65536), [2311]), (433, (1, 312, 0, 0), [2307]), (436, (1, 313, 0, 0), [2303]), (439, (1, 357, 1, 0), [2325]), (442, (9, 0, 0, 2), [2316]), (444, (1, 315, 0, 0), [2317]), (447, (1, 317, 0, 0), [2321]), (451, (1, 316, 0, 0), [2326]), (454, (9, 0, 0, 115), [2346]), (456, (1, 320, 0, 0), [2342]), (459, (1, 321, 0, 0), [2351]), (462, (0, 12, 52, 0), [1725]), (465, (1, 322, 0, 0), [2347]), (469, (1, 323, 0, 0), [2355]), (472, (1, 324, 0, 0), [2338]), (475, (0, 12, 46, 0), [1719]), (478, (0, 12, 43, 0), [1716]), (481, (0, 12, 48, 0), [1721]), (484, (0, 12, 47, 0), [1720]), (487, (0, 12, 44, 0), [1717]), (490, (0, 12, 45, 0), [1718]), (493, (1, 330, 0, 0), [2367]), (496, (1, 328, 0, 0), [2363]), (499, (0, 12, 42, 0), [1715]), (502, (1, 326, 0, 0), [2371]), (505, (1, 329, 0, 0), [2375]), (508, (1, 327, 0, 0), [2379]), (511, (0, 12, 49, 0), [1722]), (514, (1, 338, 0, 0), [2407]), (517, (1, 333, 0, 0), [2431]), (520, (1, 334, 0, 0), [2435]), (523, (1, 335, 0, 0), [2403]), (526, (1, 336, 0, 0), [2419]), (528, (1, 337, 0, 0), [2439]), (531, (0, 12, 53, 0), [1726]), (534, (1, 342, 0, 0), [2423]), (537, (1, 340, 0, 0), [2411]), (540, (1, 339, 0, 0), [2427]), (543, (1, 343, 0, 0), [2399]), (546, (1, 345, 0, 0), [2391]), (549, (1, 341, 0, 0), [2415]), (552, (1, 344, 0, 0), [2395]), (555, (1, 347, 0, 0), [2451]), (558, (1, 348, 0, 0), [2447]), (561, (1, 350, 0, 0), [2459]), (564, (1, 351, 0, 0), [2463]), (567, (0, 12, 54, 0), [1727]), (570, (0, 12, 25, 0), [1698]), (573, (1, 354, 0, 0), [2475])]
def k_lI12 : List (Nat × cLk × List Nat) := k_lI12_0 ++ (k_lI12_1)
def k_lI : List (Nat × List (Nat × cLk × List Nat)) := [(0, k_lI0), (1, k_lI1), (2, k_lI2), (3, k_lI3), (4, k_lI4), (5, k_lI5), (6, k_lI6), (7, k_lI7), (8, k_lI8), (9, k_lI9), (10, k_lI10), (11, k_lI11), (12, k_lI12)]
theorem k_lI_eq : k_lnks = k_lI.map (fun q => (q.1, q.2.map (fun z => (z.1, z.2.1)))) := by decide +kernel
def k_lB (own : Nat) (z : Nat × cLk × List Nat) : Bool := match z.2.1.1 with
  | 0 => (match k_cl[z.2.1.2.1]? with
    | some (_, T, N) => Nat.blt z.2.1.2.2.1 N && k_at (z.2.2.getD 0 0) (.fieldLink (k_nm own) z.1 (T z.2.1.2.2.1).1 (T z.2.1.2.2.1).2.1 (T z.2.1.2.2.1).2.2.1)
    | none => false)
  | 1 => (match k_look z.2.1.2.1 k_mths with
    | some M => k_at (z.2.2.getD 0 0) (.methodLink (k_nm own) z.1 M.1) && Nat.beq M.2.2.2.2 z.2.1.2.2.1
    | none => false)
  | 2 => (match k_look z.2.1.2.1 k_mths with
    | some M => k_atN (z.2.2.getD 0 0) (.methodLinkNest (k_nm own) z.1 M.1 "MayBoats") && Nat.beq M.2.2.2.2 z.2.1.2.2.1
    | none => false)
  | 3 => (match k_cl[z.2.1.2.1]? with
    | some (C, _, N) => Nat.beq N z.2.1.2.2.1 && k_at (z.2.2.getD 0 0) (.classLink (k_nm own) z.1 C) && k_at (z.2.2.getD 1 0) (.instantiable C z.2.1.2.2.1) && k_at (z.2.2.getD 2 0) (.initialized C)
    | none => false)
  | 4 => k_at (z.2.2.getD 0 0) (.constant (k_nm own) z.1 (Int32.ofInt z.2.1.2.2.2))
  | 9 => k_at (z.2.2.getD 0 0) (.constantLong (k_nm own) z.1 (Int64.ofInt z.2.1.2.2.2))
  | 5 => k_at (z.2.2.getD 0 0) (.methodLink (k_nm own) z.1 Lib.objectInit)
  | 6 => k_at (z.2.2.getD 0 0) (.methodLink (k_nm own) z.1 arraycopyName)
  | _ => false
theorem k_lB0_0 : k_lI0_0.all (k_lB 0) = true := by decide +kernel
theorem k_lB1_0 : k_lI1_0.all (k_lB 1) = true := by decide +kernel
theorem k_lB2_0 : k_lI2_0.all (k_lB 2) = true := by decide +kernel
theorem k_lB3_0 : k_lI3_0.all (k_lB 3) = true := by decide +kernel
theorem k_lB4_0 : k_lI4_0.all (k_lB 4) = true := by decide +kernel
theorem k_lB5_0 : k_lI5_0.all (k_lB 5) = true := by decide +kernel
theorem k_lB6_0 : k_lI6_0.all (k_lB 6) = true := by decide +kernel
theorem k_lB7_0 : k_lI7_0.all (k_lB 7) = true := by decide +kernel
theorem k_lB8_0 : k_lI8_0.all (k_lB 8) = true := by decide +kernel
theorem k_lB9_0 : k_lI9_0.all (k_lB 9) = true := by decide +kernel
theorem k_lB10_0 : k_lI10_0.all (k_lB 10) = true := by decide +kernel
theorem k_lB11_0 : k_lI11_0.all (k_lB 11) = true := by decide +kernel
theorem k_lB11_1 : k_lI11_1.all (k_lB 11) = true := by decide +kernel
theorem k_lB12_0 : k_lI12_0.all (k_lB 12) = true := by decide +kernel
theorem k_lB12_1 : k_lI12_1.all (k_lB 12) = true := by decide +kernel
theorem k_lB_all : ∀ q ∈ k_lI, q.2.all (k_lB q.1) = true := by
  intro q hq
  unfold k_lI at hq
  simp only [List.mem_cons, List.not_mem_nil, or_false] at hq
  rcases hq with rfl | rfl | rfl | rfl | rfl | rfl | rfl | rfl | rfl | rfl | rfl | rfl | rfl
  · show k_lI0.all (k_lB 0) = true
    unfold k_lI0
    exact k_lB0_0
  · show k_lI1.all (k_lB 1) = true
    unfold k_lI1
    exact k_lB1_0
  · show k_lI2.all (k_lB 2) = true
    unfold k_lI2
    exact k_lB2_0
  · show k_lI3.all (k_lB 3) = true
    unfold k_lI3
    exact k_lB3_0
  · show k_lI4.all (k_lB 4) = true
    unfold k_lI4
    exact k_lB4_0
  · show k_lI5.all (k_lB 5) = true
    unfold k_lI5
    exact k_lB5_0
  · show k_lI6.all (k_lB 6) = true
    unfold k_lI6
    exact k_lB6_0
  · show k_lI7.all (k_lB 7) = true
    unfold k_lI7
    exact k_lB7_0
  · show k_lI8.all (k_lB 8) = true
    unfold k_lI8
    exact k_lB8_0
  · show k_lI9.all (k_lB 9) = true
    unfold k_lI9
    exact k_lB9_0
  · show k_lI10.all (k_lB 10) = true
    unfold k_lI10
    exact k_lB10_0
  · show k_lI11.all (k_lB 11) = true
    unfold k_lI11
    rw [List.all_append, k_lB11_0, k_lB11_1]
    rfl
  · show k_lI12.all (k_lB 12) = true
    unfold k_lI12
    rw [List.all_append, k_lB12_0, k_lB12_1]
    rfl
theorem k_lnkOk : c_lnkOk k_P k_cl k_Z := by
  intro own idx k a b v h
  have h : (match k_look own k_lnks with | some l => k_look idx l | none => none) = some (k, a, b, v) := h
  split at h
  · rename_i l hl
    have h1 := k_look_ok hl
    have h2 := k_look_ok h
    rw [k_lI_eq] at h1
    obtain ⟨q, hq, he⟩ := List.mem_map.mp h1
    cases he
    obtain ⟨z, hz, he⟩ := List.mem_map.mp h2
    cases he
    have g := List.all_eq_true.mp (k_lB_all q hq) z hz
    unfold k_lB at g
    unfold c_lk
    obtain ⟨zi, ⟨zk, za, zb, zv⟩, zl⟩ := z
    dsimp only at g ⊢
    split at g
    · split at g
      · rename_i T N hc
        rw [Bool.and_eq_true] at g
        exact ⟨_, T, N, hc, Nat.le_of_ble_eq_true g.1, k_at_ok g.2⟩
      · cases g
    · split at g
      · rename_i M hM
        rw [Bool.and_eq_true] at g
        exact ⟨M, hM, k_at_ok g.1, Nat.eq_of_beq_eq_true g.2⟩
      · cases g
    · split at g
      · rename_i M hM
        rw [Bool.and_eq_true] at g
        exact ⟨M, hM, k_atN_ok g.1, Nat.eq_of_beq_eq_true g.2⟩
      · cases g
    · split at g
      · rename_i C T N hc
        rw [Bool.and_eq_true, Bool.and_eq_true, Bool.and_eq_true] at g
        have e := Nat.eq_of_beq_eq_true g.1.1.1
        subst e
        exact ⟨C, T, hc, k_at_ok g.1.1.2, k_at_ok g.1.2, k_at_ok g.2⟩
      · cases g
    · exact k_at_ok g
    · exact k_at_ok g
    · exact k_at_ok g
    · exact k_at_ok g
    · cases g
  · cases h
def k_cI : List (List Nat) := [[527, 529, 531, 533, 535, 537], [202, 204], [357, 359, 361, 363, 365, 367, 369, 371, 373, 375, 377, 379, 381, 383], [437, 439, 441, 443, 445, 447, 449, 451], [285, 287, 289, 291, 293, 295, 297, 299, 301, 303, 305, 307], [489, 491, 493, 495, 497, 499, 501, 503], [567, 569, 571, 573, 575], [710, 712, 714, 716, 718, 720, 722, 724, 726, 728, 730], [405, 407, 409, 411, 413, 415, 417], [608, 610, 612, 614, 616, 618, 620, 622, 624, 626, 628, 630, 632, 634, 636, 638], [667, 669, 671, 673, 675, 677, 679, 681, 683, 685], [757, 759, 761, 763, 765, 767, 769, 771, 773, 775, 777, 779, 781, 783, 785, 787, 789, 791, 793, 795], [1731, 1733, 1735, 1737, 1739, 1741, 1743, 1745, 1747, 1749, 1751, 1753, 1755, 1757, 1759, 1761, 1763, 1765, 1767, 1769, 1771, 1773, 1775, 1777, 1779, 1781, 1783, 1785, 1787, 1789, 1791, 1793, 1795, 1797, 1799, 1801, 1803, 1805, 1807, 1809, 1811, 1813, 1815, 1817, 1819, 1821, 1823, 1825, 1827, 1829, 1831, 1833, 1835, 1837, 1839, 1841, 1843, 1845]]
/-! classes -/
def k_cB (ci : Nat) (q : vw_C) : Bool := (List.range q.2.2).all (fun k => k_at ((k_cI.getD ci []).getD k 0) (u_lay q.1 q.2.1 k) && (List.range q.2.2).all (fun j => Nat.beq j k || decide ((q.2.1 k).2.1 ≠ (q.2.1 j).2.1)) && decide ((q.2.1 k).1 = q.1) && (match parseFieldDescriptor (q.2.1 k).2.2.1 with
  | some ty => Nat.beq (k_P.2.2.2 ci k) (c_tyC ty + (if (q.2.1 k).2.2.2 = true then 10 else 0))
  | none => false))
def k_cBs : Nat → List vw_C → Bool
  | _, [] => true
  | ci, q :: l => k_cB ci q && k_cBs (ci + 1) l
theorem k_cBs_ok : ∀ {l : List vw_C} {n ci : Nat} {q : vw_C}, k_cBs n l = true → l[ci]? = some q → k_cB (n + ci) q = true
  | [], _, _, _, _, h => by simp at h
  | x :: l, n, 0, q, h, hq => by
    unfold k_cBs at h
    rw [Bool.and_eq_true] at h
    cases hq
    exact h.1
  | x :: l, n, ci + 1, q, h, hq => by
    unfold k_cBs at h
    rw [Bool.and_eq_true] at h
    have := k_cBs_ok (ci := ci) h.2 (by simpa using hq)
    rw [show n + (ci + 1) = n + 1 + ci by omega]
    exact this
theorem k_cB_all : k_cBs 0 k_cl = true := by decide +kernel
theorem k_clsOk : c_clsOk k_P k_cl k_Z.2.2.1 := by
  intro ci C T N hc
  have h := k_cBs_ok k_cB_all hc
  rw [Nat.zero_add] at h
  unfold k_cB at h
  have key : ∀ k, k < N → _ := fun k hk => List.all_eq_true.mp h k (List.mem_range.mpr hk)
  refine ⟨fun w hw => ?_, fun a ha b hb hab => ?_, fun k => (parseFieldDescriptor (T k).2.2.1).getD .int, fun k hk => ?_, fun k hk => ?_⟩
  · obtain ⟨k, hk, rfl⟩ := List.mem_map.mp hw
    have g := key k (List.mem_range.mp hk)
    rw [Bool.and_eq_true, Bool.and_eq_true, Bool.and_eq_true] at g
    exact k_at_ok g.1.1.1
  · have g := key a ha
    rw [Bool.and_eq_true, Bool.and_eq_true, Bool.and_eq_true] at g
    have g2 := List.all_eq_true.mp g.1.1.2 b (List.mem_range.mpr hb)
    rw [Bool.or_eq_true] at g2
    rcases g2 with g2 | g2
    · exact absurd (Nat.eq_of_beq_eq_true g2).symm hab
    · exact of_decide_eq_true g2
  · have g := key k hk
    rw [Bool.and_eq_true] at g
    have g2 := g.2
    dsimp only
    split at g2
    · rename_i ty ht
      have ht : parseFieldDescriptor (T k).2.2.1 = some ty := ht
      rw [ht]; rfl
    · cases g2
  · have g := key k hk
    rw [Bool.and_eq_true, Bool.and_eq_true] at g
    have g2 := g.2
    split at g2
    · rename_i ty ht
      have ht : parseFieldDescriptor (T k).2.2.1 = some ty := ht
      dsimp only
      rw [ht]
      exact ⟨Nat.eq_of_beq_eq_true g2, of_decide_eq_true g.1.2⟩
    · cases g2
theorem k_good : GoodIn k_ws k_ws := fun w hw => ⟨hw, good_of_word (List.mem_filter.mp hw).2⟩
theorem k_nest : ∀ x ∈ k_Z.2.2.2.1, ∃ (a : String) (i : Nat) (y : MethodName) (h : String), x = .methodLinkNest a i y h := by
  intro x hx
  have h := (List.mem_filter.mp hx).2
  unfold k_isN at h
  split at h
  · exact ⟨_, _, _, _, rfl⟩
  · cases h
theorem k_acOk : c_acOk k_cl k_Z "MayBoats$Book" := by
  refine ⟨fun ty h => ?_, k_at_ok (i := 546) (by decide +kernel), _, _, rfl⟩
  rcases h with rfl | rfl | rfl | rfl | rfl
  · exact k_at_ok (i := 311) (by decide +kernel)
  · exact k_at_ok (i := 310) (by decide +kernel)
  · exact k_at_ok (i := 312) (by decide +kernel)
  · exact k_at_ok (i := 313) (by decide +kernel)
  · exact k_at_ok (i := 733) (by decide +kernel)
theorem k_libOk : c_libOk k_Z := ⟨k_at_ok (i := 188) (by decide +kernel), k_at_ok (i := 189) (by decide +kernel), k_at_ok (i := 851) (by decide +kernel), k_at_ok (i := 850) (by decide +kernel), k_at_ok (i := 180) (by decide +kernel)⟩
