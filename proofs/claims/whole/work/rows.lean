section
/-! Names and code, laid by a program out of the listing of the classes. -/
def oe_T0 : u_T := fun k => match k with
  | 0 => ("OrderedEquations", "text", "[C", true)
  | 1 => ("OrderedEquations", "textLength", "I", false)
  | 2 => ("OrderedEquations", "page", "[C", true)
  | 3 => ("OrderedEquations", "pageLength", "I", false)
  | 4 => ("OrderedEquations", "waiting", "LOrderedEquations$Waiting;", true)
  | 5 => ("OrderedEquations", "actives", "LOrderedEquations$Actives;", true)
  | 6 => ("OrderedEquations", "overlap", "LOrderedEquations$Overlap;", true)
  | 7 => ("OrderedEquations", "lost", "I", false)
  | 8 => ("OrderedEquations", "target", "LOrderedEquations$Equation;", true)
  | 9 => ("OrderedEquations", "hasTarget", "Z", false)
  | 10 => ("OrderedEquations", "read", "LOrderedEquations$Equation;", true)
  | 11 => ("OrderedEquations", "taken", "LOrderedEquations$Equation;", true)
  | 12 => ("OrderedEquations", "turned", "LOrderedEquations$Equation;", true)
  | _ => ("OrderedEquations", "names", "[I", true)
def oe_T1 : u_T := fun k => match k with
  | 0 => ("OrderedEquations$Actives", "rows", "[LOrderedEquations$Equation;", true)
  | 1 => ("OrderedEquations$Actives", "number", "I", false)
  | 2 => ("OrderedEquations$Actives", "binds", "[Z", true)
  | 3 => ("OrderedEquations$Actives", "boundAt", "[I", true)
  | _ => ("OrderedEquations$Actives", "replacement", "LOrderedEquations$Letters;", true)
def oe_T2 : u_T := fun k => match k with
  | 0 => ("OrderedEquations$Equation", "left", "LOrderedEquations$Letters;", true)
  | _ => ("OrderedEquations$Equation", "right", "LOrderedEquations$Letters;", true)
def oe_T3 : u_T := fun k => match k with
  | 0 => ("OrderedEquations$Letters", "codes", "[I", true)
  | 1 => ("OrderedEquations$Letters", "ends", "[I", true)
  | _ => ("OrderedEquations$Letters", "weight", "I", false)
def oe_T4 : u_T := fun k => match k with
  | 0 => ("OrderedEquations$Overlap", "unifier", "LOrderedEquations$Unifier;", true)
  | 1 => ("OrderedEquations$Overlap", "pair", "LOrderedEquations$Equation;", true)
  | _ => ("OrderedEquations$Overlap", "used", "LOrderedEquations$Equation;", true)
def oe_T5 : u_T := fun k => match k with
  | 0 => ("OrderedEquations$Unifier", "row", "LOrderedEquations$Letters;", true)
  | 1 => ("OrderedEquations$Unifier", "values", "[I", true)
  | 2 => ("OrderedEquations$Unifier", "firsts", "[I", true)
  | 3 => ("OrderedEquations$Unifier", "seconds", "[I", true)
  | 4 => ("OrderedEquations$Unifier", "pairs", "I", false)
  | 5 => ("OrderedEquations$Unifier", "made", "LOrderedEquations$Letters;", true)
  | 6 => ("OrderedEquations$Unifier", "nexts", "[I", true)
  | _ => ("OrderedEquations$Unifier", "stops", "[I", true)
def oe_T6 : u_T := fun k => match k with
  | 0 => ("OrderedEquations$Waiting", "rows", "[LOrderedEquations$Equation;", true)
  | _ => ("OrderedEquations$Waiting", "number", "I", false)
def oe_T7 : u_T := fun k => match k with
  | 0 => ("OrderedEquationsModel", "fault", "I", false)
  | 1 => ("OrderedEquationsModel", "typed", "I", false)
  | 2 => ("OrderedEquationsModel", "text", "[I", true)
  | 3 => ("OrderedEquationsModel", "written", "I", false)
  | 4 => ("OrderedEquationsModel", "page", "[I", true)
  | 5 => ("OrderedEquationsModel", "told", "[I", true)
  | 6 => ("OrderedEquationsModel", "toldLeft", "I", false)
  | 7 => ("OrderedEquationsModel", "toldAll", "I", false)
  | 8 => ("OrderedEquationsModel", "waiting", "I", false)
  | 9 => ("OrderedEquationsModel", "waits", "[I", true)
  | 10 => ("OrderedEquationsModel", "waitLeft", "[I", true)
  | 11 => ("OrderedEquationsModel", "waitAll", "[I", true)
  | 12 => ("OrderedEquationsModel", "active", "I", false)
  | 13 => ("OrderedEquationsModel", "acts", "[I", true)
  | 14 => ("OrderedEquationsModel", "actLeft", "[I", true)
  | 15 => ("OrderedEquationsModel", "actAll", "[I", true)
  | 16 => ("OrderedEquationsModel", "lost", "I", false)
  | 17 => ("OrderedEquationsModel", "hasGoal", "Z", false)
  | 18 => ("OrderedEquationsModel", "side", "[I", true)
  | 19 => ("OrderedEquationsModel", "sideLength", "[I", true)
  | 20 => ("OrderedEquationsModel", "newName", "[I", true)
  | 21 => ("OrderedEquationsModel", "first", "[I", true)
  | 22 => ("OrderedEquationsModel", "firstLength", "I", false)
  | 23 => ("OrderedEquationsModel", "second", "[I", true)
  | 24 => ("OrderedEquationsModel", "secondLength", "I", false)
  | 25 => ("OrderedEquationsModel", "firstEnd", "[I", true)
  | 26 => ("OrderedEquationsModel", "secondEnd", "[I", true)
  | 27 => ("OrderedEquationsModel", "above", "[Z", true)
  | 28 => ("OrderedEquationsModel", "term", "[I", true)
  | 29 => ("OrderedEquationsModel", "termLength", "I", false)
  | 30 => ("OrderedEquationsModel", "boundAt", "[I", true)
  | 31 => ("OrderedEquationsModel", "boundLength", "[I", true)
  | 32 => ("OrderedEquationsModel", "becomes", "[I", true)
  | 33 => ("OrderedEquationsModel", "becomesLength", "I", false)
  | 34 => ("OrderedEquationsModel", "row", "[I", true)
  | 35 => ("OrderedEquationsModel", "valueAt", "[I", true)
  | 36 => ("OrderedEquationsModel", "pairs", "I", false)
  | 37 => ("OrderedEquationsModel", "pairOne", "[I", true)
  | 38 => ("OrderedEquationsModel", "pairTwo", "[I", true)
  | 39 => ("OrderedEquationsModel", "out", "[I", true)
  | 40 => ("OrderedEquationsModel", "outLength", "I", false)
  | 41 => ("OrderedEquationsModel", "goFrom", "[I", true)
  | 42 => ("OrderedEquationsModel", "goTo", "[I", true)
  | 43 => ("OrderedEquationsModel", "instance", "[I", true)
  | _ => ("OrderedEquationsModel", "instanceLength", "[I", true)
def oe_cl : List vw_C := [("OrderedEquations", oe_T0, 14), ("OrderedEquations$Actives", oe_T1, 5), ("OrderedEquations$Equation", oe_T2, 2), ("OrderedEquations$Letters", oe_T3, 3), ("OrderedEquations$Overlap", oe_T4, 3), ("OrderedEquations$Unifier", oe_T5, 8), ("OrderedEquations$Waiting", oe_T6, 2), ("OrderedEquationsModel", oe_T7, 45)]
def oe_nf (c : Nat) : Nat := match c with
  | 0 => 14
  | 1 => 5
  | 2 => 2
  | 3 => 3
  | 4 => 3
  | 5 => 8
  | 6 => 2
  | 7 => 45
  | _ => 0
def oe_fkl (c : Nat) : List Nat := match c with
  | 0 => [1, 0, 1, 0, 1, 1, 1, 0, 1, 2, 1, 1, 1, 1]
  | 1 => [1, 0, 1, 1, 1]
  | 2 => [1, 1]
  | 3 => [1, 1, 0]
  | 4 => [1, 1, 1]
  | 5 => [1, 1, 1, 1, 0, 1, 1, 1]
  | 6 => [1, 0]
  | 7 => [0, 0, 1, 0, 1, 1, 0, 0, 0, 1, 1, 1, 0, 1, 1, 1, 0, 2, 1, 1, 1, 1, 0, 1, 0, 1, 1, 1, 1, 0, 1, 1, 1, 0, 1, 1, 0, 1, 1, 1, 0, 1, 1, 1, 1]
  | _ => []
def oe_fk (c k : Nat) : Nat := (oe_fkl c).getD k 0
def oe_tyl (c : Nat) : List FieldType := match c with
  | 0 => [.array .char, .int, .array .char, .int, .object "OrderedEquations$Waiting", .object "OrderedEquations$Actives", .object "OrderedEquations$Overlap", .int, .object "OrderedEquations$Equation", .boolean, .object "OrderedEquations$Equation", .object "OrderedEquations$Equation", .object "OrderedEquations$Equation", .array .int]
  | 1 => [.array (.object "OrderedEquations$Equation"), .int, .array .boolean, .array .int, .object "OrderedEquations$Letters"]
  | 2 => [.object "OrderedEquations$Letters", .object "OrderedEquations$Letters"]
  | 3 => [.array .int, .array .int, .int]
  | 4 => [.object "OrderedEquations$Unifier", .object "OrderedEquations$Equation", .object "OrderedEquations$Equation"]
  | 5 => [.object "OrderedEquations$Letters", .array .int, .array .int, .array .int, .int, .object "OrderedEquations$Letters", .array .int, .array .int]
  | 6 => [.array (.object "OrderedEquations$Equation"), .int]
  | 7 => [.int, .int, .array .int, .int, .array .int, .array .int, .int, .int, .int, .array .int, .array .int, .array .int, .int, .array .int, .array .int, .array .int, .int, .boolean, .array .int, .array .int, .array .int, .array .int, .int, .array .int, .int, .array .int, .array .int, .array .boolean, .array .int, .int, .array .int, .array .int, .array .int, .int, .array .int, .array .int, .int, .array .int, .array .int, .array .int, .int, .array .int, .array .int, .array .int, .array .int]
  | _ => []
def oe_ty (c k : Nat) : FieldType := (oe_tyl c).getD k .int
def oe_eqc : Nat := 2
def oe_eqn : String := "OrderedEquations$Equation"
def oe_y (j : Nat) : MethodName := match j with
  | 2 => ⟨"OrderedEquations", "<init>", "()V"⟩
  | 3 => ⟨"OrderedEquations", "type", "(C)Z"⟩
  | 4 => ⟨"OrderedEquations", "wipe", "()I"⟩
  | 5 => ⟨"OrderedEquations", "axiom", "()I"⟩
  | 6 => ⟨"OrderedEquations", "goal", "()I"⟩
  | 7 => ⟨"OrderedEquations", "step", "()I"⟩
  | 8 => ⟨"OrderedEquations", "steps", "(I)I"⟩
  | 9 => ⟨"OrderedEquations", "count", "(I)I"⟩
  | 10 => ⟨"OrderedEquations", "show", "(II)I"⟩
  | 11 => ⟨"OrderedEquations", "compare", "()I"⟩
  | 12 => ⟨"OrderedEquations", "unify", "()I"⟩
  | 13 => ⟨"OrderedEquations", "reduce", "()I"⟩
  | 14 => ⟨"OrderedEquations", "length", "()I"⟩
  | 15 => ⟨"OrderedEquations", "charAt", "(I)C"⟩
  | 16 => ⟨"OrderedEquations", "isVariable", "(I)Z"⟩
  | 17 => ⟨"OrderedEquations", "argumentsOf", "(I)I"⟩
  | 18 => ⟨"OrderedEquations", "readText", "(ZZ)I"⟩
  | 19 => ⟨"OrderedEquations", "write", "(LOrderedEquations$Letters;)V"⟩
  | 20 => ⟨"OrderedEquations", "equationAt", "(II)LOrderedEquations$Equation;"⟩
  | 21 => ⟨"OrderedEquations", "isProved", "()Z"⟩
  | 22 => ⟨"OrderedEquations", "lower", "(LOrderedEquations$Equation;)V"⟩
  | 23 => ⟨"OrderedEquations", "takeStep", "()I"⟩
  | 24 => ⟨"OrderedEquations", "nameBothWays", "(LOrderedEquations$Equation;)I"⟩
  | 25 => ⟨"OrderedEquations", "hasAlike", "([LOrderedEquations$Equation;ILOrderedEquations$Equation;)Z"⟩
  | 26 => ⟨"OrderedEquations", "overlapAll", "(I)V"⟩
  | 27 => ⟨"OrderedEquations", "keep", "(I)V"⟩
  | 28 => ⟨"OrderedEquationsModel", "<init>", "()V"⟩
  | 29 => ⟨"OrderedEquationsModel", "thrown", "()I"⟩
  | 30 => ⟨"OrderedEquationsModel", "type", "(C)Z"⟩
  | 31 => ⟨"OrderedEquationsModel", "wipe", "()I"⟩
  | 32 => ⟨"OrderedEquationsModel", "letterOf", "(I)I"⟩
  | 33 => ⟨"OrderedEquationsModel", "characterOf", "(I)I"⟩
  | 34 => ⟨"OrderedEquationsModel", "arguments", "(I)I"⟩
  | 35 => ⟨"OrderedEquationsModel", "isVariable", "(I)Z"⟩
  | 36 => ⟨"OrderedEquationsModel", "read", "(I)I"⟩
  | 37 => ⟨"OrderedEquationsModel", "isSameSub", "(II)Z"⟩
  | 38 => ⟨"OrderedEquationsModel", "isArgumentEnough", "(II)Z"⟩
  | 39 => ⟨"OrderedEquationsModel", "isAboveArguments", "(II)Z"⟩
  | 40 => ⟨"OrderedEquationsModel", "isAboveInTurn", "(II)Z"⟩
  | 41 => ⟨"OrderedEquationsModel", "isAbove", "(II)Z"⟩
  | 42 => ⟨"OrderedEquationsModel", "isGreater", "()Z"⟩
  | 43 => ⟨"OrderedEquationsModel", "behindInTerm", "(I)I"⟩
  | 44 => ⟨"OrderedEquationsModel", "matches", "(III)Z"⟩
  | 45 => ⟨"OrderedEquationsModel", "isSamePart", "(IIII)Z"⟩
  | 46 => ⟨"OrderedEquationsModel", "follows", "(III)Z"⟩
  | 47 => ⟨"OrderedEquationsModel", "isReplaced", "(II)Z"⟩
  | 48 => ⟨"OrderedEquationsModel", "replace", "(II)V"⟩
  | 49 => ⟨"OrderedEquationsModel", "once", "()Z"⟩
  | 50 => ⟨"OrderedEquationsModel", "reduceTerm", "()I"⟩
  | 51 => ⟨"OrderedEquationsModel", "reduceSide", "(I)V"⟩
  | 52 => ⟨"OrderedEquationsModel", "isSameSide", "(II)Z"⟩
  | 53 => ⟨"OrderedEquationsModel", "nameAs", "(II)I"⟩
  | 54 => ⟨"OrderedEquationsModel", "namePair", "()I"⟩
  | 55 => ⟨"OrderedEquationsModel", "isIn", "([IIIIII)Z"⟩
  | 56 => ⟨"OrderedEquationsModel", "isKnown", "(Z)Z"⟩
  | 57 => ⟨"OrderedEquationsModel", "await", "()V"⟩
  | 58 => ⟨"OrderedEquationsModel", "seen", "(I)I"⟩
  | 59 => ⟨"OrderedEquationsModel", "behindInRow", "(I)I"⟩
  | 60 => ⟨"OrderedEquationsModel", "putIn", "(III)Z"⟩
  | 61 => ⟨"OrderedEquationsModel", "give", "(II)Z"⟩
  | 62 => ⟨"OrderedEquationsModel", "isUnified", "(II)Z"⟩
  | 63 => ⟨"OrderedEquationsModel", "takeDown", "(III)Z"⟩
  | 64 => ⟨"OrderedEquationsModel", "isNotLess", "(II)Z"⟩
  | 65 => ⟨"OrderedEquationsModel", "overlap", "(IIZZI)V"⟩
  | 66 => ⟨"OrderedEquationsModel", "newPair", "()V"⟩
  | 67 => ⟨"OrderedEquationsModel", "overlaps", "(II)V"⟩
  | 68 => ⟨"OrderedEquationsModel", "isProved", "()Z"⟩
  | 69 => ⟨"OrderedEquationsModel", "reduceGoal", "()V"⟩
  | 70 => ⟨"OrderedEquationsModel", "takeLightest", "()V"⟩
  | 71 => ⟨"OrderedEquationsModel", "one", "()I"⟩
  | 72 => ⟨"OrderedEquationsModel", "takeSides", "(I)V"⟩
  | 73 => ⟨"OrderedEquationsModel", "axiom", "()I"⟩
  | 74 => ⟨"OrderedEquationsModel", "goal", "()I"⟩
  | 75 => ⟨"OrderedEquationsModel", "step", "()I"⟩
  | 76 => ⟨"OrderedEquationsModel", "steps", "(I)I"⟩
  | 77 => ⟨"OrderedEquationsModel", "count", "(I)I"⟩
  | 78 => ⟨"OrderedEquationsModel", "put", "(I)V"⟩
  | 79 => ⟨"OrderedEquationsModel", "show", "(II)I"⟩
  | 80 => ⟨"OrderedEquationsModel", "compare", "()I"⟩
  | 81 => ⟨"OrderedEquationsModel", "unify", "()I"⟩
  | 82 => ⟨"OrderedEquationsModel", "reduce", "()I"⟩
  | 83 => ⟨"OrderedEquationsModel", "length", "()I"⟩
  | 84 => ⟨"OrderedEquationsModel", "charAt", "(I)C"⟩
  | 85 => ⟨"OrderedEquations$Actives", "<init>", "()V"⟩
  | 86 => ⟨"OrderedEquations$Actives", "isFull", "()Z"⟩
  | 87 => ⟨"OrderedEquations$Actives", "append", "(LOrderedEquations$Equation;)V"⟩
  | 88 => ⟨"OrderedEquations$Actives", "lower", "(LOrderedEquations$Letters;)I"⟩
  | 89 => ⟨"OrderedEquations$Actives", "replaceAt", "(LOrderedEquations$Letters;I)Z"⟩
  | 90 => ⟨"OrderedEquations$Actives", "matches", "(LOrderedEquations$Letters;LOrderedEquations$Letters;I)Z"⟩
  | 91 => ⟨"OrderedEquations$Actives", "fill", "(LOrderedEquations$Letters;LOrderedEquations$Letters;I)Z"⟩
  | 92 => ⟨"OrderedEquations$Equation", "<init>", "(I)V"⟩
  | 93 => ⟨"OrderedEquations$Equation", "side", "(I)LOrderedEquations$Letters;"⟩
  | 94 => ⟨"OrderedEquations$Equation", "weight", "()I"⟩
  | 95 => ⟨"OrderedEquations$Equation", "become", "(LOrderedEquations$Letters;LOrderedEquations$Letters;)V"⟩
  | 96 => ⟨"OrderedEquations$Equation", "sidesAreSame", "()Z"⟩
  | 97 => ⟨"OrderedEquations$Equation", "isSameAs", "(LOrderedEquations$Equation;)Z"⟩
  | 98 => ⟨"OrderedEquations$Equation", "nameVariables", "([I)I"⟩
  | 99 => ⟨"OrderedEquations$Letters", "<init>", "(I)V"⟩
  | 100 => ⟨"OrderedEquations$Letters", "empty", "()V"⟩
  | 101 => ⟨"OrderedEquations$Letters", "append", "(I)V"⟩
  | 102 => ⟨"OrderedEquations$Letters", "appendAll", "(LOrderedEquations$Letters;I)V"⟩
  | 103 => ⟨"OrderedEquations$Letters", "close", "()V"⟩
  | 104 => ⟨"OrderedEquations$Letters", "become", "(LOrderedEquations$Letters;)V"⟩
  | 105 => ⟨"OrderedEquations$Letters", "replace", "(ILOrderedEquations$Letters;)V"⟩
  | 106 => ⟨"OrderedEquations$Letters", "holds", "(III)Z"⟩
  | 107 => ⟨"OrderedEquations$Letters", "holdsVariablesOf", "(LOrderedEquations$Letters;)Z"⟩
  | 108 => ⟨"OrderedEquations$Letters", "rename", "([II)I"⟩
  | 109 => ⟨"OrderedEquations$Letters", "isSame", "(LOrderedEquations$Letters;ILOrderedEquations$Letters;I)Z"⟩
  | 110 => ⟨"OrderedEquations$Letters", "isGreater", "(LOrderedEquations$Letters;ILOrderedEquations$Letters;II)Z"⟩
  | 111 => ⟨"OrderedEquations$Overlap", "<init>", "()V"⟩
  | 112 => ⟨"OrderedEquations$Overlap", "workOut", "(LOrderedEquations$Equation;ILOrderedEquations$Equation;II)I"⟩
  | 113 => ⟨"OrderedEquations$Overlap", "isRightAtLeastLeft", "(LOrderedEquations$Equation;)Z"⟩
  | 114 => ⟨"OrderedEquations$Unifier", "<init>", "()V"⟩
  | 115 => ⟨"OrderedEquations$Unifier", "forget", "()V"⟩
  | 116 => ⟨"OrderedEquations$Unifier", "load", "(LOrderedEquations$Letters;I)I"⟩
  | 117 => ⟨"OrderedEquations$Unifier", "solve", "(II)Z"⟩
  | 118 => ⟨"OrderedEquations$Unifier", "push", "(II)V"⟩
  | 119 => ⟨"OrderedEquations$Unifier", "pushArguments", "(III)V"⟩
  | 120 => ⟨"OrderedEquations$Unifier", "look", "(I)I"⟩
  | 121 => ⟨"OrderedEquations$Unifier", "give", "(II)Z"⟩
  | 122 => ⟨"OrderedEquations$Unifier", "weightBefore", "(II)I"⟩
  | 123 => ⟨"OrderedEquations$Unifier", "writeInstance", "(ILOrderedEquations$Letters;I)Z"⟩
  | 124 => ⟨"OrderedEquations$Unifier", "expand", "(III)Z"⟩
  | 125 => ⟨"OrderedEquations$Waiting", "<init>", "()V"⟩
  | 126 => ⟨"OrderedEquations$Waiting", "isFull", "()Z"⟩
  | 127 => ⟨"OrderedEquations$Waiting", "append", "(LOrderedEquations$Equation;)V"⟩
  | 128 => ⟨"OrderedEquations$Waiting", "removeLightest", "(LOrderedEquations$Equation;)V"⟩
  | 129 => ⟨"java/util/Arrays", "fill", "([II)V"⟩
  | 130 => ⟨"OrderedEquationsLaw", "law", "([I)Z"⟩
  | 900 => ⟨"OrderedEquations", "codeOf", "(C)I"⟩
  | 901 => ⟨"OrderedEquations", "letterOf", "(I)C"⟩
  | _ => ⟨"OrderedEquations", "", ""⟩
def oe_by (j : Nat) : ByteArray := match j with
  | 2 => prog_1_method_1_code
  | 3 => prog_1_method_2_code
  | 4 => prog_1_method_3_code
  | 5 => prog_1_method_4_code
  | 6 => prog_1_method_5_code
  | 7 => prog_1_method_6_code
  | 8 => prog_1_method_7_code
  | 9 => prog_1_method_8_code
  | 10 => prog_1_method_9_code
  | 11 => prog_1_method_10_code
  | 12 => prog_1_method_11_code
  | 13 => prog_1_method_12_code
  | 14 => prog_1_method_13_code
  | 15 => prog_1_method_14_code
  | 16 => prog_1_method_15_code
  | 17 => prog_1_method_16_code
  | 18 => prog_1_method_19_code
  | 19 => prog_1_method_20_code
  | 20 => prog_1_method_21_code
  | 21 => prog_1_method_22_code
  | 22 => prog_1_method_23_code
  | 23 => prog_1_method_24_code
  | 24 => prog_1_method_25_code
  | 25 => prog_1_method_26_code
  | 26 => prog_1_method_27_code
  | 27 => prog_1_method_28_code
  | 28 => prog_9_method_1_code
  | 29 => prog_9_method_2_code
  | 30 => prog_9_method_3_code
  | 31 => prog_9_method_4_code
  | 32 => prog_9_method_5_code
  | 33 => prog_9_method_6_code
  | 34 => prog_9_method_7_code
  | 35 => prog_9_method_8_code
  | 36 => prog_9_method_9_code
  | 37 => prog_9_method_10_code
  | 38 => prog_9_method_11_code
  | 39 => prog_9_method_12_code
  | 40 => prog_9_method_13_code
  | 41 => prog_9_method_14_code
  | 42 => prog_9_method_15_code
  | 43 => prog_9_method_16_code
  | 44 => prog_9_method_17_code
  | 45 => prog_9_method_18_code
  | 46 => prog_9_method_19_code
  | 47 => prog_9_method_20_code
  | 48 => prog_9_method_21_code
  | 49 => prog_9_method_22_code
  | 50 => prog_9_method_23_code
  | 51 => prog_9_method_24_code
  | 52 => prog_9_method_25_code
  | 53 => prog_9_method_26_code
  | 54 => prog_9_method_27_code
  | 55 => prog_9_method_28_code
  | 56 => prog_9_method_29_code
  | 57 => prog_9_method_30_code
  | 58 => prog_9_method_31_code
  | 59 => prog_9_method_32_code
  | 60 => prog_9_method_33_code
  | 61 => prog_9_method_34_code
  | 62 => prog_9_method_35_code
  | 63 => prog_9_method_36_code
  | 64 => prog_9_method_37_code
  | 65 => prog_9_method_38_code
  | 66 => prog_9_method_39_code
  | 67 => prog_9_method_40_code
  | 68 => prog_9_method_41_code
  | 69 => prog_9_method_42_code
  | 70 => prog_9_method_43_code
  | 71 => prog_9_method_44_code
  | 72 => prog_9_method_45_code
  | 73 => prog_9_method_46_code
  | 74 => prog_9_method_47_code
  | 75 => prog_9_method_48_code
  | 76 => prog_9_method_49_code
  | 77 => prog_9_method_50_code
  | 78 => prog_9_method_51_code
  | 79 => prog_9_method_52_code
  | 80 => prog_9_method_53_code
  | 81 => prog_9_method_54_code
  | 82 => prog_9_method_55_code
  | 83 => prog_9_method_56_code
  | 84 => prog_9_method_57_code
  | 85 => prog_2_method_1_code
  | 86 => prog_2_method_2_code
  | 87 => prog_2_method_3_code
  | 88 => prog_2_method_4_code
  | 89 => prog_2_method_5_code
  | 90 => prog_2_method_6_code
  | 91 => prog_2_method_7_code
  | 92 => prog_3_method_1_code
  | 93 => prog_3_method_2_code
  | 94 => prog_3_method_3_code
  | 95 => prog_3_method_4_code
  | 96 => prog_3_method_5_code
  | 97 => prog_3_method_6_code
  | 98 => prog_3_method_7_code
  | 99 => prog_4_method_1_code
  | 100 => prog_4_method_2_code
  | 101 => prog_4_method_3_code
  | 102 => prog_4_method_4_code
  | 103 => prog_4_method_5_code
  | 104 => prog_4_method_6_code
  | 105 => prog_4_method_7_code
  | 106 => prog_4_method_8_code
  | 107 => prog_4_method_9_code
  | 108 => prog_4_method_10_code
  | 109 => prog_4_method_11_code
  | 110 => prog_4_method_12_code
  | 111 => prog_5_method_1_code
  | 112 => prog_5_method_2_code
  | 113 => prog_5_method_3_code
  | 114 => prog_6_method_1_code
  | 115 => prog_6_method_2_code
  | 116 => prog_6_method_3_code
  | 117 => prog_6_method_4_code
  | 118 => prog_6_method_5_code
  | 119 => prog_6_method_6_code
  | 120 => prog_6_method_7_code
  | 121 => prog_6_method_8_code
  | 122 => prog_6_method_9_code
  | 123 => prog_6_method_10_code
  | 124 => prog_6_method_11_code
  | 125 => prog_7_method_1_code
  | 126 => prog_7_method_2_code
  | 127 => prog_7_method_3_code
  | 128 => prog_7_method_4_code
  | 129 => prog_22_method_103_code
  | 130 => code
  | 900 => prog_1_method_17_code
  | 901 => prog_1_method_18_code
  | _ => code
def oe_ml (j : Nat) : Nat := match j with
  | 2 => 1
  | 3 => 2
  | 4 => 2
  | 5 => 2
  | 6 => 2
  | 7 => 1
  | 8 => 4
  | 9 => 2
  | 10 => 4
  | 11 => 2
  | 12 => 5
  | 13 => 3
  | 14 => 1
  | 15 => 2
  | 16 => 1
  | 17 => 1
  | 18 => 8
  | 19 => 3
  | 20 => 4
  | 21 => 1
  | 22 => 2
  | 23 => 1
  | 24 => 3
  | 25 => 5
  | 26 => 12
  | 27 => 4
  | 28 => 1
  | 29 => 1
  | 30 => 2
  | 31 => 2
  | 32 => 1
  | 33 => 1
  | 34 => 1
  | 35 => 1
  | 36 => 7
  | 37 => 5
  | 38 => 6
  | 39 => 6
  | 40 => 6
  | 41 => 7
  | 42 => 4
  | 43 => 4
  | 44 => 8
  | 45 => 7
  | 46 => 8
  | 47 => 4
  | 48 => 6
  | 49 => 10
  | 50 => 2
  | 51 => 3
  | 52 => 5
  | 53 => 8
  | 54 => 3
  | 55 => 9
  | 56 => 4
  | 57 => 2
  | 58 => 3
  | 59 => 4
  | 60 => 6
  | 61 => 5
  | 62 => 7
  | 63 => 6
  | 64 => 5
  | 65 => 18
  | 66 => 1
  | 67 => 10
  | 68 => 1
  | 69 => 1
  | 70 => 4
  | 71 => 2
  | 72 => 3
  | 73 => 2
  | 74 => 2
  | 75 => 1
  | 76 => 4
  | 77 => 2
  | 78 => 2
  | 79 => 7
  | 80 => 7
  | 81 => 3
  | 82 => 4
  | 83 => 1
  | 84 => 2
  | 85 => 2
  | 86 => 1
  | 87 => 3
  | 88 => 5
  | 89 => 6
  | 90 => 7
  | 91 => 9
  | 92 => 2
  | 93 => 2
  | 94 => 1
  | 95 => 3
  | 96 => 1
  | 97 => 2
  | 98 => 2
  | 99 => 2
  | 100 => 1
  | 101 => 2
  | 102 => 5
  | 103 => 3
  | 104 => 2
  | 105 => 5
  | 106 => 5
  | 107 => 3
  | 108 => 6
  | 109 => 6
  | 110 => 12
  | 111 => 1
  | 112 => 10
  | 113 => 2
  | 114 => 1
  | 115 => 1
  | 116 => 4
  | 117 => 8
  | 118 => 3
  | 119 => 4
  | 120 => 5
  | 121 => 3
  | 122 => 3
  | 123 => 4
  | 124 => 8
  | 125 => 2
  | 126 => 1
  | 127 => 2
  | 128 => 5
  | 129 => 4
  | 130 => 7
  | 900 => 3
  | 901 => 1
  | _ => 0
def oe_ret (j : Nat) : Option FieldType := match j with
  | 2 => none
  | 3 => some (.boolean)
  | 4 => some (.int)
  | 5 => some (.int)
  | 6 => some (.int)
  | 7 => some (.int)
  | 8 => some (.int)
  | 9 => some (.int)
  | 10 => some (.int)
  | 11 => some (.int)
  | 12 => some (.int)
  | 13 => some (.int)
  | 14 => some (.int)
  | 15 => some (.char)
  | 16 => some (.boolean)
  | 17 => some (.int)
  | 18 => some (.int)
  | 19 => none
  | 20 => some (.object "OrderedEquations$Equation")
  | 21 => some (.boolean)
  | 22 => none
  | 23 => some (.int)
  | 24 => some (.int)
  | 25 => some (.boolean)
  | 26 => none
  | 27 => none
  | 28 => none
  | 29 => some (.int)
  | 30 => some (.boolean)
  | 31 => some (.int)
  | 32 => some (.int)
  | 33 => some (.int)
  | 34 => some (.int)
  | 35 => some (.boolean)
  | 36 => some (.int)
  | 37 => some (.boolean)
  | 38 => some (.boolean)
  | 39 => some (.boolean)
  | 40 => some (.boolean)
  | 41 => some (.boolean)
  | 42 => some (.boolean)
  | 43 => some (.int)
  | 44 => some (.boolean)
  | 45 => some (.boolean)
  | 46 => some (.boolean)
  | 47 => some (.boolean)
  | 48 => none
  | 49 => some (.boolean)
  | 50 => some (.int)
  | 51 => none
  | 52 => some (.boolean)
  | 53 => some (.int)
  | 54 => some (.int)
  | 55 => some (.boolean)
  | 56 => some (.boolean)
  | 57 => none
  | 58 => some (.int)
  | 59 => some (.int)
  | 60 => some (.boolean)
  | 61 => some (.boolean)
  | 62 => some (.boolean)
  | 63 => some (.boolean)
  | 64 => some (.boolean)
  | 65 => none
  | 66 => none
  | 67 => none
  | 68 => some (.boolean)
  | 69 => none
  | 70 => none
  | 71 => some (.int)
  | 72 => none
  | 73 => some (.int)
  | 74 => some (.int)
  | 75 => some (.int)
  | 76 => some (.int)
  | 77 => some (.int)
  | 78 => none
  | 79 => some (.int)
  | 80 => some (.int)
  | 81 => some (.int)
  | 82 => some (.int)
  | 83 => some (.int)
  | 84 => some (.char)
  | 85 => none
  | 86 => some (.boolean)
  | 87 => none
  | 88 => some (.int)
  | 89 => some (.boolean)
  | 90 => some (.boolean)
  | 91 => some (.boolean)
  | 92 => none
  | 93 => some (.object "OrderedEquations$Letters")
  | 94 => some (.int)
  | 95 => none
  | 96 => some (.boolean)
  | 97 => some (.boolean)
  | 98 => some (.int)
  | 99 => none
  | 100 => none
  | 101 => none
  | 102 => none
  | 103 => none
  | 104 => none
  | 105 => none
  | 106 => some (.boolean)
  | 107 => some (.boolean)
  | 108 => some (.int)
  | 109 => some (.boolean)
  | 110 => some (.boolean)
  | 111 => none
  | 112 => some (.int)
  | 113 => some (.boolean)
  | 114 => none
  | 115 => none
  | 116 => some (.int)
  | 117 => some (.boolean)
  | 118 => none
  | 119 => none
  | 120 => some (.int)
  | 121 => some (.boolean)
  | 122 => some (.int)
  | 123 => some (.boolean)
  | 124 => some (.boolean)
  | 125 => none
  | 126 => some (.boolean)
  | 127 => none
  | 128 => none
  | 129 => none
  | 130 => some (.boolean)
  | 900 => some (.int)
  | 901 => some (.char)
  | _ => none
def oe_rt (j : Nat) : Nat := match j with
  | 2 => 0
  | 3 => 2
  | 4 => 1
  | 5 => 1
  | 6 => 1
  | 7 => 1
  | 8 => 1
  | 9 => 1
  | 10 => 1
  | 11 => 1
  | 12 => 1
  | 13 => 1
  | 14 => 1
  | 15 => 3
  | 16 => 2
  | 17 => 1
  | 18 => 1
  | 19 => 0
  | 20 => 4
  | 21 => 2
  | 22 => 0
  | 23 => 1
  | 24 => 1
  | 25 => 2
  | 26 => 0
  | 27 => 0
  | 28 => 0
  | 29 => 1
  | 30 => 2
  | 31 => 1
  | 32 => 1
  | 33 => 1
  | 34 => 1
  | 35 => 2
  | 36 => 1
  | 37 => 2
  | 38 => 2
  | 39 => 2
  | 40 => 2
  | 41 => 2
  | 42 => 2
  | 43 => 1
  | 44 => 2
  | 45 => 2
  | 46 => 2
  | 47 => 2
  | 48 => 0
  | 49 => 2
  | 50 => 1
  | 51 => 0
  | 52 => 2
  | 53 => 1
  | 54 => 1
  | 55 => 2
  | 56 => 2
  | 57 => 0
  | 58 => 1
  | 59 => 1
  | 60 => 2
  | 61 => 2
  | 62 => 2
  | 63 => 2
  | 64 => 2
  | 65 => 0
  | 66 => 0
  | 67 => 0
  | 68 => 2
  | 69 => 0
  | 70 => 0
  | 71 => 1
  | 72 => 0
  | 73 => 1
  | 74 => 1
  | 75 => 1
  | 76 => 1
  | 77 => 1
  | 78 => 0
  | 79 => 1
  | 80 => 1
  | 81 => 1
  | 82 => 1
  | 83 => 1
  | 84 => 3
  | 85 => 0
  | 86 => 2
  | 87 => 0
  | 88 => 1
  | 89 => 2
  | 90 => 2
  | 91 => 2
  | 92 => 0
  | 93 => 4
  | 94 => 1
  | 95 => 0
  | 96 => 2
  | 97 => 2
  | 98 => 1
  | 99 => 0
  | 100 => 0
  | 101 => 0
  | 102 => 0
  | 103 => 0
  | 104 => 0
  | 105 => 0
  | 106 => 2
  | 107 => 2
  | 108 => 1
  | 109 => 2
  | 110 => 2
  | 111 => 0
  | 112 => 1
  | 113 => 2
  | 114 => 0
  | 115 => 0
  | 116 => 1
  | 117 => 2
  | 118 => 0
  | 119 => 0
  | 120 => 1
  | 121 => 2
  | 122 => 1
  | 123 => 2
  | 124 => 2
  | 125 => 0
  | 126 => 2
  | 127 => 0
  | 128 => 0
  | 129 => 0
  | 130 => 2
  | 900 => 1
  | 901 => 3
  | _ => 5
def oe_ow (j : Nat) : String := (oe_y j).cls
def oe_ini (j : Nat) : Bool := (oe_y j).name == "<init>"
def oe_cost (j : Nat) : Nat × Nat := match j with
  | 2 => (347, 65517)
  | 28 => (60, 7000)
  | 85 => (76, 12725)
  | 92 => (6, 1206)
  | 99 => (2, 600)
  | 111 => (26, 4272)
  | 114 => (11, 1848)
  | 125 => (211, 36270)
  | _ => (0, 0)
def oe_c2 : List (Nat × Jvm.ClassFile.Instr × Nat) := [(0, .aload_n 0, 1), (1, .invokespecial 0, 3), (4, .aload_n 0, 1), (5, .bipush 60, 2), (7, .newarray .char, 2), (9, .putfield 1, 3), (12, .aload_n 0, 1), (13, .iconst 0, 1), (14, .putfield 10, 3), (17, .aload_n 0, 1), (18, .bipush 61, 2), (20, .newarray .char, 2), (22, .putfield 21, 3), (25, .aload_n 0, 1), (26, .iconst 0, 1), (27, .putfield 30, 3), (30, .aload_n 0, 1), (31, .new 6, 3), (34, .dup, 1), (35, .invokespecial 125060, 3), (38, .putfield 41, 3), (41, .aload_n 0, 1), (42, .new 1, 3), (45, .dup, 1), (46, .invokespecial 85010, 3), (49, .putfield 51, 3), (52, .aload_n 0, 1), (53, .new 4, 3), (56, .dup, 1), (57, .invokespecial 111040, 3), (60, .putfield 61, 3), (63, .aload_n 0, 1), (64, .iconst 0, 1), (65, .putfield 70, 3), (68, .aload_n 0, 1), (69, .new 2, 3), (72, .dup, 1), (73, .bipush 30, 2), (75, .invokespecial 92021, 3), (78, .putfield 81, 3), (81, .aload_n 0, 1), (82, .iconst 0, 1), (83, .putfield 92, 3), (86, .aload_n 0, 1), (87, .new 2, 3), (90, .dup, 1), (91, .bipush 60, 2), (93, .invokespecial 92021, 3), (96, .putfield 101, 3), (99, .aload_n 0, 1), (100, .new 2, 3), (103, .dup, 1), (104, .bipush 30, 2), (106, .invokespecial 92021, 3), (109, .putfield 111, 3), (112, .aload_n 0, 1), (113, .new 2, 3), (116, .dup, 1), (117, .bipush 30, 2), (119, .invokespecial 92021, 3), (122, .putfield 121, 3), (125, .aload_n 0, 1), (126, .bipush 12, 2), (128, .newarray .int, 2), (130, .putfield 131, 3), (133, .return_, 1)]
def oe_c3 : List (Nat × Jvm.ClassFile.Instr × Nat) := [(0, .iload_n 1, 1), (1, .bipush 32, 2), (3, .if_icmp .lt 21, 3), (6, .iload_n 1, 1), (7, .bipush 126, 2), (9, .if_icmp .gt 21, 3), (12, .aload_n 0, 1), (13, .getfield 10, 3), (16, .bipush 60, 2), (18, .if_icmp .lt 23, 3), (21, .iconst 0, 1), (22, .ireturn, 1), (23, .aload_n 0, 1), (24, .getfield 1, 3), (27, .aload_n 0, 1), (28, .getfield 10, 3), (31, .iload_n 1, 1), (32, .castore, 1), (33, .aload_n 0, 1), (34, .dup, 1), (35, .getfield 10, 3), (38, .iconst 1, 1), (39, .iadd, 1), (40, .putfield 10, 3), (43, .iconst 1, 1), (44, .ireturn, 1)]
def oe_c4 : List (Nat × Jvm.ClassFile.Instr × Nat) := [(0, .aload_n 0, 1), (1, .getfield 10, 3), (4, .istore_n 1, 1), (5, .aload_n 0, 1), (6, .iconst 0, 1), (7, .putfield 10, 3), (10, .iload_n 1, 1), (11, .ireturn, 1)]
def oe_c5 : List (Nat × Jvm.ClassFile.Instr × Nat) := [(0, .aload_n 0, 1), (1, .getfield 41, 3), (4, .invokevirtual 126060, 3), (7, .ifCond .eq 20, 3), (13, .dup, 1), (20, .aload_n 0, 1), (21, .iconst 1, 1), (22, .iconst 1, 1), (23, .invokevirtual 18002, 3), (26, .istore_n 1, 1), (27, .iload_n 1, 1), (28, .iconst (-1), 1), (29, .if_icmp .eq 36, 3), (32, .iconst (-1), 1), (33, .iload_n 1, 1), (34, .isub, 1), (35, .ireturn, 1), (36, .aload_n 0, 1), (37, .getfield 101, 3), (40, .invokevirtual 94020, 3), (43, .bipush 20, 2), (45, .if_icmp .le 52, 3), (48, .sipush (-200), 3), (51, .ireturn, 1), (52, .aload_n 0, 1), (53, .getfield 101, 3), (56, .aload_n 0, 1), (57, .getfield 131, 3), (60, .invokevirtual 98021, 3), (63, .pop, 1), (64, .aload_n 0, 1), (65, .getfield 41, 3), (68, .aload_n 0, 1), (69, .getfield 101, 3), (72, .invokevirtual 127061, 3), (75, .aload_n 0, 1), (76, .getfield 41, 3), (79, .getfield 6010, 3), (82, .ireturn, 1)]
def oe_c6 : List (Nat × Jvm.ClassFile.Instr × Nat) := [(0, .aload_n 0, 1), (1, .iconst 1, 1), (2, .iconst 0, 1), (3, .invokevirtual 18002, 3), (6, .istore_n 1, 1), (7, .iload_n 1, 1), (8, .iconst (-1), 1), (9, .if_icmp .eq 16, 3), (12, .iconst (-1), 1), (13, .iload_n 1, 1), (14, .isub, 1), (15, .ireturn, 1), (16, .aload_n 0, 1), (17, .getfield 101, 3), (20, .getfield 2001, 3), (23, .getfield 3020, 3), (26, .bipush 20, 2), (28, .if_icmp .gt 46, 3), (31, .aload_n 0, 1), (32, .getfield 101, 3), (35, .getfield 2011, 3), (38, .getfield 3020, 3), (41, .bipush 20, 2), (43, .if_icmp .le 50, 3), (46, .sipush (-200), 3), (49, .ireturn, 1), (50, .aload_n 0, 1), (51, .getfield 81, 3), (54, .aload_n 0, 1), (55, .getfield 101, 3), (58, .getfield 2001, 3), (61, .aload_n 0, 1), (62, .getfield 101, 3), (65, .getfield 2011, 3), (68, .invokevirtual 95022, 3), (71, .aload_n 0, 1), (72, .iconst 1, 1), (73, .putfield 92, 3), (76, .aload_n 0, 1), (77, .aload_n 0, 1), (78, .getfield 81, 3), (81, .invokevirtual 22001, 3), (84, .aload_n 0, 1), (85, .invokevirtual 21000, 3), (88, .ifCond .eq 95, 3), (91, .iconst 1, 1), (92, .goto 96, 3), (95, .iconst 0, 1), (96, .ireturn, 1)]
def oe_c7 : List (Nat × Jvm.ClassFile.Instr × Nat) := [(0, .aload_n 0, 1), (1, .invokevirtual 23000, 3), (4, .ireturn, 1)]
def oe_c8 : List (Nat × Jvm.ClassFile.Instr × Nat) := [(0, .iload_n 1, 1), (1, .iconst 1, 1), (2, .if_icmp .lt 11, 3), (5, .iload_n 1, 1), (6, .bipush 20, 2), (8, .if_icmp .le 21, 3), (14, .dup, 1), (21, .aload_n 0, 1), (22, .invokevirtual 23000, 3), (25, .istore_n 2, 1), (26, .iconst 1, 1), (27, .istore_n 3, 1), (28, .iload_n 3, 1), (29, .iload_n 1, 1), (30, .if_icmp .ge 53, 3), (33, .iload_n 2, 1), (34, .ifCond .eq 53, 3), (37, .iload_n 2, 1), (38, .iconst 1, 1), (39, .if_icmp .eq 53, 3), (42, .aload_n 0, 1), (43, .invokevirtual 23000, 3), (46, .istore_n 2, 1), (47, .iinc 3 1, 3), (50, .goto 28, 3), (53, .iload_n 2, 1), (54, .ireturn, 1)]
def oe_c9 : List (Nat × Jvm.ClassFile.Instr × Nat) := [(0, .iload_n 1, 1), (1, .tableswitch 49 0 2 #[28, 36, 44], 27), (28, .aload_n 0, 1), (29, .getfield 51, 3), (32, .getfield 1010, 3), (35, .ireturn, 1), (36, .aload_n 0, 1), (37, .getfield 41, 3), (40, .getfield 6010, 3), (43, .ireturn, 1), (44, .aload_n 0, 1), (45, .getfield 70, 3), (48, .ireturn, 1), (52, .dup, 1)]
def oe_c10 : List (Nat × Jvm.ClassFile.Instr × Nat) := [(0, .iload_n 1, 1), (1, .ifCond .lt 9, 3), (4, .iload_n 1, 1), (5, .iconst 2, 1), (6, .if_icmp .le 19, 3), (12, .dup, 1), (19, .aload_n 0, 1), (20, .iload_n 1, 1), (21, .iload_n 2, 1), (22, .invokevirtual 20002, 3), (25, .astore_n 3, 1), (26, .aload_n 3, 1), (27, .ifnonnull 40, 3), (33, .dup, 1), (40, .aload_n 0, 1), (41, .iconst 0, 1), (42, .putfield 30, 3), (45, .aload_n 0, 1), (46, .aload_n 3, 1), (47, .getfield 2001, 3), (50, .invokevirtual 19001, 3), (53, .aload_n 0, 1), (54, .getfield 21, 3), (57, .aload_n 0, 1), (58, .getfield 30, 3), (61, .bipush 61, 2), (63, .castore, 1), (64, .aload_n 0, 1), (65, .dup, 1), (66, .getfield 30, 3), (69, .iconst 1, 1), (70, .iadd, 1), (71, .putfield 30, 3), (74, .aload_n 0, 1), (75, .aload_n 3, 1), (76, .getfield 2011, 3), (79, .invokevirtual 19001, 3), (82, .aload_n 0, 1), (83, .getfield 30, 3), (86, .ireturn, 1)]
def oe_c11 : List (Nat × Jvm.ClassFile.Instr × Nat) := [(0, .aload_n 0, 1), (1, .iconst 1, 1), (2, .iconst 1, 1), (3, .invokevirtual 18002, 3), (6, .istore_n 1, 1), (7, .iload_n 1, 1), (8, .iconst (-1), 1), (9, .if_icmp .eq 16, 3), (12, .iconst (-1), 1), (13, .iload_n 1, 1), (14, .isub, 1), (15, .ireturn, 1), (16, .aload_n 0, 1), (17, .getfield 101, 3), (20, .invokevirtual 96020, 3), (23, .ifCond .eq 28, 3), (26, .iconst 3, 1), (27, .ireturn, 1), (28, .aload_n 0, 1), (29, .getfield 101, 3), (32, .getfield 2001, 3), (35, .iconst 0, 1), (36, .aload_n 0, 1), (37, .getfield 101, 3), (40, .getfield 2011, 3), (43, .iconst 0, 1), (44, .iconst 0, 1), (45, .invokestatic 110035, 3), (48, .ifCond .eq 53, 3), (51, .iconst 1, 1), (52, .ireturn, 1), (53, .aload_n 0, 1), (54, .getfield 101, 3), (57, .getfield 2011, 3), (60, .iconst 0, 1), (61, .aload_n 0, 1), (62, .getfield 101, 3), (65, .getfield 2001, 3), (68, .iconst 0, 1), (69, .iconst 0, 1), (70, .invokestatic 110035, 3), (73, .ifCond .eq 80, 3), (76, .iconst 2, 1), (77, .goto 81, 3), (80, .iconst 0, 1), (81, .ireturn, 1)]
def oe_c12 : List (Nat × Jvm.ClassFile.Instr × Nat) := [(0, .aload_n 0, 1), (1, .iconst 1, 1), (2, .iconst 1, 1), (3, .invokevirtual 18002, 3), (6, .istore_n 1, 1), (7, .iload_n 1, 1), (8, .iconst (-1), 1), (9, .if_icmp .eq 16, 3), (12, .iconst (-1), 1), (13, .iload_n 1, 1), (14, .isub, 1), (15, .ireturn, 1), (16, .aload_n 0, 1), (17, .getfield 61, 3), (20, .getfield 4001, 3), (23, .astore_n 2, 1), (24, .aload_n 2, 1), (25, .invokevirtual 115050, 3), (28, .aload_n 2, 1), (29, .aload_n 0, 1), (30, .getfield 101, 3), (33, .getfield 2001, 3), (36, .iconst 0, 1), (37, .invokevirtual 116052, 3), (40, .istore_n 3, 1), (41, .aload_n 2, 1), (42, .aload_n 0, 1), (43, .getfield 101, 3), (46, .getfield 2011, 3), (49, .iconst 0, 1), (50, .invokevirtual 116052, 3), (53, .istore 4, 2), (55, .aload_n 2, 1), (56, .iload_n 3, 1), (57, .iload 4, 2), (59, .invokevirtual 117052, 3), (62, .ifCond .eq 82, 3), (65, .aload_n 2, 1), (66, .iload_n 3, 1), (67, .aload_n 0, 1), (68, .getfield 101, 3), (71, .getfield 2001, 3), (74, .bipush 60, 2), (76, .invokevirtual 123053, 3), (79, .ifCond .ne 85, 3), (82, .bipush (-100), 2), (84, .ireturn, 1), (85, .aload_n 0, 1), (86, .iconst 0, 1), (87, .putfield 30, 3), (90, .aload_n 0, 1), (91, .aload_n 0, 1), (92, .getfield 101, 3), (95, .getfield 2001, 3), (98, .invokevirtual 19001, 3), (101, .aload_n 0, 1), (102, .getfield 30, 3), (105, .ireturn, 1)]
def oe_c13 : List (Nat × Jvm.ClassFile.Instr × Nat) := [(0, .aload_n 0, 1), (1, .iconst 0, 1), (2, .iconst 1, 1), (3, .invokevirtual 18002, 3), (6, .istore_n 1, 1), (7, .iload_n 1, 1), (8, .iconst (-1), 1), (9, .if_icmp .eq 16, 3), (12, .iconst (-1), 1), (13, .iload_n 1, 1), (14, .isub, 1), (15, .ireturn, 1), (16, .aload_n 0, 1), (17, .getfield 101, 3), (20, .getfield 2001, 3), (23, .getfield 3020, 3), (26, .bipush 30, 2), (28, .if_icmp .le 35, 3), (31, .sipush (-200), 3), (34, .ireturn, 1), (35, .aload_n 0, 1), (36, .getfield 51, 3), (39, .aload_n 0, 1), (40, .getfield 101, 3), (43, .getfield 2001, 3), (46, .invokevirtual 88011, 3), (49, .istore_n 2, 1), (50, .aload_n 0, 1), (51, .iconst 0, 1), (52, .putfield 30, 3), (55, .aload_n 0, 1), (56, .aload_n 0, 1), (57, .getfield 101, 3), (60, .getfield 2001, 3), (63, .invokevirtual 19001, 3), (66, .iload_n 2, 1), (67, .ireturn, 1)]
def oe_c14 : List (Nat × Jvm.ClassFile.Instr × Nat) := [(0, .aload_n 0, 1), (1, .getfield 30, 3), (4, .ireturn, 1)]
def oe_c15 : List (Nat × Jvm.ClassFile.Instr × Nat) := [(0, .iload_n 1, 1), (1, .ifCond .lt 12, 3), (4, .iload_n 1, 1), (5, .aload_n 0, 1), (6, .getfield 30, 3), (9, .if_icmp .lt 17, 3), (12, .bipush 32, 2), (14, .goto 23, 3), (17, .aload_n 0, 1), (18, .getfield 21, 3), (21, .iload_n 1, 1), (22, .caload, 1), (23, .ireturn, 1)]
def oe_c16 : List (Nat × Jvm.ClassFile.Instr × Nat) := [(0, .iload_n 0, 1), (1, .bipush 12, 2), (3, .if_icmp .ge 10, 3), (6, .iconst 1, 1), (7, .goto 11, 3), (10, .iconst 0, 1), (11, .ireturn, 1)]
def oe_c17 : List (Nat × Jvm.ClassFile.Instr × Nat) := [(0, .iload_n 0, 1), (1, .bipush 18, 2), (3, .if_icmp .lt 8, 3), (6, .iconst 2, 1), (7, .ireturn, 1), (8, .iload_n 0, 1), (9, .bipush 16, 2), (11, .if_icmp .lt 18, 3), (14, .iconst 1, 1), (15, .goto 19, 3), (18, .iconst 0, 1), (19, .ireturn, 1)]
def oe_c18 : List (Nat × Jvm.ClassFile.Instr × Nat) := [(0, .aload_n 0, 1), (1, .getfield 10, 3), (4, .istore_n 3, 1), (5, .aload_n 0, 1), (6, .iconst 0, 1), (7, .putfield 10, 3), (10, .aload_n 0, 1), (11, .getfield 101, 3), (14, .getfield 2001, 3), (17, .invokevirtual 100030, 3), (20, .aload_n 0, 1), (21, .getfield 101, 3), (24, .getfield 2011, 3), (27, .invokevirtual 100030, 3), (30, .iconst 0, 1), (31, .istore 4, 2), (33, .iconst 1, 1), (34, .istore 5, 2), (36, .iconst 0, 1), (37, .istore 6, 2), (39, .iload 6, 2), (41, .iload_n 3, 1), (42, .if_icmp .ge 161, 3), (45, .iload 5, 2), (47, .ifCond .ne 83, 3), (50, .iload_n 1, 1), (51, .ifCond .eq 71, 3), (54, .iload 4, 2), (56, .ifCond .ne 71, 3), (59, .aload_n 0, 1), (60, .getfield 1, 3), (63, .iload 6, 2), (65, .caload, 1), (66, .bipush 61, 2), (68, .if_icmp .eq 74, 3), (71, .iload 6, 2), (73, .ireturn, 1), (74, .iconst 1, 1), (75, .istore 4, 2), (77, .iconst 1, 1), (78, .istore 5, 2), (80, .goto 155, 3), (83, .aload_n 0, 1), (84, .getfield 1, 3), (87, .iload 6, 2), (89, .caload, 1), (90, .invokestatic 900001, 3), (93, .istore 7, 2), (95, .iload 7, 2), (97, .iconst (-1), 1), (98, .if_icmp .eq 113, 3), (101, .iload_n 2, 1), (102, .ifCond .ne 116, 3), (105, .iload 7, 2), (107, .invokestatic 16001, 3), (110, .ifCond .eq 116, 3), (113, .iload 6, 2), (115, .ireturn, 1), (116, .iload 4, 2), (118, .ifCond .eq 131, 3), (121, .aload_n 0, 1), (122, .getfield 101, 3), (125, .getfield 2011, 3), (128, .goto 138, 3), (131, .aload_n 0, 1), (132, .getfield 101, 3), (135, .getfield 2001, 3), (138, .iload 7, 2), (140, .invokevirtual 101031, 3), (143, .iload 5, 2), (145, .iload 7, 2), (147, .invokestatic 17001, 3), (150, .iconst 1, 1), (151, .isub, 1), (152, .iadd, 1), (153, .istore 5, 2), (155, .iinc 6 1, 3), (158, .goto 39, 3), (161, .iload 5, 2), (163, .ifCond .gt 175, 3), (166, .iload_n 1, 1), (167, .ifCond .eq 177, 3), (170, .iload 4, 2), (172, .ifCond .ne 177, 3), (175, .iload_n 3, 1), (176, .ireturn, 1), (177, .aload_n 0, 1), (178, .getfield 101, 3), (181, .getfield 2001, 3), (184, .invokevirtual 103030, 3), (187, .aload_n 0, 1), (188, .getfield 101, 3), (191, .getfield 2011, 3), (194, .invokevirtual 103030, 3), (197, .iconst (-1), 1), (198, .ireturn, 1)]
def oe_c19 : List (Nat × Jvm.ClassFile.Instr × Nat) := [(0, .iconst 0, 1), (1, .istore_n 2, 1), (2, .iload_n 2, 1), (3, .aload_n 1, 1), (4, .getfield 3020, 3), (7, .if_icmp .ge 56, 3), (10, .aload_n 0, 1), (11, .getfield 30, 3), (14, .aload_n 0, 1), (15, .getfield 21, 3), (18, .arraylength, 1), (19, .if_icmp .ge 56, 3), (22, .aload_n 0, 1), (23, .getfield 21, 3), (26, .aload_n 0, 1), (27, .getfield 30, 3), (30, .aload_n 1, 1), (31, .getfield 3001, 3), (34, .iload_n 2, 1), (35, .iaload, 1), (36, .invokestatic 901001, 3), (39, .castore, 1), (40, .aload_n 0, 1), (41, .dup, 1), (42, .getfield 30, 3), (45, .iconst 1, 1), (46, .iadd, 1), (47, .putfield 30, 3), (50, .iinc 2 1, 3), (53, .goto 2, 3), (56, .return_, 1)]
def oe_c20 : List (Nat × Jvm.ClassFile.Instr × Nat) := [(0, .iload_n 1, 1), (1, .iconst 2, 1), (2, .if_icmp .ne 21, 3), (5, .aload_n 0, 1), (6, .getfield 92, 3), (9, .ifCond .eq 19, 3), (12, .aload_n 0, 1), (13, .getfield 81, 3), (16, .goto 20, 3), (19, .aconst_null, 1), (20, .areturn, 1), (21, .iload_n 1, 1), (22, .ifCond .ne 35, 3), (25, .aload_n 0, 1), (26, .getfield 51, 3), (29, .getfield 1010, 3), (32, .goto 42, 3), (35, .aload_n 0, 1), (36, .getfield 41, 3), (39, .getfield 6010, 3), (42, .istore_n 3, 1), (43, .iload_n 2, 1), (44, .ifCond .lt 52, 3), (47, .iload_n 2, 1), (48, .iload_n 3, 1), (49, .if_icmp .lt 54, 3), (52, .aconst_null, 1), (53, .areturn, 1), (54, .iload_n 1, 1), (55, .ifCond .ne 70, 3), (58, .aload_n 0, 1), (59, .getfield 51, 3), (62, .getfield 1001, 3), (65, .iload_n 2, 1), (66, .aaload, 1), (67, .goto 79, 3), (70, .aload_n 0, 1), (71, .getfield 41, 3), (74, .getfield 6001, 3), (77, .iload_n 2, 1), (78, .aaload, 1), (79, .areturn, 1)]
def oe_c21 : List (Nat × Jvm.ClassFile.Instr × Nat) := [(0, .aload_n 0, 1), (1, .getfield 92, 3), (4, .ifCond .eq 21, 3), (7, .aload_n 0, 1), (8, .getfield 81, 3), (11, .invokevirtual 96020, 3), (14, .ifCond .eq 21, 3), (17, .iconst 1, 1), (18, .goto 22, 3), (21, .iconst 0, 1), (22, .ireturn, 1)]
def oe_c22 : List (Nat × Jvm.ClassFile.Instr × Nat) := [(0, .aload_n 0, 1), (1, .getfield 51, 3), (4, .aload_n 1, 1), (5, .getfield 2001, 3), (8, .invokevirtual 88011, 3), (11, .pop, 1), (12, .aload_n 0, 1), (13, .getfield 51, 3), (16, .aload_n 1, 1), (17, .getfield 2011, 3), (20, .invokevirtual 88011, 3), (23, .pop, 1), (24, .return_, 1)]
def oe_c23 : List (Nat × Jvm.ClassFile.Instr × Nat) := [(0, .aload_n 0, 1), (1, .invokevirtual 21000, 3), (4, .ifCond .eq 9, 3), (7, .iconst 1, 1), (8, .ireturn, 1), (9, .aload_n 0, 1), (10, .getfield 41, 3), (13, .getfield 6010, 3), (16, .ifCond .ne 21, 3), (19, .iconst 0, 1), (20, .ireturn, 1), (21, .aload_n 0, 1), (22, .getfield 41, 3), (25, .aload_n 0, 1), (26, .getfield 111, 3), (29, .invokevirtual 128061, 3), (32, .aload_n 0, 1), (33, .aload_n 0, 1), (34, .getfield 111, 3), (37, .invokevirtual 22001, 3), (40, .aload_n 0, 1), (41, .getfield 111, 3), (44, .invokevirtual 96020, 3), (47, .ifCond .ne 62, 3), (50, .aload_n 0, 1), (51, .getfield 111, 3), (54, .invokevirtual 94020, 3), (57, .bipush 20, 2), (59, .if_icmp .le 64, 3), (62, .iconst 3, 1), (63, .ireturn, 1), (64, .aload_n 0, 1), (65, .aload_n 0, 1), (66, .getfield 111, 3), (69, .invokevirtual 24001, 3), (72, .pop, 1), (73, .aload_n 0, 1), (74, .aload_n 0, 1), (75, .getfield 51, 3), (78, .getfield 1001, 3), (81, .aload_n 0, 1), (82, .getfield 51, 3), (85, .getfield 1010, 3), (88, .aload_n 0, 1), (89, .getfield 111, 3), (92, .invokevirtual 25003, 3), (95, .ifCond .eq 100, 3), (98, .iconst 3, 1), (99, .ireturn, 1), (100, .aload_n 0, 1), (101, .getfield 51, 3), (104, .invokevirtual 86010, 3), (107, .ifCond .eq 112, 3), (110, .iconst 4, 1), (111, .ireturn, 1), (112, .aload_n 0, 1), (113, .getfield 51, 3), (116, .aload_n 0, 1), (117, .getfield 111, 3), (120, .invokevirtual 87011, 3), (123, .aload_n 0, 1), (124, .aload_n 0, 1), (125, .getfield 51, 3), (128, .getfield 1010, 3), (131, .iconst 1, 1), (132, .isub, 1), (133, .invokevirtual 26001, 3), (136, .aload_n 0, 1), (137, .getfield 92, 3), (140, .ifCond .eq 151, 3), (143, .aload_n 0, 1), (144, .aload_n 0, 1), (145, .getfield 81, 3), (148, .invokevirtual 22001, 3), (151, .aload_n 0, 1), (152, .invokevirtual 21000, 3), (155, .ifCond .eq 162, 3), (158, .iconst 1, 1), (159, .goto 163, 3), (162, .iconst 2, 1), (163, .ireturn, 1)]
def oe_c24 : List (Nat × Jvm.ClassFile.Instr × Nat) := [(0, .aload_n 1, 1), (1, .aload_n 0, 1), (2, .getfield 131, 3), (5, .invokevirtual 98021, 3), (8, .istore_n 2, 1), (9, .aload_n 0, 1), (10, .getfield 121, 3), (13, .aload_n 1, 1), (14, .getfield 2011, 3), (17, .aload_n 1, 1), (18, .getfield 2001, 3), (21, .invokevirtual 95022, 3), (24, .aload_n 0, 1), (25, .getfield 121, 3), (28, .aload_n 0, 1), (29, .getfield 131, 3), (32, .invokevirtual 98021, 3), (35, .pop, 1), (36, .iload_n 2, 1), (37, .ireturn, 1)]
def oe_c25 : List (Nat × Jvm.ClassFile.Instr × Nat) := [(0, .iconst 0, 1), (1, .istore 4, 2), (3, .iload 4, 2), (5, .iload_n 2, 1), (6, .if_icmp .ge 49, 3), (9, .iload 4, 2), (11, .aload_n 1, 1), (12, .arraylength, 1), (13, .if_icmp .ge 49, 3), (16, .aload_n 1, 1), (17, .iload 4, 2), (19, .aaload, 1), (20, .aload_n 3, 1), (21, .invokevirtual 97021, 3), (24, .ifCond .ne 41, 3), (27, .aload_n 1, 1), (28, .iload 4, 2), (30, .aaload, 1), (31, .aload_n 0, 1), (32, .getfield 121, 3), (35, .invokevirtual 97021, 3), (38, .ifCond .eq 43, 3), (41, .iconst 1, 1), (42, .ireturn, 1), (43, .iinc 4 1, 3), (46, .goto 3, 3), (49, .iconst 0, 1), (50, .ireturn, 1)]
def oe_c26 : List (Nat × Jvm.ClassFile.Instr × Nat) := [(0, .iconst 0, 1), (1, .istore_n 2, 1), (2, .iload_n 2, 1), (3, .iload_n 1, 1), (4, .if_icmp .gt 167, 3), (7, .iload_n 2, 1), (8, .iload_n 1, 1), (9, .if_icmp .ne 16, 3), (12, .iconst 4, 1), (13, .goto 18, 3), (16, .bipush 8, 2), (18, .istore_n 3, 1), (19, .iconst 0, 1), (20, .istore 4, 2), (22, .iload 4, 2), (24, .iload_n 3, 1), (25, .if_icmp .ge 161, 3), (28, .iload 4, 2), (30, .iconst 4, 1), (31, .if_icmp .ge 38, 3), (34, .iload_n 1, 1), (35, .goto 39, 3), (38, .iload_n 2, 1), (39, .istore 5, 2), (41, .iload 4, 2), (43, .iconst 4, 1), (44, .if_icmp .ge 51, 3), (47, .iload_n 2, 1), (48, .goto 52, 3), (51, .iload_n 1, 1), (52, .istore 6, 2), (54, .iload 4, 2), (56, .iconst 2, 1), (57, .idiv, 1), (58, .iconst 2, 1), (59, .irem, 1), (60, .istore 7, 2), (62, .iload 4, 2), (64, .iconst 2, 1), (65, .irem, 1), (66, .istore 8, 2), (68, .iload 5, 2), (70, .iload 6, 2), (72, .if_icmp .ne 86, 3), (75, .iload 7, 2), (77, .iload 8, 2), (79, .if_icmp .ne 86, 3), (82, .iconst 1, 1), (83, .goto 87, 3), (86, .iconst 0, 1), (87, .istore 9, 2), (89, .aload_n 0, 1), (90, .getfield 51, 3), (93, .getfield 1001, 3), (96, .iload 6, 2), (98, .aaload, 1), (99, .astore 10, 2), (101, .iload 9, 2), (103, .istore 11, 2), (105, .iload 11, 2), (107, .aload 10, 2), (109, .iload 8, 2), (111, .invokevirtual 93021, 3), (114, .getfield 3020, 3), (117, .if_icmp .ge 155, 3), (120, .aload_n 0, 1), (121, .aload_n 0, 1), (122, .getfield 61, 3), (125, .aload_n 0, 1), (126, .getfield 51, 3), (129, .getfield 1001, 3), (132, .iload 5, 2), (134, .aaload, 1), (135, .iload 7, 2), (137, .aload 10, 2), (139, .iload 8, 2), (141, .iload 11, 2), (143, .invokevirtual 112045, 3), (146, .invokevirtual 27001, 3), (149, .iinc 11 1, 3), (152, .goto 105, 3), (155, .iinc 4 1, 3), (158, .goto 22, 3), (161, .iinc 2 1, 3), (164, .goto 2, 3), (167, .return_, 1)]
def oe_c27 : List (Nat × Jvm.ClassFile.Instr × Nat) := [(0, .iload_n 1, 1), (1, .iconst 1, 1), (2, .if_icmp .ne 15, 3), (5, .aload_n 0, 1), (6, .dup, 1), (7, .getfield 70, 3), (10, .iconst 1, 1), (11, .iadd, 1), (12, .putfield 70, 3), (15, .iload_n 1, 1), (16, .iconst 2, 1), (17, .if_icmp .eq 21, 3), (20, .return_, 1), (21, .aload_n 0, 1), (22, .getfield 61, 3), (25, .getfield 4011, 3), (28, .astore_n 2, 1), (29, .aload_n 0, 1), (30, .getfield 51, 3), (33, .aload_n 2, 1), (34, .getfield 2001, 3), (37, .invokevirtual 88011, 3), (40, .pop, 1), (41, .aload_n 0, 1), (42, .getfield 51, 3), (45, .aload_n 2, 1), (46, .getfield 2011, 3), (49, .invokevirtual 88011, 3), (52, .pop, 1), (53, .aload_n 2, 1), (54, .invokevirtual 96020, 3), (57, .ifCond .eq 61, 3), (60, .return_, 1), (61, .aload_n 0, 1), (62, .aload_n 2, 1), (63, .invokevirtual 24001, 3), (66, .istore_n 3, 1), (67, .iload_n 3, 1), (68, .bipush 6, 2), (70, .if_icmp .gt 82, 3), (73, .aload_n 2, 1), (74, .invokevirtual 94020, 3), (77, .bipush 20, 2), (79, .if_icmp .le 93, 3), (82, .aload_n 0, 1), (83, .dup, 1), (84, .getfield 70, 3), (87, .iconst 1, 1), (88, .iadd, 1), (89, .putfield 70, 3), (92, .return_, 1), (93, .aload_n 0, 1), (94, .aload_n 0, 1), (95, .getfield 51, 3), (98, .getfield 1001, 3), (101, .aload_n 0, 1), (102, .getfield 51, 3), (105, .getfield 1010, 3), (108, .aload_n 2, 1), (109, .invokevirtual 25003, 3), (112, .ifCond .ne 137, 3), (115, .aload_n 0, 1), (116, .aload_n 0, 1), (117, .getfield 41, 3), (120, .getfield 6001, 3), (123, .aload_n 0, 1), (124, .getfield 41, 3), (127, .getfield 6010, 3), (130, .aload_n 2, 1), (131, .invokevirtual 25003, 3), (134, .ifCond .eq 138, 3), (137, .return_, 1), (138, .aload_n 0, 1), (139, .getfield 41, 3), (142, .invokevirtual 126060, 3), (145, .ifCond .eq 159, 3), (148, .aload_n 0, 1), (149, .dup, 1), (150, .getfield 70, 3), (153, .iconst 1, 1), (154, .iadd, 1), (155, .putfield 70, 3), (158, .return_, 1), (159, .aload_n 0, 1), (160, .getfield 41, 3), (163, .aload_n 2, 1), (164, .invokevirtual 127061, 3), (167, .return_, 1)]
def oe_c28 : List (Nat × Jvm.ClassFile.Instr × Nat) := [(0, .aload_n 0, 1), (1, .invokespecial 0, 3), (4, .aload_n 0, 1), (5, .bipush 60, 2), (7, .newarray .int, 2), (9, .putfield 7021, 3), (12, .aload_n 0, 1), (13, .bipush 70, 2), (15, .newarray .int, 2), (17, .putfield 7041, 3), (20, .aload_n 0, 1), (21, .bipush 60, 2), (23, .newarray .int, 2), (25, .putfield 7051, 3), (28, .aload_n 0, 1), (29, .sipush 600, 3), (32, .newarray .int, 2), (34, .putfield 7091, 3), (37, .aload_n 0, 1), (38, .bipush 30, 2), (40, .newarray .int, 2), (42, .putfield 7101, 3), (45, .aload_n 0, 1), (46, .bipush 30, 2), (48, .newarray .int, 2), (50, .putfield 7111, 3), (53, .aload_n 0, 1), (54, .sipush 200, 3), (57, .newarray .int, 2), (59, .putfield 7131, 3), (62, .aload_n 0, 1), (63, .bipush 10, 2), (65, .newarray .int, 2), (67, .putfield 7141, 3), (70, .aload_n 0, 1), (71, .bipush 10, 2), (73, .newarray .int, 2), (75, .putfield 7151, 3), (78, .aload_n 0, 1), (79, .sipush 240, 3), (82, .newarray .int, 2), (84, .putfield 7181, 3), (87, .aload_n 0, 1), (88, .bipush 6, 2), (90, .newarray .int, 2), (92, .putfield 7191, 3), (95, .aload_n 0, 1), (96, .bipush 12, 2), (98, .newarray .int, 2), (100, .putfield 7201, 3), (103, .aload_n 0, 1), (104, .bipush 60, 2), (106, .newarray .int, 2), (108, .putfield 7211, 3), (111, .aload_n 0, 1), (112, .bipush 60, 2), (114, .newarray .int, 2), (116, .putfield 7231, 3), (119, .aload_n 0, 1), (120, .bipush 60, 2), (122, .newarray .int, 2), (124, .putfield 7251, 3), (127, .aload_n 0, 1), (128, .bipush 60, 2), (130, .newarray .int, 2), (132, .putfield 7261, 3), (135, .aload_n 0, 1), (136, .sipush 3600, 3), (139, .newarray .boolean, 2), (141, .putfield 7271, 3), (144, .aload_n 0, 1), (145, .bipush 64, 2), (147, .newarray .int, 2), (149, .putfield 7281, 3), (152, .aload_n 0, 1), (153, .bipush 6, 2), (155, .newarray .int, 2), (157, .putfield 7301, 3), (160, .aload_n 0, 1), (161, .bipush 6, 2), (163, .newarray .int, 2), (165, .putfield 7311, 3), (168, .aload_n 0, 1), (169, .bipush 64, 2), (171, .newarray .int, 2), (173, .putfield 7321, 3), (176, .aload_n 0, 1), (177, .bipush 64, 2), (179, .newarray .int, 2), (181, .putfield 7341, 3), (184, .aload_n 0, 1), (185, .bipush 12, 2), (187, .newarray .int, 2), (189, .putfield 7351, 3), (192, .aload_n 0, 1), (193, .sipush 620, 3), (196, .newarray .int, 2), (198, .putfield 7371, 3), (201, .aload_n 0, 1), (202, .sipush 620, 3), (205, .newarray .int, 2), (207, .putfield 7381, 3), (210, .aload_n 0, 1), (211, .sipush 320, 3), (214, .newarray .int, 2), (216, .putfield 7391, 3), (219, .aload_n 0, 1), (220, .bipush 16, 2), (222, .newarray .int, 2), (224, .putfield 7411, 3), (227, .aload_n 0, 1), (228, .bipush 16, 2), (230, .newarray .int, 2), (232, .putfield 7421, 3), (235, .aload_n 0, 1), (236, .sipush 128, 3), (239, .newarray .int, 2), (241, .putfield 7431, 3), (244, .aload_n 0, 1), (245, .iconst 4, 1), (246, .newarray .int, 2), (248, .putfield 7441, 3), (251, .return_, 1)]
def oe_c29 : List (Nat × Jvm.ClassFile.Instr × Nat) := [(0, .aload_n 0, 1), (1, .getfield 7000, 3), (4, .ireturn, 1)]
def oe_c30 : List (Nat × Jvm.ClassFile.Instr × Nat) := [(0, .aload_n 0, 1), (1, .iconst 0, 1), (2, .putfield 7000, 3), (5, .iload_n 1, 1), (6, .bipush 32, 2), (8, .if_icmp .lt 26, 3), (11, .iload_n 1, 1), (12, .bipush 126, 2), (14, .if_icmp .gt 26, 3), (17, .aload_n 0, 1), (18, .getfield 7010, 3), (21, .bipush 60, 2), (23, .if_icmp .ne 28, 3), (26, .iconst 0, 1), (27, .ireturn, 1), (28, .aload_n 0, 1), (29, .getfield 7021, 3), (32, .aload_n 0, 1), (33, .getfield 7010, 3), (36, .iload_n 1, 1), (37, .iastore, 1), (38, .aload_n 0, 1), (39, .dup, 1), (40, .getfield 7010, 3), (43, .iconst 1, 1), (44, .iadd, 1), (45, .putfield 7010, 3), (48, .iconst 1, 1), (49, .ireturn, 1)]
def oe_c31 : List (Nat × Jvm.ClassFile.Instr × Nat) := [(0, .aload_n 0, 1), (1, .iconst 0, 1), (2, .putfield 7000, 3), (5, .aload_n 0, 1), (6, .getfield 7010, 3), (9, .istore_n 1, 1), (10, .aload_n 0, 1), (11, .iconst 0, 1), (12, .putfield 7010, 3), (15, .iload_n 1, 1), (16, .ireturn, 1)]
def oe_c32 : List (Nat × Jvm.ClassFile.Instr × Nat) := [(0, .iload_n 0, 1), (1, .tableswitch 108 97 113 #[96, 99, 102, 105, 108, 90, 93, 108, 108, 108, 108, 108, 108, 108, 108, 84, 87], 83), (84, .bipush 20, 2), (86, .ireturn, 1), (87, .bipush 21, 2), (89, .ireturn, 1), (90, .bipush 22, 2), (92, .ireturn, 1), (93, .bipush 23, 2), (95, .ireturn, 1), (96, .bipush 24, 2), (98, .ireturn, 1), (99, .bipush 25, 2), (101, .ireturn, 1), (102, .bipush 26, 2), (104, .ireturn, 1), (105, .bipush 27, 2), (107, .ireturn, 1), (108, .iload_n 0, 1), (109, .bipush 117, 2), (111, .if_icmp .lt 127, 3), (114, .iload_n 0, 1), (115, .bipush 122, 2), (117, .if_icmp .gt 127, 3), (120, .iload_n 0, 1), (121, .bipush 117, 2), (123, .isub, 1), (124, .goto 128, 3), (127, .iconst (-1), 1), (128, .ireturn, 1)]
def oe_c33 : List (Nat × Jvm.ClassFile.Instr × Nat) := [(0, .iload_n 0, 1), (1, .tableswitch 72 20 27 #[48, 51, 54, 57, 60, 63, 66, 69], 47), (48, .bipush 112, 2), (50, .ireturn, 1), (51, .bipush 113, 2), (53, .ireturn, 1), (54, .bipush 102, 2), (56, .ireturn, 1), (57, .bipush 103, 2), (59, .ireturn, 1), (60, .bipush 97, 2), (62, .ireturn, 1), (63, .bipush 98, 2), (65, .ireturn, 1), (66, .bipush 99, 2), (68, .ireturn, 1), (69, .bipush 100, 2), (71, .ireturn, 1), (72, .bipush 117, 2), (74, .iload_n 0, 1), (75, .iadd, 1), (76, .ireturn, 1)]
def oe_c34 : List (Nat × Jvm.ClassFile.Instr × Nat) := [(0, .iload_n 0, 1), (1, .bipush 20, 2), (3, .if_icmp .lt 12, 3), (6, .iload_n 0, 1), (7, .bipush 23, 2), (9, .if_icmp .le 16, 3), (12, .iconst 0, 1), (13, .goto 27, 3), (16, .iload_n 0, 1), (17, .bipush 22, 2), (19, .if_icmp .ge 26, 3), (22, .iconst 2, 1), (23, .goto 27, 3), (26, .iconst 1, 1), (27, .ireturn, 1)]
def oe_c35 : List (Nat × Jvm.ClassFile.Instr × Nat) := [(0, .iload_n 0, 1), (1, .bipush 20, 2), (3, .if_icmp .ge 10, 3), (6, .iconst 1, 1), (7, .goto 11, 3), (10, .iconst 0, 1), (11, .ireturn, 1)]
def oe_c36 : List (Nat × Jvm.ClassFile.Instr × Nat) := [(0, .aload_n 0, 1), (1, .getfield 7010, 3), (4, .istore_n 2, 1), (5, .aload_n 0, 1), (6, .iconst 0, 1), (7, .putfield 7010, 3), (10, .aload_n 0, 1), (11, .iconst 0, 1), (12, .putfield 7060, 3), (15, .aload_n 0, 1), (16, .iconst 0, 1), (17, .putfield 7070, 3), (20, .iconst 1, 1), (21, .istore_n 3, 1), (22, .iload_n 1, 1), (23, .iconst 2, 1), (24, .if_icmp .ne 31, 3), (27, .iconst 1, 1), (28, .goto 32, 3), (31, .iconst 0, 1), (32, .istore 4, 2), (34, .iconst 0, 1), (35, .istore 5, 2), (37, .iload 5, 2), (39, .iload_n 2, 1), (40, .if_icmp .ge 156, 3), (43, .iload_n 3, 1), (44, .ifCond .le 114, 3), (47, .aload_n 0, 1), (48, .getfield 7021, 3), (51, .iload 5, 2), (53, .iaload, 1), (54, .invokestatic 32071, 3), (57, .istore 6, 2), (59, .iload 6, 2), (61, .ifCond .lt 77, 3), (64, .iload_n 1, 1), (65, .iconst 1, 1), (66, .if_icmp .ne 80, 3), (69, .iload 6, 2), (71, .invokestatic 35071, 3), (74, .ifCond .eq 80, 3), (77, .iload 5, 2), (79, .ireturn, 1), (80, .iload_n 3, 1), (81, .iconst 1, 1), (82, .isub, 1), (83, .iload 6, 2), (85, .invokestatic 34071, 3), (88, .iadd, 1), (89, .istore_n 3, 1), (90, .aload_n 0, 1), (91, .getfield 7051, 3), (94, .aload_n 0, 1), (95, .getfield 7070, 3), (98, .iload 6, 2), (100, .iastore, 1), (101, .aload_n 0, 1), (102, .dup, 1), (103, .getfield 7070, 3), (106, .iconst 1, 1), (107, .iadd, 1), (108, .putfield 7070, 3), (111, .goto 150, 3), (114, .iload 4, 2), (116, .ifCond .ne 147, 3), (119, .aload_n 0, 1), (120, .getfield 7021, 3), (123, .iload 5, 2), (125, .iaload, 1), (126, .bipush 61, 2), (128, .if_icmp .ne 147, 3), (131, .iconst 1, 1), (132, .istore 4, 2), (134, .aload_n 0, 1), (135, .aload_n 0, 1), (136, .getfield 7070, 3), (139, .putfield 7060, 3), (142, .iconst 1, 1), (143, .istore_n 3, 1), (144, .goto 150, 3), (147, .iload 5, 2), (149, .ireturn, 1), (150, .iinc 5 1, 3), (153, .goto 37, 3), (156, .iload_n 3, 1), (157, .ifCond .gt 165, 3), (160, .iload 4, 2), (162, .ifCond .ne 169, 3), (165, .iload_n 2, 1), (166, .goto 170, 3), (169, .iconst (-1), 1), (170, .ireturn, 1)]
def oe_c37 : List (Nat × Jvm.ClassFile.Instr × Nat) := [(0, .aload_n 0, 1), (1, .getfield 7251, 3), (4, .iload_n 1, 1), (5, .iaload, 1), (6, .iload_n 1, 1), (7, .isub, 1), (8, .aload_n 0, 1), (9, .getfield 7261, 3), (12, .iload_n 2, 1), (13, .iaload, 1), (14, .iload_n 2, 1), (15, .isub, 1), (16, .if_icmp .ne 23, 3), (19, .iconst 1, 1), (20, .goto 24, 3), (23, .iconst 0, 1), (24, .istore_n 3, 1), (25, .iconst 0, 1), (26, .istore 4, 2), (28, .iload_n 3, 1), (29, .ifCond .eq 78, 3), (32, .iload_n 1, 1), (33, .iload 4, 2), (35, .iadd, 1), (36, .aload_n 0, 1), (37, .getfield 7251, 3), (40, .iload_n 1, 1), (41, .iaload, 1), (42, .if_icmp .ge 78, 3), (45, .aload_n 0, 1), (46, .getfield 7211, 3), (49, .iload_n 1, 1), (50, .iload 4, 2), (52, .iadd, 1), (53, .iaload, 1), (54, .aload_n 0, 1), (55, .getfield 7231, 3), (58, .iload_n 2, 1), (59, .iload 4, 2), (61, .iadd, 1), (62, .iaload, 1), (63, .if_icmp .ne 70, 3), (66, .iconst 1, 1), (67, .goto 71, 3), (70, .iconst 0, 1), (71, .istore_n 3, 1), (72, .iinc 4 1, 3), (75, .goto 28, 3), (78, .iload_n 3, 1), (79, .ireturn, 1)]
def oe_c38 : List (Nat × Jvm.ClassFile.Instr × Nat) := [(0, .iconst 0, 1), (1, .istore_n 3, 1), (2, .iload_n 1, 1), (3, .iconst 1, 1), (4, .iadd, 1), (5, .istore 4, 2), (7, .iconst 0, 1), (8, .istore 5, 2), (10, .iload 5, 2), (12, .aload_n 0, 1), (13, .getfield 7211, 3), (16, .iload_n 1, 1), (17, .iaload, 1), (18, .invokestatic 34071, 3), (21, .if_icmp .ge 74, 3), (24, .iload_n 3, 1), (25, .ifCond .ne 53, 3), (28, .aload_n 0, 1), (29, .getfield 7271, 3), (32, .bipush 60, 2), (34, .iload 4, 2), (36, .imul, 1), (37, .iload_n 2, 1), (38, .iadd, 1), (39, .baload, 1), (40, .ifCond .ne 53, 3), (43, .aload_n 0, 1), (44, .iload 4, 2), (46, .iload_n 2, 1), (47, .invokevirtual 37072, 3), (50, .ifCond .eq 57, 3), (53, .iconst 1, 1), (54, .goto 58, 3), (57, .iconst 0, 1), (58, .istore_n 3, 1), (59, .aload_n 0, 1), (60, .getfield 7251, 3), (63, .iload 4, 2), (65, .iaload, 1), (66, .istore 4, 2), (68, .iinc 5 1, 3), (71, .goto 10, 3), (74, .iload_n 3, 1), (75, .ireturn, 1)]
def oe_c39 : List (Nat × Jvm.ClassFile.Instr × Nat) := [(0, .iconst 1, 1), (1, .istore_n 3, 1), (2, .iload_n 2, 1), (3, .iconst 1, 1), (4, .iadd, 1), (5, .istore 4, 2), (7, .iconst 0, 1), (8, .istore 5, 2), (10, .iload 5, 2), (12, .aload_n 0, 1), (13, .getfield 7231, 3), (16, .iload_n 2, 1), (17, .iaload, 1), (18, .invokestatic 34071, 3), (21, .if_icmp .ge 64, 3), (24, .iload_n 3, 1), (25, .ifCond .eq 47, 3), (28, .aload_n 0, 1), (29, .getfield 7271, 3), (32, .bipush 60, 2), (34, .iload_n 1, 1), (35, .imul, 1), (36, .iload 4, 2), (38, .iadd, 1), (39, .baload, 1), (40, .ifCond .eq 47, 3), (43, .iconst 1, 1), (44, .goto 48, 3), (47, .iconst 0, 1), (48, .istore_n 3, 1), (49, .aload_n 0, 1), (50, .getfield 7261, 3), (53, .iload 4, 2), (55, .iaload, 1), (56, .istore 4, 2), (58, .iinc 5 1, 3), (61, .goto 10, 3), (64, .iload_n 3, 1), (65, .ireturn, 1)]
def oe_c40 : List (Nat × Jvm.ClassFile.Instr × Nat) := [(0, .iload_n 1, 1), (1, .iconst 1, 1), (2, .iadd, 1), (3, .istore_n 3, 1), (4, .iload_n 2, 1), (5, .iconst 1, 1), (6, .iadd, 1), (7, .istore 4, 2), (9, .iconst 0, 1), (10, .istore 5, 2), (12, .iload 5, 2), (14, .aload_n 0, 1), (15, .getfield 7211, 3), (18, .iload_n 1, 1), (19, .iaload, 1), (20, .invokestatic 34071, 3), (23, .if_icmp .ge 71, 3), (26, .aload_n 0, 1), (27, .iload_n 3, 1), (28, .iload 4, 2), (30, .invokevirtual 37072, 3), (33, .ifCond .ne 49, 3), (36, .aload_n 0, 1), (37, .getfield 7271, 3), (40, .bipush 60, 2), (42, .iload_n 3, 1), (43, .imul, 1), (44, .iload 4, 2), (46, .iadd, 1), (47, .baload, 1), (48, .ireturn, 1), (49, .aload_n 0, 1), (50, .getfield 7251, 3), (53, .iload_n 3, 1), (54, .iaload, 1), (55, .istore_n 3, 1), (56, .aload_n 0, 1), (57, .getfield 7261, 3), (60, .iload 4, 2), (62, .iaload, 1), (63, .istore 4, 2), (65, .iinc 5 1, 3), (68, .goto 12, 3), (71, .iconst 0, 1), (72, .ireturn, 1)]
def oe_c41 : List (Nat × Jvm.ClassFile.Instr × Nat) := [(0, .aload_n 0, 1), (1, .getfield 7211, 3), (4, .iload_n 1, 1), (5, .iaload, 1), (6, .istore_n 3, 1), (7, .aload_n 0, 1), (8, .getfield 7231, 3), (11, .iload_n 2, 1), (12, .iaload, 1), (13, .istore 4, 2), (15, .iload 4, 2), (17, .invokestatic 35071, 3), (20, .ifCond .eq 87, 3), (23, .iconst 0, 1), (24, .istore 5, 2), (26, .iload_n 1, 1), (27, .istore 6, 2), (29, .iload 6, 2), (31, .aload_n 0, 1), (32, .getfield 7251, 3), (35, .iload_n 1, 1), (36, .iaload, 1), (37, .if_icmp .ge 70, 3), (40, .iload 5, 2), (42, .ifCond .ne 57, 3), (45, .aload_n 0, 1), (46, .getfield 7211, 3), (49, .iload 6, 2), (51, .iaload, 1), (52, .iload 4, 2), (54, .if_icmp .ne 61, 3), (57, .iconst 1, 1), (58, .goto 62, 3), (61, .iconst 0, 1), (62, .istore 5, 2), (64, .iinc 6 1, 3), (67, .goto 29, 3), (70, .iload 5, 2), (72, .ifCond .eq 85, 3), (75, .iload_n 3, 1), (76, .iload 4, 2), (78, .if_icmp .eq 85, 3), (81, .iconst 1, 1), (82, .goto 86, 3), (85, .iconst 0, 1), (86, .ireturn, 1), (87, .iload_n 3, 1), (88, .invokestatic 35071, 3), (91, .ifCond .eq 96, 3), (94, .iconst 0, 1), (95, .ireturn, 1), (96, .aload_n 0, 1), (97, .iload_n 1, 1), (98, .iload_n 2, 1), (99, .invokevirtual 38072, 3), (102, .ifCond .eq 107, 3), (105, .iconst 1, 1), (106, .ireturn, 1), (107, .aload_n 0, 1), (108, .iload_n 1, 1), (109, .iload_n 2, 1), (110, .invokevirtual 39072, 3), (113, .ifCond .eq 141, 3), (116, .iload_n 3, 1), (117, .iload 4, 2), (119, .if_icmp .lt 137, 3), (122, .iload_n 3, 1), (123, .iload 4, 2), (125, .if_icmp .ne 141, 3), (128, .aload_n 0, 1), (129, .iload_n 1, 1), (130, .iload_n 2, 1), (131, .invokevirtual 40072, 3), (134, .ifCond .eq 141, 3), (137, .iconst 1, 1), (138, .goto 142, 3), (141, .iconst 0, 1), (142, .ireturn, 1)]
def oe_c42 : List (Nat × Jvm.ClassFile.Instr × Nat) := [(0, .aload_n 0, 1), (1, .getfield 7220, 3), (4, .iconst 1, 1), (5, .isub, 1), (6, .istore_n 1, 1), (7, .iload_n 1, 1), (8, .ifCond .lt 56, 3), (11, .iload_n 1, 1), (12, .iconst 1, 1), (13, .iadd, 1), (14, .istore_n 2, 1), (15, .iconst 0, 1), (16, .istore_n 3, 1), (17, .iload_n 3, 1), (18, .aload_n 0, 1), (19, .getfield 7211, 3), (22, .iload_n 1, 1), (23, .iaload, 1), (24, .invokestatic 34071, 3), (27, .if_icmp .ge 43, 3), (30, .aload_n 0, 1), (31, .getfield 7251, 3), (34, .iload_n 2, 1), (35, .iaload, 1), (36, .istore_n 2, 1), (37, .iinc 3 1, 3), (40, .goto 17, 3), (43, .aload_n 0, 1), (44, .getfield 7251, 3), (47, .iload_n 1, 1), (48, .iload_n 2, 1), (49, .iastore, 1), (50, .iinc 1 (-1), 3), (53, .goto 7, 3), (56, .aload_n 0, 1), (57, .getfield 7240, 3), (60, .iconst 1, 1), (61, .isub, 1), (62, .istore_n 1, 1), (63, .iload_n 1, 1), (64, .ifCond .lt 112, 3), (67, .iload_n 1, 1), (68, .iconst 1, 1), (69, .iadd, 1), (70, .istore_n 2, 1), (71, .iconst 0, 1), (72, .istore_n 3, 1), (73, .iload_n 3, 1), (74, .aload_n 0, 1), (75, .getfield 7231, 3), (78, .iload_n 1, 1), (79, .iaload, 1), (80, .invokestatic 34071, 3), (83, .if_icmp .ge 99, 3), (86, .aload_n 0, 1), (87, .getfield 7261, 3), (90, .iload_n 2, 1), (91, .iaload, 1), (92, .istore_n 2, 1), (93, .iinc 3 1, 3), (96, .goto 73, 3), (99, .aload_n 0, 1), (100, .getfield 7261, 3), (103, .iload_n 1, 1), (104, .iload_n 2, 1), (105, .iastore, 1), (106, .iinc 1 (-1), 3), (109, .goto 63, 3), (112, .aload_n 0, 1), (113, .getfield 7220, 3), (116, .iconst 1, 1), (117, .isub, 1), (118, .istore_n 1, 1), (119, .iload_n 1, 1), (120, .ifCond .lt 163, 3), (123, .aload_n 0, 1), (124, .getfield 7240, 3), (127, .iconst 1, 1), (128, .isub, 1), (129, .istore_n 2, 1), (130, .iload_n 2, 1), (131, .ifCond .lt 157, 3), (134, .aload_n 0, 1), (135, .getfield 7271, 3), (138, .bipush 60, 2), (140, .iload_n 1, 1), (141, .imul, 1), (142, .iload_n 2, 1), (143, .iadd, 1), (144, .aload_n 0, 1), (145, .iload_n 1, 1), (146, .iload_n 2, 1), (147, .invokevirtual 41072, 3), (150, .bastore, 1), (151, .iinc 2 (-1), 3), (154, .goto 130, 3), (157, .iinc 1 (-1), 3), (160, .goto 119, 3), (163, .aload_n 0, 1), (164, .getfield 7271, 3), (167, .iconst 0, 1), (168, .baload, 1), (169, .ireturn, 1)]
def oe_c43 : List (Nat × Jvm.ClassFile.Instr × Nat) := [(0, .iconst 1, 1), (1, .istore_n 2, 1), (2, .iload_n 1, 1), (3, .istore_n 3, 1), (4, .iload_n 2, 1), (5, .ifCond .le 28, 3), (8, .iload_n 2, 1), (9, .iconst 1, 1), (10, .isub, 1), (11, .aload_n 0, 1), (12, .getfield 7281, 3), (15, .iload_n 3, 1), (16, .iaload, 1), (17, .invokestatic 34071, 3), (20, .iadd, 1), (21, .istore_n 2, 1), (22, .iinc 3 1, 3), (25, .goto 4, 3), (28, .iload_n 3, 1), (29, .ireturn, 1)]
def oe_c44 : List (Nat × Jvm.ClassFile.Instr × Nat) := [(0, .iconst 0, 1), (1, .istore 4, 2), (3, .iload 4, 2), (5, .bipush 6, 2), (7, .if_icmp .ge 24, 3), (10, .aload_n 0, 1), (11, .getfield 7301, 3), (14, .iload 4, 2), (16, .iconst (-1), 1), (17, .iastore, 1), (18, .iinc 4 1, 3), (21, .goto 3, 3), (24, .iload_n 3, 1), (25, .istore 4, 2), (27, .iload_n 1, 1), (28, .istore 5, 2), (30, .iload 5, 2), (32, .iload_n 2, 1), (33, .if_icmp .ge 163, 3), (36, .aload_n 0, 1), (37, .getfield 7131, 3), (40, .iload 5, 2), (42, .iaload, 1), (43, .istore 6, 2), (45, .iload 4, 2), (47, .aload_n 0, 1), (48, .getfield 7290, 3), (51, .if_icmp .lt 56, 3), (54, .iconst 0, 1), (55, .ireturn, 1), (56, .iload 6, 2), (58, .invokestatic 35071, 3), (61, .ifCond .ne 84, 3), (64, .aload_n 0, 1), (65, .getfield 7281, 3), (68, .iload 4, 2), (70, .iaload, 1), (71, .iload 6, 2), (73, .if_icmp .eq 78, 3), (76, .iconst 0, 1), (77, .ireturn, 1), (78, .iinc 4 1, 3), (81, .goto 157, 3), (84, .aload_n 0, 1), (85, .iload 4, 2), (87, .invokevirtual 43071, 3), (90, .iload 4, 2), (92, .isub, 1), (93, .istore 7, 2), (95, .aload_n 0, 1), (96, .getfield 7301, 3), (99, .iload 6, 2), (101, .iaload, 1), (102, .ifCond .lt 132, 3), (105, .aload_n 0, 1), (106, .aload_n 0, 1), (107, .getfield 7301, 3), (110, .iload 6, 2), (112, .iaload, 1), (113, .aload_n 0, 1), (114, .getfield 7311, 3), (117, .iload 6, 2), (119, .iaload, 1), (120, .iload 4, 2), (122, .iload 7, 2), (124, .invokevirtual 45074, 3), (127, .ifCond .ne 150, 3), (130, .iconst 0, 1), (131, .ireturn, 1), (132, .aload_n 0, 1), (133, .getfield 7301, 3), (136, .iload 6, 2), (138, .iload 4, 2), (140, .iastore, 1), (141, .aload_n 0, 1), (142, .getfield 7311, 3), (145, .iload 6, 2), (147, .iload 7, 2), (149, .iastore, 1), (150, .iload 4, 2), (152, .iload 7, 2), (154, .iadd, 1), (155, .istore 4, 2), (157, .iinc 5 1, 3), (160, .goto 30, 3), (163, .iconst 1, 1), (164, .ireturn, 1)]
def oe_c45 : List (Nat × Jvm.ClassFile.Instr × Nat) := [(0, .iload_n 2, 1), (1, .iload 4, 2), (3, .if_icmp .ne 10, 3), (6, .iconst 1, 1), (7, .goto 11, 3), (10, .iconst 0, 1), (11, .istore 5, 2), (13, .iconst 0, 1), (14, .istore 6, 2), (16, .iload 5, 2), (18, .ifCond .eq 61, 3), (21, .iload 6, 2), (23, .iload_n 2, 1), (24, .if_icmp .ge 61, 3), (27, .aload_n 0, 1), (28, .getfield 7281, 3), (31, .iload_n 1, 1), (32, .iload 6, 2), (34, .iadd, 1), (35, .iaload, 1), (36, .aload_n 0, 1), (37, .getfield 7281, 3), (40, .iload_n 3, 1), (41, .iload 6, 2), (43, .iadd, 1), (44, .iaload, 1), (45, .if_icmp .ne 52, 3), (48, .iconst 1, 1), (49, .goto 53, 3), (52, .iconst 0, 1), (53, .istore 5, 2), (55, .iinc 6 1, 3), (58, .goto 16, 3), (61, .iload 5, 2), (63, .ireturn, 1)]
def oe_c46 : List (Nat × Jvm.ClassFile.Instr × Nat) := [(0, .aload_n 0, 1), (1, .iconst 0, 1), (2, .putfield 7330, 3), (5, .iload_n 1, 1), (6, .istore 4, 2), (8, .iload 4, 2), (10, .iload_n 2, 1), (11, .if_icmp .ge 146, 3), (14, .aload_n 0, 1), (15, .getfield 7131, 3), (18, .iload 4, 2), (20, .iaload, 1), (21, .istore 5, 2), (23, .iload 5, 2), (25, .invokestatic 35071, 3), (28, .ifCond .eq 43, 3), (31, .aload_n 0, 1), (32, .getfield 7301, 3), (35, .iload 5, 2), (37, .iaload, 1), (38, .ifCond .ge 43, 3), (41, .iconst 0, 1), (42, .ireturn, 1), (43, .iload 5, 2), (45, .invokestatic 35071, 3), (48, .ifCond .eq 61, 3), (51, .aload_n 0, 1), (52, .getfield 7311, 3), (55, .iload 5, 2), (57, .iaload, 1), (58, .goto 62, 3), (61, .iconst 1, 1), (62, .istore 6, 2), (64, .aload_n 0, 1), (65, .getfield 7330, 3), (68, .iload 6, 2), (70, .iadd, 1), (71, .iload_n 3, 1), (72, .if_icmp .le 77, 3), (75, .iconst 0, 1), (76, .ireturn, 1), (77, .iconst 0, 1), (78, .istore 7, 2), (80, .iload 7, 2), (82, .iload 6, 2), (84, .if_icmp .ge 140, 3), (87, .aload_n 0, 1), (88, .getfield 7321, 3), (91, .aload_n 0, 1), (92, .getfield 7330, 3), (95, .iload 5, 2), (97, .invokestatic 35071, 3), (100, .ifCond .eq 121, 3), (103, .aload_n 0, 1), (104, .getfield 7281, 3), (107, .aload_n 0, 1), (108, .getfield 7301, 3), (111, .iload 5, 2), (113, .iaload, 1), (114, .iload 7, 2), (116, .iadd, 1), (117, .iaload, 1), (118, .goto 123, 3), (121, .iload 5, 2), (123, .iastore, 1), (124, .aload_n 0, 1), (125, .dup, 1), (126, .getfield 7330, 3), (129, .iconst 1, 1), (130, .iadd, 1), (131, .putfield 7330, 3), (134, .iinc 7 1, 3), (137, .goto 80, 3), (140, .iinc 4 1, 3), (143, .goto 8, 3), (146, .iconst 1, 1), (147, .ireturn, 1)]
def oe_c47 : List (Nat × Jvm.ClassFile.Instr × Nat) := [(0, .aload_n 0, 1), (1, .iload_n 2, 1), (2, .iload_n 1, 1), (3, .isub, 1), (4, .putfield 7220, 3), (7, .iload_n 1, 1), (8, .istore_n 3, 1), (9, .iload_n 3, 1), (10, .iload_n 2, 1), (11, .if_icmp .ge 34, 3), (14, .aload_n 0, 1), (15, .getfield 7211, 3), (18, .iload_n 3, 1), (19, .iload_n 1, 1), (20, .isub, 1), (21, .aload_n 0, 1), (22, .getfield 7281, 3), (25, .iload_n 3, 1), (26, .iaload, 1), (27, .iastore, 1), (28, .iinc 3 1, 3), (31, .goto 9, 3), (34, .aload_n 0, 1), (35, .aload_n 0, 1), (36, .getfield 7330, 3), (39, .putfield 7240, 3), (42, .iconst 0, 1), (43, .istore_n 3, 1), (44, .iload_n 3, 1), (45, .aload_n 0, 1), (46, .getfield 7330, 3), (49, .if_icmp .ge 70, 3), (52, .aload_n 0, 1), (53, .getfield 7231, 3), (56, .iload_n 3, 1), (57, .aload_n 0, 1), (58, .getfield 7321, 3), (61, .iload_n 3, 1), (62, .iaload, 1), (63, .iastore, 1), (64, .iinc 3 1, 3), (67, .goto 44, 3), (70, .aload_n 0, 1), (71, .invokevirtual 42070, 3), (74, .ireturn, 1)]
def oe_c48 : List (Nat × Jvm.ClassFile.Instr × Nat) := [(0, .aload_n 0, 1), (1, .getfield 7290, 3), (4, .iload_n 2, 1), (5, .isub, 1), (6, .istore_n 3, 1), (7, .iload_n 1, 1), (8, .aload_n 0, 1), (9, .getfield 7330, 3), (12, .iadd, 1), (13, .iload_n 2, 1), (14, .isub, 1), (15, .istore 4, 2), (17, .iload 4, 2), (19, .ifCond .le 62, 3), (22, .aload_n 0, 1), (23, .getfield 7290, 3), (26, .iconst 1, 1), (27, .isub, 1), (28, .istore 5, 2), (30, .iload 5, 2), (32, .iload_n 2, 1), (33, .if_icmp .lt 59, 3), (36, .aload_n 0, 1), (37, .getfield 7281, 3), (40, .iload 5, 2), (42, .iload 4, 2), (44, .iadd, 1), (45, .aload_n 0, 1), (46, .getfield 7281, 3), (49, .iload 5, 2), (51, .iaload, 1), (52, .iastore, 1), (53, .iinc 5 (-1), 3), (56, .goto 30, 3), (59, .goto 97, 3), (62, .iload_n 2, 1), (63, .istore 5, 2), (65, .iload 5, 2), (67, .aload_n 0, 1), (68, .getfield 7290, 3), (71, .if_icmp .ge 97, 3), (74, .aload_n 0, 1), (75, .getfield 7281, 3), (78, .iload 5, 2), (80, .iload 4, 2), (82, .iadd, 1), (83, .aload_n 0, 1), (84, .getfield 7281, 3), (87, .iload 5, 2), (89, .iaload, 1), (90, .iastore, 1), (91, .iinc 5 1, 3), (94, .goto 65, 3), (97, .iconst 0, 1), (98, .istore 5, 2), (100, .iload 5, 2), (102, .aload_n 0, 1), (103, .getfield 7330, 3), (106, .if_icmp .ge 131, 3), (109, .aload_n 0, 1), (110, .getfield 7281, 3), (113, .iload_n 1, 1), (114, .iload 5, 2), (116, .iadd, 1), (117, .aload_n 0, 1), (118, .getfield 7321, 3), (121, .iload 5, 2), (123, .iaload, 1), (124, .iastore, 1), (125, .iinc 5 1, 3), (128, .goto 100, 3), (131, .aload_n 0, 1), (132, .iload_n 1, 1), (133, .aload_n 0, 1), (134, .getfield 7330, 3), (137, .iadd, 1), (138, .iload_n 3, 1), (139, .iadd, 1), (140, .putfield 7290, 3), (143, .return_, 1)]
def oe_c49 : List (Nat × Jvm.ClassFile.Instr × Nat) := [(0, .iconst 0, 1), (1, .istore_n 1, 1), (2, .iload_n 1, 1), (3, .aload_n 0, 1), (4, .getfield 7290, 3), (7, .if_icmp .ge 192, 3), (10, .aload_n 0, 1), (11, .iload_n 1, 1), (12, .invokevirtual 43071, 3), (15, .istore_n 2, 1), (16, .iconst 0, 1), (17, .istore_n 3, 1), (18, .iload_n 3, 1), (19, .iconst 2, 1), (20, .aload_n 0, 1), (21, .getfield 7120, 3), (24, .imul, 1), (25, .if_icmp .ge 186, 3), (28, .iload_n 3, 1), (29, .iconst 2, 1), (30, .idiv, 1), (31, .istore 4, 2), (33, .iload_n 3, 1), (34, .iconst 2, 1), (35, .irem, 1), (36, .ifCond .ne 43, 3), (39, .iconst 1, 1), (40, .goto 44, 3), (43, .iconst 0, 1), (44, .istore 5, 2), (46, .bipush 20, 2), (48, .iload 4, 2), (50, .imul, 1), (51, .istore 6, 2), (53, .iload 6, 2), (55, .aload_n 0, 1), (56, .getfield 7141, 3), (59, .iload 4, 2), (61, .iaload, 1), (62, .iadd, 1), (63, .istore 7, 2), (65, .iload 6, 2), (67, .aload_n 0, 1), (68, .getfield 7151, 3), (71, .iload 4, 2), (73, .iaload, 1), (74, .iadd, 1), (75, .istore 8, 2), (77, .aload_n 0, 1), (78, .iload 5, 2), (80, .ifCond .eq 88, 3), (83, .iload 6, 2), (85, .goto 90, 3), (88, .iload 7, 2), (90, .iload 5, 2), (92, .ifCond .eq 100, 3), (95, .iload 7, 2), (97, .goto 102, 3), (100, .iload 8, 2), (102, .iload_n 1, 1), (103, .invokevirtual 44073, 3), (106, .ifCond .eq 164, 3), (109, .aload_n 0, 1), (110, .iload 5, 2), (112, .ifCond .eq 120, 3), (115, .iload 7, 2), (117, .goto 122, 3), (120, .iload 6, 2), (122, .iload 5, 2), (124, .ifCond .eq 132, 3), (127, .iload 8, 2), (129, .goto 134, 3), (132, .iload 7, 2), (134, .bipush 30, 2), (136, .aload_n 0, 1), (137, .getfield 7290, 3), (140, .isub, 1), (141, .iload_n 2, 1), (142, .iadd, 1), (143, .iload_n 1, 1), (144, .isub, 1), (145, .invokevirtual 46073, 3), (148, .ifCond .eq 164, 3), (151, .aload_n 0, 1), (152, .iload_n 1, 1), (153, .iload_n 2, 1), (154, .invokevirtual 47072, 3), (157, .ifCond .eq 164, 3), (160, .iconst 1, 1), (161, .goto 165, 3), (164, .iconst 0, 1), (165, .istore 9, 2), (167, .iload 9, 2), (169, .ifCond .eq 180, 3), (172, .aload_n 0, 1), (173, .iload_n 1, 1), (174, .iload_n 2, 1), (175, .invokevirtual 48072, 3), (178, .iconst 1, 1), (179, .ireturn, 1), (180, .iinc 3 1, 3), (183, .goto 18, 3), (186, .iinc 1 1, 3), (189, .goto 2, 3), (192, .iconst 0, 1), (193, .ireturn, 1)]
def oe_c50 : List (Nat × Jvm.ClassFile.Instr × Nat) := [(0, .iconst 0, 1), (1, .istore_n 1, 1), (2, .iload_n 1, 1), (3, .bipush 50, 2), (5, .if_icmp .ge 21, 3), (8, .aload_n 0, 1), (9, .invokevirtual 49070, 3), (12, .ifCond .eq 21, 3), (15, .iinc 1 1, 3), (18, .goto 2, 3), (21, .iload_n 1, 1), (22, .ireturn, 1)]
def oe_c51 : List (Nat × Jvm.ClassFile.Instr × Nat) := [(0, .aload_n 0, 1), (1, .aload_n 0, 1), (2, .getfield 7191, 3), (5, .iload_n 1, 1), (6, .iaload, 1), (7, .putfield 7290, 3), (10, .iconst 0, 1), (11, .istore_n 2, 1), (12, .iload_n 2, 1), (13, .aload_n 0, 1), (14, .getfield 7290, 3), (17, .if_icmp .ge 43, 3), (20, .aload_n 0, 1), (21, .getfield 7281, 3), (24, .iload_n 2, 1), (25, .aload_n 0, 1), (26, .getfield 7181, 3), (29, .bipush 40, 2), (31, .iload_n 1, 1), (32, .imul, 1), (33, .iload_n 2, 1), (34, .iadd, 1), (35, .iaload, 1), (36, .iastore, 1), (37, .iinc 2 1, 3), (40, .goto 12, 3), (43, .aload_n 0, 1), (44, .invokevirtual 50070, 3), (47, .pop, 1), (48, .aload_n 0, 1), (49, .getfield 7191, 3), (52, .iload_n 1, 1), (53, .aload_n 0, 1), (54, .getfield 7290, 3), (57, .iastore, 1), (58, .iconst 0, 1), (59, .istore_n 2, 1), (60, .iload_n 2, 1), (61, .aload_n 0, 1), (62, .getfield 7290, 3), (65, .if_icmp .ge 91, 3), (68, .aload_n 0, 1), (69, .getfield 7181, 3), (72, .bipush 40, 2), (74, .iload_n 1, 1), (75, .imul, 1), (76, .iload_n 2, 1), (77, .iadd, 1), (78, .aload_n 0, 1), (79, .getfield 7281, 3), (82, .iload_n 2, 1), (83, .iaload, 1), (84, .iastore, 1), (85, .iinc 2 1, 3), (88, .goto 60, 3), (91, .return_, 1)]
def oe_c52 : List (Nat × Jvm.ClassFile.Instr × Nat) := [(0, .aload_n 0, 1), (1, .getfield 7191, 3), (4, .iload_n 1, 1), (5, .iaload, 1), (6, .aload_n 0, 1), (7, .getfield 7191, 3), (10, .iload_n 2, 1), (11, .iaload, 1), (12, .if_icmp .ne 19, 3), (15, .iconst 1, 1), (16, .goto 20, 3), (19, .iconst 0, 1), (20, .istore_n 3, 1), (21, .iconst 0, 1), (22, .istore 4, 2), (24, .iload_n 3, 1), (25, .ifCond .eq 78, 3), (28, .iload 4, 2), (30, .aload_n 0, 1), (31, .getfield 7191, 3), (34, .iload_n 1, 1), (35, .iaload, 1), (36, .if_icmp .ge 78, 3), (39, .aload_n 0, 1), (40, .getfield 7181, 3), (43, .bipush 40, 2), (45, .iload_n 1, 1), (46, .imul, 1), (47, .iload 4, 2), (49, .iadd, 1), (50, .iaload, 1), (51, .aload_n 0, 1), (52, .getfield 7181, 3), (55, .bipush 40, 2), (57, .iload_n 2, 1), (58, .imul, 1), (59, .iload 4, 2), (61, .iadd, 1), (62, .iaload, 1), (63, .if_icmp .ne 70, 3), (66, .iconst 1, 1), (67, .goto 71, 3), (70, .iconst 0, 1), (71, .istore_n 3, 1), (72, .iinc 4 1, 3), (75, .goto 24, 3), (78, .iload_n 3, 1), (79, .ireturn, 1)]
def oe_c53 : List (Nat × Jvm.ClassFile.Instr × Nat) := [(0, .iconst 0, 1), (1, .istore_n 3, 1), (2, .iload_n 3, 1), (3, .bipush 12, 2), (5, .if_icmp .ge 21, 3), (8, .aload_n 0, 1), (9, .getfield 7201, 3), (12, .iload_n 3, 1), (13, .iconst (-1), 1), (14, .iastore, 1), (15, .iinc 3 1, 3), (18, .goto 2, 3), (21, .iconst 0, 1), (22, .istore_n 3, 1), (23, .iconst 0, 1), (24, .istore 4, 2), (26, .iload 4, 2), (28, .iconst 2, 1), (29, .if_icmp .ge 159, 3), (32, .iload 4, 2), (34, .ifCond .ne 41, 3), (37, .iload_n 1, 1), (38, .goto 42, 3), (41, .iload_n 2, 1), (42, .istore 5, 2), (44, .aload_n 0, 1), (45, .getfield 7191, 3), (48, .iconst 4, 1), (49, .iload 4, 2), (51, .iadd, 1), (52, .aload_n 0, 1), (53, .getfield 7191, 3), (56, .iload 5, 2), (58, .iaload, 1), (59, .iastore, 1), (60, .iconst 0, 1), (61, .istore 6, 2), (63, .iload 6, 2), (65, .aload_n 0, 1), (66, .getfield 7191, 3), (69, .iload 5, 2), (71, .iaload, 1), (72, .if_icmp .ge 153, 3), (75, .aload_n 0, 1), (76, .getfield 7181, 3), (79, .bipush 40, 2), (81, .iload 5, 2), (83, .imul, 1), (84, .iload 6, 2), (86, .iadd, 1), (87, .iaload, 1), (88, .istore 7, 2), (90, .iload 7, 2), (92, .invokestatic 35071, 3), (95, .ifCond .eq 128, 3), (98, .aload_n 0, 1), (99, .getfield 7201, 3), (102, .iload 7, 2), (104, .iaload, 1), (105, .ifCond .ge 119, 3), (108, .aload_n 0, 1), (109, .getfield 7201, 3), (112, .iload 7, 2), (114, .iload_n 3, 1), (115, .iastore, 1), (116, .iinc 3 1, 3), (119, .aload_n 0, 1), (120, .getfield 7201, 3), (123, .iload 7, 2), (125, .iaload, 1), (126, .istore 7, 2), (128, .aload_n 0, 1), (129, .getfield 7181, 3), (132, .sipush 160, 3), (135, .bipush 40, 2), (137, .iload 4, 2), (139, .imul, 1), (140, .iadd, 1), (141, .iload 6, 2), (143, .iadd, 1), (144, .iload 7, 2), (146, .iastore, 1), (147, .iinc 6 1, 3), (150, .goto 63, 3), (153, .iinc 4 1, 3), (156, .goto 26, 3), (159, .iload_n 3, 1), (160, .ireturn, 1)]
def oe_c54 : List (Nat × Jvm.ClassFile.Instr × Nat) := [(0, .aload_n 0, 1), (1, .iconst 2, 1), (2, .iconst 3, 1), (3, .invokevirtual 53072, 3), (6, .istore_n 1, 1), (7, .iconst 0, 1), (8, .istore_n 2, 1), (9, .iload_n 2, 1), (10, .bipush 40, 2), (12, .if_icmp .ge 59, 3), (15, .aload_n 0, 1), (16, .getfield 7181, 3), (19, .bipush 80, 2), (21, .iload_n 2, 1), (22, .iadd, 1), (23, .aload_n 0, 1), (24, .getfield 7181, 3), (27, .sipush 160, 3), (30, .iload_n 2, 1), (31, .iadd, 1), (32, .iaload, 1), (33, .iastore, 1), (34, .aload_n 0, 1), (35, .getfield 7181, 3), (38, .bipush 120, 2), (40, .iload_n 2, 1), (41, .iadd, 1), (42, .aload_n 0, 1), (43, .getfield 7181, 3), (46, .sipush 200, 3), (49, .iload_n 2, 1), (50, .iadd, 1), (51, .iaload, 1), (52, .iastore, 1), (53, .iinc 2 1, 3), (56, .goto 9, 3), (59, .iload_n 1, 1), (60, .ireturn, 1)]
def oe_c55 : List (Nat × Jvm.ClassFile.Instr × Nat) := [(0, .aload_n 0, 1), (1, .getfield 7191, 3), (4, .iload 5, 2), (6, .iaload, 1), (7, .iload_n 3, 1), (8, .if_icmp .ne 35, 3), (11, .aload_n 0, 1), (12, .getfield 7191, 3), (15, .iload 5, 2), (17, .iaload, 1), (18, .aload_n 0, 1), (19, .getfield 7191, 3), (22, .iload 6, 2), (24, .iaload, 1), (25, .iadd, 1), (26, .iload 4, 2), (28, .if_icmp .ne 35, 3), (31, .iconst 1, 1), (32, .goto 36, 3), (35, .iconst 0, 1), (36, .istore 7, 2), (38, .iconst 0, 1), (39, .istore 8, 2), (41, .iload 7, 2), (43, .ifCond .eq 115, 3), (46, .iload 8, 2), (48, .iload 4, 2), (50, .if_icmp .ge 115, 3), (53, .aload_n 1, 1), (54, .bipush 20, 2), (56, .iload_n 2, 1), (57, .imul, 1), (58, .iload 8, 2), (60, .iadd, 1), (61, .iaload, 1), (62, .iload 8, 2), (64, .iload_n 3, 1), (65, .if_icmp .ge 84, 3), (68, .aload_n 0, 1), (69, .getfield 7181, 3), (72, .bipush 40, 2), (74, .iload 5, 2), (76, .imul, 1), (77, .iload 8, 2), (79, .iadd, 1), (80, .iaload, 1), (81, .goto 99, 3), (84, .aload_n 0, 1), (85, .getfield 7181, 3), (88, .bipush 40, 2), (90, .iload 6, 2), (92, .imul, 1), (93, .iload 8, 2), (95, .iadd, 1), (96, .iload_n 3, 1), (97, .isub, 1), (98, .iaload, 1), (99, .if_icmp .ne 106, 3), (102, .iconst 1, 1), (103, .goto 107, 3), (106, .iconst 0, 1), (107, .istore 7, 2), (109, .iinc 8 1, 3), (112, .goto 41, 3), (115, .iload 7, 2), (117, .ireturn, 1)]
def oe_c56 : List (Nat × Jvm.ClassFile.Instr × Nat) := [(0, .aload_n 0, 1), (1, .iconst 3, 1), (2, .iconst 2, 1), (3, .invokevirtual 53072, 3), (6, .pop, 1), (7, .iconst 0, 1), (8, .istore_n 2, 1), (9, .iconst 0, 1), (10, .istore_n 3, 1), (11, .iload_n 3, 1), (12, .aload_n 0, 1), (13, .getfield 7120, 3), (16, .if_icmp .ge 87, 3), (19, .iload_n 2, 1), (20, .ifCond .ne 75, 3), (23, .aload_n 0, 1), (24, .aload_n 0, 1), (25, .getfield 7131, 3), (28, .iload_n 3, 1), (29, .aload_n 0, 1), (30, .getfield 7141, 3), (33, .iload_n 3, 1), (34, .iaload, 1), (35, .aload_n 0, 1), (36, .getfield 7151, 3), (39, .iload_n 3, 1), (40, .iaload, 1), (41, .iconst 2, 1), (42, .iconst 3, 1), (43, .invokevirtual 55076, 3), (46, .ifCond .ne 75, 3), (49, .aload_n 0, 1), (50, .aload_n 0, 1), (51, .getfield 7131, 3), (54, .iload_n 3, 1), (55, .aload_n 0, 1), (56, .getfield 7141, 3), (59, .iload_n 3, 1), (60, .iaload, 1), (61, .aload_n 0, 1), (62, .getfield 7151, 3), (65, .iload_n 3, 1), (66, .iaload, 1), (67, .iconst 4, 1), (68, .iconst 5, 1), (69, .invokevirtual 55076, 3), (72, .ifCond .eq 79, 3), (75, .iconst 1, 1), (76, .goto 80, 3), (79, .iconst 0, 1), (80, .istore_n 2, 1), (81, .iinc 3 1, 3), (84, .goto 11, 3), (87, .iconst 0, 1), (88, .istore_n 3, 1), (89, .iload_n 3, 1), (90, .aload_n 0, 1), (91, .getfield 7080, 3), (94, .if_icmp .ge 169, 3), (97, .iload_n 1, 1), (98, .ifCond .eq 169, 3), (101, .iload_n 2, 1), (102, .ifCond .ne 157, 3), (105, .aload_n 0, 1), (106, .aload_n 0, 1), (107, .getfield 7091, 3), (110, .iload_n 3, 1), (111, .aload_n 0, 1), (112, .getfield 7101, 3), (115, .iload_n 3, 1), (116, .iaload, 1), (117, .aload_n 0, 1), (118, .getfield 7111, 3), (121, .iload_n 3, 1), (122, .iaload, 1), (123, .iconst 2, 1), (124, .iconst 3, 1), (125, .invokevirtual 55076, 3), (128, .ifCond .ne 157, 3), (131, .aload_n 0, 1), (132, .aload_n 0, 1), (133, .getfield 7091, 3), (136, .iload_n 3, 1), (137, .aload_n 0, 1), (138, .getfield 7101, 3), (141, .iload_n 3, 1), (142, .iaload, 1), (143, .aload_n 0, 1), (144, .getfield 7111, 3), (147, .iload_n 3, 1), (148, .iaload, 1), (149, .iconst 4, 1), (150, .iconst 5, 1), (151, .invokevirtual 55076, 3), (154, .ifCond .eq 161, 3), (157, .iconst 1, 1), (158, .goto 162, 3), (161, .iconst 0, 1), (162, .istore_n 2, 1), (163, .iinc 3 1, 3), (166, .goto 89, 3), (169, .iload_n 2, 1), (170, .ireturn, 1)]
def oe_c57 : List (Nat × Jvm.ClassFile.Instr × Nat) := [(0, .aload_n 0, 1), (1, .getfield 7101, 3), (4, .aload_n 0, 1), (5, .getfield 7080, 3), (8, .aload_n 0, 1), (9, .getfield 7191, 3), (12, .iconst 2, 1), (13, .iaload, 1), (14, .iastore, 1), (15, .aload_n 0, 1), (16, .getfield 7111, 3), (19, .aload_n 0, 1), (20, .getfield 7080, 3), (23, .aload_n 0, 1), (24, .getfield 7191, 3), (27, .iconst 2, 1), (28, .iaload, 1), (29, .aload_n 0, 1), (30, .getfield 7191, 3), (33, .iconst 3, 1), (34, .iaload, 1), (35, .iadd, 1), (36, .iastore, 1), (37, .iconst 0, 1), (38, .istore_n 1, 1), (39, .iload_n 1, 1), (40, .aload_n 0, 1), (41, .getfield 7111, 3), (44, .aload_n 0, 1), (45, .getfield 7080, 3), (48, .iaload, 1), (49, .if_icmp .ge 110, 3), (52, .aload_n 0, 1), (53, .getfield 7091, 3), (56, .bipush 20, 2), (58, .aload_n 0, 1), (59, .getfield 7080, 3), (62, .imul, 1), (63, .iload_n 1, 1), (64, .iadd, 1), (65, .iload_n 1, 1), (66, .aload_n 0, 1), (67, .getfield 7191, 3), (70, .iconst 2, 1), (71, .iaload, 1), (72, .if_icmp .ge 87, 3), (75, .aload_n 0, 1), (76, .getfield 7181, 3), (79, .bipush 80, 2), (81, .iload_n 1, 1), (82, .iadd, 1), (83, .iaload, 1), (84, .goto 103, 3), (87, .aload_n 0, 1), (88, .getfield 7181, 3), (91, .bipush 120, 2), (93, .iload_n 1, 1), (94, .iadd, 1), (95, .aload_n 0, 1), (96, .getfield 7191, 3), (99, .iconst 2, 1), (100, .iaload, 1), (101, .isub, 1), (102, .iaload, 1), (103, .iastore, 1), (104, .iinc 1 1, 3), (107, .goto 39, 3), (110, .aload_n 0, 1), (111, .dup, 1), (112, .getfield 7080, 3), (115, .iconst 1, 1), (116, .iadd, 1), (117, .putfield 7080, 3), (120, .return_, 1)]
def oe_c58 : List (Nat × Jvm.ClassFile.Instr × Nat) := [(0, .iload_n 1, 1), (1, .istore_n 2, 1), (2, .aload_n 0, 1), (3, .getfield 7341, 3), (6, .iload_n 2, 1), (7, .iaload, 1), (8, .invokestatic 35071, 3), (11, .ifCond .eq 43, 3), (14, .aload_n 0, 1), (15, .getfield 7351, 3), (18, .aload_n 0, 1), (19, .getfield 7341, 3), (22, .iload_n 2, 1), (23, .iaload, 1), (24, .iaload, 1), (25, .ifCond .lt 43, 3), (28, .aload_n 0, 1), (29, .getfield 7351, 3), (32, .aload_n 0, 1), (33, .getfield 7341, 3), (36, .iload_n 2, 1), (37, .iaload, 1), (38, .iaload, 1), (39, .istore_n 2, 1), (40, .goto 2, 3), (43, .iload_n 2, 1), (44, .ireturn, 1)]
def oe_c59 : List (Nat × Jvm.ClassFile.Instr × Nat) := [(0, .iconst 1, 1), (1, .istore_n 2, 1), (2, .iload_n 1, 1), (3, .istore_n 3, 1), (4, .iload_n 2, 1), (5, .ifCond .le 28, 3), (8, .iload_n 2, 1), (9, .iconst 1, 1), (10, .isub, 1), (11, .aload_n 0, 1), (12, .getfield 7341, 3), (15, .iload_n 3, 1), (16, .iaload, 1), (17, .invokestatic 34071, 3), (20, .iadd, 1), (21, .istore_n 2, 1), (22, .iinc 3 1, 3), (25, .goto 4, 3), (28, .iload_n 3, 1), (29, .ireturn, 1)]
def oe_c60 : List (Nat × Jvm.ClassFile.Instr × Nat) := [(0, .iconst 1, 1), (1, .istore 4, 2), (3, .aload_n 0, 1), (4, .getfield 7411, 3), (7, .iconst 0, 1), (8, .iload_n 1, 1), (9, .iastore, 1), (10, .aload_n 0, 1), (11, .getfield 7421, 3), (14, .iconst 0, 1), (15, .iload_n 2, 1), (16, .iastore, 1), (17, .iload 4, 2), (19, .ifCond .le 188, 3), (22, .aload_n 0, 1), (23, .getfield 7411, 3), (26, .iload 4, 2), (28, .iconst 1, 1), (29, .isub, 1), (30, .iaload, 1), (31, .aload_n 0, 1), (32, .getfield 7421, 3), (35, .iload 4, 2), (37, .iconst 1, 1), (38, .isub, 1), (39, .iaload, 1), (40, .if_icmp .ne 49, 3), (43, .iinc 4 (-1), 3), (46, .goto 17, 3), (49, .aload_n 0, 1), (50, .getfield 7411, 3), (53, .iload 4, 2), (55, .iconst 1, 1), (56, .isub, 1), (57, .iaload, 1), (58, .istore 5, 2), (60, .aload_n 0, 1), (61, .getfield 7411, 3), (64, .iload 4, 2), (66, .iconst 1, 1), (67, .isub, 1), (68, .dup2, 1), (69, .iaload, 1), (70, .iconst 1, 1), (71, .iadd, 1), (72, .iastore, 1), (73, .aload_n 0, 1), (74, .getfield 7341, 3), (77, .iload 5, 2), (79, .iaload, 1), (80, .invokestatic 35071, 3), (83, .ifCond .eq 149, 3), (86, .aload_n 0, 1), (87, .getfield 7351, 3), (90, .aload_n 0, 1), (91, .getfield 7341, 3), (94, .iload 5, 2), (96, .iaload, 1), (97, .iaload, 1), (98, .ifCond .lt 149, 3), (101, .aload_n 0, 1), (102, .getfield 7411, 3), (105, .iload 4, 2), (107, .aload_n 0, 1), (108, .getfield 7351, 3), (111, .aload_n 0, 1), (112, .getfield 7341, 3), (115, .iload 5, 2), (117, .iaload, 1), (118, .iaload, 1), (119, .iastore, 1), (120, .aload_n 0, 1), (121, .getfield 7421, 3), (124, .iload 4, 2), (126, .aload_n 0, 1), (127, .aload_n 0, 1), (128, .getfield 7351, 3), (131, .aload_n 0, 1), (132, .getfield 7341, 3), (135, .iload 5, 2), (137, .iaload, 1), (138, .iaload, 1), (139, .invokevirtual 59071, 3), (142, .iastore, 1), (143, .iinc 4 1, 3), (146, .goto 185, 3), (149, .aload_n 0, 1), (150, .getfield 7400, 3), (153, .iload_n 3, 1), (154, .if_icmp .ne 159, 3), (157, .iconst 0, 1), (158, .ireturn, 1), (159, .aload_n 0, 1), (160, .getfield 7391, 3), (163, .aload_n 0, 1), (164, .getfield 7400, 3), (167, .aload_n 0, 1), (168, .getfield 7341, 3), (171, .iload 5, 2), (173, .iaload, 1), (174, .iastore, 1), (175, .aload_n 0, 1), (176, .dup, 1), (177, .getfield 7400, 3), (180, .iconst 1, 1), (181, .iadd, 1), (182, .putfield 7400, 3), (185, .goto 17, 3), (188, .iconst 1, 1), (189, .ireturn, 1)]
def oe_c61 : List (Nat × Jvm.ClassFile.Instr × Nat) := [(0, .aload_n 0, 1), (1, .iconst 0, 1), (2, .putfield 7400, 3), (5, .aload_n 0, 1), (6, .iload_n 2, 1), (7, .aload_n 0, 1), (8, .iload_n 2, 1), (9, .invokevirtual 59071, 3), (12, .sipush 300, 3), (15, .invokevirtual 60073, 3), (18, .istore_n 3, 1), (19, .iconst 0, 1), (20, .istore 4, 2), (22, .iload_n 3, 1), (23, .ifCond .eq 58, 3), (26, .iload 4, 2), (28, .aload_n 0, 1), (29, .getfield 7400, 3), (32, .if_icmp .ge 58, 3), (35, .aload_n 0, 1), (36, .getfield 7391, 3), (39, .iload 4, 2), (41, .iaload, 1), (42, .iload_n 1, 1), (43, .if_icmp .eq 50, 3), (46, .iconst 1, 1), (47, .goto 51, 3), (50, .iconst 0, 1), (51, .istore_n 3, 1), (52, .iinc 4 1, 3), (55, .goto 22, 3), (58, .iload_n 3, 1), (59, .ifCond .eq 69, 3), (62, .aload_n 0, 1), (63, .getfield 7351, 3), (66, .iload_n 1, 1), (67, .iload_n 2, 1), (68, .iastore, 1), (69, .iload_n 3, 1), (70, .ireturn, 1)]
def oe_c62 : List (Nat × Jvm.ClassFile.Instr × Nat) := [(0, .iconst 0, 1), (1, .istore_n 3, 1), (2, .iload_n 3, 1), (3, .bipush 12, 2), (5, .if_icmp .ge 21, 3), (8, .aload_n 0, 1), (9, .getfield 7351, 3), (12, .iload_n 3, 1), (13, .iconst (-1), 1), (14, .iastore, 1), (15, .iinc 3 1, 3), (18, .goto 2, 3), (21, .aload_n 0, 1), (22, .getfield 7371, 3), (25, .iconst 0, 1), (26, .iload_n 1, 1), (27, .iastore, 1), (28, .aload_n 0, 1), (29, .getfield 7381, 3), (32, .iconst 0, 1), (33, .iload_n 2, 1), (34, .iastore, 1), (35, .iconst 1, 1), (36, .istore_n 3, 1), (37, .aload_n 0, 1), (38, .iconst 0, 1), (39, .putfield 7360, 3), (42, .iload_n 3, 1), (43, .ifCond .le 273, 3), (46, .iinc 3 (-1), 3), (49, .aload_n 0, 1), (50, .aload_n 0, 1), (51, .getfield 7371, 3), (54, .iload_n 3, 1), (55, .iaload, 1), (56, .invokevirtual 58071, 3), (59, .istore 4, 2), (61, .aload_n 0, 1), (62, .aload_n 0, 1), (63, .getfield 7381, 3), (66, .iload_n 3, 1), (67, .iaload, 1), (68, .invokevirtual 58071, 3), (71, .istore 5, 2), (73, .aload_n 0, 1), (74, .dup, 1), (75, .getfield 7360, 3), (78, .iconst 1, 1), (79, .iadd, 1), (80, .putfield 7360, 3), (83, .aload_n 0, 1), (84, .getfield 7360, 3), (87, .sipush 300, 3), (90, .if_icmp .le 95, 3), (93, .iconst 0, 1), (94, .ireturn, 1), (95, .aload_n 0, 1), (96, .getfield 7341, 3), (99, .iload 4, 2), (101, .iaload, 1), (102, .invokestatic 35071, 3), (105, .ifCond .eq 143, 3), (108, .aload_n 0, 1), (109, .getfield 7341, 3), (112, .iload 4, 2), (114, .iaload, 1), (115, .aload_n 0, 1), (116, .getfield 7341, 3), (119, .iload 5, 2), (121, .iaload, 1), (122, .if_icmp .eq 270, 3), (125, .aload_n 0, 1), (126, .aload_n 0, 1), (127, .getfield 7341, 3), (130, .iload 4, 2), (132, .iaload, 1), (133, .iload 5, 2), (135, .invokevirtual 61072, 3), (138, .ifCond .ne 270, 3), (141, .iconst 0, 1), (142, .ireturn, 1), (143, .aload_n 0, 1), (144, .getfield 7341, 3), (147, .iload 5, 2), (149, .iaload, 1), (150, .invokestatic 35071, 3), (153, .ifCond .eq 174, 3), (156, .aload_n 0, 1), (157, .aload_n 0, 1), (158, .getfield 7341, 3), (161, .iload 5, 2), (163, .iaload, 1), (164, .iload 4, 2), (166, .invokevirtual 61072, 3), (169, .ifCond .ne 270, 3), (172, .iconst 0, 1), (173, .ireturn, 1), (174, .aload_n 0, 1), (175, .getfield 7341, 3), (178, .iload 4, 2), (180, .iaload, 1), (181, .aload_n 0, 1), (182, .getfield 7341, 3), (185, .iload 5, 2), (187, .iaload, 1), (188, .if_icmp .eq 193, 3), (191, .iconst 0, 1), (192, .ireturn, 1), (193, .aload_n 0, 1), (194, .getfield 7341, 3), (197, .iload 4, 2), (199, .iaload, 1), (200, .invokestatic 34071, 3), (203, .istore 6, 2), (205, .iload 6, 2), (207, .iconst 2, 1), (208, .if_icmp .ne 242, 3), (211, .aload_n 0, 1), (212, .getfield 7371, 3), (215, .iload_n 3, 1), (216, .aload_n 0, 1), (217, .iload 4, 2), (219, .iconst 1, 1), (220, .iadd, 1), (221, .invokevirtual 59071, 3), (224, .iastore, 1), (225, .aload_n 0, 1), (226, .getfield 7381, 3), (229, .iload_n 3, 1), (230, .aload_n 0, 1), (231, .iload 5, 2), (233, .iconst 1, 1), (234, .iadd, 1), (235, .invokevirtual 59071, 3), (238, .iastore, 1), (239, .iinc 3 1, 3), (242, .iload 6, 2), (244, .ifCond .le 270, 3), (247, .aload_n 0, 1), (248, .getfield 7371, 3), (251, .iload_n 3, 1), (252, .iload 4, 2), (254, .iconst 1, 1), (255, .iadd, 1), (256, .iastore, 1), (257, .aload_n 0, 1), (258, .getfield 7381, 3), (261, .iload_n 3, 1), (262, .iload 5, 2), (264, .iconst 1, 1), (265, .iadd, 1), (266, .iastore, 1), (267, .iinc 3 1, 3), (270, .goto 42, 3), (273, .iconst 1, 1), (274, .ireturn, 1)]
def oe_c63 : List (Nat × Jvm.ClassFile.Instr × Nat) := [(0, .aload_n 0, 1), (1, .iconst 0, 1), (2, .putfield 7400, 3), (5, .aload_n 0, 1), (6, .iload_n 2, 1), (7, .iload_n 3, 1), (8, .bipush 30, 2), (10, .invokevirtual 60073, 3), (13, .istore 4, 2), (15, .iconst 0, 1), (16, .istore 5, 2), (18, .iload 5, 2), (20, .aload_n 0, 1), (21, .getfield 7400, 3), (24, .if_icmp .ge 52, 3), (27, .aload_n 0, 1), (28, .getfield 7431, 3), (31, .bipush 32, 2), (33, .iload_n 1, 1), (34, .imul, 1), (35, .iload 5, 2), (37, .iadd, 1), (38, .aload_n 0, 1), (39, .getfield 7391, 3), (42, .iload 5, 2), (44, .iaload, 1), (45, .iastore, 1), (46, .iinc 5 1, 3), (49, .goto 18, 3), (52, .aload_n 0, 1), (53, .getfield 7441, 3), (56, .iload_n 1, 1), (57, .aload_n 0, 1), (58, .getfield 7400, 3), (61, .iastore, 1), (62, .iload 4, 2), (64, .ireturn, 1)]
def oe_c64 : List (Nat × Jvm.ClassFile.Instr × Nat) := [(0, .aload_n 0, 1), (1, .aload_n 0, 1), (2, .getfield 7441, 3), (5, .iload_n 1, 1), (6, .iaload, 1), (7, .putfield 7220, 3), (10, .aload_n 0, 1), (11, .aload_n 0, 1), (12, .getfield 7441, 3), (15, .iload_n 2, 1), (16, .iaload, 1), (17, .putfield 7240, 3), (20, .aload_n 0, 1), (21, .getfield 7220, 3), (24, .aload_n 0, 1), (25, .getfield 7240, 3), (28, .if_icmp .ne 35, 3), (31, .iconst 1, 1), (32, .goto 36, 3), (35, .iconst 0, 1), (36, .istore_n 3, 1), (37, .iconst 0, 1), (38, .istore 4, 2), (40, .iload 4, 2), (42, .aload_n 0, 1), (43, .getfield 7220, 3), (46, .if_icmp .ge 74, 3), (49, .aload_n 0, 1), (50, .getfield 7211, 3), (53, .iload 4, 2), (55, .aload_n 0, 1), (56, .getfield 7431, 3), (59, .bipush 32, 2), (61, .iload_n 1, 1), (62, .imul, 1), (63, .iload 4, 2), (65, .iadd, 1), (66, .iaload, 1), (67, .iastore, 1), (68, .iinc 4 1, 3), (71, .goto 40, 3), (74, .iconst 0, 1), (75, .istore 4, 2), (77, .iload 4, 2), (79, .aload_n 0, 1), (80, .getfield 7240, 3), (83, .if_icmp .ge 138, 3), (86, .aload_n 0, 1), (87, .getfield 7231, 3), (90, .iload 4, 2), (92, .aload_n 0, 1), (93, .getfield 7431, 3), (96, .bipush 32, 2), (98, .iload_n 2, 1), (99, .imul, 1), (100, .iload 4, 2), (102, .iadd, 1), (103, .iaload, 1), (104, .iastore, 1), (105, .iload_n 3, 1), (106, .ifCond .eq 130, 3), (109, .aload_n 0, 1), (110, .getfield 7211, 3), (113, .iload 4, 2), (115, .iaload, 1), (116, .aload_n 0, 1), (117, .getfield 7231, 3), (120, .iload 4, 2), (122, .iaload, 1), (123, .if_icmp .ne 130, 3), (126, .iconst 1, 1), (127, .goto 131, 3), (130, .iconst 0, 1), (131, .istore_n 3, 1), (132, .iinc 4 1, 3), (135, .goto 77, 3), (138, .iload_n 3, 1), (139, .ifCond .ne 149, 3), (142, .aload_n 0, 1), (143, .invokevirtual 42070, 3), (146, .ifCond .eq 153, 3), (149, .iconst 1, 1), (150, .goto 154, 3), (153, .iconst 0, 1), (154, .ireturn, 1)]
def oe_c65 : List (Nat × Jvm.ClassFile.Instr × Nat) := [(0, .aload_n 0, 1), (1, .getfield 7151, 3), (4, .iload_n 1, 1), (5, .iaload, 1), (6, .istore 6, 2), (8, .iconst 0, 1), (9, .istore 7, 2), (11, .iload 7, 2), (13, .iload 6, 2), (15, .if_icmp .ge 43, 3), (18, .aload_n 0, 1), (19, .getfield 7341, 3), (22, .iload 7, 2), (24, .aload_n 0, 1), (25, .getfield 7131, 3), (28, .bipush 20, 2), (30, .iload_n 1, 1), (31, .imul, 1), (32, .iload 7, 2), (34, .iadd, 1), (35, .iaload, 1), (36, .iastore, 1), (37, .iinc 7 1, 3), (40, .goto 11, 3), (43, .iconst 0, 1), (44, .istore 7, 2), (46, .iload 7, 2), (48, .aload_n 0, 1), (49, .getfield 7151, 3), (52, .iload_n 2, 1), (53, .iaload, 1), (54, .if_icmp .ge 105, 3), (57, .aload_n 0, 1), (58, .getfield 7131, 3), (61, .bipush 20, 2), (63, .iload_n 2, 1), (64, .imul, 1), (65, .iload 7, 2), (67, .iadd, 1), (68, .iaload, 1), (69, .istore 8, 2), (71, .aload_n 0, 1), (72, .getfield 7341, 3), (75, .iload 6, 2), (77, .iload 7, 2), (79, .iadd, 1), (80, .iload 8, 2), (82, .invokestatic 35071, 3), (85, .ifCond .eq 96, 3), (88, .iload 8, 2), (90, .bipush 6, 2), (92, .iadd, 1), (93, .goto 98, 3), (96, .iload 8, 2), (98, .iastore, 1), (99, .iinc 7 1, 3), (102, .goto 46, 3), (105, .iload_n 3, 1), (106, .ifCond .eq 113, 3), (109, .iconst 0, 1), (110, .goto 119, 3), (113, .aload_n 0, 1), (114, .getfield 7141, 3), (117, .iload_n 1, 1), (118, .iaload, 1), (119, .istore 7, 2), (121, .iload_n 3, 1), (122, .ifCond .eq 134, 3), (125, .aload_n 0, 1), (126, .getfield 7141, 3), (129, .iload_n 1, 1), (130, .iaload, 1), (131, .goto 136, 3), (134, .iload 6, 2), (136, .istore 8, 2), (138, .iload_n 3, 1), (139, .ifCond .eq 151, 3), (142, .aload_n 0, 1), (143, .getfield 7141, 3), (146, .iload_n 1, 1), (147, .iaload, 1), (148, .goto 152, 3), (151, .iconst 0, 1), (152, .istore 9, 2), (154, .iload_n 3, 1), (155, .ifCond .eq 163, 3), (158, .iload 6, 2), (160, .goto 169, 3), (163, .aload_n 0, 1), (164, .getfield 7141, 3), (167, .iload_n 1, 1), (168, .iaload, 1), (169, .istore 10, 2), (171, .iload 4, 2), (173, .ifCond .eq 181, 3), (176, .iload 6, 2), (178, .goto 190, 3), (181, .iload 6, 2), (183, .aload_n 0, 1), (184, .getfield 7141, 3), (187, .iload_n 2, 1), (188, .iaload, 1), (189, .iadd, 1), (190, .istore 11, 2), (192, .iload 4, 2), (194, .ifCond .eq 209, 3), (197, .iload 6, 2), (199, .aload_n 0, 1), (200, .getfield 7141, 3), (203, .iload_n 2, 1), (204, .iaload, 1), (205, .iadd, 1), (206, .goto 218, 3), (209, .iload 6, 2), (211, .aload_n 0, 1), (212, .getfield 7151, 3), (215, .iload_n 2, 1), (216, .iaload, 1), (217, .iadd, 1), (218, .istore 12, 2), (220, .iload 4, 2), (222, .ifCond .eq 237, 3), (225, .iload 6, 2), (227, .aload_n 0, 1), (228, .getfield 7141, 3), (231, .iload_n 2, 1), (232, .iaload, 1), (233, .iadd, 1), (234, .goto 239, 3), (237, .iload 6, 2), (239, .istore 13, 2), (241, .iload 4, 2), (243, .ifCond .eq 258, 3), (246, .iload 6, 2), (248, .aload_n 0, 1), (249, .getfield 7151, 3), (252, .iload_n 2, 1), (253, .iaload, 1), (254, .iadd, 1), (255, .goto 267, 3), (258, .iload 6, 2), (260, .aload_n 0, 1), (261, .getfield 7141, 3), (264, .iload_n 2, 1), (265, .iaload, 1), (266, .iadd, 1), (267, .istore 14, 2), (269, .iload 11, 2), (271, .iload 5, 2), (273, .iadd, 1), (274, .istore 15, 2), (276, .aload_n 0, 1), (277, .iload 15, 2), (279, .iload 7, 2), (281, .invokevirtual 62072, 3), (284, .ifCond .ne 288, 3), (287, .return_, 1), (288, .aload_n 0, 1), (289, .iconst 0, 1), (290, .iload 7, 2), (292, .iload 8, 2), (294, .invokevirtual 63073, 3), (297, .ifCond .eq 340, 3), (300, .aload_n 0, 1), (301, .iconst 1, 1), (302, .iload 9, 2), (304, .iload 10, 2), (306, .invokevirtual 63073, 3), (309, .ifCond .eq 340, 3), (312, .aload_n 0, 1), (313, .iconst 2, 1), (314, .iload 11, 2), (316, .iload 12, 2), (318, .invokevirtual 63073, 3), (321, .ifCond .eq 340, 3), (324, .aload_n 0, 1), (325, .iconst 3, 1), (326, .iload 13, 2), (328, .iload 14, 2), (330, .invokevirtual 63073, 3), (333, .ifCond .eq 340, 3), (336, .iconst 1, 1), (337, .goto 341, 3), (340, .iconst 0, 1), (341, .istore 16, 2), (343, .iload 16, 2), (345, .ifCond .ne 359, 3), (348, .aload_n 0, 1), (349, .dup, 1), (350, .getfield 7160, 3), (353, .iconst 1, 1), (354, .iadd, 1), (355, .putfield 7160, 3), (358, .return_, 1), (359, .aload_n 0, 1), (360, .iconst 1, 1), (361, .iconst 0, 1), (362, .invokevirtual 64072, 3), (365, .ifCond .ne 377, 3), (368, .aload_n 0, 1), (369, .iconst 3, 1), (370, .iconst 2, 1), (371, .invokevirtual 64072, 3), (374, .ifCond .eq 378, 3), (377, .return_, 1), (378, .aload_n 0, 1), (379, .iconst 0, 1), (380, .putfield 7400, 3), (383, .aload_n 0, 1), (384, .iload 11, 2), (386, .iload 15, 2), (388, .bipush 30, 2), (390, .invokevirtual 60073, 3), (393, .ifCond .eq 426, 3), (396, .aload_n 0, 1), (397, .iload 9, 2), (399, .iload 10, 2), (401, .bipush 30, 2), (403, .invokevirtual 60073, 3), (406, .ifCond .eq 426, 3), (409, .aload_n 0, 1), (410, .aload_n 0, 1), (411, .iload 15, 2), (413, .invokevirtual 59071, 3), (416, .iload 12, 2), (418, .bipush 30, 2), (420, .invokevirtual 60073, 3), (423, .ifCond .ne 437, 3), (426, .aload_n 0, 1), (427, .dup, 1), (428, .getfield 7160, 3), (431, .iconst 1, 1), (432, .iadd, 1), (433, .putfield 7160, 3), (436, .return_, 1), (437, .aload_n 0, 1), (438, .getfield 7191, 3), (441, .iconst 2, 1), (442, .aload_n 0, 1), (443, .getfield 7400, 3), (446, .iastore, 1), (447, .iconst 0, 1), (448, .istore 17, 2), (450, .iload 17, 2), (452, .aload_n 0, 1), (453, .getfield 7400, 3), (456, .if_icmp .ge 482, 3), (459, .aload_n 0, 1), (460, .getfield 7181, 3), (463, .bipush 80, 2), (465, .iload 17, 2), (467, .iadd, 1), (468, .aload_n 0, 1), (469, .getfield 7391, 3), (472, .iload 17, 2), (474, .iaload, 1), (475, .iastore, 1), (476, .iinc 17 1, 3), (479, .goto 450, 3), (482, .aload_n 0, 1), (483, .getfield 7191, 3), (486, .iconst 3, 1), (487, .aload_n 0, 1), (488, .getfield 7441, 3), (491, .iconst 3, 1), (492, .iaload, 1), (493, .iastore, 1), (494, .iconst 0, 1), (495, .istore 17, 2), (497, .iload 17, 2), (499, .aload_n 0, 1), (500, .getfield 7191, 3), (503, .iconst 3, 1), (504, .iaload, 1), (505, .if_icmp .ge 534, 3), (508, .aload_n 0, 1), (509, .getfield 7181, 3), (512, .bipush 120, 2), (514, .iload 17, 2), (516, .iadd, 1), (517, .aload_n 0, 1), (518, .getfield 7431, 3), (521, .bipush 96, 2), (523, .iload 17, 2), (525, .iadd, 1), (526, .iaload, 1), (527, .iastore, 1), (528, .iinc 17 1, 3), (531, .goto 497, 3), (534, .aload_n 0, 1), (535, .invokevirtual 66070, 3), (538, .return_, 1)]
def oe_c66 : List (Nat × Jvm.ClassFile.Instr × Nat) := [(0, .aload_n 0, 1), (1, .iconst 2, 1), (2, .invokevirtual 51071, 3), (5, .aload_n 0, 1), (6, .iconst 3, 1), (7, .invokevirtual 51071, 3), (10, .aload_n 0, 1), (11, .iconst 2, 1), (12, .iconst 3, 1), (13, .invokevirtual 52072, 3), (16, .ifCond .eq 20, 3), (19, .return_, 1), (20, .aload_n 0, 1), (21, .getfield 7191, 3), (24, .iconst 2, 1), (25, .iaload, 1), (26, .aload_n 0, 1), (27, .getfield 7191, 3), (30, .iconst 3, 1), (31, .iaload, 1), (32, .iadd, 1), (33, .bipush 20, 2), (35, .if_icmp .gt 47, 3), (38, .aload_n 0, 1), (39, .invokevirtual 54070, 3), (42, .bipush 6, 2), (44, .if_icmp .le 60, 3), (47, .aload_n 0, 1), (48, .dup, 1), (49, .getfield 7160, 3), (52, .iconst 1, 1), (53, .iadd, 1), (54, .putfield 7160, 3), (57, .goto 94, 3), (60, .aload_n 0, 1), (61, .iconst 1, 1), (62, .invokevirtual 56071, 3), (65, .ifCond .ne 94, 3), (68, .aload_n 0, 1), (69, .getfield 7080, 3), (72, .bipush 30, 2), (74, .if_icmp .ne 90, 3), (77, .aload_n 0, 1), (78, .dup, 1), (79, .getfield 7160, 3), (82, .iconst 1, 1), (83, .iadd, 1), (84, .putfield 7160, 3), (87, .goto 94, 3), (90, .aload_n 0, 1), (91, .invokevirtual 57070, 3), (94, .return_, 1)]
def oe_c67 : List (Nat × Jvm.ClassFile.Instr × Nat) := [(0, .iconst 0, 1), (1, .istore_n 3, 1), (2, .iload_n 3, 1), (3, .iconst 4, 1), (4, .if_icmp .ge 163, 3), (7, .iload_n 3, 1), (8, .iconst 2, 1), (9, .if_icmp .ge 16, 3), (12, .iconst 1, 1), (13, .goto 17, 3), (16, .iconst 0, 1), (17, .istore 4, 2), (19, .iload_n 3, 1), (20, .iconst 2, 1), (21, .irem, 1), (22, .ifCond .ne 29, 3), (25, .iconst 1, 1), (26, .goto 30, 3), (29, .iconst 0, 1), (30, .istore 5, 2), (32, .bipush 20, 2), (34, .iload_n 2, 1), (35, .imul, 1), (36, .iload 5, 2), (38, .ifCond .eq 45, 3), (41, .iconst 0, 1), (42, .goto 51, 3), (45, .aload_n 0, 1), (46, .getfield 7141, 3), (49, .iload_n 2, 1), (50, .iaload, 1), (51, .iadd, 1), (52, .istore 6, 2), (54, .bipush 20, 2), (56, .iload_n 2, 1), (57, .imul, 1), (58, .iload 5, 2), (60, .ifCond .eq 72, 3), (63, .aload_n 0, 1), (64, .getfield 7141, 3), (67, .iload_n 2, 1), (68, .iaload, 1), (69, .goto 78, 3), (72, .aload_n 0, 1), (73, .getfield 7151, 3), (76, .iload_n 2, 1), (77, .iaload, 1), (78, .iadd, 1), (79, .istore 7, 2), (81, .iconst 0, 1), (82, .istore 8, 2), (84, .iload 6, 2), (86, .iload 8, 2), (88, .iadd, 1), (89, .iload 7, 2), (91, .if_icmp .ge 157, 3), (94, .iload_n 1, 1), (95, .iload_n 2, 1), (96, .if_icmp .ne 115, 3), (99, .iload 4, 2), (101, .iload 5, 2), (103, .if_icmp .ne 115, 3), (106, .iload 8, 2), (108, .ifCond .ne 115, 3), (111, .iconst 1, 1), (112, .goto 116, 3), (115, .iconst 0, 1), (116, .istore 9, 2), (118, .aload_n 0, 1), (119, .getfield 7131, 3), (122, .iload 6, 2), (124, .iload 8, 2), (126, .iadd, 1), (127, .iaload, 1), (128, .invokestatic 35071, 3), (131, .ifCond .ne 151, 3), (134, .iload 9, 2), (136, .ifCond .ne 151, 3), (139, .aload_n 0, 1), (140, .iload_n 1, 1), (141, .iload_n 2, 1), (142, .iload 4, 2), (144, .iload 5, 2), (146, .iload 8, 2), (148, .invokevirtual 65075, 3), (151, .iinc 8 1, 3), (154, .goto 84, 3), (157, .iinc 3 1, 3), (160, .goto 2, 3), (163, .return_, 1)]
def oe_c68 : List (Nat × Jvm.ClassFile.Instr × Nat) := [(0, .aload_n 0, 1), (1, .getfield 7172, 3), (4, .ifCond .eq 20, 3), (7, .aload_n 0, 1), (8, .iconst 0, 1), (9, .iconst 1, 1), (10, .invokevirtual 52072, 3), (13, .ifCond .eq 20, 3), (16, .iconst 1, 1), (17, .goto 21, 3), (20, .iconst 0, 1), (21, .ireturn, 1)]
def oe_c69 : List (Nat × Jvm.ClassFile.Instr × Nat) := [(0, .aload_n 0, 1), (1, .getfield 7172, 3), (4, .ifCond .eq 17, 3), (7, .aload_n 0, 1), (8, .iconst 0, 1), (9, .invokevirtual 51071, 3), (12, .aload_n 0, 1), (13, .iconst 1, 1), (14, .invokevirtual 51071, 3), (17, .return_, 1)]
def oe_c70 : List (Nat × Jvm.ClassFile.Instr × Nat) := [(0, .iconst 0, 1), (1, .istore_n 1, 1), (2, .iconst 1, 1), (3, .istore_n 2, 1), (4, .iload_n 2, 1), (5, .aload_n 0, 1), (6, .getfield 7080, 3), (9, .if_icmp .ge 39, 3), (12, .aload_n 0, 1), (13, .getfield 7111, 3), (16, .iload_n 2, 1), (17, .iaload, 1), (18, .aload_n 0, 1), (19, .getfield 7111, 3), (22, .iload_n 1, 1), (23, .iaload, 1), (24, .if_icmp .ge 31, 3), (27, .iload_n 2, 1), (28, .goto 32, 3), (31, .iload_n 1, 1), (32, .istore_n 1, 1), (33, .iinc 2 1, 3), (36, .goto 4, 3), (39, .aload_n 0, 1), (40, .getfield 7191, 3), (43, .iconst 2, 1), (44, .aload_n 0, 1), (45, .getfield 7101, 3), (48, .iload_n 1, 1), (49, .iaload, 1), (50, .iastore, 1), (51, .aload_n 0, 1), (52, .getfield 7191, 3), (55, .iconst 3, 1), (56, .aload_n 0, 1), (57, .getfield 7111, 3), (60, .iload_n 1, 1), (61, .iaload, 1), (62, .aload_n 0, 1), (63, .getfield 7101, 3), (66, .iload_n 1, 1), (67, .iaload, 1), (68, .isub, 1), (69, .iastore, 1), (70, .iconst 0, 1), (71, .istore_n 2, 1), (72, .iload_n 2, 1), (73, .aload_n 0, 1), (74, .getfield 7111, 3), (77, .iload_n 1, 1), (78, .iaload, 1), (79, .if_icmp .ge 148, 3), (82, .iload_n 2, 1), (83, .aload_n 0, 1), (84, .getfield 7101, 3), (87, .iload_n 1, 1), (88, .iaload, 1), (89, .if_icmp .ge 115, 3), (92, .aload_n 0, 1), (93, .getfield 7181, 3), (96, .bipush 80, 2), (98, .iload_n 2, 1), (99, .iadd, 1), (100, .aload_n 0, 1), (101, .getfield 7091, 3), (104, .bipush 20, 2), (106, .iload_n 1, 1), (107, .imul, 1), (108, .iload_n 2, 1), (109, .iadd, 1), (110, .iaload, 1), (111, .iastore, 1), (112, .goto 142, 3), (115, .aload_n 0, 1), (116, .getfield 7181, 3), (119, .bipush 120, 2), (121, .iload_n 2, 1), (122, .iadd, 1), (123, .aload_n 0, 1), (124, .getfield 7101, 3), (127, .iload_n 1, 1), (128, .iaload, 1), (129, .isub, 1), (130, .aload_n 0, 1), (131, .getfield 7091, 3), (134, .bipush 20, 2), (136, .iload_n 1, 1), (137, .imul, 1), (138, .iload_n 2, 1), (139, .iadd, 1), (140, .iaload, 1), (141, .iastore, 1), (142, .iinc 2 1, 3), (145, .goto 72, 3), (148, .iload_n 1, 1), (149, .istore_n 2, 1), (150, .iload_n 2, 1), (151, .iconst 1, 1), (152, .iadd, 1), (153, .aload_n 0, 1), (154, .getfield 7080, 3), (157, .if_icmp .ge 233, 3), (160, .aload_n 0, 1), (161, .getfield 7101, 3), (164, .iload_n 2, 1), (165, .aload_n 0, 1), (166, .getfield 7101, 3), (169, .iload_n 2, 1), (170, .iconst 1, 1), (171, .iadd, 1), (172, .iaload, 1), (173, .iastore, 1), (174, .aload_n 0, 1), (175, .getfield 7111, 3), (178, .iload_n 2, 1), (179, .aload_n 0, 1), (180, .getfield 7111, 3), (183, .iload_n 2, 1), (184, .iconst 1, 1), (185, .iadd, 1), (186, .iaload, 1), (187, .iastore, 1), (188, .iconst 0, 1), (189, .istore_n 3, 1), (190, .iload_n 3, 1), (191, .bipush 20, 2), (193, .if_icmp .ge 227, 3), (196, .aload_n 0, 1), (197, .getfield 7091, 3), (200, .bipush 20, 2), (202, .iload_n 2, 1), (203, .imul, 1), (204, .iload_n 3, 1), (205, .iadd, 1), (206, .aload_n 0, 1), (207, .getfield 7091, 3), (210, .bipush 20, 2), (212, .iload_n 2, 1), (213, .imul, 1), (214, .bipush 20, 2), (216, .iadd, 1), (217, .iload_n 3, 1), (218, .iadd, 1), (219, .iaload, 1), (220, .iastore, 1), (221, .iinc 3 1, 3), (224, .goto 190, 3), (227, .iinc 2 1, 3), (230, .goto 150, 3), (233, .aload_n 0, 1), (234, .dup, 1), (235, .getfield 7080, 3), (238, .iconst 1, 1), (239, .isub, 1), (240, .putfield 7080, 3), (243, .return_, 1)]
def oe_c71 : List (Nat × Jvm.ClassFile.Instr × Nat) := [(0, .aload_n 0, 1), (1, .invokevirtual 68070, 3), (4, .ifCond .eq 9, 3), (7, .iconst 1, 1), (8, .ireturn, 1), (9, .aload_n 0, 1), (10, .getfield 7080, 3), (13, .ifCond .ne 18, 3), (16, .iconst 0, 1), (17, .ireturn, 1), (18, .aload_n 0, 1), (19, .invokevirtual 70070, 3), (22, .aload_n 0, 1), (23, .iconst 2, 1), (24, .invokevirtual 51071, 3), (27, .aload_n 0, 1), (28, .iconst 3, 1), (29, .invokevirtual 51071, 3), (32, .aload_n 0, 1), (33, .iconst 2, 1), (34, .iconst 3, 1), (35, .invokevirtual 52072, 3), (38, .ifCond .ne 59, 3), (41, .aload_n 0, 1), (42, .getfield 7191, 3), (45, .iconst 2, 1), (46, .iaload, 1), (47, .aload_n 0, 1), (48, .getfield 7191, 3), (51, .iconst 3, 1), (52, .iaload, 1), (53, .iadd, 1), (54, .bipush 20, 2), (56, .if_icmp .le 61, 3), (59, .iconst 3, 1), (60, .ireturn, 1), (61, .aload_n 0, 1), (62, .invokevirtual 54070, 3), (65, .pop, 1), (66, .aload_n 0, 1), (67, .iconst 0, 1), (68, .invokevirtual 56071, 3), (71, .ifCond .eq 76, 3), (74, .iconst 3, 1), (75, .ireturn, 1), (76, .aload_n 0, 1), (77, .getfield 7120, 3), (80, .bipush 10, 2), (82, .if_icmp .ne 87, 3), (85, .iconst 4, 1), (86, .ireturn, 1), (87, .aload_n 0, 1), (88, .getfield 7141, 3), (91, .aload_n 0, 1), (92, .getfield 7120, 3), (95, .aload_n 0, 1), (96, .getfield 7191, 3), (99, .iconst 2, 1), (100, .iaload, 1), (101, .iastore, 1), (102, .aload_n 0, 1), (103, .getfield 7151, 3), (106, .aload_n 0, 1), (107, .getfield 7120, 3), (110, .aload_n 0, 1), (111, .getfield 7191, 3), (114, .iconst 2, 1), (115, .iaload, 1), (116, .aload_n 0, 1), (117, .getfield 7191, 3), (120, .iconst 3, 1), (121, .iaload, 1), (122, .iadd, 1), (123, .iastore, 1), (124, .iconst 0, 1), (125, .istore_n 1, 1), (126, .iload_n 1, 1), (127, .aload_n 0, 1), (128, .getfield 7151, 3), (131, .aload_n 0, 1), (132, .getfield 7120, 3), (135, .iaload, 1), (136, .if_icmp .ge 197, 3), (139, .aload_n 0, 1), (140, .getfield 7131, 3), (143, .bipush 20, 2), (145, .aload_n 0, 1), (146, .getfield 7120, 3), (149, .imul, 1), (150, .iload_n 1, 1), (151, .iadd, 1), (152, .iload_n 1, 1), (153, .aload_n 0, 1), (154, .getfield 7191, 3), (157, .iconst 2, 1), (158, .iaload, 1), (159, .if_icmp .ge 174, 3), (162, .aload_n 0, 1), (163, .getfield 7181, 3), (166, .bipush 80, 2), (168, .iload_n 1, 1), (169, .iadd, 1), (170, .iaload, 1), (171, .goto 190, 3), (174, .aload_n 0, 1), (175, .getfield 7181, 3), (178, .bipush 120, 2), (180, .iload_n 1, 1), (181, .iadd, 1), (182, .aload_n 0, 1), (183, .getfield 7191, 3), (186, .iconst 2, 1), (187, .iaload, 1), (188, .isub, 1), (189, .iaload, 1), (190, .iastore, 1), (191, .iinc 1 1, 3), (194, .goto 126, 3), (197, .aload_n 0, 1), (198, .dup, 1), (199, .getfield 7120, 3), (202, .iconst 1, 1), (203, .iadd, 1), (204, .putfield 7120, 3), (207, .iconst 0, 1), (208, .istore_n 1, 1), (209, .iload_n 1, 1), (210, .aload_n 0, 1), (211, .getfield 7120, 3), (214, .if_icmp .ge 255, 3), (217, .aload_n 0, 1), (218, .aload_n 0, 1), (219, .getfield 7120, 3), (222, .iconst 1, 1), (223, .isub, 1), (224, .iload_n 1, 1), (225, .invokevirtual 67072, 3), (228, .iload_n 1, 1), (229, .aload_n 0, 1), (230, .getfield 7120, 3), (233, .iconst 1, 1), (234, .isub, 1), (235, .if_icmp .ge 249, 3), (238, .aload_n 0, 1), (239, .iload_n 1, 1), (240, .aload_n 0, 1), (241, .getfield 7120, 3), (244, .iconst 1, 1), (245, .isub, 1), (246, .invokevirtual 67072, 3), (249, .iinc 1 1, 3), (252, .goto 209, 3), (255, .aload_n 0, 1), (256, .invokevirtual 69070, 3), (259, .aload_n 0, 1), (260, .invokevirtual 68070, 3), (263, .ifCond .eq 270, 3), (266, .iconst 1, 1), (267, .goto 271, 3), (270, .iconst 2, 1), (271, .ireturn, 1)]
def oe_c72 : List (Nat × Jvm.ClassFile.Instr × Nat) := [(0, .aload_n 0, 1), (1, .getfield 7191, 3), (4, .iload_n 1, 1), (5, .aload_n 0, 1), (6, .getfield 7060, 3), (9, .iastore, 1), (10, .aload_n 0, 1), (11, .getfield 7191, 3), (14, .iload_n 1, 1), (15, .iconst 1, 1), (16, .iadd, 1), (17, .aload_n 0, 1), (18, .getfield 7070, 3), (21, .aload_n 0, 1), (22, .getfield 7060, 3), (25, .isub, 1), (26, .iastore, 1), (27, .iconst 0, 1), (28, .istore_n 2, 1), (29, .iload_n 2, 1), (30, .aload_n 0, 1), (31, .getfield 7070, 3), (34, .if_icmp .ge 96, 3), (37, .iload_n 2, 1), (38, .aload_n 0, 1), (39, .getfield 7060, 3), (42, .if_icmp .ge 65, 3), (45, .aload_n 0, 1), (46, .getfield 7181, 3), (49, .bipush 40, 2), (51, .iload_n 1, 1), (52, .imul, 1), (53, .iload_n 2, 1), (54, .iadd, 1), (55, .aload_n 0, 1), (56, .getfield 7051, 3), (59, .iload_n 2, 1), (60, .iaload, 1), (61, .iastore, 1), (62, .goto 90, 3), (65, .aload_n 0, 1), (66, .getfield 7181, 3), (69, .bipush 40, 2), (71, .iload_n 1, 1), (72, .imul, 1), (73, .bipush 40, 2), (75, .iadd, 1), (76, .iload_n 2, 1), (77, .iadd, 1), (78, .aload_n 0, 1), (79, .getfield 7060, 3), (82, .isub, 1), (83, .aload_n 0, 1), (84, .getfield 7051, 3), (87, .iload_n 2, 1), (88, .iaload, 1), (89, .iastore, 1), (90, .iinc 2 1, 3), (93, .goto 29, 3), (96, .return_, 1)]
def oe_c73 : List (Nat × Jvm.ClassFile.Instr × Nat) := [(0, .aload_n 0, 1), (1, .aload_n 0, 1), (2, .getfield 7080, 3), (5, .bipush 30, 2), (7, .if_icmp .ne 14, 3), (10, .iconst 1, 1), (11, .goto 15, 3), (14, .iconst 0, 1), (15, .putfield 7000, 3), (18, .aload_n 0, 1), (19, .getfield 7000, 3), (22, .ifCond .le 27, 3), (25, .iconst 0, 1), (26, .ireturn, 1), (27, .aload_n 0, 1), (28, .iconst 0, 1), (29, .invokevirtual 36071, 3), (32, .istore_n 1, 1), (33, .iload_n 1, 1), (34, .ifCond .lt 41, 3), (37, .iconst (-1), 1), (38, .iload_n 1, 1), (39, .isub, 1), (40, .ireturn, 1), (41, .aload_n 0, 1), (42, .getfield 7070, 3), (45, .bipush 20, 2), (47, .if_icmp .le 54, 3), (50, .sipush (-200), 3), (53, .ireturn, 1), (54, .aload_n 0, 1), (55, .iconst 2, 1), (56, .invokevirtual 72071, 3), (59, .aload_n 0, 1), (60, .invokevirtual 54070, 3), (63, .pop, 1), (64, .aload_n 0, 1), (65, .invokevirtual 57070, 3), (68, .aload_n 0, 1), (69, .getfield 7080, 3), (72, .ireturn, 1)]
def oe_c74 : List (Nat × Jvm.ClassFile.Instr × Nat) := [(0, .aload_n 0, 1), (1, .iconst 0, 1), (2, .putfield 7000, 3), (5, .aload_n 0, 1), (6, .iconst 1, 1), (7, .invokevirtual 36071, 3), (10, .istore_n 1, 1), (11, .iload_n 1, 1), (12, .ifCond .lt 19, 3), (15, .iconst (-1), 1), (16, .iload_n 1, 1), (17, .isub, 1), (18, .ireturn, 1), (19, .aload_n 0, 1), (20, .getfield 7060, 3), (23, .bipush 20, 2), (25, .if_icmp .gt 42, 3), (28, .aload_n 0, 1), (29, .getfield 7070, 3), (32, .aload_n 0, 1), (33, .getfield 7060, 3), (36, .isub, 1), (37, .bipush 20, 2), (39, .if_icmp .le 46, 3), (42, .sipush (-200), 3), (45, .ireturn, 1), (46, .aload_n 0, 1), (47, .iconst 0, 1), (48, .invokevirtual 72071, 3), (51, .aload_n 0, 1), (52, .iconst 1, 1), (53, .putfield 7172, 3), (56, .aload_n 0, 1), (57, .invokevirtual 69070, 3), (60, .aload_n 0, 1), (61, .invokevirtual 68070, 3), (64, .ifCond .eq 71, 3), (67, .iconst 1, 1), (68, .goto 72, 3), (71, .iconst 0, 1), (72, .ireturn, 1)]
def oe_c75 : List (Nat × Jvm.ClassFile.Instr × Nat) := [(0, .aload_n 0, 1), (1, .iconst 0, 1), (2, .putfield 7000, 3), (5, .aload_n 0, 1), (6, .invokevirtual 71070, 3), (9, .ireturn, 1)]
def oe_c76 : List (Nat × Jvm.ClassFile.Instr × Nat) := [(0, .aload_n 0, 1), (1, .iload_n 1, 1), (2, .iconst 1, 1), (3, .if_icmp .lt 12, 3), (6, .iload_n 1, 1), (7, .bipush 20, 2), (9, .if_icmp .le 16, 3), (12, .iconst 1, 1), (13, .goto 17, 3), (16, .iconst 0, 1), (17, .putfield 7000, 3), (20, .aload_n 0, 1), (21, .getfield 7000, 3), (24, .ifCond .le 29, 3), (27, .iconst 0, 1), (28, .ireturn, 1), (29, .iconst 2, 1), (30, .istore_n 2, 1), (31, .iconst 0, 1), (32, .istore_n 3, 1), (33, .iload_n 3, 1), (34, .iload_n 1, 1), (35, .if_icmp .ge 58, 3), (38, .iload_n 2, 1), (39, .ifCond .eq 58, 3), (42, .iload_n 2, 1), (43, .iconst 1, 1), (44, .if_icmp .eq 58, 3), (47, .aload_n 0, 1), (48, .invokevirtual 71070, 3), (51, .istore_n 2, 1), (52, .iinc 3 1, 3), (55, .goto 33, 3), (58, .iload_n 2, 1), (59, .ireturn, 1)]
def oe_c77 : List (Nat × Jvm.ClassFile.Instr × Nat) := [(0, .aload_n 0, 1), (1, .iload_n 1, 1), (2, .ifCond .lt 10, 3), (5, .iload_n 1, 1), (6, .iconst 2, 1), (7, .if_icmp .le 14, 3), (10, .iconst 1, 1), (11, .goto 15, 3), (14, .iconst 0, 1), (15, .putfield 7000, 3), (18, .aload_n 0, 1), (19, .getfield 7000, 3), (22, .ifCond .le 29, 3), (25, .iconst 0, 1), (26, .goto 56, 3), (29, .iload_n 1, 1), (30, .ifCond .ne 40, 3), (33, .aload_n 0, 1), (34, .getfield 7120, 3), (37, .goto 56, 3), (40, .iload_n 1, 1), (41, .iconst 1, 1), (42, .if_icmp .ne 52, 3), (45, .aload_n 0, 1), (46, .getfield 7080, 3), (49, .goto 56, 3), (52, .aload_n 0, 1), (53, .getfield 7160, 3), (56, .ireturn, 1)]
def oe_c78 : List (Nat × Jvm.ClassFile.Instr × Nat) := [(0, .aload_n 0, 1), (1, .getfield 7041, 3), (4, .aload_n 0, 1), (5, .getfield 7030, 3), (8, .iload_n 1, 1), (9, .iastore, 1), (10, .aload_n 0, 1), (11, .dup, 1), (12, .getfield 7030, 3), (15, .iconst 1, 1), (16, .iadd, 1), (17, .putfield 7030, 3), (20, .return_, 1)]
def oe_c79 : List (Nat × Jvm.ClassFile.Instr × Nat) := [(0, .iload_n 1, 1), (1, .ifCond .ne 24, 3), (4, .iload_n 2, 1), (5, .ifCond .lt 20, 3), (8, .iload_n 2, 1), (9, .aload_n 0, 1), (10, .getfield 7120, 3), (13, .if_icmp .ge 20, 3), (16, .iconst 1, 1), (17, .goto 53, 3), (20, .iconst 0, 1), (21, .goto 53, 3), (24, .iload_n 1, 1), (25, .iconst 1, 1), (26, .if_icmp .ne 49, 3), (29, .iload_n 2, 1), (30, .ifCond .lt 45, 3), (33, .iload_n 2, 1), (34, .aload_n 0, 1), (35, .getfield 7080, 3), (38, .if_icmp .ge 45, 3), (41, .iconst 1, 1), (42, .goto 53, 3), (45, .iconst 0, 1), (46, .goto 53, 3), (49, .aload_n 0, 1), (50, .getfield 7172, 3), (53, .istore_n 3, 1), (54, .aload_n 0, 1), (55, .iload_n 1, 1), (56, .ifCond .lt 64, 3), (59, .iload_n 1, 1), (60, .iconst 2, 1), (61, .if_icmp .le 68, 3), (64, .iconst 1, 1), (65, .goto 77, 3), (68, .iload_n 3, 1), (69, .ifCond .eq 76, 3), (72, .iconst 0, 1), (73, .goto 77, 3), (76, .iconst 2, 1), (77, .putfield 7000, 3), (80, .aload_n 0, 1), (81, .getfield 7000, 3), (84, .ifCond .le 89, 3), (87, .iconst 0, 1), (88, .ireturn, 1), (89, .aload_n 0, 1), (90, .iconst 0, 1), (91, .putfield 7030, 3), (94, .iload_n 1, 1), (95, .ifCond .ne 107, 3), (98, .aload_n 0, 1), (99, .getfield 7141, 3), (102, .iload_n 2, 1), (103, .iaload, 1), (104, .goto 127, 3), (107, .iload_n 1, 1), (108, .iconst 1, 1), (109, .if_icmp .ne 121, 3), (112, .aload_n 0, 1), (113, .getfield 7101, 3), (116, .iload_n 2, 1), (117, .iaload, 1), (118, .goto 127, 3), (121, .aload_n 0, 1), (122, .getfield 7191, 3), (125, .iconst 0, 1), (126, .iaload, 1), (127, .istore 4, 2), (129, .iload_n 1, 1), (130, .ifCond .ne 142, 3), (133, .aload_n 0, 1), (134, .getfield 7151, 3), (137, .iload_n 2, 1), (138, .iaload, 1), (139, .goto 169, 3), (142, .iload_n 1, 1), (143, .iconst 1, 1), (144, .if_icmp .ne 156, 3), (147, .aload_n 0, 1), (148, .getfield 7111, 3), (151, .iload_n 2, 1), (152, .iaload, 1), (153, .goto 169, 3), (156, .aload_n 0, 1), (157, .getfield 7191, 3), (160, .iconst 0, 1), (161, .iaload, 1), (162, .aload_n 0, 1), (163, .getfield 7191, 3), (166, .iconst 1, 1), (167, .iaload, 1), (168, .iadd, 1), (169, .istore 5, 2), (171, .iconst 0, 1), (172, .istore 6, 2), (174, .iload 6, 2), (176, .iload 5, 2), (178, .if_icmp .ge 276, 3), (181, .iload 6, 2), (183, .iload 4, 2), (185, .if_icmp .ne 194, 3), (188, .aload_n 0, 1), (189, .bipush 61, 2), (191, .invokevirtual 78071, 3), (194, .aload_n 0, 1), (195, .iload_n 1, 1), (196, .ifCond .ne 214, 3), (199, .aload_n 0, 1), (200, .getfield 7131, 3), (203, .bipush 20, 2), (205, .iload_n 2, 1), (206, .imul, 1), (207, .iload 6, 2), (209, .iadd, 1), (210, .iaload, 1), (211, .goto 264, 3), (214, .iload_n 1, 1), (215, .iconst 1, 1), (216, .if_icmp .ne 234, 3), (219, .aload_n 0, 1), (220, .getfield 7091, 3), (223, .bipush 20, 2), (225, .iload_n 2, 1), (226, .imul, 1), (227, .iload 6, 2), (229, .iadd, 1), (230, .iaload, 1), (231, .goto 264, 3), (234, .iload 6, 2), (236, .iload 4, 2), (238, .if_icmp .ge 251, 3), (241, .aload_n 0, 1), (242, .getfield 7181, 3), (245, .iload 6, 2), (247, .iaload, 1), (248, .goto 264, 3), (251, .aload_n 0, 1), (252, .getfield 7181, 3), (255, .bipush 40, 2), (257, .iload 6, 2), (259, .iadd, 1), (260, .iload 4, 2), (262, .isub, 1), (263, .iaload, 1), (264, .invokestatic 33071, 3), (267, .invokevirtual 78071, 3), (270, .iinc 6 1, 3), (273, .goto 174, 3), (276, .aload_n 0, 1), (277, .getfield 7030, 3), (280, .ireturn, 1)]
def oe_c80 : List (Nat × Jvm.ClassFile.Instr × Nat) := [(0, .aload_n 0, 1), (1, .iconst 0, 1), (2, .putfield 7000, 3), (5, .aload_n 0, 1), (6, .iconst 0, 1), (7, .invokevirtual 36071, 3), (10, .istore_n 1, 1), (11, .iload_n 1, 1), (12, .ifCond .lt 19, 3), (15, .iconst (-1), 1), (16, .iload_n 1, 1), (17, .isub, 1), (18, .ireturn, 1), (19, .aload_n 0, 1), (20, .getfield 7060, 3), (23, .istore_n 2, 1), (24, .aload_n 0, 1), (25, .getfield 7070, 3), (28, .aload_n 0, 1), (29, .getfield 7060, 3), (32, .isub, 1), (33, .istore_n 3, 1), (34, .iload_n 2, 1), (35, .iload_n 3, 1), (36, .if_icmp .ne 43, 3), (39, .iconst 1, 1), (40, .goto 44, 3), (43, .iconst 0, 1), (44, .istore 4, 2), (46, .iconst 0, 1), (47, .istore 5, 2), (49, .iload 5, 2), (51, .iload_n 2, 1), (52, .if_icmp .ge 92, 3), (55, .iload 4, 2), (57, .ifCond .eq 92, 3), (60, .aload_n 0, 1), (61, .getfield 7051, 3), (64, .iload 5, 2), (66, .iaload, 1), (67, .aload_n 0, 1), (68, .getfield 7051, 3), (71, .iload_n 2, 1), (72, .iload 5, 2), (74, .iadd, 1), (75, .iaload, 1), (76, .if_icmp .ne 83, 3), (79, .iconst 1, 1), (80, .goto 84, 3), (83, .iconst 0, 1), (84, .istore 4, 2), (86, .iinc 5 1, 3), (89, .goto 49, 3), (92, .iload 4, 2), (94, .ifCond .eq 99, 3), (97, .iconst 3, 1), (98, .ireturn, 1), (99, .iconst 1, 1), (100, .istore 5, 2), (102, .iload 5, 2), (104, .iconst 3, 1), (105, .if_icmp .ge 244, 3), (108, .aload_n 0, 1), (109, .iload 5, 2), (111, .iconst 1, 1), (112, .if_icmp .ne 119, 3), (115, .iload_n 2, 1), (116, .goto 120, 3), (119, .iload_n 3, 1), (120, .putfield 7220, 3), (123, .aload_n 0, 1), (124, .iload 5, 2), (126, .iconst 1, 1), (127, .if_icmp .ne 134, 3), (130, .iload_n 3, 1), (131, .goto 135, 3), (134, .iload_n 2, 1), (135, .putfield 7240, 3), (138, .iconst 0, 1), (139, .istore 6, 2), (141, .iload 6, 2), (143, .aload_n 0, 1), (144, .getfield 7220, 3), (147, .if_icmp .ge 183, 3), (150, .aload_n 0, 1), (151, .getfield 7211, 3), (154, .iload 6, 2), (156, .aload_n 0, 1), (157, .getfield 7051, 3), (160, .iload 5, 2), (162, .iconst 1, 1), (163, .if_icmp .ne 171, 3), (166, .iload 6, 2), (168, .goto 175, 3), (171, .iload_n 2, 1), (172, .iload 6, 2), (174, .iadd, 1), (175, .iaload, 1), (176, .iastore, 1), (177, .iinc 6 1, 3), (180, .goto 141, 3), (183, .iconst 0, 1), (184, .istore 6, 2), (186, .iload 6, 2), (188, .aload_n 0, 1), (189, .getfield 7240, 3), (192, .if_icmp .ge 228, 3), (195, .aload_n 0, 1), (196, .getfield 7231, 3), (199, .iload 6, 2), (201, .aload_n 0, 1), (202, .getfield 7051, 3), (205, .iload 5, 2), (207, .iconst 1, 1), (208, .if_icmp .ne 218, 3), (211, .iload_n 2, 1), (212, .iload 6, 2), (214, .iadd, 1), (215, .goto 220, 3), (218, .iload 6, 2), (220, .iaload, 1), (221, .iastore, 1), (222, .iinc 6 1, 3), (225, .goto 186, 3), (228, .aload_n 0, 1), (229, .invokevirtual 42070, 3), (232, .ifCond .eq 238, 3), (235, .iload 5, 2), (237, .ireturn, 1), (238, .iinc 5 1, 3), (241, .goto 102, 3), (244, .iconst 0, 1), (245, .ireturn, 1)]
def oe_c81 : List (Nat × Jvm.ClassFile.Instr × Nat) := [(0, .aload_n 0, 1), (1, .iconst 0, 1), (2, .putfield 7000, 3), (5, .aload_n 0, 1), (6, .iconst 0, 1), (7, .invokevirtual 36071, 3), (10, .istore_n 1, 1), (11, .iload_n 1, 1), (12, .ifCond .lt 19, 3), (15, .iconst (-1), 1), (16, .iload_n 1, 1), (17, .isub, 1), (18, .ireturn, 1), (19, .iconst 0, 1), (20, .istore_n 2, 1), (21, .iload_n 2, 1), (22, .aload_n 0, 1), (23, .getfield 7070, 3), (26, .if_icmp .ge 47, 3), (29, .aload_n 0, 1), (30, .getfield 7341, 3), (33, .iload_n 2, 1), (34, .aload_n 0, 1), (35, .getfield 7051, 3), (38, .iload_n 2, 1), (39, .iaload, 1), (40, .iastore, 1), (41, .iinc 2 1, 3), (44, .goto 21, 3), (47, .aload_n 0, 1), (48, .iconst 0, 1), (49, .aload_n 0, 1), (50, .getfield 7060, 3), (53, .invokevirtual 62072, 3), (56, .ifCond .ne 62, 3), (59, .bipush (-100), 2), (61, .ireturn, 1), (62, .aload_n 0, 1), (63, .iconst 0, 1), (64, .putfield 7400, 3), (67, .aload_n 0, 1), (68, .iconst 0, 1), (69, .aload_n 0, 1), (70, .getfield 7060, 3), (73, .bipush 60, 2), (75, .invokevirtual 60073, 3), (78, .ifCond .ne 84, 3), (81, .bipush (-100), 2), (83, .ireturn, 1), (84, .aload_n 0, 1), (85, .iconst 0, 1), (86, .putfield 7030, 3), (89, .iconst 0, 1), (90, .istore_n 2, 1), (91, .iload_n 2, 1), (92, .aload_n 0, 1), (93, .getfield 7400, 3), (96, .if_icmp .ge 118, 3), (99, .aload_n 0, 1), (100, .aload_n 0, 1), (101, .getfield 7391, 3), (104, .iload_n 2, 1), (105, .iaload, 1), (106, .invokestatic 33071, 3), (109, .invokevirtual 78071, 3), (112, .iinc 2 1, 3), (115, .goto 91, 3), (118, .aload_n 0, 1), (119, .getfield 7030, 3), (122, .ireturn, 1)]
def oe_c82 : List (Nat × Jvm.ClassFile.Instr × Nat) := [(0, .aload_n 0, 1), (1, .iconst 0, 1), (2, .putfield 7000, 3), (5, .aload_n 0, 1), (6, .iconst 2, 1), (7, .invokevirtual 36071, 3), (10, .istore_n 1, 1), (11, .iload_n 1, 1), (12, .ifCond .lt 19, 3), (15, .iconst (-1), 1), (16, .iload_n 1, 1), (17, .isub, 1), (18, .ireturn, 1), (19, .aload_n 0, 1), (20, .getfield 7070, 3), (23, .bipush 30, 2), (25, .if_icmp .le 32, 3), (28, .sipush (-200), 3), (31, .ireturn, 1), (32, .aload_n 0, 1), (33, .aload_n 0, 1), (34, .getfield 7070, 3), (37, .putfield 7290, 3), (40, .iconst 0, 1), (41, .istore_n 2, 1), (42, .iload_n 2, 1), (43, .aload_n 0, 1), (44, .getfield 7070, 3), (47, .if_icmp .ge 68, 3), (50, .aload_n 0, 1), (51, .getfield 7281, 3), (54, .iload_n 2, 1), (55, .aload_n 0, 1), (56, .getfield 7051, 3), (59, .iload_n 2, 1), (60, .iaload, 1), (61, .iastore, 1), (62, .iinc 2 1, 3), (65, .goto 42, 3), (68, .aload_n 0, 1), (69, .invokevirtual 50070, 3), (72, .istore_n 2, 1), (73, .aload_n 0, 1), (74, .iconst 0, 1), (75, .putfield 7030, 3), (78, .iconst 0, 1), (79, .istore_n 3, 1), (80, .iload_n 3, 1), (81, .aload_n 0, 1), (82, .getfield 7290, 3), (85, .if_icmp .ge 107, 3), (88, .aload_n 0, 1), (89, .aload_n 0, 1), (90, .getfield 7281, 3), (93, .iload_n 3, 1), (94, .iaload, 1), (95, .invokestatic 33071, 3), (98, .invokevirtual 78071, 3), (101, .iinc 3 1, 3), (104, .goto 80, 3), (107, .iload_n 2, 1), (108, .ireturn, 1)]
def oe_c83 : List (Nat × Jvm.ClassFile.Instr × Nat) := [(0, .aload_n 0, 1), (1, .iconst 0, 1), (2, .putfield 7000, 3), (5, .aload_n 0, 1), (6, .getfield 7030, 3), (9, .ireturn, 1)]
def oe_c84 : List (Nat × Jvm.ClassFile.Instr × Nat) := [(0, .aload_n 0, 1), (1, .iconst 0, 1), (2, .putfield 7000, 3), (5, .iload_n 1, 1), (6, .ifCond .lt 17, 3), (9, .iload_n 1, 1), (10, .aload_n 0, 1), (11, .getfield 7030, 3), (14, .if_icmp .lt 22, 3), (17, .bipush 32, 2), (19, .goto 29, 3), (22, .aload_n 0, 1), (23, .getfield 7041, 3), (26, .iload_n 1, 1), (27, .iaload, 1), (28, .i2c, 1), (29, .ireturn, 1)]
def oe_c85 : List (Nat × Jvm.ClassFile.Instr × Nat) := [(0, .aload_n 0, 1), (1, .invokespecial 0, 3), (4, .aload_n 0, 1), (5, .bipush 10, 2), (7, .anewarray 0, 3), (10, .putfield 1001, 3), (13, .aload_n 0, 1), (14, .iconst 0, 1), (15, .putfield 1010, 3), (18, .aload_n 0, 1), (19, .bipush 20, 2), (21, .newarray .boolean, 2), (23, .putfield 1021, 3), (26, .aload_n 0, 1), (27, .bipush 12, 2), (29, .newarray .int, 2), (31, .putfield 1031, 3), (34, .aload_n 0, 1), (35, .new 3, 3), (38, .dup, 1), (39, .bipush 30, 2), (41, .invokespecial 99031, 3), (44, .putfield 1041, 3), (47, .iconst 0, 1), (48, .istore_n 1, 1), (49, .iload_n 1, 1), (50, .aload_n 0, 1), (51, .getfield 1001, 3), (54, .arraylength, 1), (55, .if_icmp .ge 79, 3), (58, .aload_n 0, 1), (59, .getfield 1001, 3), (62, .iload_n 1, 1), (63, .new 2, 3), (66, .dup, 1), (67, .bipush 20, 2), (69, .invokespecial 92021, 3), (72, .aastore, 1), (73, .iinc 1 1, 3), (76, .goto 49, 3), (79, .return_, 1)]
def oe_c86 : List (Nat × Jvm.ClassFile.Instr × Nat) := [(0, .aload_n 0, 1), (1, .getfield 1010, 3), (4, .aload_n 0, 1), (5, .getfield 1001, 3), (8, .arraylength, 1), (9, .if_icmp .lt 16, 3), (12, .iconst 1, 1), (13, .goto 17, 3), (16, .iconst 0, 1), (17, .ireturn, 1)]
def oe_c87 : List (Nat × Jvm.ClassFile.Instr × Nat) := [(0, .aload_n 0, 1), (1, .invokevirtual 86010, 3), (4, .ifCond .eq 8, 3), (7, .return_, 1), (8, .aload_n 0, 1), (9, .getfield 1001, 3), (12, .aload_n 0, 1), (13, .getfield 1010, 3), (16, .aaload, 1), (17, .astore_n 2, 1), (18, .aload_n 2, 1), (19, .aload_n 1, 1), (20, .getfield 2001, 3), (23, .aload_n 1, 1), (24, .getfield 2011, 3), (27, .invokevirtual 95022, 3), (30, .aload_n 0, 1), (31, .getfield 1021, 3), (34, .iconst 2, 1), (35, .aload_n 0, 1), (36, .getfield 1010, 3), (39, .imul, 1), (40, .aload_n 2, 1), (41, .getfield 2001, 3), (44, .aload_n 2, 1), (45, .getfield 2011, 3), (48, .invokevirtual 107031, 3), (51, .bastore, 1), (52, .aload_n 0, 1), (53, .getfield 1021, 3), (56, .iconst 2, 1), (57, .aload_n 0, 1), (58, .getfield 1010, 3), (61, .imul, 1), (62, .iconst 1, 1), (63, .iadd, 1), (64, .aload_n 2, 1), (65, .getfield 2011, 3), (68, .aload_n 2, 1), (69, .getfield 2001, 3), (72, .invokevirtual 107031, 3), (75, .bastore, 1), (76, .aload_n 0, 1), (77, .dup, 1), (78, .getfield 1010, 3), (81, .iconst 1, 1), (82, .iadd, 1), (83, .putfield 1010, 3), (86, .return_, 1)]
def oe_c88 : List (Nat × Jvm.ClassFile.Instr × Nat) := [(0, .iconst 0, 1), (1, .istore_n 2, 1), (2, .iload_n 2, 1), (3, .bipush 50, 2), (5, .if_icmp .ge 52, 3), (8, .iconst 0, 1), (9, .istore_n 3, 1), (10, .iconst 0, 1), (11, .istore 4, 2), (13, .iload 4, 2), (15, .aload_n 1, 1), (16, .getfield 3020, 3), (19, .if_icmp .ge 40, 3), (22, .iload_n 3, 1), (23, .ifCond .ne 40, 3), (26, .aload_n 0, 1), (27, .aload_n 1, 1), (28, .iload 4, 2), (30, .invokevirtual 89012, 3), (33, .istore_n 3, 1), (34, .iinc 4 1, 3), (37, .goto 13, 3), (40, .iload_n 3, 1), (41, .ifCond .ne 46, 3), (44, .iload_n 2, 1), (45, .ireturn, 1), (46, .iinc 2 1, 3), (49, .goto 2, 3), (52, .bipush 50, 2), (54, .ireturn, 1)]
def oe_c89 : List (Nat × Jvm.ClassFile.Instr × Nat) := [(0, .bipush 30, 2), (2, .aload_n 1, 1), (3, .getfield 3020, 3), (6, .isub, 1), (7, .aload_n 1, 1), (8, .getfield 3011, 3), (11, .iload_n 2, 1), (12, .iaload, 1), (13, .iadd, 1), (14, .iload_n 2, 1), (15, .isub, 1), (16, .istore_n 3, 1), (17, .iconst 0, 1), (18, .istore 4, 2), (20, .iload 4, 2), (22, .iconst 2, 1), (23, .aload_n 0, 1), (24, .getfield 1010, 3), (27, .imul, 1), (28, .if_icmp .ge 121, 3), (31, .aload_n 0, 1), (32, .getfield 1001, 3), (35, .iload 4, 2), (37, .iconst 2, 1), (38, .idiv, 1), (39, .aaload, 1), (40, .astore 5, 2), (42, .aload_n 0, 1), (43, .getfield 1021, 3), (46, .iload 4, 2), (48, .baload, 1), (49, .ifCond .eq 115, 3), (52, .aload_n 0, 1), (53, .aload 5, 2), (55, .iload 4, 2), (57, .iconst 2, 1), (58, .irem, 1), (59, .invokevirtual 93021, 3), (62, .aload_n 1, 1), (63, .iload_n 2, 1), (64, .invokevirtual 90013, 3), (67, .ifCond .eq 115, 3), (70, .aload_n 0, 1), (71, .aload 5, 2), (73, .iconst 1, 1), (74, .iload 4, 2), (76, .iconst 2, 1), (77, .irem, 1), (78, .isub, 1), (79, .invokevirtual 93021, 3), (82, .aload_n 1, 1), (83, .iload_n 3, 1), (84, .invokevirtual 91013, 3), (87, .ifCond .eq 115, 3), (90, .aload_n 1, 1), (91, .iload_n 2, 1), (92, .aload_n 0, 1), (93, .getfield 1041, 3), (96, .iconst 0, 1), (97, .iconst 0, 1), (98, .invokestatic 110035, 3), (101, .ifCond .eq 115, 3), (104, .aload_n 1, 1), (105, .iload_n 2, 1), (106, .aload_n 0, 1), (107, .getfield 1041, 3), (110, .invokevirtual 105032, 3), (113, .iconst 1, 1), (114, .ireturn, 1), (115, .iinc 4 1, 3), (118, .goto 20, 3), (121, .iconst 0, 1), (122, .ireturn, 1)]
def oe_c90 : List (Nat × Jvm.ClassFile.Instr × Nat) := [(0, .aload_n 0, 1), (1, .getfield 1031, 3), (4, .iconst (-1), 1), (5, .invokestatic 129002, 3), (8, .iload_n 3, 1), (9, .istore 4, 2), (11, .iconst 0, 1), (12, .istore 5, 2), (14, .iload 5, 2), (16, .aload_n 1, 1), (17, .getfield 3020, 3), (20, .if_icmp .ge 128, 3), (23, .aload_n 1, 1), (24, .getfield 3001, 3), (27, .iload 5, 2), (29, .iaload, 1), (30, .istore 6, 2), (32, .iload 4, 2), (34, .aload_n 2, 1), (35, .getfield 3020, 3), (38, .if_icmp .lt 43, 3), (41, .iconst 0, 1), (42, .ireturn, 1), (43, .iload 6, 2), (45, .invokestatic 16001, 3), (48, .ifCond .ne 71, 3), (51, .aload_n 2, 1), (52, .getfield 3001, 3), (55, .iload 4, 2), (57, .iaload, 1), (58, .iload 6, 2), (60, .if_icmp .eq 65, 3), (63, .iconst 0, 1), (64, .ireturn, 1), (65, .iinc 4 1, 3), (68, .goto 122, 3), (71, .aload_n 0, 1), (72, .getfield 1031, 3), (75, .iload 6, 2), (77, .iaload, 1), (78, .iconst (-1), 1), (79, .if_icmp .ne 94, 3), (82, .aload_n 0, 1), (83, .getfield 1031, 3), (86, .iload 6, 2), (88, .iload 4, 2), (90, .iastore, 1), (91, .goto 113, 3), (94, .aload_n 2, 1), (95, .aload_n 0, 1), (96, .getfield 1031, 3), (99, .iload 6, 2), (101, .iaload, 1), (102, .aload_n 2, 1), (103, .iload 4, 2), (105, .invokestatic 109034, 3), (108, .ifCond .ne 113, 3), (111, .iconst 0, 1), (112, .ireturn, 1), (113, .aload_n 2, 1), (114, .getfield 3011, 3), (117, .iload 4, 2), (119, .iaload, 1), (120, .istore 4, 2), (122, .iinc 5 1, 3), (125, .goto 14, 3), (128, .iconst 1, 1), (129, .ireturn, 1)]
def oe_c91 : List (Nat × Jvm.ClassFile.Instr × Nat) := [(0, .aload_n 0, 1), (1, .getfield 1041, 3), (4, .invokevirtual 100030, 3), (7, .iconst 0, 1), (8, .istore 4, 2), (10, .iload 4, 2), (12, .aload_n 1, 1), (13, .getfield 3020, 3), (16, .if_icmp .ge 137, 3), (19, .aload_n 1, 1), (20, .getfield 3001, 3), (23, .iload 4, 2), (25, .iaload, 1), (26, .istore 5, 2), (28, .iload 5, 2), (30, .invokestatic 16001, 3), (33, .ifCond .eq 46, 3), (36, .aload_n 0, 1), (37, .getfield 1031, 3), (40, .iload 5, 2), (42, .iaload, 1), (43, .goto 47, 3), (46, .iconst (-1), 1), (47, .istore 6, 2), (49, .iload 6, 2), (51, .iconst (-1), 1), (52, .if_icmp .ne 59, 3), (55, .iconst 1, 1), (56, .goto 69, 3), (59, .aload_n 2, 1), (60, .getfield 3011, 3), (63, .iload 6, 2), (65, .iaload, 1), (66, .iload 6, 2), (68, .isub, 1), (69, .istore 7, 2), (71, .aload_n 0, 1), (72, .getfield 1041, 3), (75, .getfield 3020, 3), (78, .iload 7, 2), (80, .iadd, 1), (81, .iload_n 3, 1), (82, .if_icmp .le 87, 3), (85, .iconst 0, 1), (86, .ireturn, 1), (87, .iconst 0, 1), (88, .istore 8, 2), (90, .iload 8, 2), (92, .iload 7, 2), (94, .if_icmp .ge 131, 3), (97, .aload_n 0, 1), (98, .getfield 1041, 3), (101, .iload 6, 2), (103, .iconst (-1), 1), (104, .if_icmp .ne 112, 3), (107, .iload 5, 2), (109, .goto 122, 3), (112, .aload_n 2, 1), (113, .getfield 3001, 3), (116, .iload 6, 2), (118, .iload 8, 2), (120, .iadd, 1), (121, .iaload, 1), (122, .invokevirtual 101031, 3), (125, .iinc 8 1, 3), (128, .goto 90, 3), (131, .iinc 4 1, 3), (134, .goto 10, 3), (137, .aload_n 0, 1), (138, .getfield 1041, 3), (141, .invokevirtual 103030, 3), (144, .iconst 1, 1), (145, .ireturn, 1)]
def oe_c92 : List (Nat × Jvm.ClassFile.Instr × Nat) := [(0, .aload_n 0, 1), (1, .invokespecial 0, 3), (4, .aload_n 0, 1), (5, .new 3, 3), (8, .dup, 1), (9, .iload_n 1, 1), (10, .invokespecial 99031, 3), (13, .putfield 2001, 3), (16, .aload_n 0, 1), (17, .new 3, 3), (20, .dup, 1), (21, .iload_n 1, 1), (22, .invokespecial 99031, 3), (25, .putfield 2011, 3), (28, .return_, 1)]
def oe_c93 : List (Nat × Jvm.ClassFile.Instr × Nat) := [(0, .iload_n 1, 1), (1, .ifCond .ne 11, 3), (4, .aload_n 0, 1), (5, .getfield 2001, 3), (8, .goto 15, 3), (11, .aload_n 0, 1), (12, .getfield 2011, 3), (15, .areturn, 1)]
def oe_c94 : List (Nat × Jvm.ClassFile.Instr × Nat) := [(0, .aload_n 0, 1), (1, .getfield 2001, 3), (4, .getfield 3020, 3), (7, .aload_n 0, 1), (8, .getfield 2011, 3), (11, .getfield 3020, 3), (14, .iadd, 1), (15, .ireturn, 1)]
def oe_c95 : List (Nat × Jvm.ClassFile.Instr × Nat) := [(0, .aload_n 0, 1), (1, .getfield 2001, 3), (4, .aload_n 1, 1), (5, .invokevirtual 104031, 3), (8, .aload_n 0, 1), (9, .getfield 2011, 3), (12, .aload_n 2, 1), (13, .invokevirtual 104031, 3), (16, .return_, 1)]
def oe_c96 : List (Nat × Jvm.ClassFile.Instr × Nat) := [(0, .aload_n 0, 1), (1, .getfield 2001, 3), (4, .iconst 0, 1), (5, .aload_n 0, 1), (6, .getfield 2011, 3), (9, .iconst 0, 1), (10, .invokestatic 109034, 3), (13, .ireturn, 1)]
def oe_c97 : List (Nat × Jvm.ClassFile.Instr × Nat) := [(0, .aload_n 0, 1), (1, .getfield 2001, 3), (4, .iconst 0, 1), (5, .aload_n 1, 1), (6, .getfield 2001, 3), (9, .iconst 0, 1), (10, .invokestatic 109034, 3), (13, .ifCond .eq 36, 3), (16, .aload_n 0, 1), (17, .getfield 2011, 3), (20, .iconst 0, 1), (21, .aload_n 1, 1), (22, .getfield 2011, 3), (25, .iconst 0, 1), (26, .invokestatic 109034, 3), (29, .ifCond .eq 36, 3), (32, .iconst 1, 1), (33, .goto 37, 3), (36, .iconst 0, 1), (37, .ireturn, 1)]
def oe_c98 : List (Nat × Jvm.ClassFile.Instr × Nat) := [(0, .aload_n 1, 1), (1, .iconst (-1), 1), (2, .invokestatic 129002, 3), (5, .aload_n 0, 1), (6, .getfield 2011, 3), (9, .aload_n 1, 1), (10, .aload_n 0, 1), (11, .getfield 2001, 3), (14, .aload_n 1, 1), (15, .iconst 0, 1), (16, .invokevirtual 108032, 3), (19, .invokevirtual 108032, 3), (22, .ireturn, 1)]
def oe_c99 : List (Nat × Jvm.ClassFile.Instr × Nat) := [(0, .aload_n 0, 1), (1, .invokespecial 0, 3), (4, .aload_n 0, 1), (5, .iconst 0, 1), (6, .putfield 3020, 3), (9, .aload_n 0, 1), (10, .iload_n 1, 1), (11, .newarray .int, 2), (13, .putfield 3001, 3), (16, .aload_n 0, 1), (17, .iload_n 1, 1), (18, .newarray .int, 2), (20, .putfield 3011, 3), (23, .return_, 1)]
def oe_c100 : List (Nat × Jvm.ClassFile.Instr × Nat) := [(0, .aload_n 0, 1), (1, .iconst 0, 1), (2, .putfield 3020, 3), (5, .return_, 1)]
def oe_c101 : List (Nat × Jvm.ClassFile.Instr × Nat) := [(0, .aload_n 0, 1), (1, .getfield 3020, 3), (4, .aload_n 0, 1), (5, .getfield 3001, 3), (8, .arraylength, 1), (9, .if_icmp .ge 32, 3), (12, .aload_n 0, 1), (13, .getfield 3001, 3), (16, .aload_n 0, 1), (17, .getfield 3020, 3), (20, .iload_n 1, 1), (21, .iastore, 1), (22, .aload_n 0, 1), (23, .dup, 1), (24, .getfield 3020, 3), (27, .iconst 1, 1), (28, .iadd, 1), (29, .putfield 3020, 3), (32, .return_, 1)]
def oe_c102 : List (Nat × Jvm.ClassFile.Instr × Nat) := [(0, .iconst 0, 1), (1, .istore_n 3, 1), (2, .iload_n 3, 1), (3, .aload_n 1, 1), (4, .getfield 3020, 3), (7, .if_icmp .ge 45, 3), (10, .aload_n 1, 1), (11, .getfield 3001, 3), (14, .iload_n 3, 1), (15, .iaload, 1), (16, .istore 4, 2), (18, .aload_n 0, 1), (19, .iload 4, 2), (21, .invokestatic 16001, 3), (24, .ifCond .eq 34, 3), (27, .iload 4, 2), (29, .iload_n 2, 1), (30, .iadd, 1), (31, .goto 36, 3), (34, .iload 4, 2), (36, .invokevirtual 101031, 3), (39, .iinc 3 1, 3), (42, .goto 2, 3), (45, .return_, 1)]
def oe_c103 : List (Nat × Jvm.ClassFile.Instr × Nat) := [(0, .aload_n 0, 1), (1, .getfield 3020, 3), (4, .iconst 1, 1), (5, .isub, 1), (6, .istore_n 1, 1), (7, .iload_n 1, 1), (8, .ifCond .lt 80, 3), (11, .iload_n 1, 1), (12, .iconst 1, 1), (13, .iadd, 1), (14, .istore_n 2, 1), (15, .aload_n 0, 1), (16, .getfield 3001, 3), (19, .iload_n 1, 1), (20, .iaload, 1), (21, .bipush 16, 2), (23, .if_icmp .lt 41, 3), (26, .iload_n 2, 1), (27, .aload_n 0, 1), (28, .getfield 3020, 3), (31, .if_icmp .ge 41, 3), (34, .aload_n 0, 1), (35, .getfield 3011, 3), (38, .iload_n 2, 1), (39, .iaload, 1), (40, .istore_n 2, 1), (41, .aload_n 0, 1), (42, .getfield 3001, 3), (45, .iload_n 1, 1), (46, .iaload, 1), (47, .bipush 18, 2), (49, .if_icmp .lt 67, 3), (52, .iload_n 2, 1), (53, .aload_n 0, 1), (54, .getfield 3020, 3), (57, .if_icmp .ge 67, 3), (60, .aload_n 0, 1), (61, .getfield 3011, 3), (64, .iload_n 2, 1), (65, .iaload, 1), (66, .istore_n 2, 1), (67, .aload_n 0, 1), (68, .getfield 3011, 3), (71, .iload_n 1, 1), (72, .iload_n 2, 1), (73, .iastore, 1), (74, .iinc 1 (-1), 3), (77, .goto 7, 3), (80, .return_, 1)]
def oe_c104 : List (Nat × Jvm.ClassFile.Instr × Nat) := [(0, .aload_n 1, 1), (1, .getfield 3020, 3), (4, .aload_n 0, 1), (5, .getfield 3001, 3), (8, .arraylength, 1), (9, .if_icmp .gt 54, 3), (12, .aload_n 1, 1), (13, .getfield 3001, 3), (16, .iconst 0, 1), (17, .aload_n 0, 1), (18, .getfield 3001, 3), (21, .iconst 0, 1), (22, .aload_n 1, 1), (23, .getfield 3020, 3), (26, .invokestatic 1005, 3), (29, .aload_n 1, 1), (30, .getfield 3011, 3), (33, .iconst 0, 1), (34, .aload_n 0, 1), (35, .getfield 3011, 3), (38, .iconst 0, 1), (39, .aload_n 1, 1), (40, .getfield 3020, 3), (43, .invokestatic 1005, 3), (46, .aload_n 0, 1), (47, .aload_n 1, 1), (48, .getfield 3020, 3), (51, .putfield 3020, 3), (54, .return_, 1)]
def oe_c105 : List (Nat × Jvm.ClassFile.Instr × Nat) := [(0, .aload_n 0, 1), (1, .getfield 3011, 3), (4, .iload_n 1, 1), (5, .iaload, 1), (6, .istore_n 3, 1), (7, .iload_n 1, 1), (8, .aload_n 2, 1), (9, .getfield 3020, 3), (12, .iadd, 1), (13, .aload_n 0, 1), (14, .getfield 3020, 3), (17, .iadd, 1), (18, .iload_n 3, 1), (19, .isub, 1), (20, .istore 4, 2), (22, .iload 4, 2), (24, .aload_n 0, 1), (25, .getfield 3001, 3), (28, .arraylength, 1), (29, .if_icmp .le 33, 3), (32, .return_, 1), (33, .aload_n 0, 1), (34, .getfield 3001, 3), (37, .iload_n 3, 1), (38, .aload_n 0, 1), (39, .getfield 3001, 3), (42, .iload_n 1, 1), (43, .aload_n 2, 1), (44, .getfield 3020, 3), (47, .iadd, 1), (48, .aload_n 0, 1), (49, .getfield 3020, 3), (52, .iload_n 3, 1), (53, .isub, 1), (54, .invokestatic 1005, 3), (57, .aload_n 2, 1), (58, .getfield 3001, 3), (61, .iconst 0, 1), (62, .aload_n 0, 1), (63, .getfield 3001, 3), (66, .iload_n 1, 1), (67, .aload_n 2, 1), (68, .getfield 3020, 3), (71, .invokestatic 1005, 3), (74, .aload_n 0, 1), (75, .iload 4, 2), (77, .putfield 3020, 3), (80, .aload_n 0, 1), (81, .invokevirtual 103030, 3), (84, .return_, 1)]
def oe_c106 : List (Nat × Jvm.ClassFile.Instr × Nat) := [(0, .iload_n 2, 1), (1, .istore 4, 2), (3, .iload 4, 2), (5, .iload_n 3, 1), (6, .if_icmp .ge 28, 3), (9, .aload_n 0, 1), (10, .getfield 3001, 3), (13, .iload 4, 2), (15, .iaload, 1), (16, .iload_n 1, 1), (17, .if_icmp .ne 22, 3), (20, .iconst 1, 1), (21, .ireturn, 1), (22, .iinc 4 1, 3), (25, .goto 3, 3), (28, .iconst 0, 1), (29, .ireturn, 1)]
def oe_c107 : List (Nat × Jvm.ClassFile.Instr × Nat) := [(0, .iconst 0, 1), (1, .istore_n 2, 1), (2, .iload_n 2, 1), (3, .aload_n 1, 1), (4, .getfield 3020, 3), (7, .if_icmp .ge 48, 3), (10, .aload_n 1, 1), (11, .getfield 3001, 3), (14, .iload_n 2, 1), (15, .iaload, 1), (16, .invokestatic 16001, 3), (19, .ifCond .eq 42, 3), (22, .aload_n 0, 1), (23, .aload_n 1, 1), (24, .getfield 3001, 3), (27, .iload_n 2, 1), (28, .iaload, 1), (29, .iconst 0, 1), (30, .aload_n 0, 1), (31, .getfield 3020, 3), (34, .invokevirtual 106033, 3), (37, .ifCond .ne 42, 3), (40, .iconst 0, 1), (41, .ireturn, 1), (42, .iinc 2 1, 3), (45, .goto 2, 3), (48, .iconst 1, 1), (49, .ireturn, 1)]
def oe_c108 : List (Nat × Jvm.ClassFile.Instr × Nat) := [(0, .iload_n 2, 1), (1, .istore_n 3, 1), (2, .iconst 0, 1), (3, .istore 4, 2), (5, .iload 4, 2), (7, .aload_n 0, 1), (8, .getfield 3020, 3), (11, .if_icmp .ge 67, 3), (14, .aload_n 0, 1), (15, .getfield 3001, 3), (18, .iload 4, 2), (20, .iaload, 1), (21, .istore 5, 2), (23, .iload 5, 2), (25, .invokestatic 16001, 3), (28, .ifCond .ne 34, 3), (31, .goto 61, 3), (34, .aload_n 1, 1), (35, .iload 5, 2), (37, .iaload, 1), (38, .iconst (-1), 1), (39, .if_icmp .ne 50, 3), (42, .aload_n 1, 1), (43, .iload 5, 2), (45, .iload_n 3, 1), (46, .iastore, 1), (47, .iinc 3 1, 3), (50, .aload_n 0, 1), (51, .getfield 3001, 3), (54, .iload 4, 2), (56, .aload_n 1, 1), (57, .iload 5, 2), (59, .iaload, 1), (60, .iastore, 1), (61, .iinc 4 1, 3), (64, .goto 5, 3), (67, .iload_n 3, 1), (68, .ireturn, 1)]
def oe_c109 : List (Nat × Jvm.ClassFile.Instr × Nat) := [(0, .aload_n 0, 1), (1, .getfield 3011, 3), (4, .iload_n 1, 1), (5, .iaload, 1), (6, .iload_n 1, 1), (7, .isub, 1), (8, .istore 4, 2), (10, .aload_n 2, 1), (11, .getfield 3011, 3), (14, .iload_n 3, 1), (15, .iaload, 1), (16, .iload_n 3, 1), (17, .isub, 1), (18, .iload 4, 2), (20, .if_icmp .eq 25, 3), (23, .iconst 0, 1), (24, .ireturn, 1), (25, .iconst 0, 1), (26, .istore 5, 2), (28, .iload 5, 2), (30, .iload 4, 2), (32, .if_icmp .ge 64, 3), (35, .aload_n 0, 1), (36, .getfield 3001, 3), (39, .iload_n 1, 1), (40, .iload 5, 2), (42, .iadd, 1), (43, .iaload, 1), (44, .aload_n 2, 1), (45, .getfield 3001, 3), (48, .iload_n 3, 1), (49, .iload 5, 2), (51, .iadd, 1), (52, .iaload, 1), (53, .if_icmp .eq 58, 3), (56, .iconst 0, 1), (57, .ireturn, 1), (58, .iinc 5 1, 3), (61, .goto 28, 3), (64, .iconst 1, 1), (65, .ireturn, 1)]
def oe_c110 : List (Nat × Jvm.ClassFile.Instr × Nat) := [(0, .aload_n 0, 1), (1, .getfield 3001, 3), (4, .iload_n 1, 1), (5, .iaload, 1), (6, .istore 5, 2), (8, .aload_n 2, 1), (9, .getfield 3001, 3), (12, .iload_n 3, 1), (13, .iaload, 1), (14, .istore 6, 2), (16, .iload 6, 2), (18, .invokestatic 16001, 3), (21, .ifCond .eq 53, 3), (24, .iload 5, 2), (26, .iload 6, 2), (28, .if_icmp .eq 51, 3), (31, .aload_n 0, 1), (32, .iload 6, 2), (34, .iload_n 1, 1), (35, .aload_n 0, 1), (36, .getfield 3011, 3), (39, .iload_n 1, 1), (40, .iaload, 1), (41, .invokevirtual 106033, 3), (44, .ifCond .eq 51, 3), (47, .iconst 1, 1), (48, .goto 52, 3), (51, .iconst 0, 1), (52, .ireturn, 1), (53, .iload 5, 2), (55, .invokestatic 16001, 3), (58, .ifCond .ne 68, 3), (61, .iload 4, 2), (63, .bipush 60, 2), (65, .if_icmp .le 70, 3), (68, .iconst 0, 1), (69, .ireturn, 1), (70, .iload 5, 2), (72, .iload 6, 2), (74, .if_icmp .le 81, 3), (77, .iconst 1, 1), (78, .goto 82, 3), (81, .iconst 0, 1), (82, .istore 7, 2), (84, .iload_n 1, 1), (85, .iconst 1, 1), (86, .iadd, 1), (87, .istore 8, 2), (89, .iload_n 3, 1), (90, .iconst 1, 1), (91, .iadd, 1), (92, .istore 9, 2), (94, .iconst 0, 1), (95, .istore 10, 2), (97, .iload 5, 2), (99, .iload 6, 2), (101, .if_icmp .ne 198, 3), (104, .iload 10, 2), (106, .iload 5, 2), (108, .invokestatic 17001, 3), (111, .if_icmp .ge 150, 3), (114, .aload_n 0, 1), (115, .iload 8, 2), (117, .aload_n 2, 1), (118, .iload 9, 2), (120, .invokestatic 109034, 3), (123, .ifCond .eq 150, 3), (126, .aload_n 0, 1), (127, .getfield 3011, 3), (130, .iload 8, 2), (132, .iaload, 1), (133, .istore 8, 2), (135, .aload_n 2, 1), (136, .getfield 3011, 3), (139, .iload 9, 2), (141, .iaload, 1), (142, .istore 9, 2), (144, .iinc 10 1, 3), (147, .goto 104, 3), (150, .iload 10, 2), (152, .iload 5, 2), (154, .invokestatic 17001, 3), (157, .if_icmp .ne 162, 3), (160, .iconst 0, 1), (161, .ireturn, 1), (162, .aload_n 0, 1), (163, .iload 8, 2), (165, .aload_n 2, 1), (166, .iload 9, 2), (168, .iload 4, 2), (170, .iconst 1, 1), (171, .iadd, 1), (172, .invokestatic 110035, 3), (175, .istore 7, 2), (177, .aload_n 0, 1), (178, .getfield 3011, 3), (181, .iload 8, 2), (183, .iaload, 1), (184, .istore 8, 2), (186, .aload_n 2, 1), (187, .getfield 3011, 3), (190, .iload 9, 2), (192, .iaload, 1), (193, .istore 9, 2), (195, .iinc 10 1, 3), (198, .iload 10, 2), (200, .istore 11, 2), (202, .iload 7, 2), (204, .ifCond .eq 249, 3), (207, .iload 11, 2), (209, .iload 6, 2), (211, .invokestatic 17001, 3), (214, .if_icmp .ge 249, 3), (217, .aload_n 0, 1), (218, .iload_n 1, 1), (219, .aload_n 2, 1), (220, .iload 9, 2), (222, .iload 4, 2), (224, .iconst 1, 1), (225, .iadd, 1), (226, .invokestatic 110035, 3), (229, .ifCond .ne 234, 3), (232, .iconst 0, 1), (233, .ireturn, 1), (234, .aload_n 2, 1), (235, .getfield 3011, 3), (238, .iload 9, 2), (240, .iaload, 1), (241, .istore 9, 2), (243, .iinc 11 1, 3), (246, .goto 202, 3), (249, .iload 10, 2), (251, .istore 11, 2), (253, .iload 7, 2), (255, .ifCond .ne 311, 3), (258, .iload 11, 2), (260, .iload 5, 2), (262, .invokestatic 17001, 3), (265, .if_icmp .ge 311, 3), (268, .aload_n 0, 1), (269, .iload 8, 2), (271, .aload_n 2, 1), (272, .iload_n 3, 1), (273, .invokestatic 109034, 3), (276, .ifCond .ne 294, 3), (279, .aload_n 0, 1), (280, .iload 8, 2), (282, .aload_n 2, 1), (283, .iload_n 3, 1), (284, .iload 4, 2), (286, .iconst 1, 1), (287, .iadd, 1), (288, .invokestatic 110035, 3), (291, .ifCond .eq 296, 3), (294, .iconst 1, 1), (295, .ireturn, 1), (296, .aload_n 0, 1), (297, .getfield 3011, 3), (300, .iload 8, 2), (302, .iaload, 1), (303, .istore 8, 2), (305, .iinc 11 1, 3), (308, .goto 253, 3), (311, .iload 7, 2), (313, .ireturn, 1)]
def oe_c111 : List (Nat × Jvm.ClassFile.Instr × Nat) := [(0, .aload_n 0, 1), (1, .invokespecial 0, 3), (4, .aload_n 0, 1), (5, .new 5, 3), (8, .dup, 1), (9, .invokespecial 114050, 3), (12, .putfield 4001, 3), (15, .aload_n 0, 1), (16, .new 2, 3), (19, .dup, 1), (20, .bipush 30, 2), (22, .invokespecial 92021, 3), (25, .putfield 4011, 3), (28, .aload_n 0, 1), (29, .new 2, 3), (32, .dup, 1), (33, .bipush 30, 2), (35, .invokespecial 92021, 3), (38, .putfield 4021, 3), (41, .return_, 1)]
def oe_c112 : List (Nat × Jvm.ClassFile.Instr × Nat) := [(0, .aload_n 3, 1), (1, .iload 4, 2), (3, .invokevirtual 93021, 3), (6, .getfield 3001, 3), (9, .iload 5, 2), (11, .iaload, 1), (12, .invokestatic 16001, 3), (15, .ifCond .eq 20, 3), (18, .iconst 0, 1), (19, .ireturn, 1), (20, .aload_n 0, 1), (21, .getfield 4001, 3), (24, .invokevirtual 115050, 3), (27, .aload_n 0, 1), (28, .getfield 4001, 3), (31, .aload_n 1, 1), (32, .iload_n 2, 1), (33, .invokevirtual 93021, 3), (36, .iconst 0, 1), (37, .invokevirtual 116052, 3), (40, .istore 6, 2), (42, .aload_n 0, 1), (43, .getfield 4001, 3), (46, .aload_n 1, 1), (47, .iconst 1, 1), (48, .iload_n 2, 1), (49, .isub, 1), (50, .invokevirtual 93021, 3), (53, .iconst 0, 1), (54, .invokevirtual 116052, 3), (57, .istore 7, 2), (59, .aload_n 0, 1), (60, .getfield 4001, 3), (63, .aload_n 3, 1), (64, .iload 4, 2), (66, .invokevirtual 93021, 3), (69, .bipush 6, 2), (71, .invokevirtual 116052, 3), (74, .istore 8, 2), (76, .aload_n 0, 1), (77, .getfield 4001, 3), (80, .aload_n 3, 1), (81, .iconst 1, 1), (82, .iload 4, 2), (84, .isub, 1), (85, .invokevirtual 93021, 3), (88, .bipush 6, 2), (90, .invokevirtual 116052, 3), (93, .istore 9, 2), (95, .aload_n 0, 1), (96, .getfield 4001, 3), (99, .iload 8, 2), (101, .iload 5, 2), (103, .iadd, 1), (104, .iload 6, 2), (106, .invokevirtual 117052, 3), (109, .ifCond .ne 114, 3), (112, .iconst 0, 1), (113, .ireturn, 1), (114, .aload_n 0, 1), (115, .getfield 4001, 3), (118, .iload 6, 2), (120, .aload_n 0, 1), (121, .getfield 4021, 3), (124, .getfield 2001, 3), (127, .bipush 30, 2), (129, .invokevirtual 123053, 3), (132, .ifCond .eq 198, 3), (135, .aload_n 0, 1), (136, .getfield 4001, 3), (139, .iload 7, 2), (141, .aload_n 0, 1), (142, .getfield 4021, 3), (145, .getfield 2011, 3), (148, .bipush 30, 2), (150, .invokevirtual 123053, 3), (153, .ifCond .eq 198, 3), (156, .aload_n 0, 1), (157, .getfield 4001, 3), (160, .iload 8, 2), (162, .aload_n 0, 1), (163, .getfield 4011, 3), (166, .getfield 2001, 3), (169, .bipush 30, 2), (171, .invokevirtual 123053, 3), (174, .ifCond .eq 198, 3), (177, .aload_n 0, 1), (178, .getfield 4001, 3), (181, .iload 9, 2), (183, .aload_n 0, 1), (184, .getfield 4011, 3), (187, .getfield 2011, 3), (190, .bipush 30, 2), (192, .invokevirtual 123053, 3), (195, .ifCond .ne 200, 3), (198, .iconst 1, 1), (199, .ireturn, 1), (200, .aload_n 0, 1), (201, .aload_n 0, 1), (202, .getfield 4021, 3), (205, .invokevirtual 113041, 3), (208, .ifCond .ne 222, 3), (211, .aload_n 0, 1), (212, .aload_n 0, 1), (213, .getfield 4011, 3), (216, .invokevirtual 113041, 3), (219, .ifCond .eq 224, 3), (222, .iconst 0, 1), (223, .ireturn, 1), (224, .aload_n 0, 1), (225, .getfield 4011, 3), (228, .getfield 2001, 3), (231, .getfield 3020, 3), (234, .aload_n 0, 1), (235, .getfield 4021, 3), (238, .getfield 2001, 3), (241, .getfield 3020, 3), (244, .isub, 1), (245, .aload_n 0, 1), (246, .getfield 4021, 3), (249, .getfield 2011, 3), (252, .getfield 3020, 3), (255, .iadd, 1), (256, .bipush 30, 2), (258, .if_icmp .le 263, 3), (261, .iconst 1, 1), (262, .ireturn, 1), (263, .aload_n 0, 1), (264, .getfield 4011, 3), (267, .getfield 2001, 3), (270, .aload_n 0, 1), (271, .getfield 4001, 3), (274, .iload 8, 2), (276, .iload 8, 2), (278, .iload 5, 2), (280, .iadd, 1), (281, .invokevirtual 122052, 3), (284, .aload_n 0, 1), (285, .getfield 4021, 3), (288, .getfield 2011, 3), (291, .invokevirtual 105032, 3), (294, .iconst 2, 1), (295, .ireturn, 1)]
def oe_c113 : List (Nat × Jvm.ClassFile.Instr × Nat) := [(0, .aload_n 1, 1), (1, .invokevirtual 96020, 3), (4, .ifCond .ne 24, 3), (7, .aload_n 1, 1), (8, .getfield 2011, 3), (11, .iconst 0, 1), (12, .aload_n 1, 1), (13, .getfield 2001, 3), (16, .iconst 0, 1), (17, .iconst 0, 1), (18, .invokestatic 110035, 3), (21, .ifCond .eq 28, 3), (24, .iconst 1, 1), (25, .goto 29, 3), (28, .iconst 0, 1), (29, .ireturn, 1)]
def oe_c114 : List (Nat × Jvm.ClassFile.Instr × Nat) := [(0, .aload_n 0, 1), (1, .invokespecial 0, 3), (4, .aload_n 0, 1), (5, .new 3, 3), (8, .dup, 1), (9, .bipush 60, 2), (11, .invokespecial 99031, 3), (14, .putfield 5001, 3), (17, .aload_n 0, 1), (18, .bipush 12, 2), (20, .newarray .int, 2), (22, .putfield 5011, 3), (25, .aload_n 0, 1), (26, .sipush 302, 3), (29, .newarray .int, 2), (31, .putfield 5021, 3), (34, .aload_n 0, 1), (35, .sipush 302, 3), (38, .newarray .int, 2), (40, .putfield 5031, 3), (43, .aload_n 0, 1), (44, .iconst 0, 1), (45, .putfield 5040, 3), (48, .aload_n 0, 1), (49, .new 3, 3), (52, .dup, 1), (53, .sipush 300, 3), (56, .invokespecial 99031, 3), (59, .putfield 5051, 3), (62, .aload_n 0, 1), (63, .bipush 13, 2), (65, .newarray .int, 2), (67, .putfield 5061, 3), (70, .aload_n 0, 1), (71, .bipush 13, 2), (73, .newarray .int, 2), (75, .putfield 5071, 3), (78, .return_, 1)]
def oe_c115 : List (Nat × Jvm.ClassFile.Instr × Nat) := [(0, .aload_n 0, 1), (1, .getfield 5001, 3), (4, .invokevirtual 100030, 3), (7, .return_, 1)]
def oe_c116 : List (Nat × Jvm.ClassFile.Instr × Nat) := [(0, .aload_n 0, 1), (1, .getfield 5001, 3), (4, .getfield 3020, 3), (7, .istore_n 3, 1), (8, .aload_n 0, 1), (9, .getfield 5001, 3), (12, .aload_n 1, 1), (13, .iload_n 2, 1), (14, .invokevirtual 102032, 3), (17, .aload_n 0, 1), (18, .getfield 5001, 3), (21, .invokevirtual 103030, 3), (24, .iload_n 3, 1), (25, .ireturn, 1)]
def oe_c117 : List (Nat × Jvm.ClassFile.Instr × Nat) := [(0, .aload_n 0, 1), (1, .getfield 5011, 3), (4, .iconst (-1), 1), (5, .invokestatic 129002, 3), (8, .aload_n 0, 1), (9, .iconst 0, 1), (10, .putfield 5040, 3), (13, .aload_n 0, 1), (14, .iload_n 1, 1), (15, .iload_n 2, 1), (16, .invokevirtual 118052, 3), (19, .iconst 0, 1), (20, .istore_n 3, 1), (21, .iload_n 3, 1), (22, .sipush 300, 3), (25, .if_icmp .ge 176, 3), (28, .aload_n 0, 1), (29, .getfield 5040, 3), (32, .ifCond .le 176, 3), (35, .aload_n 0, 1), (36, .dup, 1), (37, .getfield 5040, 3), (40, .iconst 1, 1), (41, .isub, 1), (42, .putfield 5040, 3), (45, .aload_n 0, 1), (46, .aload_n 0, 1), (47, .getfield 5021, 3), (50, .aload_n 0, 1), (51, .getfield 5040, 3), (54, .iaload, 1), (55, .invokevirtual 120051, 3), (58, .istore 4, 2), (60, .aload_n 0, 1), (61, .aload_n 0, 1), (62, .getfield 5031, 3), (65, .aload_n 0, 1), (66, .getfield 5040, 3), (69, .iaload, 1), (70, .invokevirtual 120051, 3), (73, .istore 5, 2), (75, .aload_n 0, 1), (76, .getfield 5001, 3), (79, .getfield 3001, 3), (82, .iload 4, 2), (84, .iaload, 1), (85, .istore 6, 2), (87, .aload_n 0, 1), (88, .getfield 5001, 3), (91, .getfield 3001, 3), (94, .iload 5, 2), (96, .iaload, 1), (97, .istore 7, 2), (99, .iload 6, 2), (101, .invokestatic 16001, 3), (104, .ifCond .eq 127, 3), (107, .iload 6, 2), (109, .iload 7, 2), (111, .if_icmp .eq 170, 3), (114, .aload_n 0, 1), (115, .iload 6, 2), (117, .iload 5, 2), (119, .invokevirtual 121052, 3), (122, .ifCond .ne 170, 3), (125, .iconst 0, 1), (126, .ireturn, 1), (127, .iload 7, 2), (129, .invokestatic 16001, 3), (132, .ifCond .eq 148, 3), (135, .aload_n 0, 1), (136, .iload 7, 2), (138, .iload 4, 2), (140, .invokevirtual 121052, 3), (143, .ifCond .ne 170, 3), (146, .iconst 0, 1), (147, .ireturn, 1), (148, .iload 6, 2), (150, .iload 7, 2), (152, .if_icmp .eq 157, 3), (155, .iconst 0, 1), (156, .ireturn, 1), (157, .aload_n 0, 1), (158, .iload 4, 2), (160, .iload 5, 2), (162, .iload 6, 2), (164, .invokestatic 17001, 3), (167, .invokevirtual 119053, 3), (170, .iinc 3 1, 3), (173, .goto 21, 3), (176, .aload_n 0, 1), (177, .getfield 5040, 3), (180, .ifCond .ne 187, 3), (183, .iconst 1, 1), (184, .goto 188, 3), (187, .iconst 0, 1), (188, .ireturn, 1)]
def oe_c118 : List (Nat × Jvm.ClassFile.Instr × Nat) := [(0, .aload_n 0, 1), (1, .getfield 5040, 3), (4, .aload_n 0, 1), (5, .getfield 5021, 3), (8, .arraylength, 1), (9, .if_icmp .ge 42, 3), (12, .aload_n 0, 1), (13, .getfield 5021, 3), (16, .aload_n 0, 1), (17, .getfield 5040, 3), (20, .iload_n 1, 1), (21, .iastore, 1), (22, .aload_n 0, 1), (23, .getfield 5031, 3), (26, .aload_n 0, 1), (27, .getfield 5040, 3), (30, .iload_n 2, 1), (31, .iastore, 1), (32, .aload_n 0, 1), (33, .dup, 1), (34, .getfield 5040, 3), (37, .iconst 1, 1), (38, .iadd, 1), (39, .putfield 5040, 3), (42, .return_, 1)]
def oe_c119 : List (Nat × Jvm.ClassFile.Instr × Nat) := [(0, .iload_n 3, 1), (1, .iconst 2, 1), (2, .if_icmp .ne 31, 3), (5, .aload_n 0, 1), (6, .aload_n 0, 1), (7, .getfield 5001, 3), (10, .getfield 3011, 3), (13, .iload_n 1, 1), (14, .iconst 1, 1), (15, .iadd, 1), (16, .iaload, 1), (17, .aload_n 0, 1), (18, .getfield 5001, 3), (21, .getfield 3011, 3), (24, .iload_n 2, 1), (25, .iconst 1, 1), (26, .iadd, 1), (27, .iaload, 1), (28, .invokevirtual 118052, 3), (31, .iload_n 3, 1), (32, .iconst 1, 1), (33, .if_icmp .lt 46, 3), (36, .aload_n 0, 1), (37, .iload_n 1, 1), (38, .iconst 1, 1), (39, .iadd, 1), (40, .iload_n 2, 1), (41, .iconst 1, 1), (42, .iadd, 1), (43, .invokevirtual 118052, 3), (46, .return_, 1)]
def oe_c120 : List (Nat × Jvm.ClassFile.Instr × Nat) := [(0, .iload_n 1, 1), (1, .istore_n 2, 1), (2, .iconst 0, 1), (3, .istore_n 3, 1), (4, .iload_n 3, 1), (5, .bipush 12, 2), (7, .if_icmp .ge 56, 3), (10, .aload_n 0, 1), (11, .getfield 5001, 3), (14, .getfield 3001, 3), (17, .iload_n 2, 1), (18, .iaload, 1), (19, .istore 4, 2), (21, .iload 4, 2), (23, .invokestatic 16001, 3), (26, .ifCond .eq 40, 3), (29, .aload_n 0, 1), (30, .getfield 5011, 3), (33, .iload 4, 2), (35, .iaload, 1), (36, .iconst (-1), 1), (37, .if_icmp .ne 42, 3), (40, .iload_n 2, 1), (41, .ireturn, 1), (42, .aload_n 0, 1), (43, .getfield 5011, 3), (46, .iload 4, 2), (48, .iaload, 1), (49, .istore_n 2, 1), (50, .iinc 3 1, 3), (53, .goto 4, 3), (56, .iload_n 2, 1), (57, .ireturn, 1)]
def oe_c121 : List (Nat × Jvm.ClassFile.Instr × Nat) := [(0, .aload_n 0, 1), (1, .iload_n 2, 1), (2, .aload_n 0, 1), (3, .getfield 5001, 3), (6, .getfield 3011, 3), (9, .iload_n 2, 1), (10, .iaload, 1), (11, .sipush 300, 3), (14, .invokevirtual 124053, 3), (17, .ifCond .eq 39, 3), (20, .aload_n 0, 1), (21, .getfield 5051, 3), (24, .iload_n 1, 1), (25, .iconst 0, 1), (26, .aload_n 0, 1), (27, .getfield 5051, 3), (30, .getfield 3020, 3), (33, .invokevirtual 106033, 3), (36, .ifCond .eq 41, 3), (39, .iconst 0, 1), (40, .ireturn, 1), (41, .aload_n 0, 1), (42, .getfield 5011, 3), (45, .iload_n 1, 1), (46, .iload_n 2, 1), (47, .iastore, 1), (48, .iconst 1, 1), (49, .ireturn, 1)]
def oe_c122 : List (Nat × Jvm.ClassFile.Instr × Nat) := [(0, .aload_n 0, 1), (1, .iload_n 1, 1), (2, .iload_n 2, 1), (3, .sipush 300, 3), (6, .invokevirtual 124053, 3), (9, .pop, 1), (10, .aload_n 0, 1), (11, .getfield 5051, 3), (14, .getfield 3020, 3), (17, .ireturn, 1)]
def oe_c123 : List (Nat × Jvm.ClassFile.Instr × Nat) := [(0, .aload_n 0, 1), (1, .iload_n 1, 1), (2, .aload_n 0, 1), (3, .getfield 5001, 3), (6, .getfield 3011, 3), (9, .iload_n 1, 1), (10, .iaload, 1), (11, .iload_n 3, 1), (12, .invokevirtual 124053, 3), (15, .ifCond .ne 20, 3), (18, .iconst 0, 1), (19, .ireturn, 1), (20, .aload_n 2, 1), (21, .invokevirtual 100030, 3), (24, .aload_n 2, 1), (25, .aload_n 0, 1), (26, .getfield 5051, 3), (29, .iconst 0, 1), (30, .invokevirtual 102032, 3), (33, .aload_n 2, 1), (34, .invokevirtual 103030, 3), (37, .iconst 1, 1), (38, .ireturn, 1)]
def oe_c124 : List (Nat × Jvm.ClassFile.Instr × Nat) := [(0, .aload_n 0, 1), (1, .getfield 5051, 3), (4, .invokevirtual 100030, 3), (7, .iconst 0, 1), (8, .istore 4, 2), (10, .aload_n 0, 1), (11, .getfield 5061, 3), (14, .iconst 0, 1), (15, .iload_n 1, 1), (16, .iastore, 1), (17, .aload_n 0, 1), (18, .getfield 5071, 3), (21, .iconst 0, 1), (22, .iload_n 2, 1), (23, .iastore, 1), (24, .iconst 0, 1), (25, .istore 5, 2), (27, .iload 5, 2), (29, .ldc 2000001, 2), (31, .if_icmp .ge 184, 3), (34, .iload 4, 2), (36, .ifCond .lt 184, 3), (39, .aload_n 0, 1), (40, .getfield 5061, 3), (43, .iload 4, 2), (45, .iaload, 1), (46, .aload_n 0, 1), (47, .getfield 5071, 3), (50, .iload 4, 2), (52, .iaload, 1), (53, .if_icmp .lt 62, 3), (56, .iinc 4 (-1), 3), (59, .goto 178, 3), (62, .aload_n 0, 1), (63, .getfield 5001, 3), (66, .getfield 3001, 3), (69, .aload_n 0, 1), (70, .getfield 5061, 3), (73, .iload 4, 2), (75, .iaload, 1), (76, .iaload, 1), (77, .istore 6, 2), (79, .aload_n 0, 1), (80, .getfield 5061, 3), (83, .iload 4, 2), (85, .dup2, 1), (86, .iaload, 1), (87, .iconst 1, 1), (88, .iadd, 1), (89, .iastore, 1), (90, .iload 6, 2), (92, .invokestatic 16001, 3), (95, .ifCond .eq 108, 3), (98, .aload_n 0, 1), (99, .getfield 5011, 3), (102, .iload 6, 2), (104, .iaload, 1), (105, .goto 109, 3), (108, .iconst (-1), 1), (109, .istore 7, 2), (111, .iload 7, 2), (113, .iconst (-1), 1), (114, .if_icmp .eq 156, 3), (117, .iload 4, 2), (119, .bipush 12, 2), (121, .if_icmp .ge 156, 3), (124, .iinc 4 1, 3), (127, .aload_n 0, 1), (128, .getfield 5061, 3), (131, .iload 4, 2), (133, .iload 7, 2), (135, .iastore, 1), (136, .aload_n 0, 1), (137, .getfield 5071, 3), (140, .iload 4, 2), (142, .aload_n 0, 1), (143, .getfield 5001, 3), (146, .getfield 3011, 3), (149, .iload 7, 2), (151, .iaload, 1), (152, .iastore, 1), (153, .goto 178, 3), (156, .aload_n 0, 1), (157, .getfield 5051, 3), (160, .getfield 3020, 3), (163, .iload_n 3, 1), (164, .if_icmp .ne 169, 3), (167, .iconst 0, 1), (168, .ireturn, 1), (169, .aload_n 0, 1), (170, .getfield 5051, 3), (173, .iload 6, 2), (175, .invokevirtual 101031, 3), (178, .iinc 5 1, 3), (181, .goto 27, 3), (184, .iload 4, 2), (186, .ifCond .ge 193, 3), (189, .iconst 1, 1), (190, .goto 194, 3), (193, .iconst 0, 1), (194, .ireturn, 1)]
def oe_c125 : List (Nat × Jvm.ClassFile.Instr × Nat) := [(0, .aload_n 0, 1), (1, .invokespecial 0, 3), (4, .aload_n 0, 1), (5, .bipush 30, 2), (7, .anewarray 0, 3), (10, .putfield 6001, 3), (13, .aload_n 0, 1), (14, .iconst 0, 1), (15, .putfield 6010, 3), (18, .iconst 0, 1), (19, .istore_n 1, 1), (20, .iload_n 1, 1), (21, .aload_n 0, 1), (22, .getfield 6001, 3), (25, .arraylength, 1), (26, .if_icmp .ge 50, 3), (29, .aload_n 0, 1), (30, .getfield 6001, 3), (33, .iload_n 1, 1), (34, .new 2, 3), (37, .dup, 1), (38, .bipush 20, 2), (40, .invokespecial 92021, 3), (43, .aastore, 1), (44, .iinc 1 1, 3), (47, .goto 20, 3), (50, .return_, 1)]
def oe_c126 : List (Nat × Jvm.ClassFile.Instr × Nat) := [(0, .aload_n 0, 1), (1, .getfield 6010, 3), (4, .aload_n 0, 1), (5, .getfield 6001, 3), (8, .arraylength, 1), (9, .if_icmp .lt 16, 3), (12, .iconst 1, 1), (13, .goto 17, 3), (16, .iconst 0, 1), (17, .ireturn, 1)]
def oe_c127 : List (Nat × Jvm.ClassFile.Instr × Nat) := [(0, .aload_n 0, 1), (1, .invokevirtual 126060, 3), (4, .ifCond .ne 37, 3), (7, .aload_n 0, 1), (8, .getfield 6001, 3), (11, .aload_n 0, 1), (12, .getfield 6010, 3), (15, .aaload, 1), (16, .aload_n 1, 1), (17, .getfield 2001, 3), (20, .aload_n 1, 1), (21, .getfield 2011, 3), (24, .invokevirtual 95022, 3), (27, .aload_n 0, 1), (28, .dup, 1), (29, .getfield 6010, 3), (32, .iconst 1, 1), (33, .iadd, 1), (34, .putfield 6010, 3), (37, .return_, 1)]
def oe_c128 : List (Nat × Jvm.ClassFile.Instr × Nat) := [(0, .aload_n 0, 1), (1, .getfield 6010, 3), (4, .ifCond .ne 8, 3), (7, .return_, 1), (8, .iconst 0, 1), (9, .istore_n 2, 1), (10, .iconst 1, 1), (11, .istore_n 3, 1), (12, .iload_n 3, 1), (13, .aload_n 0, 1), (14, .getfield 6010, 3), (17, .if_icmp .ge 49, 3), (20, .aload_n 0, 1), (21, .getfield 6001, 3), (24, .iload_n 3, 1), (25, .aaload, 1), (26, .invokevirtual 94020, 3), (29, .aload_n 0, 1), (30, .getfield 6001, 3), (33, .iload_n 2, 1), (34, .aaload, 1), (35, .invokevirtual 94020, 3), (38, .if_icmp .ge 43, 3), (41, .iload_n 3, 1), (42, .istore_n 2, 1), (43, .iinc 3 1, 3), (46, .goto 12, 3), (49, .aload_n 0, 1), (50, .getfield 6001, 3), (53, .iload_n 2, 1), (54, .aaload, 1), (55, .astore_n 3, 1), (56, .aload_n 1, 1), (57, .aload_n 3, 1), (58, .getfield 2001, 3), (61, .aload_n 3, 1), (62, .getfield 2011, 3), (65, .invokevirtual 95022, 3), (68, .aload_n 0, 1), (69, .dup, 1), (70, .getfield 6010, 3), (73, .iconst 1, 1), (74, .isub, 1), (75, .putfield 6010, 3), (78, .iload_n 2, 1), (79, .istore 4, 2), (81, .iload 4, 2), (83, .aload_n 0, 1), (84, .getfield 6010, 3), (87, .if_icmp .ge 112, 3), (90, .aload_n 0, 1), (91, .getfield 6001, 3), (94, .iload 4, 2), (96, .aload_n 0, 1), (97, .getfield 6001, 3), (100, .iload 4, 2), (102, .iconst 1, 1), (103, .iadd, 1), (104, .aaload, 1), (105, .aastore, 1), (106, .iinc 4 1, 3), (109, .goto 81, 3), (112, .aload_n 0, 1), (113, .getfield 6001, 3), (116, .aload_n 0, 1), (117, .getfield 6010, 3), (120, .aload_n 3, 1), (121, .aastore, 1), (122, .return_, 1)]
def oe_c129 : List (Nat × Jvm.ClassFile.Instr × Nat) := [(0, .iconst 0, 1), (1, .istore_n 2, 1), (2, .aload_n 0, 1), (3, .arraylength, 1), (4, .istore_n 3, 1), (5, .iload_n 2, 1), (6, .iload_n 3, 1), (7, .if_icmp .ge 20, 3), (10, .aload_n 0, 1), (11, .iload_n 2, 1), (12, .iload_n 1, 1), (13, .iastore, 1), (14, .iinc 2 1, 3), (17, .goto 5, 3), (20, .return_, 1)]
def oe_c130 : List (Nat × Jvm.ClassFile.Instr × Nat) := [(0, .new 0, 3), (3, .dup, 1), (4, .invokespecial 2000, 3), (7, .astore_n 1, 1), (8, .new 7, 3), (11, .dup, 1), (12, .invokespecial 28070, 3), (15, .astore_n 2, 1), (16, .iconst 1, 1), (17, .newarray .long, 2), (19, .astore_n 3, 1), (20, .iconst 0, 1), (21, .istore 4, 2), (23, .iload 4, 2), (25, .aload_n 0, 1), (26, .arraylength, 1), (27, .iconst 3, 1), (28, .isub, 1), (29, .if_icmp .gt 477, 3), (32, .aload_n 0, 1), (33, .iload 4, 2), (35, .iaload, 1), (36, .bipush 15, 2), (38, .iand, 1), (39, .tableswitch 471 0 12 #[104, 131, 144, 188, 201, 214, 270, 326, 394, 407, 420, 433, 446], 65), (104, .aload_n 1, 1), (105, .aload_n 0, 1), (106, .iload 4, 2), (108, .iconst 1, 1), (109, .iadd, 1), (110, .iaload, 1), (111, .i2c, 1), (112, .invokevirtual 3001, 3), (115, .aload_n 2, 1), (116, .aload_n 0, 1), (117, .iload 4, 2), (119, .iconst 1, 1), (120, .iadd, 1), (121, .iaload, 1), (122, .i2c, 1), (123, .invokevirtual 30071, 3), (126, .if_icmp .eq 471, 3), (129, .iconst 0, 1), (130, .ireturn, 1), (131, .aload_n 1, 1), (132, .invokevirtual 4000, 3), (135, .aload_n 2, 1), (136, .invokevirtual 31070, 3), (139, .if_icmp .eq 471, 3), (142, .iconst 0, 1), (143, .ireturn, 1), (144, .aload_n 1, 1), (145, .aload_n 3, 1), (149, .istore 5, 2), (151, .aload_n 2, 1), (152, .invokevirtual 73070, 3), (155, .istore 6, 2), (157, .aload_n 2, 1), (158, .invokevirtual 29070, 3), (161, .iload 5, 2), (163, .if_icmp .eq 168, 3), (166, .iconst 0, 1), (167, .ireturn, 1), (168, .iload 5, 2), (170, .ifCond .ne 185, 3), (173, .aload_n 3, 1), (174, .iconst 0, 1), (175, .laload, 1), (176, .iload 6, 2), (178, .i2l, 1), (179, .lcmp, 1), (180, .ifCond .eq 185, 3), (183, .iconst 0, 1), (184, .ireturn, 1), (185, .goto 471, 3), (188, .aload_n 1, 1), (189, .invokevirtual 6000, 3), (192, .aload_n 2, 1), (193, .invokevirtual 74070, 3), (196, .if_icmp .eq 471, 3), (199, .iconst 0, 1), (200, .ireturn, 1), (201, .aload_n 1, 1), (202, .invokevirtual 7000, 3), (205, .aload_n 2, 1), (206, .invokevirtual 75070, 3), (209, .if_icmp .eq 471, 3), (212, .iconst 0, 1), (213, .ireturn, 1), (214, .aload_n 1, 1), (215, .aload_n 0, 1), (216, .iload 4, 2), (218, .iconst 1, 1), (219, .iadd, 1), (220, .iaload, 1), (221, .aload_n 3, 1), (225, .istore 5, 2), (227, .aload_n 2, 1), (228, .aload_n 0, 1), (229, .iload 4, 2), (231, .iconst 1, 1), (232, .iadd, 1), (233, .iaload, 1), (234, .invokevirtual 76071, 3), (237, .istore 6, 2), (239, .aload_n 2, 1), (240, .invokevirtual 29070, 3), (243, .iload 5, 2), (245, .if_icmp .eq 250, 3), (248, .iconst 0, 1), (249, .ireturn, 1), (250, .iload 5, 2), (252, .ifCond .ne 267, 3), (255, .aload_n 3, 1), (256, .iconst 0, 1), (257, .laload, 1), (258, .iload 6, 2), (260, .i2l, 1), (261, .lcmp, 1), (262, .ifCond .eq 267, 3), (265, .iconst 0, 1), (266, .ireturn, 1), (267, .goto 471, 3), (270, .aload_n 1, 1), (271, .aload_n 0, 1), (272, .iload 4, 2), (274, .iconst 1, 1), (275, .iadd, 1), (276, .iaload, 1), (277, .aload_n 3, 1), (281, .istore 5, 2), (283, .aload_n 2, 1), (284, .aload_n 0, 1), (285, .iload 4, 2), (287, .iconst 1, 1), (288, .iadd, 1), (289, .iaload, 1), (290, .invokevirtual 77071, 3), (293, .istore 6, 2), (295, .aload_n 2, 1), (296, .invokevirtual 29070, 3), (299, .iload 5, 2), (301, .if_icmp .eq 306, 3), (304, .iconst 0, 1), (305, .ireturn, 1), (306, .iload 5, 2), (308, .ifCond .ne 323, 3), (311, .aload_n 3, 1), (312, .iconst 0, 1), (313, .laload, 1), (314, .iload 6, 2), (316, .i2l, 1), (317, .lcmp, 1), (318, .ifCond .eq 323, 3), (321, .iconst 0, 1), (322, .ireturn, 1), (323, .goto 471, 3), (326, .aload_n 1, 1), (327, .aload_n 0, 1), (328, .iload 4, 2), (330, .iconst 1, 1), (331, .iadd, 1), (332, .iaload, 1), (333, .aload_n 0, 1), (334, .iload 4, 2), (336, .iconst 2, 1), (337, .iadd, 1), (338, .iaload, 1), (339, .aload_n 3, 1), (343, .istore 5, 2), (345, .aload_n 2, 1), (346, .aload_n 0, 1), (347, .iload 4, 2), (349, .iconst 1, 1), (350, .iadd, 1), (351, .iaload, 1), (352, .aload_n 0, 1), (353, .iload 4, 2), (355, .iconst 2, 1), (356, .iadd, 1), (357, .iaload, 1), (358, .invokevirtual 79072, 3), (361, .istore 6, 2), (363, .aload_n 2, 1), (364, .invokevirtual 29070, 3), (367, .iload 5, 2), (369, .if_icmp .eq 374, 3), (372, .iconst 0, 1), (373, .ireturn, 1), (374, .iload 5, 2), (376, .ifCond .ne 391, 3), (379, .aload_n 3, 1), (380, .iconst 0, 1), (381, .laload, 1), (382, .iload 6, 2), (384, .i2l, 1), (385, .lcmp, 1), (386, .ifCond .eq 391, 3), (389, .iconst 0, 1), (390, .ireturn, 1), (391, .goto 471, 3), (394, .aload_n 1, 1), (395, .invokevirtual 11000, 3), (398, .aload_n 2, 1), (399, .invokevirtual 80070, 3), (402, .if_icmp .eq 471, 3), (405, .iconst 0, 1), (406, .ireturn, 1), (407, .aload_n 1, 1), (408, .invokevirtual 12000, 3), (411, .aload_n 2, 1), (412, .invokevirtual 81070, 3), (415, .if_icmp .eq 471, 3), (418, .iconst 0, 1), (419, .ireturn, 1), (420, .aload_n 1, 1), (421, .invokevirtual 13000, 3), (424, .aload_n 2, 1), (425, .invokevirtual 82070, 3), (428, .if_icmp .eq 471, 3), (431, .iconst 0, 1), (432, .ireturn, 1), (433, .aload_n 1, 1), (434, .invokevirtual 14000, 3), (437, .aload_n 2, 1), (438, .invokevirtual 83070, 3), (441, .if_icmp .eq 471, 3), (444, .iconst 0, 1), (445, .ireturn, 1), (446, .aload_n 1, 1), (447, .aload_n 0, 1), (448, .iload 4, 2), (450, .iconst 1, 1), (451, .iadd, 1), (452, .iaload, 1), (453, .invokevirtual 15001, 3), (456, .aload_n 2, 1), (457, .aload_n 0, 1), (458, .iload 4, 2), (460, .iconst 1, 1), (461, .iadd, 1), (462, .iaload, 1), (463, .invokevirtual 84071, 3), (466, .if_icmp .eq 471, 3), (469, .iconst 0, 1), (470, .ireturn, 1), (471, .iinc 4 3, 3), (474, .goto 23, 3), (477, .iconst 1, 1), (478, .ireturn, 1)]
def oe_cps (j : Nat) : List (Nat × Nat) := match j with
  | 2 => [(1, 3), (9, 9), (14, 13), (22, 17), (27, 20), (31, 23), (35, 25), (38, 26), (42, 30), (46, 32), (49, 33), (53, 37), (57, 39), (60, 40), (65, 44), (69, 47), (75, 49), (78, 52), (83, 56), (87, 47), (93, 49), (96, 60), (100, 47), (106, 49), (109, 63), (113, 47), (119, 49), (122, 66), (130, 69)]
  | 3 => [(13, 13), (24, 9), (28, 13), (35, 13), (40, 13)]
  | 4 => [(1, 13), (7, 13)]
  | 5 => [(1, 26), (4, 73), (23, 84), (37, 60), (40, 88), (53, 60), (57, 69), (60, 92), (65, 26), (69, 60), (72, 96), (76, 26), (79, 100)]
  | 6 => [(3, 84), (17, 60), (20, 103), (23, 107), (32, 60), (35, 111), (38, 107), (51, 52), (55, 60), (58, 103), (62, 60), (65, 111), (68, 114), (73, 56), (78, 52), (81, 118), (85, 121)]
  | 7 => [(1, 124)]
  | 8 => [(22, 124), (43, 124)]
  | 9 => [(29, 33), (32, 132), (37, 26), (40, 100), (45, 44)]
  | 10 => [(22, 135), (42, 20), (47, 103), (50, 144), (54, 17), (58, 20), (66, 20), (71, 20), (76, 111), (79, 144), (83, 20)]
  | 11 => [(3, 84), (17, 60), (20, 148), (29, 60), (32, 103), (37, 60), (40, 111), (45, 151), (54, 60), (57, 111), (62, 60), (65, 103), (70, 151)]
  | 12 => [(3, 84), (17, 40), (20, 155), (25, 159), (30, 60), (33, 103), (37, 164), (43, 60), (46, 111), (50, 164), (59, 168), (68, 60), (71, 103), (76, 172), (87, 20), (92, 60), (95, 103), (98, 144), (102, 20)]
  | 13 => [(3, 84), (17, 60), (20, 103), (23, 107), (36, 33), (40, 60), (43, 103), (46, 176), (52, 20), (57, 60), (60, 103), (63, 144)]
  | 14 => [(1, 20)]
  | 15 => [(6, 20), (18, 17)]
  | 16 => []
  | 17 => []
  | 18 => [(1, 13), (7, 13), (11, 60), (14, 103), (17, 197), (21, 60), (24, 111), (27, 197), (60, 9), (84, 9), (90, 200), (107, 189), (122, 60), (125, 111), (132, 60), (135, 103), (140, 204), (147, 206), (178, 60), (181, 103), (184, 209), (188, 60), (191, 111), (194, 209)]
  | 19 => [(4, 107), (11, 20), (15, 17), (23, 17), (27, 20), (31, 212), (36, 215), (42, 20), (47, 20)]
  | 20 => [(6, 56), (13, 52), (26, 33), (29, 132), (36, 26), (39, 100), (59, 33), (62, 218), (71, 26), (74, 222)]
  | 21 => [(1, 56), (8, 52), (11, 148)]
  | 22 => [(1, 33), (5, 103), (8, 176), (13, 33), (17, 111), (20, 176)]
  | 23 => [(1, 121), (10, 26), (13, 100), (22, 26), (26, 63), (29, 223), (34, 63), (37, 118), (41, 63), (44, 148), (51, 63), (54, 88), (66, 63), (69, 226), (75, 33), (78, 218), (82, 33), (85, 132), (89, 63), (92, 230), (101, 33), (104, 234), (113, 33), (117, 63), (120, 235), (125, 33), (128, 132), (133, 236), (137, 56), (145, 52), (148, 118), (152, 121)]
  | 24 => [(2, 69), (5, 92), (10, 66), (14, 111), (18, 103), (21, 114), (25, 66), (29, 69), (32, 92)]
  | 25 => [(21, 239), (32, 66), (35, 239)]
  | 26 => [(90, 33), (93, 218), (111, 243), (114, 107), (122, 40), (126, 33), (129, 218), (143, 247), (146, 251)]
  | 27 => [(7, 44), (12, 44), (22, 40), (25, 254), (30, 33), (34, 103), (37, 176), (42, 33), (46, 111), (49, 176), (54, 148), (63, 226), (74, 88), (84, 44), (89, 44), (95, 33), (98, 218), (102, 33), (105, 132), (109, 230), (117, 26), (120, 222), (124, 26), (127, 100), (131, 230), (139, 26), (142, 73), (150, 44), (155, 44), (160, 26), (164, 96)]
  | 28 => [(1, 1), (9, 7), (17, 13), (25, 16), (34, 19), (42, 22), (50, 25), (59, 28), (67, 31), (75, 34), (84, 37), (92, 40), (100, 43), (108, 46), (116, 49), (124, 52), (132, 55), (141, 58), (149, 62), (157, 65), (165, 68), (173, 71), (181, 74), (189, 77), (198, 80), (207, 83), (216, 86), (224, 89), (232, 92), (241, 95), (248, 98)]
  | 29 => [(1, 101)]
  | 30 => [(2, 101), (18, 105), (29, 7), (33, 105), (40, 105), (45, 105)]
  | 31 => [(2, 101), (6, 105), (12, 105)]
  | 32 => []
  | 33 => []
  | 34 => []
  | 35 => []
  | 36 => [(1, 105), (7, 105), (12, 108), (17, 111), (48, 7), (54, 114), (71, 118), (85, 122), (91, 16), (95, 111), (103, 111), (108, 111), (120, 7), (136, 111), (139, 108)]
  | 37 => [(1, 52), (9, 55), (37, 52), (46, 46), (55, 49)]
  | 38 => [(13, 46), (18, 122), (29, 58), (47, 125), (60, 52)]
  | 39 => [(13, 49), (18, 122), (29, 58), (50, 55)]
  | 40 => [(15, 46), (20, 122), (30, 125), (37, 58), (50, 52), (57, 55)]
  | 41 => [(1, 46), (8, 49), (17, 118), (32, 52), (46, 46), (88, 118), (99, 129), (110, 132), (131, 135)]
  | 42 => [(1, 138), (19, 46), (24, 122), (31, 52), (44, 52), (57, 141), (75, 49), (80, 122), (87, 55), (100, 55), (113, 138), (124, 141), (135, 58), (147, 144), (164, 58)]
  | 43 => [(12, 62), (17, 122)]
  | 44 => [(11, 65), (37, 28), (48, 147), (58, 118), (65, 62), (87, 150), (96, 65), (107, 65), (114, 68), (124, 153), (133, 65), (142, 68)]
  | 45 => [(28, 62), (37, 62)]
  | 46 => [(2, 157), (15, 28), (25, 118), (32, 65), (45, 118), (52, 68), (65, 157), (88, 71), (92, 157), (97, 118), (104, 62), (108, 65), (126, 157), (131, 157)]
  | 47 => [(4, 138), (15, 46), (22, 62), (36, 157), (39, 141), (46, 157), (53, 49), (58, 71), (71, 160)]
  | 48 => [(1, 147), (9, 157), (23, 147), (37, 62), (46, 62), (68, 147), (75, 62), (84, 62), (103, 157), (110, 62), (118, 71), (134, 157), (140, 147)]
  | 49 => [(4, 147), (12, 150), (21, 164), (56, 31), (68, 34), (103, 167), (137, 147), (145, 171), (154, 174), (175, 177)]
  | 50 => [(9, 181)]
  | 51 => [(2, 40), (7, 147), (14, 147), (21, 62), (26, 37), (44, 184), (49, 40), (54, 147), (62, 147), (69, 37), (79, 62)]
  | 52 => [(1, 40), (7, 40), (31, 40), (40, 37), (52, 37)]
  | 53 => [(9, 43), (45, 40), (53, 40), (66, 40), (76, 37), (92, 118), (99, 43), (109, 43), (120, 43), (129, 37)]
  | 54 => [(3, 188), (16, 37), (24, 37), (35, 37), (43, 37)]
  | 55 => [(1, 40), (12, 40), (19, 40), (69, 37), (85, 37)]
  | 56 => [(3, 188), (13, 164), (25, 28), (30, 31), (36, 34), (43, 192), (51, 28), (56, 31), (62, 34), (69, 192), (91, 196), (107, 19), (112, 22), (118, 25), (125, 192), (133, 19), (138, 22), (144, 25), (151, 192)]
  | 57 => [(1, 22), (5, 196), (9, 40), (16, 25), (20, 196), (24, 40), (30, 40), (41, 25), (45, 196), (53, 19), (59, 196), (67, 40), (76, 37), (88, 37), (96, 40), (112, 196), (117, 196)]
  | 58 => [(3, 74), (8, 118), (15, 77), (19, 74), (29, 77), (33, 74)]
  | 59 => [(12, 74), (17, 122)]
  | 60 => [(4, 89), (11, 92), (23, 89), (32, 92), (50, 89), (61, 89), (74, 74), (80, 118), (87, 77), (91, 74), (102, 89), (108, 77), (112, 74), (121, 92), (128, 77), (132, 74), (139, 199), (150, 202), (160, 86), (164, 202), (168, 74), (177, 202), (182, 202)]
  | 61 => [(2, 202), (9, 199), (15, 205), (29, 202), (36, 86), (63, 77)]
  | 62 => [(9, 77), (22, 80), (29, 83), (39, 208), (51, 80), (56, 211), (63, 83), (68, 211), (75, 208), (80, 208), (84, 208), (96, 74), (102, 118), (109, 74), (116, 74), (127, 74), (135, 214), (144, 74), (150, 118), (158, 74), (166, 214), (175, 74), (182, 74), (194, 74), (200, 122), (212, 80), (221, 199), (226, 83), (235, 199), (248, 80), (258, 83)]
  | 63 => [(2, 202), (10, 205), (21, 202), (28, 95), (39, 86), (53, 98), (58, 202)]
  | 64 => [(2, 98), (7, 138), (12, 98), (17, 141), (21, 138), (25, 141), (43, 138), (50, 46), (56, 95), (80, 141), (87, 49), (93, 95), (110, 46), (117, 49), (143, 160)]
  | 65 => [(1, 34), (19, 74), (25, 28), (49, 34), (58, 28), (72, 74), (82, 118), (114, 31), (126, 31), (143, 31), (164, 31), (184, 31), (200, 31), (212, 34), (228, 31), (249, 34), (261, 31), (281, 217), (294, 220), (306, 220), (318, 220), (330, 220), (350, 223), (355, 223), (362, 226), (371, 226), (380, 202), (390, 205), (403, 205), (413, 199), (420, 205), (428, 223), (433, 223), (438, 40), (443, 202), (453, 202), (460, 37), (469, 86), (483, 40), (488, 98), (500, 40), (509, 37), (518, 95), (535, 229)]
  | 66 => [(2, 232), (7, 232), (13, 236), (21, 40), (27, 40), (39, 239), (49, 223), (54, 223), (62, 242), (69, 196), (79, 223), (84, 223), (91, 246)]
  | 67 => [(46, 31), (64, 31), (73, 34), (119, 28), (128, 118), (148, 249)]
  | 68 => [(1, 253), (10, 236)]
  | 69 => [(1, 253), (9, 232), (14, 232)]
  | 70 => [(6, 196), (13, 25), (19, 25), (40, 40), (45, 22), (52, 40), (57, 25), (63, 22), (74, 25), (84, 22), (93, 37), (101, 19), (116, 37), (124, 22), (131, 19), (154, 196), (161, 22), (166, 22), (175, 25), (180, 25), (197, 19), (207, 19), (235, 196), (240, 196)]
  | 71 => [(1, 257), (10, 196), (19, 260), (24, 232), (29, 232), (35, 236), (42, 40), (48, 40), (62, 239), (68, 242), (77, 164), (88, 31), (92, 164), (96, 40), (103, 34), (107, 164), (111, 40), (117, 40), (128, 34), (132, 164), (140, 28), (146, 164), (154, 40), (163, 37), (175, 37), (183, 40), (199, 164), (204, 164), (211, 164), (219, 164), (225, 263), (230, 164), (241, 164), (246, 263), (256, 266), (260, 257)]
  | 72 => [(1, 40), (6, 108), (11, 40), (18, 111), (22, 108), (31, 111), (39, 108), (46, 37), (56, 16), (66, 37), (79, 108), (84, 16)]
  | 73 => [(2, 196), (15, 101), (19, 101), (29, 269), (42, 111), (56, 272), (60, 239), (65, 246), (69, 196)]
  | 74 => [(2, 101), (7, 269), (20, 108), (29, 111), (33, 108), (48, 272), (53, 253), (57, 266), (61, 257)]
  | 75 => [(2, 101), (6, 275)]
  | 76 => [(17, 101), (21, 101), (48, 275)]
  | 77 => [(15, 101), (19, 101), (34, 164), (46, 196), (53, 223)]
  | 78 => [(1, 13), (5, 278), (12, 278), (17, 278)]
  | 79 => [(10, 164), (35, 196), (50, 253), (77, 101), (81, 101), (91, 278), (99, 31), (113, 22), (122, 40), (134, 34), (148, 25), (157, 40), (163, 40), (191, 281), (200, 28), (220, 19), (242, 37), (252, 37), (264, 284), (267, 281), (277, 278)]
  | 80 => [(2, 101), (7, 269), (20, 108), (25, 111), (29, 108), (61, 16), (68, 16), (120, 138), (135, 141), (144, 138), (151, 46), (157, 16), (189, 141), (196, 49), (202, 16), (229, 160)]
  | 81 => [(2, 101), (7, 269), (23, 111), (30, 74), (35, 16), (50, 108), (53, 217), (64, 202), (70, 108), (75, 205), (86, 278), (93, 202), (101, 86), (106, 284), (109, 281), (119, 278)]
  | 82 => [(2, 101), (7, 269), (20, 111), (34, 111), (37, 147), (44, 111), (51, 62), (56, 16), (69, 184), (75, 278), (82, 147), (90, 62), (95, 284), (98, 281)]
  | 83 => [(2, 101), (6, 278)]
  | 84 => [(2, 101), (11, 278), (23, 13)]
  | 85 => [(1, 3), (7, 9), (10, 11), (15, 17), (23, 21), (31, 25), (35, 29), (41, 31), (44, 34), (51, 11), (59, 11), (63, 9), (69, 38)]
  | 86 => [(1, 17), (5, 11)]
  | 87 => [(1, 39), (9, 11), (13, 17), (20, 43), (24, 46), (27, 49), (31, 21), (36, 17), (41, 43), (45, 46), (48, 53), (53, 21), (58, 17), (65, 46), (69, 43), (72, 53), (78, 17), (83, 17)]
  | 88 => [(16, 57), (30, 60)]
  | 89 => [(3, 57), (8, 64), (24, 17), (32, 11), (43, 21), (59, 67), (64, 71), (79, 67), (84, 75), (93, 34), (98, 78), (107, 34), (110, 82)]
  | 90 => [(1, 25), (5, 86), (17, 57), (24, 91), (35, 57), (45, 94), (52, 91), (72, 25), (83, 25), (96, 25), (105, 98), (114, 64)]
  | 91 => [(1, 34), (4, 102), (13, 57), (20, 91), (30, 94), (37, 25), (60, 64), (72, 34), (75, 57), (98, 34), (113, 91), (122, 105), (138, 34), (141, 108)]
  | 92 => [(1, 3), (5, 9), (10, 11), (13, 14), (17, 9), (22, 11), (25, 20)]
  | 93 => [(5, 14), (12, 20)]
  | 94 => [(1, 14), (4, 23), (8, 20), (11, 23)]
  | 95 => [(1, 14), (5, 27), (9, 20), (13, 27)]
  | 96 => [(1, 14), (6, 20), (10, 31)]
  | 97 => [(1, 14), (6, 14), (10, 31), (17, 20), (22, 20), (26, 31)]
  | 98 => [(2, 35), (6, 20), (11, 14), (16, 41), (19, 41)]
  | 99 => [(1, 3), (6, 9), (13, 15), (20, 19)]
  | 100 => [(2, 9)]
  | 101 => [(1, 9), (5, 15), (13, 15), (17, 9), (24, 9), (29, 9)]
  | 102 => [(4, 9), (11, 15), (21, 22), (36, 26)]
  | 103 => [(1, 9), (16, 15), (28, 9), (35, 19), (42, 15), (54, 9), (61, 19), (68, 19)]
  | 104 => [(1, 9), (5, 15), (13, 15), (18, 15), (23, 9), (26, 30), (30, 19), (35, 19), (40, 9), (43, 30), (48, 9), (51, 9)]
  | 105 => [(1, 19), (9, 9), (14, 9), (25, 15), (34, 15), (39, 15), (44, 9), (49, 9), (54, 30), (58, 15), (63, 15), (68, 9), (71, 30), (77, 9), (81, 36)]
  | 106 => [(10, 15)]
  | 107 => [(4, 9), (11, 15), (16, 22), (24, 15), (31, 9), (34, 39)]
  | 108 => [(8, 9), (15, 15), (25, 22), (51, 15)]
  | 109 => [(1, 19), (11, 19), (36, 15), (45, 15)]
  | 110 => [(1, 15), (9, 15), (18, 22), (36, 19), (41, 39), (55, 22), (108, 43), (120, 47), (127, 19), (136, 19), (154, 43), (172, 51), (178, 19), (187, 19), (211, 43), (226, 51), (235, 19), (262, 43), (273, 47), (288, 51), (297, 19)]
  | 111 => [(1, 3), (5, 9), (9, 11), (12, 12), (16, 18), (22, 20), (25, 23), (29, 18), (35, 20), (38, 27)]
  | 112 => [(3, 30), (6, 34), (12, 40), (21, 12), (24, 44), (28, 12), (33, 30), (37, 47), (43, 12), (50, 30), (54, 47), (60, 12), (66, 30), (71, 47), (77, 12), (85, 30), (90, 47), (96, 12), (106, 51), (115, 12), (121, 27), (124, 55), (129, 59), (136, 12), (142, 27), (145, 63), (150, 59), (157, 12), (163, 23), (166, 55), (171, 59), (178, 12), (184, 23), (187, 63), (192, 59), (202, 27), (205, 66), (213, 23), (216, 66), (225, 23), (228, 55), (231, 70), (235, 27), (238, 55), (241, 70), (246, 27), (249, 63), (252, 70), (264, 23), (267, 55), (271, 12), (281, 74), (285, 27), (288, 63), (291, 78)]
  | 113 => [(1, 82), (8, 63), (13, 55), (18, 86)]
  | 114 => [(1, 3), (5, 9), (11, 11), (14, 14), (22, 20), (31, 24), (40, 27), (45, 30), (49, 9), (56, 11), (59, 34), (67, 37), (75, 40)]
  | 115 => [(1, 14), (4, 43)]
  | 116 => [(1, 14), (4, 46), (9, 14), (14, 49), (18, 14), (21, 53)]
  | 117 => [(1, 20), (5, 56), (10, 30), (16, 62), (29, 30), (37, 30), (42, 30), (47, 24), (51, 30), (55, 66), (62, 27), (66, 30), (70, 66), (76, 14), (79, 70), (88, 14), (91, 70), (101, 73), (119, 77), (129, 73), (140, 77), (164, 81), (167, 84), (177, 30)]
  | 118 => [(1, 30), (5, 24), (13, 24), (17, 30), (23, 27), (27, 30), (34, 30), (39, 30)]
  | 119 => [(7, 14), (10, 88), (18, 14), (21, 88), (28, 62), (43, 62)]
  | 120 => [(11, 14), (14, 70), (23, 73), (30, 20), (43, 20)]
  | 121 => [(3, 14), (6, 88), (14, 91), (21, 34), (27, 34), (30, 46), (33, 95), (42, 20)]
  | 122 => [(6, 91), (11, 34), (14, 46)]
  | 123 => [(3, 14), (6, 88), (12, 91), (21, 43), (26, 34), (30, 49), (34, 53)]
  | 124 => [(1, 34), (4, 43), (11, 37), (18, 40), (29, 98), (40, 37), (47, 40), (63, 14), (66, 70), (70, 37), (80, 37), (92, 73), (99, 20), (128, 37), (137, 40), (143, 14), (146, 88), (157, 34), (160, 46), (170, 34), (175, 99)]
  | 125 => [(1, 3), (7, 9), (10, 11), (15, 17), (22, 11), (30, 11), (34, 9), (40, 21)]
  | 126 => [(1, 17), (5, 11)]
  | 127 => [(1, 24), (8, 11), (12, 17), (17, 28), (21, 32), (24, 35), (29, 17), (34, 17)]
  | 128 => [(1, 17), (14, 17), (21, 11), (26, 39), (30, 11), (35, 39), (50, 11), (58, 28), (62, 32), (65, 35), (70, 17), (75, 17), (84, 17), (91, 11), (97, 11), (113, 11), (117, 17)]
  | 129 => []
  | 130 => [(0, 8), (4, 30), (8, 31), (12, 33), (112, 34), (123, 38), (132, 39), (136, 42), (152, 48), (158, 49), (189, 52), (193, 55), (202, 56), (206, 59), (234, 63), (240, 49), (290, 66), (296, 49), (358, 70), (364, 49), (395, 71), (399, 74), (408, 75), (412, 78), (421, 79), (425, 82), (434, 83), (438, 86), (453, 87), (463, 91)]
  | _ => []
def oe_nhs (j : Nat) : List (Nat × String) := match j with
  | 2 => [(57, "OrderedEquations")]
  | 11 => [(45, "OrderedEquations"), (70, "OrderedEquations")]
  | 89 => [(98, "OrderedEquations")]
  | 90 => [(45, "OrderedEquations")]
  | 91 => [(30, "OrderedEquations")]
  | 102 => [(21, "OrderedEquations")]
  | 107 => [(16, "OrderedEquations")]
  | 108 => [(25, "OrderedEquations")]
  | 110 => [(18, "OrderedEquations"), (55, "OrderedEquations"), (108, "OrderedEquations"), (154, "OrderedEquations"), (211, "OrderedEquations"), (262, "OrderedEquations")]
  | 111 => [(9, "OrderedEquations")]
  | 112 => [(12, "OrderedEquations")]
  | 113 => [(18, "OrderedEquations")]
  | 117 => [(101, "OrderedEquations"), (129, "OrderedEquations"), (164, "OrderedEquations")]
  | 120 => [(23, "OrderedEquations")]
  | 124 => [(92, "OrderedEquations")]
  | _ => []
def oe_nM : Nat := 131
def oe_codes : List (List (Nat × Jvm.ClassFile.Instr × Nat)) := [[], [], oe_c2, oe_c3, oe_c4, oe_c5, oe_c6, oe_c7, oe_c8, oe_c9, oe_c10, oe_c11, oe_c12, oe_c13, oe_c14, oe_c15, oe_c16, oe_c17, oe_c18, oe_c19, oe_c20, oe_c21, oe_c22, oe_c23, oe_c24, oe_c25, oe_c26, oe_c27, oe_c28, oe_c29, oe_c30, oe_c31, oe_c32, oe_c33, oe_c34, oe_c35, oe_c36, oe_c37, oe_c38, oe_c39, oe_c40, oe_c41, oe_c42, oe_c43, oe_c44, oe_c45, oe_c46, oe_c47, oe_c48, oe_c49, oe_c50, oe_c51, oe_c52, oe_c53, oe_c54, oe_c55, oe_c56, oe_c57, oe_c58, oe_c59, oe_c60, oe_c61, oe_c62, oe_c63, oe_c64, oe_c65, oe_c66, oe_c67, oe_c68, oe_c69, oe_c70, oe_c71, oe_c72, oe_c73, oe_c74, oe_c75, oe_c76, oe_c77, oe_c78, oe_c79, oe_c80, oe_c81, oe_c82, oe_c83, oe_c84, oe_c85, oe_c86, oe_c87, oe_c88, oe_c89, oe_c90, oe_c91, oe_c92, oe_c93, oe_c94, oe_c95, oe_c96, oe_c97, oe_c98, oe_c99, oe_c100, oe_c101, oe_c102, oe_c103, oe_c104, oe_c105, oe_c106, oe_c107, oe_c108, oe_c109, oe_c110, oe_c111, oe_c112, oe_c113, oe_c114, oe_c115, oe_c116, oe_c117, oe_c118, oe_c119, oe_c120, oe_c121, oe_c122, oe_c123, oe_c124, oe_c125, oe_c126, oe_c127, oe_c128, oe_c129, oe_c130]
def oe_code (j : Nat) : List (Nat × Jvm.ClassFile.Instr × Nat) := oe_codes.getD j []
theorem oe_code_out (j : Nat) (h : oe_nM ≤ j) : oe_code j = [] := by
  unfold oe_code
  rw [List.getD_eq_getElem?_getD, List.getElem?_eq_none (show oe_codes.length ≤ j from h)]
  rfl
end
section
/-! A small machine over whole numbers: what a method does is spoken of here, and proved of the bytecode by the rows behind. -/
-- a value: a number; a cell; or (0, x) a long, (1, _) null, (2, k) the k-th text, (3, _) the script, (5, k) the bytes of the k-th text
abbrev oeV : Type := Int ⊕ Nat ⊕ (Nat × Int)
-- the heap: shapes (kind, length) of the cells, references in them, numbers in them; kinds 0 int[], 1 char[], 2 boolean[], 3 long[], 4 rows of equations, 5 + c an object of the c-th sort
abbrev oeH : Type := List (Nat × Nat) × (Nat → Nat → Option Nat) × (Nat → Nat → Int)
abbrev oeX : Type := Nat → List (Option oeV) → List oeV → oeH → Nat → Nat → Prop
abbrev oeQ : Type := Option oeV → oeH → Prop
abbrev oeC : Type := Nat → List oeV → oeH → oeQ → Prop
def oe_up {α : Type} (h : Nat → Nat → α) (a i : Nat) (v : α) : Nat → Nat → α := va_up h a (va_up (h a) i v)
def oe_rg (x : Int) : Prop := -2147483648 ≤ x ∧ x < 2147483648
def oe_br (c : Jvm.ClassFile.Cond) (x y : Int) (A B : Prop) : Prop := match c with
  | .eq => (x = y → A) ∧ (x ≠ y → B)
  | .ne => (x ≠ y → A) ∧ (x = y → B)
  | .lt => (x < y → A) ∧ (y ≤ x → B)
  | .ge => (y ≤ x → A) ∧ (x < y → B)
  | .gt => (y < x → A) ∧ (x ≤ y → B)
  | .le => (x ≤ y → A) ∧ (y < x → B)
def oe_i1 (S : List oeV) (f : Int → List oeV → Prop) : Prop := match S with
  | .inl x :: T => f x T
  | _ => False
def oe_i2 (S : List oeV) (f : Int → Int → List oeV → Prop) : Prop := match S with
  | .inl y :: .inl x :: T => f x y T
  | _ => False
def oe_r1 (S : List oeV) (f : Nat → List oeV → Prop) : Prop := match S with
  | .inr (.inl a) :: T => f a T
  | _ => False
def oe_l2 (S : List oeV) (f : Int → Int → List oeV → Prop) : Prop := match S with
  | .inr (.inr (0, y)) :: .inr (.inr (0, x)) :: T => f x y T
  | _ => False
def oe_ir (S : List oeV) (f : Int → Nat → List oeV → Prop) : Prop := match S with
  | .inl i :: .inr (.inl a) :: T => f i a T
  | _ => False
def oe_iir (S : List oeV) (f : Int → Int → Nat → List oeV → Prop) : Prop := match S with
  | .inl v :: .inl i :: .inr (.inl a) :: T => f v i a T
  | _ => False
def oe_rir (S : List oeV) (f : Nat → Int → Nat → List oeV → Prop) : Prop := match S with
  | .inr (.inl v) :: .inl i :: .inr (.inl a) :: T => f v i a T
  | _ => False
def oe_lir (S : List oeV) (f : Int → Int → Nat → List oeV → Prop) : Prop := match S with
  | .inr (.inr (0, v)) :: .inl i :: .inr (.inl a) :: T => f v i a T
  | _ => False
def oe_sh (sh : List (Nat × Nat)) (a : Nat) (f : Nat → Nat → Prop) : Prop := match sh[a]? with
  | some q => f q.1 q.2
  | none => False
def oe_lo (L : List (Option oeV)) (i : Nat) (f : oeV → Prop) : Prop := match L[i]? with
  | some (some v) => f v
  | _ => False
def oe_il (v : oeV) (f : Int → Prop) : Prop := match v with
  | .inl x => f x
  | _ => False
def oe_rl (v : oeV) (A : Prop) : Prop := match v with
  | .inr (.inl _) => A
  | .inr (.inr (3, _)) => A
  | _ => False
def oe_c1 (v : oeV) : Prop := match v with
  | .inr (.inr (0, _)) => False
  | _ => True
-- an element is read, a cell of kind t
def oe_ald (S : List oeV) (hp : oeH) (t : Nat) (f : Nat → Nat → List oeV → Prop) : Prop :=
  oe_ir S (fun i a T => oe_sh hp.1 a (fun u n => u = t ∧ 0 ≤ i ∧ i < n ∧ f a i.toNat T))
def oe_ast (S : List oeV) (hp : oeH) (t : Nat) (f : Int → Nat → Nat → List oeV → Prop) : Prop :=
  oe_iir S (fun v i a T => oe_sh hp.1 a (fun u n => u = t ∧ 0 ≤ i ∧ i < n ∧ f v a i.toNat T))
def oe_new (hp : oeH) (q : Nat × Nat) : oeH := (hp.1 ++ [q], va_up hp.2.1 hp.1.length (fun _ => none), va_up hp.2.2 hp.1.length (fun _ => 0))
def oe_call (lim : Nat × Nat) (C : oeC) (X : oeX) (j np N : Nat) (L : List (Option oeV)) (S : List oeV) (hp : oeH) (k n : Nat) : Prop :=
  np ≤ S.length ∧ S.length ≤ np + 4 ∧ k + (oe_cost j).1 ≤ lim.1 ∧ n + (oe_cost j).2 ≤ lim.2 ∧
  C j (S.take np).reverse hp (fun r hp' => X N L (r.toList ++ S.drop np) hp' (k + (oe_cost j).1) (n + (oe_cost j).2))
def oe_gf (hp : oeH) (a r : Nat) (f : oeV → Prop) : Prop :=
  oe_sh hp.1 a (fun u _ => u = r / 1000 + 5 ∧ (if r % 10 = 1 then (match hp.2.1 a (r / 10 % 100) with
    | some q => f (.inr (.inl q))
    | none => f (.inr (.inr (1, 0)))) else f (.inl (hp.2.2 a (r / 10 % 100)))))
def oe_pf (S : List oeV) (hp : oeH) (r : Nat) (f : List oeV → oeH → Prop) : Prop := match S with
  | .inl v :: .inr (.inl a) :: T => oe_sh hp.1 a (fun u _ => u = r / 1000 + 5 ∧ (r % 10 = 0 ∨ (r % 10 = 2 ∧ (v = 0 ∨ v = 1))) ∧ f T (hp.1, hp.2.1, oe_up hp.2.2 a (r / 10 % 100) v))
  | .inr (.inl q) :: .inr (.inl a) :: T => oe_sh hp.1 a (fun u _ => u = r / 1000 + 5 ∧ r % 10 = 1 ∧ f T (hp.1, oe_up hp.2.1 a (r / 10 % 100) (some q), hp.2.2))
  | _ => False
def oe_cpy (h : Nat → Nat → Int) (a sp b dp n : Nat) : Nat → Nat → Int := va_up h b (va_cpy (h a) (h b) sp dp n)
def oe_copy (S : List oeV) (hp : oeH) (f : List oeV → oeH → Prop) : Prop := match S with
  | .inl n :: .inl dp :: .inr (.inl b) :: .inl sp :: .inr (.inl a) :: T => oe_sh hp.1 a (fun u na => u = 0 ∧ oe_sh hp.1 b (fun u nb => u = 0 ∧ 0 ≤ n ∧ 0 ≤ dp ∧ 0 ≤ sp ∧ sp + n ≤ na ∧ dp + n ≤ nb ∧ T.length ≤ 4 ∧ f T (hp.1, hp.2.1, oe_cpy hp.2.2 a sp.toNat b dp.toNat n.toNat)))
  | _ => False
def oe_ins (lim : Nat × Nat) (rt : Nat) (C : oeC) (sc : Option (Nat × (Nat → Int))) (Q : oeQ) (X : oeX) (i : Jvm.ClassFile.Instr) (N : Nat) (L : List (Option oeV)) (S : List oeV) (hp : oeH) (k n : Nat) : Prop := match i with
  | .iconst v => X N L (.inl v :: S) hp k n
  | .bipush v => X N L (.inl v :: S) hp k n
  | .sipush v => X N L (.inl v :: S) hp k n
  | .ldc r => if r % 2 = 1 then X N L (.inl (r / 2 : Nat) :: S) hp k n else X N L (.inr (.inr (2, (r / 2 : Nat))) :: S) hp k n
  | .aconst_null => X N L (.inr (.inr (1, 0)) :: S) hp k n
  | .iload i => oe_lo L i (fun v => oe_il v (fun x => X N L (.inl x :: S) hp k n))
  | .iload_n i => oe_lo L i (fun v => oe_il v (fun x => X N L (.inl x :: S) hp k n))
  | .aload i => oe_lo L i (fun v => oe_rl v (X N L (v :: S) hp k n))
  | .aload_n i => oe_lo L i (fun v => oe_rl v (X N L (v :: S) hp k n))
  | .istore i => oe_i1 S (fun x T => X N (L.set i (some (.inl x))) T hp k n)
  | .istore_n i => oe_i1 S (fun x T => X N (L.set i (some (.inl x))) T hp k n)
  | .astore i => oe_r1 S (fun a T => X N (L.set i (some (.inr (.inl a)))) T hp k n)
  | .astore_n i => oe_r1 S (fun a T => X N (L.set i (some (.inr (.inl a)))) T hp k n)
  | .iinc i d => oe_lo L i (fun v => oe_il v (fun x => oe_rg (x + d) ∧ X N (L.set i (some (.inl (x + d)))) S hp k n))
  | .iadd => oe_i2 S (fun x y T => oe_rg (x + y) ∧ X N L (.inl (x + y) :: T) hp k n)
  | .isub => oe_i2 S (fun x y T => oe_rg (x - y) ∧ X N L (.inl (x - y) :: T) hp k n)
  | .imul => oe_i2 S (fun x y T => oe_rg (x * y) ∧ X N L (.inl (x * y) :: T) hp k n)
  | .idiv => oe_i2 S (fun x y T => 0 ≤ x ∧ 0 < y ∧ X N L (.inl (x / y) :: T) hp k n)
  | .irem => oe_i2 S (fun x y T => 0 ≤ x ∧ 0 < y ∧ X N L (.inl (x % y) :: T) hp k n)
  | .iand => oe_i2 S (fun x y T => y = 15 ∧ X N L (.inl (x % 16) :: T) hp k n)
  | .i2c => oe_i1 S (fun x T => X N L (.inl (x % 65536) :: T) hp k n)
  | .i2l => oe_i1 S (fun x T => X N L (.inr (.inr (0, x)) :: T) hp k n)
  | .lcmp => oe_l2 S (fun x y T => X N L (.inl (if y < x then 1 else if x = y then 0 else -1) :: T) hp k n)
  | .dup => (match S with
    | v :: T => oe_c1 v ∧ X N L (v :: v :: T) hp k n
    | _ => False)
  | .dup_x1 => (match S with
    | v :: w :: T => oe_c1 v ∧ oe_c1 w ∧ X N L (v :: w :: v :: T) hp k n
    | _ => False)
  | .dup2 => (match S with
    | v :: w :: T => oe_c1 v ∧ oe_c1 w ∧ X N L (v :: w :: v :: w :: T) hp k n
    | _ => False)
  | .pop => (match S with
    | v :: T => oe_c1 v ∧ X N L T hp k n
    | _ => False)
  | .ifCond c t => oe_i1 S (fun x T => oe_br c x 0 (X t.toNat L T hp k n) (X N L T hp k n))
  | .if_icmp c t => oe_i2 S (fun x y T => oe_br c x y (X t.toNat L T hp k n) (X N L T hp k n))
  | .ifnull t => (match S with
    | .inr (.inl _) :: T => X N L T hp k n
    | .inr (.inr (1, _)) :: T => X t.toNat L T hp k n
    | _ => False)
  | .ifnonnull t => (match S with
    | .inr (.inl _) :: T => X t.toNat L T hp k n
    | .inr (.inr (1, _)) :: T => X N L T hp k n
    | _ => False)
  | .goto t => X t.toNat L S hp k n
  | .tableswitch d lo hi offs => oe_i1 S (fun x T => ((x < lo ∨ hi < x) → X d.toNat L T hp k n) ∧ (∀ t, lo ≤ x → x ≤ hi → offs.toList[(x - lo).toNat]? = some t → X t.toNat L T hp k n))
  | .lookupswitch d ps => oe_i1 S (fun x T => X (Op.lookupswitch.offset ps.toList d x).toNat L T hp k n)
  | .getfield r => oe_r1 S (fun a T => oe_gf hp a r (fun v => X N L (v :: T) hp k n))
  | .putfield r => oe_pf S hp r (fun T hp' => X N L T hp' k n)
  | .iaload => (match S, sc with
    | .inl i :: .inr (.inr (3, _)) :: T, some z => 0 ≤ i ∧ i < z.1 ∧ X N L (.inl (z.2 i.toNat) :: T) hp k n
    | _, _ => oe_ald S hp 0 (fun a i T => X N L (.inl (hp.2.2 a i) :: T) hp k n))
  | .caload => oe_ald S hp 1 (fun a i T => X N L (.inl (hp.2.2 a i) :: T) hp k n)
  | .baload => oe_ald S hp 2 (fun a i T => X N L (.inl (hp.2.2 a i) :: T) hp k n)
  | .laload => oe_ald S hp 3 (fun a i T => X N L (.inr (.inr (0, hp.2.2 a i)) :: T) hp k n)
  | .aaload => oe_ald S hp 4 (fun a i T => (match hp.2.1 a i with
    | some q => X N L (.inr (.inl q) :: T) hp k n
    | none => X N L (.inr (.inr (1, 0)) :: T) hp k n))
  | .iastore => oe_ast S hp 0 (fun v a i T => X N L T (hp.1, hp.2.1, oe_up hp.2.2 a i v) k n)
  | .castore => oe_ast S hp 1 (fun v a i T => 0 ≤ v ∧ v < 65536 ∧ X N L T (hp.1, hp.2.1, oe_up hp.2.2 a i v) k n)
  | .bastore => oe_ast S hp 2 (fun v a i T => (v = 0 ∨ v = 1) ∧ X N L T (hp.1, hp.2.1, oe_up hp.2.2 a i v) k n)
  | .lastore => oe_lir S (fun v i a T => oe_sh hp.1 a (fun u m => u = 3 ∧ 0 ≤ i ∧ i < m ∧ X N L T (hp.1, hp.2.1, oe_up hp.2.2 a i.toNat v) k n))
  | .aastore => oe_rir S (fun v i a T => oe_sh hp.1 v (fun u _ => u = oe_eqc + 5) ∧ oe_sh hp.1 a (fun u m => u = 4 ∧ 0 ≤ i ∧ i < m ∧ X N L T (hp.1, oe_up hp.2.1 a i.toNat (some v), hp.2.2) k n))
  | .arraylength => (match S, sc with
    | .inr (.inr (3, _)) :: T, some z => X N L (.inl (z.1 : Nat) :: T) hp k n
    | _, _ => oe_r1 S (fun a T => oe_sh hp.1 a (fun u m => u ≤ 4 ∧ X N L (.inl (m : Nat) :: T) hp k n)))
  | .newarray ty => oe_i1 S (fun x T => 0 ≤ x ∧ x ≤ 100000 ∧ k + 1 ≤ lim.1 ∧ n + x.toNat ≤ lim.2 ∧
      X N L (.inr (.inl hp.1.length) :: T) (oe_new hp ((match ty with | .int => 0 | .char => 1 | .boolean => 2 | _ => 3), x.toNat)) (k + 1) (n + x.toNat))
  | .anewarray _ => oe_i1 S (fun x T => 0 ≤ x ∧ x ≤ 100000 ∧ k + 1 ≤ lim.1 ∧ n + x.toNat ≤ lim.2 ∧ X N L (.inr (.inl hp.1.length) :: T) (oe_new hp (4, x.toNat)) (k + 1) (n + x.toNat))
  | .new r => k + 1 ≤ lim.1 ∧ n + oe_nf r ≤ lim.2 ∧ X N L (.inr (.inl hp.1.length) :: S) (oe_new hp (r + 5, oe_nf r)) (k + 1) (n + oe_nf r)
  | .invokestatic r => if r / 1000 = 1 then oe_copy S hp (fun T hp' => X N L T hp' k n) else oe_call lim C X (r / 1000) (r % 10) N L S hp k n
  | .invokespecial r => if r / 1000 = 0 then oe_r1 S (fun _ T => T.length ≤ 4 ∧ X N L T hp k n) else (match S.drop (r % 10) with
    | .inr (.inl b) :: _ => oe_call lim C X (r / 1000) (r % 10 + 1) N L S hp k n
    | _ => False)
  | .invokevirtual r => (match S.drop (r % 10) with
    | .inr (.inl b) :: _ => oe_sh hp.1 b (fun u _ => u = r / 10 % 100 + 5) ∧ oe_call lim C X (r / 1000) (r % 10 + 1) N L S hp k n
    | _ => False)
  | .ireturn => (match S with
    | [.inl x] => (rt = 1 ∨ (rt = 2 ∧ (x = 0 ∨ x = 1)) ∨ (rt = 3 ∧ 0 ≤ x ∧ x < 65536)) ∧ Q (some (.inl x)) hp
    | _ => False)
  | .areturn => (match S with
    | [.inr (.inl a)] => rt = 4 ∧ Q (some (.inr (.inl a))) hp
    | _ => False)
  | .return_ => S = [] ∧ rt = 0 ∧ Q none hp
  | _ => False
def oe_find (c : List (Nat × Jvm.ClassFile.Instr × Nat)) (pc : Nat) : Option (Jvm.ClassFile.Instr × Nat) := match c with
  | [] => none
  | q :: r => if q.1 = pc then some q.2 else oe_find r pc
def oe_st (lim : Nat × Nat) (j : Nat) (C : oeC) (sc : Option (Nat × (Nat → Int))) (Q : oeQ) (X : oeX) (pc : Nat) (L : List (Option oeV)) (S : List oeV) (hp : oeH) (k n : Nat) : Prop :=
  match oe_find (oe_code j) pc with
  | some (i, len) => oe_ins lim (oe_rt j) C sc Q X i (pc + len) L S hp k n
  | none => False
/-- from this place on the method comes to its end, with Q -/
def oe_V (lim : Nat × Nat) (j : Nat) (C : oeC) (sc : Option (Nat × (Nat → Int))) (Q : oeQ) : oeX := fun pc L S hp k n =>
  ∀ X : oeX, (∀ pc L S hp k n, oe_st lim j C sc Q X pc L S hp k n → X pc L S hp k n) → X pc L S hp k n
def oe_ent (j : Nat) (args : List oeV) : List (Option oeV) := args.map some ++ List.replicate (oe_ml j - args.length) none
-- two methods that ask the texts of letters: the code of a letter, the letter of a code
def oe_cdl : List Int := [117, 118, 119, 120, 121, 122]
def oe_sgl : List Int := [100, 99, 98, 97, 103, 102, 113, 112]
def oe_ixf (c : Int) (l : List Int) (k : Nat) : Option Nat := match l with
  | [] => none
  | b :: r => if b = c then some k else oe_ixf c r (k + 1)
def oe_cdOf (c : Int) : Int := match oe_ixf c oe_cdl 0 with
  | some k => k
  | none => (match oe_ixf c oe_sgl 0 with
    | some k => 12 + k
    | none => -1)
def oe_ltOf (c : Int) : Int := if c < 12 then oe_cdl.getD (c % 6).toNat 0 else oe_sgl.getD (c - 12).toNat 0
def oe_bi (j : Nat) (as : List oeV) (hp : oeH) (Q : oeQ) : Prop := match j, as with
  | 900, [.inl c] => 0 ≤ c ∧ c < 65536 ∧ Q (some (.inl (oe_cdOf c))) hp
  | 901, [.inl c] => 0 ≤ c ∧ c < 20 ∧ Q (some (.inl (oe_ltOf c))) hp
  | _, _ => False
/-- method j, called with args, ends with Q; calls go no deeper than d -/
def oe_M : Nat → oeC
  | 0 => fun _ _ _ _ => False
  | d + 1 => fun j args hp Q => (6 ≤ d ∧ oe_bi j args hp Q) ∨ ((∀ v ∈ args, oe_c1 v) ∧ args.length ≤ oe_ml j ∧ oe_V (oe_cost j) j (oe_M d) none Q 0 (oe_ent j args) [] hp 0 0)
end
section
/-! What the small machine does goes over from one aim to a wider one. -/
theorem oe_i1_ex {S : List oeV} {f : Int → List oeV → Prop} (h : oe_i1 S f) : ∃ x T, S = .inl x :: T ∧ f x T := by
  unfold oe_i1 at h
  split at h
  · exact ⟨_, _, rfl, h⟩
  · exact h.elim
theorem oe_i2_ex {S : List oeV} {f : Int → Int → List oeV → Prop} (h : oe_i2 S f) : ∃ x y T, S = .inl y :: .inl x :: T ∧ f x y T := by
  unfold oe_i2 at h
  split at h
  · exact ⟨_, _, _, rfl, h⟩
  · exact h.elim
theorem oe_r1_ex {S : List oeV} {f : Nat → List oeV → Prop} (h : oe_r1 S f) : ∃ a T, S = .inr (.inl a) :: T ∧ f a T := by
  unfold oe_r1 at h
  split at h
  · exact ⟨_, _, rfl, h⟩
  · exact h.elim
theorem oe_l2_ex {S : List oeV} {f : Int → Int → List oeV → Prop} (h : oe_l2 S f) : ∃ x y T, S = .inr (.inr (0, y)) :: .inr (.inr (0, x)) :: T ∧ f x y T := by
  unfold oe_l2 at h
  split at h
  · exact ⟨_, _, _, rfl, h⟩
  · exact h.elim
theorem oe_ir_ex {S : List oeV} {f : Int → Nat → List oeV → Prop} (h : oe_ir S f) : ∃ i a T, S = .inl i :: .inr (.inl a) :: T ∧ f i a T := by
  unfold oe_ir at h
  split at h
  · exact ⟨_, _, _, rfl, h⟩
  · exact h.elim
theorem oe_iir_ex {S : List oeV} {f : Int → Int → Nat → List oeV → Prop} (h : oe_iir S f) : ∃ v i a T, S = .inl v :: .inl i :: .inr (.inl a) :: T ∧ f v i a T := by
  unfold oe_iir at h
  split at h
  · exact ⟨_, _, _, _, rfl, h⟩
  · exact h.elim
theorem oe_rir_ex {S : List oeV} {f : Nat → Int → Nat → List oeV → Prop} (h : oe_rir S f) : ∃ v i a T, S = .inr (.inl v) :: .inl i :: .inr (.inl a) :: T ∧ f v i a T := by
  unfold oe_rir at h
  split at h
  · exact ⟨_, _, _, _, rfl, h⟩
  · exact h.elim
theorem oe_lir_ex {S : List oeV} {f : Int → Int → Nat → List oeV → Prop} (h : oe_lir S f) : ∃ v i a T, S = .inr (.inr (0, v)) :: .inl i :: .inr (.inl a) :: T ∧ f v i a T := by
  unfold oe_lir at h
  split at h
  · exact ⟨_, _, _, _, rfl, h⟩
  · exact h.elim
theorem oe_sh_ex {sh : List (Nat × Nat)} {a : Nat} {f : Nat → Nat → Prop} (h : oe_sh sh a f) : ∃ t n, sh[a]? = some (t, n) ∧ f t n := by
  unfold oe_sh at h
  split at h
  · rename_i q hq
    exact ⟨q.1, q.2, hq, h⟩
  · exact h.elim
theorem oe_sh_of {sh : List (Nat × Nat)} {a t n : Nat} {f : Nat → Nat → Prop} (h : sh[a]? = some (t, n)) : oe_sh sh a f = f t n := by
  unfold oe_sh
  rw [h]
theorem oe_lo_ex {L : List (Option oeV)} {i : Nat} {f : oeV → Prop} (h : oe_lo L i f) : ∃ v, L[i]? = some (some v) ∧ f v := by
  unfold oe_lo at h
  split at h
  · rename_i v hv
    exact ⟨v, hv, h⟩
  · exact h.elim
theorem oe_il_ex {v : oeV} {f : Int → Prop} (h : oe_il v f) : ∃ x, v = .inl x ∧ f x := by
  unfold oe_il at h
  split at h
  · exact ⟨_, rfl, h⟩
  · exact h.elim
theorem oe_rl_ex {v : oeV} {A : Prop} (h : oe_rl v A) : ((∃ a, v = .inr (.inl a)) ∨ ∃ x, v = .inr (.inr (3, x))) ∧ A := by
  unfold oe_rl at h
  split at h
  · exact ⟨Or.inl ⟨_, rfl⟩, h⟩
  · exact ⟨Or.inr ⟨_, rfl⟩, h⟩
  · exact h.elim
theorem oe_br_mono {c : Jvm.ClassFile.Cond} {x y : Int} {A B A' B' : Prop} (ha : A → A') (hb : B → B') (h : oe_br c x y A B) : oe_br c x y A' B' := by
  cases c <;> exact ⟨fun q => ha (h.1 q), fun q => hb (h.2 q)⟩
theorem oe_i1_mono {S : List oeV} {f g : Int → List oeV → Prop} (hf : ∀ x T, f x T → g x T) (h : oe_i1 S f) : oe_i1 S g := by
  obtain ⟨x, T, rfl, h⟩ := oe_i1_ex h
  exact hf _ _ h
theorem oe_i2_mono {S : List oeV} {f g : Int → Int → List oeV → Prop} (hf : ∀ x y T, f x y T → g x y T) (h : oe_i2 S f) : oe_i2 S g := by
  obtain ⟨x, y, T, rfl, h⟩ := oe_i2_ex h
  exact hf _ _ _ h
theorem oe_r1_mono {S : List oeV} {f g : Nat → List oeV → Prop} (hf : ∀ x T, f x T → g x T) (h : oe_r1 S f) : oe_r1 S g := by
  obtain ⟨x, T, rfl, h⟩ := oe_r1_ex h
  exact hf _ _ h
theorem oe_l2_mono {S : List oeV} {f g : Int → Int → List oeV → Prop} (hf : ∀ x y T, f x y T → g x y T) (h : oe_l2 S f) : oe_l2 S g := by
  obtain ⟨x, y, T, rfl, h⟩ := oe_l2_ex h
  exact hf _ _ _ h
theorem oe_sh_mono {sh : List (Nat × Nat)} {a : Nat} {f g : Nat → Nat → Prop} (hf : ∀ t n, f t n → g t n) (h : oe_sh sh a f) : oe_sh sh a g := by
  obtain ⟨t, n, h1, h2⟩ := oe_sh_ex h
  rw [oe_sh_of h1]
  exact hf _ _ h2
theorem oe_lo_mono {L : List (Option oeV)} {i : Nat} {f g : oeV → Prop} (hf : ∀ v, f v → g v) (h : oe_lo L i f) : oe_lo L i g := by
  obtain ⟨v, h1, h2⟩ := oe_lo_ex h
  unfold oe_lo
  rw [h1]
  exact hf _ h2
theorem oe_il_mono {v : oeV} {f g : Int → Prop} (hf : ∀ v, f v → g v) (h : oe_il v f) : oe_il v g := by
  obtain ⟨x, rfl, h⟩ := oe_il_ex h
  exact hf _ h
theorem oe_rl_mono {v : oeV} {f g : Prop} (hf : f → g) (h : oe_rl v f) : oe_rl v g := by
  obtain ⟨⟨a, rfl⟩ | ⟨x, rfl⟩, h⟩ := oe_rl_ex h
  · exact hf h
  · exact hf h
theorem oe_ald_mono {S : List oeV} {hp : oeH} {t : Nat} {f g : Nat → Nat → List oeV → Prop} (hf : ∀ a i T, f a i T → g a i T) (h : oe_ald S hp t f) : oe_ald S hp t g := by
  obtain ⟨i, a, T, rfl, h2⟩ := oe_ir_ex h
  unfold oe_ald oe_ir
  exact oe_sh_mono (fun _ _ q => ⟨q.1, q.2.1, q.2.2.1, hf _ _ _ q.2.2.2⟩) h2
theorem oe_ast_mono {S : List oeV} {hp : oeH} {t : Nat} {f g : Int → Nat → Nat → List oeV → Prop} (hf : ∀ v a i T, f v a i T → g v a i T) (h : oe_ast S hp t f) : oe_ast S hp t g := by
  obtain ⟨v, i, a, T, rfl, h2⟩ := oe_iir_ex h
  unfold oe_ast oe_iir
  exact oe_sh_mono (fun _ _ q => ⟨q.1, q.2.1, q.2.2.1, hf _ _ _ _ q.2.2.2⟩) h2
theorem oe_gf_mono {hp : oeH} {a r : Nat} {f g : oeV → Prop} (hf : ∀ v, f v → g v) (h : oe_gf hp a r f) : oe_gf hp a r g := by
  refine oe_sh_mono (fun _ _ q => ⟨q.1, ?_⟩) h
  have q2 := q.2
  split
  · rename_i e
    rw [if_pos e] at q2
    split
    · rename_i w hw
      rw [hw] at q2
      exact hf _ q2
    · rename_i hw
      rw [hw] at q2
      exact hf _ q2
  · rename_i e
    rw [if_neg e] at q2
    exact hf _ q2
theorem oe_pf_mono {S : List oeV} {hp : oeH} {r : Nat} {f g : List oeV → oeH → Prop} (hf : ∀ T q, f T q → g T q) (h : oe_pf S hp r f) : oe_pf S hp r g := by
  unfold oe_pf at h ⊢
  split at h
  · exact oe_sh_mono (fun _ _ q => ⟨q.1, q.2.1, hf _ _ q.2.2⟩) h
  · exact oe_sh_mono (fun _ _ q => ⟨q.1, q.2.1, hf _ _ q.2.2⟩) h
  · exact h.elim
theorem oe_copy_mono {S : List oeV} {hp : oeH} {f g : List oeV → oeH → Prop} (hf : ∀ T q, f T q → g T q) (h : oe_copy S hp f) : oe_copy S hp g := by
  unfold oe_copy at h ⊢
  split at h
  · refine oe_sh_mono (fun _ _ q => ⟨q.1, ?_⟩) h
    exact oe_sh_mono (fun _ _ q => ⟨q.1, q.2.1, q.2.2.1, q.2.2.2.1, q.2.2.2.2.1, q.2.2.2.2.2.1, q.2.2.2.2.2.2.1, hf _ _ q.2.2.2.2.2.2.2⟩) q.2
  · exact h.elim
def oe_Cm (C : oeC) : Prop := ∀ j a hp Q Q', (∀ r hp, Q r hp → Q' r hp) → C j a hp Q → C j a hp Q'
theorem oe_call_mono {lim : Nat × Nat} {C : oeC} {X X' : oeX} {j np N : Nat} {L : List (Option oeV)} {S : List oeV} {hp : oeH} {k n : Nat} (hC : oe_Cm C) (hX : ∀ pc L S hp k n, X pc L S hp k n → X' pc L S hp k n)
    (h : oe_call lim C X j np N L S hp k n) : oe_call lim C X' j np N L S hp k n :=
  ⟨h.1, h.2.1, h.2.2.1, h.2.2.2.1, hC _ _ _ _ _ (fun _ _ q => hX _ _ _ _ _ _ q) h.2.2.2.2⟩
set_option maxHeartbeats 4000000 in
theorem oe_ins_mono {lim : Nat × Nat} {rt : Nat} {C : oeC} {sc : Option (Nat × (Nat → Int))} {Q Q' : oeQ} {X X' : oeX} {i : Jvm.ClassFile.Instr} {N : Nat} {L : List (Option oeV)} {S : List oeV} {hp : oeH} {k n : Nat}
    (hC : oe_Cm C) (hQ : ∀ r hp, Q r hp → Q' r hp) (hX : ∀ pc L S hp k n, X pc L S hp k n → X' pc L S hp k n) (h : oe_ins lim rt C sc Q X i N L S hp k n) : oe_ins lim rt C sc Q' X' i N L S hp k n := by
  cases i
  case iconst => exact hX _ _ _ _ _ _ h
  case bipush => exact hX _ _ _ _ _ _ h
  case sipush => exact hX _ _ _ _ _ _ h
  case ldc r =>
    unfold oe_ins at h ⊢
    dsimp only at h ⊢
    split
    · rename_i e; rw [if_pos e] at h; exact hX _ _ _ _ _ _ h
    · rename_i e; rw [if_neg e] at h; exact hX _ _ _ _ _ _ h
  case aconst_null => exact hX _ _ _ _ _ _ h
  case iload => exact oe_lo_mono (fun _ q => oe_il_mono (fun _ q => hX _ _ _ _ _ _ q) q) h
  case iload_n => exact oe_lo_mono (fun _ q => oe_il_mono (fun _ q => hX _ _ _ _ _ _ q) q) h
  case aload => exact oe_lo_mono (fun _ q => oe_rl_mono (fun q => hX _ _ _ _ _ _ q) q) h
  case aload_n => exact oe_lo_mono (fun _ q => oe_rl_mono (fun q => hX _ _ _ _ _ _ q) q) h
  case istore => exact oe_i1_mono (fun _ _ q => hX _ _ _ _ _ _ q) h
  case istore_n => exact oe_i1_mono (fun _ _ q => hX _ _ _ _ _ _ q) h
  case astore => exact oe_r1_mono (fun _ _ q => hX _ _ _ _ _ _ q) h
  case astore_n => exact oe_r1_mono (fun _ _ q => hX _ _ _ _ _ _ q) h
  case iinc => exact oe_lo_mono (fun _ q => oe_il_mono (fun _ q => ⟨q.1, hX _ _ _ _ _ _ q.2⟩) q) h
  case iadd => exact oe_i2_mono (fun _ _ _ q => ⟨q.1, hX _ _ _ _ _ _ q.2⟩) h
  case isub => exact oe_i2_mono (fun _ _ _ q => ⟨q.1, hX _ _ _ _ _ _ q.2⟩) h
  case imul => exact oe_i2_mono (fun _ _ _ q => ⟨q.1, hX _ _ _ _ _ _ q.2⟩) h
  case idiv => exact oe_i2_mono (fun _ _ _ q => ⟨q.1, q.2.1, hX _ _ _ _ _ _ q.2.2⟩) h
  case irem => exact oe_i2_mono (fun _ _ _ q => ⟨q.1, q.2.1, hX _ _ _ _ _ _ q.2.2⟩) h
  case iand => exact oe_i2_mono (fun _ _ _ q => ⟨q.1, hX _ _ _ _ _ _ q.2⟩) h
  case i2c => exact oe_i1_mono (fun _ _ q => hX _ _ _ _ _ _ q) h
  case i2l => exact oe_i1_mono (fun _ _ q => hX _ _ _ _ _ _ q) h
  case lcmp => exact oe_l2_mono (fun _ _ _ q => hX _ _ _ _ _ _ q) h
  case dup =>
    match S, h with
    | _ :: _, h => exact ⟨h.1, hX _ _ _ _ _ _ h.2⟩
  case dup_x1 =>
    match S, h with
    | _ :: _ :: _, h => exact ⟨h.1, h.2.1, hX _ _ _ _ _ _ h.2.2⟩
  case dup2 =>
    match S, h with
    | _ :: _ :: _, h => exact ⟨h.1, h.2.1, hX _ _ _ _ _ _ h.2.2⟩
  case pop =>
    match S, h with
    | _ :: _, h => exact ⟨h.1, hX _ _ _ _ _ _ h.2⟩
  case ifCond => exact oe_i1_mono (fun _ _ q => oe_br_mono (fun q => hX _ _ _ _ _ _ q) (fun q => hX _ _ _ _ _ _ q) q) h
  case if_icmp => exact oe_i2_mono (fun _ _ _ q => oe_br_mono (fun q => hX _ _ _ _ _ _ q) (fun q => hX _ _ _ _ _ _ q) q) h
  case ifnull =>
    unfold oe_ins at h ⊢
    dsimp only at h ⊢
    split at h
    · exact hX _ _ _ _ _ _ h
    · exact hX _ _ _ _ _ _ h
    · exact h.elim
  case ifnonnull =>
    unfold oe_ins at h ⊢
    dsimp only at h ⊢
    split at h
    · exact hX _ _ _ _ _ _ h
    · exact hX _ _ _ _ _ _ h
    · exact h.elim
  case goto => exact hX _ _ _ _ _ _ h
  case tableswitch => exact oe_i1_mono (fun _ _ q => ⟨fun z => hX _ _ _ _ _ _ (q.1 z), fun t a b c => hX _ _ _ _ _ _ (q.2 t a b c)⟩) h
  case lookupswitch => exact oe_i1_mono (fun _ _ q => hX _ _ _ _ _ _ q) h
  case getfield => exact oe_r1_mono (fun _ _ q => oe_gf_mono (fun _ q => hX _ _ _ _ _ _ q) q) h
  case putfield =>
    unfold oe_ins at h ⊢
    dsimp only at h ⊢
    exact oe_pf_mono (fun _ _ q => hX _ _ _ _ _ _ q) h
  case iaload =>
    unfold oe_ins at h ⊢
    dsimp only at h ⊢
    split at h
    · exact ⟨h.1, h.2.1, hX _ _ _ _ _ _ h.2.2⟩
    · refine oe_ald_mono ?_ h
      exact (fun _ _ _ q => hX _ _ _ _ _ _ q)
  case caload =>
    unfold oe_ins at h ⊢
    dsimp only at h ⊢
    exact oe_ald_mono (fun _ _ _ q => hX _ _ _ _ _ _ q) h
  case baload =>
    unfold oe_ins at h ⊢
    dsimp only at h ⊢
    exact oe_ald_mono (fun _ _ _ q => hX _ _ _ _ _ _ q) h
  case laload =>
    unfold oe_ins at h ⊢
    dsimp only at h ⊢
    exact oe_ald_mono (fun _ _ _ q => hX _ _ _ _ _ _ q) h
  case aaload =>
    unfold oe_ins at h ⊢
    dsimp only at h ⊢
    refine oe_ald_mono ?_ h
    intro a i T q
    split
    · rename_i w hw
      rw [hw] at q
      exact hX _ _ _ _ _ _ q
    · rename_i hw
      rw [hw] at q
      exact hX _ _ _ _ _ _ q
  case iastore =>
    unfold oe_ins at h ⊢
    dsimp only at h ⊢
    exact oe_ast_mono (fun _ _ _ _ q => hX _ _ _ _ _ _ q) h
  case castore =>
    unfold oe_ins at h ⊢
    dsimp only at h ⊢
    exact oe_ast_mono (fun _ _ _ _ q => ⟨q.1, q.2.1, hX _ _ _ _ _ _ q.2.2⟩) h
  case bastore =>
    unfold oe_ins at h ⊢
    dsimp only at h ⊢
    exact oe_ast_mono (fun _ _ _ _ q => ⟨q.1, hX _ _ _ _ _ _ q.2⟩) h
  case lastore =>
    obtain ⟨v, i, a, T, rfl, h2⟩ := oe_lir_ex h
    unfold oe_ins
    dsimp only
    unfold oe_lir
    exact oe_sh_mono (fun _ _ q => ⟨q.1, q.2.1, q.2.2.1, hX _ _ _ _ _ _ q.2.2.2⟩) h2
  case aastore =>
    obtain ⟨v, i, a, T, rfl, h2⟩ := oe_rir_ex h
    unfold oe_ins
    dsimp only
    unfold oe_rir
    exact ⟨h2.1, oe_sh_mono (fun _ _ q => ⟨q.1, q.2.1, q.2.2.1, hX _ _ _ _ _ _ q.2.2.2⟩) h2.2⟩
  case arraylength =>
    unfold oe_ins at h ⊢
    dsimp only at h ⊢
    split at h
    · exact hX _ _ _ _ _ _ h
    · exact oe_r1_mono (fun _ _ q => oe_sh_mono (fun _ _ q => ⟨q.1, hX _ _ _ _ _ _ q.2⟩) q) h
  case newarray => exact oe_i1_mono (fun _ _ q => ⟨q.1, q.2.1, q.2.2.1, q.2.2.2.1, hX _ _ _ _ _ _ q.2.2.2.2⟩) h
  case anewarray => exact oe_i1_mono (fun _ _ q => ⟨q.1, q.2.1, q.2.2.1, q.2.2.2.1, hX _ _ _ _ _ _ q.2.2.2.2⟩) h
  case new => exact ⟨h.1, h.2.1, hX _ _ _ _ _ _ h.2.2⟩
  case invokestatic r =>
    unfold oe_ins at h ⊢
    dsimp only at h ⊢
    split
    · rename_i e; rw [if_pos e] at h; exact oe_copy_mono (fun _ _ q => hX _ _ _ _ _ _ q) h
    · rename_i e; rw [if_neg e] at h; exact oe_call_mono hC hX h
  case invokespecial r =>
    unfold oe_ins at h ⊢
    dsimp only at h ⊢
    split
    · rename_i e; rw [if_pos e] at h; exact oe_r1_mono (fun _ _ q => ⟨q.1, hX _ _ _ _ _ _ q.2⟩) h
    · rename_i e
      rw [if_neg e] at h
      split at h
      · exact oe_call_mono hC hX h
      · exact h.elim
  case invokevirtual r =>
    unfold oe_ins at h ⊢
    dsimp only at h ⊢
    split at h
    · exact ⟨h.1, oe_call_mono hC hX h.2⟩
    · exact h.elim
  case ireturn =>
    unfold oe_ins at h ⊢
    dsimp only at h ⊢
    split at h
    · exact ⟨h.1, hQ _ _ h.2⟩
    · exact h.elim
  case areturn =>
    unfold oe_ins at h ⊢
    dsimp only at h ⊢
    split at h
    · exact ⟨h.1, hQ _ _ h.2⟩
    · exact h.elim
  case return_ => exact ⟨h.1, h.2.1, hQ _ _ h.2.2⟩
  all_goals exact h.elim
theorem oe_st_mono {lim : Nat × Nat} {j : Nat} {C : oeC} {sc : Option (Nat × (Nat → Int))} {Q Q' : oeQ} {X X' : oeX} {pc : Nat} {L : List (Option oeV)} {S : List oeV} {hp : oeH} {k n : Nat}
    (hC : oe_Cm C) (hQ : ∀ r hp, Q r hp → Q' r hp) (hX : ∀ pc L S hp k n, X pc L S hp k n → X' pc L S hp k n) (h : oe_st lim j C sc Q X pc L S hp k n) : oe_st lim j C sc Q' X' pc L S hp k n := by
  unfold oe_st at h ⊢
  split at h
  · exact oe_ins_mono hC hQ hX h
  · exact h.elim
theorem oe_V.step {lim : Nat × Nat} {j : Nat} {C : oeC} {sc : Option (Nat × (Nat → Int))} {Q : oeQ} {pc : Nat} {L : List (Option oeV)} {S : List oeV} {hp : oeH} {k n : Nat} (hC : oe_Cm C)
    (h : oe_st lim j C sc Q (oe_V lim j C sc Q) pc L S hp k n) : oe_V lim j C sc Q pc L S hp k n := fun X hX => hX _ _ _ _ _ _ (oe_st_mono hC (fun _ _ q => q) (fun _ _ _ _ _ _ q => q X hX) h)
theorem oe_V.mono {lim : Nat × Nat} {j : Nat} {C : oeC} {sc : Option (Nat × (Nat → Int))} {Q Q' : oeQ} {pc : Nat} {L : List (Option oeV)} {S : List oeV} {hp : oeH} {k n : Nat} (hC : oe_Cm C) (hQ : ∀ r hp, Q r hp → Q' r hp)
    (h : oe_V lim j C sc Q pc L S hp k n) : oe_V lim j C sc Q' pc L S hp k n := fun X hX => h X (fun _ _ _ _ _ _ q => hX _ _ _ _ _ _ (oe_st_mono hC hQ (fun _ _ _ _ _ _ q => q) q))
theorem oe_bi_mono {j : Nat} {as : List oeV} {hp : oeH} {Q Q' : oeQ} (hQ : ∀ r hp, Q r hp → Q' r hp) (h : oe_bi j as hp Q) : oe_bi j as hp Q' := by
  unfold oe_bi at h ⊢
  split at h
  · exact ⟨h.1, h.2.1, hQ _ _ h.2.2⟩
  · exact ⟨h.1, h.2.1, hQ _ _ h.2.2⟩
  · exact h.elim
theorem oe_M_mono : ∀ d, oe_Cm (oe_M d)
  | 0 => fun _ _ _ _ _ _ h => h
  | d + 1 => fun _ _ _ _ _ hQ h => h.elim (fun q => Or.inl ⟨q.1, oe_bi_mono hQ q.2⟩) (fun q => Or.inr ⟨q.1, q.2.1, oe_V.mono (oe_M_mono d) hQ q.2.2⟩)
end
section
/-! What can be seen of the code without running it. -/
def oe_cpi (j pc : Nat) : Nat := ((oe_cps j).lookup pc).getD 0
def oe_nh (j pc : Nat) : Option String := (oe_nhs j).lookup pc
def oe_rel (cp pc : Nat) (i : Jvm.ClassFile.Instr) : Jvm.ClassFile.Instr := match i with
  | .ifCond c t => .ifCond c (t - pc)
  | .if_icmp c t => .if_icmp c (t - pc)
  | .ifnull t => .ifnull (t - pc)
  | .ifnonnull t => .ifnonnull (t - pc)
  | .goto t => .goto (t - pc)
  | .tableswitch d lo hi o => .tableswitch (d - pc) lo hi (o.map (fun t => t - pc))
  | .lookupswitch d ps => .lookupswitch (d - pc) (ps.map (fun q => (q.1, q.2 - pc)))
  | .getfield _ => .getfield cp
  | .putfield _ => .putfield cp
  | .new _ => .new cp
  | .anewarray _ => .anewarray cp
  | .invokestatic _ => .invokestatic cp
  | .invokespecial _ => .invokespecial cp
  | .invokevirtual _ => .invokevirtual cp
  | .ldc _ => .ldc cp
  | i => i
def oe_tk (t : Nat) (ty : FieldType) : Bool := match t, ty with
  | 0, .int => true
  | 2, .boolean => true
  | 1, .object _ => true
  | 1, .array _ => true
  | _, _ => false
theorem oe_tk_0 {ty : FieldType} (h : oe_tk 0 ty = true) : ty = .int := by cases ty <;> first | rfl | cases h
theorem oe_tk_2 {ty : FieldType} (h : oe_tk 2 ty = true) : ty = .boolean := by cases ty <;> first | rfl | cases h
theorem oe_tk_1 {ty : FieldType} (h : oe_tk 1 ty = true) : (∃ n, ty = .object n) ∨ ∃ t, ty = .array t := by
  cases ty <;> first | exact Or.inl ⟨_, rfl⟩ | exact Or.inr ⟨_, rfl⟩ | cases h
def oe_fok (r : Nat) : Bool := match oe_cl[r / 1000]? with
  | some q => decide (r / 10 % 100 < q.2.2) && (decide (q.2.2 = oe_nf (r / 1000)) && (decide (oe_fk (r / 1000) (r / 10 % 100) = r % 10) && oe_tk (r % 10) (oe_ty (r / 1000) (r / 10 % 100))))
  | none => false
theorem oe_fok_ex {r : Nat} (h : oe_fok r = true) : ∃ q, oe_cl[r / 1000]? = some q ∧ r / 10 % 100 < q.2.2 ∧ q.2.2 = oe_nf (r / 1000) ∧ oe_fk (r / 1000) (r / 10 % 100) = r % 10 ∧ oe_tk (r % 10) (oe_ty (r / 1000) (r / 10 % 100)) = true := by
  unfold oe_fok at h
  split at h
  · rename_i q hq
    simp only [Bool.and_eq_true, decide_eq_true_eq] at h
    exact ⟨q, hq, h.1, h.2.1, h.2.2.1, h.2.2.2⟩
  · cases h
def oe_pok (j r : Nat) : Bool := match oe_cl[r / 1000]? with
  | some q => (q.2.1 (r / 10 % 100)).2.2.2 == false || ((q.2.1 (r / 10 % 100)).2.2.2 == true && (oe_ini j && decide ((q.2.1 (r / 10 % 100)).1 = oe_ow j)))
  | none => false
theorem oe_pok_ex {j r : Nat} {q : vw_C} (hq : oe_cl[r / 1000]? = some q) (h : oe_pok j r = true) : (q.2.1 (r / 10 % 100)).2.2.2 = false ∨ ((q.2.1 (r / 10 % 100)).2.2.2 = true ∧ oe_ini j = true ∧ (q.2.1 (r / 10 % 100)).1 = oe_ow j) := by
  unfold oe_pok at h
  rw [hq] at h
  simp only [Bool.or_eq_true, Bool.and_eq_true, decide_eq_true_eq, beq_iff_eq] at h
  rcases h with h | ⟨h1, h2, h3⟩
  · exact Or.inl h
  · exact Or.inr ⟨h1, h2, h3⟩
def oe_nok (r : Nat) : Bool := match oe_cl[r]? with
  | some q => decide (q.2.2 = oe_nf r)
  | none => false
theorem oe_nok_ex {r : Nat} (h : oe_nok r = true) : ∃ q, oe_cl[r]? = some q ∧ oe_nf r = q.2.2 := by
  unfold oe_nok at h
  split at h
  · rename_i q hq
    exact ⟨q, hq, (of_decide_eq_true h).symm⟩
  · cases h
def oe_cok (j np : Nat) : Bool := decide ((parseMethodDescriptor (oe_y j).desc).map (fun d => d.parameters.length) = some np) && (decide ((oe_y j).cls ≠ "java/lang/invoke/MethodHandle") && (decide ((oe_y j).cls ≠ "java/lang/invoke/VarHandle") && decide (oe_ml j ≤ 45)))
theorem oe_cok_ex {j np : Nat} (h : oe_cok j np = true) : (parseMethodDescriptor (oe_y j).desc).map (fun d => d.parameters.length) = some np ∧ (oe_y j).cls ≠ "java/lang/invoke/MethodHandle" ∧ (oe_y j).cls ≠ "java/lang/invoke/VarHandle" ∧ oe_ml j ≤ 45 := by
  unfold oe_cok at h
  simp only [Bool.and_eq_true, decide_eq_true_eq] at h
  exact h
def oe_vok (r : Nat) : Bool := match oe_cl[r / 10 % 100]? with
  | some q => decide (q.1 = (oe_y (r / 1000)).cls)
  | none => false
theorem oe_vok_ex {r : Nat} (h : oe_vok r = true) : ∃ q, oe_cl[r / 10 % 100]? = some q ∧ q.1 = (oe_y (r / 1000)).cls := by
  unfold oe_vok at h
  split at h
  · rename_i q hq
    exact ⟨q, hq, of_decide_eq_true h⟩
  · cases h
def oe_sta (j pc : Nat) (i : Jvm.ClassFile.Instr) (len : Nat) : Bool := match i with
  | .iconst v => decide (len = 1) && (decide (-1 ≤ v) && decide (v ≤ 5))
  | .bipush v => decide (len = 2) && (decide (-128 ≤ v) && decide (v < 128))
  | .sipush v => decide (len = 3) && (decide (-32768 ≤ v) && decide (v < 32768))
  | .iload _ => decide (len = 2)
  | .aload _ => decide (len = 2)
  | .istore i => decide (len = 2) && decide (i < oe_ml j)
  | .astore i => decide (len = 2) && decide (i < oe_ml j)
  | .istore_n i => decide (len = 1) && decide ((i : Nat) < oe_ml j)
  | .astore_n i => decide (len = 1) && decide ((i : Nat) < oe_ml j)
  | .iinc i _ => decide (len = 3) && decide (i < oe_ml j)
  | .ifCond _ t => decide (len = 3) && decide (0 ≤ t)
  | .if_icmp _ t => decide (len = 3) && decide (0 ≤ t)
  | .ifnull t => decide (len = 3) && decide (0 ≤ t)
  | .ifnonnull t => decide (len = 3) && decide (0 ≤ t)
  | .goto t => decide (len = 3) && decide (0 ≤ t)
  | .tableswitch d lo hi o => (decide (0 ≤ d) && o.toList.all (fun t => decide (0 ≤ t))) && decide ((o.toList.length : Int) = hi - lo + 1)
  | .lookupswitch d ps => (decide (0 ≤ d) && ps.toList.all (fun q => decide (0 ≤ q.2))) && (((ps.map (fun q => (q.1, q.2 - (pc : Int)))).toList.zip ((ps.map (fun q => (q.1, q.2 - (pc : Int)))).toList.drop 1)).all (fun (a, next) => a.1 < next.1))
  | .getfield r => decide (len = 3) && oe_fok r
  | .putfield r => (decide (len = 3) && oe_fok r) && oe_pok j r
  | .new r => decide (len = 3) && oe_nok r
  | .anewarray _ => decide (len = 3)
  | .newarray .int => decide (len = 2)
  | .newarray .char => decide (len = 2)
  | .newarray .boolean => decide (len = 2)
  | .newarray .long => decide (len = 2)
  | .newarray _ => false
  | .ldc r => (decide (len = 2) && decide (r % 2 = 1)) && decide (r / 2 < 2147483648)
  | .invokestatic r => decide (len = 3) && (if r / 1000 = 1 then true else oe_cok (r / 1000) (r % 10))
  | .invokespecial r => decide (len = 3) && (if r / 1000 = 0 then true else ((oe_cok (r / 1000) (r % 10) && decide ((oe_y (r / 1000)).name = "<init>")) && decide (oe_ret (r / 1000) = none)))
  | .invokevirtual r => (decide (len = 3) && oe_cok (r / 1000) (r % 10)) && oe_vok r
  | _ => decide (len = 1)
def oe_lws (j pc t : Nat) : List Cond := .code (oe_y t) (oe_by t) (oe_ml t) (oe_ret t) :: .initialized (oe_y t).cls :: .static (oe_y t) :: (match oe_nh j pc with
  | none => [.methodLink (oe_ow j) (oe_cpi j pc) (oe_y t)]
  | some _ => [])
def oe_lwi (j pc t : Nat) : List Cond := .code (oe_y t) (oe_by t) (oe_ml t) (oe_ret t) :: .initialized (oe_y t).cls :: .instanceMethod (oe_y t) :: (match oe_nh j pc with
  | none => [.methodLink (oe_ow j) (oe_cpi j pc) (oe_y t)]
  | some _ => [])
def oe_lwv (j pc t : Nat) : List Cond := [.code (oe_y t) (oe_by t) (oe_ml t) (oe_ret t), .initialized (oe_y t).cls, .instanceMethod (oe_y t), .selects (oe_y t).cls (oe_y t) (oe_y t), .methodLink (oe_ow j) (oe_cpi j pc) (oe_y t)]
def oe_lwn (j cp : Nat) (q : vw_C) : List Cond := [.classLink (oe_ow j) cp q.1, .instantiable q.1 q.2.2, .initialized q.1]
def oe_lw (j pc : Nat) (i : Jvm.ClassFile.Instr) : List Cond := match i with
  | .getfield r => (match oe_cl[r / 1000]? with
    | some q => [.fieldLink (oe_ow j) (oe_cpi j pc) (q.2.1 (r / 10 % 100)).1 (q.2.1 (r / 10 % 100)).2.1 (q.2.1 (r / 10 % 100)).2.2.1]
    | none => [])
  | .putfield r => (match oe_cl[r / 1000]? with
    | some q => [.fieldLink (oe_ow j) (oe_cpi j pc) (q.2.1 (r / 10 % 100)).1 (q.2.1 (r / 10 % 100)).2.1 (q.2.1 (r / 10 % 100)).2.2.1]
    | none => [])
  | .new r => (match oe_cl[r]? with
    | some q => oe_lwn j (oe_cpi j pc) q
    | none => [])
  | .anewarray _ => [.classLink (oe_ow j) (oe_cpi j pc) oe_eqn]
  | .newarray ty => [.arrayClass (newarray.typeOf ty)]
  | .ldc r => [.constant (oe_ow j) (oe_cpi j pc) (Int32.ofInt (r / 2 : Nat))]
  | .invokestatic r => if r / 1000 = 1 then [.methodLink (oe_ow j) (oe_cpi j pc) arraycopyName, .native arraycopyName, .static arraycopyName, .initialized "java/lang/System"] else oe_lws j pc (r / 1000)
  | .invokespecial r => if r / 1000 = 0 then [.methodLink (oe_ow j) (oe_cpi j pc) objectInit, .instanceMethod objectInit, .code objectInit ⟨#[0xb1]⟩ 1 none] else oe_lwi j pc (r / 1000)
  | .invokevirtual r => oe_lwv j pc (r / 1000)
  | _ => []
def oe_W : List Cond := (List.range oe_nM).flatMap (fun j => (oe_code j).flatMap (fun q => oe_lw j q.1 q.2.1)) ++ oe_cl.flatMap (fun q => u_ws q.1 q.2.1 q.2.2)
def oe_nsq (j : Nat) (q : Nat × Jvm.ClassFile.Instr × Nat) : List (String × Nat × MethodName × String) := match oe_nh j q.1, q.2.1 with
  | some h, .invokestatic r => [(oe_ow j, oe_cpi j q.1, oe_y (r / 1000), h)]
  | some h, .invokespecial r => [(oe_ow j, oe_cpi j q.1, oe_y (r / 1000), h)]
  | _, _ => []
def oe_nest : List (String × Nat × MethodName × String) := (List.range oe_nM).flatMap (fun j => (oe_code j).flatMap (oe_nsq j))
theorem oe_find_mem {pc : Nat} {q : Jvm.ClassFile.Instr × Nat} : ∀ {c : List (Nat × Jvm.ClassFile.Instr × Nat)}, oe_find c pc = some q → (pc, q) ∈ c
  | [], h => by cases h
  | x :: c, h => by
    unfold oe_find at h
    split at h
    · rename_i e
      cases h
      rw [← e]
      exact List.mem_cons_self
    · exact List.mem_cons_of_mem _ (oe_find_mem h)
theorem oe_in_range {j pc : Nat} {q : Jvm.ClassFile.Instr × Nat} (h : oe_find (oe_code j) pc = some q) : j < oe_nM := by
  rcases Nat.lt_or_ge j oe_nM with e | e
  · exact e
  · rw [oe_code_out j e] at h
    cases h
theorem oe_lwm (j pc : Nat) (i : Jvm.ClassFile.Instr) (len : Nat) (h : oe_find (oe_code j) pc = some (i, len)) : ∀ w ∈ oe_lw j pc i, w ∈ oe_W := fun w hw =>
  List.mem_append_left _ (List.mem_flatMap.mpr ⟨j, List.mem_range.mpr (oe_in_range h), List.mem_flatMap.mpr ⟨(pc, i, len), oe_find_mem h, hw⟩⟩)
theorem oe_clw (ci : Nat) (q : vw_C) (h : oe_cl[ci]? = some q) : ∀ w ∈ u_ws q.1 q.2.1 q.2.2, w ∈ oe_W := fun w hw =>
  List.mem_append_right _ (List.mem_flatMap.mpr ⟨q, List.mem_of_getElem? h, hw⟩)
theorem oe_nst_in (j pc : Nat) (i : Jvm.ClassFile.Instr) (len : Nat) (h : oe_find (oe_code j) pc = some (i, len)) (host : String) (hn : oe_nh j pc = some host) (t : Nat) (ht : (∃ r, i = .invokestatic r ∧ t = r / 1000) ∨ ∃ r, i = .invokespecial r ∧ t = r / 1000) : (oe_ow j, oe_cpi j pc, oe_y t, host) ∈ oe_nest := by
  rcases ht with ⟨r, rfl, rfl⟩ | ⟨r, rfl, rfl⟩
  · refine List.mem_flatMap.mpr ⟨j, List.mem_range.mpr (oe_in_range h), List.mem_flatMap.mpr ⟨(pc, .invokestatic r, len), oe_find_mem h, ?_⟩⟩
    unfold oe_nsq
    simp only [hn]
    exact List.mem_cons_self
  · refine List.mem_flatMap.mpr ⟨j, List.mem_range.mpr (oe_in_range h), List.mem_flatMap.mpr ⟨(pc, .invokespecial r, len), oe_find_mem h, ?_⟩⟩
    unfold oe_nsq
    simp only [hn]
    exact List.mem_cons_self
def oe_chk (j : Nat) (q : Nat × Jvm.ClassFile.Instr × Nat) : Bool := decide (decode (oe_by j) q.1 = .ok (oe_rel (oe_cpi j q.1) q.1 q.2.1, q.2.2)) && oe_sta j q.1 q.2.1 q.2.2
def oe_wj (j : Nat) : List Cond := .code (oe_y j) (oe_by j) (oe_ml j) (oe_ret j) :: oe_W
end
section
/-! The code tables are the code: seen by the kernel. -/
theorem oe_k2 : oe_c2.all (oe_chk 2) = true := by decide +kernel
theorem oe_k3 : oe_c3.all (oe_chk 3) = true := by decide +kernel
theorem oe_k4 : oe_c4.all (oe_chk 4) = true := by decide +kernel
theorem oe_k5 : oe_c5.all (oe_chk 5) = true := by decide +kernel
theorem oe_k6 : oe_c6.all (oe_chk 6) = true := by decide +kernel
theorem oe_k7 : oe_c7.all (oe_chk 7) = true := by decide +kernel
theorem oe_k8 : oe_c8.all (oe_chk 8) = true := by decide +kernel
theorem oe_k9 : oe_c9.all (oe_chk 9) = true := by decide +kernel
theorem oe_k10 : oe_c10.all (oe_chk 10) = true := by decide +kernel
theorem oe_k11 : oe_c11.all (oe_chk 11) = true := by decide +kernel
theorem oe_k12 : oe_c12.all (oe_chk 12) = true := by decide +kernel
theorem oe_k13 : oe_c13.all (oe_chk 13) = true := by decide +kernel
theorem oe_k14 : oe_c14.all (oe_chk 14) = true := by decide +kernel
theorem oe_k15 : oe_c15.all (oe_chk 15) = true := by decide +kernel
theorem oe_k16 : oe_c16.all (oe_chk 16) = true := by decide +kernel
theorem oe_k17 : oe_c17.all (oe_chk 17) = true := by decide +kernel
theorem oe_k18 : oe_c18.all (oe_chk 18) = true := by decide +kernel
theorem oe_k19 : oe_c19.all (oe_chk 19) = true := by decide +kernel
theorem oe_k20 : oe_c20.all (oe_chk 20) = true := by decide +kernel
theorem oe_k21 : oe_c21.all (oe_chk 21) = true := by decide +kernel
theorem oe_k22 : oe_c22.all (oe_chk 22) = true := by decide +kernel
theorem oe_k23 : oe_c23.all (oe_chk 23) = true := by decide +kernel
theorem oe_k24 : oe_c24.all (oe_chk 24) = true := by decide +kernel
theorem oe_k25 : oe_c25.all (oe_chk 25) = true := by decide +kernel
theorem oe_k26 : oe_c26.all (oe_chk 26) = true := by decide +kernel
theorem oe_k27 : oe_c27.all (oe_chk 27) = true := by decide +kernel
theorem oe_k28 : oe_c28.all (oe_chk 28) = true := by decide +kernel
theorem oe_k29 : oe_c29.all (oe_chk 29) = true := by decide +kernel
theorem oe_k30 : oe_c30.all (oe_chk 30) = true := by decide +kernel
theorem oe_k31 : oe_c31.all (oe_chk 31) = true := by decide +kernel
theorem oe_k32 : oe_c32.all (oe_chk 32) = true := by decide +kernel
theorem oe_k33 : oe_c33.all (oe_chk 33) = true := by decide +kernel
theorem oe_k34 : oe_c34.all (oe_chk 34) = true := by decide +kernel
theorem oe_k35 : oe_c35.all (oe_chk 35) = true := by decide +kernel
theorem oe_k36 : oe_c36.all (oe_chk 36) = true := by decide +kernel
theorem oe_k37 : oe_c37.all (oe_chk 37) = true := by decide +kernel
theorem oe_k38 : oe_c38.all (oe_chk 38) = true := by decide +kernel
theorem oe_k39 : oe_c39.all (oe_chk 39) = true := by decide +kernel
theorem oe_k40 : oe_c40.all (oe_chk 40) = true := by decide +kernel
theorem oe_k41 : oe_c41.all (oe_chk 41) = true := by decide +kernel
theorem oe_k42 : oe_c42.all (oe_chk 42) = true := by decide +kernel
theorem oe_k43 : oe_c43.all (oe_chk 43) = true := by decide +kernel
theorem oe_k44 : oe_c44.all (oe_chk 44) = true := by decide +kernel
theorem oe_k45 : oe_c45.all (oe_chk 45) = true := by decide +kernel
theorem oe_k46 : oe_c46.all (oe_chk 46) = true := by decide +kernel
theorem oe_k47 : oe_c47.all (oe_chk 47) = true := by decide +kernel
theorem oe_k48 : oe_c48.all (oe_chk 48) = true := by decide +kernel
theorem oe_k49 : oe_c49.all (oe_chk 49) = true := by decide +kernel
theorem oe_k50 : oe_c50.all (oe_chk 50) = true := by decide +kernel
theorem oe_k51 : oe_c51.all (oe_chk 51) = true := by decide +kernel
theorem oe_k52 : oe_c52.all (oe_chk 52) = true := by decide +kernel
theorem oe_k53 : oe_c53.all (oe_chk 53) = true := by decide +kernel
theorem oe_k54 : oe_c54.all (oe_chk 54) = true := by decide +kernel
theorem oe_k55 : oe_c55.all (oe_chk 55) = true := by decide +kernel
theorem oe_k56 : oe_c56.all (oe_chk 56) = true := by decide +kernel
theorem oe_k57 : oe_c57.all (oe_chk 57) = true := by decide +kernel
theorem oe_k58 : oe_c58.all (oe_chk 58) = true := by decide +kernel
theorem oe_k59 : oe_c59.all (oe_chk 59) = true := by decide +kernel
theorem oe_k60 : oe_c60.all (oe_chk 60) = true := by decide +kernel
theorem oe_k61 : oe_c61.all (oe_chk 61) = true := by decide +kernel
theorem oe_k62 : oe_c62.all (oe_chk 62) = true := by decide +kernel
theorem oe_k63 : oe_c63.all (oe_chk 63) = true := by decide +kernel
theorem oe_k64 : oe_c64.all (oe_chk 64) = true := by decide +kernel
theorem oe_k65 : oe_c65.all (oe_chk 65) = true := by decide +kernel
theorem oe_k66 : oe_c66.all (oe_chk 66) = true := by decide +kernel
theorem oe_k67 : oe_c67.all (oe_chk 67) = true := by decide +kernel
theorem oe_k68 : oe_c68.all (oe_chk 68) = true := by decide +kernel
theorem oe_k69 : oe_c69.all (oe_chk 69) = true := by decide +kernel
theorem oe_k70 : oe_c70.all (oe_chk 70) = true := by decide +kernel
theorem oe_k71 : oe_c71.all (oe_chk 71) = true := by decide +kernel
theorem oe_k72 : oe_c72.all (oe_chk 72) = true := by decide +kernel
theorem oe_k73 : oe_c73.all (oe_chk 73) = true := by decide +kernel
theorem oe_k74 : oe_c74.all (oe_chk 74) = true := by decide +kernel
theorem oe_k75 : oe_c75.all (oe_chk 75) = true := by decide +kernel
theorem oe_k76 : oe_c76.all (oe_chk 76) = true := by decide +kernel
theorem oe_k77 : oe_c77.all (oe_chk 77) = true := by decide +kernel
theorem oe_k78 : oe_c78.all (oe_chk 78) = true := by decide +kernel
theorem oe_k79 : oe_c79.all (oe_chk 79) = true := by decide +kernel
theorem oe_k80 : oe_c80.all (oe_chk 80) = true := by decide +kernel
theorem oe_k81 : oe_c81.all (oe_chk 81) = true := by decide +kernel
theorem oe_k82 : oe_c82.all (oe_chk 82) = true := by decide +kernel
theorem oe_k83 : oe_c83.all (oe_chk 83) = true := by decide +kernel
theorem oe_k84 : oe_c84.all (oe_chk 84) = true := by decide +kernel
theorem oe_k85 : oe_c85.all (oe_chk 85) = true := by decide +kernel
theorem oe_k86 : oe_c86.all (oe_chk 86) = true := by decide +kernel
theorem oe_k87 : oe_c87.all (oe_chk 87) = true := by decide +kernel
theorem oe_k88 : oe_c88.all (oe_chk 88) = true := by decide +kernel
theorem oe_k89 : oe_c89.all (oe_chk 89) = true := by decide +kernel
theorem oe_k90 : oe_c90.all (oe_chk 90) = true := by decide +kernel
theorem oe_k91 : oe_c91.all (oe_chk 91) = true := by decide +kernel
theorem oe_k92 : oe_c92.all (oe_chk 92) = true := by decide +kernel
theorem oe_k93 : oe_c93.all (oe_chk 93) = true := by decide +kernel
theorem oe_k94 : oe_c94.all (oe_chk 94) = true := by decide +kernel
theorem oe_k95 : oe_c95.all (oe_chk 95) = true := by decide +kernel
theorem oe_k96 : oe_c96.all (oe_chk 96) = true := by decide +kernel
theorem oe_k97 : oe_c97.all (oe_chk 97) = true := by decide +kernel
theorem oe_k98 : oe_c98.all (oe_chk 98) = true := by decide +kernel
theorem oe_k99 : oe_c99.all (oe_chk 99) = true := by decide +kernel
theorem oe_k100 : oe_c100.all (oe_chk 100) = true := by decide +kernel
theorem oe_k101 : oe_c101.all (oe_chk 101) = true := by decide +kernel
theorem oe_k102 : oe_c102.all (oe_chk 102) = true := by decide +kernel
theorem oe_k103 : oe_c103.all (oe_chk 103) = true := by decide +kernel
theorem oe_k104 : oe_c104.all (oe_chk 104) = true := by decide +kernel
theorem oe_k105 : oe_c105.all (oe_chk 105) = true := by decide +kernel
theorem oe_k106 : oe_c106.all (oe_chk 106) = true := by decide +kernel
theorem oe_k107 : oe_c107.all (oe_chk 107) = true := by decide +kernel
theorem oe_k108 : oe_c108.all (oe_chk 108) = true := by decide +kernel
theorem oe_k109 : oe_c109.all (oe_chk 109) = true := by decide +kernel
theorem oe_k110 : oe_c110.all (oe_chk 110) = true := by decide +kernel
theorem oe_k111 : oe_c111.all (oe_chk 111) = true := by decide +kernel
theorem oe_k112 : oe_c112.all (oe_chk 112) = true := by decide +kernel
theorem oe_k113 : oe_c113.all (oe_chk 113) = true := by decide +kernel
theorem oe_k114 : oe_c114.all (oe_chk 114) = true := by decide +kernel
theorem oe_k115 : oe_c115.all (oe_chk 115) = true := by decide +kernel
theorem oe_k116 : oe_c116.all (oe_chk 116) = true := by decide +kernel
theorem oe_k117 : oe_c117.all (oe_chk 117) = true := by decide +kernel
theorem oe_k118 : oe_c118.all (oe_chk 118) = true := by decide +kernel
theorem oe_k119 : oe_c119.all (oe_chk 119) = true := by decide +kernel
theorem oe_k120 : oe_c120.all (oe_chk 120) = true := by decide +kernel
theorem oe_k121 : oe_c121.all (oe_chk 121) = true := by decide +kernel
theorem oe_k122 : oe_c122.all (oe_chk 122) = true := by decide +kernel
theorem oe_k123 : oe_c123.all (oe_chk 123) = true := by decide +kernel
theorem oe_k124 : oe_c124.all (oe_chk 124) = true := by decide +kernel
theorem oe_k125 : oe_c125.all (oe_chk 125) = true := by decide +kernel
theorem oe_k126 : oe_c126.all (oe_chk 126) = true := by decide +kernel
theorem oe_k127 : oe_c127.all (oe_chk 127) = true := by decide +kernel
theorem oe_k128 : oe_c128.all (oe_chk 128) = true := by decide +kernel
theorem oe_k129 : oe_c129.all (oe_chk 129) = true := by decide +kernel
theorem oe_k130 : oe_c130.all (oe_chk 130) = true := by decide +kernel
theorem oe_kA : ∀ j, (oe_code j).all (oe_chk j) = true
  | 0 => rfl
  | 1 => rfl
  | 2 => oe_k2
  | 3 => oe_k3
  | 4 => oe_k4
  | 5 => oe_k5
  | 6 => oe_k6
  | 7 => oe_k7
  | 8 => oe_k8
  | 9 => oe_k9
  | 10 => oe_k10
  | 11 => oe_k11
  | 12 => oe_k12
  | 13 => oe_k13
  | 14 => oe_k14
  | 15 => oe_k15
  | 16 => oe_k16
  | 17 => oe_k17
  | 18 => oe_k18
  | 19 => oe_k19
  | 20 => oe_k20
  | 21 => oe_k21
  | 22 => oe_k22
  | 23 => oe_k23
  | 24 => oe_k24
  | 25 => oe_k25
  | 26 => oe_k26
  | 27 => oe_k27
  | 28 => oe_k28
  | 29 => oe_k29
  | 30 => oe_k30
  | 31 => oe_k31
  | 32 => oe_k32
  | 33 => oe_k33
  | 34 => oe_k34
  | 35 => oe_k35
  | 36 => oe_k36
  | 37 => oe_k37
  | 38 => oe_k38
  | 39 => oe_k39
  | 40 => oe_k40
  | 41 => oe_k41
  | 42 => oe_k42
  | 43 => oe_k43
  | 44 => oe_k44
  | 45 => oe_k45
  | 46 => oe_k46
  | 47 => oe_k47
  | 48 => oe_k48
  | 49 => oe_k49
  | 50 => oe_k50
  | 51 => oe_k51
  | 52 => oe_k52
  | 53 => oe_k53
  | 54 => oe_k54
  | 55 => oe_k55
  | 56 => oe_k56
  | 57 => oe_k57
  | 58 => oe_k58
  | 59 => oe_k59
  | 60 => oe_k60
  | 61 => oe_k61
  | 62 => oe_k62
  | 63 => oe_k63
  | 64 => oe_k64
  | 65 => oe_k65
  | 66 => oe_k66
  | 67 => oe_k67
  | 68 => oe_k68
  | 69 => oe_k69
  | 70 => oe_k70
  | 71 => oe_k71
  | 72 => oe_k72
  | 73 => oe_k73
  | 74 => oe_k74
  | 75 => oe_k75
  | 76 => oe_k76
  | 77 => oe_k77
  | 78 => oe_k78
  | 79 => oe_k79
  | 80 => oe_k80
  | 81 => oe_k81
  | 82 => oe_k82
  | 83 => oe_k83
  | 84 => oe_k84
  | 85 => oe_k85
  | 86 => oe_k86
  | 87 => oe_k87
  | 88 => oe_k88
  | 89 => oe_k89
  | 90 => oe_k90
  | 91 => oe_k91
  | 92 => oe_k92
  | 93 => oe_k93
  | 94 => oe_k94
  | 95 => oe_k95
  | 96 => oe_k96
  | 97 => oe_k97
  | 98 => oe_k98
  | 99 => oe_k99
  | 100 => oe_k100
  | 101 => oe_k101
  | 102 => oe_k102
  | 103 => oe_k103
  | 104 => oe_k104
  | 105 => oe_k105
  | 106 => oe_k106
  | 107 => oe_k107
  | 108 => oe_k108
  | 109 => oe_k109
  | 110 => oe_k110
  | 111 => oe_k111
  | 112 => oe_k112
  | 113 => oe_k113
  | 114 => oe_k114
  | 115 => oe_k115
  | 116 => oe_k116
  | 117 => oe_k117
  | 118 => oe_k118
  | 119 => oe_k119
  | 120 => oe_k120
  | 121 => oe_k121
  | 122 => oe_k122
  | 123 => oe_k123
  | 124 => oe_k124
  | 125 => oe_k125
  | 126 => oe_k126
  | 127 => oe_k127
  | 128 => oe_k128
  | 129 => oe_k129
  | 130 => oe_k130
  | j + 131 => by rw [oe_code_out _ (by show 131 ≤ j + 131; omega)]; rfl
theorem oe_dec (j pc : Nat) (i : Jvm.ClassFile.Instr) (len : Nat) (h : oe_find (oe_code j) pc = some (i, len)) : decode (oe_by j) pc = .ok (oe_rel (oe_cpi j pc) pc i, len) ∧ oe_sta j pc i len = true := by
  have h1 := List.all_eq_true.mp (oe_kA j) _ (oe_find_mem h)
  unfold oe_chk at h1
  rw [Bool.and_eq_true, decide_eq_true_eq] at h1
  exact h1
end
section
/-! What the tables say. -/
theorem oe_tyok (ci : Nat) (q : vw_C) (h : oe_cl[ci]? = some q) : ∀ k, k < q.2.2 → parseFieldDescriptor (q.2.1 k).2.2.1 = some (oe_ty ci k) := by
  have a : ∀ i, i < 8 → ∀ q, oe_cl[i]? = some q → ∀ k, k < q.2.2 → parseFieldDescriptor (q.2.1 k).2.2.1 = some (oe_ty i k) := by
    intro i hi q hq
    match i, hi, hq with
    | 0, _, hq => cases hq; exact (by decide +kernel : ∀ k, k < 14 → parseFieldDescriptor (oe_T0 k).2.2.1 = some (oe_ty 0 k))
    | 1, _, hq => cases hq; exact (by decide +kernel : ∀ k, k < 5 → parseFieldDescriptor (oe_T1 k).2.2.1 = some (oe_ty 1 k))
    | 2, _, hq => cases hq; exact (by decide +kernel : ∀ k, k < 2 → parseFieldDescriptor (oe_T2 k).2.2.1 = some (oe_ty 2 k))
    | 3, _, hq => cases hq; exact (by decide +kernel : ∀ k, k < 3 → parseFieldDescriptor (oe_T3 k).2.2.1 = some (oe_ty 3 k))
    | 4, _, hq => cases hq; exact (by decide +kernel : ∀ k, k < 3 → parseFieldDescriptor (oe_T4 k).2.2.1 = some (oe_ty 4 k))
    | 5, _, hq => cases hq; exact (by decide +kernel : ∀ k, k < 8 → parseFieldDescriptor (oe_T5 k).2.2.1 = some (oe_ty 5 k))
    | 6, _, hq => cases hq; exact (by decide +kernel : ∀ k, k < 2 → parseFieldDescriptor (oe_T6 k).2.2.1 = some (oe_ty 6 k))
    | 7, _, hq => cases hq; exact (by decide +kernel : ∀ k, k < 45 → parseFieldDescriptor (oe_T7 k).2.2.1 = some (oe_ty 7 k))
  have hi : ci < 8 := (List.getElem?_eq_some_iff.mp h).1
  exact a ci hi q h
theorem oe_tynm (ci : Nat) (q : vw_C) (h : oe_cl[ci]? = some q) : ∀ a, a < q.2.2 → ∀ b, b < q.2.2 → a ≠ b → (q.2.1 a).2.1 ≠ (q.2.1 b).2.1 := by
  have hi : ci < 8 := (List.getElem?_eq_some_iff.mp h).1
  match ci, hi, h with
  | 0, _, hq => cases hq; exact (by decide +kernel : ∀ a, a < 14 → ∀ b, b < 14 → a ≠ b → (oe_T0 a).2.1 ≠ (oe_T0 b).2.1)
  | 1, _, hq => cases hq; exact (by decide +kernel : ∀ a, a < 5 → ∀ b, b < 5 → a ≠ b → (oe_T1 a).2.1 ≠ (oe_T1 b).2.1)
  | 2, _, hq => cases hq; exact (by decide +kernel : ∀ a, a < 2 → ∀ b, b < 2 → a ≠ b → (oe_T2 a).2.1 ≠ (oe_T2 b).2.1)
  | 3, _, hq => cases hq; exact (by decide +kernel : ∀ a, a < 3 → ∀ b, b < 3 → a ≠ b → (oe_T3 a).2.1 ≠ (oe_T3 b).2.1)
  | 4, _, hq => cases hq; exact (by decide +kernel : ∀ a, a < 3 → ∀ b, b < 3 → a ≠ b → (oe_T4 a).2.1 ≠ (oe_T4 b).2.1)
  | 5, _, hq => cases hq; exact (by decide +kernel : ∀ a, a < 8 → ∀ b, b < 8 → a ≠ b → (oe_T5 a).2.1 ≠ (oe_T5 b).2.1)
  | 6, _, hq => cases hq; exact (by decide +kernel : ∀ a, a < 2 → ∀ b, b < 2 → a ≠ b → (oe_T6 a).2.1 ≠ (oe_T6 b).2.1)
  | 7, _, hq => cases hq; exact (by decide +kernel : ∀ a, a < 45 → ∀ b, b < 45 → a ≠ b → (oe_T7 a).2.1 ≠ (oe_T7 b).2.1)
theorem oe_eqc_ok : ∃ r : vw_C, oe_cl[oe_eqc]? = some r ∧ r.1 = oe_eqn := ⟨("OrderedEquations$Equation", oe_T2, 2), rfl, rfl⟩
theorem oe_nf_lt (r : Nat) : oe_nf r < 2147483648 := by
  unfold oe_nf
  split <;> decide
theorem oe_ow_y (j : Nat) : oe_ow j = (oe_y j).cls := rfl
theorem oe_ini_y (j : Nat) (h : oe_ini j = true) : (oe_y j).name = "<init>" := by
  unfold oe_ini at h
  exact eq_of_beq h
theorem oe_plain (j : Nat) : plainName (oe_y j).cls = true := by
  unfold oe_y
  split <;> decide +kernel
theorem oe_rt_0 (j : Nat) (h : oe_rt j = 0) : oe_ret j = none := by
  unfold oe_rt at h
  unfold oe_ret
  split at h <;> first | rfl | cases h
theorem oe_rt_1 (j : Nat) (h : oe_rt j = 1) : oe_ret j = some .int := by
  unfold oe_rt at h
  unfold oe_ret
  split at h <;> first | rfl | cases h
theorem oe_rt_2 (j : Nat) (h : oe_rt j = 2) : oe_ret j = some .boolean := by
  unfold oe_rt at h
  unfold oe_ret
  split at h <;> first | rfl | cases h
theorem oe_rt_3 (j : Nat) (h : oe_rt j = 3) : oe_ret j = some .char := by
  unfold oe_rt at h
  unfold oe_ret
  split at h <;> first | rfl | cases h
theorem oe_rt_4 (j : Nat) (h : oe_rt j = 4) : ∃ rt, oe_ret j = some rt ∧ ((∃ n, rt = .object n) ∨ ∃ t, rt = .array t) := by
  unfold oe_rt at h
  unfold oe_ret
  split at h <;> first | exact ⟨_, rfl, Or.inl ⟨_, rfl⟩⟩ | cases h
set_option maxRecDepth 100000 in
theorem oe_goodW : oe_W.all goodWord = true := by decide +kernel
theorem oe_good (t : Nat) (h : Cond.code (oe_y t) (oe_by t) (oe_ml t) (oe_ret t) ∈ oe_W) : GoodIn oe_W (oe_wj t) := by
  intro w hw
  have hin : w ∈ oe_W := by
    rcases List.mem_cons.mp hw with q | q
    · rw [q]; exact h
    · exact q
  exact ⟨hin, good_of_word (List.all_eq_true.mp oe_goodW w hin)⟩
end
section
/-! Numbers: whole numbers in the range of the machine's. -/
theorem oe_toInt {x : Int} (h : oe_rg x) : (Int32.ofInt x).toInt = x := Int32.toInt_ofInt_of_le (by have := h.1; omega) (by have := h.2; omega)
theorem oe_toInt64 {x : Int} (h : oe_rg x) : (Int64.ofInt x).toInt = x := Int64.toInt_ofInt_of_le (by have := h.1; omega) (by have := h.2; omega)
theorem oe_clamp {x : Int} (h : oe_rg x) : (Int32.ofInt x).toNatClampNeg = x.toNat := Int32.toNatClampNeg_ofInt_of_le (by have := h.1; omega) (by have := h.2; omega)
theorem oe_eq {x y : Int} (h : oe_rg x) (g : oe_rg y) : Int32.ofInt x = Int32.ofInt y ↔ x = y := by rw [← Int32.toInt_inj, oe_toInt h, oe_toInt g]
theorem oe_lt {x y : Int} (h : oe_rg x) (g : oe_rg y) : Int32.ofInt x < Int32.ofInt y ↔ x < y := by rw [Int32.lt_iff_toInt_lt, oe_toInt h, oe_toInt g]
theorem oe_le {x y : Int} (h : oe_rg x) (g : oe_rg y) : Int32.ofInt x ≤ Int32.ofInt y ↔ x ≤ y := by rw [Int32.le_iff_toInt_le, oe_toInt h, oe_toInt g]
theorem oe_rg0 : oe_rg 0 := by unfold oe_rg; omega
theorem oe_zero : (0 : Int32) = Int32.ofInt 0 := rfl
theorem oe_vpin {i : Int} {n : Nat} (h : oe_rg i) (h0 : 0 ≤ i) (h1 : i < n) : vp_in (Int32.ofInt i) n := by rw [vp_in_iff, oe_toInt h]; exact ⟨h0, h1⟩
theorem oe_bv (x : Int) : (Int32.ofInt x).toBitVec.toNat = (x % 4294967296).toNat := by
  rw [Int32.toBitVec_ofInt, BitVec.toNat_ofInt]; rfl
theorem oe_nI {n : Nat} : nI n = Int32.ofInt (n : Int) := (Int32.ofInt_eq_ofNat).symm
theorem oe_and (x : Int) : Int32.ofInt x &&& Int32.ofInt 15 = Int32.ofInt (x % 16) := by
  rw [pk_and (Int32.ofInt x) (m := Int32.ofInt 15) 4 (by decide), oe_bv, oe_nI]
  congr 1
  omega
theorem oe_chr (x : Int) : ((Int32.ofInt x).toUInt32 % 65536).toInt32 = Int32.ofInt (x % 65536) := by
  rw [pk_char, oe_bv, oe_nI]
  congr 1
  omega
theorem oe_div {x y : Int} (h : oe_rg x) (g : oe_rg y) (h0 : 0 ≤ x) (g0 : 0 < y) : Int32.ofInt x / Int32.ofInt y = Int32.ofInt (x / y) := by
  rw [← Int32.toInt_inj, Int32.toInt_div_of_ne_right, oe_toInt h, oe_toInt g, Int.tdiv_eq_ediv_of_nonneg h0, oe_toInt]
  · constructor
    · have := Int.ediv_nonneg h0 (Int.le_of_lt g0); omega
    · have := Int.ediv_le_self y h0; have := h.2; omega
  · intro q
    rw [← Int32.toInt_inj, oe_toInt g] at q
    have : (-1 : Int32).toInt = -1 := rfl
    omega
theorem oe_rem {x y : Int} (h : oe_rg x) (g : oe_rg y) (h0 : 0 ≤ x) (g0 : 0 < y) : Int32.ofInt x - Int32.ofInt x / Int32.ofInt y * Int32.ofInt y = Int32.ofInt (x % y) := by
  rw [oe_div h g h0 g0, ← Int32.ofInt_mul, ← Int32.ofInt_sub]
  congr 1
  have := Int.emod_add_mul_ediv x y
  rw [Int.mul_comm y] at this
  omega
theorem oe_rem_rg {x y : Int} (h : oe_rg x) (g : oe_rg y) (h0 : 0 ≤ x) (g0 : 0 < y) : oe_rg (x % y) := by
  have := Int.emod_nonneg x (by omega : y ≠ 0)
  have := Int.emod_lt_of_pos x g0
  have := g.2
  constructor <;> omega
theorem oe_div_rg {x y : Int} (h : oe_rg x) (h0 : 0 ≤ x) (g0 : 0 < y) : oe_rg (x / y) := by
  have := Int.ediv_nonneg h0 (Int.le_of_lt g0)
  have := Int.ediv_le_self y h0
  have := h.2
  constructor <;> omega
theorem oe_lcmp {x y : Int} (h : oe_rg x) (g : oe_rg y) : lg_cmp (Int64.ofInt x) (Int64.ofInt y) = Int32.ofInt (if y < x then 1 else if x = y then 0 else -1) := by
  unfold lg_cmp
  have e1 : (Int64.ofInt x > Int64.ofInt y) ↔ y < x := by
    show Int64.ofInt y < Int64.ofInt x ↔ _
    rw [Int64.lt_iff_toInt_lt, oe_toInt64 h, oe_toInt64 g]
  have e2 : (Int64.ofInt x = Int64.ofInt y) ↔ x = y := by rw [← Int64.toInt_inj, oe_toInt64 h, oe_toInt64 g]
  by_cases c1 : y < x
  · rw [if_pos (e1.mpr c1), if_pos c1]; rfl
  · rw [if_neg (fun q => c1 (e1.mp q)), if_neg c1]
    by_cases c2 : x = y
    · rw [if_pos (e2.mpr c2), if_pos c2]; rfl
    · rw [if_neg (fun q => c2 (e2.mp q)), if_neg c2]; rfl
theorem oe_i2l {x : Int} (h : oe_rg x) : (Int32.ofInt x).toInt64 = Int64.ofInt x := by
  rw [← Int64.toInt_inj, Int32.toInt_toInt64, oe_toInt h, oe_toInt64 h]
end
section
/-! The small machine's heap in the great one's. -/
def oe_vv (n : Nat) (v : oeV) : Prop := match v with
  | .inl x => oe_rg x
  | .inr (.inl a) => a < n
  | .inr (.inr (0, x)) => oe_rg x
  | .inr (.inr _) => True
def oe_hv (hp : oeH) : Prop := (∀ a i r, hp.2.1 a i = some r → r < hp.1.length) ∧ (∀ a i, oe_rg (hp.2.2 a i)) ∧ (∀ a c m : Nat, hp.1[a]? = some (c + 5, m) → m = oe_nf c) ∧ ∀ a t m : Nat, hp.1[a]? = some (t, m) → m < 2147483648
def oe_rf (ad : List Nat) (r : Option Nat) : Option Nat := r.map (fun a => ad.getD a 0)
def oe_val (ad : List Nat) (z : Nat → Int → Nat) (v : oeV) : Value := match v with
  | .inl x => .int (Int32.ofInt x)
  | .inr (.inl a) => .ref (ad.getD a 0)
  | .inr (.inr (0, x)) => .long (Int64.ofInt x)
  | .inr (.inr (1, _)) => .null
  | .inr (.inr (t, x)) => .ref (z t x)
def oe_fv (ad : List Nat) (g : Nat → Option Nat) (h : Nat → Int) (t k : Nat) : Value := if t = 1 then va_rf (oe_rf ad (g k)) else .int (Int32.ofInt (h k))
def oe_cell (cA : Nat → ClassId) (ad : List Nat) (q : Nat × Nat) (g : Nat → Option Nat) (h : Nat → Int) : va_E := match q.1 with
  | 0 => .inl (cA 0, q.2, .inl (fun j => Int32.ofInt (h j)))
  | 1 => .inl (cA 1, q.2, .inl (fun j => Int32.ofInt (h j)))
  | 2 => .inl (cA 2, q.2, .inl (fun j => Int32.ofInt (h j)))
  | 3 => .inl (cA 3, q.2, .inr (.inl (fun j => Int64.ofInt (h j))))
  | 4 => .inl (cA 4, q.2, .inr (.inr (.inr (.inr (fun j => oe_rf ad (g j))))))
  | c + 5 => .inr (c, (List.range q.2).map (fun k => oe_fv ad g h (oe_fk c k) k))
def oe_ws (cA : Nat → ClassId) (ad : List Nat) (hp : oeH) : va_W := (List.range hp.1.length).map (fun a => (ad.getD a 0, oe_cell cA ad (hp.1.getD a (0, 0)) (hp.2.1 a) (hp.2.2 a)))
theorem oe_ws_get {cA : Nat → ClassId} {ad : List Nat} {hp : oeH} {a : Nat} {q : Nat × Nat} (h : hp.1[a]? = some q) : (oe_ws cA ad hp)[a]? = some (ad.getD a 0, oe_cell cA ad q (hp.2.1 a) (hp.2.2 a)) := by
  have ha : a < hp.1.length := (List.getElem?_eq_some_iff.mp h).1
  rw [oe_ws, List.getElem?_map, List.getElem?_range ha, Option.map_some, List.getD_eq_getElem?_getD (l := hp.1), h, Option.getD_some]
theorem oe_ws_none {cA : Nat → ClassId} {ad : List Nat} {hp : oeH} {a : Nat} (h : ¬ a < hp.1.length) : (oe_ws cA ad hp)[a]? = none := by
  apply List.getElem?_eq_none
  simp only [oe_ws, List.length_map, List.length_range]
  omega
theorem oe_ws_len {cA : Nat → ClassId} {ad : List Nat} {hp : oeH} : (oe_ws cA ad hp).length = hp.1.length := by simp [oe_ws]
theorem oe_ws_set {cA : Nat → ClassId} {ad : List Nat} {hp : oeH} {a : Nat} {q : Nat × Nat} {g : Nat → Nat → Option Nat} {h : Nat → Nat → Int} (hq : hp.1[a]? = some q) (hg : ∀ b, b ≠ a → g b = hp.2.1 b) (hh : ∀ b, b ≠ a → h b = hp.2.2 b) :
    oe_ws cA ad (hp.1, g, h) = (oe_ws cA ad hp).set a (ad.getD a 0, oe_cell cA ad q (g a) (h a)) := by
  have ha : a < hp.1.length := (List.getElem?_eq_some_iff.mp hq).1
  apply List.ext_getElem?
  intro i
  rw [List.getElem?_set, oe_ws_len]
  by_cases e : a = i
  · subst e
    rw [if_pos rfl, if_pos ha]
    exact oe_ws_get (hp := (hp.1, g, h)) hq
  · rw [if_neg e]
    by_cases hi : i < hp.1.length
    · have h1 : hp.1[i]? = some hp.1[i] := List.getElem?_eq_getElem hi
      rw [oe_ws_get (hp := (hp.1, g, h)) h1, oe_ws_get h1]
      show some (_, oe_cell cA ad _ (g i) (h i)) = _
      rw [hg i (fun q => e q.symm), hh i (fun q => e q.symm)]
    · rw [oe_ws_none (hp := (hp.1, g, h)) hi, oe_ws_none hi]
theorem oe_getD_app {ad e : List Nat} {a : Nat} (h : a < ad.length) : (ad ++ e).getD a 0 = ad.getD a 0 := by
  rw [List.getD_eq_getElem?_getD, List.getD_eq_getElem?_getD, List.getElem?_append_left h]
theorem oe_rf_app {ad e : List Nat} {r : Option Nat} (h : ∀ a, r = some a → a < ad.length) : oe_rf (ad ++ e) r = oe_rf ad r := by
  cases r with
  | none => rfl
  | some a => exact congrArg some (oe_getD_app (h a rfl))
theorem oe_cell_app {cA : Nat → ClassId} {ad e : List Nat} {q : Nat × Nat} {g : Nat → Option Nat} {h : Nat → Int} (hg : ∀ i r, g i = some r → r < ad.length) : oe_cell cA (ad ++ e) q g h = oe_cell cA ad q g h := by
  have e1 : ∀ i, oe_rf (ad ++ e) (g i) = oe_rf ad (g i) := fun i => oe_rf_app (hg i)
  unfold oe_cell oe_fv
  simp only [e1]
theorem oe_val_app {ad e : List Nat} {z : Nat → Int → Nat} {v : oeV} (h : oe_vv ad.length v) : oe_val (ad ++ e) z v = oe_val ad z v := by
  rcases v with x | a | ⟨t, x⟩
  · rfl
  · show Value.ref _ = Value.ref _
    rw [oe_getD_app h]
  · match t with
    | 0 => rfl
    | 1 => rfl
    | t + 2 => rfl
theorem oe_ws_new {cA : Nat → ClassId} {ad : List Nat} {hp : oeH} {q : Nat} {t : Nat × Nat} (hv : oe_hv hp) (hl : ad.length = hp.1.length) :
    oe_ws cA (ad ++ [q]) (oe_new hp t) = oe_ws cA ad hp ++ [(q, oe_cell cA (ad ++ [q]) t (fun _ => none) (fun _ => 0))] := by
  have hlen : (oe_new hp t).1.length = hp.1.length + 1 := by simp [oe_new]
  apply List.ext_getElem?
  intro i
  by_cases hi : i < hp.1.length
  · have h1 : hp.1[i]? = some hp.1[i] := List.getElem?_eq_getElem hi
    have h2 : (oe_new hp t).1[i]? = some hp.1[i] := by
      show (hp.1 ++ [t])[i]? = _
      rw [List.getElem?_append_left hi, h1]
    rw [List.getElem?_append_left (by rw [oe_ws_len]; exact hi), oe_ws_get h2, oe_ws_get h1]
    have e1 : (oe_new hp t).2.1 i = hp.2.1 i := by
      show (if i = hp.1.length then _ else hp.2.1 i) = _
      rw [if_neg (by omega)]
    have e2 : (oe_new hp t).2.2 i = hp.2.2 i := by
      show (if i = hp.1.length then _ else hp.2.2 i) = _
      rw [if_neg (by omega)]
    rw [e1, e2, oe_cell_app (fun k r hr => by rw [hl]; exact hv.1 i k r hr), oe_getD_app (by omega)]
  · by_cases h3 : i = hp.1.length
    · subst h3
      have h2 : (oe_new hp t).1[hp.1.length]? = some t := by
        show (hp.1 ++ [t])[hp.1.length]? = _
        rw [List.getElem?_append_right (Nat.le_refl _), Nat.sub_self]; rfl
      rw [oe_ws_get h2, List.getElem?_append_right (by rw [oe_ws_len]; exact Nat.le_refl _), oe_ws_len, Nat.sub_self]
      have e1 : (oe_new hp t).2.1 hp.1.length = fun _ => none := by
        show (if hp.1.length = hp.1.length then _ else _) = _
        rw [if_pos rfl]
      have e2 : (oe_new hp t).2.2 hp.1.length = fun _ => 0 := by
        show (if hp.1.length = hp.1.length then _ else _) = _
        rw [if_pos rfl]
      have e3 : (ad ++ [q]).getD hp.1.length 0 = q := by
        rw [List.getD_eq_getElem?_getD, List.getElem?_append_right (by omega), hl, Nat.sub_self]; rfl
      rw [e1, e2, e3]; rfl
    · rw [oe_ws_none (by rw [hlen]; omega), List.getElem?_eq_none]
      rw [List.length_append, oe_ws_len]
      show hp.1.length + 1 ≤ i
      omega
theorem oe_hv_num {hp : oeH} {a i : Nat} {v : Int} (h : oe_hv hp) (hv : oe_rg v) : oe_hv (hp.1, hp.2.1, oe_up hp.2.2 a i v) := by
  refine ⟨h.1, fun b k => ?_, h.2.2.1, h.2.2.2⟩
  show oe_rg (va_up hp.2.2 a (va_up (hp.2.2 a) i v) b k)
  unfold va_up
  split
  · dsimp only
    split
    · exact hv
    · exact h.2.1 _ _
  · exact h.2.1 _ _
theorem oe_hv_ref {hp : oeH} {a i r : Nat} (h : oe_hv hp) (hr : r < hp.1.length) : oe_hv (hp.1, oe_up hp.2.1 a i (some r), hp.2.2) := by
  refine ⟨fun b k q hq => ?_, h.2.1, h.2.2.1, h.2.2.2⟩
  have hq : va_up hp.2.1 a (va_up (hp.2.1 a) i (some r)) b k = some q := hq
  unfold va_up at hq
  split at hq
  · dsimp only at hq
    split at hq
    · cases hq; exact hr
    · exact h.1 _ _ _ hq
  · exact h.1 _ _ _ hq
theorem oe_hv_cpy {hp : oeH} {a sp b dp n : Nat} (h : oe_hv hp) : oe_hv (hp.1, hp.2.1, oe_cpy hp.2.2 a sp b dp n) := by
  refine ⟨h.1, fun c k => ?_, h.2.2.1, h.2.2.2⟩
  show oe_rg (va_up hp.2.2 b (va_cpy (hp.2.2 a) (hp.2.2 b) sp dp n) c k)
  unfold va_up va_cpy
  split
  · dsimp only
    split
    · exact h.2.1 _ _
    · exact h.2.1 _ _
  · exact h.2.1 _ _
theorem oe_hv_new {hp : oeH} {t : Nat × Nat} (h : oe_hv hp) (ht : ∀ c, t.1 = c + 5 → t.2 = oe_nf c) (ht2 : t.2 < 2147483648) : oe_hv (oe_new hp t) := by
  have hlen : (oe_new hp t).1.length = hp.1.length + 1 := by simp [oe_new]
  have hx : ∀ (a : Nat) (q : Nat × Nat), (hp.1 ++ [t])[a]? = some q → hp.1[a]? = some q ∨ q = t := by
    intro a q hq
    by_cases ha : a < hp.1.length
    · rw [List.getElem?_append_left ha] at hq; exact Or.inl hq
    · rw [List.getElem?_append_right (by omega)] at hq
      right
      have := List.mem_of_getElem? hq
      simpa using this
  refine ⟨fun b k q hq => ?_, fun b k => ?_, fun a c m hm => ?_, fun a u m hm => ?_⟩
  · rw [hlen]
    have hq : va_up hp.2.1 hp.1.length (fun _ => none) b k = some q := hq
    unfold va_up at hq
    split at hq
    · cases hq
    · have := h.1 _ _ _ hq; omega
  · show oe_rg (va_up hp.2.2 hp.1.length (fun _ => 0) b k)
    unfold va_up
    split
    · exact oe_rg0
    · exact h.2.1 _ _
  · rcases hx a _ hm with q | q
    · exact h.2.2.1 a c m q
    · rw [← q] at ht; exact ht c rfl
  · rcases hx a _ hm with q | q
    · exact h.2.2.2 a u m q
    · rw [← q] at ht2; exact ht2
-- places of a frame
def oe_lv (ad : List Nat) (z : Nat → Int → Nat) (L : List (Option oeV)) : List (Nat × Value) := (List.range L.length).filterMap (fun i => (L.getD i none).map (fun v => (i, oe_val ad z v)))
theorem oe_lv_mem {ad : List Nat} {z : Nat → Int → Nat} {L : List (Option oeV)} {q : Nat × Value} : q ∈ oe_lv ad z L ↔ ∃ v, L[q.1]? = some (some v) ∧ q.2 = oe_val ad z v := by
  unfold oe_lv
  rw [List.mem_filterMap]
  constructor
  · rintro ⟨i, hi, h⟩
    rw [List.mem_range] at hi
    rw [Option.map_eq_some_iff] at h
    obtain ⟨v, h1, rfl⟩ := h
    refine ⟨v, ?_, rfl⟩
    rw [List.getD_eq_getElem?_getD, List.getElem?_eq_getElem hi, Option.getD_some] at h1
    show L[i]? = _
    rw [List.getElem?_eq_getElem hi, h1]
  · rintro ⟨v, h1, h2⟩
    refine ⟨q.1, List.mem_range.mpr (List.getElem?_eq_some_iff.mp h1).1, ?_⟩
    rw [List.getD_eq_getElem?_getD, h1, Option.getD_some, Option.map_some, ← h2]
theorem oe_c1_cat {ad : List Nat} {z : Nat → Int → Nat} {v : oeV} (h : oe_c1 v) : (oe_val ad z v).category = 1 := by
  rcases v with x | a | ⟨t, x⟩
  · rfl
  · rfl
  · match t, h with
    | 1, _ => rfl
    | t + 2, _ => rfl
theorem oe_lv_at {ad : List Nat} {z : Nat → Int → Nat} {L : List (Option oeV)} {ls : Array Slot} {nL i : Nat} {v : oeV} (h : lv_has ls nL (oe_lv ad z L)) (hv : L[i]? = some (some v)) : ls[i]? = some (.val (oe_val ad z v)) :=
  h.2.2 (i, oe_val ad z v) (oe_lv_mem.mpr ⟨v, hv, rfl⟩)
theorem oe_lv_set {ad : List Nat} {z : Nat → Int → Nat} {L : List (Option oeV)} {ls : Array Slot} {nL i : Nat} {v : oeV} (hc : ∀ w, some w ∈ L → oe_c1 w)
    (h : lv_has ls nL ((i, oe_val ad z v) :: (oe_lv ad z L).filter (fun q => !(q.1 == i) && !(q.1 + 1 == i && q.2.category == 2)))) : lv_has ls nL (oe_lv ad z (L.set i (some v))) := by
  refine ⟨h.1, h.2.1, fun q hq => ?_⟩
  obtain ⟨w, h1, h2⟩ := oe_lv_mem.mp hq
  rw [List.getElem?_set] at h1
  by_cases e : i = q.1
  · rw [if_pos e] at h1
    split at h1
    · cases h1
      apply h.2.2
      rw [List.mem_cons]
      left
      rw [← h2, e]
    · cases h1
  · rw [if_neg e] at h1
    apply h.2.2
    rw [List.mem_cons]
    right
    rw [List.mem_filter]
    refine ⟨oe_lv_mem.mpr ⟨w, h1, h2⟩, ?_⟩
    have hw : oe_c1 w := hc w (List.mem_of_getElem? h1)
    rw [h2, oe_c1_cat hw]
    simp
    omega
theorem oe_fm_congr {α β : Type} {f g : α → Option β} : ∀ (l : List α), (∀ x ∈ l, f x = g x) → l.filterMap f = l.filterMap g
  | [], _ => rfl
  | x :: l, h => by
    rw [List.filterMap_cons, List.filterMap_cons, h x List.mem_cons_self, oe_fm_congr l (fun y hy => h y (List.mem_cons_of_mem _ hy))]
theorem oe_lv_app {ad e : List Nat} {z : Nat → Int → Nat} {L : List (Option oeV)} (h : ∀ v, some v ∈ L → oe_vv ad.length v) : oe_lv (ad ++ e) z L = oe_lv ad z L := by
  unfold oe_lv
  apply oe_fm_congr
  intro i hi
  rw [List.mem_range] at hi
  rw [List.getD_eq_getElem?_getD, List.getElem?_eq_getElem hi, Option.getD_some]
  cases hq : L[i] with
  | none => rfl
  | some v =>
    have e1 := oe_val_app (e := e) (z := z) (h v (by rw [← hq]; exact List.getElem_mem hi))
    exact congrArg (fun w => some (i, w)) e1
end
section
/-! The small machine is the bytecode: each step of it is a step of the great one. -/
def oe_tys (cA : Nat → ClassId) : List (ClassId × FieldType) := [(cA 0, .int), (cA 1, .char), (cA 2, .boolean), (cA 3, .long), (cA 4, .object oe_eqn)]
def oe_N (U : State) : Prop := (∀ q ∈ oe_nest, va_Nw (.methodLinkNest q.1 q.2.1 q.2.2.1 q.2.2.2) U) ∧ va_AO oe_eqn U
def oe_GH (D : va_G) (cA : Nat → ClassId) (A : Nat → Prop) (s : State) (ad0 : List Nat) (hp : oeH) (ad : List Nat) (H : Heap) (locs : List Loc) : Prop :=
  va_P D oe_cl (oe_ws cA ad hp) H ∧ va_D A (oe_ws cA ad hp) ∧ va_S A s.heap H locs ∧ ad.length = hp.1.length ∧ oe_hv hp ∧ ∃ e, ad = ad0 ++ e
def oe_GF (j : Nat) (z : Nat → Int → Nat) (n : Nat) (ad : List Nat) (ls : Array Slot) (L : List (Option oeV)) (S : List oeV) : Prop :=
  lv_has ls (oe_ml j) (oe_lv ad z L) ∧ L.length = oe_ml j ∧ (∀ v, some v ∈ L → oe_vv n v ∧ oe_c1 v) ∧ ∀ v ∈ S, oe_vv n v
def oe_X (p : Program) (l : Launch) (e : Env) (R : Room) (s : State) (m : MethodId) (args : Array Value) (below : List Frame) (meth : Method) (c : Code) (Qp : State → Prop) (j : Nat) (D : va_G) (cA : Nat → ClassId) (z : Nat → Int → Nat) (A : Nat → Prop) (ad0 : List Nat) (lim : Nat × Nat) : oeX := fun pc L S hp k n =>
  k ≤ lim.1 → n ≤ lim.2 → ∀ (ad : List Nat) (H : Heap) (ls : Array Slot) (locs : List Loc), oe_GH D cA A s ad0 hp ad H locs → oe_GF j z hp.1.length ad ls L S →
    W p l e R s m args below meth c H locs k n Qp (F0 m pc ls (S.map (oe_val ad z)))
def oe_Fx (p : Program) (R : Room) (s : State) (m : MethodId) (args : Array Value) (meth : Method) (c : Code) (j d : Nat) (D : va_G) (cA : Nat → ClassId) (A : Nat → Prop) (lim : Nat × Nat) : Prop :=
  p.tables.exec = Jvm.exec ∧ c.code = oe_by j ∧ c.maxLocals = oe_ml j ∧ s.vm.findClass (oe_ow j) = some m.cls ∧ (∀ w ∈ oe_W, w.before args s = true) ∧ va_K D oe_cl (oe_tys cA) s ∧ (oe_ini j = true → meth.name = "<init>") ∧
  (∀ q, s.heap.size ≤ q → A q) ∧ R.cells = lim.1 ∧ R.slots = lim.2 ∧ d + 2 ≤ R.frames ∧ 64 * (d + 2) ≤ R.locals ∧ oe_N s
theorem oe_vv_nil {n : Nat} : ∀ v ∈ ([] : List oeV), oe_vv n v := fun _ h => by cases h
theorem oe_vv_cons {n : Nat} {v : oeV} {S : List oeV} (h : oe_vv n v) (g : ∀ v ∈ S, oe_vv n v) : ∀ w ∈ v :: S, oe_vv n w := by
  intro w hw
  rcases List.mem_cons.mp hw with rfl | q
  · exact h
  · exact g w q
theorem oe_vv_up {n n' : Nat} {v : oeV} (h : oe_vv n v) (hn : n ≤ n') : oe_vv n' v := by
  rcases v with x | a | ⟨t, x⟩
  · exact h
  · exact Nat.lt_of_lt_of_le h hn
  · match t, h with
    | 0, h => exact h
    | t + 1, h => exact trivial
theorem oe_GF.set {j : Nat} {z : Nat → Int → Nat} {n : Nat} {ad : List Nat} {ls ls' : Array Slot} {L : List (Option oeV)} {S S' : List oeV} {i : Nat} {v : oeV} (h : oe_GF j z n ad ls L S) (hv : oe_vv n v) (hc : oe_c1 v) (hS : ∀ v ∈ S', oe_vv n v)
    (hl : lv_has ls' (oe_ml j) ((i, oe_val ad z v) :: (oe_lv ad z L).filter (fun q => !(q.1 == i) && !(q.1 + 1 == i && q.2.category == 2)))) : oe_GF j z n ad ls' (L.set i (some v)) S' := by
  refine ⟨oe_lv_set (fun w hw => (h.2.2.1 w hw).2) hl, by rw [List.length_set]; exact h.2.1, fun w hw => ?_, hS⟩
  rcases List.mem_or_eq_of_mem_set hw with q | q
  · exact h.2.2.1 w q
  · cases q; exact ⟨hv, hc⟩
theorem oe_GH.num {D : va_G} {cA : Nat → ClassId} {A : Nat → Prop} {s : State} {ad0 : List Nat} {hp : oeH} {ad : List Nat} {H H1 : Heap} {locs locs1 : List Loc} {a i : Nat} {v : Int} {q : Nat × Nat} (h : oe_GH D cA A s ad0 hp ad H locs) (hq : hp.1[a]? = some q) (hv : oe_rg v)
    (hP : va_P D oe_cl ((oe_ws cA ad hp).set a (ad.getD a 0, oe_cell cA ad q (hp.2.1 a) (va_up (hp.2.2 a) i v))) H1) (hD : va_D A ((oe_ws cA ad hp).set a (ad.getD a 0, oe_cell cA ad q (hp.2.1 a) (va_up (hp.2.2 a) i v)))) (hS : va_S A s.heap H1 locs1) :
    oe_GH D cA A s ad0 (hp.1, hp.2.1, oe_up hp.2.2 a i v) ad H1 locs1 := by
  have e : oe_ws cA ad (hp.1, hp.2.1, oe_up hp.2.2 a i v) = (oe_ws cA ad hp).set a (ad.getD a 0, oe_cell cA ad q (hp.2.1 a) (va_up (hp.2.2 a) i v)) := by
    have e0 := oe_ws_set (cA := cA) (ad := ad) (g := hp.2.1) (h := oe_up hp.2.2 a i v) hq (fun b _ => rfl) (fun b hb => by unfold oe_up va_up; rw [if_neg hb])
    rw [e0]
    have e1 : oe_up hp.2.2 a i v a = va_up (hp.2.2 a) i v := by unfold oe_up; show (if a = a then _ else _) = _; rw [if_pos rfl]
    rw [e1]
  exact ⟨by rw [e]; exact hP, by rw [e]; exact hD, hS, h.2.2.2.1, oe_hv_num h.2.2.2.2.1 hv, h.2.2.2.2.2⟩
theorem oe_GH.ref {D : va_G} {cA : Nat → ClassId} {A : Nat → Prop} {s : State} {ad0 : List Nat} {hp : oeH} {ad : List Nat} {H H1 : Heap} {locs locs1 : List Loc} {a i r : Nat} {q : Nat × Nat} (h : oe_GH D cA A s ad0 hp ad H locs) (hq : hp.1[a]? = some q) (hr : r < hp.1.length)
    (hP : va_P D oe_cl ((oe_ws cA ad hp).set a (ad.getD a 0, oe_cell cA ad q (va_up (hp.2.1 a) i (some r)) (hp.2.2 a))) H1) (hD : va_D A ((oe_ws cA ad hp).set a (ad.getD a 0, oe_cell cA ad q (va_up (hp.2.1 a) i (some r)) (hp.2.2 a)))) (hS : va_S A s.heap H1 locs1) :
    oe_GH D cA A s ad0 (hp.1, oe_up hp.2.1 a i (some r), hp.2.2) ad H1 locs1 := by
  have e : oe_ws cA ad (hp.1, oe_up hp.2.1 a i (some r), hp.2.2) = (oe_ws cA ad hp).set a (ad.getD a 0, oe_cell cA ad q (va_up (hp.2.1 a) i (some r)) (hp.2.2 a)) := by
    have e0 := oe_ws_set (cA := cA) (ad := ad) (g := oe_up hp.2.1 a i (some r)) (h := hp.2.2) hq (fun b hb => by unfold oe_up va_up; rw [if_neg hb]) (fun b _ => rfl)
    rw [e0]
    have e1 : oe_up hp.2.1 a i (some r) a = va_up (hp.2.1 a) i (some r) := by unfold oe_up; show (if a = a then _ else _) = _; rw [if_pos rfl]
    rw [e1]
  exact ⟨by rw [e]; exact hP, by rw [e]; exact hD, hS, h.2.2.2.1, oe_hv_ref h.2.2.2.2.1 hr, h.2.2.2.2.2⟩
theorem oe_GH.cpy {D : va_G} {cA : Nat → ClassId} {A : Nat → Prop} {s : State} {ad0 : List Nat} {hp : oeH} {ad : List Nat} {H H1 : Heap} {locs locs1 : List Loc} {a b sp dp n : Nat} {q : Nat × Nat} (h : oe_GH D cA A s ad0 hp ad H locs) (hq : hp.1[b]? = some q)
    (hP : va_P D oe_cl ((oe_ws cA ad hp).set b (ad.getD b 0, oe_cell cA ad q (hp.2.1 b) (va_cpy (hp.2.2 a) (hp.2.2 b) sp dp n))) H1) (hD : va_D A ((oe_ws cA ad hp).set b (ad.getD b 0, oe_cell cA ad q (hp.2.1 b) (va_cpy (hp.2.2 a) (hp.2.2 b) sp dp n)))) (hS : va_S A s.heap H1 locs1) :
    oe_GH D cA A s ad0 (hp.1, hp.2.1, oe_cpy hp.2.2 a sp b dp n) ad H1 locs1 := by
  have e : oe_ws cA ad (hp.1, hp.2.1, oe_cpy hp.2.2 a sp b dp n) = (oe_ws cA ad hp).set b (ad.getD b 0, oe_cell cA ad q (hp.2.1 b) (va_cpy (hp.2.2 a) (hp.2.2 b) sp dp n)) := by
    have e0 := oe_ws_set (cA := cA) (ad := ad) (g := hp.2.1) (h := oe_cpy hp.2.2 a sp b dp n) hq (fun b _ => rfl) (fun c hc => by unfold oe_cpy va_up; rw [if_neg hc])
    rw [e0]
    have e1 : oe_cpy hp.2.2 a sp b dp n b = va_cpy (hp.2.2 a) (hp.2.2 b) sp dp n := by unfold oe_cpy; show (if b = b then _ else _) = _; rw [if_pos rfl]
    rw [e1]
  exact ⟨by rw [e]; exact hP, by rw [e]; exact hD, hS, h.2.2.2.1, oe_hv_cpy h.2.2.2.2.1, h.2.2.2.2.2⟩
theorem oe_GH.new {D : va_G} {cA : Nat → ClassId} {A : Nat → Prop} {s : State} {ad0 : List Nat} {hp : oeH} {ad : List Nat} {H H1 : Heap} {locs locs1 : List Loc} {q : Nat} {t : Nat × Nat} (h : oe_GH D cA A s ad0 hp ad H locs) (ht : ∀ c, t.1 = c + 5 → t.2 = oe_nf c) (ht2 : t.2 < 2147483648)
    (hP : va_P D oe_cl (oe_ws cA ad hp ++ [(q, oe_cell cA (ad ++ [q]) t (fun _ => none) (fun _ => 0))]) H1) (hD : va_D A (oe_ws cA ad hp ++ [(q, oe_cell cA (ad ++ [q]) t (fun _ => none) (fun _ => 0))])) (hS : va_S A s.heap H1 locs1) :
    oe_GH D cA A s ad0 (oe_new hp t) (ad ++ [q]) H1 locs1 := by
  have e := oe_ws_new (cA := cA) (q := q) (t := t) h.2.2.2.2.1 h.2.2.2.1
  obtain ⟨e9, h9⟩ := h.2.2.2.2.2
  refine ⟨by rw [e]; exact hP, by rw [e]; exact hD, hS, ?_, oe_hv_new h.2.2.2.2.1 ht ht2, ⟨e9 ++ [q], by rw [h9, List.append_assoc]⟩⟩
  have := h.2.2.2.1
  simp [oe_new, this]
theorem oe_GF.new {j : Nat} {z : Nat → Int → Nat} {hp : oeH} {ad : List Nat} {ls : Array Slot} {L : List (Option oeV)} {S S' : List oeV} {t : Nat × Nat} {q : Nat} (h : oe_GF j z hp.1.length ad ls L S) (hl : ad.length = hp.1.length) (hS : ∀ v ∈ S', oe_vv hp.1.length v) :
    oe_GF j z (oe_new hp t).1.length (ad ++ [q]) ls L (.inr (.inl hp.1.length) :: S') := by
  have hlen : (oe_new hp t).1.length = hp.1.length + 1 := by simp [oe_new]
  rw [hlen]
  refine ⟨?_, h.2.1, fun v hv => ⟨oe_vv_up (h.2.2.1 v hv).1 (by omega), (h.2.2.1 v hv).2⟩, oe_vv_cons (Nat.lt_succ_self _) (fun v hv => oe_vv_up (hS v hv) (by omega))⟩
  rw [oe_lv_app (fun v hv => by rw [hl]; exact (h.2.2.1 v hv).1)]
  exact h.1
theorem oe_map_app {n : Nat} {ad e : List Nat} {z : Nat → Int → Nat} {S : List oeV} (hl : ad.length = n) (h : ∀ v ∈ S, oe_vv n v) : S.map (oe_val (ad ++ e) z) = S.map (oe_val ad z) := by
  apply List.map_congr_left
  intro v hv
  exact oe_val_app (by rw [hl]; exact h v hv)
-- contracts
def oe_B (D : va_G) (cA : Nat → ClassId) (sz : Nat) (ad : List Nat) (hp : oeH) (U : State) : Prop := U.heap.size = sz ∧ va_P D oe_cl (oe_ws cA ad hp) U.heap ∧ va_K D oe_cl (oe_tys cA) U ∧ va_D (fun _ => True) (oe_ws cA ad hp) ∧ oe_N U
def oe_Qc (D : va_G) (cA : Nat → ClassId) (z : Nat → Int → Nat) (ad : List Nat) (Q : oeQ) (A : Nat → Prop) : Array Value → State → Outcome → State → Prop := fun _ st oc t =>
  (∃ (r : Option oeV) (hp' : oeH) (ad' : List Nat), oc = .returned (r.map (oe_val ad' z)) ∧ Q r hp' ∧ (∃ e, ad' = ad ++ e) ∧ ad'.length = hp'.1.length ∧ oe_hv hp' ∧ (∀ v, r = some v → oe_vv hp'.1.length v) ∧ va_P D oe_cl (oe_ws cA ad' hp') t.heap ∧ va_D A (oe_ws cA ad' hp')) ∧ va_F A st t
def oe_rm (d j : Nat) : Room := { frames := d + 1, cells := (oe_cost j).1, slots := (oe_cost j).2, locals := 64 * (d + 1) }
def oe_Met (l : Launch) (D : va_G) (cA : Nat → ClassId) (z : Nat → Int → Nat) (d j : Nat) (as : List oeV) (hp : oeH) (Q : oeQ) : Prop :=
  ∀ (ad : List Nat) (sz : Nat), ad.length = hp.1.length → oe_hv hp → (∀ v ∈ as, oe_vv hp.1.length v) →
    Met l (oe_y j) (oe_wj j) (oe_rm d j) (va_Pc (as.map (oe_val ad z)) (oe_B D cA sz ad hp)) (oe_Qc D cA z ad Q (va_A (oe_ws cA ad hp) sz)) (oe_cost j).1 (oe_cost j).2 (va_A (oe_ws cA ad hp) sz)
theorem oe_N.warm {s U : State} (hW : s.WarmedH U.vm) (h : oe_N s) : oe_N U := ⟨fun q hq => va_Nw.warmM hW (h.1 q hq), va_AO.moved hW.alike h.2⟩
theorem oe_N.same {s U : State} (hW : s.vm = U.vm) (h : oe_N s) : oe_N U := ⟨fun q hq => va_Nw.same rfl hW (h.1 q hq), va_AO.moved (by rw [hW]; exact Vm.Alike.refl _) h.2⟩
theorem oe_AA {D : va_G} {cA : Nat → ClassId} {A : Nat → Prop} {s : State} {ad0 : List Nat} {hp : oeH} {ad : List Nat} {H : Heap} {locs : List Loc} (h : oe_GH D cA A s ad0 hp ad H locs) (hA : ∀ q, s.heap.size ≤ q → A q) : ∀ q, va_A (oe_ws cA ad hp) H.size q → A q := by
  intro q hq
  rcases hq with ⟨k, e, hk⟩ | hq
  · exact h.2.1.2 k (q, e) hk
  · exact hA q (Nat.le_trans h.2.2.1.1 hq)
/-- behind a call -/
theorem oe_after {p : Program} {l : Launch} {e : Env} {R : Room} {s : State} {m : MethodId} {args : Array Value} {below : List Frame} {meth : Method} {c : Code} {Qp : State → Prop} {j : Nat} {D : va_G} {cA : Nat → ClassId} {z : Nat → Int → Nat} {A : Nat → Prop} {ad0 : List Nat} {lim : Nat × Nat}
    {hp : oeH} {ad : List Nat} {H : Heap} {locs : List Loc} {ls : Array Slot} {L : List (Option oeV)} {S T : List oeV} {pc k n mc ms : Nat} {st0 : List Value} {a : Array Value} {Q : oeQ}
    (hr : va_Run p l e R s m args below meth c H locs k n mc ms (F0 m pc ls st0) (T.map (oe_val ad z)) (oe_Qc D cA z ad Q (va_A (oe_ws cA ad hp) H.size) a) (va_A (oe_ws cA ad hp) H.size))
    (hG : oe_GH D cA A s ad0 hp ad H locs) (hF : oe_GF j z hp.1.length ad ls L S) (hT : ∀ v ∈ T, oe_vv hp.1.length v) (hA : ∀ q, s.heap.size ≤ q → A q) (hk : k + mc ≤ lim.1) (hn : n + ms ≤ lim.2)
    (kk : ∀ r hp', Q r hp' → oe_X p l e R s m args below meth c Qp j D cA z A ad0 lim (pc + 3) L (r.toList ++ T) hp' (k + mc) (n + ms)) :
    W p l e R s m args below meth c H locs k n Qp (F0 m pc ls st0) := by
  have hAA := oe_AA hG hA
  intro U hU X
  obtain ⟨v, st₀, t, T', Lc, h0, X', hL, e1, e2, ⟨⟨r, hp', ad', hv, hQ, ⟨ex, rfl⟩, hlen, hhv, hvr, hP', hD'⟩, hz, hkp⟩, st⟩ := hr U hU X
  cases hv
  rw [h0] at hz hkp
  obtain ⟨e9, h9⟩ := hG.2.2.2.2.2
  have hlen0 : ad.length ≤ hp'.1.length := by rw [← hlen, List.length_append]; omega
  have hl1 : hp.1.length ≤ hp'.1.length := by rw [← hG.2.2.2.1]; exact hlen0
  have g1 : oe_GH D cA A s ad0 hp' (ad ++ ex) T'.heap (locs ++ Lc) := by
    refine ⟨by rw [e1]; exact hP', hD'.weaken (fun k q _ => hAA _), ?_, hlen, hhv, ⟨e9 ++ ex, by rw [h9, List.append_assoc]⟩⟩
    refine ⟨Nat.le_trans hG.2.2.1.1 (by rw [e1]; exact hz), fun q h1 h2 => ?_, fun q hq => ?_⟩
    · rw [e1, hkp q (Nat.lt_of_lt_of_le h1 hG.2.2.1.1) (fun w => h2 (hAA q w))]
      exact hG.2.2.1.2.1 q h1 h2
    · rcases List.mem_append.mp hq with h | h
      · exact hG.2.2.1.2.2 q h
      · exact hAA _ (hL q h)
  have g2 : oe_GF j z hp'.1.length (ad ++ ex) ls L (r.toList ++ T) := by
    refine ⟨?_, hF.2.1, fun v hv => ⟨oe_vv_up (hF.2.2.1 v hv).1 hl1, (hF.2.2.1 v hv).2⟩, fun v hv => ?_⟩
    · rw [oe_lv_app (fun v hv => by rw [hG.2.2.2.1]; exact (hF.2.2.1 v hv).1)]
      exact hF.1
    · rcases List.mem_append.mp hv with h | h
      · exact hvr v (by simpa using h)
      · exact oe_vv_up (hT v h) hl1
  obtain ⟨t2, a1, b1⟩ := kk r hp' hQ hk hn (ad ++ ex) T'.heap ls (locs ++ Lc) g1 g2 T' rfl X'
  refine ⟨t2, st t2 ?_, b1⟩
  have e3 : (r.map (oe_val (ad ++ ex) z)).toList ++ T.map (oe_val ad z) = (r.toList ++ T).map (oe_val (ad ++ ex) z) := by
    rw [List.map_append, oe_map_app hG.2.2.2.1 hT]
    cases r <;> rfl
  show Steps p.tables e below (T'.setTop { F0 m pc ls st0 with pc := pc + 3, stack := (r.map (oe_val (ad ++ ex) z)).toList ++ T.map (oe_val ad z) }) t2
  rw [e3]
  exact a1
theorem oe_pre {s : State} {H : Heap} {D : va_G} {cA : Nat → ClassId} {A : Nat → Prop} {ad0 : List Nat} {hp : oeH} {ad : List Nat} {locs : List Loc} {As : List Value} (hG : oe_GH D cA A s ad0 hp ad H locs) (hK : va_K D oe_cl (oe_tys cA) s) (hN : oe_N s) :
    PreS s H (va_Pc As (oe_B D cA H.size ad hp)) As := by
  refine ⟨fun a U g mk q => ?_, fun U hU hW => ?_⟩
  · obtain ⟨q0, q1, qP, qK, qD, qN⟩ := q
    exact ⟨q0, q1, qP, va_K.moved (u := U) (U := U.calling g mk a) (Vm.Alike.refl U.vm) qK, qD, oe_N.same rfl qN⟩
  · exact ⟨rfl, by rw [hU], by rw [hU]; exact hG.1, va_K.moved hW.alike hK, hG.2.1.weaken (fun _ _ _ _ => trivial), oe_N.warm hW hN⟩
-- arrays and objects that change
theorem oe_upd {h : Nat → Int} {k : Nat} {v : Int} : upd (fun j => Int32.ofInt (h j)) k (Int32.ofInt v) = fun j => Int32.ofInt (va_up h k v j) := by
  funext j
  unfold upd va_up
  split <;> rfl
theorem oe_updL {h : Nat → Int} {k : Nat} {v : Int} : vp_updL (fun j => Int64.ofInt (h j)) k (Int64.ofInt v) = fun j => Int64.ofInt (va_up h k v j) := by
  funext j
  unfold vp_updL va_up
  split <;> rfl
theorem oe_updR {ad : List Nat} {g : Nat → Option Nat} {k v : Nat} : va_up (fun j => oe_rf ad (g j)) k (some (ad.getD v 0)) = fun j => oe_rf ad (va_up g k (some v) j) := by
  funext j
  unfold va_up
  split <;> rfl
theorem oe_narc {v : Int} (h0 : 0 ≤ v) (h1 : v < 65536) : vp_nar .char (Int32.ofInt v) = Int32.ofInt v := by
  have hr : oe_rg v := ⟨by omega, by omega⟩
  rw [vp_nar_char]
  exact lg_i2c_small (by rw [oe_toInt hr]; exact h0) (by rw [oe_toInt hr]; exact h1)
theorem oe_narb {v : Int} (h : v = 0 ∨ v = 1) : vp_nar .boolean (Int32.ofInt v) = Int32.ofInt v := by
  rcases h with rfl | rfl <;> decide
theorem oe_fs_num {ad : List Nat} {g : Nat → Option Nat} {h : Nat → Int} {t : Nat → Nat} {n k : Nat} {v : Int} (ht : t k ≠ 1) :
    ((List.range n).map (fun i => oe_fv ad g h (t i) i)).set k (.int (Int32.ofInt v)) = (List.range n).map (fun i => oe_fv ad g (va_up h k v) (t i) i) := by
  apply List.ext_getElem?
  intro i
  rw [List.getElem?_set]
  by_cases hi : i < n
  · by_cases e : k = i
    · subst e
      rw [if_pos rfl, if_pos (by simpa using hi), List.getElem?_map, List.getElem?_range hi]
      simp [oe_fv, ht, va_up]
    · rw [if_neg e, List.getElem?_map, List.getElem?_map, List.getElem?_range hi]
      simp only [Option.map_some, oe_fv, va_up]
      rw [if_neg (show ¬ i = k from fun q => e q.symm)]
  · have e1 : ∀ f : Nat → Value, ((List.range n).map f)[i]? = none := fun f => List.getElem?_eq_none (by simp; omega)
    rw [e1, e1]
    by_cases e : k = i
    · subst e
      rw [if_pos rfl, if_neg (by simp; omega)]
    · rw [if_neg e]
theorem oe_fs_ref {ad : List Nat} {g : Nat → Option Nat} {h : Nat → Int} {t : Nat → Nat} {n k r : Nat} (ht : t k = 1) :
    ((List.range n).map (fun i => oe_fv ad g h (t i) i)).set k (.ref (ad.getD r 0)) = (List.range n).map (fun i => oe_fv ad (va_up g k (some r)) h (t i) i) := by
  apply List.ext_getElem?
  intro i
  rw [List.getElem?_set]
  by_cases hi : i < n
  · by_cases e : k = i
    · subst e
      rw [if_pos rfl, if_pos (by simpa using hi), List.getElem?_map, List.getElem?_range hi]
      simp [oe_fv, ht, va_up, oe_rf, va_rf]
    · rw [if_neg e, List.getElem?_map, List.getElem?_map, List.getElem?_range hi]
      simp only [Option.map_some, oe_fv, va_up]
      rw [if_neg (show ¬ i = k from fun q => e q.symm)]
  · have e1 : ∀ f : Nat → Value, ((List.range n).map f)[i]? = none := fun f => List.getElem?_eq_none (by simp; omega)
    rw [e1, e1]
    by_cases e : k = i
    · subst e
      rw [if_pos rfl, if_neg (by simp; omega)]
    · rw [if_neg e]
theorem oe_cpy_i {f g : Nat → Int} {sp dp n : Nat} : va_cpy (fun j => Int32.ofInt (f j)) (fun j => Int32.ofInt (g j)) sp dp n = fun j => Int32.ofInt (va_cpy f g sp dp n j) := by
  funext j
  unfold va_cpy
  split <;> rfl
theorem oe_cat_le {ad : List Nat} {z : Nat → Int → Nat} (v : oeV) : (oe_val ad z v).category ≤ 2 := by
  rcases lv_cat (oe_val ad z v) with h | h <;> omega
theorem oe_cat_sum {ad : List Nat} {z : Nat → Int → Nat} : ∀ T : List oeV, ((T.map (oe_val ad z)).map fun v => v.category).sum ≤ 2 * T.length
  | [] => Nat.le_refl _
  | v :: T => by
    have h1 := oe_cat_le (ad := ad) (z := z) v
    have h2 := oe_cat_sum (ad := ad) (z := z) T
    simp only [List.map_cons, List.sum_cons, List.length_cons]
    omega
theorem oe_split {S T : List oeV} {b : oeV} {n : Nat} (h : S.drop n = b :: T) : S = S.take n ++ b :: T ∧ (S.take (n + 1)).reverse = b :: (S.take n).reverse := by
  have h1 : S = S.take n ++ b :: T := by rw [← h, List.take_append_drop]
  refine ⟨h1, ?_⟩
  have hn : n < S.length := by
    rcases Nat.lt_or_ge n S.length with q | q
    · exact q
    · rw [List.drop_eq_nil_of_le q] at h; cases h
  have hb : S[n]? = some b := by
    have e : (S.drop n)[0]? = some b := by rw [h]; rfl
    rw [List.getElem?_drop] at e
    exact e
  rw [List.take_add_one, hb]
  simp
theorem oe_lsw_m : ∀ (ps : List (Int × Int)) (dd x : Int) (pc : Nat), Op.lookupswitch.offset (ps.map (fun q => (q.1, q.2 - pc))) (dd - pc) x = Op.lookupswitch.offset ps dd x - pc
  | [], dd, x, pc => rfl
  | q :: ps, dd, x, pc => by
    have ih := oe_lsw_m ps dd x pc
    simp only [List.map_cons, Op.lookupswitch.offset] at ih ⊢
    split <;> rename_i e
    · simp [e]
    · simp [e, ih]
theorem oe_lsw_0 {dd x : Int} : ∀ {ps : List (Int × Int)}, 0 ≤ dd → (∀ q ∈ ps, 0 ≤ q.2) → 0 ≤ Op.lookupswitch.offset ps dd x
  | [], h, _ => h
  | q :: ps, h, g => by
    have ih := oe_lsw_0 (x := x) (ps := ps) h (fun q hq => g q (List.mem_cons_of_mem _ hq))
    have h1 := g q List.mem_cons_self
    simp only [Op.lookupswitch.offset] at ih ⊢
    split
    · exact h1
    · exact ih
theorem oe_tk_all : ∀ r, r < 8 → ∀ i, i < oe_nf r → oe_tk (oe_fk r i) (oe_ty r i) = true := by decide +kernel
theorem oe_nf_all : ∀ r, r < 8 → (oe_cl[r]?).map (fun q => q.2.2) = some (oe_nf r) := by decide +kernel
theorem oe_dflt {ad : List Nat} (r : Nat) (q : vw_C) (h : oe_cl[r]? = some q) (i : Nat) (hi : i < q.2.2) : defaultValue (oe_ty r i) = oe_fv ad (fun _ => none) (fun _ => 0) (oe_fk r i) i := by
  have hr : r < 8 := (List.getElem?_eq_some_iff.mp h).1
  have e := oe_nf_all r hr
  rw [h] at e
  have e2 : q.2.2 = oe_nf r := Option.some.inj e
  have k := oe_tk_all r hr i (by omega)
  unfold oe_fv
  generalize oe_fk r i = t at k
  match t, k with
  | 0, k => rw [oe_tk_0 k]; rfl
  | 1, k =>
    rcases oe_tk_1 k with ⟨n, e⟩ | ⟨n, e⟩
    · rw [e]; rfl
    · rw [e]; rfl
  | 2, k => rw [oe_tk_2 k]; rfl
  | t + 3, k => cases (oe_ty r i) <;> cases k
end
section
/-! Instruction by instruction. -/
def oe_rti (rt : Nat) (r : Option oeV) (i : Jvm.ClassFile.Instr) : Prop := match r with
  | none => i = .return_ ∧ rt = 0
  | some (.inl x) => i = .ireturn ∧ (rt = 1 ∨ (rt = 2 ∧ (x = 0 ∨ x = 1)) ∨ (rt = 3 ∧ 0 ≤ x ∧ x < 65536))
  | some (.inr (.inl _)) => i = .areturn ∧ rt = 4
  | _ => False
set_option maxHeartbeats 8000000 in
theorem oe_main {p : Program} {l : Launch} {e : Env} {R : Room} {s : State} {m : MethodId} {args : Array Value} {below : List Frame} {meth : Method} {c : Code} {Qp : State → Prop} {j d : Nat} {D : va_G} {cA : Nat → ClassId} {z : Nat → Int → Nat} {A : Nat → Prop} {ad0 : List Nat} {lim : Nat × Nat}
    {C : oeC} {sc : Option (Nat × (Nat → Int))} {Q : oeQ} (hFx : oe_Fx p R s m args meth c j d D cA A lim)
    (hsc : ∀ q, sc = some q → (∀ i, oe_rg (q.2 i)) ∧ q.1 < 2147483648 ∧ ∀ x, z 3 x < s.heap.size ∧ ¬ A (z 3 x) ∧ va_X (z 3 x) q.1 (fun i => Int32.ofInt (q.2 i)) s s.heap)
    (hret : ∀ pc i ls ad H locs k n hp r, oe_GH D cA A s ad0 hp ad H locs → Q r hp → (∀ v, r = some v → oe_vv hp.1.length v) → k ≤ lim.1 → n ≤ lim.2 → decode (oe_by j) pc = .ok (i, 1) → oe_rti (oe_rt j) r i → W p l e R s m args below meth c H locs k n Qp (F0 m pc ls (r.map (oe_val ad z)).toList))
    (hcall : ∀ j' as hp Q', C j' as hp Q' → oe_Met l D cA z d j' as hp Q')
    (pc : Nat) (L : List (Option oeV)) (S : List oeV) (hp : oeH) (k n : Nat) (h : oe_st lim j C sc Q (oe_X p l e R s m args below meth c Qp j D cA z A ad0 lim) pc L S hp k n) : oe_X p l e R s m args below meth c Qp j D cA z A ad0 lim pc L S hp k n := by
  obtain ⟨hx, hb, hml, hown, hts, hK, hin, hA, hRc, hRs, hRf, hRl, hN⟩ := hFx
  intro hk hn ad H ls locs hG hF
  have hP := hG.1
  have hD := hG.2.1
  have hS := hG.2.2.1
  have hlen := hG.2.2.2.1
  have hhv := hG.2.2.2.2.1
  have hSv := hF.2.2.2
  have go : ∀ {N : Nat} {S' : List oeV}, oe_X p l e R s m args below meth c Qp j D cA z A ad0 lim N L S' hp k n → (∀ v ∈ S', oe_vv hp.1.length v) → W p l e R s m args below meth c H locs k n Qp (F0 m N ls (S'.map (oe_val ad z))) :=
    fun h1 h2 => h1 hk hn ad H ls locs hG ⟨hF.1, hF.2.1, hF.2.2.1, h2⟩
  unfold oe_st at h
  split at h
  case h_2 => exact h.elim
  rename_i i len hfi
  obtain ⟨hd, hs⟩ := oe_dec j pc i len hfi
  have hw := oe_lwm j pc i len hfi
  cases i
  case iconst v =>
    simp only [oe_sta, Bool.and_eq_true, decide_eq_true_eq] at hs
    obtain ⟨rfl, h1, h2⟩ := hs
    exact lv_iconst hx hb hd rfl (go h (oe_vv_cons (show oe_rg v from ⟨by omega, by omega⟩) hSv))
  case bipush v =>
    simp only [oe_sta, Bool.and_eq_true, decide_eq_true_eq] at hs
    obtain ⟨rfl, h1, h2⟩ := hs
    have hr : oe_rg v := ⟨by omega, by omega⟩
    refine lv_bipush hx hb hd (v := Int32.ofInt v) ?_ (go h (oe_vv_cons hr hSv))
    rw [← Int32.toInt_inj, Int8.toInt_toInt32, Int8.toInt_ofInt_of_le (by omega) (by omega), oe_toInt hr]
  case sipush v =>
    simp only [oe_sta, Bool.and_eq_true, decide_eq_true_eq] at hs
    obtain ⟨rfl, h1, h2⟩ := hs
    have hr : oe_rg v := ⟨by omega, by omega⟩
    refine lv_sipush hx hb hd (v := Int32.ofInt v) ?_ (go h (oe_vv_cons hr hSv))
    rw [← Int32.toInt_inj, Int16.toInt_toInt32, Int16.toInt_ofInt_of_le (by omega) (by omega), oe_toInt hr]
  case iload i =>
    simp only [oe_sta, Bool.and_eq_true, decide_eq_true_eq] at hs
    subst hs
    obtain ⟨v, hv, h9⟩ := oe_lo_ex h
    replace h := h9
    obtain ⟨x, rfl, h9⟩ := oe_il_ex h
    replace h := h9
    exact lv_iload hx hb hd (oe_lv_at hF.1 hv) (go h (oe_vv_cons (hF.2.2.1 _ (List.mem_of_getElem? hv)).1 hSv))
  case iload_n i =>
    simp only [oe_sta, Bool.and_eq_true, decide_eq_true_eq] at hs
    subst hs
    obtain ⟨v, hv, h9⟩ := oe_lo_ex h
    replace h := h9
    obtain ⟨x, rfl, h9⟩ := oe_il_ex h
    replace h := h9
    exact lv_iload_n hx hb hd rfl (oe_lv_at hF.1 hv) (go h (oe_vv_cons (hF.2.2.1 _ (List.mem_of_getElem? hv)).1 hSv))
  case aload i =>
    simp only [oe_sta, Bool.and_eq_true, decide_eq_true_eq] at hs
    subst hs
    obtain ⟨v, hv, h9⟩ := oe_lo_ex h
    replace h := h9
    have hvv := (hF.2.2.1 _ (List.mem_of_getElem? hv)).1
    have hat := oe_lv_at hF.1 hv
    obtain ⟨⟨a, rfl⟩ | ⟨x, rfl⟩, h9⟩ := oe_rl_ex h
    replace h := h9
    · exact lv_aload hx hb hd hat (go h (oe_vv_cons hvv hSv))
    · exact lv_aload hx hb hd hat (go h (oe_vv_cons hvv hSv))
  case aload_n i =>
    simp only [oe_sta, Bool.and_eq_true, decide_eq_true_eq] at hs
    subst hs
    obtain ⟨v, hv, h9⟩ := oe_lo_ex h
    replace h := h9
    have hvv := (hF.2.2.1 _ (List.mem_of_getElem? hv)).1
    have hat := oe_lv_at hF.1 hv
    obtain ⟨⟨a, rfl⟩ | ⟨x, rfl⟩, h9⟩ := oe_rl_ex h
    replace h := h9
    · exact lv_aload_n hx hb hd rfl hat (go h (oe_vv_cons hvv hSv))
    · exact lv_aload_n hx hb hd rfl hat (go h (oe_vv_cons hvv hSv))
  case istore i =>
    simp only [oe_sta, Bool.and_eq_true, decide_eq_true_eq] at hs
    obtain ⟨rfl, hi⟩ := hs
    obtain ⟨x, T, rfl, h9⟩ := oe_i1_ex h
    replace h := h9
    have hT := fun v hv => hSv v (List.mem_cons_of_mem _ hv)
    exact lv_istore hx hb hd hF.1 hi rfl (fun ls' hl => h hk hn ad H ls' locs hG (hF.set (hSv _ List.mem_cons_self) trivial hT hl))
  case istore_n i =>
    simp only [oe_sta, Bool.and_eq_true, decide_eq_true_eq] at hs
    obtain ⟨rfl, hi⟩ := hs
    obtain ⟨x, T, rfl, h9⟩ := oe_i1_ex h
    replace h := h9
    have hT := fun v hv => hSv v (List.mem_cons_of_mem _ hv)
    exact lv_istore_n hx hb hd rfl hF.1 hi rfl (fun ls' hl => h hk hn ad H ls' locs hG (hF.set (hSv _ List.mem_cons_self) trivial hT hl))
  case astore i =>
    simp only [oe_sta, Bool.and_eq_true, decide_eq_true_eq] at hs
    obtain ⟨rfl, hi⟩ := hs
    obtain ⟨x, T, rfl, h9⟩ := oe_r1_ex h
    replace h := h9
    have hT := fun v hv => hSv v (List.mem_cons_of_mem _ hv)
    exact lv_astore hx hb hd hF.1 hi rfl (fun ls' hl => h hk hn ad H ls' locs hG (hF.set (hSv _ List.mem_cons_self) trivial hT hl))
  case astore_n i =>
    simp only [oe_sta, Bool.and_eq_true, decide_eq_true_eq] at hs
    obtain ⟨rfl, hi⟩ := hs
    obtain ⟨x, T, rfl, h9⟩ := oe_r1_ex h
    replace h := h9
    have hT := fun v hv => hSv v (List.mem_cons_of_mem _ hv)
    exact lv_astore_n hx hb hd rfl hF.1 hi rfl (fun ls' hl => h hk hn ad H ls' locs hG (hF.set (hSv _ List.mem_cons_self) trivial hT hl))
  case iinc i v =>
    simp only [oe_sta, Bool.and_eq_true, decide_eq_true_eq] at hs
    obtain ⟨rfl, hi⟩ := hs
    obtain ⟨w, hv, h9⟩ := oe_lo_ex h
    replace h := h9
    obtain ⟨x, rfl, hr, h9⟩ := oe_il_ex h
    replace h := h9
    obtain ⟨q, hq⟩ := List.getElem?_of_mem (oe_lv_mem.mpr ⟨_, hv, rfl⟩ : (i, oe_val ad z (.inl x)) ∈ oe_lv ad z L)
    exact lv_iinc hx hb hd hF.1 hq (Int32.ofInt_add x v).symm hi rfl (fun ls' hl => h hk hn ad H ls' locs hG (hF.set (v := .inl (x + v)) hr trivial hSv hl))
  case iadd =>
    simp only [oe_sta, decide_eq_true_eq] at hs
    subst hs
    obtain ⟨x, y, T, rfl, hr, h9⟩ := oe_i2_ex h
    replace h := h9
    have hT := fun v hv => hSv v (List.mem_cons_of_mem _ (List.mem_cons_of_mem _ hv))
    refine lv_iadd hx hb hd ?_
    rw [← Int32.ofInt_add]
    exact go h (oe_vv_cons hr hT)
  case isub =>
    simp only [oe_sta, decide_eq_true_eq] at hs
    subst hs
    obtain ⟨x, y, T, rfl, hr, h9⟩ := oe_i2_ex h
    replace h := h9
    have hT := fun v hv => hSv v (List.mem_cons_of_mem _ (List.mem_cons_of_mem _ hv))
    refine lv_isub hx hb hd ?_
    rw [← Int32.ofInt_sub]
    exact go h (oe_vv_cons hr hT)
  case imul =>
    simp only [oe_sta, decide_eq_true_eq] at hs
    subst hs
    obtain ⟨x, y, T, rfl, hr, h9⟩ := oe_i2_ex h
    replace h := h9
    have hT := fun v hv => hSv v (List.mem_cons_of_mem _ (List.mem_cons_of_mem _ hv))
    refine lv_imul hx hb hd ?_
    rw [← Int32.ofInt_mul]
    exact go h (oe_vv_cons hr hT)
  case idiv =>
    simp only [oe_sta, decide_eq_true_eq] at hs
    subst hs
    obtain ⟨x, y, T, rfl, h0, g0, h9⟩ := oe_i2_ex h
    replace h := h9
    have hT := fun v hv => hSv v (List.mem_cons_of_mem _ (List.mem_cons_of_mem _ hv))
    have hy : oe_rg y := hSv (.inl y) List.mem_cons_self
    have hx' : oe_rg x := hSv (.inl x) (List.mem_cons_of_mem _ List.mem_cons_self)
    refine lv_idiv hx hb hd (fun q => ?_) ?_
    · rw [oe_zero, oe_eq hy oe_rg0] at q; omega
    · rw [oe_div hx' hy h0 g0]
      exact go h (oe_vv_cons (oe_div_rg hx' h0 g0) hT)
  case irem =>
    simp only [oe_sta, decide_eq_true_eq] at hs
    subst hs
    obtain ⟨x, y, T, rfl, h0, g0, h9⟩ := oe_i2_ex h
    replace h := h9
    have hT := fun v hv => hSv v (List.mem_cons_of_mem _ (List.mem_cons_of_mem _ hv))
    have hy : oe_rg y := hSv (.inl y) List.mem_cons_self
    have hx' : oe_rg x := hSv (.inl x) (List.mem_cons_of_mem _ List.mem_cons_self)
    refine lv_irem hx hb hd (fun q => ?_) ?_
    · rw [oe_zero, oe_eq hy oe_rg0] at q; omega
    · rw [oe_rem hx' hy h0 g0]
      exact go h (oe_vv_cons (oe_rem_rg hx' hy h0 g0) hT)
  case iand =>
    simp only [oe_sta, decide_eq_true_eq] at hs
    subst hs
    obtain ⟨x, y, T, rfl, rfl, h9⟩ := oe_i2_ex h
    replace h := h9
    have hT := fun v hv => hSv v (List.mem_cons_of_mem _ (List.mem_cons_of_mem _ hv))
    refine lv_iand hx hb hd ?_
    rw [oe_and]
    exact go h (oe_vv_cons (show oe_rg (x % 16) from ⟨by omega, by omega⟩) hT)
  case i2c =>
    simp only [oe_sta, decide_eq_true_eq] at hs
    subst hs
    obtain ⟨x, T, rfl, h9⟩ := oe_i1_ex h
    replace h := h9
    have hT := fun v hv => hSv v (List.mem_cons_of_mem _ hv)
    exact lv_i2c hx hb hd (oe_chr x) (go h (oe_vv_cons (show oe_rg (x % 65536) from ⟨by omega, by omega⟩) hT))
  case i2l =>
    simp only [oe_sta, decide_eq_true_eq] at hs
    subst hs
    obtain ⟨x, T, rfl, h9⟩ := oe_i1_ex h
    replace h := h9
    have hT := fun v hv => hSv v (List.mem_cons_of_mem _ hv)
    have hx' : oe_rg x := hSv (.inl x) List.mem_cons_self
    exact lv_i2l hx hb hd (oe_i2l hx') (go h (oe_vv_cons (v := .inr (.inr (0, x))) hx' hT))
  case lcmp =>
    simp only [oe_sta, decide_eq_true_eq] at hs
    subst hs
    obtain ⟨x, y, T, rfl, h9⟩ := oe_l2_ex h
    replace h := h9
    have hT := fun v hv => hSv v (List.mem_cons_of_mem _ (List.mem_cons_of_mem _ hv))
    have hy : oe_rg y := hSv (.inr (.inr (0, y))) List.mem_cons_self
    have hx' : oe_rg x := hSv (.inr (.inr (0, x))) (List.mem_cons_of_mem _ List.mem_cons_self)
    refine W.lcmp hx hb hd ?_
    rw [oe_lcmp hx' hy]
    refine go h (oe_vv_cons (v := .inl _) ?_ hT)
    show oe_rg _
    split
    · exact ⟨by omega, by omega⟩
    · split
      · exact ⟨by omega, by omega⟩
      · exact ⟨by omega, by omega⟩
  case dup =>
    simp only [oe_sta, decide_eq_true_eq] at hs
    subst hs
    match S, h, hSv with
    | v :: T, h, hSv => exact lv_dup hx hb hd (oe_c1_cat h.1) (go h.2 (oe_vv_cons (hSv _ List.mem_cons_self) hSv))
  case dup_x1 =>
    simp only [oe_sta, decide_eq_true_eq] at hs
    subst hs
    match S, h, hSv with
    | v :: w :: T, h, hSv => exact lv_dup_x1 hx hb hd (oe_c1_cat h.1) (oe_c1_cat h.2.1) (go h.2.2 (oe_vv_cons (hSv _ List.mem_cons_self) (oe_vv_cons (hSv _ (List.mem_cons_of_mem _ List.mem_cons_self)) (oe_vv_cons (hSv _ List.mem_cons_self) (fun v hv => hSv v (List.mem_cons_of_mem _ (List.mem_cons_of_mem _ hv)))))))
  case dup2 =>
    simp only [oe_sta, decide_eq_true_eq] at hs
    subst hs
    match S, h, hSv with
    | v :: w :: T, h, hSv => exact lv_dup2_11 hx hb hd (oe_c1_cat h.1) (oe_c1_cat h.2.1) (go h.2.2 (oe_vv_cons (hSv _ List.mem_cons_self) (oe_vv_cons (hSv _ (List.mem_cons_of_mem _ List.mem_cons_self)) hSv)))
  case pop =>
    simp only [oe_sta, decide_eq_true_eq] at hs
    subst hs
    match S, h, hSv with
    | v :: T, h, hSv => exact lv_pop hx hb hd (oe_c1_cat h.1) (go h.2 (fun v hv => hSv v (List.mem_cons_of_mem _ hv)))
  case ifCond cd t =>
    simp only [oe_sta, Bool.and_eq_true, decide_eq_true_eq] at hs
    obtain ⟨rfl, ht⟩ := hs
    obtain ⟨x, T, rfl, h9⟩ := oe_i1_ex h
    replace h := h9
    have hT := fun v hv => hSv v (List.mem_cons_of_mem _ hv)
    have hx' : oe_rg x := hSv (.inl x) List.mem_cons_self
    have htg : (pc : Int) + (t - pc) = (t.toNat : Int) := by omega
    cases cd
    · exact lv_if_eq hx hb hd htg (fun q => go (h.1 ((oe_eq hx' oe_rg0).mp q)) hT) (fun q => go (h.2 (fun w => q ((oe_eq hx' oe_rg0).mpr w))) hT)
    · exact lv_if_ne hx hb hd htg (fun q => go (h.1 (fun w => q ((oe_eq hx' oe_rg0).mpr w))) hT) (fun q => go (h.2 ((oe_eq hx' oe_rg0).mp q)) hT)
    · exact lv_if_lt hx hb hd htg (fun q => go (h.1 ((oe_lt hx' oe_rg0).mp q)) hT) (fun q => go (h.2 (Int.not_lt.mp (fun w => q ((oe_lt hx' oe_rg0).mpr w)))) hT)
    · exact lv_if_ge hx hb hd htg (fun q => go (h.1 ((oe_le oe_rg0 hx').mp q)) hT) (fun q => go (h.2 (Int.not_le.mp (fun w => q ((oe_le oe_rg0 hx').mpr w)))) hT)
    · exact lv_if_gt hx hb hd htg (fun q => go (h.1 ((oe_lt oe_rg0 hx').mp q)) hT) (fun q => go (h.2 (Int.not_lt.mp (fun w => q ((oe_lt oe_rg0 hx').mpr w)))) hT)
    · exact lv_if_le hx hb hd htg (fun q => go (h.1 ((oe_le hx' oe_rg0).mp q)) hT) (fun q => go (h.2 (Int.not_le.mp (fun w => q ((oe_le hx' oe_rg0).mpr w)))) hT)
  case if_icmp cd t =>
    simp only [oe_sta, Bool.and_eq_true, decide_eq_true_eq] at hs
    obtain ⟨rfl, ht⟩ := hs
    obtain ⟨x, y, T, rfl, h9⟩ := oe_i2_ex h
    replace h := h9
    have hT := fun v hv => hSv v (List.mem_cons_of_mem _ (List.mem_cons_of_mem _ hv))
    have hy : oe_rg y := hSv (.inl y) List.mem_cons_self
    have hx' : oe_rg x := hSv (.inl x) (List.mem_cons_of_mem _ List.mem_cons_self)
    have htg : (pc : Int) + (t - pc) = (t.toNat : Int) := by omega
    cases cd
    · exact lv_icmp_eq hx hb hd htg (fun q => go (h.1 ((oe_eq hx' hy).mp q)) hT) (fun q => go (h.2 (fun w => q ((oe_eq hx' hy).mpr w))) hT)
    · exact lv_icmp_ne hx hb hd htg (fun q => go (h.1 (fun w => q ((oe_eq hx' hy).mpr w))) hT) (fun q => go (h.2 ((oe_eq hx' hy).mp q)) hT)
    · exact lv_icmp_lt hx hb hd htg (fun q => go (h.1 ((oe_lt hx' hy).mp q)) hT) (fun q => go (h.2 (Int.not_lt.mp (fun w => q ((oe_lt hx' hy).mpr w)))) hT)
    · exact lv_icmp_ge hx hb hd htg (fun q => go (h.1 ((oe_le hy hx').mp q)) hT) (fun q => go (h.2 (Int.not_le.mp (fun w => q ((oe_le hy hx').mpr w)))) hT)
    · exact lv_icmp_gt hx hb hd htg (fun q => go (h.1 ((oe_lt hy hx').mp q)) hT) (fun q => go (h.2 (Int.not_lt.mp (fun w => q ((oe_lt hy hx').mpr w)))) hT)
    · exact lv_icmp_le hx hb hd htg (fun q => go (h.1 ((oe_le hx' hy).mp q)) hT) (fun q => go (h.2 (Int.not_le.mp (fun w => q ((oe_le hx' hy).mpr w)))) hT)
  case goto t =>
    simp only [oe_sta, Bool.and_eq_true, decide_eq_true_eq] at hs
    obtain ⟨rfl, ht⟩ := hs
    have htg : (pc : Int) + (t - pc) = (t.toNat : Int) := by omega
    exact lv_goto hx hb hd htg (go h hSv)
  case ifnull t =>
    simp only [oe_sta, Bool.and_eq_true, decide_eq_true_eq] at hs
    obtain ⟨rfl, ht⟩ := hs
    have htg : (pc : Int) + (t - pc) = (t.toNat : Int) := by omega
    unfold oe_ins at h
    dsimp only at h
    split at h
    · exact lv_ifnull hx hb hd (go h (fun v hv => hSv v (List.mem_cons_of_mem _ hv)))
    · exact lv_ifnullN hx hb hd htg (go h (fun v hv => hSv v (List.mem_cons_of_mem _ hv)))
    · exact h.elim
  case ifnonnull t =>
    simp only [oe_sta, Bool.and_eq_true, decide_eq_true_eq] at hs
    obtain ⟨rfl, ht⟩ := hs
    have htg : (pc : Int) + (t - pc) = (t.toNat : Int) := by omega
    unfold oe_ins at h
    dsimp only at h
    split at h
    · exact lv_ifnonnull hx hb hd htg (go h (fun v hv => hSv v (List.mem_cons_of_mem _ hv)))
    · exact lv_ifnonnullN hx hb hd (go h (fun v hv => hSv v (List.mem_cons_of_mem _ hv)))
    · exact h.elim
  case aconst_null =>
    simp only [oe_sta, decide_eq_true_eq] at hs
    subst hs
    exact lv_null hx hb hd (go h (oe_vv_cons (v := .inr (.inr (1, 0))) trivial hSv))
  case caload =>
    simp only [oe_sta, decide_eq_true_eq] at hs
    subst hs
    obtain ⟨i, a, T, rfl, h9⟩ := oe_ir_ex h
    replace h := h9
    obtain ⟨u, N', hsh, rfl, h0, h1, h9⟩ := oe_sh_ex h
    replace h := h9
    have hi : oe_rg i := hSv (.inl i) List.mem_cons_self
    have hT := fun v hv => hSv v (List.mem_cons_of_mem _ (List.mem_cons_of_mem _ hv))
    refine va_cald hx hb hK hP a 1 (oe_ws_get hsh) rfl (oe_vpin hi h0 h1) hd ?_
    rw [oe_clamp hi]
    exact go h (oe_vv_cons (v := .inl _) (hhv.2.1 _ _) hT)
  case baload =>
    simp only [oe_sta, decide_eq_true_eq] at hs
    subst hs
    obtain ⟨i, a, T, rfl, h9⟩ := oe_ir_ex h
    replace h := h9
    obtain ⟨u, N', hsh, rfl, h0, h1, h9⟩ := oe_sh_ex h
    replace h := h9
    have hi : oe_rg i := hSv (.inl i) List.mem_cons_self
    have hT := fun v hv => hSv v (List.mem_cons_of_mem _ (List.mem_cons_of_mem _ hv))
    refine va_zald hx hb hK hP a 2 (oe_ws_get hsh) rfl (oe_vpin hi h0 h1) hd ?_
    rw [oe_clamp hi]
    exact go h (oe_vv_cons (v := .inl _) (hhv.2.1 _ _) hT)
  case laload =>
    simp only [oe_sta, decide_eq_true_eq] at hs
    subst hs
    obtain ⟨i, a, T, rfl, h9⟩ := oe_ir_ex h
    replace h := h9
    obtain ⟨u, N', hsh, rfl, h0, h1, h9⟩ := oe_sh_ex h
    replace h := h9
    have hi : oe_rg i := hSv (.inl i) List.mem_cons_self
    have hT := fun v hv => hSv v (List.mem_cons_of_mem _ (List.mem_cons_of_mem _ hv))
    refine va_lald hx hb hK hP a 3 (oe_ws_get hsh) rfl (oe_vpin hi h0 h1) hd ?_
    rw [oe_clamp hi]
    exact go h (oe_vv_cons (v := .inr (.inr (0, _))) (hhv.2.1 _ _) hT)
  case aaload =>
    simp only [oe_sta, decide_eq_true_eq] at hs
    subst hs
    obtain ⟨i, a, T, rfl, h9⟩ := oe_ir_ex h
    replace h := h9
    obtain ⟨u, N', hsh, rfl, h0, h1, h9⟩ := oe_sh_ex h
    replace h := h9
    have hi : oe_rg i := hSv (.inl i) List.mem_cons_self
    have hT := fun v hv => hSv v (List.mem_cons_of_mem _ (List.mem_cons_of_mem _ hv))
    refine va_aldq hx hb hK hP a 4 (oe_ws_get hsh) rfl (oe_vpin hi h0 h1) hd ?_
    rw [oe_clamp hi]
    cases hg : hp.2.1 a i.toNat with
    | none =>
      rw [hg] at h
      exact go h (oe_vv_cons (v := .inr (.inr (1, 0))) trivial hT)
    | some q =>
      rw [hg] at h
      exact go h (oe_vv_cons (v := .inr (.inl q)) (hhv.1 _ _ _ hg) hT)
  case iaload =>
    simp only [oe_sta, decide_eq_true_eq] at hs
    subst hs
    unfold oe_ins at h
    dsimp only at h
    split at h
    · rename_i i x T q
      obtain ⟨hr, hq, hz⟩ := hsc q rfl
      have hi : oe_rg i := hSv (.inl i) List.mem_cons_self
      have hT := fun v hv => hSv v (List.mem_cons_of_mem _ (List.mem_cons_of_mem _ hv))
      refine va_sld hx hb (hz x).2.2 (hz x).1 (hz x).2.1 hS (oe_vpin hi h.1 h.2.1) hd ?_
      rw [oe_clamp hi]
      exact go h.2.2 (oe_vv_cons (v := .inl _) (hr _) hT)
    · obtain ⟨i, a, T, rfl, h9⟩ := oe_ir_ex h
      replace h := h9
      obtain ⟨u, N', hsh, rfl, h0, h1, h9⟩ := oe_sh_ex h
      replace h := h9
      have hi : oe_rg i := hSv (.inl i) List.mem_cons_self
      have hT := fun v hv => hSv v (List.mem_cons_of_mem _ (List.mem_cons_of_mem _ hv))
      refine va_iald hx hb hK hP a 0 (oe_ws_get hsh) rfl (oe_vpin hi h0 h1) hd ?_
      rw [oe_clamp hi]
      exact go h (oe_vv_cons (v := .inl _) (hhv.2.1 _ _) hT)
  case iastore =>
    simp only [oe_sta, decide_eq_true_eq] at hs
    subst hs
    obtain ⟨v, i, a, T, rfl, h9⟩ := oe_iir_ex h
    replace h := h9
    obtain ⟨u, N', hsh, rfl, h0, h1, h9⟩ := oe_sh_ex h
    replace h := h9
    have hv : oe_rg v := hSv (.inl v) List.mem_cons_self
    have hi : oe_rg i := hSv (.inl i) (List.mem_cons_of_mem _ List.mem_cons_self)
    have hT := fun v hv => hSv v (List.mem_cons_of_mem _ (List.mem_cons_of_mem _ (List.mem_cons_of_mem _ hv)))
    refine va_iast hx hb hK hP hD hS a 0 (oe_ws_get hsh) rfl (oe_vpin hi h0 h1) hd (fun H1 locs1 hP1 hD1 hS1 => ?_)
    rw [oe_clamp hi, oe_upd] at hP1 hD1
    exact h hk hn ad H1 ls locs1 (hG.num hsh hv hP1 hD1 hS1) ⟨hF.1, hF.2.1, hF.2.2.1, hT⟩
  case castore =>
    simp only [oe_sta, decide_eq_true_eq] at hs
    subst hs
    obtain ⟨v, i, a, T, rfl, h9⟩ := oe_iir_ex h
    replace h := h9
    obtain ⟨u, N', hsh, rfl, h0, h1, h2, h3, h9⟩ := oe_sh_ex h
    replace h := h9
    have hv : oe_rg v := hSv (.inl v) List.mem_cons_self
    have hi : oe_rg i := hSv (.inl i) (List.mem_cons_of_mem _ List.mem_cons_self)
    have hT := fun v hv => hSv v (List.mem_cons_of_mem _ (List.mem_cons_of_mem _ (List.mem_cons_of_mem _ hv)))
    refine va_cast hx hb hK hP hD hS a 1 (oe_ws_get hsh) rfl (oe_vpin hi h0 h1) hd (fun H1 locs1 hP1 hD1 hS1 => ?_)
    rw [oe_clamp hi, oe_narc h2 h3, oe_upd] at hP1 hD1
    exact h hk hn ad H1 ls locs1 (hG.num hsh hv hP1 hD1 hS1) ⟨hF.1, hF.2.1, hF.2.2.1, hT⟩
  case bastore =>
    simp only [oe_sta, decide_eq_true_eq] at hs
    subst hs
    obtain ⟨v, i, a, T, rfl, h9⟩ := oe_iir_ex h
    replace h := h9
    obtain ⟨u, N', hsh, rfl, h0, h1, h2, h9⟩ := oe_sh_ex h
    replace h := h9
    have hv : oe_rg v := hSv (.inl v) List.mem_cons_self
    have hi : oe_rg i := hSv (.inl i) (List.mem_cons_of_mem _ List.mem_cons_self)
    have hT := fun v hv => hSv v (List.mem_cons_of_mem _ (List.mem_cons_of_mem _ (List.mem_cons_of_mem _ hv)))
    refine va_zast hx hb hK hP hD hS a 2 (oe_ws_get hsh) rfl (oe_vpin hi h0 h1) hd (fun H1 locs1 hP1 hD1 hS1 => ?_)
    rw [oe_clamp hi, oe_narb h2, oe_upd] at hP1 hD1
    exact h hk hn ad H1 ls locs1 (hG.num hsh hv hP1 hD1 hS1) ⟨hF.1, hF.2.1, hF.2.2.1, hT⟩
  case lastore =>
    simp only [oe_sta, decide_eq_true_eq] at hs
    subst hs
    obtain ⟨v, i, a, T, rfl, h9⟩ := oe_lir_ex h
    replace h := h9
    obtain ⟨u, N', hsh, rfl, h0, h1, h9⟩ := oe_sh_ex h
    replace h := h9
    have hv : oe_rg v := hSv (.inr (.inr (0, v))) List.mem_cons_self
    have hi : oe_rg i := hSv (.inl i) (List.mem_cons_of_mem _ List.mem_cons_self)
    have hT := fun v hv => hSv v (List.mem_cons_of_mem _ (List.mem_cons_of_mem _ (List.mem_cons_of_mem _ hv)))
    refine va_last hx hb hK hP hD hS a 3 (oe_ws_get hsh) rfl (oe_vpin hi h0 h1) hd (fun H1 locs1 hP1 hD1 hS1 => ?_)
    rw [oe_clamp hi, oe_updL] at hP1 hD1
    exact h hk hn ad H1 ls locs1 (hG.num hsh hv hP1 hD1 hS1) ⟨hF.1, hF.2.1, hF.2.2.1, hT⟩
  case aastore =>
    simp only [oe_sta, decide_eq_true_eq] at hs
    subst hs
    obtain ⟨v, i, a, T, rfl, hv, h9⟩ := oe_rir_ex h
    replace h := h9
    obtain ⟨u, N', hsh, rfl, h0, h1, h9⟩ := oe_sh_ex h
    replace h := h9
    obtain ⟨u, Nv, hshv, rfl⟩ := oe_sh_ex hv
    have hvl : v < hp.1.length := hSv (.inr (.inl v)) List.mem_cons_self
    have hi : oe_rg i := hSv (.inl i) (List.mem_cons_of_mem _ List.mem_cons_self)
    have hT := fun v hv => hSv v (List.mem_cons_of_mem _ (List.mem_cons_of_mem _ (List.mem_cons_of_mem _ hv)))
    obtain ⟨rq, hrq, hre⟩ := oe_eqc_ok
    refine va_astq (r := rq) hx hb hK hP hD hS a 4 v oe_eqc (oe_ws_get hsh) (by rw [hre]; rfl) (oe_ws_get hshv) hrq (oe_vpin hi h0 h1) hd (fun H1 locs1 hP1 hD1 hS1 => ?_)
    rw [oe_clamp hi, oe_updR] at hP1 hD1
    exact h hk hn ad H1 ls locs1 (hG.ref hsh hvl hP1 hD1 hS1) ⟨hF.1, hF.2.1, hF.2.2.1, hT⟩
  case arraylength =>
    simp only [oe_sta, decide_eq_true_eq] at hs
    subst hs
    unfold oe_ins at h
    dsimp only at h
    split at h
    · rename_i x T q
      obtain ⟨hr, hq, hz⟩ := hsc q rfl
      have hT := fun v hv => hSv v (List.mem_cons_of_mem _ hv)
      refine va_slen hx hb (hz x).2.2 (hz x).1 (hz x).2.1 hS hd ?_
      rw [← Int32.ofInt_eq_ofNat]
      exact go h (oe_vv_cons (v := .inl _) (show oe_rg _ from ⟨by omega, by omega⟩) hT)
    · obtain ⟨a, T, rfl, h9⟩ := oe_r1_ex h
      replace h := h9
      obtain ⟨u, N', hsh, hu, h9⟩ := oe_sh_ex h
      replace h := h9
      have hT := fun v hv => hSv v (List.mem_cons_of_mem _ hv)
      have hN' := hhv.2.2.2 a u N' hsh
      have hvv : ∀ w ∈ (.inl (N' : Int) :: T : List oeV), oe_vv hp.1.length w := oe_vv_cons (v := .inl _) (show oe_rg _ from ⟨by omega, by omega⟩) hT
      match u, hu, hsh with
      | 0, _, hsh => exact va_alen hx hb hK hP a 0 (oe_ws_get hsh) rfl (Int32.ofInt_eq_ofNat).symm hd (go h hvv)
      | 1, _, hsh => exact va_alen hx hb hK hP a 1 (oe_ws_get hsh) rfl (Int32.ofInt_eq_ofNat).symm hd (go h hvv)
      | 2, _, hsh => exact va_alen hx hb hK hP a 2 (oe_ws_get hsh) rfl (Int32.ofInt_eq_ofNat).symm hd (go h hvv)
      | 3, _, hsh => exact va_alen hx hb hK hP a 3 (oe_ws_get hsh) rfl (Int32.ofInt_eq_ofNat).symm hd (go h hvv)
      | 4, _, hsh => exact va_alen hx hb hK hP a 4 (oe_ws_get hsh) rfl (Int32.ofInt_eq_ofNat).symm hd (go h hvv)
  case ireturn =>
    simp only [oe_sta, decide_eq_true_eq] at hs
    subst hs
    unfold oe_ins at h
    dsimp only at h
    split at h
    · rename_i x
      exact hret pc _ ls ad H locs k n hp (some (.inl x)) hG h.2 (fun v hv => by cases hv; exact hSv _ List.mem_cons_self) hk hn hd ⟨rfl, h.1⟩
    · exact h.elim
  case areturn =>
    simp only [oe_sta, decide_eq_true_eq] at hs
    subst hs
    unfold oe_ins at h
    dsimp only at h
    split at h
    · rename_i x
      exact hret pc _ ls ad H locs k n hp (some (.inr (.inl x))) hG h.2 (fun v hv => by cases hv; exact hSv _ List.mem_cons_self) hk hn hd ⟨rfl, h.1⟩
    · exact h.elim
  case return_ =>
    simp only [oe_sta, decide_eq_true_eq] at hs
    subst hs
    obtain ⟨rfl, h1, h2⟩ := h
    exact hret pc _ ls ad H locs k n hp none hG h2 (fun v hv => by cases hv) hk hn hd ⟨rfl, h1⟩
  case newarray ty =>
    obtain ⟨x, T, rfl, h0, h1, h2, h3, h9⟩ := oe_i1_ex h
    replace h := h9
    have hx' : oe_rg x := hSv (.inl x) List.mem_cons_self
    have hT := fun v hv => hSv v (List.mem_cons_of_mem _ hv)
    have hneg : ¬ Int32.ofInt x < 0 := by rw [oe_zero, oe_lt hx' oe_rg0]; omega
    have harr : (Cond.arrayClass (newarray.typeOf ty)).before args s = true := hts _ (hw _ List.mem_cons_self)
    have hfin : ∀ (t : Nat) (q : Nat) (H1 : Heap), t ≤ 3 → va_P D oe_cl (oe_ws cA ad hp ++ [(q, oe_cell cA (ad ++ [q]) (t, x.toNat) (fun _ => none) (fun _ => 0))]) H1 → va_D A (oe_ws cA ad hp ++ [(q, oe_cell cA (ad ++ [q]) (t, x.toNat) (fun _ => none) (fun _ => 0))]) → va_S A s.heap H1 locs →
        oe_X p l e R s m args below meth c Qp j D cA z A ad0 lim (pc + 2) L (.inr (.inl hp.1.length) :: T) (oe_new hp (t, x.toNat)) (k + 1) (n + x.toNat) → W p l e R s m args below meth c H1 locs (k + 1) (n + x.toNat) Qp (F0 m (pc + 2) ls (.ref q :: T.map (oe_val ad z))) := by
      intro t q H1 ht hP1 hD1 hS1 hX
      have e1 := hX h2 h3 (ad ++ [q]) H1 ls locs (hG.new (fun c hc => by simp at hc; omega) (by show x.toNat < _; omega) hP1 hD1 hS1) (hF.new hlen hT)
      rw [List.map_cons, oe_map_app hlen hT] at e1
      have e2 : oe_val (ad ++ [q]) z (.inr (.inl hp.1.length)) = .ref q := by
        show Value.ref ((ad ++ [q]).getD hp.1.length 0) = _
        rw [List.getD_eq_getElem?_getD, List.getElem?_append_right (by omega), hlen, Nat.sub_self]; rfl
      rw [e2] at e1
      exact e1
    cases ty
    case int =>
      simp only [oe_sta, decide_eq_true_eq] at hs
      subst hs
      refine va_newa hx hb harr (ty := .int) rfl hK hP hD hS hA (N' := x.toNat) (a0 := (x.toNat, .inl (fun _ => Int32.ofInt 0))) (fun _ => rfl) hneg (oe_clamp hx') (by show x.toNat * 4 ≤ _; omega) (by omega) (by omega) hd (fun q cA' H1 hK1 hP1 hD1 hS1 => ?_)
      have hc : cA' = cA 0 := Option.some.inj ((hK1.2 5 (cA', .int) rfl).2.symm.trans (hK.2 0 (cA 0, .int) rfl).2)
      subst hc
      exact hfin 0 q H1 (by omega) hP1 hD1 hS1 h
    case char =>
      simp only [oe_sta, decide_eq_true_eq] at hs
      subst hs
      refine va_newa hx hb harr (ty := .char) rfl hK hP hD hS hA (N' := x.toNat) (a0 := (x.toNat, .inl (fun _ => Int32.ofInt 0))) (fun _ => rfl) hneg (oe_clamp hx') (by show x.toNat * 2 ≤ _; omega) (by omega) (by omega) hd (fun q cA' H1 hK1 hP1 hD1 hS1 => ?_)
      have hc : cA' = cA 1 := Option.some.inj ((hK1.2 5 (cA', .char) rfl).2.symm.trans (hK.2 1 (cA 1, .char) rfl).2)
      subst hc
      exact hfin 1 q H1 (by omega) hP1 hD1 hS1 h
    case boolean =>
      simp only [oe_sta, decide_eq_true_eq] at hs
      subst hs
      refine va_newa hx hb harr (ty := .boolean) rfl hK hP hD hS hA (N' := x.toNat) (a0 := (x.toNat, .inl (fun _ => Int32.ofInt 0))) (fun _ => rfl) hneg (oe_clamp hx') (by show x.toNat * 1 ≤ _; omega) (by omega) (by omega) hd (fun q cA' H1 hK1 hP1 hD1 hS1 => ?_)
      have hc : cA' = cA 2 := Option.some.inj ((hK1.2 5 (cA', .boolean) rfl).2.symm.trans (hK.2 2 (cA 2, .boolean) rfl).2)
      subst hc
      exact hfin 2 q H1 (by omega) hP1 hD1 hS1 h
    case long =>
      simp only [oe_sta, decide_eq_true_eq] at hs
      subst hs
      refine va_newa hx hb harr (ty := .long) rfl hK hP hD hS hA (N' := x.toNat) (a0 := (x.toNat, .inr (.inl (fun _ => Int64.ofInt 0)))) (fun _ => rfl) hneg (oe_clamp hx') (by show x.toNat * 8 ≤ _; omega) (by omega) (by omega) hd (fun q cA' H1 hK1 hP1 hD1 hS1 => ?_)
      have hc : cA' = cA 3 := Option.some.inj ((hK1.2 5 (cA', .long) rfl).2.symm.trans (hK.2 3 (cA 3, .long) rfl).2)
      subst hc
      exact hfin 3 q H1 (by omega) hP1 hD1 hS1 h
    all_goals simp [oe_sta] at hs
  case anewarray r =>
    simp only [oe_sta, decide_eq_true_eq] at hs
    subst hs
    obtain ⟨x, T, rfl, h0, h1, h2, h3, h9⟩ := oe_i1_ex h
    replace h := h9
    have hx' : oe_rg x := hSv (.inl x) List.mem_cons_self
    have hT := fun v hv => hSv v (List.mem_cons_of_mem _ hv)
    have hneg : ¬ Int32.ofInt x < 0 := by rw [oe_zero, oe_lt hx' oe_rg0]; omega
    refine va_newq hx hb hown (hts _ (hw _ List.mem_cons_self)) hN.2 hK hP hD hS hA (N' := x.toNat) hneg (oe_clamp hx') (by omega) (by omega) (by omega) hd (fun q cA' H1 hK1 hP1 hD1 hS1 => ?_)
    have hc : cA' = cA 4 := by
      obtain ⟨k1, c1, a1, a2, a3, a4⟩ := (hK1.2 5 (cA', .object oe_eqn) rfl).2
      obtain ⟨k2, c2, b1, b2, b3, b4⟩ := (hK.2 4 (cA 4, .object oe_eqn) rfl).2
      exact Option.some.inj (a4.symm.trans b4)
    subst hc
    have e1 := h h2 h3 (ad ++ [q]) H1 ls locs (hG.new (t := (4, x.toNat)) (fun c hc => by have e9 : 4 = c + 5 := hc; omega) (by show x.toNat < _; omega) hP1 hD1 hS1) (hF.new hlen hT)
    rw [List.map_cons, oe_map_app hlen hT] at e1
    have e2 : oe_val (ad ++ [q]) z (.inr (.inl hp.1.length)) = .ref q := by
      show Value.ref ((ad ++ [q]).getD hp.1.length 0) = _
      rw [List.getD_eq_getElem?_getD, List.getElem?_append_right (by omega), hlen, Nat.sub_self]; rfl
    rw [e2] at e1
    exact e1
  case new r =>
    simp only [oe_sta, Bool.and_eq_true, decide_eq_true_eq] at hs
    obtain ⟨rfl, hs⟩ := hs
    obtain ⟨h1, h2, h⟩ := h
    obtain ⟨q0, hq0, hN0⟩ := oe_nok_ex hs
    have hw2 : ∀ w ∈ oe_lwn j (oe_cpi j pc) q0, w ∈ oe_W := by
      intro w h9
      apply hw
      show w ∈ (match oe_cl[r]? with
        | some q => oe_lwn j (oe_cpi j pc) q
        | none => [])
      rw [hq0]
      exact h9
    refine va_new (ci := r) (C := q0.1) (T := q0.2.1) (N := q0.2.2) (fs := (List.range q0.2.2).map (fun k => oe_fv (ad ++ [0]) (fun _ => none) (fun _ => 0) (oe_fk r k) k)) hx hb hts (oe_clw r q0 hq0) (oe_ty r) (oe_tyok r q0 hq0) hown (hts _ (hw2 _ List.mem_cons_self)) (hts _ (hw2 _ (List.mem_cons_of_mem _ List.mem_cons_self))) (hts _ (hw2 _ (List.mem_cons_of_mem _ (List.mem_cons_of_mem _ List.mem_cons_self)))) hK hP hD hS hA hq0 (fun i hi => ?_) (by omega) (by omega) hd (fun q H1 hP1 hD1 hS1 => ?_)
    · rw [vp_V, List.getD_eq_getElem?_getD, List.getElem?_map, List.getElem?_range hi]
      exact oe_dflt r q0 hq0 i hi
    · have ec : oe_cell cA (ad ++ [q]) (r + 5, oe_nf r) (fun _ => none) (fun _ => 0) = .inr (r, (List.range q0.2.2).map (fun k => oe_fv (ad ++ [0]) (fun _ => none) (fun _ => 0) (oe_fk r k) k)) := by
        rw [hN0]; rfl
      have hnfc : ∀ c', (r + 5, oe_nf r).1 = c' + 5 → (r + 5, oe_nf r).2 = oe_nf c' := by
        intro c' hc
        have e3 : r + 5 = c' + 5 := hc
        have e4 : r = c' := by omega
        rw [e4]
      have e1 := h h1 h2 (ad ++ [q]) H1 ls locs (hG.new (t := (r + 5, oe_nf r)) hnfc (oe_nf_lt r) (by rw [ec]; exact hP1) (by rw [ec]; exact hD1) hS1) (hF.new hlen hSv)
      rw [List.map_cons, oe_map_app hlen hSv] at e1
      have e2 : oe_val (ad ++ [q]) z (.inr (.inl hp.1.length)) = .ref q := by
        show Value.ref ((ad ++ [q]).getD hp.1.length 0) = _
        rw [List.getD_eq_getElem?_getD, List.getElem?_append_right (by omega), hlen, Nat.sub_self]; rfl
      rw [e2] at e1
      rw [hN0] at e1
      exact e1
  case getfield r =>
    simp only [oe_sta, Bool.and_eq_true, decide_eq_true_eq] at hs
    obtain ⟨rfl, hs⟩ := hs
    obtain ⟨a, T, rfl, h9⟩ := oe_r1_ex h
    replace h := h9
    obtain ⟨u, N', hsh, rfl, h9⟩ := oe_sh_ex h
    replace h := h9
    have hT := fun v hv => hSv v (List.mem_cons_of_mem _ hv)
    obtain ⟨q0, hq0, hk1, hk2, hk3, hk4⟩ := oe_fok_ex hs
    have hN' := hhv.2.2.1 a _ _ hsh
    have hv : ((List.range N').map (fun k => oe_fv ad (hp.2.1 a) (hp.2.2 a) (oe_fk (r / 1000) k) k))[r / 10 % 100]? = some (oe_fv ad (hp.2.1 a) (hp.2.2 a) (oe_fk (r / 1000) (r / 10 % 100)) (r / 10 % 100)) := by
      rw [List.getElem?_map, List.getElem?_range (by omega)]; rfl
    refine va_get (D := D) (ci := r / 1000) (C := q0.1) (T := q0.2.1) (N := q0.2.2) hx hb hts (oe_clw _ q0 hq0) hown hK hP a (oe_ws_get hsh) hq0 (r / 10 % 100) hk1 (hts _ (hw _ ?_)) (fun _ h9 => h9) hv hd ?_
    · show _ ∈ (match oe_cl[r / 1000]? with
        | some q => [Cond.fieldLink (oe_ow j) (oe_cpi j pc) (q.2.1 (r / 10 % 100)).1 (q.2.1 (r / 10 % 100)).2.1 (q.2.1 (r / 10 % 100)).2.2.1]
        | none => [])
      rw [hq0]
      exact List.mem_cons_self
    · rw [hk3]
      unfold oe_fv
      by_cases e : r % 10 = 1
      · rw [if_pos e] at h ⊢
        cases hg : hp.2.1 a (r / 10 % 100) with
        | none =>
          rw [hg] at h
          exact go h (oe_vv_cons (v := .inr (.inr (1, 0))) trivial hT)
        | some q =>
          rw [hg] at h
          exact go h (oe_vv_cons (v := .inr (.inl q)) (hhv.1 _ _ _ hg) hT)
      · rw [if_neg e] at h ⊢
        exact go h (oe_vv_cons (v := .inl _) (hhv.2.1 _ _) hT)
  case putfield r =>
    simp only [oe_sta, Bool.and_eq_true, decide_eq_true_eq] at hs
    obtain ⟨⟨rfl, hs⟩, hs2⟩ := hs
    obtain ⟨q0, hq0, hk1, hk2, hk3, hk4⟩ := oe_fok_ex hs
    have hlk : (Cond.fieldLink (oe_ow j) (oe_cpi j pc) (q0.2.1 (r / 10 % 100)).1 (q0.2.1 (r / 10 % 100)).2.1 (q0.2.1 (r / 10 % 100)).2.2.1).before args s = true := by
      apply hts
      apply hw
      show _ ∈ (match oe_cl[r / 1000]? with
        | some q => [Cond.fieldLink (oe_ow j) (oe_cpi j pc) (q.2.1 (r / 10 % 100)).1 (q.2.1 (r / 10 % 100)).2.1 (q.2.1 (r / 10 % 100)).2.2.1]
        | none => [])
      rw [hq0]
      exact List.mem_cons_self
    have hput : ∀ (vv : Value) (a N' : Nat) (T : List oeV), hp.1[a]? = some (r / 1000 + 5, N') → narrow (oe_ty (r / 1000) (r / 10 % 100)) vv = vv → fits (oe_ty (r / 1000) (r / 10 % 100)) vv = true →
        (∀ (H1 : Heap) (locs1 : List Loc), va_P D oe_cl ((oe_ws cA ad hp).set a (ad.getD a 0, .inr (r / 1000, ((List.range N').map (fun k => oe_fv ad (hp.2.1 a) (hp.2.2 a) (oe_fk (r / 1000) k) k)).set (r / 10 % 100) vv))) H1 → va_D A ((oe_ws cA ad hp).set a (ad.getD a 0, .inr (r / 1000, ((List.range N').map (fun k => oe_fv ad (hp.2.1 a) (hp.2.2 a) (oe_fk (r / 1000) k) k)).set (r / 10 % 100) vv))) → va_S A s.heap H1 locs1 → W p l e R s m args below meth c H1 locs1 k n Qp (F0 m (pc + 3) ls (T.map (oe_val ad z)))) →
        W p l e R s m args below meth c H locs k n Qp (F0 m pc ls (vv :: .ref (ad.getD a 0) :: T.map (oe_val ad z))) := by
      intro vv a N' T hsh hnar hfit kk
      have hN' := hhv.2.2.1 a _ _ hsh
      have hll : r / 10 % 100 < ((List.range N').map (fun k => oe_fv ad (hp.2.1 a) (hp.2.2 a) (oe_fk (r / 1000) k) k)).length := by
        rw [List.length_map, List.length_range]; omega
      rcases oe_pok_ex hq0 hs2 with hf | ⟨hf, hi, hc⟩
      · exact va_put (D := D) (ci := r / 1000) (C := q0.1) (T := q0.2.1) (N := q0.2.2) hx hb hts (oe_clw _ q0 hq0) (oe_ty (r / 1000)) (oe_tyok _ q0 hq0) (oe_tynm _ q0 hq0) hown hK hP hD hS a (oe_ws_get hsh) hq0 (r / 10 % 100) hk1 hlk (fun _ h9 => h9) hf (oe_tyok _ q0 hq0 _ hk1) hnar hfit hll hd kk
      · exact va_putF (D := D) (ci := r / 1000) (C := q0.1) (T := q0.2.1) (N := q0.2.2) hx hb hts (oe_clw _ q0 hq0) (oe_ty (r / 1000)) (oe_tyok _ q0 hq0) (oe_tynm _ q0 hq0) hown hK hP hD hS a (oe_ws_get hsh) hq0 (r / 10 % 100) hk1 hlk (fun _ h9 => h9) hf (hin hi) hc (oe_tyok _ q0 hq0 _ hk1) hnar hfit hll hd kk
    unfold oe_ins at h
    dsimp only at h
    unfold oe_pf at h
    split at h
    · rename_i v a T
      obtain ⟨u, N', hsh, rfl, hkd, h9⟩ := oe_sh_ex h
      replace h := h9
      have hv : oe_rg v := hSv (.inl v) List.mem_cons_self
      have hT := fun v hv => hSv v (List.mem_cons_of_mem _ (List.mem_cons_of_mem _ hv))
      have hne : oe_fk (r / 1000) (r / 10 % 100) ≠ 1 := by rw [hk3]; omega
      have hty : narrow (oe_ty (r / 1000) (r / 10 % 100)) (.int (Int32.ofInt v)) = .int (Int32.ofInt v) ∧ fits (oe_ty (r / 1000) (r / 10 % 100)) (.int (Int32.ofInt v)) = true := by
        rcases hkd with q | ⟨q, q2⟩
        · rw [q] at hk4
          rw [oe_tk_0 hk4]
          exact ⟨rfl, rfl⟩
        · rw [q] at hk4
          rw [oe_tk_2 hk4]
          rcases q2 with rfl | rfl
          · exact ⟨rfl, rfl⟩
          · exact ⟨rfl, rfl⟩
      refine hput (.int (Int32.ofInt v)) a N' T hsh hty.1 hty.2 (fun H1 locs1 hP1 hD1 hS1 => ?_)
      rw [oe_fs_num (t := oe_fk (r / 1000)) hne] at hP1 hD1
      exact h hk hn ad H1 ls locs1 (hG.num hsh hv hP1 hD1 hS1) ⟨hF.1, hF.2.1, hF.2.2.1, hT⟩
    · rename_i w a T
      obtain ⟨u, N', hsh, rfl, hkd, h9⟩ := oe_sh_ex h
      replace h := h9
      have hv : w < hp.1.length := hSv (.inr (.inl w)) List.mem_cons_self
      have hT := fun v hv => hSv v (List.mem_cons_of_mem _ (List.mem_cons_of_mem _ hv))
      have hne : oe_fk (r / 1000) (r / 10 % 100) = 1 := by rw [hk3]; omega
      rw [hkd] at hk4
      have hty : narrow (oe_ty (r / 1000) (r / 10 % 100)) (.ref (ad.getD w 0)) = .ref (ad.getD w 0) ∧ fits (oe_ty (r / 1000) (r / 10 % 100)) (.ref (ad.getD w 0)) = true := by
        rcases oe_tk_1 hk4 with ⟨q, e⟩ | ⟨q, e⟩
        · rw [e]; exact ⟨rfl, rfl⟩
        · rw [e]; exact ⟨rfl, rfl⟩
      refine hput (.ref (ad.getD w 0)) a N' T hsh hty.1 hty.2 (fun H1 locs1 hP1 hD1 hS1 => ?_)
      rw [oe_fs_ref (t := oe_fk (r / 1000)) hne] at hP1 hD1
      exact h hk hn ad H1 ls locs1 (hG.ref hsh hv hP1 hD1 hS1) ⟨hF.1, hF.2.1, hF.2.2.1, hT⟩
    · exact h.elim
  case tableswitch dd lo hi offs =>
    simp only [oe_sta, Bool.and_eq_true, decide_eq_true_eq, List.all_eq_true] at hs
    obtain ⟨⟨ht, hal⟩, hsz⟩ := hs
    obtain ⟨x, T, rfl, h9⟩ := oe_i1_ex h
    replace h := h9
    have hT := fun v hv => hSv v (List.mem_cons_of_mem _ hv)
    have hx' : oe_rg x := hSv (.inl x) List.mem_cons_self
    have htg : (pc : Int) + (dd - pc) = (dd.toNat : Int) := by omega
    by_cases hout : x < lo ∨ hi < x
    · exact lv_tableOut hx hb hd (by rw [oe_toInt hx']; exact hout) htg (go (h.1 hout) hT)
    · have h1 : ¬ x < lo := fun q => hout (Or.inl q)
      have h2 : ¬ hi < x := fun q => hout (Or.inr q)
      have hlt : (x - lo).toNat < offs.toList.length := by omega
      have hget : offs.toList[(x - lo).toNat]? = some offs.toList[(x - lo).toNat] := List.getElem?_eq_getElem hlt
      have hmem : offs.toList[(x - lo).toNat] ∈ offs.toList := List.getElem_mem hlt
      have h0 := hal _ hmem
      generalize offs.toList[(x - lo).toNat] = t at hget h0
      have hX := h.2 t (by omega) (by omega) hget
      refine lv_tableIn hx hb hd (by rw [oe_toInt hx']; exact h1) (by rw [oe_toInt hx']; exact h2) (off := t - pc) ?_ (tgt := t.toNat) (by omega) (go hX hT)
      rw [oe_toInt hx', Array.getElem?_map, ← Array.getElem?_toList, hget]
      rfl
  case lookupswitch dd ps =>
    simp only [oe_sta, Bool.and_eq_true, decide_eq_true_eq, List.all_eq_true] at hs
    obtain ⟨⟨ht, hal⟩, hsrt⟩ := hs
    obtain ⟨x, T, rfl, h9⟩ := oe_i1_ex h
    replace h := h9
    have hT := fun v hv => hSv v (List.mem_cons_of_mem _ hv)
    have hx' : oe_rg x := hSv (.inl x) List.mem_cons_self
    have h0 : 0 ≤ Op.lookupswitch.offset ps.toList dd x := oe_lsw_0 ht hal
    refine lv_lookup hx hb hd (List.all_eq_true.mpr (fun x hx => decide_eq_true (hsrt x hx))) (off := Op.lookupswitch.offset ps.toList dd x - pc) ?_ (tgt := (Op.lookupswitch.offset ps.toList dd x).toNat) (by omega) (go h hT)
    rw [oe_toInt hx', Array.toList_map]
    exact oe_lsw_m ps.toList dd x pc
  case ldc r =>
    simp only [oe_sta, Bool.and_eq_true, decide_eq_true_eq] at hs
    obtain ⟨⟨rfl, hr⟩, hr2⟩ := hs
    unfold oe_ins at h
    dsimp only at h
    rw [if_pos hr] at h
    refine lv_ldc hx hb hown (v := Int32.ofInt (r / 2 : Nat)) (hts _ (hw _ List.mem_cons_self)) hd (go h (oe_vv_cons (v := .inl _) (show oe_rg _ from ⟨by omega, by omega⟩) hSv))
  case invokestatic r =>
    unfold oe_ins at h
    dsimp only at h
    by_cases e1 : r / 1000 = 1
    · rw [if_pos e1] at h
      simp only [oe_sta, Bool.and_eq_true, decide_eq_true_eq, if_pos e1] at hs
      obtain ⟨rfl, -⟩ := hs
      have hw2 : ∀ w ∈ [Cond.methodLink (oe_ow j) (oe_cpi j pc) arraycopyName, .native arraycopyName, .static arraycopyName, .initialized "java/lang/System"], w ∈ oe_W := by
        intro w h9
        apply hw
        show w ∈ (if r / 1000 = 1 then _ else _)
        rw [if_pos e1]
        exact h9
      have hd : decode (oe_by j) pc = .ok (.invokestatic (oe_cpi j pc), 3) := hd
      unfold oe_copy at h
      split at h
      · rename_i nn dp b sp a T
        obtain ⟨u, na, hsa, rfl, h9⟩ := oe_sh_ex h
        replace h := h9
        obtain ⟨u, nb, hsb, rfl, h0, h1, h2, h3, h4, h5, h9⟩ := oe_sh_ex h
        replace h := h9
        have hT := fun v hv => hSv v (List.mem_cons_of_mem _ (List.mem_cons_of_mem _ (List.mem_cons_of_mem _ (List.mem_cons_of_mem _ (List.mem_cons_of_mem _ hv)))))
        have rn : oe_rg nn := hSv (.inl nn) List.mem_cons_self
        have rd : oe_rg dp := hSv (.inl dp) (List.mem_cons_of_mem _ List.mem_cons_self)
        have rs : oe_rg sp := hSv (.inl sp) (List.mem_cons_of_mem _ (List.mem_cons_of_mem _ (List.mem_cons_of_mem _ List.mem_cons_self)))
        refine va_copyi hx hb (by rw [hml]; exact hF.1.1.symm) hown (hts _ (hw2 _ List.mem_cons_self)) (hts _ (hw2 _ (List.mem_cons_of_mem _ List.mem_cons_self))) (hts _ (hw2 _ (List.mem_cons_of_mem _ (List.mem_cons_of_mem _ List.mem_cons_self)))) (hts _ (hw2 _ (List.mem_cons_of_mem _ (List.mem_cons_of_mem _ (List.mem_cons_of_mem _ List.mem_cons_self))))) hK hP hD hS a b 0 0 (oe_ws_get hsa) (oe_ws_get hsb) rfl rfl rfl
          (by rw [oe_zero, oe_lt rs oe_rg0]; omega) (by rw [oe_zero, oe_lt rd oe_rg0]; omega) (by rw [oe_zero, oe_lt rn oe_rg0]; omega) (by rw [oe_clamp rs, oe_clamp rn]; omega) (by rw [oe_clamp rd, oe_clamp rn]; omega) (fun _ _ => rfl) (by omega) ?_ hd (fun H1 locs1 hP1 hD1 hS1 => ?_)
        · have := oe_cat_sum (ad := ad) (z := z) T
          have hnf : nativeFrameWords "java/lang/System" "arraycopy" 5 ≤ 40 := by decide
          omega
        · rw [oe_clamp rs, oe_clamp rd, oe_clamp rn, oe_cpy_i] at hP1 hD1
          exact h hk hn ad H1 ls locs1 (hG.cpy hsb hP1 hD1 hS1) ⟨hF.1, hF.2.1, hF.2.2.1, hT⟩
      · exact h.elim
    · rw [if_neg e1] at h
      simp only [oe_sta, Bool.and_eq_true, decide_eq_true_eq, if_neg e1] at hs
      obtain ⟨rfl, hs⟩ := hs
      obtain ⟨c1, c2, c3, c4⟩ := oe_cok_ex hs
      obtain ⟨hnp, hlen4, hkc, hnc, hC⟩ := h
      have hd : decode (oe_by j) pc = .ok (.invokestatic (oe_cpi j pc), 3) := hd
      have hw2 : ∀ w ∈ oe_lws j pc (r / 1000), w ∈ oe_W := by
        intro w h9
        apply hw
        show w ∈ (if r / 1000 = 1 then _ else _)
        rw [if_neg e1]
        exact h9
      have hvt : ∀ v ∈ (S.take (r % 10)).reverse, oe_vv hp.1.length v := fun v hv => hSv v (List.mem_of_mem_take (List.mem_reverse.mp hv))
      have hM := hcall _ _ _ _ hC ad H.size hlen hhv hvt
      have hT : ∀ v ∈ S.drop (r % 10), oe_vv hp.1.length v := fun v hv => hSv v (List.mem_of_mem_drop hv)
      have hst : S.map (oe_val ad z) = (((S.take (r % 10)).reverse).map (oe_val ad z)).reverse ++ (S.drop (r % 10)).map (oe_val ad z) := by
        rw [List.map_reverse, List.reverse_reverse, ← List.map_append, List.take_append_drop]
      have hrm : 2 * (F0 m pc ls (S.map (oe_val ad z))).monitorRoom + (((S.drop (r % 10)).map (oe_val ad z)).map fun v => v.category).sum ≤ 8 := by
        refine lv_room ?_
        have := oe_cat_sum (ad := ad) (z := z) (S.drop (r % 10))
        rw [List.length_drop] at this
        omega
      have hRR : (oe_rm d (r / 1000)).frames + 1 ≤ R.frames ∧ 8 + (oe_ml (r / 1000) + 11) + (oe_rm d (r / 1000)).locals ≤ R.locals := by
        constructor
        · show d + 1 + 1 ≤ _; omega
        · show 8 + (oe_ml (r / 1000) + 11) + 64 * (d + 1) ≤ _; omega
      have hcd : Cond.code (oe_y (r / 1000)) (oe_by (r / 1000)) (oe_ml (r / 1000)) (oe_ret (r / 1000)) ∈ oe_W := hw2 _ List.mem_cons_self
      have hgd := oe_good (r / 1000) hcd
      have hini := hts _ (hw2 _ (List.mem_cons_of_mem _ List.mem_cons_self))
      have hsta := hts _ (hw2 _ (List.mem_cons_of_mem _ (List.mem_cons_of_mem _ List.mem_cons_self)))
      have hfl : k + (oe_cost (r / 1000)).1 ≤ R.cells ∧ n + (oe_cost (r / 1000)).2 ≤ R.slots := ⟨by rw [hRc]; exact hkc, by rw [hRs]; exact hnc⟩
      have hln : (((S.take (r % 10)).reverse).map (oe_val ad z)).length = r % 10 := by
        rw [List.length_map, List.length_reverse, List.length_take]; omega
      cases hnh : oe_nh j pc with
      | none =>
        have hlk : (Cond.methodLink (oe_ow j) (oe_cpi j pc) (oe_y (r / 1000))).before args s = true := by
          apply hts
          apply hw2
          refine List.mem_cons_of_mem _ (List.mem_cons_of_mem _ (List.mem_cons_of_mem _ ?_))
          rw [hnh]
          exact List.mem_cons_self
        exact oe_after (T := S.drop (r % 10)) (va_runS ⟨hx, hb, hml, hown, hts⟩ hM ⟨callB_of (r % 10) hts hgd rfl rfl rfl hini hlk ⟨c2, c3, c1⟩ hRR, hsta⟩ (oe_pre hG hK hN) rfl hln hF.1.1 hst hrm hd hfl) hG hF hT hA hkc hnc (fun r hp' q => q)
      | some host =>
        have hnl := hN.1 _ (oe_nst_in j pc _ _ hfi host hnh (r / 1000) (Or.inl ⟨r, rfl, rfl⟩))
        exact oe_after (T := S.drop (r % 10)) (va_runSN ⟨hx, hb, hml, hown, hts⟩ hM ⟨va_cnB (r % 10) hts hgd rfl rfl rfl hnl hini ⟨c2, c3, c1⟩ hRR, hsta, trivial⟩ (oe_pre hG hK hN) rfl hln hF.1.1 hst hrm hd hfl) hG hF hT hA hkc hnc (fun r hp' q => q)
  case invokespecial r =>
    unfold oe_ins at h
    dsimp only at h
    by_cases e1 : r / 1000 = 0
    · rw [if_pos e1] at h
      simp only [oe_sta, Bool.and_eq_true, decide_eq_true_eq, if_pos e1] at hs
      obtain ⟨rfl, -⟩ := hs
      have hd : decode (oe_by j) pc = .ok (.invokespecial (oe_cpi j pc), 3) := hd
      have hw2 : ∀ w ∈ [Cond.methodLink (oe_ow j) (oe_cpi j pc) objectInit, .instanceMethod objectInit, .code objectInit ⟨#[0xb1]⟩ 1 none], w ∈ oe_W := by
        intro w h9
        apply hw
        show w ∈ (if r / 1000 = 0 then _ else _)
        rw [if_pos e1]
        exact h9
      obtain ⟨a, T, rfl, h4, h9⟩ := oe_r1_ex h
      replace h := h9
      have hT := fun v hv => hSv v (List.mem_cons_of_mem _ hv)
      have hcs := oe_cat_sum (ad := ad) (z := z) T
      refine W.objInit hx hb hown (hts _ (hw2 _ List.mem_cons_self)) (hts _ (hw2 _ (List.mem_cons_of_mem _ List.mem_cons_self))) (hts _ (hw2 _ (List.mem_cons_of_mem _ (List.mem_cons_of_mem _ List.mem_cons_self)))) rfl (by rw [hml]; exact hF.1.1) rfl hd (by omega) ?_ (go h hT)
      have := lv_room (m := m) (pc := pc) (ls := ls) (rest := (Value.ref (ad.getD a 0) :: T.map (oe_val ad z))) (st := T.map (oe_val ad z)) (by omega)
      refine Nat.le_trans (Nat.add_le_add_right this 12) ?_
      omega
    · rw [if_neg e1] at h
      simp only [oe_sta, Bool.and_eq_true, decide_eq_true_eq, if_neg e1] at hs
      obtain ⟨rfl, ⟨hs, hsn⟩, hsr⟩ := hs
      obtain ⟨c1, c2, c3, c4⟩ := oe_cok_ex hs
      have hd : decode (oe_by j) pc = .ok (.invokespecial (oe_cpi j pc), 3) := hd
      have hw2 : ∀ w ∈ oe_lwi j pc (r / 1000), w ∈ oe_W := by
        intro w h9
        apply hw
        show w ∈ (if r / 1000 = 0 then _ else _)
        rw [if_neg e1]
        exact h9
      split at h
      case h_2 => exact h.elim
      rename_i b T hdr
      obtain ⟨hnp, hlen4, hkc, hnc, hC⟩ := h
      obtain ⟨hS1, hS2⟩ := oe_split hdr
      rw [hS2] at hC
      have hvt : ∀ v ∈ (.inr (.inl b) :: (S.take (r % 10)).reverse : List oeV), oe_vv hp.1.length v := by
        refine oe_vv_cons (hSv _ (by rw [hS1]; simp)) (fun v hv => hSv v (List.mem_of_mem_take (List.mem_reverse.mp hv)))
      have hM := hcall _ _ _ _ hC ad H.size hlen hhv hvt
      have hdT : S.drop (r % 10 + 1) = T := by rw [← List.drop_drop, hdr]; rfl
      rw [hdT] at hM
      have hT : ∀ v ∈ T, oe_vv hp.1.length v := fun v hv => hSv v (by rw [hS1]; simp [hv])
      have hst : S.map (oe_val ad z) = (((S.take (r % 10)).reverse).map (oe_val ad z)).reverse ++ .ref (ad.getD b 0) :: T.map (oe_val ad z) := by
        rw [List.map_reverse, List.reverse_reverse]
        conv => lhs; rw [hS1]
        rw [List.map_append]; rfl
      have hrm : 2 * (F0 m pc ls (S.map (oe_val ad z))).monitorRoom + ((T.map (oe_val ad z)).map fun v => v.category).sum ≤ 8 := by
        refine lv_room ?_
        have := oe_cat_sum (ad := ad) (z := z) T
        have : S.length = r % 10 + 1 + T.length := by rw [← hdT, List.length_drop]; omega
        omega
      have hRR : (oe_rm d (r / 1000)).frames + 1 ≤ R.frames ∧ 8 + (oe_ml (r / 1000) + 11) + (oe_rm d (r / 1000)).locals ≤ R.locals := by
        constructor
        · show d + 1 + 1 ≤ _; omega
        · show 8 + (oe_ml (r / 1000) + 11) + 64 * (d + 1) ≤ _; omega
      have hcd : Cond.code (oe_y (r / 1000)) (oe_by (r / 1000)) (oe_ml (r / 1000)) (oe_ret (r / 1000)) ∈ oe_W := hw2 _ List.mem_cons_self
      have hgd := oe_good (r / 1000) hcd
      have hini := hts _ (hw2 _ (List.mem_cons_of_mem _ List.mem_cons_self))
      have hsta := hts _ (hw2 _ (List.mem_cons_of_mem _ (List.mem_cons_of_mem _ List.mem_cons_self)))
      have hfl : k + (oe_cost (r / 1000)).1 ≤ R.cells ∧ n + (oe_cost (r / 1000)).2 ≤ R.slots := ⟨by rw [hRc]; exact hkc, by rw [hRs]; exact hnc⟩
      have hln : (((S.take (r % 10)).reverse).map (oe_val ad z)).length = r % 10 := by
        rw [List.length_map, List.length_reverse, List.length_take]; omega
      cases hnh : oe_nh j pc with
      | none =>
        have hlk : (Cond.methodLink (oe_ow j) (oe_cpi j pc) (oe_y (r / 1000))).before args s = true := by
          apply hts
          apply hw2
          refine List.mem_cons_of_mem _ (List.mem_cons_of_mem _ (List.mem_cons_of_mem _ ?_))
          rw [hnh]
          exact List.mem_cons_self
        exact oe_after (T := T) (va_runI ⟨hx, hb, hml, hown, hts⟩ hM ⟨callB_of (r % 10) hts hgd (by unfold oe_wj; rw [hsr]) rfl rfl hini hlk ⟨c2, c3, c1⟩ hRR, hsn, hsta⟩ (oe_pre hG hK hN) rfl hln hF.1.1 hst hrm hd hfl) hG hF hT hA hkc hnc (fun r hp' q => q)
      | some host =>
        have hnl := hN.1 _ (oe_nst_in j pc _ _ hfi host hnh (r / 1000) (Or.inr ⟨r, rfl, rfl⟩))
        exact oe_after (T := T) (va_runIN ⟨hx, hb, hml, hown, hts⟩ hM ⟨va_cnB (r % 10) hts hgd (by unfold oe_wj; rw [hsr]) rfl rfl hnl hini ⟨c2, c3, c1⟩ hRR, hsn, hsta⟩ (oe_pre hG hK hN) rfl hln hF.1.1 hst hrm hd hfl) hG hF hT hA hkc hnc (fun r hp' q => q)
  case invokevirtual r =>
    unfold oe_ins at h
    dsimp only at h
    simp only [oe_sta, Bool.and_eq_true, decide_eq_true_eq] at hs
    obtain ⟨⟨rfl, hs⟩, hsc2⟩ := hs
    obtain ⟨c1, c2, c3, c4⟩ := oe_cok_ex hs
    obtain ⟨q0, hq0, hqn⟩ := oe_vok_ex hsc2
    have hd : decode (oe_by j) pc = .ok (.invokevirtual (oe_cpi j pc), 3) := hd
    have hw2 : ∀ w ∈ oe_lwv j pc (r / 1000), w ∈ oe_W := hw
    split at h
    case h_2 => exact h.elim
    rename_i b T hdr
    obtain ⟨hcl, hnp, hlen4, hkc, hnc, hC⟩ := h
    obtain ⟨u, Nb, hsb, rfl⟩ := oe_sh_ex hcl
    obtain ⟨hS1, hS2⟩ := oe_split hdr
    rw [hS2] at hC
    have hvt : ∀ v ∈ (.inr (.inl b) :: (S.take (r % 10)).reverse : List oeV), oe_vv hp.1.length v := by
      refine oe_vv_cons (hSv _ (by rw [hS1]; simp)) (fun v hv => hSv v (List.mem_of_mem_take (List.mem_reverse.mp hv)))
    have hM := hcall _ _ _ _ hC ad H.size hlen hhv hvt
    have hdT : S.drop (r % 10 + 1) = T := by rw [← List.drop_drop, hdr]; rfl
    rw [hdT] at hM
    have hT : ∀ v ∈ T, oe_vv hp.1.length v := fun v hv => hSv v (by rw [hS1]; simp [hv])
    have hst : S.map (oe_val ad z) = (((S.take (r % 10)).reverse).map (oe_val ad z)).reverse ++ .ref (ad.getD b 0) :: T.map (oe_val ad z) := by
      rw [List.map_reverse, List.reverse_reverse]
      conv => lhs; rw [hS1]
      rw [List.map_append]; rfl
    have hrm : 2 * (F0 m pc ls (S.map (oe_val ad z))).monitorRoom + ((T.map (oe_val ad z)).map fun v => v.category).sum ≤ 8 := by
      refine lv_room ?_
      have := oe_cat_sum (ad := ad) (z := z) T
      have : S.length = r % 10 + 1 + T.length := by rw [← hdT, List.length_drop]; omega
      omega
    have hRR : (oe_rm d (r / 1000)).frames + 1 ≤ R.frames ∧ 8 + (oe_ml (r / 1000) + 11) + (oe_rm d (r / 1000)).locals ≤ R.locals := by
      constructor
      · show d + 1 + 1 ≤ _; omega
      · show 8 + (oe_ml (r / 1000) + 11) + 64 * (d + 1) ≤ _; omega
    have hcd : Cond.code (oe_y (r / 1000)) (oe_by (r / 1000)) (oe_ml (r / 1000)) (oe_ret (r / 1000)) ∈ oe_W := hw2 _ List.mem_cons_self
    have hgd := oe_good (r / 1000) hcd
    have hini := hts _ (hw2 _ (List.mem_cons_of_mem _ List.mem_cons_self))
    have hsta := hts _ (hw2 _ (List.mem_cons_of_mem _ (List.mem_cons_of_mem _ List.mem_cons_self)))
    have hsel := hts _ (hw2 _ (List.mem_cons_of_mem _ (List.mem_cons_of_mem _ (List.mem_cons_of_mem _ List.mem_cons_self))))
    have hlk := hts _ (hw2 _ (List.mem_cons_of_mem _ (List.mem_cons_of_mem _ (List.mem_cons_of_mem _ (List.mem_cons_of_mem _ List.mem_cons_self)))))
    have hfl : k + (oe_cost (r / 1000)).1 ≤ R.cells ∧ n + (oe_cost (r / 1000)).2 ≤ R.slots := ⟨by rw [hRc]; exact hkc, by rw [hRs]; exact hnc⟩
    have hln : (((S.take (r % 10)).reverse).map (oe_val ad z)).length = r % 10 := by
      rw [List.length_map, List.length_reverse, List.length_take]; omega
    have hrec := va_recv hK hP hq0 (oe_ws_get hsb)
    rw [hqn] at hrec
    have hpr := oe_pre (As := .ref (ad.getD b 0) :: ((S.take (r % 10)).reverse).map (oe_val ad z)) hG hK hN
    exact oe_after (T := T) (va_runV ⟨hx, hb, hml, hown, hts⟩ hM ⟨callB_of (r % 10) hts hgd rfl rfl rfl hini hlk ⟨c2, c3, c1⟩ hRR, hsta, hsel⟩ ⟨hpr.1, hrec, hpr.2⟩ rfl hln hF.1.1 hst hrm hd hfl) hG hF hT hA hkc hnc (fun r hp' q => q)
  all_goals exact h.elim
end
section
/-! A method of the small machine is a contract of the great one's. -/
theorem oe_lvargs {ad : List Nat} {z : Nat → Int → Nat} : ∀ (as : List oeV) (k i : Nat) (v : oeV), (∀ v ∈ as, oe_c1 v) → as[i]? = some v → (k + i, oe_val ad z v) ∈ lv_args k (as.map (oe_val ad z))
  | [], _, _, _, _, h => by simp at h
  | a :: as, k, i, v, hc, h => by
    have ha : (oe_val ad z a).category = 1 := oe_c1_cat (hc a List.mem_cons_self)
    cases i with
    | zero =>
      rw [List.getElem?_cons_zero] at h
      cases h
      simp [lv_args]
    | succ i =>
      rw [List.getElem?_cons_succ] at h
      have ih := oe_lvargs (ad := ad) (z := z) as (k + 1) i v (fun v hv => hc v (List.mem_cons_of_mem _ hv)) h
      simp only [List.map_cons, lv_args, ha]
      refine List.mem_cons_of_mem _ ?_
      have e : k + (i + 1) = k + 1 + i := by omega
      rw [e]
      exact ih
theorem oe_lgsl {ad : List Nat} {z : Nat → Int → Nat} : ∀ (as : List oeV), (∀ v ∈ as, oe_c1 v) → (lg_sl (as.map (oe_val ad z))).length = as.length
  | [], _ => rfl
  | a :: as, hc => by
    have ha : (oe_val ad z a).category = 1 := oe_c1_cat (hc a List.mem_cons_self)
    have ih := oe_lgsl (ad := ad) (z := z) as (fun v hv => hc v (List.mem_cons_of_mem _ hv))
    simp only [lg_sl, List.map_cons, List.flatMap_cons, ha, List.length_append, List.length_cons] at ih ⊢
    simp only [show ¬ (1 : Nat) = 2 by omega, if_false, List.length_cons, List.length_nil]
    omega
theorem oe_entF {j : Nat} {ad : List Nat} {z : Nat → Int → Nat} {as : List oeV} {n : Nat} (hc : ∀ v ∈ as, oe_c1 v) (hl : as.length ≤ oe_ml j) (hv : ∀ v ∈ as, oe_vv n v) :
    oe_GF j z n ad ((lg_sl (as.map (oe_val ad z)) ++ List.replicate (oe_ml j - (lg_sl (as.map (oe_val ad z))).length) Slot.unset).toArray) (oe_ent j as) [] := by
  have h0 := lv_entry (as.map (oe_val ad z)) (n := oe_ml j) (by rw [oe_lgsl as hc]; exact hl)
  refine ⟨⟨h0.1, h0.2.1, fun q hq => ?_⟩, by simp [oe_ent]; omega, fun v hv2 => ?_, oe_vv_nil⟩
  · obtain ⟨v, h1, h2⟩ := oe_lv_mem.mp hq
    apply h0.2.2
    have h3 : as[q.1]? = some v := by
      unfold oe_ent at h1
      by_cases hi : q.1 < as.length
      · rw [List.getElem?_append_left (by simpa using hi), List.getElem?_map, Option.map_eq_some_iff] at h1
        obtain ⟨w, e1, e2⟩ := h1
        cases e2
        exact e1
      · rw [List.getElem?_append_right (by simpa using hi)] at h1
        have := List.mem_of_getElem? h1
        rw [List.mem_replicate] at this
        cases this.2
    have h4 := oe_lvargs (ad := ad) (z := z) as 0 q.1 v hc h3
    rw [Nat.zero_add, ← h2] at h4
    exact h4
  · unfold oe_ent at hv2
    rcases List.mem_append.mp hv2 with q | q
    · rw [List.mem_map] at q
      obtain ⟨w, e1, e2⟩ := q
      cases e2
      exact ⟨hv v e1, hc v e1⟩
    · rw [List.mem_replicate] at q
      cases q.2
theorem oe_sound {l : Launch} {D : va_G} {cA : Nat → ClassId} {z : Nat → Int → Nat} (hbi : ∀ d j as hp Q, 6 ≤ d → oe_bi j as hp Q → oe_Met l D cA z (d + 1) j as hp Q) : ∀ (d j : Nat) (as : List oeV) (hp : oeH) (Q : oeQ), oe_M d j as hp Q → oe_Met l D cA z d j as hp Q
  | 0, _, _, _, _, h => h.elim
  | d + 1, j, as, hp, Q, h => by
    rcases h with ⟨h6, h⟩ | ⟨hc, hal, hV⟩
    · exact hbi d j as hp Q h6 h
    intro ad sz hlen hhv hvs
    refine Met.ofW (cc := oe_by j) (maxL := oe_ml j) (ret := oe_ret j) (oe_plain j) rfl ?_
    intro p e s m args below meth c s₁ B hml hv
    obtain ⟨rfl, hsz, hP, hK, hD0, hN⟩ := hv
    have hts := atoms_spec (ws := oe_wj j) B.pre
    have hown : s.vm.findClass (oe_ow j) = some m.cls := by rw [oe_ow_y]; exact findClass_of_methodNamed B.named
    have hr := B.returns
    have hlocks := B.notSynchronized
    subst hsz
    have hD := hD0.self (sz := s.heap.size)
    have hA : ∀ q : Nat, s.heap.size ≤ q → va_A (oe_ws cA ad hp) s.heap.size q := fun q h => Or.inr h
    have hFx : oe_Fx p (headSpec (oe_wj j) (oe_rm (d + 1) j)).room s m (as.map (oe_val ad z)).toArray meth c j d D cA (va_A (oe_ws cA ad hp) s.heap.size) (oe_cost j) :=
      ⟨B.exec, B.bytes, hml, hown, fun w hw => hts w (List.mem_cons_of_mem _ hw), hK, fun hi => by rw [(name_of_methodNamed B.named B.method).1]; exact oe_ini_y j hi, hA, rfl, rfl, Nat.le_refl _, Nat.le_refl _, hN⟩
    rw [lg_entry_eq]
    refine (hV (oe_X p l e (headSpec (oe_wj j) (oe_rm (d + 1) j)).room s m (as.map (oe_val ad z)).toArray below meth c _ j D cA z (va_A (oe_ws cA ad hp) s.heap.size) ad (oe_cost j)) (oe_main hFx (fun q hq => by cases hq) ?_ (oe_sound hbi d))) (Nat.zero_le _) (Nat.zero_le _) ad s.heap _ [] ⟨hP, hD, va_S.rf, hlen, hhv, ⟨[], (List.append_nil _).symm⟩⟩ (oe_entF hc hal hvs)
    intro pc i ls ad' H locs k n hp' r hG hQ hvr hk hn hd hrt
    obtain ⟨hP', hD', hS', hlen', hhv', hex⟩ := hG
    refine W.widen (k := (oe_cost j).1) (n := (oe_cost j).2) hk hn ?_
    have hq : ∀ t : State, t.heap = H → s.WarmedH t.vm → oe_Qc D cA z ad Q (va_A (oe_ws cA ad hp) s.heap.size) (as.map (oe_val ad z)).toArray s (.returned (r.map (oe_val ad' z))) t := fun t ht hW =>
      ⟨⟨r, hp', ad', rfl, hQ, hex, hlen', hhv', hvr, by rw [ht]; exact hP', hD'⟩, hS'.F ht⟩
    rcases r with _ | x | a | y
    · obtain ⟨rfl, h0⟩ := hrt
      exact W.vret B.exec B.bytes (by rw [hr]; exact oe_rt_0 j h0) hq hS'.2.2 hd
    · obtain ⟨rfl, h0⟩ := hrt
      rcases h0 with h0 | ⟨h0, h1⟩ | ⟨h0, h1⟩
      · exact W.iret B.exec B.bytes (by rw [hr]; exact oe_rt_1 j h0) hq hS'.2.2 hd
      · refine W.zret (ty := .boolean) B.exec B.bytes (by rw [hr]; exact oe_rt_2 j h0) ?_ hq hS'.2.2 hd
        rcases h1 with rfl | rfl <;> rfl
      · refine W.zret (ty := .char) B.exec B.bytes (by rw [hr]; exact oe_rt_3 j h0) ?_ hq hS'.2.2 hd
        have e := oe_narc h1.1 h1.2
        unfold vp_nar at e
        exact congrArg Value.int e
    · obtain ⟨rfl, h0⟩ := hrt
      obtain ⟨rt, e1, e2⟩ := oe_rt_4 j h0
      exact W.aret (rt := rt) B.exec B.bytes (by rw [hr]; exact e1) e2 (Or.inr ⟨_, rfl⟩) hq hS'.2.2 hd
    · exact hrt.elim
end
section
/-! Walking in the small machine. -/
def oe_go (stop : List Nat) (lim : Nat × Nat) (j : Nat) (C : oeC) (sc : Option (Nat × (Nat → Int))) (Q : oeQ) : Nat → oeX
  | 0 => oe_V lim j C sc Q
  | f + 1 => fun pc L S hp k n => if pc ∈ stop then oe_V lim j C sc Q pc L S hp k n else oe_st lim j C sc Q (oe_go stop lim j C sc Q f) pc L S hp k n
theorem oe_V.go {stop : List Nat} {lim : Nat × Nat} {j : Nat} {C : oeC} {sc : Option (Nat × (Nat → Int))} {Q : oeQ} (hC : oe_Cm C) : ∀ (f pc : Nat) (L : List (Option oeV)) (S : List oeV) (hp : oeH) (k n : Nat), oe_go stop lim j C sc Q f pc L S hp k n → oe_V lim j C sc Q pc L S hp k n
  | 0, _, _, _, _, _, _, h => h
  | f + 1, pc, L, S, hp, k, n, h => by
    unfold oe_go at h
    split at h
    · exact h
    · exact oe_V.step hC (oe_st_mono hC (fun _ _ q => q) (fun _ _ _ _ _ _ q => oe_V.go hC f _ _ _ _ _ _ q) h)
/-- on to the next places of `stop` -/
theorem oe_V.run (f : Nat) (stop : List Nat) {lim : Nat × Nat} {j : Nat} {C : oeC} {sc : Option (Nat × (Nat → Int))} {Q : oeQ} {pc : Nat} {L : List (Option oeV)} {S : List oeV} {hp : oeH} {k n : Nat} (hC : oe_Cm C)
    (h : oe_st lim j C sc Q (oe_go stop lim j C sc Q f) pc L S hp k n) : oe_V lim j C sc Q pc L S hp k n :=
  oe_V.step hC (oe_st_mono hC (fun _ _ q => q) (fun _ _ _ _ _ _ q => oe_V.go hC f _ _ _ _ _ _ q) h)
theorem oe_M.of {d j : Nat} {as : List oeV} {hp : oeH} {Q : oeQ} (h1 : ∀ v ∈ as, oe_c1 v) (h2 : as.length ≤ oe_ml j) (h : oe_V (oe_cost j) j (oe_M d) none Q 0 (oe_ent j as) [] hp 0 0) : oe_M (d + 1) j as hp Q := Or.inr ⟨h1, h2, h⟩
end
section
/-! Less may be known of the places; and steps, an instruction each. -/
def oe_fg : List (Option oeV) → List (Option oeV) → Prop
  | [], [] => True
  | none :: A, _ :: B => oe_fg A B
  | some v :: A, b :: B => b = some v ∧ oe_fg A B
  | _, _ => False
theorem oe_fg_at {v : oeV} : ∀ {A B : List (Option oeV)} {i : Nat}, oe_fg A B → A[i]? = some (some v) → B[i]? = some (some v)
  | [], _, i, _, h => by simp at h
  | none :: A, [], _, h, _ => h.elim
  | some _ :: A, [], _, h, _ => h.elim
  | none :: A, b :: B, 0, _, h => by simp at h
  | none :: A, b :: B, i + 1, h, g => by
    rw [List.getElem?_cons_succ] at g ⊢
    exact oe_fg_at (A := A) h g
  | some w :: A, b :: B, 0, h, g => by
    rw [List.getElem?_cons_zero] at g ⊢
    rw [h.1]; exact g
  | some w :: A, b :: B, i + 1, h, g => by
    rw [List.getElem?_cons_succ] at g ⊢
    exact oe_fg_at (A := A) h.2 g
theorem oe_fg_set {v : oeV} : ∀ {A B : List (Option oeV)} {i : Nat}, oe_fg A B → oe_fg (A.set i (some v)) (B.set i (some v))
  | [], [], _, _ => trivial
  | [], _ :: _, _, h => h.elim
  | none :: A, [], _, h => h.elim
  | some _ :: A, [], _, h => h.elim
  | none :: A, b :: B, 0, h => ⟨rfl, h⟩
  | none :: A, b :: B, i + 1, h => oe_fg_set (A := A) (B := B) (i := i) h
  | some w :: A, b :: B, 0, h => ⟨rfl, h.2⟩
  | some w :: A, b :: B, i + 1, h => ⟨h.1, oe_fg_set (A := A) (B := B) (i := i) h.2⟩
theorem oe_lo_of {L : List (Option oeV)} {i : Nat} {v : oeV} {f : oeV → Prop} (h : L[i]? = some (some v)) : oe_lo L i f = f v := by
  unfold oe_lo
  rw [h]
theorem oe_call_fg {lim : Nat × Nat} {C : oeC} {X X' : oeX} {j np N : Nat} {A B : List (Option oeV)} {S : List oeV} {hp : oeH} {k n : Nat} (hC : oe_Cm C) (hX : ∀ pc S hp k n, X pc A S hp k n → X' pc B S hp k n)
    (h : oe_call lim C X j np N A S hp k n) : oe_call lim C X' j np N B S hp k n :=
  ⟨h.1, h.2.1, h.2.2.1, h.2.2.2.1, hC _ _ _ _ _ (fun _ _ q => hX _ _ _ _ _ q) h.2.2.2.2⟩
set_option maxHeartbeats 4000000 in
theorem oe_ins_fg {lim : Nat × Nat} {rt : Nat} {C : oeC} {sc : Option (Nat × (Nat → Int))} {Q : oeQ} {X X' : oeX} {i : Jvm.ClassFile.Instr} {N : Nat} {A B : List (Option oeV)} {S : List oeV} {hp : oeH} {k n : Nat}
    (hC : oe_Cm C) (hF : oe_fg A B) (hX : ∀ pc S hp k n, X pc A S hp k n → X' pc B S hp k n) (hXs : ∀ pc i v S hp k n, X pc (A.set i (some v)) S hp k n → X' pc (B.set i (some v)) S hp k n) (h : oe_ins lim rt C sc Q X i N A S hp k n) : oe_ins lim rt C sc Q X' i N B S hp k n := by
  cases i
  case iconst => exact hX _ _ _ _ _ h
  case bipush => exact hX _ _ _ _ _ h
  case sipush => exact hX _ _ _ _ _ h
  case ldc r =>
    unfold oe_ins at h ⊢
    dsimp only at h ⊢
    split
    · rename_i e; rw [if_pos e] at h; exact hX _ _ _ _ _ h
    · rename_i e; rw [if_neg e] at h; exact hX _ _ _ _ _ h
  case aconst_null => exact hX _ _ _ _ _ h
  case iload =>
    unfold oe_ins at h ⊢
    dsimp only at h ⊢
    obtain ⟨v, hv, h1⟩ := oe_lo_ex h
    rw [oe_lo_of (oe_fg_at hF hv)]
    exact oe_il_mono (fun _ q => hX _ _ _ _ _ q) h1
  case iload_n =>
    unfold oe_ins at h ⊢
    dsimp only at h ⊢
    obtain ⟨v, hv, h1⟩ := oe_lo_ex h
    rw [oe_lo_of (oe_fg_at hF hv)]
    exact oe_il_mono (fun _ q => hX _ _ _ _ _ q) h1
  case aload =>
    unfold oe_ins at h ⊢
    dsimp only at h ⊢
    obtain ⟨v, hv, h1⟩ := oe_lo_ex h
    rw [oe_lo_of (oe_fg_at hF hv)]
    exact oe_rl_mono (fun q => hX _ _ _ _ _ q) h1
  case aload_n =>
    unfold oe_ins at h ⊢
    dsimp only at h ⊢
    obtain ⟨v, hv, h1⟩ := oe_lo_ex h
    rw [oe_lo_of (oe_fg_at hF hv)]
    exact oe_rl_mono (fun q => hX _ _ _ _ _ q) h1
  case istore =>
    unfold oe_ins at h ⊢
    dsimp only at h ⊢
    exact oe_i1_mono (fun _ _ q => hXs _ _ _ _ _ _ _ q) h
  case istore_n =>
    unfold oe_ins at h ⊢
    dsimp only at h ⊢
    exact oe_i1_mono (fun _ _ q => hXs _ _ _ _ _ _ _ q) h
  case astore =>
    unfold oe_ins at h ⊢
    dsimp only at h ⊢
    exact oe_r1_mono (fun _ _ q => hXs _ _ _ _ _ _ _ q) h
  case astore_n =>
    unfold oe_ins at h ⊢
    dsimp only at h ⊢
    exact oe_r1_mono (fun _ _ q => hXs _ _ _ _ _ _ _ q) h
  case iinc =>
    unfold oe_ins at h ⊢
    dsimp only at h ⊢
    obtain ⟨v, hv, h1⟩ := oe_lo_ex h
    rw [oe_lo_of (oe_fg_at hF hv)]
    exact oe_il_mono (fun _ q => ⟨q.1, hXs _ _ _ _ _ _ _ q.2⟩) h1
  case iadd => exact oe_i2_mono (fun _ _ _ q => ⟨q.1, hX _ _ _ _ _ q.2⟩) h
  case isub => exact oe_i2_mono (fun _ _ _ q => ⟨q.1, hX _ _ _ _ _ q.2⟩) h
  case imul => exact oe_i2_mono (fun _ _ _ q => ⟨q.1, hX _ _ _ _ _ q.2⟩) h
  case idiv => exact oe_i2_mono (fun _ _ _ q => ⟨q.1, q.2.1, hX _ _ _ _ _ q.2.2⟩) h
  case irem => exact oe_i2_mono (fun _ _ _ q => ⟨q.1, q.2.1, hX _ _ _ _ _ q.2.2⟩) h
  case iand => exact oe_i2_mono (fun _ _ _ q => ⟨q.1, hX _ _ _ _ _ q.2⟩) h
  case i2c => exact oe_i1_mono (fun _ _ q => hX _ _ _ _ _ q) h
  case i2l => exact oe_i1_mono (fun _ _ q => hX _ _ _ _ _ q) h
  case lcmp => exact oe_l2_mono (fun _ _ _ q => hX _ _ _ _ _ q) h
  case dup =>
    match S, h with
    | _ :: _, h => exact ⟨h.1, hX _ _ _ _ _ h.2⟩
  case dup_x1 =>
    match S, h with
    | _ :: _ :: _, h => exact ⟨h.1, h.2.1, hX _ _ _ _ _ h.2.2⟩
  case dup2 =>
    match S, h with
    | _ :: _ :: _, h => exact ⟨h.1, h.2.1, hX _ _ _ _ _ h.2.2⟩
  case pop =>
    match S, h with
    | _ :: _, h => exact ⟨h.1, hX _ _ _ _ _ h.2⟩
  case ifCond => exact oe_i1_mono (fun _ _ q => oe_br_mono (fun q => hX _ _ _ _ _ q) (fun q => hX _ _ _ _ _ q) q) h
  case if_icmp => exact oe_i2_mono (fun _ _ _ q => oe_br_mono (fun q => hX _ _ _ _ _ q) (fun q => hX _ _ _ _ _ q) q) h
  case ifnull =>
    unfold oe_ins at h ⊢
    dsimp only at h ⊢
    split at h
    · exact hX _ _ _ _ _ h
    · exact hX _ _ _ _ _ h
    · exact h.elim
  case ifnonnull =>
    unfold oe_ins at h ⊢
    dsimp only at h ⊢
    split at h
    · exact hX _ _ _ _ _ h
    · exact hX _ _ _ _ _ h
    · exact h.elim
  case goto => exact hX _ _ _ _ _ h
  case tableswitch => exact oe_i1_mono (fun _ _ q => ⟨fun z => hX _ _ _ _ _ (q.1 z), fun t a b c => hX _ _ _ _ _ (q.2 t a b c)⟩) h
  case lookupswitch => exact oe_i1_mono (fun _ _ q => hX _ _ _ _ _ q) h
  case getfield => exact oe_r1_mono (fun _ _ q => oe_gf_mono (fun _ q => hX _ _ _ _ _ q) q) h
  case putfield =>
    unfold oe_ins at h ⊢
    dsimp only at h ⊢
    exact oe_pf_mono (fun _ _ q => hX _ _ _ _ _ q) h
  case iaload =>
    unfold oe_ins at h ⊢
    dsimp only at h ⊢
    split at h
    · exact ⟨h.1, h.2.1, hX _ _ _ _ _ h.2.2⟩
    · refine oe_ald_mono ?_ h
      exact (fun _ _ _ q => hX _ _ _ _ _ q)
  case caload =>
    unfold oe_ins at h ⊢
    dsimp only at h ⊢
    exact oe_ald_mono (fun _ _ _ q => hX _ _ _ _ _ q) h
  case baload =>
    unfold oe_ins at h ⊢
    dsimp only at h ⊢
    exact oe_ald_mono (fun _ _ _ q => hX _ _ _ _ _ q) h
  case laload =>
    unfold oe_ins at h ⊢
    dsimp only at h ⊢
    exact oe_ald_mono (fun _ _ _ q => hX _ _ _ _ _ q) h
  case aaload =>
    unfold oe_ins at h ⊢
    dsimp only at h ⊢
    refine oe_ald_mono ?_ h
    intro a i T q
    split
    · rename_i w hw
      rw [hw] at q
      exact hX _ _ _ _ _ q
    · rename_i hw
      rw [hw] at q
      exact hX _ _ _ _ _ q
  case iastore =>
    unfold oe_ins at h ⊢
    dsimp only at h ⊢
    exact oe_ast_mono (fun _ _ _ _ q => hX _ _ _ _ _ q) h
  case castore =>
    unfold oe_ins at h ⊢
    dsimp only at h ⊢
    exact oe_ast_mono (fun _ _ _ _ q => ⟨q.1, q.2.1, hX _ _ _ _ _ q.2.2⟩) h
  case bastore =>
    unfold oe_ins at h ⊢
    dsimp only at h ⊢
    exact oe_ast_mono (fun _ _ _ _ q => ⟨q.1, hX _ _ _ _ _ q.2⟩) h
  case lastore =>
    obtain ⟨v, i, a, T, rfl, h2⟩ := oe_lir_ex h
    unfold oe_ins
    dsimp only
    unfold oe_lir
    exact oe_sh_mono (fun _ _ q => ⟨q.1, q.2.1, q.2.2.1, hX _ _ _ _ _ q.2.2.2⟩) h2
  case aastore =>
    obtain ⟨v, i, a, T, rfl, h2⟩ := oe_rir_ex h
    unfold oe_ins
    dsimp only
    unfold oe_rir
    exact ⟨h2.1, oe_sh_mono (fun _ _ q => ⟨q.1, q.2.1, q.2.2.1, hX _ _ _ _ _ q.2.2.2⟩) h2.2⟩
  case arraylength =>
    unfold oe_ins at h ⊢
    dsimp only at h ⊢
    split at h
    · exact hX _ _ _ _ _ h
    · exact oe_r1_mono (fun _ _ q => oe_sh_mono (fun _ _ q => ⟨q.1, hX _ _ _ _ _ q.2⟩) q) h
  case newarray => exact oe_i1_mono (fun _ _ q => ⟨q.1, q.2.1, q.2.2.1, q.2.2.2.1, hX _ _ _ _ _ q.2.2.2.2⟩) h
  case anewarray => exact oe_i1_mono (fun _ _ q => ⟨q.1, q.2.1, q.2.2.1, q.2.2.2.1, hX _ _ _ _ _ q.2.2.2.2⟩) h
  case new => exact ⟨h.1, h.2.1, hX _ _ _ _ _ h.2.2⟩
  case invokestatic r =>
    unfold oe_ins at h ⊢
    dsimp only at h ⊢
    split
    · rename_i e; rw [if_pos e] at h; exact oe_copy_mono (fun _ _ q => hX _ _ _ _ _ q) h
    · rename_i e; rw [if_neg e] at h; exact oe_call_fg hC hX h
  case invokespecial r =>
    unfold oe_ins at h ⊢
    dsimp only at h ⊢
    split
    · rename_i e; rw [if_pos e] at h; exact oe_r1_mono (fun _ _ q => ⟨q.1, hX _ _ _ _ _ q.2⟩) h
    · rename_i e
      rw [if_neg e] at h
      split at h
      · exact oe_call_fg hC hX h
      · exact h.elim
  case invokevirtual r =>
    unfold oe_ins at h ⊢
    dsimp only at h ⊢
    split at h
    · exact ⟨h.1, oe_call_fg hC hX h.2⟩
    · exact h.elim
  case ireturn =>
    unfold oe_ins at h ⊢
    dsimp only at h ⊢
    split at h
    · exact ⟨h.1, h.2⟩
    · exact h.elim
  case areturn =>
    unfold oe_ins at h ⊢
    dsimp only at h ⊢
    split at h
    · exact ⟨h.1, h.2⟩
    · exact h.elim
  case return_ => exact ⟨h.1, h.2.1, h.2.2⟩
  all_goals exact h.elim
theorem oe_V.fg {lim : Nat × Nat} {j : Nat} {C : oeC} {sc : Option (Nat × (Nat → Int))} {Q : oeQ} (hC : oe_Cm C) {pc : Nat} {A B : List (Option oeV)} {S : List oeV} {hp : oeH} {k n : Nat} (hF : oe_fg A B) (h : oe_V lim j C sc Q pc A S hp k n) : oe_V lim j C sc Q pc B S hp k n := by
  refine h (fun pc A S hp k n => ∀ B, oe_fg A B → oe_V lim j C sc Q pc B S hp k n) ?_ B hF
  intro pc A S hp k n h B hF
  refine oe_V.step hC ?_
  unfold oe_st at h ⊢
  split at h
  · exact oe_ins_fg hC hF (fun _ _ _ _ _ q => q B hF) (fun _ _ _ _ _ _ _ q => q _ (oe_fg_set hF)) h
  · exact h.elim
theorem s_0 {lim : Nat × Nat} {j d : Nat} {sc : Option (Nat × (Nat → Int))} {Q : oeQ} {pc len : Nat} {L : List (Option oeV)} {S : List oeV} {hp : oeH} {k n : Nat} {i : Jvm.ClassFile.Instr} (hf : oe_find (oe_code j) pc = some (i, len)) (h : oe_ins lim (oe_rt j) (oe_M d) sc Q (oe_V lim j (oe_M d) sc Q) i (pc + len) L S hp k n) : oe_V lim j (oe_M d) sc Q pc L S hp k n := by
  refine oe_V.step (oe_M_mono d) ?_
  unfold oe_st
  rw [hf]
  exact h
theorem s_iconst {lim : Nat × Nat} {j d : Nat} {sc : Option (Nat × (Nat → Int))} {Q : oeQ} {pc len : Nat} {L : List (Option oeV)} {S : List oeV} {sh : List (Nat × Nat)} {g : Nat → Nat → Option Nat} {h : Nat → Nat → Int} {k n : Nat} {v : Int} (hf : oe_find (oe_code j) pc = some (.iconst v, len)) (kk : oe_V lim j (oe_M d) sc Q (pc + len) L (.inl v :: S) (sh, g, h) k n) : oe_V lim j (oe_M d) sc Q pc L S (sh, g, h) k n := s_0 hf kk
theorem s_bipush {lim : Nat × Nat} {j d : Nat} {sc : Option (Nat × (Nat → Int))} {Q : oeQ} {pc len : Nat} {L : List (Option oeV)} {S : List oeV} {sh : List (Nat × Nat)} {g : Nat → Nat → Option Nat} {h : Nat → Nat → Int} {k n : Nat} {v : Int} (hf : oe_find (oe_code j) pc = some (.bipush v, len)) (kk : oe_V lim j (oe_M d) sc Q (pc + len) L (.inl v :: S) (sh, g, h) k n) : oe_V lim j (oe_M d) sc Q pc L S (sh, g, h) k n := s_0 hf kk
theorem s_sipush {lim : Nat × Nat} {j d : Nat} {sc : Option (Nat × (Nat → Int))} {Q : oeQ} {pc len : Nat} {L : List (Option oeV)} {S : List oeV} {sh : List (Nat × Nat)} {g : Nat → Nat → Option Nat} {h : Nat → Nat → Int} {k n : Nat} {v : Int} (hf : oe_find (oe_code j) pc = some (.sipush v, len)) (kk : oe_V lim j (oe_M d) sc Q (pc + len) L (.inl v :: S) (sh, g, h) k n) : oe_V lim j (oe_M d) sc Q pc L S (sh, g, h) k n := s_0 hf kk
theorem s_ldc {lim : Nat × Nat} {j d : Nat} {sc : Option (Nat × (Nat → Int))} {Q : oeQ} {pc len : Nat} {L : List (Option oeV)} {S : List oeV} {sh : List (Nat × Nat)} {g : Nat → Nat → Option Nat} {h : Nat → Nat → Int} {k n : Nat} {r : Nat} (hf : oe_find (oe_code j) pc = some (.ldc r, len)) (hr : r % 2 = 1) (kk : oe_V lim j (oe_M d) sc Q (pc + len) L (.inl (r / 2 : Nat) :: S) (sh, g, h) k n) : oe_V lim j (oe_M d) sc Q pc L S (sh, g, h) k n := s_0 hf (by unfold oe_ins; dsimp only; rw [if_pos hr]; exact kk)
theorem s_null {lim : Nat × Nat} {j d : Nat} {sc : Option (Nat × (Nat → Int))} {Q : oeQ} {pc len : Nat} {L : List (Option oeV)} {S : List oeV} {sh : List (Nat × Nat)} {g : Nat → Nat → Option Nat} {h : Nat → Nat → Int} {k n : Nat} (hf : oe_find (oe_code j) pc = some (.aconst_null, len)) (kk : oe_V lim j (oe_M d) sc Q (pc + len) L (.inr (.inr (1, 0)) :: S) (sh, g, h) k n) : oe_V lim j (oe_M d) sc Q pc L S (sh, g, h) k n := s_0 hf kk
theorem s_iload {lim : Nat × Nat} {j d : Nat} {sc : Option (Nat × (Nat → Int))} {Q : oeQ} {pc len : Nat} {L : List (Option oeV)} {S : List oeV} {sh : List (Nat × Nat)} {g : Nat → Nat → Option Nat} {h : Nat → Nat → Int} {k n : Nat} {i : Nat} {x : Int} (hf : oe_find (oe_code j) pc = some (.iload i, len)) (hl : L[i]? = some (some (.inl x))) (kk : oe_V lim j (oe_M d) sc Q (pc + len) L (.inl x :: S) (sh, g, h) k n) : oe_V lim j (oe_M d) sc Q pc L S (sh, g, h) k n := s_0 hf (by unfold oe_ins; dsimp only; rw [oe_lo_of hl]; exact kk)
theorem s_iload_n {lim : Nat × Nat} {j d : Nat} {sc : Option (Nat × (Nat → Int))} {Q : oeQ} {pc len : Nat} {L : List (Option oeV)} {S : List oeV} {sh : List (Nat × Nat)} {g : Nat → Nat → Option Nat} {h : Nat → Nat → Int} {k n : Nat} {i : Fin 4} {x : Int} (hf : oe_find (oe_code j) pc = some (.iload_n i, len)) (hl : L[(i : Nat)]? = some (some (.inl x))) (kk : oe_V lim j (oe_M d) sc Q (pc + len) L (.inl x :: S) (sh, g, h) k n) : oe_V lim j (oe_M d) sc Q pc L S (sh, g, h) k n := s_0 hf (by unfold oe_ins; dsimp only; rw [oe_lo_of hl]; exact kk)
theorem s_aload {lim : Nat × Nat} {j d : Nat} {sc : Option (Nat × (Nat → Int))} {Q : oeQ} {pc len : Nat} {L : List (Option oeV)} {S : List oeV} {sh : List (Nat × Nat)} {g : Nat → Nat → Option Nat} {h : Nat → Nat → Int} {k n : Nat} {i : Nat} {a : Nat} (hf : oe_find (oe_code j) pc = some (.aload i, len)) (hl : L[i]? = some (some (.inr (.inl a)))) (kk : oe_V lim j (oe_M d) sc Q (pc + len) L (.inr (.inl a) :: S) (sh, g, h) k n) : oe_V lim j (oe_M d) sc Q pc L S (sh, g, h) k n := s_0 hf (by unfold oe_ins; dsimp only; rw [oe_lo_of hl]; exact kk)
theorem s_aload_n {lim : Nat × Nat} {j d : Nat} {sc : Option (Nat × (Nat → Int))} {Q : oeQ} {pc len : Nat} {L : List (Option oeV)} {S : List oeV} {sh : List (Nat × Nat)} {g : Nat → Nat → Option Nat} {h : Nat → Nat → Int} {k n : Nat} {i : Fin 4} {a : Nat} (hf : oe_find (oe_code j) pc = some (.aload_n i, len)) (hl : L[(i : Nat)]? = some (some (.inr (.inl a)))) (kk : oe_V lim j (oe_M d) sc Q (pc + len) L (.inr (.inl a) :: S) (sh, g, h) k n) : oe_V lim j (oe_M d) sc Q pc L S (sh, g, h) k n := s_0 hf (by unfold oe_ins; dsimp only; rw [oe_lo_of hl]; exact kk)
theorem s_aload_s {lim : Nat × Nat} {j d : Nat} {sc : Option (Nat × (Nat → Int))} {Q : oeQ} {pc len : Nat} {L : List (Option oeV)} {S : List oeV} {sh : List (Nat × Nat)} {g : Nat → Nat → Option Nat} {h : Nat → Nat → Int} {k n : Nat} {i : Fin 4} {x : Int} (hf : oe_find (oe_code j) pc = some (.aload_n i, len)) (hl : L[(i : Nat)]? = some (some (.inr (.inr (3, x))))) (kk : oe_V lim j (oe_M d) sc Q (pc + len) L (.inr (.inr (3, x)) :: S) (sh, g, h) k n) : oe_V lim j (oe_M d) sc Q pc L S (sh, g, h) k n := s_0 hf (by unfold oe_ins; dsimp only; rw [oe_lo_of hl]; exact kk)
theorem s_istore {lim : Nat × Nat} {j d : Nat} {sc : Option (Nat × (Nat → Int))} {Q : oeQ} {pc len : Nat} {L : List (Option oeV)} {S : List oeV} {sh : List (Nat × Nat)} {g : Nat → Nat → Option Nat} {h : Nat → Nat → Int} {k n : Nat} {i : Nat} {x : Int} (hf : oe_find (oe_code j) pc = some (.istore i, len)) (kk : oe_V lim j (oe_M d) sc Q (pc + len) (L.set i (some (.inl x))) S (sh, g, h) k n) : oe_V lim j (oe_M d) sc Q pc L (.inl x :: S) (sh, g, h) k n := s_0 hf kk
theorem s_istore_n {lim : Nat × Nat} {j d : Nat} {sc : Option (Nat × (Nat → Int))} {Q : oeQ} {pc len : Nat} {L : List (Option oeV)} {S : List oeV} {sh : List (Nat × Nat)} {g : Nat → Nat → Option Nat} {h : Nat → Nat → Int} {k n : Nat} {i : Fin 4} {x : Int} (hf : oe_find (oe_code j) pc = some (.istore_n i, len)) (kk : oe_V lim j (oe_M d) sc Q (pc + len) (L.set (i : Nat) (some (.inl x))) S (sh, g, h) k n) : oe_V lim j (oe_M d) sc Q pc L (.inl x :: S) (sh, g, h) k n := s_0 hf kk
theorem s_astore {lim : Nat × Nat} {j d : Nat} {sc : Option (Nat × (Nat → Int))} {Q : oeQ} {pc len : Nat} {L : List (Option oeV)} {S : List oeV} {sh : List (Nat × Nat)} {g : Nat → Nat → Option Nat} {h : Nat → Nat → Int} {k n : Nat} {i : Nat} {a : Nat} (hf : oe_find (oe_code j) pc = some (.astore i, len)) (kk : oe_V lim j (oe_M d) sc Q (pc + len) (L.set i (some (.inr (.inl a)))) S (sh, g, h) k n) : oe_V lim j (oe_M d) sc Q pc L (.inr (.inl a) :: S) (sh, g, h) k n := s_0 hf kk
theorem s_astore_n {lim : Nat × Nat} {j d : Nat} {sc : Option (Nat × (Nat → Int))} {Q : oeQ} {pc len : Nat} {L : List (Option oeV)} {S : List oeV} {sh : List (Nat × Nat)} {g : Nat → Nat → Option Nat} {h : Nat → Nat → Int} {k n : Nat} {i : Fin 4} {a : Nat} (hf : oe_find (oe_code j) pc = some (.astore_n i, len)) (kk : oe_V lim j (oe_M d) sc Q (pc + len) (L.set (i : Nat) (some (.inr (.inl a)))) S (sh, g, h) k n) : oe_V lim j (oe_M d) sc Q pc L (.inr (.inl a) :: S) (sh, g, h) k n := s_0 hf kk
theorem s_iinc {lim : Nat × Nat} {j d : Nat} {sc : Option (Nat × (Nat → Int))} {Q : oeQ} {pc len : Nat} {L : List (Option oeV)} {S : List oeV} {sh : List (Nat × Nat)} {g : Nat → Nat → Option Nat} {h : Nat → Nat → Int} {k n : Nat} {i : Nat} {x v : Int} (hf : oe_find (oe_code j) pc = some (.iinc i v, len)) (hl : L[i]? = some (some (.inl x))) (hr : oe_rg (x + v)) (kk : oe_V lim j (oe_M d) sc Q (pc + len) (L.set i (some (.inl (x + v)))) S (sh, g, h) k n) : oe_V lim j (oe_M d) sc Q pc L S (sh, g, h) k n := s_0 hf (by unfold oe_ins; dsimp only; rw [oe_lo_of hl]; exact ⟨hr, kk⟩)
theorem s_iadd {lim : Nat × Nat} {j d : Nat} {sc : Option (Nat × (Nat → Int))} {Q : oeQ} {pc len : Nat} {L : List (Option oeV)} {S : List oeV} {sh : List (Nat × Nat)} {g : Nat → Nat → Option Nat} {h : Nat → Nat → Int} {k n : Nat} {x y : Int} (hf : oe_find (oe_code j) pc = some (.iadd, len)) (hr : oe_rg (x + y)) (kk : oe_V lim j (oe_M d) sc Q (pc + len) L (.inl (x + y) :: S) (sh, g, h) k n) : oe_V lim j (oe_M d) sc Q pc L (.inl y :: .inl x :: S) (sh, g, h) k n := s_0 hf ⟨hr, kk⟩
theorem s_isub {lim : Nat × Nat} {j d : Nat} {sc : Option (Nat × (Nat → Int))} {Q : oeQ} {pc len : Nat} {L : List (Option oeV)} {S : List oeV} {sh : List (Nat × Nat)} {g : Nat → Nat → Option Nat} {h : Nat → Nat → Int} {k n : Nat} {x y : Int} (hf : oe_find (oe_code j) pc = some (.isub, len)) (hr : oe_rg (x - y)) (kk : oe_V lim j (oe_M d) sc Q (pc + len) L (.inl (x - y) :: S) (sh, g, h) k n) : oe_V lim j (oe_M d) sc Q pc L (.inl y :: .inl x :: S) (sh, g, h) k n := s_0 hf ⟨hr, kk⟩
theorem s_imul {lim : Nat × Nat} {j d : Nat} {sc : Option (Nat × (Nat → Int))} {Q : oeQ} {pc len : Nat} {L : List (Option oeV)} {S : List oeV} {sh : List (Nat × Nat)} {g : Nat → Nat → Option Nat} {h : Nat → Nat → Int} {k n : Nat} {x y : Int} (hf : oe_find (oe_code j) pc = some (.imul, len)) (hr : oe_rg (x * y)) (kk : oe_V lim j (oe_M d) sc Q (pc + len) L (.inl (x * y) :: S) (sh, g, h) k n) : oe_V lim j (oe_M d) sc Q pc L (.inl y :: .inl x :: S) (sh, g, h) k n := s_0 hf ⟨hr, kk⟩
theorem s_idiv {lim : Nat × Nat} {j d : Nat} {sc : Option (Nat × (Nat → Int))} {Q : oeQ} {pc len : Nat} {L : List (Option oeV)} {S : List oeV} {sh : List (Nat × Nat)} {g : Nat → Nat → Option Nat} {h : Nat → Nat → Int} {k n : Nat} {x y : Int} (hf : oe_find (oe_code j) pc = some (.idiv, len)) (h0 : 0 ≤ x) (h1 : 0 < y) (kk : oe_V lim j (oe_M d) sc Q (pc + len) L (.inl (x / y) :: S) (sh, g, h) k n) : oe_V lim j (oe_M d) sc Q pc L (.inl y :: .inl x :: S) (sh, g, h) k n := s_0 hf ⟨h0, h1, kk⟩
theorem s_irem {lim : Nat × Nat} {j d : Nat} {sc : Option (Nat × (Nat → Int))} {Q : oeQ} {pc len : Nat} {L : List (Option oeV)} {S : List oeV} {sh : List (Nat × Nat)} {g : Nat → Nat → Option Nat} {h : Nat → Nat → Int} {k n : Nat} {x y : Int} (hf : oe_find (oe_code j) pc = some (.irem, len)) (h0 : 0 ≤ x) (h1 : 0 < y) (kk : oe_V lim j (oe_M d) sc Q (pc + len) L (.inl (x % y) :: S) (sh, g, h) k n) : oe_V lim j (oe_M d) sc Q pc L (.inl y :: .inl x :: S) (sh, g, h) k n := s_0 hf ⟨h0, h1, kk⟩
theorem s_iand {lim : Nat × Nat} {j d : Nat} {sc : Option (Nat × (Nat → Int))} {Q : oeQ} {pc len : Nat} {L : List (Option oeV)} {S : List oeV} {sh : List (Nat × Nat)} {g : Nat → Nat → Option Nat} {h : Nat → Nat → Int} {k n : Nat} {x : Int} (hf : oe_find (oe_code j) pc = some (.iand, len)) (kk : oe_V lim j (oe_M d) sc Q (pc + len) L (.inl (x % 16) :: S) (sh, g, h) k n) : oe_V lim j (oe_M d) sc Q pc L (.inl 15 :: .inl x :: S) (sh, g, h) k n := s_0 hf ⟨rfl, kk⟩
theorem s_i2c {lim : Nat × Nat} {j d : Nat} {sc : Option (Nat × (Nat → Int))} {Q : oeQ} {pc len : Nat} {L : List (Option oeV)} {S : List oeV} {sh : List (Nat × Nat)} {g : Nat → Nat → Option Nat} {h : Nat → Nat → Int} {k n : Nat} {x : Int} (hf : oe_find (oe_code j) pc = some (.i2c, len)) (kk : oe_V lim j (oe_M d) sc Q (pc + len) L (.inl (x % 65536) :: S) (sh, g, h) k n) : oe_V lim j (oe_M d) sc Q pc L (.inl x :: S) (sh, g, h) k n := s_0 hf kk
theorem s_i2l {lim : Nat × Nat} {j d : Nat} {sc : Option (Nat × (Nat → Int))} {Q : oeQ} {pc len : Nat} {L : List (Option oeV)} {S : List oeV} {sh : List (Nat × Nat)} {g : Nat → Nat → Option Nat} {h : Nat → Nat → Int} {k n : Nat} {x : Int} (hf : oe_find (oe_code j) pc = some (.i2l, len)) (kk : oe_V lim j (oe_M d) sc Q (pc + len) L (.inr (.inr (0, x)) :: S) (sh, g, h) k n) : oe_V lim j (oe_M d) sc Q pc L (.inl x :: S) (sh, g, h) k n := s_0 hf kk
theorem s_lcmp {lim : Nat × Nat} {j d : Nat} {sc : Option (Nat × (Nat → Int))} {Q : oeQ} {pc len : Nat} {L : List (Option oeV)} {S : List oeV} {sh : List (Nat × Nat)} {g : Nat → Nat → Option Nat} {h : Nat → Nat → Int} {k n : Nat} {x y : Int} (hf : oe_find (oe_code j) pc = some (.lcmp, len)) (kk : oe_V lim j (oe_M d) sc Q (pc + len) L (.inl (if y < x then 1 else if x = y then 0 else -1) :: S) (sh, g, h) k n) : oe_V lim j (oe_M d) sc Q pc L (.inr (.inr (0, y)) :: .inr (.inr (0, x)) :: S) (sh, g, h) k n := s_0 hf kk
theorem s_dup {lim : Nat × Nat} {j d : Nat} {sc : Option (Nat × (Nat → Int))} {Q : oeQ} {pc len : Nat} {L : List (Option oeV)} {S : List oeV} {sh : List (Nat × Nat)} {g : Nat → Nat → Option Nat} {h : Nat → Nat → Int} {k n : Nat} {v : oeV} (hf : oe_find (oe_code j) pc = some (.dup, len)) (hv : oe_c1 v) (kk : oe_V lim j (oe_M d) sc Q (pc + len) L (v :: v :: S) (sh, g, h) k n) : oe_V lim j (oe_M d) sc Q pc L (v :: S) (sh, g, h) k n := s_0 hf ⟨hv, kk⟩
theorem s_dup2 {lim : Nat × Nat} {j d : Nat} {sc : Option (Nat × (Nat → Int))} {Q : oeQ} {pc len : Nat} {L : List (Option oeV)} {S : List oeV} {sh : List (Nat × Nat)} {g : Nat → Nat → Option Nat} {h : Nat → Nat → Int} {k n : Nat} {v w : oeV} (hf : oe_find (oe_code j) pc = some (.dup2, len)) (hv : oe_c1 v) (hw : oe_c1 w) (kk : oe_V lim j (oe_M d) sc Q (pc + len) L (v :: w :: v :: w :: S) (sh, g, h) k n) : oe_V lim j (oe_M d) sc Q pc L (v :: w :: S) (sh, g, h) k n := s_0 hf ⟨hv, hw, kk⟩
theorem s_pop {lim : Nat × Nat} {j d : Nat} {sc : Option (Nat × (Nat → Int))} {Q : oeQ} {pc len : Nat} {L : List (Option oeV)} {S : List oeV} {sh : List (Nat × Nat)} {g : Nat → Nat → Option Nat} {h : Nat → Nat → Int} {k n : Nat} {v : oeV} (hf : oe_find (oe_code j) pc = some (.pop, len)) (hv : oe_c1 v) (kk : oe_V lim j (oe_M d) sc Q (pc + len) L S (sh, g, h) k n) : oe_V lim j (oe_M d) sc Q pc L (v :: S) (sh, g, h) k n := s_0 hf ⟨hv, kk⟩
theorem s_if_eq {lim : Nat × Nat} {j d : Nat} {sc : Option (Nat × (Nat → Int))} {Q : oeQ} {pc len : Nat} {L : List (Option oeV)} {S : List oeV} {sh : List (Nat × Nat)} {g : Nat → Nat → Option Nat} {h : Nat → Nat → Int} {k n : Nat} {x t : Int} (hf : oe_find (oe_code j) pc = some (.ifCond .eq t, len)) (kt : x = 0 → oe_V lim j (oe_M d) sc Q t.toNat L S (sh, g, h) k n) (kf : x ≠ 0 → oe_V lim j (oe_M d) sc Q (pc + len) L S (sh, g, h) k n) : oe_V lim j (oe_M d) sc Q pc L (.inl x :: S) (sh, g, h) k n := s_0 hf ⟨kt, kf⟩
theorem s_ic_eq {lim : Nat × Nat} {j d : Nat} {sc : Option (Nat × (Nat → Int))} {Q : oeQ} {pc len : Nat} {L : List (Option oeV)} {S : List oeV} {sh : List (Nat × Nat)} {g : Nat → Nat → Option Nat} {h : Nat → Nat → Int} {k n : Nat} {x y t : Int} (hf : oe_find (oe_code j) pc = some (.if_icmp .eq t, len)) (kt : x = y → oe_V lim j (oe_M d) sc Q t.toNat L S (sh, g, h) k n) (kf : x ≠ y → oe_V lim j (oe_M d) sc Q (pc + len) L S (sh, g, h) k n) : oe_V lim j (oe_M d) sc Q pc L (.inl y :: .inl x :: S) (sh, g, h) k n := s_0 hf ⟨kt, kf⟩
theorem s_if_ne {lim : Nat × Nat} {j d : Nat} {sc : Option (Nat × (Nat → Int))} {Q : oeQ} {pc len : Nat} {L : List (Option oeV)} {S : List oeV} {sh : List (Nat × Nat)} {g : Nat → Nat → Option Nat} {h : Nat → Nat → Int} {k n : Nat} {x t : Int} (hf : oe_find (oe_code j) pc = some (.ifCond .ne t, len)) (kt : x ≠ 0 → oe_V lim j (oe_M d) sc Q t.toNat L S (sh, g, h) k n) (kf : x = 0 → oe_V lim j (oe_M d) sc Q (pc + len) L S (sh, g, h) k n) : oe_V lim j (oe_M d) sc Q pc L (.inl x :: S) (sh, g, h) k n := s_0 hf ⟨kt, kf⟩
theorem s_ic_ne {lim : Nat × Nat} {j d : Nat} {sc : Option (Nat × (Nat → Int))} {Q : oeQ} {pc len : Nat} {L : List (Option oeV)} {S : List oeV} {sh : List (Nat × Nat)} {g : Nat → Nat → Option Nat} {h : Nat → Nat → Int} {k n : Nat} {x y t : Int} (hf : oe_find (oe_code j) pc = some (.if_icmp .ne t, len)) (kt : x ≠ y → oe_V lim j (oe_M d) sc Q t.toNat L S (sh, g, h) k n) (kf : x = y → oe_V lim j (oe_M d) sc Q (pc + len) L S (sh, g, h) k n) : oe_V lim j (oe_M d) sc Q pc L (.inl y :: .inl x :: S) (sh, g, h) k n := s_0 hf ⟨kt, kf⟩
theorem s_if_lt {lim : Nat × Nat} {j d : Nat} {sc : Option (Nat × (Nat → Int))} {Q : oeQ} {pc len : Nat} {L : List (Option oeV)} {S : List oeV} {sh : List (Nat × Nat)} {g : Nat → Nat → Option Nat} {h : Nat → Nat → Int} {k n : Nat} {x t : Int} (hf : oe_find (oe_code j) pc = some (.ifCond .lt t, len)) (kt : x < 0 → oe_V lim j (oe_M d) sc Q t.toNat L S (sh, g, h) k n) (kf : 0 ≤ x → oe_V lim j (oe_M d) sc Q (pc + len) L S (sh, g, h) k n) : oe_V lim j (oe_M d) sc Q pc L (.inl x :: S) (sh, g, h) k n := s_0 hf ⟨kt, kf⟩
theorem s_ic_lt {lim : Nat × Nat} {j d : Nat} {sc : Option (Nat × (Nat → Int))} {Q : oeQ} {pc len : Nat} {L : List (Option oeV)} {S : List oeV} {sh : List (Nat × Nat)} {g : Nat → Nat → Option Nat} {h : Nat → Nat → Int} {k n : Nat} {x y t : Int} (hf : oe_find (oe_code j) pc = some (.if_icmp .lt t, len)) (kt : x < y → oe_V lim j (oe_M d) sc Q t.toNat L S (sh, g, h) k n) (kf : y ≤ x → oe_V lim j (oe_M d) sc Q (pc + len) L S (sh, g, h) k n) : oe_V lim j (oe_M d) sc Q pc L (.inl y :: .inl x :: S) (sh, g, h) k n := s_0 hf ⟨kt, kf⟩
theorem s_if_ge {lim : Nat × Nat} {j d : Nat} {sc : Option (Nat × (Nat → Int))} {Q : oeQ} {pc len : Nat} {L : List (Option oeV)} {S : List oeV} {sh : List (Nat × Nat)} {g : Nat → Nat → Option Nat} {h : Nat → Nat → Int} {k n : Nat} {x t : Int} (hf : oe_find (oe_code j) pc = some (.ifCond .ge t, len)) (kt : 0 ≤ x → oe_V lim j (oe_M d) sc Q t.toNat L S (sh, g, h) k n) (kf : x < 0 → oe_V lim j (oe_M d) sc Q (pc + len) L S (sh, g, h) k n) : oe_V lim j (oe_M d) sc Q pc L (.inl x :: S) (sh, g, h) k n := s_0 hf ⟨kt, kf⟩
theorem s_ic_ge {lim : Nat × Nat} {j d : Nat} {sc : Option (Nat × (Nat → Int))} {Q : oeQ} {pc len : Nat} {L : List (Option oeV)} {S : List oeV} {sh : List (Nat × Nat)} {g : Nat → Nat → Option Nat} {h : Nat → Nat → Int} {k n : Nat} {x y t : Int} (hf : oe_find (oe_code j) pc = some (.if_icmp .ge t, len)) (kt : y ≤ x → oe_V lim j (oe_M d) sc Q t.toNat L S (sh, g, h) k n) (kf : x < y → oe_V lim j (oe_M d) sc Q (pc + len) L S (sh, g, h) k n) : oe_V lim j (oe_M d) sc Q pc L (.inl y :: .inl x :: S) (sh, g, h) k n := s_0 hf ⟨kt, kf⟩
theorem s_if_gt {lim : Nat × Nat} {j d : Nat} {sc : Option (Nat × (Nat → Int))} {Q : oeQ} {pc len : Nat} {L : List (Option oeV)} {S : List oeV} {sh : List (Nat × Nat)} {g : Nat → Nat → Option Nat} {h : Nat → Nat → Int} {k n : Nat} {x t : Int} (hf : oe_find (oe_code j) pc = some (.ifCond .gt t, len)) (kt : 0 < x → oe_V lim j (oe_M d) sc Q t.toNat L S (sh, g, h) k n) (kf : x ≤ 0 → oe_V lim j (oe_M d) sc Q (pc + len) L S (sh, g, h) k n) : oe_V lim j (oe_M d) sc Q pc L (.inl x :: S) (sh, g, h) k n := s_0 hf ⟨kt, kf⟩
theorem s_ic_gt {lim : Nat × Nat} {j d : Nat} {sc : Option (Nat × (Nat → Int))} {Q : oeQ} {pc len : Nat} {L : List (Option oeV)} {S : List oeV} {sh : List (Nat × Nat)} {g : Nat → Nat → Option Nat} {h : Nat → Nat → Int} {k n : Nat} {x y t : Int} (hf : oe_find (oe_code j) pc = some (.if_icmp .gt t, len)) (kt : y < x → oe_V lim j (oe_M d) sc Q t.toNat L S (sh, g, h) k n) (kf : x ≤ y → oe_V lim j (oe_M d) sc Q (pc + len) L S (sh, g, h) k n) : oe_V lim j (oe_M d) sc Q pc L (.inl y :: .inl x :: S) (sh, g, h) k n := s_0 hf ⟨kt, kf⟩
theorem s_if_le {lim : Nat × Nat} {j d : Nat} {sc : Option (Nat × (Nat → Int))} {Q : oeQ} {pc len : Nat} {L : List (Option oeV)} {S : List oeV} {sh : List (Nat × Nat)} {g : Nat → Nat → Option Nat} {h : Nat → Nat → Int} {k n : Nat} {x t : Int} (hf : oe_find (oe_code j) pc = some (.ifCond .le t, len)) (kt : x ≤ 0 → oe_V lim j (oe_M d) sc Q t.toNat L S (sh, g, h) k n) (kf : 0 < x → oe_V lim j (oe_M d) sc Q (pc + len) L S (sh, g, h) k n) : oe_V lim j (oe_M d) sc Q pc L (.inl x :: S) (sh, g, h) k n := s_0 hf ⟨kt, kf⟩
theorem s_ic_le {lim : Nat × Nat} {j d : Nat} {sc : Option (Nat × (Nat → Int))} {Q : oeQ} {pc len : Nat} {L : List (Option oeV)} {S : List oeV} {sh : List (Nat × Nat)} {g : Nat → Nat → Option Nat} {h : Nat → Nat → Int} {k n : Nat} {x y t : Int} (hf : oe_find (oe_code j) pc = some (.if_icmp .le t, len)) (kt : x ≤ y → oe_V lim j (oe_M d) sc Q t.toNat L S (sh, g, h) k n) (kf : y < x → oe_V lim j (oe_M d) sc Q (pc + len) L S (sh, g, h) k n) : oe_V lim j (oe_M d) sc Q pc L (.inl y :: .inl x :: S) (sh, g, h) k n := s_0 hf ⟨kt, kf⟩
theorem s_nn_r {lim : Nat × Nat} {j d : Nat} {sc : Option (Nat × (Nat → Int))} {Q : oeQ} {pc len : Nat} {L : List (Option oeV)} {S : List oeV} {sh : List (Nat × Nat)} {g : Nat → Nat → Option Nat} {h : Nat → Nat → Int} {k n : Nat} {t : Int} {a : Nat} (hf : oe_find (oe_code j) pc = some (.ifnonnull t, len)) (kk : oe_V lim j (oe_M d) sc Q t.toNat L S (sh, g, h) k n) : oe_V lim j (oe_M d) sc Q pc L (.inr (.inl a) :: S) (sh, g, h) k n := s_0 hf kk
theorem s_goto {lim : Nat × Nat} {j d : Nat} {sc : Option (Nat × (Nat → Int))} {Q : oeQ} {pc len : Nat} {L : List (Option oeV)} {S : List oeV} {sh : List (Nat × Nat)} {g : Nat → Nat → Option Nat} {h : Nat → Nat → Int} {k n : Nat} {t : Int} (hf : oe_find (oe_code j) pc = some (.goto t, len)) (kk : oe_V lim j (oe_M d) sc Q t.toNat L S (sh, g, h) k n) : oe_V lim j (oe_M d) sc Q pc L S (sh, g, h) k n := s_0 hf kk
theorem s_getr {lim : Nat × Nat} {j d : Nat} {sc : Option (Nat × (Nat → Int))} {Q : oeQ} {pc len : Nat} {L : List (Option oeV)} {S : List oeV} {sh : List (Nat × Nat)} {g : Nat → Nat → Option Nat} {h : Nat → Nat → Int} {k n : Nat} {r a u N q : Nat} (hf : oe_find (oe_code j) pc = some (.getfield r, len)) (hs : sh[a]? = some (u, N)) (hu : u = r / 1000 + 5) (hr : r % 10 = 1) (hg : g a (r / 10 % 100) = some q) (kk : oe_V lim j (oe_M d) sc Q (pc + len) L (.inr (.inl q) :: S) (sh, g, h) k n) : oe_V lim j (oe_M d) sc Q pc L (.inr (.inl a) :: S) (sh, g, h) k n := s_0 hf (by unfold oe_ins; dsimp only; unfold oe_r1; dsimp only; unfold oe_gf; dsimp only; rw [oe_sh_of hs, if_pos hr, hg]; exact ⟨hu, kk⟩)
theorem s_geti {lim : Nat × Nat} {j d : Nat} {sc : Option (Nat × (Nat → Int))} {Q : oeQ} {pc len : Nat} {L : List (Option oeV)} {S : List oeV} {sh : List (Nat × Nat)} {g : Nat → Nat → Option Nat} {h : Nat → Nat → Int} {k n : Nat} {r a u N : Nat} (hf : oe_find (oe_code j) pc = some (.getfield r, len)) (hs : sh[a]? = some (u, N)) (hu : u = r / 1000 + 5) (hr : r % 10 ≠ 1) (kk : oe_V lim j (oe_M d) sc Q (pc + len) L (.inl (h a (r / 10 % 100)) :: S) (sh, g, h) k n) : oe_V lim j (oe_M d) sc Q pc L (.inr (.inl a) :: S) (sh, g, h) k n := s_0 hf (by unfold oe_ins; dsimp only; unfold oe_r1; dsimp only; unfold oe_gf; dsimp only; rw [oe_sh_of hs, if_neg hr]; exact ⟨hu, kk⟩)
theorem s_puti {lim : Nat × Nat} {j d : Nat} {sc : Option (Nat × (Nat → Int))} {Q : oeQ} {pc len : Nat} {L : List (Option oeV)} {S : List oeV} {sh : List (Nat × Nat)} {g : Nat → Nat → Option Nat} {h : Nat → Nat → Int} {k n : Nat} {r a u N : Nat} {v : Int} (hf : oe_find (oe_code j) pc = some (.putfield r, len)) (hs : sh[a]? = some (u, N)) (hu : u = r / 1000 + 5) (hr : r % 10 = 0 ∨ (r % 10 = 2 ∧ (v = 0 ∨ v = 1))) (kk : oe_V lim j (oe_M d) sc Q (pc + len) L S (sh, g, oe_up h a (r / 10 % 100) v) k n) : oe_V lim j (oe_M d) sc Q pc L (.inl v :: .inr (.inl a) :: S) (sh, g, h) k n := s_0 hf (by unfold oe_ins; dsimp only; unfold oe_pf; dsimp only; rw [oe_sh_of hs]; exact ⟨hu, hr, kk⟩)
theorem s_iaload {lim : Nat × Nat} {j d : Nat} {sc : Option (Nat × (Nat → Int))} {Q : oeQ} {pc len : Nat} {L : List (Option oeV)} {S : List oeV} {sh : List (Nat × Nat)} {g : Nat → Nat → Option Nat} {h : Nat → Nat → Int} {k n : Nat} {a N : Nat} {i : Int} (hf : oe_find (oe_code j) pc = some (.iaload, len)) (hs : sh[a]? = some (0, N)) (h0 : 0 ≤ i) (h1 : i < N) (kk : oe_V lim j (oe_M d) sc Q (pc + len) L (.inl (h a i.toNat) :: S) (sh, g, h) k n) : oe_V lim j (oe_M d) sc Q pc L (.inl i :: .inr (.inl a) :: S) (sh, g, h) k n := s_0 hf (by unfold oe_ins; dsimp only; unfold oe_ald oe_ir; dsimp only; rw [oe_sh_of hs]; exact ⟨rfl, h0, h1, kk⟩)
theorem s_caload {lim : Nat × Nat} {j d : Nat} {sc : Option (Nat × (Nat → Int))} {Q : oeQ} {pc len : Nat} {L : List (Option oeV)} {S : List oeV} {sh : List (Nat × Nat)} {g : Nat → Nat → Option Nat} {h : Nat → Nat → Int} {k n : Nat} {a N : Nat} {i : Int} (hf : oe_find (oe_code j) pc = some (.caload, len)) (hs : sh[a]? = some (1, N)) (h0 : 0 ≤ i) (h1 : i < N) (kk : oe_V lim j (oe_M d) sc Q (pc + len) L (.inl (h a i.toNat) :: S) (sh, g, h) k n) : oe_V lim j (oe_M d) sc Q pc L (.inl i :: .inr (.inl a) :: S) (sh, g, h) k n := s_0 hf (by unfold oe_ins; dsimp only; unfold oe_ald oe_ir; dsimp only; rw [oe_sh_of hs]; exact ⟨rfl, h0, h1, kk⟩)
theorem s_baload {lim : Nat × Nat} {j d : Nat} {sc : Option (Nat × (Nat → Int))} {Q : oeQ} {pc len : Nat} {L : List (Option oeV)} {S : List oeV} {sh : List (Nat × Nat)} {g : Nat → Nat → Option Nat} {h : Nat → Nat → Int} {k n : Nat} {a N : Nat} {i : Int} (hf : oe_find (oe_code j) pc = some (.baload, len)) (hs : sh[a]? = some (2, N)) (h0 : 0 ≤ i) (h1 : i < N) (kk : oe_V lim j (oe_M d) sc Q (pc + len) L (.inl (h a i.toNat) :: S) (sh, g, h) k n) : oe_V lim j (oe_M d) sc Q pc L (.inl i :: .inr (.inl a) :: S) (sh, g, h) k n := s_0 hf (by unfold oe_ins; dsimp only; unfold oe_ald oe_ir; dsimp only; rw [oe_sh_of hs]; exact ⟨rfl, h0, h1, kk⟩)
theorem s_aaload {lim : Nat × Nat} {j d : Nat} {sc : Option (Nat × (Nat → Int))} {Q : oeQ} {pc len : Nat} {L : List (Option oeV)} {S : List oeV} {sh : List (Nat × Nat)} {g : Nat → Nat → Option Nat} {h : Nat → Nat → Int} {k n : Nat} {a N q : Nat} {i : Int} (hf : oe_find (oe_code j) pc = some (.aaload, len)) (hs : sh[a]? = some (4, N)) (h0 : 0 ≤ i) (h1 : i < N) (hg : g a i.toNat = some q) (kk : oe_V lim j (oe_M d) sc Q (pc + len) L (.inr (.inl q) :: S) (sh, g, h) k n) : oe_V lim j (oe_M d) sc Q pc L (.inl i :: .inr (.inl a) :: S) (sh, g, h) k n := s_0 hf (by unfold oe_ins; dsimp only; unfold oe_ald oe_ir; dsimp only; rw [oe_sh_of hs]; refine ⟨rfl, h0, h1, ?_⟩; rw [hg]; exact kk)
theorem s_laload {lim : Nat × Nat} {j d : Nat} {sc : Option (Nat × (Nat → Int))} {Q : oeQ} {pc len : Nat} {L : List (Option oeV)} {S : List oeV} {sh : List (Nat × Nat)} {g : Nat → Nat → Option Nat} {h : Nat → Nat → Int} {k n : Nat} {a N : Nat} {i : Int} (hf : oe_find (oe_code j) pc = some (.laload, len)) (hs : sh[a]? = some (3, N)) (h0 : 0 ≤ i) (h1 : i < N) (kk : oe_V lim j (oe_M d) sc Q (pc + len) L (.inr (.inr (0, h a i.toNat)) :: S) (sh, g, h) k n) : oe_V lim j (oe_M d) sc Q pc L (.inl i :: .inr (.inl a) :: S) (sh, g, h) k n := s_0 hf (by unfold oe_ins; dsimp only; unfold oe_ald oe_ir; dsimp only; rw [oe_sh_of hs]; exact ⟨rfl, h0, h1, kk⟩)
theorem s_iastore {lim : Nat × Nat} {j d : Nat} {sc : Option (Nat × (Nat → Int))} {Q : oeQ} {pc len : Nat} {L : List (Option oeV)} {S : List oeV} {sh : List (Nat × Nat)} {g : Nat → Nat → Option Nat} {h : Nat → Nat → Int} {k n : Nat} {a N : Nat} {i v : Int} (hf : oe_find (oe_code j) pc = some (.iastore, len)) (hs : sh[a]? = some (0, N)) (h0 : 0 ≤ i) (h1 : i < N) (kk : oe_V lim j (oe_M d) sc Q (pc + len) L S (sh, g, oe_up h a i.toNat v) k n) : oe_V lim j (oe_M d) sc Q pc L (.inl v :: .inl i :: .inr (.inl a) :: S) (sh, g, h) k n := s_0 hf (by unfold oe_ins; dsimp only; unfold oe_ast oe_iir; dsimp only; rw [oe_sh_of hs]; exact ⟨rfl, h0, h1, kk⟩)
theorem s_castore {lim : Nat × Nat} {j d : Nat} {sc : Option (Nat × (Nat → Int))} {Q : oeQ} {pc len : Nat} {L : List (Option oeV)} {S : List oeV} {sh : List (Nat × Nat)} {g : Nat → Nat → Option Nat} {h : Nat → Nat → Int} {k n : Nat} {a N : Nat} {i v : Int} (hf : oe_find (oe_code j) pc = some (.castore, len)) (hs : sh[a]? = some (1, N)) (h0 : 0 ≤ i) (h1 : i < N) (h2 : 0 ≤ v) (h3 : v < 65536) (kk : oe_V lim j (oe_M d) sc Q (pc + len) L S (sh, g, oe_up h a i.toNat v) k n) : oe_V lim j (oe_M d) sc Q pc L (.inl v :: .inl i :: .inr (.inl a) :: S) (sh, g, h) k n := s_0 hf (by unfold oe_ins; dsimp only; unfold oe_ast oe_iir; dsimp only; rw [oe_sh_of hs]; exact ⟨rfl, h0, h1, h2, h3, kk⟩)
theorem s_bastore {lim : Nat × Nat} {j d : Nat} {sc : Option (Nat × (Nat → Int))} {Q : oeQ} {pc len : Nat} {L : List (Option oeV)} {S : List oeV} {sh : List (Nat × Nat)} {g : Nat → Nat → Option Nat} {h : Nat → Nat → Int} {k n : Nat} {a N : Nat} {i v : Int} (hf : oe_find (oe_code j) pc = some (.bastore, len)) (hs : sh[a]? = some (2, N)) (h0 : 0 ≤ i) (h1 : i < N) (h2 : v = 0 ∨ v = 1) (kk : oe_V lim j (oe_M d) sc Q (pc + len) L S (sh, g, oe_up h a i.toNat v) k n) : oe_V lim j (oe_M d) sc Q pc L (.inl v :: .inl i :: .inr (.inl a) :: S) (sh, g, h) k n := s_0 hf (by unfold oe_ins; dsimp only; unfold oe_ast oe_iir; dsimp only; rw [oe_sh_of hs]; exact ⟨rfl, h0, h1, h2, kk⟩)
theorem s_lastore {lim : Nat × Nat} {j d : Nat} {sc : Option (Nat × (Nat → Int))} {Q : oeQ} {pc len : Nat} {L : List (Option oeV)} {S : List oeV} {sh : List (Nat × Nat)} {g : Nat → Nat → Option Nat} {h : Nat → Nat → Int} {k n : Nat} {a N : Nat} {i v : Int} (hf : oe_find (oe_code j) pc = some (.lastore, len)) (hs : sh[a]? = some (3, N)) (h0 : 0 ≤ i) (h1 : i < N) (kk : oe_V lim j (oe_M d) sc Q (pc + len) L S (sh, g, oe_up h a i.toNat v) k n) : oe_V lim j (oe_M d) sc Q pc L (.inr (.inr (0, v)) :: .inl i :: .inr (.inl a) :: S) (sh, g, h) k n := s_0 hf (by unfold oe_ins; dsimp only; unfold oe_lir; show oe_sh sh a _; rw [oe_sh_of hs]; exact ⟨rfl, h0, h1, kk⟩)
theorem s_aastore {lim : Nat × Nat} {j d : Nat} {sc : Option (Nat × (Nat → Int))} {Q : oeQ} {pc len : Nat} {L : List (Option oeV)} {S : List oeV} {sh : List (Nat × Nat)} {g : Nat → Nat → Option Nat} {h : Nat → Nat → Int} {k n : Nat} {a N v M : Nat} {i : Int} (hf : oe_find (oe_code j) pc = some (.aastore, len)) (hv : sh[v]? = some (oe_eqc + 5, M)) (hs : sh[a]? = some (4, N)) (h0 : 0 ≤ i) (h1 : i < N) (kk : oe_V lim j (oe_M d) sc Q (pc + len) L S (sh, oe_up g a i.toNat (some v), h) k n) : oe_V lim j (oe_M d) sc Q pc L (.inr (.inl v) :: .inl i :: .inr (.inl a) :: S) (sh, g, h) k n := s_0 hf (by unfold oe_ins; dsimp only; unfold oe_rir; dsimp only; rw [oe_sh_of hs, oe_sh_of hv]; exact ⟨rfl, rfl, h0, h1, kk⟩)
theorem s_alen {lim : Nat × Nat} {j d : Nat} {sc : Option (Nat × (Nat → Int))} {Q : oeQ} {pc len : Nat} {L : List (Option oeV)} {S : List oeV} {sh : List (Nat × Nat)} {g : Nat → Nat → Option Nat} {h : Nat → Nat → Int} {k n : Nat} {a u N : Nat} (hf : oe_find (oe_code j) pc = some (.arraylength, len)) (hs : sh[a]? = some (u, N)) (hu : u ≤ 4) (kk : oe_V lim j (oe_M d) sc Q (pc + len) L (.inl (N : Nat) :: S) (sh, g, h) k n) : oe_V lim j (oe_M d) sc Q pc L (.inr (.inl a) :: S) (sh, g, h) k n := s_0 hf (by unfold oe_ins; dsimp only; unfold oe_r1; dsimp only; rw [oe_sh_of hs]; exact ⟨hu, kk⟩)
theorem s_copy {lim : Nat × Nat} {j d : Nat} {sc : Option (Nat × (Nat → Int))} {Q : oeQ} {pc len : Nat} {L : List (Option oeV)} {S : List oeV} {sh : List (Nat × Nat)} {g : Nat → Nat → Option Nat} {h : Nat → Nat → Int} {k n : Nat} {r a b na nb : Nat} {sp dp c : Int} (hf : oe_find (oe_code j) pc = some (.invokestatic r, len)) (hr : r / 1000 = 1) (ha : sh[a]? = some (0, na)) (hb : sh[b]? = some (0, nb)) (h0 : 0 ≤ c) (h1 : 0 ≤ dp) (h2 : 0 ≤ sp) (h3 : sp + c ≤ na) (h4 : dp + c ≤ nb) (h5 : S.length ≤ 4) (kk : oe_V lim j (oe_M d) sc Q (pc + len) L S (sh, g, oe_cpy h a sp.toNat b dp.toNat c.toNat) k n) : oe_V lim j (oe_M d) sc Q pc L (.inl c :: .inl dp :: .inr (.inl b) :: .inl sp :: .inr (.inl a) :: S) (sh, g, h) k n := s_0 hf (by unfold oe_ins; dsimp only; rw [if_pos hr]; unfold oe_copy; dsimp only; rw [oe_sh_of ha, oe_sh_of hb]; exact ⟨rfl, rfl, h0, h1, h2, h3, h4, h5, kk⟩)
theorem s_calls {lim : Nat × Nat} {j d : Nat} {sc : Option (Nat × (Nat → Int))} {Q : oeQ} {pc len : Nat} {L : List (Option oeV)} {S : List oeV} {sh : List (Nat × Nat)} {g : Nat → Nat → Option Nat} {h : Nat → Nat → Int} {k n : Nat} {r : Nat} {T : List oeV} (hf : oe_find (oe_code j) pc = some (.invokestatic r, len)) (hr : r / 1000 ≠ 1) (h1 : r % 10 ≤ T.length) (h2 : T.length ≤ r % 10 + 4) (h3 : k + (oe_cost (r / 1000)).1 ≤ lim.1) (h4 : n + (oe_cost (r / 1000)).2 ≤ lim.2) (kk : oe_M d (r / 1000) (T.take (r % 10)).reverse (sh, g, h) (fun v hp => oe_V lim j (oe_M d) sc Q (pc + len) L (v.toList ++ T.drop (r % 10)) hp (k + (oe_cost (r / 1000)).1) (n + (oe_cost (r / 1000)).2))) : oe_V lim j (oe_M d) sc Q pc L T (sh, g, h) k n := s_0 hf (by unfold oe_ins; dsimp only; rw [if_neg hr]; exact ⟨h1, h2, h3, h4, kk⟩)
theorem s_callv {lim : Nat × Nat} {j d : Nat} {sc : Option (Nat × (Nat → Int))} {Q : oeQ} {pc len : Nat} {L : List (Option oeV)} {S : List oeV} {sh : List (Nat × Nat)} {g : Nat → Nat → Option Nat} {h : Nat → Nat → Int} {k n : Nat} {r b u N : Nat} {T U : List oeV} (hf : oe_find (oe_code j) pc = some (.invokevirtual r, len)) (hd : T.drop (r % 10) = .inr (.inl b) :: U) (hs : sh[b]? = some (u, N)) (hu : u = r / 10 % 100 + 5) (h1 : r % 10 + 1 ≤ T.length) (h2 : T.length ≤ r % 10 + 1 + 4) (h3 : k + (oe_cost (r / 1000)).1 ≤ lim.1) (h4 : n + (oe_cost (r / 1000)).2 ≤ lim.2) (kk : oe_M d (r / 1000) (T.take (r % 10 + 1)).reverse (sh, g, h) (fun v hp => oe_V lim j (oe_M d) sc Q (pc + len) L (v.toList ++ T.drop (r % 10 + 1)) hp (k + (oe_cost (r / 1000)).1) (n + (oe_cost (r / 1000)).2))) : oe_V lim j (oe_M d) sc Q pc L T (sh, g, h) k n := s_0 hf (by unfold oe_ins; dsimp only; rw [hd]; dsimp only; rw [oe_sh_of hs]; exact ⟨hu, h1, h2, h3, h4, kk⟩)
theorem s_calli {lim : Nat × Nat} {j d : Nat} {sc : Option (Nat × (Nat → Int))} {Q : oeQ} {pc len : Nat} {L : List (Option oeV)} {S : List oeV} {sh : List (Nat × Nat)} {g : Nat → Nat → Option Nat} {h : Nat → Nat → Int} {k n : Nat} {r b : Nat} {T U : List oeV} (hf : oe_find (oe_code j) pc = some (.invokespecial r, len)) (hr : r / 1000 ≠ 0) (hd : T.drop (r % 10) = .inr (.inl b) :: U) (h1 : r % 10 + 1 ≤ T.length) (h2 : T.length ≤ r % 10 + 1 + 4) (h3 : k + (oe_cost (r / 1000)).1 ≤ lim.1) (h4 : n + (oe_cost (r / 1000)).2 ≤ lim.2) (kk : oe_M d (r / 1000) (T.take (r % 10 + 1)).reverse (sh, g, h) (fun v hp => oe_V lim j (oe_M d) sc Q (pc + len) L (v.toList ++ T.drop (r % 10 + 1)) hp (k + (oe_cost (r / 1000)).1) (n + (oe_cost (r / 1000)).2))) : oe_V lim j (oe_M d) sc Q pc L T (sh, g, h) k n := s_0 hf (by unfold oe_ins; dsimp only; rw [if_neg hr, hd]; exact ⟨h1, h2, h3, h4, kk⟩)
theorem s_iret {lim : Nat × Nat} {j d : Nat} {sc : Option (Nat × (Nat → Int))} {Q : oeQ} {pc len : Nat} {L : List (Option oeV)} {S : List oeV} {sh : List (Nat × Nat)} {g : Nat → Nat → Option Nat} {h : Nat → Nat → Int} {k n : Nat} {x : Int} (hf : oe_find (oe_code j) pc = some (.ireturn, len)) (hr : oe_rt j = 1 ∨ (oe_rt j = 2 ∧ (x = 0 ∨ x = 1)) ∨ (oe_rt j = 3 ∧ 0 ≤ x ∧ x < 65536)) (kk : Q (some (.inl x)) (sh, g, h)) : oe_V lim j (oe_M d) sc Q pc L [.inl x] (sh, g, h) k n := s_0 hf ⟨hr, kk⟩
theorem s_aret {lim : Nat × Nat} {j d : Nat} {sc : Option (Nat × (Nat → Int))} {Q : oeQ} {pc len : Nat} {L : List (Option oeV)} {S : List oeV} {sh : List (Nat × Nat)} {g : Nat → Nat → Option Nat} {h : Nat → Nat → Int} {k n : Nat} {a : Nat} (hf : oe_find (oe_code j) pc = some (.areturn, len)) (hr : oe_rt j = 4) (kk : Q (some (.inr (.inl a))) (sh, g, h)) : oe_V lim j (oe_M d) sc Q pc L [.inr (.inl a)] (sh, g, h) k n := s_0 hf ⟨hr, kk⟩
theorem s_ret {lim : Nat × Nat} {j d : Nat} {sc : Option (Nat × (Nat → Int))} {Q : oeQ} {pc len : Nat} {L : List (Option oeV)} {S : List oeV} {sh : List (Nat × Nat)} {g : Nat → Nat → Option Nat} {h : Nat → Nat → Int} {k n : Nat} (hf : oe_find (oe_code j) pc = some (.return_, len)) (hr : oe_rt j = 0) (kk : Q none (sh, g, h)) : oe_V lim j (oe_M d) sc Q pc L [] (sh, g, h) k n := s_0 hf ⟨rfl, hr, kk⟩
end
section
/-! Terms as trees, and their order. A tree is a letter and two places for arguments; letters: below 12 variables, below 16 no argument, below 18 one, else two. -/
abbrev oeT : Type := Std.DTreeMap.Internal.Impl Unit (fun _ => Unit)
def ot_sz : oeT → Nat
  | .leaf => 0
  | .inner _ _ _ l r => ot_sz l + ot_sz r + 1
def ot_wf : oeT → Prop
  | .leaf => False
  | .inner n _ _ l r => (n < 16 → l = .leaf ∧ r = .leaf) ∧ (16 ≤ n → ot_wf l) ∧ (16 ≤ n → n < 18 → r = .leaf) ∧ (18 ≤ n → ot_wf r)
def ot_oc (x : Nat) : oeT → Prop
  | .leaf => False
  | .inner n _ _ l r => n = x ∨ ot_oc x l ∨ ot_oc x r
def ot_gI (f : Nat) (oc : Nat → Prop) (s1 s2 : oeT) (g1 g2 : oeT → Prop) : oeT → Prop
  | .leaf => False
  | .inner g a b t1 t2 => (g < 12 ∧ oc g ∧ f ≠ g) ∨ (12 ≤ g ∧ 12 ≤ f ∧
      ((16 ≤ f ∧ (s1 = .inner g a b t1 t2 ∨ g1 (.inner g a b t1 t2))) ∨ (18 ≤ f ∧ (s2 = .inner g a b t1 t2 ∨ g2 (.inner g a b t1 t2))) ∨
       ((16 ≤ g → ot_gI f oc s1 s2 g1 g2 t1) ∧ (18 ≤ g → ot_gI f oc s1 s2 g1 g2 t2) ∧ (g < f ∨ (f = g ∧ ((16 ≤ f ∧ g1 t1) ∨ (18 ≤ f ∧ s1 = t1 ∧ g2 t2)))))))
/-- s is greater than t -/
def ot_gt : oeT → oeT → Prop
  | .leaf => fun _ => False
  | .inner f a b s1 s2 => ot_gI f (fun x => ot_oc x (.inner f a b s1 s2)) s1 s2 (ot_gt s1) (ot_gt s2)
theorem ot_gt_eq {f g : Nat} {a b : Unit} {a' b' : Unit} {s1 s2 t1 t2 : oeT} : ot_gt (.inner f a b s1 s2) (.inner g a' b' t1 t2) ↔ ((g < 12 ∧ ot_oc g (.inner f a b s1 s2) ∧ f ≠ g) ∨ (12 ≤ g ∧ 12 ≤ f ∧
      ((16 ≤ f ∧ (s1 = .inner g a' b' t1 t2 ∨ ot_gt s1 (.inner g a' b' t1 t2))) ∨ (18 ≤ f ∧ (s2 = .inner g a' b' t1 t2 ∨ ot_gt s2 (.inner g a' b' t1 t2))) ∨
       ((16 ≤ g → ot_gt (.inner f a b s1 s2) t1) ∧ (18 ≤ g → ot_gt (.inner f a b s1 s2) t2) ∧ (g < f ∨ (f = g ∧ ((16 ≤ f ∧ ot_gt s1 t1) ∨ (18 ≤ f ∧ s1 = t1 ∧ ot_gt s2 t2)))))))) := Iff.rfl
theorem ot_gt_leaf {s : oeT} : ¬ ot_gt s .leaf := by
  cases s with
  | leaf => exact fun h => h
  | inner f a b s1 s2 => exact fun h => h
theorem ot_wf1 {f : Nat} {a b : Unit} {l r : oeT} (h : ot_wf (.inner f a b l r)) (hf : 16 ≤ f) : ot_wf l := h.2.1 hf
theorem ot_wf2 {f : Nat} {a b : Unit} {l r : oeT} (h : ot_wf (.inner f a b l r)) (hf : 18 ≤ f) : ot_wf r := h.2.2.2 hf
/-- a variable of the smaller one is a variable of the greater one -/
theorem ot_gt_oc : ∀ (n : Nat) (s t : oeT), ot_sz s + ot_sz t ≤ n → ot_wf s → ot_wf t → ot_gt s t → ∀ x, x < 12 → ot_oc x t → ot_oc x s := by
  intro n
  induction n with
  | zero =>
    intro s t hn hs ht
    cases s with
    | leaf => exact hs.elim
    | inner => simp [ot_sz] at hn
  | succ n ih =>
    intro s t hn hs ht h x hx hox
    cases s with
    | leaf => exact h.elim
    | inner f a b s1 s2 =>
      cases t with
      | leaf => exact h.elim
      | inner g a' b' t1 t2 =>
        simp only [ot_sz] at hn
        rcases ot_gt_eq.mp h with ⟨h1, h2, h3⟩ | ⟨h1, h2, h3⟩
        · have hl := ht.1 (by omega)
          rcases hox with rfl | q | q
          · exact h2
          · rw [hl.1] at q; exact q.elim
          · rw [hl.2] at q; exact q.elim
        · rcases h3 with ⟨h4, h5⟩ | ⟨h4, h5⟩ | ⟨h4, h5, h6⟩
          · refine Or.inr (Or.inl ?_)
            rcases h5 with h5 | h5
            · rw [h5]; exact hox
            · exact ih s1 _ (by simp only [ot_sz]; omega) (ot_wf1 hs h4) ht h5 x hx hox
          · refine Or.inr (Or.inr ?_)
            rcases h5 with h5 | h5
            · rw [h5]; exact hox
            · exact ih s2 _ (by simp only [ot_sz]; omega) (ot_wf2 hs h4) ht h5 x hx hox
          · rcases hox with q | q | q
            · omega
            · by_cases hg : 16 ≤ g
              · exact ih _ t1 (by simp only [ot_sz]; omega) hs (ot_wf1 ht hg) (h4 hg) x hx q
              · have hl := ht.1 (by omega)
                rw [hl.1] at q; exact q.elim
            · by_cases hg : 18 ≤ g
              · exact ih _ t2 (by simp only [ot_sz]; omega) hs (ot_wf2 ht hg) (h5 hg) x hx q
              · by_cases hg2 : 16 ≤ g
                · have hl := ht.2.2.1 hg2 (by omega)
                  rw [hl] at q; exact q.elim
                · have hl := ht.1 (by omega)
                  rw [hl.2] at q; exact q.elim
theorem ot_gt_var {f g : Nat} {a b a' b' : Unit} {s1 s2 t1 t2 : oeT} (hs : ot_wf (.inner f a b s1 s2)) (hf : f < 12) : ¬ ot_gt (.inner f a b s1 s2) (.inner g a' b' t1 t2) := by
  intro h
  rcases ot_gt_eq.mp h with ⟨h1, h2, h3⟩ | ⟨h1, h2, h3⟩
  · have hl := hs.1 (by omega)
    rcases h2 with q | q | q
    · exact h3 q
    · rw [hl.1] at q; exact q
    · rw [hl.2] at q; exact q
  · omega
/-- an argument is smaller; and what is greater than a term is greater than its arguments -/
theorem ot_arg1 {f : Nat} {a b : Unit} {s1 s2 : oeT} (hs : ot_wf (.inner f a b s1 s2)) (hf : 16 ≤ f) : ot_gt (.inner f a b s1 s2) s1 := by
  have hw := ot_wf1 hs hf
  cases s1 with
  | leaf => exact hw.elim
  | inner g a' b' t1 t2 =>
    by_cases hg : g < 12
    · exact ot_gt_eq.mpr (Or.inl ⟨hg, Or.inr (Or.inl (Or.inl rfl)), by omega⟩)
    · exact ot_gt_eq.mpr (Or.inr ⟨by omega, by omega, Or.inl ⟨hf, Or.inl rfl⟩⟩)
theorem ot_arg2 {f : Nat} {a b : Unit} {s1 s2 : oeT} (hs : ot_wf (.inner f a b s1 s2)) (hf : 18 ≤ f) : ot_gt (.inner f a b s1 s2) s2 := by
  have hw := ot_wf2 hs hf
  cases s2 with
  | leaf => exact hw.elim
  | inner g a' b' t1 t2 =>
    by_cases hg : g < 12
    · exact ot_gt_eq.mpr (Or.inl ⟨hg, Or.inr (Or.inr (Or.inl rfl)), by omega⟩)
    · exact ot_gt_eq.mpr (Or.inr ⟨by omega, by omega, Or.inr (Or.inl ⟨hf, Or.inl rfl⟩)⟩)
/-- by way of an argument -/
theorem ot_up1 {f : Nat} {a b : Unit} {s1 s2 t : oeT} (hs : ot_wf (.inner f a b s1 s2)) (ht : ot_wf t) (hf : 16 ≤ f) (h : ot_gt s1 t) : ot_gt (.inner f a b s1 s2) t := by
  cases t with
  | leaf => exact ht.elim
  | inner g a' b' t1 t2 =>
    by_cases hg : g < 12
    · refine ot_gt_eq.mpr (Or.inl ⟨hg, Or.inr (Or.inl ?_), by omega⟩)
      exact ot_gt_oc _ s1 _ (Nat.le_refl _) (ot_wf1 hs hf) ht h g hg (Or.inl rfl)
    · exact ot_gt_eq.mpr (Or.inr ⟨by omega, by omega, Or.inl ⟨hf, Or.inr h⟩⟩)
theorem ot_up2 {f : Nat} {a b : Unit} {s1 s2 t : oeT} (hs : ot_wf (.inner f a b s1 s2)) (ht : ot_wf t) (hf : 18 ≤ f) (h : ot_gt s2 t) : ot_gt (.inner f a b s1 s2) t := by
  cases t with
  | leaf => exact ht.elim
  | inner g a' b' t1 t2 =>
    by_cases hg : g < 12
    · refine ot_gt_eq.mpr (Or.inl ⟨hg, Or.inr (Or.inr ?_), by omega⟩)
      exact ot_gt_oc _ s2 _ (Nat.le_refl _) (ot_wf2 hs hf) ht h g hg (Or.inl rfl)
    · exact ot_gt_eq.mpr (Or.inr ⟨by omega, by omega, Or.inr (Or.inl ⟨hf, Or.inr h⟩)⟩)
theorem ot_dn1 : ∀ (s t : oeT) (g : Nat) (a' b' : Unit) (t1 t2 : oeT), t = .inner g a' b' t1 t2 → ot_wf s → ot_wf t → 16 ≤ g → ot_gt s t → ot_gt s t1 := by
  intro s
  induction s with
  | leaf => intro t g a' b' t1 t2 _ hs; exact hs.elim
  | inner f a b s1 s2 ih1 ih2 =>
    intro t g a' b' t1 t2 e hs ht hg h
    subst e
    have hw := ot_wf1 ht hg
    rcases ot_gt_eq.mp h with ⟨h1, h2, h3⟩ | ⟨h1, h2, h3⟩
    · omega
    · rcases h3 with ⟨h4, h5⟩ | ⟨h4, h5⟩ | ⟨h4, h5, h6⟩
      · rcases h5 with h5 | h5
        · exact ot_up1 hs hw h4 (by rw [h5]; exact ot_arg1 ht hg)
        · exact ot_up1 hs hw h4 (ih1 _ g a' b' t1 t2 rfl (ot_wf1 hs h4) ht hg h5)
      · rcases h5 with h5 | h5
        · exact ot_up2 hs hw h4 (by rw [h5]; exact ot_arg1 ht hg)
        · exact ot_up2 hs hw h4 (ih2 _ g a' b' t1 t2 rfl (ot_wf2 hs h4) ht hg h5)
      · exact h4 hg
theorem ot_dn2 : ∀ (s t : oeT) (g : Nat) (a' b' : Unit) (t1 t2 : oeT), t = .inner g a' b' t1 t2 → ot_wf s → ot_wf t → 18 ≤ g → ot_gt s t → ot_gt s t2 := by
  intro s
  induction s with
  | leaf => intro t g a' b' t1 t2 _ hs; exact hs.elim
  | inner f a b s1 s2 ih1 ih2 =>
    intro t g a' b' t1 t2 e hs ht hg h
    subst e
    have hw := ot_wf2 ht hg
    rcases ot_gt_eq.mp h with ⟨h1, h2, h3⟩ | ⟨h1, h2, h3⟩
    · omega
    · rcases h3 with ⟨h4, h5⟩ | ⟨h4, h5⟩ | ⟨h4, h5, h6⟩
      · rcases h5 with h5 | h5
        · exact ot_up1 hs hw h4 (by rw [h5]; exact ot_arg2 ht hg)
        · exact ot_up1 hs hw h4 (ih1 _ g a' b' t1 t2 rfl (ot_wf1 hs h4) ht hg h5)
      · rcases h5 with h5 | h5
        · exact ot_up2 hs hw h4 (by rw [h5]; exact ot_arg2 ht hg)
        · exact ot_up2 hs hw h4 (ih2 _ g a' b' t1 t2 rfl (ot_wf2 hs h4) ht hg h5)
      · exact h5 hg
theorem ot_trans : ∀ (n : Nat) (s t u : oeT), ot_sz s + ot_sz t + ot_sz u ≤ n → ot_wf s → ot_wf t → ot_wf u → ot_gt s t → ot_gt t u → ot_gt s u := by
  intro n
  induction n with
  | zero =>
    intro s t u hn hs
    cases s with
    | leaf => exact hs.elim
    | inner => simp [ot_sz] at hn
  | succ n ih =>
    intro s t u hn hs ht hu hst htu
    cases s with
    | leaf => exact hs.elim
    | inner f a b s1 s2 =>
      cases t with
      | leaf => exact ht.elim
      | inner g a' b' t1 t2 =>
        cases u with
        | leaf => exact hu.elim
        | inner k a'' b'' u1 u2 =>
          simp only [ot_sz] at hn
          have hfv : ¬ f < 12 := fun q => ot_gt_var hs q hst
          have hgv : ¬ g < 12 := fun q => ot_gt_var ht q htu
          by_cases hk : k < 12
          · have ho := ot_gt_oc _ _ _ (Nat.le_refl _) hs ht hst k hk (ot_gt_oc _ _ _ (Nat.le_refl _) ht hu htu k hk (Or.inl rfl))
            exact ot_gt_eq.mpr (Or.inl ⟨hk, ho, by omega⟩)
          · rcases ot_gt_eq.mp hst with ⟨h1, _, _⟩ | ⟨_, _, h3⟩
            · omega
            · rcases h3 with ⟨h4, h5⟩ | ⟨h4, h5⟩ | ⟨h4, h5, h6⟩
              · rcases h5 with h5 | h5
                · exact ot_up1 hs hu h4 (by rw [h5]; exact htu)
                · exact ot_up1 hs hu h4 (ih s1 _ _ (by simp only [ot_sz]; omega) (ot_wf1 hs h4) ht hu h5 htu)
              · rcases h5 with h5 | h5
                · exact ot_up2 hs hu h4 (by rw [h5]; exact htu)
                · exact ot_up2 hs hu h4 (ih s2 _ _ (by simp only [ot_sz]; omega) (ot_wf2 hs h4) ht hu h5 htu)
              · rcases ot_gt_eq.mp htu with ⟨h1, _, _⟩ | ⟨_, _, k3⟩
                · omega
                · rcases k3 with ⟨k4, k5⟩ | ⟨k4, k5⟩ | ⟨k4, k5, k6⟩
                  · rcases k5 with k5 | k5
                    · rw [← k5]; exact h4 k4
                    · exact ih _ t1 _ (by simp only [ot_sz]; omega) hs (ot_wf1 ht k4) hu (h4 k4) k5
                  · rcases k5 with k5 | k5
                    · rw [← k5]; exact h5 k4
                    · exact ih _ t2 _ (by simp only [ot_sz]; omega) hs (ot_wf2 ht k4) hu (h5 k4) k5
                  · have a1 : 16 ≤ k → ot_gt (.inner f a b s1 s2) u1 := fun q => ih _ _ u1 (by simp only [ot_sz]; omega) hs ht (ot_wf1 hu q) hst (k4 q)
                    have a2 : 18 ≤ k → ot_gt (.inner f a b s1 s2) u2 := fun q => ih _ _ u2 (by simp only [ot_sz]; omega) hs ht (ot_wf2 hu q) hst (k5 q)
                    refine ot_gt_eq.mpr (Or.inr ⟨by omega, by omega, Or.inr (Or.inr ⟨a1, a2, ?_⟩)⟩)
                    rcases h6 with h6 | ⟨h6, h7⟩
                    · rcases k6 with k6 | ⟨k6, _⟩
                      · exact Or.inl (by omega)
                      · exact Or.inl (by omega)
                    · rcases k6 with k6 | ⟨k6, k7⟩
                      · exact Or.inl (by omega)
                      · refine Or.inr ⟨by omega, ?_⟩
                        rcases h7 with ⟨h7, h8⟩ | ⟨h7, h8, h9⟩
                        · rcases k7 with ⟨k7, k8⟩ | ⟨k7, k8, k9⟩
                          · exact Or.inl ⟨h7, ih s1 t1 u1 (by omega) (ot_wf1 hs h7) (ot_wf1 ht k7) (ot_wf1 hu (by omega)) h8 k8⟩
                          · exact Or.inl ⟨h7, by rw [← k8]; exact h8⟩
                        · rcases k7 with ⟨k7, k8⟩ | ⟨k7, k8, k9⟩
                          · exact Or.inl ⟨by omega, by rw [h8]; exact k8⟩
                          · exact Or.inr ⟨h7, h8.trans k8, ih s2 t2 u2 (by omega) (ot_wf2 hs h7) (ot_wf2 ht k7) (ot_wf2 hu (by omega)) h9 k9⟩
theorem ot_irr : ∀ (s : oeT), ot_wf s → ¬ ot_gt s s := by
  intro s
  induction s with
  | leaf => exact fun h _ => h
  | inner f a b s1 s2 ih1 ih2 =>
    intro hs h
    have key1 : 16 ≤ f → ¬ (s1 = .inner f a b s1 s2 ∨ ot_gt s1 (.inner f a b s1 s2)) := by
      intro hf q
      rcases q with q | q
      · have := congrArg ot_sz q; simp only [ot_sz] at this; omega
      · exact ih1 (ot_wf1 hs hf) (ot_dn1 s1 _ f a b s1 s2 rfl (ot_wf1 hs hf) hs hf q)
    have key2 : 18 ≤ f → ¬ (s2 = .inner f a b s1 s2 ∨ ot_gt s2 (.inner f a b s1 s2)) := by
      intro hf q
      rcases q with q | q
      · have := congrArg ot_sz q; simp only [ot_sz] at this; omega
      · exact ih2 (ot_wf2 hs hf) (ot_dn2 s2 _ f a b s1 s2 rfl (ot_wf2 hs hf) hs hf q)
    rcases ot_gt_eq.mp h with ⟨_, _, h3⟩ | ⟨_, _, h3⟩
    · exact h3 rfl
    · rcases h3 with ⟨h4, h5⟩ | ⟨h4, h5⟩ | ⟨h4, h5, h6⟩
      · exact key1 h4 h5
      · exact key2 h4 h5
      · rcases h6 with h6 | ⟨_, ⟨h7, h8⟩ | ⟨h7, _, h8⟩⟩
        · omega
        · exact ih1 (ot_wf1 hs h7) h8
        · exact ih2 (ot_wf2 hs h7) h8
end
