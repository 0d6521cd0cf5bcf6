def RNet : String := "StateExplorer$Net"
def TNet : u_T := fun k => match k with
  | 0 => ("StateExplorer$Net", "sorts", "[I", true)
  | 1 => ("StateExplorer$Net", "ranks", "[I", true)
  | 2 => ("StateExplorer$Net", "starts", "[I", true)
  | 3 => ("StateExplorer$Net", "literals", "[I", true)
  | 4 => ("StateExplorer$Net", "nextLiterals", "[I", true)
  | 5 => ("StateExplorer$Net", "outputs", "[I", true)
  | 6 => ("StateExplorer$Net", "gateTotal", "I", false)
  | 7 => ("StateExplorer$Net", "inputTotal", "I", false)
  | 8 => ("StateExplorer$Net", "latchTotal", "I", false)
  | _ => ("StateExplorer$Net", "outputTotal", "I", false)
def tyNet : Nat → FieldType := fun k => match k with
  | 0 => .array .int
  | 1 => .array .int
  | 2 => .array .int
  | 3 => .array .int
  | 4 => .array .int
  | 5 => .array .int
  | 6 => .int
  | 7 => .int
  | 8 => .int
  | _ => .int
abbrev wsNet0 : List Cond := u_ws RNet TNet 10
theorem nmNet : ∀ a, a < 10 → ∀ b, b < 10 → a ≠ b → (TNet a).2.1 ≠ (TNet b).2.1 := by decide +kernel
theorem tyNet_ok : ∀ k, k < 10 → parseFieldDescriptor (TNet k).2.2.1 = some (tyNet k) := by decide +kernel
def RPar : String := "StateExplorer$Partition"
def TPar : u_T := fun k => match k with
  | 0 => ("StateExplorer$Partition", "names", "[I", true)
  | 1 => ("StateExplorer$Partition", "finer", "[I", true)
  | 2 => ("StateExplorer$Partition", "behind", "[I", true)
  | _ => ("StateExplorer$Partition", "total", "I", false)
def tyPar : Nat → FieldType := fun k => match k with
  | 0 => .array .int
  | 1 => .array .int
  | 2 => .array .int
  | _ => .int
abbrev wsPar0 : List Cond := u_ws RPar TPar 4
theorem nmPar : ∀ a, a < 4 → ∀ b, b < 4 → a ≠ b → (TPar a).2.1 ≠ (TPar b).2.1 := by decide +kernel
theorem tyPar_ok : ∀ k, k < 4 → parseFieldDescriptor (TPar k).2.2.1 = some (tyPar k) := by decide +kernel
def RTab : String := "StateExplorer$Table"
def TTab : u_T := fun k => match k with
  | 0 => ("StateExplorer$Table", "known", "[J", true)
  | 1 => ("StateExplorer$Table", "settled", "[J", true)
  | 2 => ("StateExplorer$Table", "values", "[J", true)
  | _ => ("StateExplorer$Table", "nextStates", "[I", true)
def tyTab : Nat → FieldType := fun k => match k with
  | 0 => .array .long
  | 1 => .array .long
  | 2 => .array .long
  | _ => .array .int
abbrev wsTab0 : List Cond := u_ws RTab TTab 4
theorem nmTab : ∀ a, a < 4 → ∀ b, b < 4 → a ≠ b → (TTab a).2.1 ≠ (TTab b).2.1 := by decide +kernel
theorem tyTab_ok : ∀ k, k < 4 → parseFieldDescriptor (TTab k).2.2.1 = some (tyTab k) := by decide +kernel
def RWlk : String := "StateExplorer$Walk"
def TWlk : u_T := fun k => match k with
  | 0 => ("StateExplorer$Walk", "distances", "[I", true)
  | 1 => ("StateExplorer$Walk", "order", "[I", true)
  | 2 => ("StateExplorer$Walk", "parents", "[I", true)
  | 3 => ("StateExplorer$Walk", "steps", "[I", true)
  | 4 => ("StateExplorer$Walk", "settledPairs", "[J", true)
  | 5 => ("StateExplorer$Walk", "words", "I", false)
  | 6 => ("StateExplorer$Walk", "reached", "I", false)
  | 7 => ("StateExplorer$Walk", "doubts", "I", false)
  | 8 => ("StateExplorer$Walk", "doubtState", "I", false)
  | _ => ("StateExplorer$Walk", "doubtChoice", "I", false)
def tyWlk : Nat → FieldType := fun k => match k with
  | 0 => .array .int
  | 1 => .array .int
  | 2 => .array .int
  | 3 => .array .int
  | 4 => .array .long
  | 5 => .int
  | 6 => .int
  | 7 => .int
  | 8 => .int
  | _ => .int
abbrev wsWlk0 : List Cond := u_ws RWlk TWlk 10
theorem nmWlk : ∀ a, a < 10 → ∀ b, b < 10 → a ≠ b → (TWlk a).2.1 ≠ (TWlk b).2.1 := by decide +kernel
theorem tyWlk_ok : ∀ k, k < 10 → parseFieldDescriptor (TWlk k).2.2.1 = some (tyWlk k) := by decide +kernel
def RExp : String := "StateExplorer"
def TExp : u_T := fun k => match k with
  | 0 => ("StateExplorer", "net", "LStateExplorer$Net;", true)
  | 1 => ("StateExplorer", "table", "LStateExplorer$Table;", true)
  | 2 => ("StateExplorer", "walk", "LStateExplorer$Walk;", true)
  | 3 => ("StateExplorer", "partition", "LStateExplorer$Partition;", true)
  | _ => ("StateExplorer", "explored", "Z", false)
def tyExp : Nat → FieldType := fun k => match k with
  | 0 => .object "StateExplorer$Net"
  | 1 => .object "StateExplorer$Table"
  | 2 => .object "StateExplorer$Walk"
  | 3 => .object "StateExplorer$Partition"
  | _ => .boolean
abbrev wsExp0 : List Cond := u_ws RExp TExp 5
theorem nmExp : ∀ a, a < 5 → ∀ b, b < 5 → a ≠ b → (TExp a).2.1 ≠ (TExp b).2.1 := by decide +kernel
theorem tyExp_ok : ∀ k, k < 5 → parseFieldDescriptor (TExp k).2.2.1 = some (tyExp k) := by decide +kernel
def RMod : String := "StateExplorerModel"
def TMod : u_T := fun k => match k with
  | 0 => ("StateExplorerModel", "code", "I", false)
  | 1 => ("StateExplorerModel", "gates", "I", false)
  | 2 => ("StateExplorerModel", "feeds", "I", false)
  | 3 => ("StateExplorerModel", "inputs", "I", false)
  | 4 => ("StateExplorerModel", "latches", "I", false)
  | 5 => ("StateExplorerModel", "outputs", "I", false)
  | 6 => ("StateExplorerModel", "sort", "[I", true)
  | 7 => ("StateExplorerModel", "number", "[I", true)
  | 8 => ("StateExplorerModel", "value", "[I", true)
  | 9 => ("StateExplorerModel", "made", "[I", true)
  | 10 => ("StateExplorerModel", "to", "[I", true)
  | 11 => ("StateExplorerModel", "from", "[I", true)
  | 12 => ("StateExplorerModel", "outputOf", "[I", true)
  | 13 => ("StateExplorerModel", "negated", "[Z", true)
  | 14 => ("StateExplorerModel", "explored", "Z", false)
  | 15 => ("StateExplorerModel", "settles", "[Z", true)
  | 16 => ("StateExplorerModel", "next", "[I", true)
  | 17 => ("StateExplorerModel", "ones", "[J", true)
  | 18 => ("StateExplorerModel", "distance", "[I", true)
  | 19 => ("StateExplorerModel", "apart", "[Z", true)
  | _ => ("StateExplorerModel", "leads", "[Z", true)
def tyMod : Nat → FieldType := fun k => match k with
  | 0 => .int
  | 1 => .int
  | 2 => .int
  | 3 => .int
  | 4 => .int
  | 5 => .int
  | 6 => .array .int
  | 7 => .array .int
  | 8 => .array .int
  | 9 => .array .int
  | 10 => .array .int
  | 11 => .array .int
  | 12 => .array .int
  | 13 => .array .boolean
  | 14 => .boolean
  | 15 => .array .boolean
  | 16 => .array .int
  | 17 => .array .long
  | 18 => .array .int
  | 19 => .array .boolean
  | _ => .array .boolean
abbrev wsMod0 : List Cond := u_ws RMod TMod 21
theorem nmMod : ∀ a, a < 21 → ∀ b, b < 21 → a ≠ b → (TMod a).2.1 ≠ (TMod b).2.1 := by decide +kernel
theorem tyMod_ok : ∀ k, k < 21 → parseFieldDescriptor (TMod k).2.2.1 = some (tyMod k) := by decide +kernel
def RLaw : String := "StateExplorerLaw"
abbrev vwCl : List vw_C := [(RNet, TNet, 10), (RPar, TPar, 4), (RTab, TTab, 4), (RWlk, TWlk, 10), (RExp, TExp, 5), (RMod, TMod, 21)]
/-- the words of the tables that hold at every call -/
def tb : List Cond := lw_tbl.filter goodWord
theorem tb_in : ∀ w ∈ tb, w ∈ lw_tbl := fun w h => (List.mem_filter.mp h).1
theorem tb_good : GoodIn tb tb := fun w h => ⟨h, good_of_word (List.mem_filter.mp h).2⟩
theorem tb_of {w : Cond} (i : Nat) (h : lw_tbl[i]? = some w) (hg : goodWord w = true) : w ∈ tb := List.mem_filter.mpr ⟨List.mem_of_getElem? h, hg⟩
theorem tw_0 : Cond.selects "StateExplorer$Table" ⟨"StateExplorer$Table", "begin", "(LStateExplorer$Net;I)V"⟩ ⟨"StateExplorer$Table", "begin", "(LStateExplorer$Net;I)V"⟩ ∈ tb := tb_of 0 (by decide +kernel) rfl
theorem tw_1 : Cond.selects "StateExplorer$Table" ⟨"StateExplorer$Table", "set", "(IJ)V"⟩ ⟨"StateExplorer$Table", "set", "(IJ)V"⟩ ∈ tb := tb_of 1 (by decide +kernel) rfl
theorem tw_2 : Cond.selects "StateExplorer$Table" ⟨"StateExplorer$Table", "settle", "(LStateExplorer$Net;)V"⟩ ⟨"StateExplorer$Table", "settle", "(LStateExplorer$Net;)V"⟩ ∈ tb := tb_of 2 (by decide +kernel) rfl
theorem tw_3 : Cond.selects "StateExplorer$Table" ⟨"StateExplorer$Table", "sweepOnce", "(LStateExplorer$Net;)Z"⟩ ⟨"StateExplorer$Table", "sweepOnce", "(LStateExplorer$Net;)Z"⟩ ∈ tb := tb_of 3 (by decide +kernel) rfl
theorem tw_4 : Cond.selects "StateExplorer$Table" ⟨"StateExplorer$Table", "learn", "(LStateExplorer$Net;II)Z"⟩ ⟨"StateExplorer$Table", "learn", "(LStateExplorer$Net;II)Z"⟩ ∈ tb := tb_of 4 (by decide +kernel) rfl
theorem tw_5 : Cond.selects "StateExplorer$Table" ⟨"StateExplorer$Table", "keep", "(LStateExplorer$Net;I)V"⟩ ⟨"StateExplorer$Table", "keep", "(LStateExplorer$Net;I)V"⟩ ∈ tb := tb_of 5 (by decide +kernel) rfl
theorem tw_6 : Cond.selects "StateExplorer$Table" ⟨"StateExplorer$Table", "findNext", "(LStateExplorer$Net;II)I"⟩ ⟨"StateExplorer$Table", "findNext", "(LStateExplorer$Net;II)I"⟩ ∈ tb := tb_of 6 (by decide +kernel) rfl
theorem tw_7 : Cond.selects "StateExplorer$Walk" ⟨"StateExplorer$Walk", "forget", "(LStateExplorer$Net;)V"⟩ ⟨"StateExplorer$Walk", "forget", "(LStateExplorer$Net;)V"⟩ ∈ tb := tb_of 7 (by decide +kernel) rfl
theorem tw_8 : Cond.selects "StateExplorer$Walk" ⟨"StateExplorer$Walk", "reach", "(IIII)V"⟩ ⟨"StateExplorer$Walk", "reach", "(IIII)V"⟩ ∈ tb := tb_of 8 (by decide +kernel) rfl
theorem tw_9 : Cond.selects "StateExplorer$Walk" ⟨"StateExplorer$Walk", "leave", "(LStateExplorer$Table;II)V"⟩ ⟨"StateExplorer$Walk", "leave", "(LStateExplorer$Table;II)V"⟩ ∈ tb := tb_of 9 (by decide +kernel) rfl
theorem tw_10 : Cond.selects "StateExplorer$Walk" ⟨"StateExplorer$Walk", "noteDoubt", "(II)V"⟩ ⟨"StateExplorer$Walk", "noteDoubt", "(II)V"⟩ ∈ tb := tb_of 10 (by decide +kernel) rfl
theorem tw_11 : Cond.selects "StateExplorer$Partition" ⟨"StateExplorer$Partition", "splitOnce", "(LStateExplorer$Net;LStateExplorer$Table;LStateExplorer$Walk;)I"⟩ ⟨"StateExplorer$Partition", "splitOnce", "(LStateExplorer$Net;LStateExplorer$Table;LStateExplorer$Walk;)I"⟩ ∈ tb := tb_of 11 (by decide +kernel) rfl
theorem tw_12 : Cond.selects "StateExplorer$Partition" ⟨"StateExplorer$Partition", "place", "(LStateExplorer$Net;LStateExplorer$Table;I)I"⟩ ⟨"StateExplorer$Partition", "place", "(LStateExplorer$Net;LStateExplorer$Table;I)I"⟩ ∈ tb := tb_of 12 (by decide +kernel) rfl
theorem tw_13 : Cond.selects "StateExplorer$Partition" ⟨"StateExplorer$Partition", "goesAlike", "(LStateExplorer$Net;LStateExplorer$Table;II)Z"⟩ ⟨"StateExplorer$Partition", "goesAlike", "(LStateExplorer$Net;LStateExplorer$Table;II)Z"⟩ ∈ tb := tb_of 13 (by decide +kernel) rfl
theorem tw_14 : Cond.selects "StateExplorer$Partition" ⟨"StateExplorer$Partition", "nameOfNext", "(LStateExplorer$Table;II)I"⟩ ⟨"StateExplorer$Partition", "nameOfNext", "(LStateExplorer$Table;II)I"⟩ ∈ tb := tb_of 14 (by decide +kernel) rfl
theorem tw_16 : Cond.selects "StateExplorer" ⟨"StateExplorer", "requireGate", "(I)V"⟩ ⟨"StateExplorer", "requireGate", "(I)V"⟩ ∈ tb := tb_of 16 (by decide +kernel) rfl
theorem tw_17 : Cond.selects "StateExplorer" ⟨"StateExplorer", "requireExplored", "()V"⟩ ⟨"StateExplorer", "requireExplored", "()V"⟩ ∈ tb := tb_of 17 (by decide +kernel) rfl
theorem tw_18 : Cond.selects "StateExplorer" ⟨"StateExplorer", "requireState", "(I)V"⟩ ⟨"StateExplorer", "requireState", "(I)V"⟩ ∈ tb := tb_of 18 (by decide +kernel) rfl
theorem tw_19 : Cond.selects "StateExplorerModel" ⟨"StateExplorerModel", "fails", "(ZZ)Z"⟩ ⟨"StateExplorerModel", "fails", "(ZZ)Z"⟩ ∈ tb := tb_of 19 (by decide +kernel) rfl
theorem tw_20 : Cond.selects "StateExplorerModel" ⟨"StateExplorerModel", "isGate", "(I)Z"⟩ ⟨"StateExplorerModel", "isGate", "(I)Z"⟩ ∈ tb := tb_of 20 (by decide +kernel) rfl
theorem tw_21 : Cond.selects "StateExplorerModel" ⟨"StateExplorerModel", "feedsOf", "(I)I"⟩ ⟨"StateExplorerModel", "feedsOf", "(I)I"⟩ ∈ tb := tb_of 21 (by decide +kernel) rfl
theorem tw_22 : Cond.selects "StateExplorerModel" ⟨"StateExplorerModel", "states", "()I"⟩ ⟨"StateExplorerModel", "states", "()I"⟩ ∈ tb := tb_of 22 (by decide +kernel) rfl
theorem tw_23 : Cond.selects "StateExplorerModel" ⟨"StateExplorerModel", "choices", "()I"⟩ ⟨"StateExplorerModel", "choices", "()I"⟩ ∈ tb := tb_of 23 (by decide +kernel) rfl
theorem tw_24 : Cond.selects "StateExplorerModel" ⟨"StateExplorerModel", "work", "(II)V"⟩ ⟨"StateExplorerModel", "work", "(II)V"⟩ ∈ tb := tb_of 24 (by decide +kernel) rfl
theorem tw_25 : Cond.selects "StateExplorerModel" ⟨"StateExplorerModel", "again", "()Z"⟩ ⟨"StateExplorerModel", "again", "()Z"⟩ ∈ tb := tb_of 25 (by decide +kernel) rfl
theorem tw_26 : Cond.selects "StateExplorerModel" ⟨"StateExplorerModel", "taken", "(I)I"⟩ ⟨"StateExplorerModel", "taken", "(I)I"⟩ ∈ tb := tb_of 26 (by decide +kernel) rfl
theorem tw_27 : Cond.selects "StateExplorerModel" ⟨"StateExplorerModel", "tell", "()V"⟩ ⟨"StateExplorerModel", "tell", "()V"⟩ ∈ tb := tb_of 27 (by decide +kernel) rfl
theorem tw_28 : Cond.selects "StateExplorerModel" ⟨"StateExplorerModel", "differ", "(II)Z"⟩ ⟨"StateExplorerModel", "differ", "(II)Z"⟩ ∈ tb := tb_of 28 (by decide +kernel) rfl
theorem tw_29 : Cond.selects "StateExplorerModel" ⟨"StateExplorerModel", "shows", "(III)Z"⟩ ⟨"StateExplorerModel", "shows", "(III)Z"⟩ ∈ tb := tb_of 29 (by decide +kernel) rfl
theorem tw_30 : Cond.selects "StateExplorerModel" ⟨"StateExplorerModel", "reached", "()I"⟩ ⟨"StateExplorerModel", "reached", "()I"⟩ ∈ tb := tb_of 30 (by decide +kernel) rfl
theorem tw_31 : Cond.selects "StateExplorerModel" ⟨"StateExplorerModel", "isState", "(I)Z"⟩ ⟨"StateExplorerModel", "isState", "(I)Z"⟩ ∈ tb := tb_of 31 (by decide +kernel) rfl
theorem tw_32 : Cond.selects "StateExplorerModel" ⟨"StateExplorerModel", "lead", "(II)V"⟩ ⟨"StateExplorerModel", "lead", "(II)V"⟩ ∈ tb := tb_of 32 (by decide +kernel) rfl
theorem tw_33 : Cond.selects "StateExplorerModel" ⟨"StateExplorerModel", "held", "(JZ)I"⟩ ⟨"StateExplorerModel", "held", "(JZ)I"⟩ ∈ tb := tb_of 33 (by decide +kernel) rfl
theorem tw_34 : Cond.selects "StateExplorerModel" ⟨"StateExplorerModel", "least", "(I)I"⟩ ⟨"StateExplorerModel", "least", "(I)I"⟩ ∈ tb := tb_of 34 (by decide +kernel) rfl
theorem tw_35 : Cond.initialized "StateExplorerLaw" ∈ tb := tb_of 35 (by decide +kernel) rfl
theorem tw_36 : Cond.initialized "StateExplorer" ∈ tb := tb_of 36 (by decide +kernel) rfl
theorem tw_37 : Cond.initialized "StateExplorer$Net" ∈ tb := tb_of 37 (by decide +kernel) rfl
theorem tw_38 : Cond.initialized "StateExplorer$Table" ∈ tb := tb_of 38 (by decide +kernel) rfl
theorem tw_39 : Cond.initialized "StateExplorer$Walk" ∈ tb := tb_of 39 (by decide +kernel) rfl
theorem tw_40 : Cond.initialized "StateExplorer$Partition" ∈ tb := tb_of 40 (by decide +kernel) rfl
theorem tw_41 : Cond.initialized "StateExplorerModel" ∈ tb := tb_of 41 (by decide +kernel) rfl
theorem tw_45 : Cond.initialized "java/lang/IllegalArgumentException" ∈ tb := tb_of 45 (by decide +kernel) rfl
theorem tw_46 : Cond.initialized "java/lang/IndexOutOfBoundsException" ∈ tb := tb_of 46 (by decide +kernel) rfl
theorem tw_47 : Cond.initialized "java/lang/IllegalStateException" ∈ tb := tb_of 47 (by decide +kernel) rfl
theorem tw_48 : Cond.initialized "java/lang/System" ∈ tb := tb_of 48 (by decide +kernel) rfl
set_option maxRecDepth 20000 in
theorem tw_53 : Cond.code ⟨"StateExplorer", "<init>", "()V"⟩ prog_1_method_1_code 1 (none : Option Jvm.ClassFile.FieldType) ∈ tb := tb_of 53 rfl rfl
theorem tw_54 : Cond.methodLink "StateExplorer" 1 ⟨"java/lang/Object", "<init>", "()V"⟩ ∈ tb := tb_of 54 (by decide +kernel) rfl
theorem tw_55 : Cond.instanceMethod ⟨"java/lang/Object", "<init>", "()V"⟩ ∈ tb := tb_of 55 (by decide +kernel) rfl
set_option maxRecDepth 20000 in
theorem tw_56 : Cond.code ⟨"java/lang/Object", "<init>", "()V"⟩ object_method_1_code 1 (none : Option Jvm.ClassFile.FieldType) ∈ tb := tb_of 56 rfl rfl
theorem tw_57 : Cond.classLink "StateExplorer" 7 "StateExplorer$Net" ∈ tb := tb_of 57 (by decide +kernel) rfl
theorem tw_58 : Cond.instantiable "StateExplorer$Net" 10 ∈ tb := tb_of 58 (by decide +kernel) rfl
theorem tw_60 : Cond.instanceMethod ⟨"StateExplorer$Net", "<init>", "()V"⟩ ∈ tb := tb_of 60 (by decide +kernel) rfl
set_option maxRecDepth 20000 in
theorem tw_61 : Cond.code ⟨"StateExplorer$Net", "<init>", "()V"⟩ prog_2_method_1_code 1 (none : Option Jvm.ClassFile.FieldType) ∈ tb := tb_of 61 rfl rfl
theorem tw_62 : Cond.methodLink "StateExplorer$Net" 3 ⟨"java/lang/Object", "<init>", "()V"⟩ ∈ tb := tb_of 62 (by decide +kernel) rfl
theorem tw_63 : Cond.fieldLink "StateExplorer$Net" 9 "StateExplorer$Net" "sorts" "[I" ∈ tb := tb_of 63 (by decide +kernel) rfl
theorem tw_64 : Cond.fieldLink "StateExplorer$Table" 56 "StateExplorer$Net" "sorts" "[I" ∈ tb := tb_of 64 (by decide +kernel) rfl
theorem tw_65 : Cond.fieldLink "StateExplorer$Net" 15 "StateExplorer$Net" "ranks" "[I" ∈ tb := tb_of 65 (by decide +kernel) rfl
theorem tw_66 : Cond.fieldLink "StateExplorer$Table" 62 "StateExplorer$Net" "ranks" "[I" ∈ tb := tb_of 66 (by decide +kernel) rfl
theorem tw_67 : Cond.fieldLink "StateExplorer$Net" 18 "StateExplorer$Net" "starts" "[I" ∈ tb := tb_of 67 (by decide +kernel) rfl
theorem tw_68 : Cond.fieldLink "StateExplorer$Table" 86 "StateExplorer$Net" "starts" "[I" ∈ tb := tb_of 68 (by decide +kernel) rfl
theorem tw_69 : Cond.fieldLink "StateExplorer$Net" 21 "StateExplorer$Net" "literals" "[I" ∈ tb := tb_of 69 (by decide +kernel) rfl
theorem tw_70 : Cond.fieldLink "StateExplorer$Table" 89 "StateExplorer$Net" "literals" "[I" ∈ tb := tb_of 70 (by decide +kernel) rfl
theorem tw_71 : Cond.fieldLink "StateExplorer$Net" 24 "StateExplorer$Net" "nextLiterals" "[I" ∈ tb := tb_of 71 (by decide +kernel) rfl
theorem tw_72 : Cond.fieldLink "StateExplorer$Table" 102 "StateExplorer$Net" "nextLiterals" "[I" ∈ tb := tb_of 72 (by decide +kernel) rfl
theorem tw_73 : Cond.fieldLink "StateExplorer$Net" 27 "StateExplorer$Net" "outputs" "[I" ∈ tb := tb_of 73 (by decide +kernel) rfl
theorem tw_74 : Cond.fieldLink "StateExplorer$Partition" 66 "StateExplorer$Net" "outputs" "[I" ∈ tb := tb_of 74 (by decide +kernel) rfl
theorem tw_75 : Cond.fieldLink "StateExplorer$Net" 30 "StateExplorer$Net" "gateTotal" "I" ∈ tb := tb_of 75 (by decide +kernel) rfl
theorem tw_76 : Cond.fieldLink "StateExplorer$Table" 52 "StateExplorer$Net" "gateTotal" "I" ∈ tb := tb_of 76 (by decide +kernel) rfl
theorem tw_77 : Cond.fieldLink "StateExplorer" 83 "StateExplorer$Net" "gateTotal" "I" ∈ tb := tb_of 77 (by decide +kernel) rfl
theorem tw_78 : Cond.fieldLink "StateExplorer$Net" 34 "StateExplorer$Net" "inputTotal" "I" ∈ tb := tb_of 78 (by decide +kernel) rfl
theorem tw_79 : Cond.fieldLink "StateExplorer" 152 "StateExplorer$Net" "inputTotal" "I" ∈ tb := tb_of 79 (by decide +kernel) rfl
theorem tw_80 : Cond.fieldLink "StateExplorer$Net" 37 "StateExplorer$Net" "latchTotal" "I" ∈ tb := tb_of 80 (by decide +kernel) rfl
theorem tw_81 : Cond.fieldLink "StateExplorer$Table" 99 "StateExplorer$Net" "latchTotal" "I" ∈ tb := tb_of 81 (by decide +kernel) rfl
theorem tw_82 : Cond.fieldLink "StateExplorer" 155 "StateExplorer$Net" "latchTotal" "I" ∈ tb := tb_of 82 (by decide +kernel) rfl
theorem tw_83 : Cond.fieldLink "StateExplorer$Net" 40 "StateExplorer$Net" "outputTotal" "I" ∈ tb := tb_of 83 (by decide +kernel) rfl
theorem tw_84 : Cond.fieldLink "StateExplorer" 76 "StateExplorer$Net" "outputTotal" "I" ∈ tb := tb_of 84 (by decide +kernel) rfl
theorem tw_85 : Cond.fieldLink "StateExplorer$Partition" 63 "StateExplorer$Net" "outputTotal" "I" ∈ tb := tb_of 85 (by decide +kernel) rfl
theorem tw_107 : Cond.arrayClass .int ∈ tb := tb_of 107 (by decide +kernel) rfl
theorem tw_108 : Cond.classLink "StateExplorer" 16 "StateExplorer$Table" ∈ tb := tb_of 108 (by decide +kernel) rfl
theorem tw_109 : Cond.instantiable "StateExplorer$Table" 4 ∈ tb := tb_of 109 (by decide +kernel) rfl
theorem tw_111 : Cond.instanceMethod ⟨"StateExplorer$Table", "<init>", "()V"⟩ ∈ tb := tb_of 111 (by decide +kernel) rfl
set_option maxRecDepth 20000 in
theorem tw_112 : Cond.code ⟨"StateExplorer$Table", "<init>", "()V"⟩ prog_4_method_1_code 1 (none : Option Jvm.ClassFile.FieldType) ∈ tb := tb_of 112 rfl rfl
theorem tw_113 : Cond.methodLink "StateExplorer$Table" 3 ⟨"java/lang/Object", "<init>", "()V"⟩ ∈ tb := tb_of 113 (by decide +kernel) rfl
theorem tw_114 : Cond.fieldLink "StateExplorer$Table" 9 "StateExplorer$Table" "known" "[J" ∈ tb := tb_of 114 (by decide +kernel) rfl
theorem tw_115 : Cond.fieldLink "StateExplorer$Table" 15 "StateExplorer$Table" "settled" "[J" ∈ tb := tb_of 115 (by decide +kernel) rfl
theorem tw_116 : Cond.fieldLink "StateExplorer$Table" 18 "StateExplorer$Table" "values" "[J" ∈ tb := tb_of 116 (by decide +kernel) rfl
theorem tw_117 : Cond.fieldLink "StateExplorer$Walk" 90 "StateExplorer$Table" "values" "[J" ∈ tb := tb_of 117 (by decide +kernel) rfl
theorem tw_118 : Cond.fieldLink "StateExplorer$Table" 21 "StateExplorer$Table" "nextStates" "[I" ∈ tb := tb_of 118 (by decide +kernel) rfl
theorem tw_128 : Cond.arrayClass .long ∈ tb := tb_of 128 (by decide +kernel) rfl
theorem tw_129 : Cond.classLink "StateExplorer" 23 "StateExplorer$Walk" ∈ tb := tb_of 129 (by decide +kernel) rfl
theorem tw_130 : Cond.instantiable "StateExplorer$Walk" 10 ∈ tb := tb_of 130 (by decide +kernel) rfl
theorem tw_132 : Cond.instanceMethod ⟨"StateExplorer$Walk", "<init>", "()V"⟩ ∈ tb := tb_of 132 (by decide +kernel) rfl
set_option maxRecDepth 20000 in
theorem tw_133 : Cond.code ⟨"StateExplorer$Walk", "<init>", "()V"⟩ prog_5_method_1_code 1 (none : Option Jvm.ClassFile.FieldType) ∈ tb := tb_of 133 rfl rfl
theorem tw_134 : Cond.methodLink "StateExplorer$Walk" 3 ⟨"java/lang/Object", "<init>", "()V"⟩ ∈ tb := tb_of 134 (by decide +kernel) rfl
theorem tw_135 : Cond.fieldLink "StateExplorer$Walk" 9 "StateExplorer$Walk" "distances" "[I" ∈ tb := tb_of 135 (by decide +kernel) rfl
theorem tw_136 : Cond.fieldLink "StateExplorer$Partition" 35 "StateExplorer$Walk" "distances" "[I" ∈ tb := tb_of 136 (by decide +kernel) rfl
theorem tw_137 : Cond.fieldLink "StateExplorer" 110 "StateExplorer$Walk" "distances" "[I" ∈ tb := tb_of 137 (by decide +kernel) rfl
theorem tw_138 : Cond.fieldLink "StateExplorer$Walk" 15 "StateExplorer$Walk" "order" "[I" ∈ tb := tb_of 138 (by decide +kernel) rfl
theorem tw_139 : Cond.fieldLink "StateExplorer$Walk" 18 "StateExplorer$Walk" "parents" "[I" ∈ tb := tb_of 139 (by decide +kernel) rfl
theorem tw_140 : Cond.fieldLink "StateExplorer$Walk" 21 "StateExplorer$Walk" "steps" "[I" ∈ tb := tb_of 140 (by decide +kernel) rfl
theorem tw_141 : Cond.fieldLink "StateExplorer$Walk" 24 "StateExplorer$Walk" "settledPairs" "[J" ∈ tb := tb_of 141 (by decide +kernel) rfl
theorem tw_142 : Cond.fieldLink "StateExplorer$Walk" 28 "StateExplorer$Walk" "words" "I" ∈ tb := tb_of 142 (by decide +kernel) rfl
theorem tw_143 : Cond.fieldLink "StateExplorer$Walk" 32 "StateExplorer$Walk" "reached" "I" ∈ tb := tb_of 143 (by decide +kernel) rfl
theorem tw_144 : Cond.fieldLink "StateExplorer" 101 "StateExplorer$Walk" "reached" "I" ∈ tb := tb_of 144 (by decide +kernel) rfl
theorem tw_145 : Cond.fieldLink "StateExplorer$Walk" 35 "StateExplorer$Walk" "doubts" "I" ∈ tb := tb_of 145 (by decide +kernel) rfl
theorem tw_146 : Cond.fieldLink "StateExplorer" 164 "StateExplorer$Walk" "doubts" "I" ∈ tb := tb_of 146 (by decide +kernel) rfl
theorem tw_147 : Cond.fieldLink "StateExplorer$Walk" 38 "StateExplorer$Walk" "doubtState" "I" ∈ tb := tb_of 147 (by decide +kernel) rfl
theorem tw_148 : Cond.fieldLink "StateExplorer" 136 "StateExplorer$Walk" "doubtState" "I" ∈ tb := tb_of 148 (by decide +kernel) rfl
theorem tw_149 : Cond.fieldLink "StateExplorer$Walk" 41 "StateExplorer$Walk" "doubtChoice" "I" ∈ tb := tb_of 149 (by decide +kernel) rfl
theorem tw_150 : Cond.fieldLink "StateExplorer" 139 "StateExplorer$Walk" "doubtChoice" "I" ∈ tb := tb_of 150 (by decide +kernel) rfl
theorem tw_172 : Cond.classLink "StateExplorer" 30 "StateExplorer$Partition" ∈ tb := tb_of 172 (by decide +kernel) rfl
theorem tw_173 : Cond.instantiable "StateExplorer$Partition" 4 ∈ tb := tb_of 173 (by decide +kernel) rfl
theorem tw_175 : Cond.instanceMethod ⟨"StateExplorer$Partition", "<init>", "()V"⟩ ∈ tb := tb_of 175 (by decide +kernel) rfl
set_option maxRecDepth 20000 in
theorem tw_176 : Cond.code ⟨"StateExplorer$Partition", "<init>", "()V"⟩ prog_3_method_1_code 1 (none : Option Jvm.ClassFile.FieldType) ∈ tb := tb_of 176 rfl rfl
theorem tw_177 : Cond.methodLink "StateExplorer$Partition" 3 ⟨"java/lang/Object", "<init>", "()V"⟩ ∈ tb := tb_of 177 (by decide +kernel) rfl
theorem tw_178 : Cond.fieldLink "StateExplorer$Partition" 9 "StateExplorer$Partition" "names" "[I" ∈ tb := tb_of 178 (by decide +kernel) rfl
theorem tw_179 : Cond.fieldLink "StateExplorer" 149 "StateExplorer$Partition" "names" "[I" ∈ tb := tb_of 179 (by decide +kernel) rfl
theorem tw_180 : Cond.fieldLink "StateExplorer$Partition" 15 "StateExplorer$Partition" "finer" "[I" ∈ tb := tb_of 180 (by decide +kernel) rfl
theorem tw_181 : Cond.fieldLink "StateExplorer$Partition" 18 "StateExplorer$Partition" "behind" "[I" ∈ tb := tb_of 181 (by decide +kernel) rfl
theorem tw_182 : Cond.fieldLink "StateExplorer$Partition" 21 "StateExplorer$Partition" "total" "I" ∈ tb := tb_of 182 (by decide +kernel) rfl
theorem tw_183 : Cond.fieldLink "StateExplorer" 161 "StateExplorer$Partition" "total" "I" ∈ tb := tb_of 183 (by decide +kernel) rfl
theorem tw_193 : Cond.fieldLink "StateExplorer" 10 "StateExplorer" "net" "LStateExplorer$Net;" ∈ tb := tb_of 193 (by decide +kernel) rfl
theorem tw_194 : Cond.fieldLink "StateExplorer" 19 "StateExplorer" "table" "LStateExplorer$Table;" ∈ tb := tb_of 194 (by decide +kernel) rfl
theorem tw_195 : Cond.fieldLink "StateExplorer" 26 "StateExplorer" "walk" "LStateExplorer$Walk;" ∈ tb := tb_of 195 (by decide +kernel) rfl
theorem tw_196 : Cond.fieldLink "StateExplorer" 33 "StateExplorer" "partition" "LStateExplorer$Partition;" ∈ tb := tb_of 196 (by decide +kernel) rfl
theorem tw_197 : Cond.fieldLink "StateExplorer" 37 "StateExplorer" "explored" "Z" ∈ tb := tb_of 197 (by decide +kernel) rfl
theorem tw_209 : Cond.methodLink "StateExplorerLaw" 69 ⟨"StateExplorer", "clear", "()I"⟩ ∈ tb := tb_of 209 (by decide +kernel) rfl
theorem tw_210 : Cond.instanceMethod ⟨"StateExplorer", "clear", "()I"⟩ ∈ tb := tb_of 210 (by decide +kernel) rfl
theorem tw_211 : Cond.selects "StateExplorer" ⟨"StateExplorer", "clear", "()I"⟩ ⟨"StateExplorer", "clear", "()I"⟩ ∈ tb := tb_of 211 (by decide +kernel) rfl
set_option maxRecDepth 20000 in
theorem tw_212 : Cond.code ⟨"StateExplorer", "clear", "()I"⟩ prog_1_method_5_code 2 (some .int) ∈ tb := tb_of 212 rfl rfl
theorem tw_213 : Cond.methodLink "StateExplorer" 86 ⟨"StateExplorer$Net", "empty", "()V"⟩ ∈ tb := tb_of 213 (by decide +kernel) rfl
theorem tw_214 : Cond.instanceMethod ⟨"StateExplorer$Net", "empty", "()V"⟩ ∈ tb := tb_of 214 (by decide +kernel) rfl
theorem tw_215 : Cond.selects "StateExplorer$Net" ⟨"StateExplorer$Net", "empty", "()V"⟩ ⟨"StateExplorer$Net", "empty", "()V"⟩ ∈ tb := tb_of 215 (by decide +kernel) rfl
set_option maxRecDepth 20000 in
theorem tw_216 : Cond.code ⟨"StateExplorer$Net", "empty", "()V"⟩ prog_2_method_2_code 1 (none : Option Jvm.ClassFile.FieldType) ∈ tb := tb_of 216 rfl rfl
theorem tw_217 : Cond.methodLink "StateExplorerLaw" 74 ⟨"StateExplorer", "explore", "()I"⟩ ∈ tb := tb_of 217 (by decide +kernel) rfl
theorem tw_218 : Cond.instanceMethod ⟨"StateExplorer", "explore", "()I"⟩ ∈ tb := tb_of 218 (by decide +kernel) rfl
theorem tw_219 : Cond.selects "StateExplorer" ⟨"StateExplorer", "explore", "()I"⟩ ⟨"StateExplorer", "explore", "()I"⟩ ∈ tb := tb_of 219 (by decide +kernel) rfl
set_option maxRecDepth 20000 in
theorem tw_220 : Cond.code ⟨"StateExplorer", "explore", "()I"⟩ prog_1_method_6_code 1 (some .int) ∈ tb := tb_of 220 rfl rfl
theorem tw_221 : Cond.methodLink "StateExplorer" 89 ⟨"StateExplorer$Table", "fill", "(LStateExplorer$Net;)V"⟩ ∈ tb := tb_of 221 (by decide +kernel) rfl
theorem tw_222 : Cond.instanceMethod ⟨"StateExplorer$Table", "fill", "(LStateExplorer$Net;)V"⟩ ∈ tb := tb_of 222 (by decide +kernel) rfl
theorem tw_223 : Cond.selects "StateExplorer$Table" ⟨"StateExplorer$Table", "fill", "(LStateExplorer$Net;)V"⟩ ⟨"StateExplorer$Table", "fill", "(LStateExplorer$Net;)V"⟩ ∈ tb := tb_of 223 (by decide +kernel) rfl
set_option maxRecDepth 20000 in
theorem tw_224 : Cond.code ⟨"StateExplorer$Table", "fill", "(LStateExplorer$Net;)V"⟩ prog_4_method_2_code 7 (none : Option Jvm.ClassFile.FieldType) ∈ tb := tb_of 224 rfl rfl
theorem tw_225 : Cond.methodLink "StateExplorer$Table" 25 ⟨"StateExplorer$Net", "wordTotal", "()I"⟩ ∈ tb := tb_of 225 (by decide +kernel) rfl
theorem tw_226 : Cond.instanceMethod ⟨"StateExplorer$Net", "wordTotal", "()I"⟩ ∈ tb := tb_of 226 (by decide +kernel) rfl
theorem tw_227 : Cond.selects "StateExplorer$Net" ⟨"StateExplorer$Net", "wordTotal", "()I"⟩ ⟨"StateExplorer$Net", "wordTotal", "()I"⟩ ∈ tb := tb_of 227 (by decide +kernel) rfl
set_option maxRecDepth 20000 in
theorem tw_228 : Cond.code ⟨"StateExplorer$Net", "wordTotal", "()I"⟩ prog_2_method_6_code 1 (some .int) ∈ tb := tb_of 228 rfl rfl
theorem tw_229 : Cond.methodLink "StateExplorer$Net" 43 ⟨"StateExplorer$Net", "stateTotal", "()I"⟩ ∈ tb := tb_of 229 (by decide +kernel) rfl
theorem tw_230 : Cond.instanceMethod ⟨"StateExplorer$Net", "stateTotal", "()I"⟩ ∈ tb := tb_of 230 (by decide +kernel) rfl
theorem tw_231 : Cond.selects "StateExplorer$Net" ⟨"StateExplorer$Net", "stateTotal", "()I"⟩ ⟨"StateExplorer$Net", "stateTotal", "()I"⟩ ∈ tb := tb_of 231 (by decide +kernel) rfl
set_option maxRecDepth 20000 in
theorem tw_232 : Cond.code ⟨"StateExplorer$Net", "stateTotal", "()I"⟩ prog_2_method_4_code 1 (some .int) ∈ tb := tb_of 232 rfl rfl
theorem tw_234 : Cond.static ⟨"StateExplorer", "wordOf", "(I)I"⟩ ∈ tb := tb_of 234 (by decide +kernel) rfl
set_option maxRecDepth 20000 in
theorem tw_235 : Cond.code ⟨"StateExplorer", "wordOf", "(I)I"⟩ prog_1_method_19_code 1 (some .int) ∈ tb := tb_of 235 rfl rfl
theorem tw_236 : Cond.methodLink "StateExplorer$Table" 31 ⟨"StateExplorer$Table", "begin", "(LStateExplorer$Net;I)V"⟩ ∈ tb := tb_of 236 (by decide +kernel) rfl
theorem tw_238 : Cond.instanceMethod ⟨"StateExplorer$Table", "begin", "(LStateExplorer$Net;I)V"⟩ ∈ tb := tb_of 238 (by decide +kernel) rfl
set_option maxRecDepth 20000 in
theorem tw_239 : Cond.code ⟨"StateExplorer$Table", "begin", "(LStateExplorer$Net;I)V"⟩ prog_4_method_3_code 5 (none : Option Jvm.ClassFile.FieldType) ∈ tb := tb_of 239 rfl rfl
theorem tw_240 : Cond.fieldLink "StateExplorer$Table" 59 "StateExplorer$Table" "INPUT_WORDS" "[J" ∈ tb := tb_of 240 (by decide +kernel) rfl
theorem tw_242 : Cond.methodLink "StateExplorer$Table" 65 ⟨"StateExplorer$Table", "set", "(IJ)V"⟩ ∈ tb := tb_of 242 (by decide +kernel) rfl
theorem tw_244 : Cond.instanceMethod ⟨"StateExplorer$Table", "set", "(IJ)V"⟩ ∈ tb := tb_of 244 (by decide +kernel) rfl
set_option maxRecDepth 20000 in
theorem tw_245 : Cond.code ⟨"StateExplorer$Table", "set", "(IJ)V"⟩ prog_4_method_4_code 4 (none : Option Jvm.ClassFile.FieldType) ∈ tb := tb_of 245 rfl rfl
theorem tw_246 : Cond.constantLong "StateExplorer$Table" 73 (-1) ∈ tb := tb_of 246 (by decide +kernel) rfl
theorem tw_247 : Cond.methodLink "StateExplorer$Table" 69 ⟨"StateExplorer$Table", "latchBits", "(II)J"⟩ ∈ tb := tb_of 247 (by decide +kernel) rfl
theorem tw_248 : Cond.static ⟨"StateExplorer$Table", "latchBits", "(II)J"⟩ ∈ tb := tb_of 248 (by decide +kernel) rfl
set_option maxRecDepth 20000 in
theorem tw_249 : Cond.code ⟨"StateExplorer$Table", "latchBits", "(II)J"⟩ prog_4_method_5_code 2 (some .long) ∈ tb := tb_of 249 rfl rfl
theorem tw_250 : Cond.fieldLink "StateExplorer$Table" 75 "StateExplorer$Table" "LATCH_WORDS" "[J" ∈ tb := tb_of 250 (by decide +kernel) rfl
theorem tw_252 : Cond.methodLink "StateExplorer$Table" 35 ⟨"StateExplorer$Table", "settle", "(LStateExplorer$Net;)V"⟩ ∈ tb := tb_of 252 (by decide +kernel) rfl
theorem tw_254 : Cond.instanceMethod ⟨"StateExplorer$Table", "settle", "(LStateExplorer$Net;)V"⟩ ∈ tb := tb_of 254 (by decide +kernel) rfl
set_option maxRecDepth 20000 in
theorem tw_255 : Cond.code ⟨"StateExplorer$Table", "settle", "(LStateExplorer$Net;)V"⟩ prog_4_method_6_code 3 (none : Option Jvm.ClassFile.FieldType) ∈ tb := tb_of 255 rfl rfl
theorem tw_256 : Cond.methodLink "StateExplorer$Table" 78 ⟨"StateExplorer$Table", "sweepOnce", "(LStateExplorer$Net;)Z"⟩ ∈ tb := tb_of 256 (by decide +kernel) rfl
theorem tw_258 : Cond.instanceMethod ⟨"StateExplorer$Table", "sweepOnce", "(LStateExplorer$Net;)Z"⟩ ∈ tb := tb_of 258 (by decide +kernel) rfl
set_option maxRecDepth 20000 in
theorem tw_259 : Cond.code ⟨"StateExplorer$Table", "sweepOnce", "(LStateExplorer$Net;)Z"⟩ prog_4_method_7_code 5 (some .boolean) ∈ tb := tb_of 259 rfl rfl
theorem tw_260 : Cond.methodLink "StateExplorer$Table" 82 ⟨"StateExplorer$Table", "learn", "(LStateExplorer$Net;II)Z"⟩ ∈ tb := tb_of 260 (by decide +kernel) rfl
theorem tw_262 : Cond.instanceMethod ⟨"StateExplorer$Table", "learn", "(LStateExplorer$Net;II)Z"⟩ ∈ tb := tb_of 262 (by decide +kernel) rfl
set_option maxRecDepth 20000 in
theorem tw_263 : Cond.code ⟨"StateExplorer$Table", "learn", "(LStateExplorer$Net;II)Z"⟩ prog_4_method_8_code 11 (some .boolean) ∈ tb := tb_of 263 rfl rfl
theorem tw_264 : Cond.methodLink "StateExplorer$Table" 39 ⟨"StateExplorer$Table", "keep", "(LStateExplorer$Net;I)V"⟩ ∈ tb := tb_of 264 (by decide +kernel) rfl
theorem tw_266 : Cond.instanceMethod ⟨"StateExplorer$Table", "keep", "(LStateExplorer$Net;I)V"⟩ ∈ tb := tb_of 266 (by decide +kernel) rfl
set_option maxRecDepth 20000 in
theorem tw_267 : Cond.code ⟨"StateExplorer$Table", "keep", "(LStateExplorer$Net;I)V"⟩ prog_4_method_9_code 6 (none : Option Jvm.ClassFile.FieldType) ∈ tb := tb_of 267 rfl rfl
theorem tw_268 : Cond.methodLink "StateExplorer$Table" 42 ⟨"StateExplorer$Net", "stateTotal", "()I"⟩ ∈ tb := tb_of 268 (by decide +kernel) rfl
theorem tw_269 : Cond.methodLink "StateExplorer$Table" 45 ⟨"StateExplorer$Net", "choiceTotal", "()I"⟩ ∈ tb := tb_of 269 (by decide +kernel) rfl
theorem tw_270 : Cond.instanceMethod ⟨"StateExplorer$Net", "choiceTotal", "()I"⟩ ∈ tb := tb_of 270 (by decide +kernel) rfl
theorem tw_271 : Cond.selects "StateExplorer$Net" ⟨"StateExplorer$Net", "choiceTotal", "()I"⟩ ⟨"StateExplorer$Net", "choiceTotal", "()I"⟩ ∈ tb := tb_of 271 (by decide +kernel) rfl
set_option maxRecDepth 20000 in
theorem tw_272 : Cond.code ⟨"StateExplorer$Net", "choiceTotal", "()I"⟩ prog_2_method_5_code 1 (some .int) ∈ tb := tb_of 272 rfl rfl
theorem tw_273 : Cond.methodLink "StateExplorer$Table" 48 ⟨"StateExplorer$Table", "findNext", "(LStateExplorer$Net;II)I"⟩ ∈ tb := tb_of 273 (by decide +kernel) rfl
theorem tw_275 : Cond.instanceMethod ⟨"StateExplorer$Table", "findNext", "(LStateExplorer$Net;II)I"⟩ ∈ tb := tb_of 275 (by decide +kernel) rfl
set_option maxRecDepth 20000 in
theorem tw_276 : Cond.code ⟨"StateExplorer$Table", "findNext", "(LStateExplorer$Net;II)I"⟩ prog_4_method_10_code 11 (some .int) ∈ tb := tb_of 276 rfl rfl
theorem tw_279 : Cond.static ⟨"StateExplorer", "shiftOf", "(I)I"⟩ ∈ tb := tb_of 279 (by decide +kernel) rfl
set_option maxRecDepth 20000 in
theorem tw_280 : Cond.code ⟨"StateExplorer", "shiftOf", "(I)I"⟩ prog_1_method_20_code 1 (some .int) ∈ tb := tb_of 280 rfl rfl
theorem tw_281 : Cond.methodLink "StateExplorer" 93 ⟨"StateExplorer$Walk", "run", "(LStateExplorer$Net;LStateExplorer$Table;)V"⟩ ∈ tb := tb_of 281 (by decide +kernel) rfl
theorem tw_282 : Cond.instanceMethod ⟨"StateExplorer$Walk", "run", "(LStateExplorer$Net;LStateExplorer$Table;)V"⟩ ∈ tb := tb_of 282 (by decide +kernel) rfl
theorem tw_283 : Cond.selects "StateExplorer$Walk" ⟨"StateExplorer$Walk", "run", "(LStateExplorer$Net;LStateExplorer$Table;)V"⟩ ⟨"StateExplorer$Walk", "run", "(LStateExplorer$Net;LStateExplorer$Table;)V"⟩ ∈ tb := tb_of 283 (by decide +kernel) rfl
set_option maxRecDepth 20000 in
theorem tw_284 : Cond.code ⟨"StateExplorer$Walk", "run", "(LStateExplorer$Net;LStateExplorer$Table;)V"⟩ prog_5_method_2_code 5 (none : Option Jvm.ClassFile.FieldType) ∈ tb := tb_of 284 rfl rfl
theorem tw_285 : Cond.methodLink "StateExplorer$Walk" 44 ⟨"StateExplorer$Walk", "forget", "(LStateExplorer$Net;)V"⟩ ∈ tb := tb_of 285 (by decide +kernel) rfl
theorem tw_287 : Cond.instanceMethod ⟨"StateExplorer$Walk", "forget", "(LStateExplorer$Net;)V"⟩ ∈ tb := tb_of 287 (by decide +kernel) rfl
set_option maxRecDepth 20000 in
theorem tw_288 : Cond.code ⟨"StateExplorer$Walk", "forget", "(LStateExplorer$Net;)V"⟩ prog_5_method_3_code 4 (none : Option Jvm.ClassFile.FieldType) ∈ tb := tb_of 288 rfl rfl
theorem tw_289 : Cond.methodLink "StateExplorer$Walk" 62 ⟨"StateExplorer$Net", "stateTotal", "()I"⟩ ∈ tb := tb_of 289 (by decide +kernel) rfl
theorem tw_290 : Cond.methodLink "StateExplorer$Walk" 65 ⟨"StateExplorer$Net", "wordTotal", "()I"⟩ ∈ tb := tb_of 290 (by decide +kernel) rfl
theorem tw_291 : Cond.methodLink "StateExplorer$Walk" 48 ⟨"StateExplorer$Walk", "reach", "(IIII)V"⟩ ∈ tb := tb_of 291 (by decide +kernel) rfl
theorem tw_293 : Cond.instanceMethod ⟨"StateExplorer$Walk", "reach", "(IIII)V"⟩ ∈ tb := tb_of 293 (by decide +kernel) rfl
set_option maxRecDepth 20000 in
theorem tw_294 : Cond.code ⟨"StateExplorer$Walk", "reach", "(IIII)V"⟩ prog_5_method_4_code 5 (none : Option Jvm.ClassFile.FieldType) ∈ tb := tb_of 294 rfl rfl
theorem tw_295 : Cond.methodLink "StateExplorer$Walk" 52 ⟨"StateExplorer$Net", "choiceTotal", "()I"⟩ ∈ tb := tb_of 295 (by decide +kernel) rfl
theorem tw_296 : Cond.methodLink "StateExplorer$Walk" 58 ⟨"StateExplorer$Walk", "leave", "(LStateExplorer$Table;II)V"⟩ ∈ tb := tb_of 296 (by decide +kernel) rfl
theorem tw_298 : Cond.instanceMethod ⟨"StateExplorer$Walk", "leave", "(LStateExplorer$Table;II)V"⟩ ∈ tb := tb_of 298 (by decide +kernel) rfl
set_option maxRecDepth 20000 in
theorem tw_299 : Cond.code ⟨"StateExplorer$Walk", "leave", "(LStateExplorer$Table;II)V"⟩ prog_5_method_5_code 6 (none : Option Jvm.ClassFile.FieldType) ∈ tb := tb_of 299 rfl rfl
theorem tw_301 : Cond.methodLink "StateExplorer$Walk" 72 ⟨"StateExplorer$Table", "settledIn", "(I)I"⟩ ∈ tb := tb_of 301 (by decide +kernel) rfl
theorem tw_302 : Cond.instanceMethod ⟨"StateExplorer$Table", "settledIn", "(I)I"⟩ ∈ tb := tb_of 302 (by decide +kernel) rfl
theorem tw_303 : Cond.selects "StateExplorer$Table" ⟨"StateExplorer$Table", "settledIn", "(I)I"⟩ ⟨"StateExplorer$Table", "settledIn", "(I)I"⟩ ∈ tb := tb_of 303 (by decide +kernel) rfl
set_option maxRecDepth 20000 in
theorem tw_304 : Cond.code ⟨"StateExplorer$Table", "settledIn", "(I)I"⟩ prog_4_method_12_code 2 (some .int) ∈ tb := tb_of 304 rfl rfl
theorem tw_305 : Cond.constant "StateExplorer$Table" 105 65535 ∈ tb := tb_of 305 (by decide +kernel) rfl
theorem tw_307 : Cond.methodLink "StateExplorer$Walk" 80 ⟨"StateExplorer$Table", "nextOf", "(II)I"⟩ ∈ tb := tb_of 307 (by decide +kernel) rfl
theorem tw_308 : Cond.instanceMethod ⟨"StateExplorer$Table", "nextOf", "(II)I"⟩ ∈ tb := tb_of 308 (by decide +kernel) rfl
theorem tw_309 : Cond.selects "StateExplorer$Table" ⟨"StateExplorer$Table", "nextOf", "(II)I"⟩ ⟨"StateExplorer$Table", "nextOf", "(II)I"⟩ ∈ tb := tb_of 309 (by decide +kernel) rfl
set_option maxRecDepth 20000 in
theorem tw_310 : Cond.code ⟨"StateExplorer$Table", "nextOf", "(II)I"⟩ prog_4_method_11_code 3 (some .int) ∈ tb := tb_of 310 rfl rfl
theorem tw_311 : Cond.methodLink "StateExplorer$Walk" 84 ⟨"StateExplorer$Walk", "noteDoubt", "(II)V"⟩ ∈ tb := tb_of 311 (by decide +kernel) rfl
theorem tw_313 : Cond.instanceMethod ⟨"StateExplorer$Walk", "noteDoubt", "(II)V"⟩ ∈ tb := tb_of 313 (by decide +kernel) rfl
set_option maxRecDepth 20000 in
theorem tw_314 : Cond.code ⟨"StateExplorer$Walk", "noteDoubt", "(II)V"⟩ prog_5_method_6_code 3 (none : Option Jvm.ClassFile.FieldType) ∈ tb := tb_of 314 rfl rfl
theorem tw_315 : Cond.methodLink "StateExplorer" 97 ⟨"StateExplorer$Partition", "split", "(LStateExplorer$Net;LStateExplorer$Table;LStateExplorer$Walk;)V"⟩ ∈ tb := tb_of 315 (by decide +kernel) rfl
theorem tw_316 : Cond.instanceMethod ⟨"StateExplorer$Partition", "split", "(LStateExplorer$Net;LStateExplorer$Table;LStateExplorer$Walk;)V"⟩ ∈ tb := tb_of 316 (by decide +kernel) rfl
theorem tw_317 : Cond.selects "StateExplorer$Partition" ⟨"StateExplorer$Partition", "split", "(LStateExplorer$Net;LStateExplorer$Table;LStateExplorer$Walk;)V"⟩ ⟨"StateExplorer$Partition", "split", "(LStateExplorer$Net;LStateExplorer$Table;LStateExplorer$Walk;)V"⟩ ∈ tb := tb_of 317 (by decide +kernel) rfl
set_option maxRecDepth 20000 in
theorem tw_318 : Cond.code ⟨"StateExplorer$Partition", "split", "(LStateExplorer$Net;LStateExplorer$Table;LStateExplorer$Walk;)V"⟩ prog_3_method_2_code 7 (none : Option Jvm.ClassFile.FieldType) ∈ tb := tb_of 318 rfl rfl
theorem tw_319 : Cond.methodLink "StateExplorer$Partition" 25 ⟨"StateExplorer$Net", "stateTotal", "()I"⟩ ∈ tb := tb_of 319 (by decide +kernel) rfl
theorem tw_320 : Cond.methodLink "StateExplorer$Partition" 31 ⟨"StateExplorer$Partition", "splitOnce", "(LStateExplorer$Net;LStateExplorer$Table;LStateExplorer$Walk;)I"⟩ ∈ tb := tb_of 320 (by decide +kernel) rfl
theorem tw_322 : Cond.instanceMethod ⟨"StateExplorer$Partition", "splitOnce", "(LStateExplorer$Net;LStateExplorer$Table;LStateExplorer$Walk;)I"⟩ ∈ tb := tb_of 322 (by decide +kernel) rfl
set_option maxRecDepth 20000 in
theorem tw_323 : Cond.code ⟨"StateExplorer$Partition", "splitOnce", "(LStateExplorer$Net;LStateExplorer$Table;LStateExplorer$Walk;)I"⟩ prog_3_method_3_code 7 (some .int) ∈ tb := tb_of 323 rfl rfl
theorem tw_324 : Cond.methodLink "StateExplorer$Partition" 40 ⟨"StateExplorer$Partition", "place", "(LStateExplorer$Net;LStateExplorer$Table;I)I"⟩ ∈ tb := tb_of 324 (by decide +kernel) rfl
theorem tw_326 : Cond.instanceMethod ⟨"StateExplorer$Partition", "place", "(LStateExplorer$Net;LStateExplorer$Table;I)I"⟩ ∈ tb := tb_of 326 (by decide +kernel) rfl
set_option maxRecDepth 20000 in
theorem tw_327 : Cond.code ⟨"StateExplorer$Partition", "place", "(LStateExplorer$Net;LStateExplorer$Table;I)I"⟩ prog_3_method_4_code 7 (some .int) ∈ tb := tb_of 327 rfl rfl
theorem tw_328 : Cond.methodLink "StateExplorer$Partition" 50 ⟨"StateExplorer$Partition", "looksAlike", "(LStateExplorer$Net;LStateExplorer$Table;II)Z"⟩ ∈ tb := tb_of 328 (by decide +kernel) rfl
theorem tw_329 : Cond.static ⟨"StateExplorer$Partition", "looksAlike", "(LStateExplorer$Net;LStateExplorer$Table;II)Z"⟩ ∈ tb := tb_of 329 (by decide +kernel) rfl
set_option maxRecDepth 20000 in
theorem tw_330 : Cond.code ⟨"StateExplorer$Partition", "looksAlike", "(LStateExplorer$Net;LStateExplorer$Table;II)Z"⟩ prog_3_method_5_code 8 (some .boolean) ∈ tb := tb_of 330 rfl rfl
theorem tw_331 : Cond.methodLink "StateExplorer$Partition" 57 ⟨"StateExplorer$Table", "settledIn", "(I)I"⟩ ∈ tb := tb_of 331 (by decide +kernel) rfl
theorem tw_332 : Cond.methodLink "StateExplorer$Partition" 69 ⟨"StateExplorer$Table", "onesIn", "(II)I"⟩ ∈ tb := tb_of 332 (by decide +kernel) rfl
theorem tw_333 : Cond.instanceMethod ⟨"StateExplorer$Table", "onesIn", "(II)I"⟩ ∈ tb := tb_of 333 (by decide +kernel) rfl
theorem tw_334 : Cond.selects "StateExplorer$Table" ⟨"StateExplorer$Table", "onesIn", "(II)I"⟩ ⟨"StateExplorer$Table", "onesIn", "(II)I"⟩ ∈ tb := tb_of 334 (by decide +kernel) rfl
set_option maxRecDepth 20000 in
theorem tw_335 : Cond.code ⟨"StateExplorer$Table", "onesIn", "(II)I"⟩ prog_4_method_13_code 3 (some .int) ∈ tb := tb_of 335 rfl rfl
theorem tw_336 : Cond.methodLink "StateExplorer$Partition" 54 ⟨"StateExplorer$Partition", "goesAlike", "(LStateExplorer$Net;LStateExplorer$Table;II)Z"⟩ ∈ tb := tb_of 336 (by decide +kernel) rfl
theorem tw_338 : Cond.instanceMethod ⟨"StateExplorer$Partition", "goesAlike", "(LStateExplorer$Net;LStateExplorer$Table;II)Z"⟩ ∈ tb := tb_of 338 (by decide +kernel) rfl
set_option maxRecDepth 20000 in
theorem tw_339 : Cond.code ⟨"StateExplorer$Partition", "goesAlike", "(LStateExplorer$Net;LStateExplorer$Table;II)Z"⟩ prog_3_method_6_code 7 (some .boolean) ∈ tb := tb_of 339 rfl rfl
theorem tw_340 : Cond.methodLink "StateExplorer$Partition" 73 ⟨"StateExplorer$Net", "choiceTotal", "()I"⟩ ∈ tb := tb_of 340 (by decide +kernel) rfl
theorem tw_341 : Cond.methodLink "StateExplorer$Partition" 76 ⟨"StateExplorer$Partition", "nameOfNext", "(LStateExplorer$Table;II)I"⟩ ∈ tb := tb_of 341 (by decide +kernel) rfl
theorem tw_343 : Cond.instanceMethod ⟨"StateExplorer$Partition", "nameOfNext", "(LStateExplorer$Table;II)I"⟩ ∈ tb := tb_of 343 (by decide +kernel) rfl
set_option maxRecDepth 20000 in
theorem tw_344 : Cond.code ⟨"StateExplorer$Partition", "nameOfNext", "(LStateExplorer$Table;II)I"⟩ prog_3_method_7_code 5 (some .int) ∈ tb := tb_of 344 rfl rfl
theorem tw_345 : Cond.methodLink "StateExplorer$Partition" 80 ⟨"StateExplorer$Table", "nextOf", "(II)I"⟩ ∈ tb := tb_of 345 (by decide +kernel) rfl
theorem tw_346 : Cond.methodLink "StateExplorer$Partition" 44 ⟨"java/lang/System", "arraycopy", "(Ljava/lang/Object;ILjava/lang/Object;II)V"⟩ ∈ tb := tb_of 346 (by decide +kernel) rfl
theorem tw_347 : Cond.static ⟨"java/lang/System", "arraycopy", "(Ljava/lang/Object;ILjava/lang/Object;II)V"⟩ ∈ tb := tb_of 347 (by decide +kernel) rfl
theorem tw_348 : Cond.native ⟨"java/lang/System", "arraycopy", "(Ljava/lang/Object;ILjava/lang/Object;II)V"⟩ ∈ tb := tb_of 348 (by decide +kernel) rfl
theorem tw_349 : Cond.methodLink "StateExplorerLaw" 103 ⟨"StateExplorer", "count", "(I)I"⟩ ∈ tb := tb_of 349 (by decide +kernel) rfl
theorem tw_350 : Cond.instanceMethod ⟨"StateExplorer", "count", "(I)I"⟩ ∈ tb := tb_of 350 (by decide +kernel) rfl
theorem tw_351 : Cond.selects "StateExplorer" ⟨"StateExplorer", "count", "(I)I"⟩ ⟨"StateExplorer", "count", "(I)I"⟩ ∈ tb := tb_of 351 (by decide +kernel) rfl
set_option maxRecDepth 20000 in
theorem tw_352 : Cond.code ⟨"StateExplorer", "count", "(I)I"⟩ prog_1_method_15_code 2 (some .int) ∈ tb := tb_of 352 rfl rfl
theorem tw_353 : Cond.methodLink "StateExplorer" 68 ⟨"StateExplorer$Net", "feedTotal", "()I"⟩ ∈ tb := tb_of 353 (by decide +kernel) rfl
theorem tw_354 : Cond.instanceMethod ⟨"StateExplorer$Net", "feedTotal", "()I"⟩ ∈ tb := tb_of 354 (by decide +kernel) rfl
theorem tw_355 : Cond.selects "StateExplorer$Net" ⟨"StateExplorer$Net", "feedTotal", "()I"⟩ ⟨"StateExplorer$Net", "feedTotal", "()I"⟩ ∈ tb := tb_of 355 (by decide +kernel) rfl
set_option maxRecDepth 20000 in
theorem tw_356 : Cond.code ⟨"StateExplorer$Net", "feedTotal", "()I"⟩ prog_2_method_3_code 1 (some .int) ∈ tb := tb_of 356 rfl rfl
theorem tw_357 : Cond.methodLink "StateExplorer" 158 ⟨"StateExplorer$Walk", "greatestDistance", "()I"⟩ ∈ tb := tb_of 357 (by decide +kernel) rfl
theorem tw_358 : Cond.instanceMethod ⟨"StateExplorer$Walk", "greatestDistance", "()I"⟩ ∈ tb := tb_of 358 (by decide +kernel) rfl
theorem tw_359 : Cond.selects "StateExplorer$Walk" ⟨"StateExplorer$Walk", "greatestDistance", "()I"⟩ ⟨"StateExplorer$Walk", "greatestDistance", "()I"⟩ ∈ tb := tb_of 359 (by decide +kernel) rfl
set_option maxRecDepth 20000 in
theorem tw_360 : Cond.code ⟨"StateExplorer$Walk", "greatestDistance", "()I"⟩ prog_5_method_9_code 1 (some .int) ∈ tb := tb_of 360 rfl rfl
theorem tw_361 : Cond.methodLink "StateExplorerLaw" 56 ⟨"StateExplorerLaw", "gate", "(LStateExplorer;I[J)I"⟩ ∈ tb := tb_of 361 (by decide +kernel) rfl
theorem tw_362 : Cond.static ⟨"StateExplorerLaw", "gate", "(LStateExplorer;I[J)I"⟩ ∈ tb := tb_of 362 (by decide +kernel) rfl
set_option maxRecDepth 20000 in
theorem tw_363 : Cond.codeWith ⟨"StateExplorerLaw", "gate", "(LStateExplorer;I[J)I"⟩ method_3_code 4 (some .int) [(0, 9, 12, 13)] ∈ tb := tb_of 363 rfl rfl
theorem tw_364 : Cond.classLink "StateExplorerLaw" 13 "java/lang/IllegalArgumentException" ∈ tb := tb_of 364 (by decide +kernel) rfl
theorem tw_365 : Cond.methodLink "StateExplorerLaw" 7 ⟨"StateExplorer", "gate", "(I)I"⟩ ∈ tb := tb_of 365 (by decide +kernel) rfl
theorem tw_366 : Cond.instanceMethod ⟨"StateExplorer", "gate", "(I)I"⟩ ∈ tb := tb_of 366 (by decide +kernel) rfl
theorem tw_367 : Cond.selects "StateExplorer" ⟨"StateExplorer", "gate", "(I)I"⟩ ⟨"StateExplorer", "gate", "(I)I"⟩ ∈ tb := tb_of 367 (by decide +kernel) rfl
set_option maxRecDepth 20000 in
theorem tw_368 : Cond.code ⟨"StateExplorer", "gate", "(I)I"⟩ prog_1_method_2_code 2 (some .int) ∈ tb := tb_of 368 rfl rfl
theorem tw_369 : Cond.classLink "StateExplorer" 41 "java/lang/IllegalArgumentException" ∈ tb := tb_of 369 (by decide +kernel) rfl
theorem tw_370 : Cond.instantiable "java/lang/IllegalArgumentException" 6 ∈ tb := tb_of 370 (by decide +kernel) rfl
theorem tw_437 : Cond.methodLink "StateExplorer" 48 ⟨"StateExplorer$Net", "isFullFor", "(I)Z"⟩ ∈ tb := tb_of 437 (by decide +kernel) rfl
theorem tw_438 : Cond.instanceMethod ⟨"StateExplorer$Net", "isFullFor", "(I)Z"⟩ ∈ tb := tb_of 438 (by decide +kernel) rfl
theorem tw_439 : Cond.selects "StateExplorer$Net" ⟨"StateExplorer$Net", "isFullFor", "(I)Z"⟩ ⟨"StateExplorer$Net", "isFullFor", "(I)Z"⟩ ∈ tb := tb_of 439 (by decide +kernel) rfl
set_option maxRecDepth 20000 in
theorem tw_440 : Cond.code ⟨"StateExplorer$Net", "isFullFor", "(I)Z"⟩ prog_2_method_7_code 2 (some .boolean) ∈ tb := tb_of 440 rfl rfl
theorem tw_441 : Cond.methodLink "StateExplorer" 52 ⟨"StateExplorer$Net", "addGate", "(I)I"⟩ ∈ tb := tb_of 441 (by decide +kernel) rfl
theorem tw_442 : Cond.instanceMethod ⟨"StateExplorer$Net", "addGate", "(I)I"⟩ ∈ tb := tb_of 442 (by decide +kernel) rfl
theorem tw_443 : Cond.selects "StateExplorer$Net" ⟨"StateExplorer$Net", "addGate", "(I)I"⟩ ⟨"StateExplorer$Net", "addGate", "(I)I"⟩ ∈ tb := tb_of 443 (by decide +kernel) rfl
set_option maxRecDepth 20000 in
theorem tw_444 : Cond.code ⟨"StateExplorer$Net", "addGate", "(I)I"⟩ prog_2_method_8_code 3 (some .int) ∈ tb := tb_of 444 rfl rfl
theorem tw_445 : Cond.methodLink "StateExplorerLaw" 62 ⟨"StateExplorerLaw", "feed", "(LStateExplorer;IIZ[J)I"⟩ ∈ tb := tb_of 445 (by decide +kernel) rfl
theorem tw_446 : Cond.static ⟨"StateExplorerLaw", "feed", "(LStateExplorer;IIZ[J)I"⟩ ∈ tb := tb_of 446 (by decide +kernel) rfl
set_option maxRecDepth 20000 in
theorem tw_447 : Cond.codeWith ⟨"StateExplorerLaw", "feed", "(LStateExplorer;IIZ[J)I"⟩ method_4_code 6 (some .int) [(0, 12, 15, 19), (0, 12, 19, 21)] ∈ tb := tb_of 447 rfl rfl
theorem tw_448 : Cond.classLink "StateExplorerLaw" 19 "java/lang/IndexOutOfBoundsException" ∈ tb := tb_of 448 (by decide +kernel) rfl
theorem tw_449 : Cond.classLink "StateExplorerLaw" 21 "java/lang/IllegalStateException" ∈ tb := tb_of 449 (by decide +kernel) rfl
theorem tw_450 : Cond.methodLink "StateExplorerLaw" 15 ⟨"StateExplorer", "feed", "(IIZ)I"⟩ ∈ tb := tb_of 450 (by decide +kernel) rfl
theorem tw_451 : Cond.instanceMethod ⟨"StateExplorer", "feed", "(IIZ)I"⟩ ∈ tb := tb_of 451 (by decide +kernel) rfl
theorem tw_452 : Cond.selects "StateExplorer" ⟨"StateExplorer", "feed", "(IIZ)I"⟩ ⟨"StateExplorer", "feed", "(IIZ)I"⟩ ∈ tb := tb_of 452 (by decide +kernel) rfl
set_option maxRecDepth 20000 in
theorem tw_453 : Cond.code ⟨"StateExplorer", "feed", "(IIZ)I"⟩ prog_1_method_3_code 4 (some .int) ∈ tb := tb_of 453 rfl rfl
theorem tw_454 : Cond.methodLink "StateExplorer" 56 ⟨"StateExplorer", "requireGate", "(I)V"⟩ ∈ tb := tb_of 454 (by decide +kernel) rfl
theorem tw_456 : Cond.instanceMethod ⟨"StateExplorer", "requireGate", "(I)V"⟩ ∈ tb := tb_of 456 (by decide +kernel) rfl
set_option maxRecDepth 20000 in
theorem tw_457 : Cond.code ⟨"StateExplorer", "requireGate", "(I)V"⟩ prog_1_method_17_code 2 (none : Option Jvm.ClassFile.FieldType) ∈ tb := tb_of 457 rfl rfl
theorem tw_458 : Cond.classLink "StateExplorer" 114 "java/lang/IndexOutOfBoundsException" ∈ tb := tb_of 458 (by decide +kernel) rfl
theorem tw_459 : Cond.instantiable "java/lang/IndexOutOfBoundsException" 6 ∈ tb := tb_of 459 (by decide +kernel) rfl
theorem tw_474 : Cond.methodLink "StateExplorer" 60 ⟨"StateExplorer$Net", "takesFeed", "(I)Z"⟩ ∈ tb := tb_of 474 (by decide +kernel) rfl
theorem tw_475 : Cond.instanceMethod ⟨"StateExplorer$Net", "takesFeed", "(I)Z"⟩ ∈ tb := tb_of 475 (by decide +kernel) rfl
theorem tw_476 : Cond.selects "StateExplorer$Net" ⟨"StateExplorer$Net", "takesFeed", "(I)Z"⟩ ⟨"StateExplorer$Net", "takesFeed", "(I)Z"⟩ ∈ tb := tb_of 476 (by decide +kernel) rfl
set_option maxRecDepth 20000 in
theorem tw_477 : Cond.code ⟨"StateExplorer$Net", "takesFeed", "(I)Z"⟩ prog_2_method_10_code 2 (some .boolean) ∈ tb := tb_of 477 rfl rfl
theorem tw_478 : Cond.methodLink "StateExplorer$Net" 51 ⟨"StateExplorer$Net", "feedsOf", "(I)I"⟩ ∈ tb := tb_of 478 (by decide +kernel) rfl
theorem tw_479 : Cond.instanceMethod ⟨"StateExplorer$Net", "feedsOf", "(I)I"⟩ ∈ tb := tb_of 479 (by decide +kernel) rfl
theorem tw_480 : Cond.selects "StateExplorer$Net" ⟨"StateExplorer$Net", "feedsOf", "(I)I"⟩ ⟨"StateExplorer$Net", "feedsOf", "(I)I"⟩ ∈ tb := tb_of 480 (by decide +kernel) rfl
set_option maxRecDepth 20000 in
theorem tw_481 : Cond.code ⟨"StateExplorer$Net", "feedsOf", "(I)I"⟩ prog_2_method_9_code 2 (some .int) ∈ tb := tb_of 481 rfl rfl
theorem tw_482 : Cond.classLink "StateExplorer" 63 "java/lang/IllegalStateException" ∈ tb := tb_of 482 (by decide +kernel) rfl
theorem tw_483 : Cond.instantiable "java/lang/IllegalStateException" 6 ∈ tb := tb_of 483 (by decide +kernel) rfl
theorem tw_498 : Cond.methodLink "StateExplorer" 72 ⟨"StateExplorer$Net", "addFeed", "(IIZ)I"⟩ ∈ tb := tb_of 498 (by decide +kernel) rfl
theorem tw_499 : Cond.instanceMethod ⟨"StateExplorer$Net", "addFeed", "(IIZ)I"⟩ ∈ tb := tb_of 499 (by decide +kernel) rfl
theorem tw_500 : Cond.selects "StateExplorer$Net" ⟨"StateExplorer$Net", "addFeed", "(IIZ)I"⟩ ⟨"StateExplorer$Net", "addFeed", "(IIZ)I"⟩ ∈ tb := tb_of 500 (by decide +kernel) rfl
set_option maxRecDepth 20000 in
theorem tw_501 : Cond.code ⟨"StateExplorer$Net", "addFeed", "(IIZ)I"⟩ prog_2_method_11_code 7 (some .int) ∈ tb := tb_of 501 rfl rfl
theorem tw_502 : Cond.methodLink "StateExplorer$Net" 54 ⟨"StateExplorer$Net", "feedTotal", "()I"⟩ ∈ tb := tb_of 502 (by decide +kernel) rfl
theorem tw_503 : Cond.methodLink "StateExplorer$Net" 57 ⟨"java/lang/System", "arraycopy", "(Ljava/lang/Object;ILjava/lang/Object;II)V"⟩ ∈ tb := tb_of 503 (by decide +kernel) rfl
theorem tw_504 : Cond.methodLink "StateExplorerLaw" 66 ⟨"StateExplorerLaw", "output", "(LStateExplorer;I[J)I"⟩ ∈ tb := tb_of 504 (by decide +kernel) rfl
theorem tw_505 : Cond.static ⟨"StateExplorerLaw", "output", "(LStateExplorer;I[J)I"⟩ ∈ tb := tb_of 505 (by decide +kernel) rfl
set_option maxRecDepth 20000 in
theorem tw_506 : Cond.codeWith ⟨"StateExplorerLaw", "output", "(LStateExplorer;I[J)I"⟩ method_5_code 4 (some .int) [(0, 9, 12, 19)] ∈ tb := tb_of 506 rfl rfl
theorem tw_507 : Cond.methodLink "StateExplorerLaw" 23 ⟨"StateExplorer", "output", "(I)I"⟩ ∈ tb := tb_of 507 (by decide +kernel) rfl
theorem tw_508 : Cond.instanceMethod ⟨"StateExplorer", "output", "(I)I"⟩ ∈ tb := tb_of 508 (by decide +kernel) rfl
theorem tw_509 : Cond.selects "StateExplorer" ⟨"StateExplorer", "output", "(I)I"⟩ ⟨"StateExplorer", "output", "(I)I"⟩ ∈ tb := tb_of 509 (by decide +kernel) rfl
set_option maxRecDepth 20000 in
theorem tw_510 : Cond.code ⟨"StateExplorer", "output", "(I)I"⟩ prog_1_method_4_code 2 (some .int) ∈ tb := tb_of 510 rfl rfl
theorem tw_511 : Cond.methodLink "StateExplorer" 80 ⟨"StateExplorer$Net", "addOutput", "(I)I"⟩ ∈ tb := tb_of 511 (by decide +kernel) rfl
theorem tw_512 : Cond.instanceMethod ⟨"StateExplorer$Net", "addOutput", "(I)I"⟩ ∈ tb := tb_of 512 (by decide +kernel) rfl
theorem tw_513 : Cond.selects "StateExplorer$Net" ⟨"StateExplorer$Net", "addOutput", "(I)I"⟩ ⟨"StateExplorer$Net", "addOutput", "(I)I"⟩ ∈ tb := tb_of 513 (by decide +kernel) rfl
set_option maxRecDepth 20000 in
theorem tw_514 : Cond.code ⟨"StateExplorer$Net", "addOutput", "(I)I"⟩ prog_2_method_12_code 2 (some .int) ∈ tb := tb_of 514 rfl rfl
theorem tw_515 : Cond.methodLink "StateExplorerLaw" 78 ⟨"StateExplorerLaw", "distance", "(LStateExplorer;I[J)I"⟩ ∈ tb := tb_of 515 (by decide +kernel) rfl
theorem tw_516 : Cond.static ⟨"StateExplorerLaw", "distance", "(LStateExplorer;I[J)I"⟩ ∈ tb := tb_of 516 (by decide +kernel) rfl
set_option maxRecDepth 20000 in
theorem tw_517 : Cond.codeWith ⟨"StateExplorerLaw", "distance", "(LStateExplorer;I[J)I"⟩ method_6_code 4 (some .int) [(0, 9, 12, 21), (0, 9, 15, 19)] ∈ tb := tb_of 517 rfl rfl
theorem tw_518 : Cond.methodLink "StateExplorerLaw" 26 ⟨"StateExplorer", "distance", "(I)I"⟩ ∈ tb := tb_of 518 (by decide +kernel) rfl
theorem tw_519 : Cond.instanceMethod ⟨"StateExplorer", "distance", "(I)I"⟩ ∈ tb := tb_of 519 (by decide +kernel) rfl
theorem tw_520 : Cond.selects "StateExplorer" ⟨"StateExplorer", "distance", "(I)I"⟩ ⟨"StateExplorer", "distance", "(I)I"⟩ ∈ tb := tb_of 520 (by decide +kernel) rfl
set_option maxRecDepth 20000 in
theorem tw_521 : Cond.code ⟨"StateExplorer", "distance", "(I)I"⟩ prog_1_method_7_code 2 (some .int) ∈ tb := tb_of 521 rfl rfl
theorem tw_522 : Cond.methodLink "StateExplorer" 104 ⟨"StateExplorer", "requireExplored", "()V"⟩ ∈ tb := tb_of 522 (by decide +kernel) rfl
theorem tw_524 : Cond.instanceMethod ⟨"StateExplorer", "requireExplored", "()V"⟩ ∈ tb := tb_of 524 (by decide +kernel) rfl
set_option maxRecDepth 20000 in
theorem tw_525 : Cond.code ⟨"StateExplorer", "requireExplored", "()V"⟩ prog_1_method_16_code 1 (none : Option Jvm.ClassFile.FieldType) ∈ tb := tb_of 525 rfl rfl
theorem tw_527 : Cond.methodLink "StateExplorer" 107 ⟨"StateExplorer", "requireState", "(I)V"⟩ ∈ tb := tb_of 527 (by decide +kernel) rfl
theorem tw_529 : Cond.instanceMethod ⟨"StateExplorer", "requireState", "(I)V"⟩ ∈ tb := tb_of 529 (by decide +kernel) rfl
set_option maxRecDepth 20000 in
theorem tw_530 : Cond.code ⟨"StateExplorer", "requireState", "(I)V"⟩ prog_1_method_18_code 2 (none : Option Jvm.ClassFile.FieldType) ∈ tb := tb_of 530 rfl rfl
theorem tw_531 : Cond.methodLink "StateExplorer" 171 ⟨"StateExplorer$Net", "stateTotal", "()I"⟩ ∈ tb := tb_of 531 (by decide +kernel) rfl
theorem tw_533 : Cond.methodLink "StateExplorerLaw" 81 ⟨"StateExplorerLaw", "way", "(LStateExplorer;II[J)I"⟩ ∈ tb := tb_of 533 (by decide +kernel) rfl
theorem tw_534 : Cond.static ⟨"StateExplorerLaw", "way", "(LStateExplorer;II[J)I"⟩ ∈ tb := tb_of 534 (by decide +kernel) rfl
set_option maxRecDepth 20000 in
theorem tw_535 : Cond.codeWith ⟨"StateExplorerLaw", "way", "(LStateExplorer;II[J)I"⟩ method_7_code 5 (some .int) [(0, 10, 13, 21), (0, 10, 17, 19)] ∈ tb := tb_of 535 rfl rfl
theorem tw_536 : Cond.methodLink "StateExplorerLaw" 29 ⟨"StateExplorer", "way", "(II)I"⟩ ∈ tb := tb_of 536 (by decide +kernel) rfl
theorem tw_537 : Cond.instanceMethod ⟨"StateExplorer", "way", "(II)I"⟩ ∈ tb := tb_of 537 (by decide +kernel) rfl
theorem tw_538 : Cond.selects "StateExplorer" ⟨"StateExplorer", "way", "(II)I"⟩ ⟨"StateExplorer", "way", "(II)I"⟩ ∈ tb := tb_of 538 (by decide +kernel) rfl
set_option maxRecDepth 20000 in
theorem tw_539 : Cond.code ⟨"StateExplorer", "way", "(II)I"⟩ prog_1_method_8_code 3 (some .int) ∈ tb := tb_of 539 rfl rfl
theorem tw_541 : Cond.methodLink "StateExplorer" 119 ⟨"StateExplorer$Walk", "stepOfWay", "(II)I"⟩ ∈ tb := tb_of 541 (by decide +kernel) rfl
theorem tw_542 : Cond.instanceMethod ⟨"StateExplorer$Walk", "stepOfWay", "(II)I"⟩ ∈ tb := tb_of 542 (by decide +kernel) rfl
theorem tw_543 : Cond.selects "StateExplorer$Walk" ⟨"StateExplorer$Walk", "stepOfWay", "(II)I"⟩ ⟨"StateExplorer$Walk", "stepOfWay", "(II)I"⟩ ∈ tb := tb_of 543 (by decide +kernel) rfl
set_option maxRecDepth 20000 in
theorem tw_544 : Cond.code ⟨"StateExplorer$Walk", "stepOfWay", "(II)I"⟩ prog_5_method_7_code 6 (some .int) ∈ tb := tb_of 544 rfl rfl
theorem tw_545 : Cond.methodLink "StateExplorerLaw" 85 ⟨"StateExplorerLaw", "many", "(LStateExplorer;I[J)I"⟩ ∈ tb := tb_of 545 (by decide +kernel) rfl
theorem tw_546 : Cond.static ⟨"StateExplorerLaw", "many", "(LStateExplorer;I[J)I"⟩ ∈ tb := tb_of 546 (by decide +kernel) rfl
set_option maxRecDepth 20000 in
theorem tw_547 : Cond.codeWith ⟨"StateExplorerLaw", "many", "(LStateExplorer;I[J)I"⟩ method_8_code 4 (some .int) [(0, 9, 12, 21)] ∈ tb := tb_of 547 rfl rfl
theorem tw_548 : Cond.methodLink "StateExplorerLaw" 33 ⟨"StateExplorer", "many", "(I)I"⟩ ∈ tb := tb_of 548 (by decide +kernel) rfl
theorem tw_549 : Cond.instanceMethod ⟨"StateExplorer", "many", "(I)I"⟩ ∈ tb := tb_of 549 (by decide +kernel) rfl
theorem tw_550 : Cond.selects "StateExplorer" ⟨"StateExplorer", "many", "(I)I"⟩ ⟨"StateExplorer", "many", "(I)I"⟩ ∈ tb := tb_of 550 (by decide +kernel) rfl
set_option maxRecDepth 20000 in
theorem tw_551 : Cond.code ⟨"StateExplorer", "many", "(I)I"⟩ prog_1_method_9_code 2 (some .int) ∈ tb := tb_of 551 rfl rfl
theorem tw_552 : Cond.methodLink "StateExplorer" 123 ⟨"StateExplorer$Walk", "reachedAt", "(I)I"⟩ ∈ tb := tb_of 552 (by decide +kernel) rfl
theorem tw_553 : Cond.instanceMethod ⟨"StateExplorer$Walk", "reachedAt", "(I)I"⟩ ∈ tb := tb_of 553 (by decide +kernel) rfl
theorem tw_554 : Cond.selects "StateExplorer$Walk" ⟨"StateExplorer$Walk", "reachedAt", "(I)I"⟩ ⟨"StateExplorer$Walk", "reachedAt", "(I)I"⟩ ∈ tb := tb_of 554 (by decide +kernel) rfl
set_option maxRecDepth 20000 in
theorem tw_555 : Cond.code ⟨"StateExplorer$Walk", "reachedAt", "(I)I"⟩ prog_5_method_8_code 4 (some .int) ∈ tb := tb_of 555 rfl rfl
theorem tw_556 : Cond.methodLink "StateExplorerLaw" 88 ⟨"StateExplorerLaw", "next", "(LStateExplorer;II[J)I"⟩ ∈ tb := tb_of 556 (by decide +kernel) rfl
theorem tw_557 : Cond.static ⟨"StateExplorerLaw", "next", "(LStateExplorer;II[J)I"⟩ ∈ tb := tb_of 557 (by decide +kernel) rfl
set_option maxRecDepth 20000 in
theorem tw_558 : Cond.codeWith ⟨"StateExplorerLaw", "next", "(LStateExplorer;II[J)I"⟩ method_9_code 5 (some .int) [(0, 10, 13, 21), (0, 10, 17, 19)] ∈ tb := tb_of 558 rfl rfl
theorem tw_559 : Cond.methodLink "StateExplorerLaw" 36 ⟨"StateExplorer", "next", "(II)I"⟩ ∈ tb := tb_of 559 (by decide +kernel) rfl
theorem tw_560 : Cond.instanceMethod ⟨"StateExplorer", "next", "(II)I"⟩ ∈ tb := tb_of 560 (by decide +kernel) rfl
theorem tw_561 : Cond.selects "StateExplorer" ⟨"StateExplorer", "next", "(II)I"⟩ ⟨"StateExplorer", "next", "(II)I"⟩ ∈ tb := tb_of 561 (by decide +kernel) rfl
set_option maxRecDepth 20000 in
theorem tw_562 : Cond.code ⟨"StateExplorer", "next", "(II)I"⟩ prog_1_method_10_code 3 (some .int) ∈ tb := tb_of 562 rfl rfl
theorem tw_564 : Cond.methodLink "StateExplorer" 128 ⟨"StateExplorer$Net", "choiceTotal", "()I"⟩ ∈ tb := tb_of 564 (by decide +kernel) rfl
theorem tw_565 : Cond.methodLink "StateExplorer" 131 ⟨"StateExplorer$Table", "nextOf", "(II)I"⟩ ∈ tb := tb_of 565 (by decide +kernel) rfl
theorem tw_566 : Cond.methodLink "StateExplorerLaw" 91 ⟨"StateExplorerLaw", "doubt", "(LStateExplorer;I[J)I"⟩ ∈ tb := tb_of 566 (by decide +kernel) rfl
theorem tw_567 : Cond.static ⟨"StateExplorerLaw", "doubt", "(LStateExplorer;I[J)I"⟩ ∈ tb := tb_of 567 (by decide +kernel) rfl
set_option maxRecDepth 20000 in
theorem tw_568 : Cond.codeWith ⟨"StateExplorerLaw", "doubt", "(LStateExplorer;I[J)I"⟩ method_10_code 4 (some .int) [(0, 9, 12, 21), (0, 9, 15, 19)] ∈ tb := tb_of 568 rfl rfl
theorem tw_569 : Cond.methodLink "StateExplorerLaw" 39 ⟨"StateExplorer", "doubt", "(I)I"⟩ ∈ tb := tb_of 569 (by decide +kernel) rfl
theorem tw_570 : Cond.instanceMethod ⟨"StateExplorer", "doubt", "(I)I"⟩ ∈ tb := tb_of 570 (by decide +kernel) rfl
theorem tw_571 : Cond.selects "StateExplorer" ⟨"StateExplorer", "doubt", "(I)I"⟩ ⟨"StateExplorer", "doubt", "(I)I"⟩ ∈ tb := tb_of 571 (by decide +kernel) rfl
set_option maxRecDepth 20000 in
theorem tw_572 : Cond.code ⟨"StateExplorer", "doubt", "(I)I"⟩ prog_1_method_11_code 2 (some .int) ∈ tb := tb_of 572 rfl rfl
theorem tw_574 : Cond.methodLink "StateExplorerLaw" 94 ⟨"StateExplorerLaw", "always", "(LStateExplorer;I[J)I"⟩ ∈ tb := tb_of 574 (by decide +kernel) rfl
theorem tw_575 : Cond.static ⟨"StateExplorerLaw", "always", "(LStateExplorer;I[J)I"⟩ ∈ tb := tb_of 575 (by decide +kernel) rfl
set_option maxRecDepth 20000 in
theorem tw_576 : Cond.codeWith ⟨"StateExplorerLaw", "always", "(LStateExplorer;I[J)I"⟩ method_11_code 4 (some .int) [(0, 9, 12, 21), (0, 9, 15, 19)] ∈ tb := tb_of 576 rfl rfl
theorem tw_577 : Cond.methodLink "StateExplorerLaw" 42 ⟨"StateExplorer", "always", "(I)I"⟩ ∈ tb := tb_of 577 (by decide +kernel) rfl
theorem tw_578 : Cond.instanceMethod ⟨"StateExplorer", "always", "(I)I"⟩ ∈ tb := tb_of 578 (by decide +kernel) rfl
theorem tw_579 : Cond.selects "StateExplorer" ⟨"StateExplorer", "always", "(I)I"⟩ ⟨"StateExplorer", "always", "(I)I"⟩ ∈ tb := tb_of 579 (by decide +kernel) rfl
set_option maxRecDepth 20000 in
theorem tw_580 : Cond.code ⟨"StateExplorer", "always", "(I)I"⟩ prog_1_method_12_code 4 (some .int) ∈ tb := tb_of 580 rfl rfl
theorem tw_581 : Cond.methodLink "StateExplorer" 142 ⟨"StateExplorer$Walk", "isEver", "(LStateExplorer$Table;II)Z"⟩ ∈ tb := tb_of 581 (by decide +kernel) rfl
theorem tw_582 : Cond.instanceMethod ⟨"StateExplorer$Walk", "isEver", "(LStateExplorer$Table;II)Z"⟩ ∈ tb := tb_of 582 (by decide +kernel) rfl
theorem tw_583 : Cond.selects "StateExplorer$Walk" ⟨"StateExplorer$Walk", "isEver", "(LStateExplorer$Table;II)Z"⟩ ⟨"StateExplorer$Walk", "isEver", "(LStateExplorer$Table;II)Z"⟩ ∈ tb := tb_of 583 (by decide +kernel) rfl
set_option maxRecDepth 20000 in
theorem tw_584 : Cond.code ⟨"StateExplorer$Walk", "isEver", "(LStateExplorer$Table;II)Z"⟩ prog_5_method_10_code 9 (some .boolean) ∈ tb := tb_of 584 rfl rfl
theorem tw_585 : Cond.constantLong "StateExplorer$Walk" 88 (-1) ∈ tb := tb_of 585 (by decide +kernel) rfl
theorem tw_586 : Cond.methodLink "StateExplorerLaw" 97 ⟨"StateExplorerLaw", "isSame", "(LStateExplorer;II[J)I"⟩ ∈ tb := tb_of 586 (by decide +kernel) rfl
theorem tw_587 : Cond.static ⟨"StateExplorerLaw", "isSame", "(LStateExplorer;II[J)I"⟩ ∈ tb := tb_of 587 (by decide +kernel) rfl
set_option maxRecDepth 20000 in
theorem tw_588 : Cond.codeWith ⟨"StateExplorerLaw", "isSame", "(LStateExplorer;II[J)I"⟩ method_12_code 5 (some .int) [(0, 17, 20, 21), (0, 17, 24, 19)] ∈ tb := tb_of 588 rfl rfl
theorem tw_589 : Cond.methodLink "StateExplorerLaw" 45 ⟨"StateExplorer", "isSame", "(II)Z"⟩ ∈ tb := tb_of 589 (by decide +kernel) rfl
theorem tw_590 : Cond.instanceMethod ⟨"StateExplorer", "isSame", "(II)Z"⟩ ∈ tb := tb_of 590 (by decide +kernel) rfl
theorem tw_591 : Cond.selects "StateExplorer" ⟨"StateExplorer", "isSame", "(II)Z"⟩ ⟨"StateExplorer", "isSame", "(II)Z"⟩ ∈ tb := tb_of 591 (by decide +kernel) rfl
set_option maxRecDepth 20000 in
theorem tw_592 : Cond.code ⟨"StateExplorer", "isSame", "(II)Z"⟩ prog_1_method_13_code 3 (some .boolean) ∈ tb := tb_of 592 rfl rfl
theorem tw_593 : Cond.methodLink "StateExplorer" 146 ⟨"StateExplorer$Walk", "everDiffer", "(LStateExplorer$Table;II)Z"⟩ ∈ tb := tb_of 593 (by decide +kernel) rfl
theorem tw_594 : Cond.instanceMethod ⟨"StateExplorer$Walk", "everDiffer", "(LStateExplorer$Table;II)Z"⟩ ∈ tb := tb_of 594 (by decide +kernel) rfl
theorem tw_595 : Cond.selects "StateExplorer$Walk" ⟨"StateExplorer$Walk", "everDiffer", "(LStateExplorer$Table;II)Z"⟩ ⟨"StateExplorer$Walk", "everDiffer", "(LStateExplorer$Table;II)Z"⟩ ∈ tb := tb_of 595 (by decide +kernel) rfl
set_option maxRecDepth 20000 in
theorem tw_596 : Cond.code ⟨"StateExplorer$Walk", "everDiffer", "(LStateExplorer$Table;II)Z"⟩ prog_5_method_11_code 7 (some .boolean) ∈ tb := tb_of 596 rfl rfl
theorem tw_597 : Cond.methodLink "StateExplorerLaw" 100 ⟨"StateExplorerLaw", "group", "(LStateExplorer;I[J)I"⟩ ∈ tb := tb_of 597 (by decide +kernel) rfl
theorem tw_598 : Cond.static ⟨"StateExplorerLaw", "group", "(LStateExplorer;I[J)I"⟩ ∈ tb := tb_of 598 (by decide +kernel) rfl
set_option maxRecDepth 20000 in
theorem tw_599 : Cond.codeWith ⟨"StateExplorerLaw", "group", "(LStateExplorer;I[J)I"⟩ method_13_code 4 (some .int) [(0, 9, 12, 21), (0, 9, 15, 19)] ∈ tb := tb_of 599 rfl rfl
theorem tw_600 : Cond.methodLink "StateExplorerLaw" 49 ⟨"StateExplorer", "group", "(I)I"⟩ ∈ tb := tb_of 600 (by decide +kernel) rfl
theorem tw_601 : Cond.instanceMethod ⟨"StateExplorer", "group", "(I)I"⟩ ∈ tb := tb_of 601 (by decide +kernel) rfl
theorem tw_602 : Cond.selects "StateExplorer" ⟨"StateExplorer", "group", "(I)I"⟩ ⟨"StateExplorer", "group", "(I)I"⟩ ∈ tb := tb_of 602 (by decide +kernel) rfl
set_option maxRecDepth 20000 in
theorem tw_603 : Cond.code ⟨"StateExplorer", "group", "(I)I"⟩ prog_1_method_14_code 2 (some .int) ∈ tb := tb_of 603 rfl rfl
set_option maxRecDepth 20000 in
theorem tw_608 : Cond.code ⟨"StateExplorerModel", "<init>", "()V"⟩ prog_7_method_1_code 1 (none : Option Jvm.ClassFile.FieldType) ∈ tb := tb_of 608 rfl rfl
theorem tw_609 : Cond.methodLink "StateExplorerModel" 1 ⟨"java/lang/Object", "<init>", "()V"⟩ ∈ tb := tb_of 609 (by decide +kernel) rfl
theorem tw_610 : Cond.constant "StateExplorerModel" 48 65536 ∈ tb := tb_of 610 (by decide +kernel) rfl
theorem tw_611 : Cond.fieldLink "StateExplorerModel" 55 "StateExplorerModel" "code" "I" ∈ tb := tb_of 611 (by decide +kernel) rfl
theorem tw_612 : Cond.fieldLink "StateExplorerModel" 59 "StateExplorerModel" "gates" "I" ∈ tb := tb_of 612 (by decide +kernel) rfl
theorem tw_613 : Cond.fieldLink "StateExplorerModel" 76 "StateExplorerModel" "feeds" "I" ∈ tb := tb_of 613 (by decide +kernel) rfl
theorem tw_614 : Cond.fieldLink "StateExplorerModel" 66 "StateExplorerModel" "inputs" "I" ∈ tb := tb_of 614 (by decide +kernel) rfl
theorem tw_615 : Cond.fieldLink "StateExplorerModel" 69 "StateExplorerModel" "latches" "I" ∈ tb := tb_of 615 (by decide +kernel) rfl
theorem tw_616 : Cond.fieldLink "StateExplorerModel" 87 "StateExplorerModel" "outputs" "I" ∈ tb := tb_of 616 (by decide +kernel) rfl
theorem tw_617 : Cond.fieldLink "StateExplorerModel" 7 "StateExplorerModel" "sort" "[I" ∈ tb := tb_of 617 (by decide +kernel) rfl
theorem tw_618 : Cond.fieldLink "StateExplorerModel" 13 "StateExplorerModel" "number" "[I" ∈ tb := tb_of 618 (by decide +kernel) rfl
theorem tw_619 : Cond.fieldLink "StateExplorerModel" 16 "StateExplorerModel" "value" "[I" ∈ tb := tb_of 619 (by decide +kernel) rfl
theorem tw_620 : Cond.fieldLink "StateExplorerModel" 19 "StateExplorerModel" "made" "[I" ∈ tb := tb_of 620 (by decide +kernel) rfl
theorem tw_621 : Cond.fieldLink "StateExplorerModel" 22 "StateExplorerModel" "to" "[I" ∈ tb := tb_of 621 (by decide +kernel) rfl
theorem tw_622 : Cond.fieldLink "StateExplorerModel" 25 "StateExplorerModel" "from" "[I" ∈ tb := tb_of 622 (by decide +kernel) rfl
theorem tw_623 : Cond.fieldLink "StateExplorerModel" 28 "StateExplorerModel" "outputOf" "[I" ∈ tb := tb_of 623 (by decide +kernel) rfl
theorem tw_624 : Cond.fieldLink "StateExplorerModel" 31 "StateExplorerModel" "negated" "[Z" ∈ tb := tb_of 624 (by decide +kernel) rfl
theorem tw_625 : Cond.fieldLink "StateExplorerModel" 72 "StateExplorerModel" "explored" "Z" ∈ tb := tb_of 625 (by decide +kernel) rfl
theorem tw_626 : Cond.fieldLink "StateExplorerModel" 35 "StateExplorerModel" "settles" "[Z" ∈ tb := tb_of 626 (by decide +kernel) rfl
theorem tw_627 : Cond.fieldLink "StateExplorerModel" 38 "StateExplorerModel" "next" "[I" ∈ tb := tb_of 627 (by decide +kernel) rfl
theorem tw_628 : Cond.fieldLink "StateExplorerModel" 41 "StateExplorerModel" "ones" "[J" ∈ tb := tb_of 628 (by decide +kernel) rfl
theorem tw_629 : Cond.fieldLink "StateExplorerModel" 45 "StateExplorerModel" "distance" "[I" ∈ tb := tb_of 629 (by decide +kernel) rfl
theorem tw_630 : Cond.fieldLink "StateExplorerModel" 49 "StateExplorerModel" "apart" "[Z" ∈ tb := tb_of 630 (by decide +kernel) rfl
theorem tw_631 : Cond.fieldLink "StateExplorerModel" 52 "StateExplorerModel" "leads" "[Z" ∈ tb := tb_of 631 (by decide +kernel) rfl
theorem tw_675 : Cond.arrayClass .boolean ∈ tb := tb_of 675 (by decide +kernel) rfl
theorem tw_676 : Cond.methodLink "StateExplorerLaw" 61 ⟨"StateExplorerModel", "gate", "(I)I"⟩ ∈ tb := tb_of 676 (by decide +kernel) rfl
theorem tw_677 : Cond.instanceMethod ⟨"StateExplorerModel", "gate", "(I)I"⟩ ∈ tb := tb_of 677 (by decide +kernel) rfl
theorem tw_678 : Cond.selects "StateExplorerModel" ⟨"StateExplorerModel", "gate", "(I)I"⟩ ⟨"StateExplorerModel", "gate", "(I)I"⟩ ∈ tb := tb_of 678 (by decide +kernel) rfl
set_option maxRecDepth 20000 in
theorem tw_679 : Cond.code ⟨"StateExplorerModel", "gate", "(I)I"⟩ prog_7_method_5_code 2 (some .int) ∈ tb := tb_of 679 rfl rfl
theorem tw_680 : Cond.methodLink "StateExplorerModel" 62 ⟨"StateExplorerModel", "fails", "(ZZ)Z"⟩ ∈ tb := tb_of 680 (by decide +kernel) rfl
theorem tw_682 : Cond.instanceMethod ⟨"StateExplorerModel", "fails", "(ZZ)Z"⟩ ∈ tb := tb_of 682 (by decide +kernel) rfl
set_option maxRecDepth 20000 in
theorem tw_683 : Cond.code ⟨"StateExplorerModel", "fails", "(ZZ)Z"⟩ prog_7_method_3_code 3 (some .boolean) ∈ tb := tb_of 683 rfl rfl
theorem tw_684 : Cond.methodLink "StateExplorerLaw" 65 ⟨"StateExplorerModel", "feed", "(IIZ)I"⟩ ∈ tb := tb_of 684 (by decide +kernel) rfl
theorem tw_685 : Cond.instanceMethod ⟨"StateExplorerModel", "feed", "(IIZ)I"⟩ ∈ tb := tb_of 685 (by decide +kernel) rfl
theorem tw_686 : Cond.selects "StateExplorerModel" ⟨"StateExplorerModel", "feed", "(IIZ)I"⟩ ⟨"StateExplorerModel", "feed", "(IIZ)I"⟩ ∈ tb := tb_of 686 (by decide +kernel) rfl
set_option maxRecDepth 20000 in
theorem tw_687 : Cond.code ⟨"StateExplorerModel", "feed", "(IIZ)I"⟩ prog_7_method_7_code 6 (some .int) ∈ tb := tb_of 687 rfl rfl
theorem tw_688 : Cond.methodLink "StateExplorerModel" 79 ⟨"StateExplorerModel", "isGate", "(I)Z"⟩ ∈ tb := tb_of 688 (by decide +kernel) rfl
theorem tw_690 : Cond.instanceMethod ⟨"StateExplorerModel", "isGate", "(I)Z"⟩ ∈ tb := tb_of 690 (by decide +kernel) rfl
set_option maxRecDepth 20000 in
theorem tw_691 : Cond.code ⟨"StateExplorerModel", "isGate", "(I)Z"⟩ prog_7_method_4_code 2 (some .boolean) ∈ tb := tb_of 691 rfl rfl
theorem tw_692 : Cond.methodLink "StateExplorerModel" 83 ⟨"StateExplorerModel", "feedsOf", "(I)I"⟩ ∈ tb := tb_of 692 (by decide +kernel) rfl
theorem tw_694 : Cond.instanceMethod ⟨"StateExplorerModel", "feedsOf", "(I)I"⟩ ∈ tb := tb_of 694 (by decide +kernel) rfl
set_option maxRecDepth 20000 in
theorem tw_695 : Cond.code ⟨"StateExplorerModel", "feedsOf", "(I)I"⟩ prog_7_method_6_code 4 (some .int) ∈ tb := tb_of 695 rfl rfl
theorem tw_696 : Cond.methodLink "StateExplorerLaw" 68 ⟨"StateExplorerModel", "output", "(I)I"⟩ ∈ tb := tb_of 696 (by decide +kernel) rfl
theorem tw_697 : Cond.instanceMethod ⟨"StateExplorerModel", "output", "(I)I"⟩ ∈ tb := tb_of 697 (by decide +kernel) rfl
theorem tw_698 : Cond.selects "StateExplorerModel" ⟨"StateExplorerModel", "output", "(I)I"⟩ ⟨"StateExplorerModel", "output", "(I)I"⟩ ∈ tb := tb_of 698 (by decide +kernel) rfl
set_option maxRecDepth 20000 in
theorem tw_699 : Cond.code ⟨"StateExplorerModel", "output", "(I)I"⟩ prog_7_method_8_code 2 (some .int) ∈ tb := tb_of 699 rfl rfl
theorem tw_700 : Cond.methodLink "StateExplorerLaw" 73 ⟨"StateExplorerModel", "clear", "()I"⟩ ∈ tb := tb_of 700 (by decide +kernel) rfl
theorem tw_701 : Cond.instanceMethod ⟨"StateExplorerModel", "clear", "()I"⟩ ∈ tb := tb_of 701 (by decide +kernel) rfl
theorem tw_702 : Cond.selects "StateExplorerModel" ⟨"StateExplorerModel", "clear", "()I"⟩ ⟨"StateExplorerModel", "clear", "()I"⟩ ∈ tb := tb_of 702 (by decide +kernel) rfl
set_option maxRecDepth 20000 in
theorem tw_703 : Cond.code ⟨"StateExplorerModel", "clear", "()I"⟩ prog_7_method_9_code 2 (some .int) ∈ tb := tb_of 703 rfl rfl
theorem tw_704 : Cond.methodLink "StateExplorerLaw" 77 ⟨"StateExplorerModel", "explore", "()I"⟩ ∈ tb := tb_of 704 (by decide +kernel) rfl
theorem tw_705 : Cond.instanceMethod ⟨"StateExplorerModel", "explore", "()I"⟩ ∈ tb := tb_of 705 (by decide +kernel) rfl
theorem tw_706 : Cond.selects "StateExplorerModel" ⟨"StateExplorerModel", "explore", "()I"⟩ ⟨"StateExplorerModel", "explore", "()I"⟩ ∈ tb := tb_of 706 (by decide +kernel) rfl
set_option maxRecDepth 20000 in
theorem tw_707 : Cond.code ⟨"StateExplorerModel", "explore", "()I"⟩ prog_7_method_15_code 6 (some .int) ∈ tb := tb_of 707 rfl rfl
theorem tw_708 : Cond.methodLink "StateExplorerModel" 97 ⟨"StateExplorerModel", "states", "()I"⟩ ∈ tb := tb_of 708 (by decide +kernel) rfl
theorem tw_710 : Cond.instanceMethod ⟨"StateExplorerModel", "states", "()I"⟩ ∈ tb := tb_of 710 (by decide +kernel) rfl
set_option maxRecDepth 20000 in
theorem tw_711 : Cond.code ⟨"StateExplorerModel", "states", "()I"⟩ prog_7_method_13_code 1 (some .int) ∈ tb := tb_of 711 rfl rfl
theorem tw_712 : Cond.methodLink "StateExplorerModel" 101 ⟨"StateExplorerModel", "choices", "()I"⟩ ∈ tb := tb_of 712 (by decide +kernel) rfl
theorem tw_714 : Cond.instanceMethod ⟨"StateExplorerModel", "choices", "()I"⟩ ∈ tb := tb_of 714 (by decide +kernel) rfl
set_option maxRecDepth 20000 in
theorem tw_715 : Cond.code ⟨"StateExplorerModel", "choices", "()I"⟩ prog_7_method_14_code 1 (some .int) ∈ tb := tb_of 715 rfl rfl
theorem tw_716 : Cond.methodLink "StateExplorerModel" 104 ⟨"StateExplorerModel", "work", "(II)V"⟩ ∈ tb := tb_of 716 (by decide +kernel) rfl
theorem tw_718 : Cond.instanceMethod ⟨"StateExplorerModel", "work", "(II)V"⟩ ∈ tb := tb_of 718 (by decide +kernel) rfl
set_option maxRecDepth 20000 in
theorem tw_719 : Cond.code ⟨"StateExplorerModel", "work", "(II)V"⟩ prog_7_method_12_code 6 (none : Option Jvm.ClassFile.FieldType) ∈ tb := tb_of 719 rfl rfl
theorem tw_720 : Cond.methodLink "StateExplorerModel" 93 ⟨"StateExplorerModel", "again", "()Z"⟩ ∈ tb := tb_of 720 (by decide +kernel) rfl
theorem tw_722 : Cond.instanceMethod ⟨"StateExplorerModel", "again", "()Z"⟩ ∈ tb := tb_of 722 (by decide +kernel) rfl
set_option maxRecDepth 20000 in
theorem tw_723 : Cond.code ⟨"StateExplorerModel", "again", "()Z"⟩ prog_7_method_11_code 6 (some .boolean) ∈ tb := tb_of 723 rfl rfl
theorem tw_724 : Cond.methodLink "StateExplorerModel" 90 ⟨"StateExplorerModel", "taken", "(I)I"⟩ ∈ tb := tb_of 724 (by decide +kernel) rfl
theorem tw_726 : Cond.instanceMethod ⟨"StateExplorerModel", "taken", "(I)I"⟩ ∈ tb := tb_of 726 (by decide +kernel) rfl
set_option maxRecDepth 20000 in
theorem tw_727 : Cond.code ⟨"StateExplorerModel", "taken", "(I)I"⟩ prog_7_method_10_code 3 (some .int) ∈ tb := tb_of 727 rfl rfl
theorem tw_728 : Cond.methodLink "StateExplorerModel" 108 ⟨"StateExplorerModel", "tell", "()V"⟩ ∈ tb := tb_of 728 (by decide +kernel) rfl
theorem tw_730 : Cond.instanceMethod ⟨"StateExplorerModel", "tell", "()V"⟩ ∈ tb := tb_of 730 (by decide +kernel) rfl
set_option maxRecDepth 20000 in
theorem tw_731 : Cond.code ⟨"StateExplorerModel", "tell", "()V"⟩ prog_7_method_19_code 4 (none : Option Jvm.ClassFile.FieldType) ∈ tb := tb_of 731 rfl rfl
theorem tw_732 : Cond.methodLink "StateExplorerModel" 118 ⟨"StateExplorerModel", "differ", "(II)Z"⟩ ∈ tb := tb_of 732 (by decide +kernel) rfl
theorem tw_734 : Cond.instanceMethod ⟨"StateExplorerModel", "differ", "(II)Z"⟩ ∈ tb := tb_of 734 (by decide +kernel) rfl
set_option maxRecDepth 20000 in
theorem tw_735 : Cond.code ⟨"StateExplorerModel", "differ", "(II)Z"⟩ prog_7_method_18_code 7 (some .boolean) ∈ tb := tb_of 735 rfl rfl
theorem tw_736 : Cond.methodLink "StateExplorerModel" 114 ⟨"StateExplorerModel", "shows", "(III)Z"⟩ ∈ tb := tb_of 736 (by decide +kernel) rfl
theorem tw_738 : Cond.instanceMethod ⟨"StateExplorerModel", "shows", "(III)Z"⟩ ∈ tb := tb_of 738 (by decide +kernel) rfl
set_option maxRecDepth 20000 in
theorem tw_739 : Cond.code ⟨"StateExplorerModel", "shows", "(III)Z"⟩ prog_7_method_17_code 6 (some .boolean) ∈ tb := tb_of 739 rfl rfl
theorem tw_740 : Cond.methodLink "StateExplorerModel" 111 ⟨"StateExplorerModel", "reached", "()I"⟩ ∈ tb := tb_of 740 (by decide +kernel) rfl
theorem tw_742 : Cond.instanceMethod ⟨"StateExplorerModel", "reached", "()I"⟩ ∈ tb := tb_of 742 (by decide +kernel) rfl
set_option maxRecDepth 20000 in
theorem tw_743 : Cond.code ⟨"StateExplorerModel", "reached", "()I"⟩ prog_7_method_16_code 3 (some .int) ∈ tb := tb_of 743 rfl rfl
theorem tw_744 : Cond.methodLink "StateExplorerLaw" 80 ⟨"StateExplorerModel", "distance", "(I)I"⟩ ∈ tb := tb_of 744 (by decide +kernel) rfl
theorem tw_745 : Cond.instanceMethod ⟨"StateExplorerModel", "distance", "(I)I"⟩ ∈ tb := tb_of 745 (by decide +kernel) rfl
theorem tw_746 : Cond.selects "StateExplorerModel" ⟨"StateExplorerModel", "distance", "(I)I"⟩ ⟨"StateExplorerModel", "distance", "(I)I"⟩ ∈ tb := tb_of 746 (by decide +kernel) rfl
set_option maxRecDepth 20000 in
theorem tw_747 : Cond.code ⟨"StateExplorerModel", "distance", "(I)I"⟩ prog_7_method_21_code 2 (some .int) ∈ tb := tb_of 747 rfl rfl
theorem tw_748 : Cond.methodLink "StateExplorerModel" 122 ⟨"StateExplorerModel", "isState", "(I)Z"⟩ ∈ tb := tb_of 748 (by decide +kernel) rfl
theorem tw_750 : Cond.instanceMethod ⟨"StateExplorerModel", "isState", "(I)Z"⟩ ∈ tb := tb_of 750 (by decide +kernel) rfl
set_option maxRecDepth 20000 in
theorem tw_751 : Cond.code ⟨"StateExplorerModel", "isState", "(I)Z"⟩ prog_7_method_20_code 2 (some .boolean) ∈ tb := tb_of 751 rfl rfl
theorem tw_752 : Cond.methodLink "StateExplorerLaw" 84 ⟨"StateExplorerModel", "way", "(II)I"⟩ ∈ tb := tb_of 752 (by decide +kernel) rfl
theorem tw_753 : Cond.instanceMethod ⟨"StateExplorerModel", "way", "(II)I"⟩ ∈ tb := tb_of 753 (by decide +kernel) rfl
theorem tw_754 : Cond.selects "StateExplorerModel" ⟨"StateExplorerModel", "way", "(II)I"⟩ ⟨"StateExplorerModel", "way", "(II)I"⟩ ∈ tb := tb_of 754 (by decide +kernel) rfl
set_option maxRecDepth 20000 in
theorem tw_755 : Cond.code ⟨"StateExplorerModel", "way", "(II)I"⟩ prog_7_method_23_code 7 (some .int) ∈ tb := tb_of 755 rfl rfl
theorem tw_756 : Cond.methodLink "StateExplorerModel" 125 ⟨"StateExplorerModel", "lead", "(II)V"⟩ ∈ tb := tb_of 756 (by decide +kernel) rfl
theorem tw_758 : Cond.instanceMethod ⟨"StateExplorerModel", "lead", "(II)V"⟩ ∈ tb := tb_of 758 (by decide +kernel) rfl
set_option maxRecDepth 20000 in
theorem tw_759 : Cond.code ⟨"StateExplorerModel", "lead", "(II)V"⟩ prog_7_method_22_code 7 (none : Option Jvm.ClassFile.FieldType) ∈ tb := tb_of 759 rfl rfl
theorem tw_760 : Cond.methodLink "StateExplorerLaw" 87 ⟨"StateExplorerModel", "many", "(I)I"⟩ ∈ tb := tb_of 760 (by decide +kernel) rfl
theorem tw_761 : Cond.instanceMethod ⟨"StateExplorerModel", "many", "(I)I"⟩ ∈ tb := tb_of 761 (by decide +kernel) rfl
theorem tw_762 : Cond.selects "StateExplorerModel" ⟨"StateExplorerModel", "many", "(I)I"⟩ ⟨"StateExplorerModel", "many", "(I)I"⟩ ∈ tb := tb_of 762 (by decide +kernel) rfl
set_option maxRecDepth 20000 in
theorem tw_763 : Cond.code ⟨"StateExplorerModel", "many", "(I)I"⟩ prog_7_method_24_code 4 (some .int) ∈ tb := tb_of 763 rfl rfl
theorem tw_764 : Cond.methodLink "StateExplorerLaw" 90 ⟨"StateExplorerModel", "next", "(II)I"⟩ ∈ tb := tb_of 764 (by decide +kernel) rfl
theorem tw_765 : Cond.instanceMethod ⟨"StateExplorerModel", "next", "(II)I"⟩ ∈ tb := tb_of 765 (by decide +kernel) rfl
theorem tw_766 : Cond.selects "StateExplorerModel" ⟨"StateExplorerModel", "next", "(II)I"⟩ ⟨"StateExplorerModel", "next", "(II)I"⟩ ∈ tb := tb_of 766 (by decide +kernel) rfl
set_option maxRecDepth 20000 in
theorem tw_767 : Cond.code ⟨"StateExplorerModel", "next", "(II)I"⟩ prog_7_method_25_code 4 (some .int) ∈ tb := tb_of 767 rfl rfl
theorem tw_768 : Cond.methodLink "StateExplorerLaw" 93 ⟨"StateExplorerModel", "doubt", "(I)I"⟩ ∈ tb := tb_of 768 (by decide +kernel) rfl
theorem tw_769 : Cond.instanceMethod ⟨"StateExplorerModel", "doubt", "(I)I"⟩ ∈ tb := tb_of 769 (by decide +kernel) rfl
theorem tw_770 : Cond.selects "StateExplorerModel" ⟨"StateExplorerModel", "doubt", "(I)I"⟩ ⟨"StateExplorerModel", "doubt", "(I)I"⟩ ∈ tb := tb_of 770 (by decide +kernel) rfl
set_option maxRecDepth 20000 in
theorem tw_771 : Cond.code ⟨"StateExplorerModel", "doubt", "(I)I"⟩ prog_7_method_26_code 4 (some .int) ∈ tb := tb_of 771 rfl rfl
theorem tw_772 : Cond.methodLink "StateExplorerLaw" 96 ⟨"StateExplorerModel", "always", "(I)I"⟩ ∈ tb := tb_of 772 (by decide +kernel) rfl
theorem tw_773 : Cond.instanceMethod ⟨"StateExplorerModel", "always", "(I)I"⟩ ∈ tb := tb_of 773 (by decide +kernel) rfl
theorem tw_774 : Cond.selects "StateExplorerModel" ⟨"StateExplorerModel", "always", "(I)I"⟩ ⟨"StateExplorerModel", "always", "(I)I"⟩ ∈ tb := tb_of 774 (by decide +kernel) rfl
set_option maxRecDepth 20000 in
theorem tw_775 : Cond.code ⟨"StateExplorerModel", "always", "(I)I"⟩ prog_7_method_28_code 4 (some .int) ∈ tb := tb_of 775 rfl rfl
theorem tw_776 : Cond.methodLink "StateExplorerModel" 128 ⟨"StateExplorerModel", "held", "(JZ)I"⟩ ∈ tb := tb_of 776 (by decide +kernel) rfl
theorem tw_778 : Cond.instanceMethod ⟨"StateExplorerModel", "held", "(JZ)I"⟩ ∈ tb := tb_of 778 (by decide +kernel) rfl
set_option maxRecDepth 20000 in
theorem tw_779 : Cond.code ⟨"StateExplorerModel", "held", "(JZ)I"⟩ prog_7_method_27_code 9 (some .int) ∈ tb := tb_of 779 rfl rfl
theorem tw_780 : Cond.methodLink "StateExplorerLaw" 99 ⟨"StateExplorerModel", "isSame", "(II)Z"⟩ ∈ tb := tb_of 780 (by decide +kernel) rfl
theorem tw_781 : Cond.instanceMethod ⟨"StateExplorerModel", "isSame", "(II)Z"⟩ ∈ tb := tb_of 781 (by decide +kernel) rfl
theorem tw_782 : Cond.selects "StateExplorerModel" ⟨"StateExplorerModel", "isSame", "(II)Z"⟩ ⟨"StateExplorerModel", "isSame", "(II)Z"⟩ ∈ tb := tb_of 782 (by decide +kernel) rfl
set_option maxRecDepth 20000 in
theorem tw_783 : Cond.code ⟨"StateExplorerModel", "isSame", "(II)Z"⟩ prog_7_method_29_code 5 (some .boolean) ∈ tb := tb_of 783 rfl rfl
theorem tw_784 : Cond.methodLink "StateExplorerLaw" 102 ⟨"StateExplorerModel", "group", "(I)I"⟩ ∈ tb := tb_of 784 (by decide +kernel) rfl
theorem tw_785 : Cond.instanceMethod ⟨"StateExplorerModel", "group", "(I)I"⟩ ∈ tb := tb_of 785 (by decide +kernel) rfl
theorem tw_786 : Cond.selects "StateExplorerModel" ⟨"StateExplorerModel", "group", "(I)I"⟩ ⟨"StateExplorerModel", "group", "(I)I"⟩ ∈ tb := tb_of 786 (by decide +kernel) rfl
set_option maxRecDepth 20000 in
theorem tw_787 : Cond.code ⟨"StateExplorerModel", "group", "(I)I"⟩ prog_7_method_31_code 2 (some .int) ∈ tb := tb_of 787 rfl rfl
theorem tw_788 : Cond.methodLink "StateExplorerModel" 132 ⟨"StateExplorerModel", "least", "(I)I"⟩ ∈ tb := tb_of 788 (by decide +kernel) rfl
theorem tw_790 : Cond.instanceMethod ⟨"StateExplorerModel", "least", "(I)I"⟩ ∈ tb := tb_of 790 (by decide +kernel) rfl
set_option maxRecDepth 20000 in
theorem tw_791 : Cond.code ⟨"StateExplorerModel", "least", "(I)I"⟩ prog_7_method_30_code 3 (some .int) ∈ tb := tb_of 791 rfl rfl
theorem tw_792 : Cond.methodLink "StateExplorerLaw" 106 ⟨"StateExplorerModel", "count", "(I)I"⟩ ∈ tb := tb_of 792 (by decide +kernel) rfl
theorem tw_793 : Cond.instanceMethod ⟨"StateExplorerModel", "count", "(I)I"⟩ ∈ tb := tb_of 793 (by decide +kernel) rfl
theorem tw_794 : Cond.selects "StateExplorerModel" ⟨"StateExplorerModel", "count", "(I)I"⟩ ⟨"StateExplorerModel", "count", "(I)I"⟩ ∈ tb := tb_of 794 (by decide +kernel) rfl
set_option maxRecDepth 20000 in
theorem tw_795 : Cond.code ⟨"StateExplorerModel", "count", "(I)I"⟩ prog_7_method_32_code 8 (some .int) ∈ tb := tb_of 795 rfl rfl
theorem inNet : ∀ w ∈ wsNet0, w ∈ tb := fun w h => List.mem_filter.mpr ⟨(show ∀ w ∈ wsNet0, w ∈ lw_tbl by decide +kernel) w h, (show ∀ w ∈ wsNet0, goodWord w = true by decide +kernel) w h⟩
theorem inPar : ∀ w ∈ wsPar0, w ∈ tb := fun w h => List.mem_filter.mpr ⟨(show ∀ w ∈ wsPar0, w ∈ lw_tbl by decide +kernel) w h, (show ∀ w ∈ wsPar0, goodWord w = true by decide +kernel) w h⟩
theorem inTab : ∀ w ∈ wsTab0, w ∈ tb := fun w h => List.mem_filter.mpr ⟨(show ∀ w ∈ wsTab0, w ∈ lw_tbl by decide +kernel) w h, (show ∀ w ∈ wsTab0, goodWord w = true by decide +kernel) w h⟩
theorem inWlk : ∀ w ∈ wsWlk0, w ∈ tb := fun w h => List.mem_filter.mpr ⟨(show ∀ w ∈ wsWlk0, w ∈ lw_tbl by decide +kernel) w h, (show ∀ w ∈ wsWlk0, goodWord w = true by decide +kernel) w h⟩
theorem inExp : ∀ w ∈ wsExp0, w ∈ tb := fun w h => List.mem_filter.mpr ⟨(show ∀ w ∈ wsExp0, w ∈ lw_tbl by decide +kernel) w h, (show ∀ w ∈ wsExp0, goodWord w = true by decide +kernel) w h⟩
theorem inMod : ∀ w ∈ wsMod0, w ∈ tb := fun w h => List.mem_filter.mpr ⟨(show ∀ w ∈ wsMod0, w ∈ lw_tbl by decide +kernel) w h, (show ∀ w ∈ wsMod0, goodWord w = true by decide +kernel) w h⟩
def sx_nest : List (String × Nat × MethodName × String) := [("StateExplorer", 9, ⟨"StateExplorer$Net", "<init>", "()V"⟩, "StateExplorer"), ("StateExplorer", 18, ⟨"StateExplorer$Table", "<init>", "()V"⟩, "StateExplorer"), ("StateExplorer", 25, ⟨"StateExplorer$Walk", "<init>", "()V"⟩, "StateExplorer"), ("StateExplorer", 32, ⟨"StateExplorer$Partition", "<init>", "()V"⟩, "StateExplorer"), ("StateExplorer$Net", 47, ⟨"StateExplorer", "wordOf", "(I)I"⟩, "StateExplorer"), ("StateExplorer$Table", 92, ⟨"StateExplorer", "wordOf", "(I)I"⟩, "StateExplorer"), ("StateExplorer$Table", 96, ⟨"StateExplorer", "shiftOf", "(I)I"⟩, "StateExplorer"), ("StateExplorer$Walk", 68, ⟨"StateExplorer", "wordOf", "(I)I"⟩, "StateExplorer"), ("StateExplorer$Walk", 77, ⟨"StateExplorer", "shiftOf", "(I)I"⟩, "StateExplorer")]
theorem sx_n0 : ("StateExplorer", 9, ⟨"StateExplorer$Net", "<init>", "()V"⟩, "StateExplorer") ∈ sx_nest := List.mem_of_getElem? (i := 0) rfl
theorem sx_n1 : ("StateExplorer", 18, ⟨"StateExplorer$Table", "<init>", "()V"⟩, "StateExplorer") ∈ sx_nest := List.mem_of_getElem? (i := 1) rfl
theorem sx_n2 : ("StateExplorer", 25, ⟨"StateExplorer$Walk", "<init>", "()V"⟩, "StateExplorer") ∈ sx_nest := List.mem_of_getElem? (i := 2) rfl
theorem sx_n3 : ("StateExplorer", 32, ⟨"StateExplorer$Partition", "<init>", "()V"⟩, "StateExplorer") ∈ sx_nest := List.mem_of_getElem? (i := 3) rfl
theorem sx_n4 : ("StateExplorer$Net", 47, ⟨"StateExplorer", "wordOf", "(I)I"⟩, "StateExplorer") ∈ sx_nest := List.mem_of_getElem? (i := 4) rfl
theorem sx_n5 : ("StateExplorer$Table", 92, ⟨"StateExplorer", "wordOf", "(I)I"⟩, "StateExplorer") ∈ sx_nest := List.mem_of_getElem? (i := 5) rfl
theorem sx_n6 : ("StateExplorer$Table", 96, ⟨"StateExplorer", "shiftOf", "(I)I"⟩, "StateExplorer") ∈ sx_nest := List.mem_of_getElem? (i := 6) rfl
theorem sx_n7 : ("StateExplorer$Walk", 68, ⟨"StateExplorer", "wordOf", "(I)I"⟩, "StateExplorer") ∈ sx_nest := List.mem_of_getElem? (i := 7) rfl
theorem sx_n8 : ("StateExplorer$Walk", 77, ⟨"StateExplorer", "shiftOf", "(I)I"⟩, "StateExplorer") ∈ sx_nest := List.mem_of_getElem? (i := 8) rfl
def sx_decl : List MethodName := [⟨"java/lang/RuntimeException", "<init>", "(Ljava/lang/String;)V"⟩, ⟨"java/lang/Exception", "<init>", "(Ljava/lang/String;)V"⟩, ⟨"java/lang/Throwable", "<init>", "(Ljava/lang/String;)V"⟩]
def sx_cast : List (String × String) := [("java/lang/IllegalArgumentException", "java/lang/IllegalArgumentException"), ("java/lang/IllegalStateException", "java/lang/IllegalStateException"), ("java/lang/IndexOutOfBoundsException", "java/lang/IndexOutOfBoundsException")]
def sx_noc : List (String × String) := [("java/lang/IllegalArgumentException", "java/lang/IllegalStateException"), ("java/lang/IllegalArgumentException", "java/lang/IndexOutOfBoundsException"), ("java/lang/IllegalStateException", "java/lang/IllegalArgumentException"), ("java/lang/IllegalStateException", "java/lang/IndexOutOfBoundsException"), ("java/lang/IndexOutOfBoundsException", "java/lang/IllegalArgumentException"), ("java/lang/IndexOutOfBoundsException", "java/lang/IllegalStateException")]
def sx_strs : List (String × Nat × String) := [("StateExplorer", 43, "a sort is 0 to 3"), ("StateExplorer", 169, "there is no such gate"), ("StateExplorer", 65, "this gate takes no feed, or no more"), ("StateExplorer", 167, "nothing is explored"), ("StateExplorer", 174, "there is no such state"), ("StateExplorer", 116, "steps are counted from 0 on"), ("StateExplorer", 126, "a choice is 0 to 15"), ("StateExplorer", 134, "a doubt is asked for by 0 to 2")]
def sx_E : Nat → String := fun k => match k with
  | 0 => "java/lang/IllegalArgumentException"
  | 1 => "java/lang/IllegalStateException"
  | _ => "java/lang/IndexOutOfBoundsException"
