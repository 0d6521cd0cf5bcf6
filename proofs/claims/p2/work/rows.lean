section
-- ===== PART A: goes FIRST, ahead of the names: the tables' words, and 'selects' of the private methods out of them =====
/-- a private method of a class that the tables say can be made, by its rows of tables_1 -/
def lw_okq (q : MethodName × Nat) : Prop := (q.1.cls ≠ "java/lang/invoke/MethodHandle" ∧ q.1.cls ≠ "java/lang/invoke/VarHandle") ∧ Cond.instantiable q.1.cls q.2 ∈ tables_1 ∧ Cond.privateMethod q.1 ∈ tables_1 ∧ Cond.instanceMethod q.1 ∈ tables_1
theorem lw_p0 : lw_okq (⟨"StateExplorer$Table", "begin", "(LStateExplorer$Net;I)V"⟩, 4) := ⟨⟨by decide +kernel, by decide +kernel⟩, List.mem_of_getElem? (i := 74) (by decide +kernel), List.mem_of_getElem? (i := 202) (by decide +kernel), List.mem_of_getElem? (i := 203) (by decide +kernel)⟩
theorem lw_p1 : lw_okq (⟨"StateExplorer$Table", "set", "(IJ)V"⟩, 4) := ⟨⟨by decide +kernel, by decide +kernel⟩, List.mem_of_getElem? (i := 74) (by decide +kernel), List.mem_of_getElem? (i := 208) (by decide +kernel), List.mem_of_getElem? (i := 209) (by decide +kernel)⟩
theorem lw_p2 : lw_okq (⟨"StateExplorer$Table", "settle", "(LStateExplorer$Net;)V"⟩, 4) := ⟨⟨by decide +kernel, by decide +kernel⟩, List.mem_of_getElem? (i := 74) (by decide +kernel), List.mem_of_getElem? (i := 218) (by decide +kernel), List.mem_of_getElem? (i := 219) (by decide +kernel)⟩
theorem lw_p3 : lw_okq (⟨"StateExplorer$Table", "sweepOnce", "(LStateExplorer$Net;)Z"⟩, 4) := ⟨⟨by decide +kernel, by decide +kernel⟩, List.mem_of_getElem? (i := 74) (by decide +kernel), List.mem_of_getElem? (i := 222) (by decide +kernel), List.mem_of_getElem? (i := 223) (by decide +kernel)⟩
theorem lw_p4 : lw_okq (⟨"StateExplorer$Table", "learn", "(LStateExplorer$Net;II)Z"⟩, 4) := ⟨⟨by decide +kernel, by decide +kernel⟩, List.mem_of_getElem? (i := 74) (by decide +kernel), List.mem_of_getElem? (i := 226) (by decide +kernel), List.mem_of_getElem? (i := 227) (by decide +kernel)⟩
theorem lw_p5 : lw_okq (⟨"StateExplorer$Table", "keep", "(LStateExplorer$Net;I)V"⟩, 4) := ⟨⟨by decide +kernel, by decide +kernel⟩, List.mem_of_getElem? (i := 74) (by decide +kernel), List.mem_of_getElem? (i := 230) (by decide +kernel), List.mem_of_getElem? (i := 231) (by decide +kernel)⟩
theorem lw_p6 : lw_okq (⟨"StateExplorer$Table", "findNext", "(LStateExplorer$Net;II)I"⟩, 4) := ⟨⟨by decide +kernel, by decide +kernel⟩, List.mem_of_getElem? (i := 74) (by decide +kernel), List.mem_of_getElem? (i := 239) (by decide +kernel), List.mem_of_getElem? (i := 240) (by decide +kernel)⟩
theorem lw_p7 : lw_okq (⟨"StateExplorer$Walk", "forget", "(LStateExplorer$Net;)V"⟩, 10) := ⟨⟨by decide +kernel, by decide +kernel⟩, List.mem_of_getElem? (i := 95) (by decide +kernel), List.mem_of_getElem? (i := 251) (by decide +kernel), List.mem_of_getElem? (i := 252) (by decide +kernel)⟩
theorem lw_p8 : lw_okq (⟨"StateExplorer$Walk", "reach", "(IIII)V"⟩, 10) := ⟨⟨by decide +kernel, by decide +kernel⟩, List.mem_of_getElem? (i := 95) (by decide +kernel), List.mem_of_getElem? (i := 257) (by decide +kernel), List.mem_of_getElem? (i := 258) (by decide +kernel)⟩
theorem lw_p9 : lw_okq (⟨"StateExplorer$Walk", "leave", "(LStateExplorer$Table;II)V"⟩, 10) := ⟨⟨by decide +kernel, by decide +kernel⟩, List.mem_of_getElem? (i := 95) (by decide +kernel), List.mem_of_getElem? (i := 262) (by decide +kernel), List.mem_of_getElem? (i := 263) (by decide +kernel)⟩
theorem lw_p10 : lw_okq (⟨"StateExplorer$Walk", "noteDoubt", "(II)V"⟩, 10) := ⟨⟨by decide +kernel, by decide +kernel⟩, List.mem_of_getElem? (i := 95) (by decide +kernel), List.mem_of_getElem? (i := 277) (by decide +kernel), List.mem_of_getElem? (i := 278) (by decide +kernel)⟩
theorem lw_p11 : lw_okq (⟨"StateExplorer$Partition", "splitOnce", "(LStateExplorer$Net;LStateExplorer$Table;LStateExplorer$Walk;)I"⟩, 4) := ⟨⟨by decide +kernel, by decide +kernel⟩, List.mem_of_getElem? (i := 138) (by decide +kernel), List.mem_of_getElem? (i := 286) (by decide +kernel), List.mem_of_getElem? (i := 287) (by decide +kernel)⟩
theorem lw_p12 : lw_okq (⟨"StateExplorer$Partition", "place", "(LStateExplorer$Net;LStateExplorer$Table;I)I"⟩, 4) := ⟨⟨by decide +kernel, by decide +kernel⟩, List.mem_of_getElem? (i := 138) (by decide +kernel), List.mem_of_getElem? (i := 290) (by decide +kernel), List.mem_of_getElem? (i := 291) (by decide +kernel)⟩
theorem lw_p13 : lw_okq (⟨"StateExplorer$Partition", "goesAlike", "(LStateExplorer$Net;LStateExplorer$Table;II)Z"⟩, 4) := ⟨⟨by decide +kernel, by decide +kernel⟩, List.mem_of_getElem? (i := 138) (by decide +kernel), List.mem_of_getElem? (i := 302) (by decide +kernel), List.mem_of_getElem? (i := 303) (by decide +kernel)⟩
theorem lw_p14 : lw_okq (⟨"StateExplorer$Partition", "nameOfNext", "(LStateExplorer$Table;II)I"⟩, 4) := ⟨⟨by decide +kernel, by decide +kernel⟩, List.mem_of_getElem? (i := 138) (by decide +kernel), List.mem_of_getElem? (i := 307) (by decide +kernel), List.mem_of_getElem? (i := 308) (by decide +kernel)⟩
theorem lw_p15 : lw_okq (⟨"java/lang/Throwable", "fillInStackTrace", "(I)Ljava/lang/Throwable;"⟩, 6) := ⟨⟨by decide +kernel, by decide +kernel⟩, List.mem_of_getElem? (i := 373) (by decide +kernel), List.mem_of_getElem? (i := 371) (by decide +kernel), List.mem_of_getElem? (i := 372) (by decide +kernel)⟩
def lw_privs_1 : List (MethodName × Nat) := [(⟨"StateExplorer$Table", "begin", "(LStateExplorer$Net;I)V"⟩, 4), (⟨"StateExplorer$Table", "set", "(IJ)V"⟩, 4), (⟨"StateExplorer$Table", "settle", "(LStateExplorer$Net;)V"⟩, 4), (⟨"StateExplorer$Table", "sweepOnce", "(LStateExplorer$Net;)Z"⟩, 4), (⟨"StateExplorer$Table", "learn", "(LStateExplorer$Net;II)Z"⟩, 4), (⟨"StateExplorer$Table", "keep", "(LStateExplorer$Net;I)V"⟩, 4), (⟨"StateExplorer$Table", "findNext", "(LStateExplorer$Net;II)I"⟩, 4), (⟨"StateExplorer$Walk", "forget", "(LStateExplorer$Net;)V"⟩, 10), (⟨"StateExplorer$Walk", "reach", "(IIII)V"⟩, 10), (⟨"StateExplorer$Walk", "leave", "(LStateExplorer$Table;II)V"⟩, 10), (⟨"StateExplorer$Walk", "noteDoubt", "(II)V"⟩, 10), (⟨"StateExplorer$Partition", "splitOnce", "(LStateExplorer$Net;LStateExplorer$Table;LStateExplorer$Walk;)I"⟩, 4), (⟨"StateExplorer$Partition", "place", "(LStateExplorer$Net;LStateExplorer$Table;I)I"⟩, 4), (⟨"StateExplorer$Partition", "goesAlike", "(LStateExplorer$Net;LStateExplorer$Table;II)Z"⟩, 4), (⟨"StateExplorer$Partition", "nameOfNext", "(LStateExplorer$Table;II)I"⟩, 4), (⟨"java/lang/Throwable", "fillInStackTrace", "(I)Ljava/lang/Throwable;"⟩, 6)]
theorem lw_r1 : ∀ q ∈ lw_privs_1, lw_okq q := List.forall_mem_cons.mpr ⟨lw_p0, List.forall_mem_cons.mpr ⟨lw_p1, List.forall_mem_cons.mpr ⟨lw_p2, List.forall_mem_cons.mpr ⟨lw_p3, List.forall_mem_cons.mpr ⟨lw_p4, List.forall_mem_cons.mpr ⟨lw_p5, List.forall_mem_cons.mpr ⟨lw_p6, List.forall_mem_cons.mpr ⟨lw_p7, List.forall_mem_cons.mpr ⟨lw_p8, List.forall_mem_cons.mpr ⟨lw_p9, List.forall_mem_cons.mpr ⟨lw_p10, List.forall_mem_cons.mpr ⟨lw_p11, List.forall_mem_cons.mpr ⟨lw_p12, List.forall_mem_cons.mpr ⟨lw_p13, List.forall_mem_cons.mpr ⟨lw_p14, List.forall_mem_cons.mpr ⟨lw_p15, fun _ h => absurd h List.not_mem_nil⟩⟩⟩⟩⟩⟩⟩⟩⟩⟩⟩⟩⟩⟩⟩⟩
theorem lw_p16 : lw_okq (⟨"StateExplorer", "requireGate", "(I)V"⟩, 5) := ⟨⟨by decide +kernel, by decide +kernel⟩, List.mem_of_getElem? (i := 15) (by decide +kernel), List.mem_of_getElem? (i := 420) (by decide +kernel), List.mem_of_getElem? (i := 421) (by decide +kernel)⟩
theorem lw_p17 : lw_okq (⟨"StateExplorer", "requireExplored", "()V"⟩, 5) := ⟨⟨by decide +kernel, by decide +kernel⟩, List.mem_of_getElem? (i := 15) (by decide +kernel), List.mem_of_getElem? (i := 488) (by decide +kernel), List.mem_of_getElem? (i := 489) (by decide +kernel)⟩
theorem lw_p18 : lw_okq (⟨"StateExplorer", "requireState", "(I)V"⟩, 5) := ⟨⟨by decide +kernel, by decide +kernel⟩, List.mem_of_getElem? (i := 15) (by decide +kernel), List.mem_of_getElem? (i := 493) (by decide +kernel), List.mem_of_getElem? (i := 494) (by decide +kernel)⟩
theorem lw_p19 : lw_okq (⟨"StateExplorerModel", "fails", "(ZZ)Z"⟩, 21) := ⟨⟨by decide +kernel, by decide +kernel⟩, List.mem_of_getElem? (i := 570) (by decide +kernel), List.mem_of_getElem? (i := 650) (by decide +kernel), List.mem_of_getElem? (i := 651) (by decide +kernel)⟩
theorem lw_p20 : lw_okq (⟨"StateExplorerModel", "isGate", "(I)Z"⟩, 21) := ⟨⟨by decide +kernel, by decide +kernel⟩, List.mem_of_getElem? (i := 570) (by decide +kernel), List.mem_of_getElem? (i := 658) (by decide +kernel), List.mem_of_getElem? (i := 659) (by decide +kernel)⟩
theorem lw_p21 : lw_okq (⟨"StateExplorerModel", "feedsOf", "(I)I"⟩, 21) := ⟨⟨by decide +kernel, by decide +kernel⟩, List.mem_of_getElem? (i := 570) (by decide +kernel), List.mem_of_getElem? (i := 662) (by decide +kernel), List.mem_of_getElem? (i := 663) (by decide +kernel)⟩
theorem lw_p22 : lw_okq (⟨"StateExplorerModel", "states", "()I"⟩, 21) := ⟨⟨by decide +kernel, by decide +kernel⟩, List.mem_of_getElem? (i := 570) (by decide +kernel), List.mem_of_getElem? (i := 678) (by decide +kernel), List.mem_of_getElem? (i := 679) (by decide +kernel)⟩
theorem lw_p23 : lw_okq (⟨"StateExplorerModel", "choices", "()I"⟩, 21) := ⟨⟨by decide +kernel, by decide +kernel⟩, List.mem_of_getElem? (i := 570) (by decide +kernel), List.mem_of_getElem? (i := 682) (by decide +kernel), List.mem_of_getElem? (i := 683) (by decide +kernel)⟩
theorem lw_p24 : lw_okq (⟨"StateExplorerModel", "work", "(II)V"⟩, 21) := ⟨⟨by decide +kernel, by decide +kernel⟩, List.mem_of_getElem? (i := 570) (by decide +kernel), List.mem_of_getElem? (i := 686) (by decide +kernel), List.mem_of_getElem? (i := 687) (by decide +kernel)⟩
theorem lw_p25 : lw_okq (⟨"StateExplorerModel", "again", "()Z"⟩, 21) := ⟨⟨by decide +kernel, by decide +kernel⟩, List.mem_of_getElem? (i := 570) (by decide +kernel), List.mem_of_getElem? (i := 690) (by decide +kernel), List.mem_of_getElem? (i := 691) (by decide +kernel)⟩
theorem lw_p26 : lw_okq (⟨"StateExplorerModel", "taken", "(I)I"⟩, 21) := ⟨⟨by decide +kernel, by decide +kernel⟩, List.mem_of_getElem? (i := 570) (by decide +kernel), List.mem_of_getElem? (i := 694) (by decide +kernel), List.mem_of_getElem? (i := 695) (by decide +kernel)⟩
theorem lw_p27 : lw_okq (⟨"StateExplorerModel", "tell", "()V"⟩, 21) := ⟨⟨by decide +kernel, by decide +kernel⟩, List.mem_of_getElem? (i := 570) (by decide +kernel), List.mem_of_getElem? (i := 698) (by decide +kernel), List.mem_of_getElem? (i := 699) (by decide +kernel)⟩
theorem lw_p28 : lw_okq (⟨"StateExplorerModel", "differ", "(II)Z"⟩, 21) := ⟨⟨by decide +kernel, by decide +kernel⟩, List.mem_of_getElem? (i := 570) (by decide +kernel), List.mem_of_getElem? (i := 702) (by decide +kernel), List.mem_of_getElem? (i := 703) (by decide +kernel)⟩
theorem lw_p29 : lw_okq (⟨"StateExplorerModel", "shows", "(III)Z"⟩, 21) := ⟨⟨by decide +kernel, by decide +kernel⟩, List.mem_of_getElem? (i := 570) (by decide +kernel), List.mem_of_getElem? (i := 706) (by decide +kernel), List.mem_of_getElem? (i := 707) (by decide +kernel)⟩
theorem lw_p30 : lw_okq (⟨"StateExplorerModel", "reached", "()I"⟩, 21) := ⟨⟨by decide +kernel, by decide +kernel⟩, List.mem_of_getElem? (i := 570) (by decide +kernel), List.mem_of_getElem? (i := 710) (by decide +kernel), List.mem_of_getElem? (i := 711) (by decide +kernel)⟩
theorem lw_p31 : lw_okq (⟨"StateExplorerModel", "isState", "(I)Z"⟩, 21) := ⟨⟨by decide +kernel, by decide +kernel⟩, List.mem_of_getElem? (i := 570) (by decide +kernel), List.mem_of_getElem? (i := 718) (by decide +kernel), List.mem_of_getElem? (i := 719) (by decide +kernel)⟩
def lw_privs_2 : List (MethodName × Nat) := [(⟨"StateExplorer", "requireGate", "(I)V"⟩, 5), (⟨"StateExplorer", "requireExplored", "()V"⟩, 5), (⟨"StateExplorer", "requireState", "(I)V"⟩, 5), (⟨"StateExplorerModel", "fails", "(ZZ)Z"⟩, 21), (⟨"StateExplorerModel", "isGate", "(I)Z"⟩, 21), (⟨"StateExplorerModel", "feedsOf", "(I)I"⟩, 21), (⟨"StateExplorerModel", "states", "()I"⟩, 21), (⟨"StateExplorerModel", "choices", "()I"⟩, 21), (⟨"StateExplorerModel", "work", "(II)V"⟩, 21), (⟨"StateExplorerModel", "again", "()Z"⟩, 21), (⟨"StateExplorerModel", "taken", "(I)I"⟩, 21), (⟨"StateExplorerModel", "tell", "()V"⟩, 21), (⟨"StateExplorerModel", "differ", "(II)Z"⟩, 21), (⟨"StateExplorerModel", "shows", "(III)Z"⟩, 21), (⟨"StateExplorerModel", "reached", "()I"⟩, 21), (⟨"StateExplorerModel", "isState", "(I)Z"⟩, 21)]
theorem lw_r2 : ∀ q ∈ lw_privs_2, lw_okq q := List.forall_mem_cons.mpr ⟨lw_p16, List.forall_mem_cons.mpr ⟨lw_p17, List.forall_mem_cons.mpr ⟨lw_p18, List.forall_mem_cons.mpr ⟨lw_p19, List.forall_mem_cons.mpr ⟨lw_p20, List.forall_mem_cons.mpr ⟨lw_p21, List.forall_mem_cons.mpr ⟨lw_p22, List.forall_mem_cons.mpr ⟨lw_p23, List.forall_mem_cons.mpr ⟨lw_p24, List.forall_mem_cons.mpr ⟨lw_p25, List.forall_mem_cons.mpr ⟨lw_p26, List.forall_mem_cons.mpr ⟨lw_p27, List.forall_mem_cons.mpr ⟨lw_p28, List.forall_mem_cons.mpr ⟨lw_p29, List.forall_mem_cons.mpr ⟨lw_p30, List.forall_mem_cons.mpr ⟨lw_p31, fun _ h => absurd h List.not_mem_nil⟩⟩⟩⟩⟩⟩⟩⟩⟩⟩⟩⟩⟩⟩⟩⟩
theorem lw_p32 : lw_okq (⟨"StateExplorerModel", "lead", "(II)V"⟩, 21) := ⟨⟨by decide +kernel, by decide +kernel⟩, List.mem_of_getElem? (i := 570) (by decide +kernel), List.mem_of_getElem? (i := 726) (by decide +kernel), List.mem_of_getElem? (i := 727) (by decide +kernel)⟩
theorem lw_p33 : lw_okq (⟨"StateExplorerModel", "held", "(JZ)I"⟩, 21) := ⟨⟨by decide +kernel, by decide +kernel⟩, List.mem_of_getElem? (i := 570) (by decide +kernel), List.mem_of_getElem? (i := 746) (by decide +kernel), List.mem_of_getElem? (i := 747) (by decide +kernel)⟩
theorem lw_p34 : lw_okq (⟨"StateExplorerModel", "least", "(I)I"⟩, 21) := ⟨⟨by decide +kernel, by decide +kernel⟩, List.mem_of_getElem? (i := 570) (by decide +kernel), List.mem_of_getElem? (i := 758) (by decide +kernel), List.mem_of_getElem? (i := 759) (by decide +kernel)⟩
def lw_privs_3 : List (MethodName × Nat) := [(⟨"StateExplorerModel", "lead", "(II)V"⟩, 21), (⟨"StateExplorerModel", "held", "(JZ)I"⟩, 21), (⟨"StateExplorerModel", "least", "(I)I"⟩, 21)]
theorem lw_r3 : ∀ q ∈ lw_privs_3, lw_okq q := List.forall_mem_cons.mpr ⟨lw_p32, List.forall_mem_cons.mpr ⟨lw_p33, List.forall_mem_cons.mpr ⟨lw_p34, fun _ h => absurd h List.not_mem_nil⟩⟩⟩
def lw_privs : List (MethodName × Nat) := lw_privs_1 ++ (lw_privs_2 ++ (lw_privs_3))
def lw_tbl : List Cond := k2_sels lw_privs ++ tables_1
theorem lw_privs_ok : ∀ q ∈ lw_privs, lw_okq q := by
  show ∀ q ∈ lw_privs_1 ++ (lw_privs_2 ++ (lw_privs_3)), lw_okq q
  exact List.forall_mem_append.mpr ⟨lw_r1, List.forall_mem_append.mpr ⟨lw_r2, lw_r3⟩⟩
end
section
def RNet : String := "StateExplorer$Net"
def TNet : u_T := fun k => match k with
  | 0 => ("StateExplorer$Net", "sorts", "[I", true)
  | 1 => ("StateExplorer$Net", "ranks", "[I", true)
  | 2 => ("StateExplorer$Net", "starts", "[I", true)
  | 3 => ("StateExplorer$Net", "literals", "[I", true)
  | 4 => ("StateExplorer$Net", "nextLiterals", "[I", true)
  | 5 => ("StateExplorer$Net", "outputs", "[I", true)
  | 6 => ("StateExplorer$Net", "gateTotal", "I", false)
  | 7 => ("StateExplorer$Net", "inputTotal", "I", false)
  | 8 => ("StateExplorer$Net", "latchTotal", "I", false)
  | _ => ("StateExplorer$Net", "outputTotal", "I", false)
def tyNet : Nat → FieldType := fun k => match k with
  | 0 => .array .int
  | 1 => .array .int
  | 2 => .array .int
  | 3 => .array .int
  | 4 => .array .int
  | 5 => .array .int
  | 6 => .int
  | 7 => .int
  | 8 => .int
  | _ => .int
abbrev wsNet0 : List Cond := u_ws RNet TNet 10
theorem nmNet : ∀ a, a < 10 → ∀ b, b < 10 → a ≠ b → (TNet a).2.1 ≠ (TNet b).2.1 := by decide +kernel
theorem tyNet_ok : ∀ k, k < 10 → parseFieldDescriptor (TNet k).2.2.1 = some (tyNet k) := by decide +kernel
def RPar : String := "StateExplorer$Partition"
def TPar : u_T := fun k => match k with
  | 0 => ("StateExplorer$Partition", "names", "[I", true)
  | 1 => ("StateExplorer$Partition", "finer", "[I", true)
  | 2 => ("StateExplorer$Partition", "behind", "[I", true)
  | _ => ("StateExplorer$Partition", "total", "I", false)
def tyPar : Nat → FieldType := fun k => match k with
  | 0 => .array .int
  | 1 => .array .int
  | 2 => .array .int
  | _ => .int
abbrev wsPar0 : List Cond := u_ws RPar TPar 4
theorem nmPar : ∀ a, a < 4 → ∀ b, b < 4 → a ≠ b → (TPar a).2.1 ≠ (TPar b).2.1 := by decide +kernel
theorem tyPar_ok : ∀ k, k < 4 → parseFieldDescriptor (TPar k).2.2.1 = some (tyPar k) := by decide +kernel
def RTab : String := "StateExplorer$Table"
def TTab : u_T := fun k => match k with
  | 0 => ("StateExplorer$Table", "known", "[J", true)
  | 1 => ("StateExplorer$Table", "settled", "[J", true)
  | 2 => ("StateExplorer$Table", "values", "[J", true)
  | _ => ("StateExplorer$Table", "nextStates", "[I", true)
def tyTab : Nat → FieldType := fun k => match k with
  | 0 => .array .long
  | 1 => .array .long
  | 2 => .array .long
  | _ => .array .int
abbrev wsTab0 : List Cond := u_ws RTab TTab 4
theorem nmTab : ∀ a, a < 4 → ∀ b, b < 4 → a ≠ b → (TTab a).2.1 ≠ (TTab b).2.1 := by decide +kernel
theorem tyTab_ok : ∀ k, k < 4 → parseFieldDescriptor (TTab k).2.2.1 = some (tyTab k) := by decide +kernel
def RWlk : String := "StateExplorer$Walk"
def TWlk : u_T := fun k => match k with
  | 0 => ("StateExplorer$Walk", "distances", "[I", true)
  | 1 => ("StateExplorer$Walk", "order", "[I", true)
  | 2 => ("StateExplorer$Walk", "parents", "[I", true)
  | 3 => ("StateExplorer$Walk", "steps", "[I", true)
  | 4 => ("StateExplorer$Walk", "settledPairs", "[J", true)
  | 5 => ("StateExplorer$Walk", "words", "I", false)
  | 6 => ("StateExplorer$Walk", "reached", "I", false)
  | 7 => ("StateExplorer$Walk", "doubts", "I", false)
  | 8 => ("StateExplorer$Walk", "doubtState", "I", false)
  | _ => ("StateExplorer$Walk", "doubtChoice", "I", false)
def tyWlk : Nat → FieldType := fun k => match k with
  | 0 => .array .int
  | 1 => .array .int
  | 2 => .array .int
  | 3 => .array .int
  | 4 => .array .long
  | 5 => .int
  | 6 => .int
  | 7 => .int
  | 8 => .int
  | _ => .int
abbrev wsWlk0 : List Cond := u_ws RWlk TWlk 10
theorem nmWlk : ∀ a, a < 10 → ∀ b, b < 10 → a ≠ b → (TWlk a).2.1 ≠ (TWlk b).2.1 := by decide +kernel
theorem tyWlk_ok : ∀ k, k < 10 → parseFieldDescriptor (TWlk k).2.2.1 = some (tyWlk k) := by decide +kernel
def RExp : String := "StateExplorer"
def TExp : u_T := fun k => match k with
  | 0 => ("StateExplorer", "net", "LStateExplorer$Net;", true)
  | 1 => ("StateExplorer", "table", "LStateExplorer$Table;", true)
  | 2 => ("StateExplorer", "walk", "LStateExplorer$Walk;", true)
  | 3 => ("StateExplorer", "partition", "LStateExplorer$Partition;", true)
  | _ => ("StateExplorer", "explored", "Z", false)
def tyExp : Nat → FieldType := fun k => match k with
  | 0 => .object "StateExplorer$Net"
  | 1 => .object "StateExplorer$Table"
  | 2 => .object "StateExplorer$Walk"
  | 3 => .object "StateExplorer$Partition"
  | _ => .boolean
abbrev wsExp0 : List Cond := u_ws RExp TExp 5
theorem nmExp : ∀ a, a < 5 → ∀ b, b < 5 → a ≠ b → (TExp a).2.1 ≠ (TExp b).2.1 := by decide +kernel
theorem tyExp_ok : ∀ k, k < 5 → parseFieldDescriptor (TExp k).2.2.1 = some (tyExp k) := by decide +kernel
def RMod : String := "StateExplorerModel"
def TMod : u_T := fun k => match k with
  | 0 => ("StateExplorerModel", "code", "I", false)
  | 1 => ("StateExplorerModel", "gates", "I", false)
  | 2 => ("StateExplorerModel", "feeds", "I", false)
  | 3 => ("StateExplorerModel", "inputs", "I", false)
  | 4 => ("StateExplorerModel", "latches", "I", false)
  | 5 => ("StateExplorerModel", "outputs", "I", false)
  | 6 => ("StateExplorerModel", "sort", "[I", true)
  | 7 => ("StateExplorerModel", "number", "[I", true)
  | 8 => ("StateExplorerModel", "value", "[I", true)
  | 9 => ("StateExplorerModel", "made", "[I", true)
  | 10 => ("StateExplorerModel", "to", "[I", true)
  | 11 => ("StateExplorerModel", "from", "[I", true)
  | 12 => ("StateExplorerModel", "outputOf", "[I", true)
  | 13 => ("StateExplorerModel", "negated", "[Z", true)
  | 14 => ("StateExplorerModel", "explored", "Z", false)
  | 15 => ("StateExplorerModel", "settles", "[Z", true)
  | 16 => ("StateExplorerModel", "next", "[I", true)
  | 17 => ("StateExplorerModel", "ones", "[J", true)
  | 18 => ("StateExplorerModel", "distance", "[I", true)
  | 19 => ("StateExplorerModel", "apart", "[Z", true)
  | _ => ("StateExplorerModel", "leads", "[Z", true)
def tyMod : Nat → FieldType := fun k => match k with
  | 0 => .int
  | 1 => .int
  | 2 => .int
  | 3 => .int
  | 4 => .int
  | 5 => .int
  | 6 => .array .int
  | 7 => .array .int
  | 8 => .array .int
  | 9 => .array .int
  | 10 => .array .int
  | 11 => .array .int
  | 12 => .array .int
  | 13 => .array .boolean
  | 14 => .boolean
  | 15 => .array .boolean
  | 16 => .array .int
  | 17 => .array .long
  | 18 => .array .int
  | 19 => .array .boolean
  | _ => .array .boolean
abbrev wsMod0 : List Cond := u_ws RMod TMod 21
theorem nmMod : ∀ a, a < 21 → ∀ b, b < 21 → a ≠ b → (TMod a).2.1 ≠ (TMod b).2.1 := by decide +kernel
theorem tyMod_ok : ∀ k, k < 21 → parseFieldDescriptor (TMod k).2.2.1 = some (tyMod k) := by decide +kernel
def RLaw : String := "StateExplorerLaw"
abbrev vwCl : List vw_C := [(RNet, TNet, 10), (RPar, TPar, 4), (RTab, TTab, 4), (RWlk, TWlk, 10), (RExp, TExp, 5), (RMod, TMod, 21)]
/-- the words of the tables that hold at every call -/
def tb : List Cond := lw_tbl.filter goodWord
theorem tb_in : ∀ w ∈ tb, w ∈ lw_tbl := fun w h => (List.mem_filter.mp h).1
theorem tb_good : GoodIn tb tb := fun w h => ⟨h, good_of_word (List.mem_filter.mp h).2⟩
theorem tb_of {w : Cond} (i : Nat) (h : lw_tbl[i]? = some w) (hg : goodWord w = true) : w ∈ tb := List.mem_filter.mpr ⟨List.mem_of_getElem? h, hg⟩
theorem tw_0 : Cond.selects "StateExplorer$Table" ⟨"StateExplorer$Table", "begin", "(LStateExplorer$Net;I)V"⟩ ⟨"StateExplorer$Table", "begin", "(LStateExplorer$Net;I)V"⟩ ∈ tb := tb_of 0 (by decide +kernel) rfl
theorem tw_1 : Cond.selects "StateExplorer$Table" ⟨"StateExplorer$Table", "set", "(IJ)V"⟩ ⟨"StateExplorer$Table", "set", "(IJ)V"⟩ ∈ tb := tb_of 1 (by decide +kernel) rfl
theorem tw_2 : Cond.selects "StateExplorer$Table" ⟨"StateExplorer$Table", "settle", "(LStateExplorer$Net;)V"⟩ ⟨"StateExplorer$Table", "settle", "(LStateExplorer$Net;)V"⟩ ∈ tb := tb_of 2 (by decide +kernel) rfl
theorem tw_3 : Cond.selects "StateExplorer$Table" ⟨"StateExplorer$Table", "sweepOnce", "(LStateExplorer$Net;)Z"⟩ ⟨"StateExplorer$Table", "sweepOnce", "(LStateExplorer$Net;)Z"⟩ ∈ tb := tb_of 3 (by decide +kernel) rfl
theorem tw_4 : Cond.selects "StateExplorer$Table" ⟨"StateExplorer$Table", "learn", "(LStateExplorer$Net;II)Z"⟩ ⟨"StateExplorer$Table", "learn", "(LStateExplorer$Net;II)Z"⟩ ∈ tb := tb_of 4 (by decide +kernel) rfl
theorem tw_5 : Cond.selects "StateExplorer$Table" ⟨"StateExplorer$Table", "keep", "(LStateExplorer$Net;I)V"⟩ ⟨"StateExplorer$Table", "keep", "(LStateExplorer$Net;I)V"⟩ ∈ tb := tb_of 5 (by decide +kernel) rfl
theorem tw_6 : Cond.selects "StateExplorer$Table" ⟨"StateExplorer$Table", "findNext", "(LStateExplorer$Net;II)I"⟩ ⟨"StateExplorer$Table", "findNext", "(LStateExplorer$Net;II)I"⟩ ∈ tb := tb_of 6 (by decide +kernel) rfl
theorem tw_7 : Cond.selects "StateExplorer$Walk" ⟨"StateExplorer$Walk", "forget", "(LStateExplorer$Net;)V"⟩ ⟨"StateExplorer$Walk", "forget", "(LStateExplorer$Net;)V"⟩ ∈ tb := tb_of 7 (by decide +kernel) rfl
theorem tw_8 : Cond.selects "StateExplorer$Walk" ⟨"StateExplorer$Walk", "reach", "(IIII)V"⟩ ⟨"StateExplorer$Walk", "reach", "(IIII)V"⟩ ∈ tb := tb_of 8 (by decide +kernel) rfl
theorem tw_9 : Cond.selects "StateExplorer$Walk" ⟨"StateExplorer$Walk", "leave", "(LStateExplorer$Table;II)V"⟩ ⟨"StateExplorer$Walk", "leave", "(LStateExplorer$Table;II)V"⟩ ∈ tb := tb_of 9 (by decide +kernel) rfl
theorem tw_10 : Cond.selects "StateExplorer$Walk" ⟨"StateExplorer$Walk", "noteDoubt", "(II)V"⟩ ⟨"StateExplorer$Walk", "noteDoubt", "(II)V"⟩ ∈ tb := tb_of 10 (by decide +kernel) rfl
theorem tw_11 : Cond.selects "StateExplorer$Partition" ⟨"StateExplorer$Partition", "splitOnce", "(LStateExplorer$Net;LStateExplorer$Table;LStateExplorer$Walk;)I"⟩ ⟨"StateExplorer$Partition", "splitOnce", "(LStateExplorer$Net;LStateExplorer$Table;LStateExplorer$Walk;)I"⟩ ∈ tb := tb_of 11 (by decide +kernel) rfl
theorem tw_12 : Cond.selects "StateExplorer$Partition" ⟨"StateExplorer$Partition", "place", "(LStateExplorer$Net;LStateExplorer$Table;I)I"⟩ ⟨"StateExplorer$Partition", "place", "(LStateExplorer$Net;LStateExplorer$Table;I)I"⟩ ∈ tb := tb_of 12 (by decide +kernel) rfl
theorem tw_13 : Cond.selects "StateExplorer$Partition" ⟨"StateExplorer$Partition", "goesAlike", "(LStateExplorer$Net;LStateExplorer$Table;II)Z"⟩ ⟨"StateExplorer$Partition", "goesAlike", "(LStateExplorer$Net;LStateExplorer$Table;II)Z"⟩ ∈ tb := tb_of 13 (by decide +kernel) rfl
theorem tw_14 : Cond.selects "StateExplorer$Partition" ⟨"StateExplorer$Partition", "nameOfNext", "(LStateExplorer$Table;II)I"⟩ ⟨"StateExplorer$Partition", "nameOfNext", "(LStateExplorer$Table;II)I"⟩ ∈ tb := tb_of 14 (by decide +kernel) rfl
theorem tw_36 : Cond.initialized "StateExplorer" ∈ tb := tb_of 36 (by decide +kernel) rfl
theorem tw_37 : Cond.initialized "StateExplorer$Net" ∈ tb := tb_of 37 (by decide +kernel) rfl
theorem tw_38 : Cond.initialized "StateExplorer$Table" ∈ tb := tb_of 38 (by decide +kernel) rfl
theorem tw_39 : Cond.initialized "StateExplorer$Walk" ∈ tb := tb_of 39 (by decide +kernel) rfl
theorem tw_40 : Cond.initialized "StateExplorer$Partition" ∈ tb := tb_of 40 (by decide +kernel) rfl
theorem tw_48 : Cond.initialized "java/lang/System" ∈ tb := tb_of 48 (by decide +kernel) rfl
set_option maxRecDepth 20000 in
theorem tw_53 : Cond.code ⟨"StateExplorer", "<init>", "()V"⟩ prog_1_method_1_code 1 (none : Option Jvm.ClassFile.FieldType) ∈ tb := tb_of 53 rfl rfl
set_option maxRecDepth 20000 in
theorem tw_61 : Cond.code ⟨"StateExplorer$Net", "<init>", "()V"⟩ prog_2_method_1_code 1 (none : Option Jvm.ClassFile.FieldType) ∈ tb := tb_of 61 rfl rfl
theorem tw_63 : Cond.fieldLink "StateExplorer$Net" 9 "StateExplorer$Net" "sorts" "[I" ∈ tb := tb_of 63 (by decide +kernel) rfl
theorem tw_64 : Cond.fieldLink "StateExplorer$Table" 56 "StateExplorer$Net" "sorts" "[I" ∈ tb := tb_of 64 (by decide +kernel) rfl
theorem tw_65 : Cond.fieldLink "StateExplorer$Net" 15 "StateExplorer$Net" "ranks" "[I" ∈ tb := tb_of 65 (by decide +kernel) rfl
theorem tw_66 : Cond.fieldLink "StateExplorer$Table" 62 "StateExplorer$Net" "ranks" "[I" ∈ tb := tb_of 66 (by decide +kernel) rfl
theorem tw_67 : Cond.fieldLink "StateExplorer$Net" 18 "StateExplorer$Net" "starts" "[I" ∈ tb := tb_of 67 (by decide +kernel) rfl
theorem tw_68 : Cond.fieldLink "StateExplorer$Table" 86 "StateExplorer$Net" "starts" "[I" ∈ tb := tb_of 68 (by decide +kernel) rfl
theorem tw_69 : Cond.fieldLink "StateExplorer$Net" 21 "StateExplorer$Net" "literals" "[I" ∈ tb := tb_of 69 (by decide +kernel) rfl
theorem tw_70 : Cond.fieldLink "StateExplorer$Table" 89 "StateExplorer$Net" "literals" "[I" ∈ tb := tb_of 70 (by decide +kernel) rfl
theorem tw_71 : Cond.fieldLink "StateExplorer$Net" 24 "StateExplorer$Net" "nextLiterals" "[I" ∈ tb := tb_of 71 (by decide +kernel) rfl
theorem tw_72 : Cond.fieldLink "StateExplorer$Table" 102 "StateExplorer$Net" "nextLiterals" "[I" ∈ tb := tb_of 72 (by decide +kernel) rfl
theorem tw_73 : Cond.fieldLink "StateExplorer$Net" 27 "StateExplorer$Net" "outputs" "[I" ∈ tb := tb_of 73 (by decide +kernel) rfl
theorem tw_74 : Cond.fieldLink "StateExplorer$Partition" 66 "StateExplorer$Net" "outputs" "[I" ∈ tb := tb_of 74 (by decide +kernel) rfl
theorem tw_75 : Cond.fieldLink "StateExplorer$Net" 30 "StateExplorer$Net" "gateTotal" "I" ∈ tb := tb_of 75 (by decide +kernel) rfl
theorem tw_76 : Cond.fieldLink "StateExplorer$Table" 52 "StateExplorer$Net" "gateTotal" "I" ∈ tb := tb_of 76 (by decide +kernel) rfl
theorem tw_78 : Cond.fieldLink "StateExplorer$Net" 34 "StateExplorer$Net" "inputTotal" "I" ∈ tb := tb_of 78 (by decide +kernel) rfl
theorem tw_80 : Cond.fieldLink "StateExplorer$Net" 37 "StateExplorer$Net" "latchTotal" "I" ∈ tb := tb_of 80 (by decide +kernel) rfl
theorem tw_81 : Cond.fieldLink "StateExplorer$Table" 99 "StateExplorer$Net" "latchTotal" "I" ∈ tb := tb_of 81 (by decide +kernel) rfl
theorem tw_83 : Cond.fieldLink "StateExplorer$Net" 40 "StateExplorer$Net" "outputTotal" "I" ∈ tb := tb_of 83 (by decide +kernel) rfl
theorem tw_85 : Cond.fieldLink "StateExplorer$Partition" 63 "StateExplorer$Net" "outputTotal" "I" ∈ tb := tb_of 85 (by decide +kernel) rfl
set_option maxRecDepth 20000 in
theorem tw_112 : Cond.code ⟨"StateExplorer$Table", "<init>", "()V"⟩ prog_4_method_1_code 1 (none : Option Jvm.ClassFile.FieldType) ∈ tb := tb_of 112 rfl rfl
theorem tw_114 : Cond.fieldLink "StateExplorer$Table" 9 "StateExplorer$Table" "known" "[J" ∈ tb := tb_of 114 (by decide +kernel) rfl
theorem tw_115 : Cond.fieldLink "StateExplorer$Table" 15 "StateExplorer$Table" "settled" "[J" ∈ tb := tb_of 115 (by decide +kernel) rfl
theorem tw_116 : Cond.fieldLink "StateExplorer$Table" 18 "StateExplorer$Table" "values" "[J" ∈ tb := tb_of 116 (by decide +kernel) rfl
theorem tw_117 : Cond.fieldLink "StateExplorer$Walk" 90 "StateExplorer$Table" "values" "[J" ∈ tb := tb_of 117 (by decide +kernel) rfl
theorem tw_118 : Cond.fieldLink "StateExplorer$Table" 21 "StateExplorer$Table" "nextStates" "[I" ∈ tb := tb_of 118 (by decide +kernel) rfl
set_option maxRecDepth 20000 in
theorem tw_133 : Cond.code ⟨"StateExplorer$Walk", "<init>", "()V"⟩ prog_5_method_1_code 1 (none : Option Jvm.ClassFile.FieldType) ∈ tb := tb_of 133 rfl rfl
theorem tw_135 : Cond.fieldLink "StateExplorer$Walk" 9 "StateExplorer$Walk" "distances" "[I" ∈ tb := tb_of 135 (by decide +kernel) rfl
theorem tw_136 : Cond.fieldLink "StateExplorer$Partition" 35 "StateExplorer$Walk" "distances" "[I" ∈ tb := tb_of 136 (by decide +kernel) rfl
theorem tw_138 : Cond.fieldLink "StateExplorer$Walk" 15 "StateExplorer$Walk" "order" "[I" ∈ tb := tb_of 138 (by decide +kernel) rfl
theorem tw_139 : Cond.fieldLink "StateExplorer$Walk" 18 "StateExplorer$Walk" "parents" "[I" ∈ tb := tb_of 139 (by decide +kernel) rfl
theorem tw_140 : Cond.fieldLink "StateExplorer$Walk" 21 "StateExplorer$Walk" "steps" "[I" ∈ tb := tb_of 140 (by decide +kernel) rfl
theorem tw_141 : Cond.fieldLink "StateExplorer$Walk" 24 "StateExplorer$Walk" "settledPairs" "[J" ∈ tb := tb_of 141 (by decide +kernel) rfl
theorem tw_142 : Cond.fieldLink "StateExplorer$Walk" 28 "StateExplorer$Walk" "words" "I" ∈ tb := tb_of 142 (by decide +kernel) rfl
theorem tw_143 : Cond.fieldLink "StateExplorer$Walk" 32 "StateExplorer$Walk" "reached" "I" ∈ tb := tb_of 143 (by decide +kernel) rfl
theorem tw_145 : Cond.fieldLink "StateExplorer$Walk" 35 "StateExplorer$Walk" "doubts" "I" ∈ tb := tb_of 145 (by decide +kernel) rfl
theorem tw_147 : Cond.fieldLink "StateExplorer$Walk" 38 "StateExplorer$Walk" "doubtState" "I" ∈ tb := tb_of 147 (by decide +kernel) rfl
theorem tw_149 : Cond.fieldLink "StateExplorer$Walk" 41 "StateExplorer$Walk" "doubtChoice" "I" ∈ tb := tb_of 149 (by decide +kernel) rfl
set_option maxRecDepth 20000 in
theorem tw_176 : Cond.code ⟨"StateExplorer$Partition", "<init>", "()V"⟩ prog_3_method_1_code 1 (none : Option Jvm.ClassFile.FieldType) ∈ tb := tb_of 176 rfl rfl
theorem tw_178 : Cond.fieldLink "StateExplorer$Partition" 9 "StateExplorer$Partition" "names" "[I" ∈ tb := tb_of 178 (by decide +kernel) rfl
theorem tw_180 : Cond.fieldLink "StateExplorer$Partition" 15 "StateExplorer$Partition" "finer" "[I" ∈ tb := tb_of 180 (by decide +kernel) rfl
theorem tw_181 : Cond.fieldLink "StateExplorer$Partition" 18 "StateExplorer$Partition" "behind" "[I" ∈ tb := tb_of 181 (by decide +kernel) rfl
theorem tw_182 : Cond.fieldLink "StateExplorer$Partition" 21 "StateExplorer$Partition" "total" "I" ∈ tb := tb_of 182 (by decide +kernel) rfl
set_option maxRecDepth 20000 in
theorem tw_212 : Cond.code ⟨"StateExplorer", "clear", "()I"⟩ prog_1_method_5_code 2 (some .int) ∈ tb := tb_of 212 rfl rfl
set_option maxRecDepth 20000 in
theorem tw_216 : Cond.code ⟨"StateExplorer$Net", "empty", "()V"⟩ prog_2_method_2_code 1 (none : Option Jvm.ClassFile.FieldType) ∈ tb := tb_of 216 rfl rfl
set_option maxRecDepth 20000 in
theorem tw_220 : Cond.code ⟨"StateExplorer", "explore", "()I"⟩ prog_1_method_6_code 1 (some .int) ∈ tb := tb_of 220 rfl rfl
set_option maxRecDepth 20000 in
theorem tw_224 : Cond.code ⟨"StateExplorer$Table", "fill", "(LStateExplorer$Net;)V"⟩ prog_4_method_2_code 7 (none : Option Jvm.ClassFile.FieldType) ∈ tb := tb_of 224 rfl rfl
theorem tw_225 : Cond.methodLink "StateExplorer$Table" 25 ⟨"StateExplorer$Net", "wordTotal", "()I"⟩ ∈ tb := tb_of 225 (by decide +kernel) rfl
theorem tw_226 : Cond.instanceMethod ⟨"StateExplorer$Net", "wordTotal", "()I"⟩ ∈ tb := tb_of 226 (by decide +kernel) rfl
theorem tw_227 : Cond.selects "StateExplorer$Net" ⟨"StateExplorer$Net", "wordTotal", "()I"⟩ ⟨"StateExplorer$Net", "wordTotal", "()I"⟩ ∈ tb := tb_of 227 (by decide +kernel) rfl
set_option maxRecDepth 20000 in
theorem tw_228 : Cond.code ⟨"StateExplorer$Net", "wordTotal", "()I"⟩ prog_2_method_6_code 1 (some .int) ∈ tb := tb_of 228 rfl rfl
theorem tw_229 : Cond.methodLink "StateExplorer$Net" 43 ⟨"StateExplorer$Net", "stateTotal", "()I"⟩ ∈ tb := tb_of 229 (by decide +kernel) rfl
theorem tw_230 : Cond.instanceMethod ⟨"StateExplorer$Net", "stateTotal", "()I"⟩ ∈ tb := tb_of 230 (by decide +kernel) rfl
theorem tw_231 : Cond.selects "StateExplorer$Net" ⟨"StateExplorer$Net", "stateTotal", "()I"⟩ ⟨"StateExplorer$Net", "stateTotal", "()I"⟩ ∈ tb := tb_of 231 (by decide +kernel) rfl
set_option maxRecDepth 20000 in
theorem tw_232 : Cond.code ⟨"StateExplorer$Net", "stateTotal", "()I"⟩ prog_2_method_4_code 1 (some .int) ∈ tb := tb_of 232 rfl rfl
theorem tw_234 : Cond.static ⟨"StateExplorer", "wordOf", "(I)I"⟩ ∈ tb := tb_of 234 (by decide +kernel) rfl
set_option maxRecDepth 20000 in
theorem tw_235 : Cond.code ⟨"StateExplorer", "wordOf", "(I)I"⟩ prog_1_method_19_code 1 (some .int) ∈ tb := tb_of 235 rfl rfl
theorem tw_236 : Cond.methodLink "StateExplorer$Table" 31 ⟨"StateExplorer$Table", "begin", "(LStateExplorer$Net;I)V"⟩ ∈ tb := tb_of 236 (by decide +kernel) rfl
theorem tw_238 : Cond.instanceMethod ⟨"StateExplorer$Table", "begin", "(LStateExplorer$Net;I)V"⟩ ∈ tb := tb_of 238 (by decide +kernel) rfl
set_option maxRecDepth 20000 in
theorem tw_239 : Cond.code ⟨"StateExplorer$Table", "begin", "(LStateExplorer$Net;I)V"⟩ prog_4_method_3_code 5 (none : Option Jvm.ClassFile.FieldType) ∈ tb := tb_of 239 rfl rfl
theorem tw_240 : Cond.fieldLink "StateExplorer$Table" 59 "StateExplorer$Table" "INPUT_WORDS" "[J" ∈ tb := tb_of 240 (by decide +kernel) rfl
theorem tw_242 : Cond.methodLink "StateExplorer$Table" 65 ⟨"StateExplorer$Table", "set", "(IJ)V"⟩ ∈ tb := tb_of 242 (by decide +kernel) rfl
theorem tw_244 : Cond.instanceMethod ⟨"StateExplorer$Table", "set", "(IJ)V"⟩ ∈ tb := tb_of 244 (by decide +kernel) rfl
set_option maxRecDepth 20000 in
theorem tw_245 : Cond.code ⟨"StateExplorer$Table", "set", "(IJ)V"⟩ prog_4_method_4_code 4 (none : Option Jvm.ClassFile.FieldType) ∈ tb := tb_of 245 rfl rfl
theorem tw_246 : Cond.constantLong "StateExplorer$Table" 73 (-1) ∈ tb := tb_of 246 (by decide +kernel) rfl
theorem tw_247 : Cond.methodLink "StateExplorer$Table" 69 ⟨"StateExplorer$Table", "latchBits", "(II)J"⟩ ∈ tb := tb_of 247 (by decide +kernel) rfl
theorem tw_248 : Cond.static ⟨"StateExplorer$Table", "latchBits", "(II)J"⟩ ∈ tb := tb_of 248 (by decide +kernel) rfl
set_option maxRecDepth 20000 in
theorem tw_249 : Cond.code ⟨"StateExplorer$Table", "latchBits", "(II)J"⟩ prog_4_method_5_code 2 (some .long) ∈ tb := tb_of 249 rfl rfl
theorem tw_250 : Cond.fieldLink "StateExplorer$Table" 75 "StateExplorer$Table" "LATCH_WORDS" "[J" ∈ tb := tb_of 250 (by decide +kernel) rfl
theorem tw_252 : Cond.methodLink "StateExplorer$Table" 35 ⟨"StateExplorer$Table", "settle", "(LStateExplorer$Net;)V"⟩ ∈ tb := tb_of 252 (by decide +kernel) rfl
theorem tw_254 : Cond.instanceMethod ⟨"StateExplorer$Table", "settle", "(LStateExplorer$Net;)V"⟩ ∈ tb := tb_of 254 (by decide +kernel) rfl
set_option maxRecDepth 20000 in
theorem tw_255 : Cond.code ⟨"StateExplorer$Table", "settle", "(LStateExplorer$Net;)V"⟩ prog_4_method_6_code 3 (none : Option Jvm.ClassFile.FieldType) ∈ tb := tb_of 255 rfl rfl
theorem tw_256 : Cond.methodLink "StateExplorer$Table" 78 ⟨"StateExplorer$Table", "sweepOnce", "(LStateExplorer$Net;)Z"⟩ ∈ tb := tb_of 256 (by decide +kernel) rfl
theorem tw_258 : Cond.instanceMethod ⟨"StateExplorer$Table", "sweepOnce", "(LStateExplorer$Net;)Z"⟩ ∈ tb := tb_of 258 (by decide +kernel) rfl
set_option maxRecDepth 20000 in
theorem tw_259 : Cond.code ⟨"StateExplorer$Table", "sweepOnce", "(LStateExplorer$Net;)Z"⟩ prog_4_method_7_code 5 (some .boolean) ∈ tb := tb_of 259 rfl rfl
theorem tw_260 : Cond.methodLink "StateExplorer$Table" 82 ⟨"StateExplorer$Table", "learn", "(LStateExplorer$Net;II)Z"⟩ ∈ tb := tb_of 260 (by decide +kernel) rfl
theorem tw_262 : Cond.instanceMethod ⟨"StateExplorer$Table", "learn", "(LStateExplorer$Net;II)Z"⟩ ∈ tb := tb_of 262 (by decide +kernel) rfl
set_option maxRecDepth 20000 in
theorem tw_263 : Cond.code ⟨"StateExplorer$Table", "learn", "(LStateExplorer$Net;II)Z"⟩ prog_4_method_8_code 11 (some .boolean) ∈ tb := tb_of 263 rfl rfl
theorem tw_264 : Cond.methodLink "StateExplorer$Table" 39 ⟨"StateExplorer$Table", "keep", "(LStateExplorer$Net;I)V"⟩ ∈ tb := tb_of 264 (by decide +kernel) rfl
theorem tw_266 : Cond.instanceMethod ⟨"StateExplorer$Table", "keep", "(LStateExplorer$Net;I)V"⟩ ∈ tb := tb_of 266 (by decide +kernel) rfl
set_option maxRecDepth 20000 in
theorem tw_267 : Cond.code ⟨"StateExplorer$Table", "keep", "(LStateExplorer$Net;I)V"⟩ prog_4_method_9_code 6 (none : Option Jvm.ClassFile.FieldType) ∈ tb := tb_of 267 rfl rfl
theorem tw_268 : Cond.methodLink "StateExplorer$Table" 42 ⟨"StateExplorer$Net", "stateTotal", "()I"⟩ ∈ tb := tb_of 268 (by decide +kernel) rfl
theorem tw_269 : Cond.methodLink "StateExplorer$Table" 45 ⟨"StateExplorer$Net", "choiceTotal", "()I"⟩ ∈ tb := tb_of 269 (by decide +kernel) rfl
theorem tw_270 : Cond.instanceMethod ⟨"StateExplorer$Net", "choiceTotal", "()I"⟩ ∈ tb := tb_of 270 (by decide +kernel) rfl
theorem tw_271 : Cond.selects "StateExplorer$Net" ⟨"StateExplorer$Net", "choiceTotal", "()I"⟩ ⟨"StateExplorer$Net", "choiceTotal", "()I"⟩ ∈ tb := tb_of 271 (by decide +kernel) rfl
set_option maxRecDepth 20000 in
theorem tw_272 : Cond.code ⟨"StateExplorer$Net", "choiceTotal", "()I"⟩ prog_2_method_5_code 1 (some .int) ∈ tb := tb_of 272 rfl rfl
theorem tw_273 : Cond.methodLink "StateExplorer$Table" 48 ⟨"StateExplorer$Table", "findNext", "(LStateExplorer$Net;II)I"⟩ ∈ tb := tb_of 273 (by decide +kernel) rfl
theorem tw_275 : Cond.instanceMethod ⟨"StateExplorer$Table", "findNext", "(LStateExplorer$Net;II)I"⟩ ∈ tb := tb_of 275 (by decide +kernel) rfl
set_option maxRecDepth 20000 in
theorem tw_276 : Cond.code ⟨"StateExplorer$Table", "findNext", "(LStateExplorer$Net;II)I"⟩ prog_4_method_10_code 11 (some .int) ∈ tb := tb_of 276 rfl rfl
theorem tw_279 : Cond.static ⟨"StateExplorer", "shiftOf", "(I)I"⟩ ∈ tb := tb_of 279 (by decide +kernel) rfl
set_option maxRecDepth 20000 in
theorem tw_280 : Cond.code ⟨"StateExplorer", "shiftOf", "(I)I"⟩ prog_1_method_20_code 1 (some .int) ∈ tb := tb_of 280 rfl rfl
set_option maxRecDepth 20000 in
theorem tw_284 : Cond.code ⟨"StateExplorer$Walk", "run", "(LStateExplorer$Net;LStateExplorer$Table;)V"⟩ prog_5_method_2_code 5 (none : Option Jvm.ClassFile.FieldType) ∈ tb := tb_of 284 rfl rfl
theorem tw_285 : Cond.methodLink "StateExplorer$Walk" 44 ⟨"StateExplorer$Walk", "forget", "(LStateExplorer$Net;)V"⟩ ∈ tb := tb_of 285 (by decide +kernel) rfl
theorem tw_287 : Cond.instanceMethod ⟨"StateExplorer$Walk", "forget", "(LStateExplorer$Net;)V"⟩ ∈ tb := tb_of 287 (by decide +kernel) rfl
set_option maxRecDepth 20000 in
theorem tw_288 : Cond.code ⟨"StateExplorer$Walk", "forget", "(LStateExplorer$Net;)V"⟩ prog_5_method_3_code 4 (none : Option Jvm.ClassFile.FieldType) ∈ tb := tb_of 288 rfl rfl
theorem tw_289 : Cond.methodLink "StateExplorer$Walk" 62 ⟨"StateExplorer$Net", "stateTotal", "()I"⟩ ∈ tb := tb_of 289 (by decide +kernel) rfl
theorem tw_290 : Cond.methodLink "StateExplorer$Walk" 65 ⟨"StateExplorer$Net", "wordTotal", "()I"⟩ ∈ tb := tb_of 290 (by decide +kernel) rfl
theorem tw_291 : Cond.methodLink "StateExplorer$Walk" 48 ⟨"StateExplorer$Walk", "reach", "(IIII)V"⟩ ∈ tb := tb_of 291 (by decide +kernel) rfl
theorem tw_293 : Cond.instanceMethod ⟨"StateExplorer$Walk", "reach", "(IIII)V"⟩ ∈ tb := tb_of 293 (by decide +kernel) rfl
set_option maxRecDepth 20000 in
theorem tw_294 : Cond.code ⟨"StateExplorer$Walk", "reach", "(IIII)V"⟩ prog_5_method_4_code 5 (none : Option Jvm.ClassFile.FieldType) ∈ tb := tb_of 294 rfl rfl
theorem tw_295 : Cond.methodLink "StateExplorer$Walk" 52 ⟨"StateExplorer$Net", "choiceTotal", "()I"⟩ ∈ tb := tb_of 295 (by decide +kernel) rfl
theorem tw_296 : Cond.methodLink "StateExplorer$Walk" 58 ⟨"StateExplorer$Walk", "leave", "(LStateExplorer$Table;II)V"⟩ ∈ tb := tb_of 296 (by decide +kernel) rfl
theorem tw_298 : Cond.instanceMethod ⟨"StateExplorer$Walk", "leave", "(LStateExplorer$Table;II)V"⟩ ∈ tb := tb_of 298 (by decide +kernel) rfl
set_option maxRecDepth 20000 in
theorem tw_299 : Cond.code ⟨"StateExplorer$Walk", "leave", "(LStateExplorer$Table;II)V"⟩ prog_5_method_5_code 6 (none : Option Jvm.ClassFile.FieldType) ∈ tb := tb_of 299 rfl rfl
theorem tw_301 : Cond.methodLink "StateExplorer$Walk" 72 ⟨"StateExplorer$Table", "settledIn", "(I)I"⟩ ∈ tb := tb_of 301 (by decide +kernel) rfl
theorem tw_302 : Cond.instanceMethod ⟨"StateExplorer$Table", "settledIn", "(I)I"⟩ ∈ tb := tb_of 302 (by decide +kernel) rfl
theorem tw_303 : Cond.selects "StateExplorer$Table" ⟨"StateExplorer$Table", "settledIn", "(I)I"⟩ ⟨"StateExplorer$Table", "settledIn", "(I)I"⟩ ∈ tb := tb_of 303 (by decide +kernel) rfl
set_option maxRecDepth 20000 in
theorem tw_304 : Cond.code ⟨"StateExplorer$Table", "settledIn", "(I)I"⟩ prog_4_method_12_code 2 (some .int) ∈ tb := tb_of 304 rfl rfl
theorem tw_305 : Cond.constant "StateExplorer$Table" 105 65535 ∈ tb := tb_of 305 (by decide +kernel) rfl
theorem tw_307 : Cond.methodLink "StateExplorer$Walk" 80 ⟨"StateExplorer$Table", "nextOf", "(II)I"⟩ ∈ tb := tb_of 307 (by decide +kernel) rfl
theorem tw_308 : Cond.instanceMethod ⟨"StateExplorer$Table", "nextOf", "(II)I"⟩ ∈ tb := tb_of 308 (by decide +kernel) rfl
theorem tw_309 : Cond.selects "StateExplorer$Table" ⟨"StateExplorer$Table", "nextOf", "(II)I"⟩ ⟨"StateExplorer$Table", "nextOf", "(II)I"⟩ ∈ tb := tb_of 309 (by decide +kernel) rfl
set_option maxRecDepth 20000 in
theorem tw_310 : Cond.code ⟨"StateExplorer$Table", "nextOf", "(II)I"⟩ prog_4_method_11_code 3 (some .int) ∈ tb := tb_of 310 rfl rfl
theorem tw_311 : Cond.methodLink "StateExplorer$Walk" 84 ⟨"StateExplorer$Walk", "noteDoubt", "(II)V"⟩ ∈ tb := tb_of 311 (by decide +kernel) rfl
theorem tw_313 : Cond.instanceMethod ⟨"StateExplorer$Walk", "noteDoubt", "(II)V"⟩ ∈ tb := tb_of 313 (by decide +kernel) rfl
set_option maxRecDepth 20000 in
theorem tw_314 : Cond.code ⟨"StateExplorer$Walk", "noteDoubt", "(II)V"⟩ prog_5_method_6_code 3 (none : Option Jvm.ClassFile.FieldType) ∈ tb := tb_of 314 rfl rfl
set_option maxRecDepth 20000 in
theorem tw_318 : Cond.code ⟨"StateExplorer$Partition", "split", "(LStateExplorer$Net;LStateExplorer$Table;LStateExplorer$Walk;)V"⟩ prog_3_method_2_code 7 (none : Option Jvm.ClassFile.FieldType) ∈ tb := tb_of 318 rfl rfl
theorem tw_319 : Cond.methodLink "StateExplorer$Partition" 25 ⟨"StateExplorer$Net", "stateTotal", "()I"⟩ ∈ tb := tb_of 319 (by decide +kernel) rfl
theorem tw_320 : Cond.methodLink "StateExplorer$Partition" 31 ⟨"StateExplorer$Partition", "splitOnce", "(LStateExplorer$Net;LStateExplorer$Table;LStateExplorer$Walk;)I"⟩ ∈ tb := tb_of 320 (by decide +kernel) rfl
theorem tw_322 : Cond.instanceMethod ⟨"StateExplorer$Partition", "splitOnce", "(LStateExplorer$Net;LStateExplorer$Table;LStateExplorer$Walk;)I"⟩ ∈ tb := tb_of 322 (by decide +kernel) rfl
set_option maxRecDepth 20000 in
theorem tw_323 : Cond.code ⟨"StateExplorer$Partition", "splitOnce", "(LStateExplorer$Net;LStateExplorer$Table;LStateExplorer$Walk;)I"⟩ prog_3_method_3_code 7 (some .int) ∈ tb := tb_of 323 rfl rfl
theorem tw_324 : Cond.methodLink "StateExplorer$Partition" 40 ⟨"StateExplorer$Partition", "place", "(LStateExplorer$Net;LStateExplorer$Table;I)I"⟩ ∈ tb := tb_of 324 (by decide +kernel) rfl
theorem tw_326 : Cond.instanceMethod ⟨"StateExplorer$Partition", "place", "(LStateExplorer$Net;LStateExplorer$Table;I)I"⟩ ∈ tb := tb_of 326 (by decide +kernel) rfl
set_option maxRecDepth 20000 in
theorem tw_327 : Cond.code ⟨"StateExplorer$Partition", "place", "(LStateExplorer$Net;LStateExplorer$Table;I)I"⟩ prog_3_method_4_code 7 (some .int) ∈ tb := tb_of 327 rfl rfl
theorem tw_328 : Cond.methodLink "StateExplorer$Partition" 50 ⟨"StateExplorer$Partition", "looksAlike", "(LStateExplorer$Net;LStateExplorer$Table;II)Z"⟩ ∈ tb := tb_of 328 (by decide +kernel) rfl
theorem tw_329 : Cond.static ⟨"StateExplorer$Partition", "looksAlike", "(LStateExplorer$Net;LStateExplorer$Table;II)Z"⟩ ∈ tb := tb_of 329 (by decide +kernel) rfl
set_option maxRecDepth 20000 in
theorem tw_330 : Cond.code ⟨"StateExplorer$Partition", "looksAlike", "(LStateExplorer$Net;LStateExplorer$Table;II)Z"⟩ prog_3_method_5_code 8 (some .boolean) ∈ tb := tb_of 330 rfl rfl
theorem tw_331 : Cond.methodLink "StateExplorer$Partition" 57 ⟨"StateExplorer$Table", "settledIn", "(I)I"⟩ ∈ tb := tb_of 331 (by decide +kernel) rfl
theorem tw_332 : Cond.methodLink "StateExplorer$Partition" 69 ⟨"StateExplorer$Table", "onesIn", "(II)I"⟩ ∈ tb := tb_of 332 (by decide +kernel) rfl
theorem tw_333 : Cond.instanceMethod ⟨"StateExplorer$Table", "onesIn", "(II)I"⟩ ∈ tb := tb_of 333 (by decide +kernel) rfl
theorem tw_334 : Cond.selects "StateExplorer$Table" ⟨"StateExplorer$Table", "onesIn", "(II)I"⟩ ⟨"StateExplorer$Table", "onesIn", "(II)I"⟩ ∈ tb := tb_of 334 (by decide +kernel) rfl
set_option maxRecDepth 20000 in
theorem tw_335 : Cond.code ⟨"StateExplorer$Table", "onesIn", "(II)I"⟩ prog_4_method_13_code 3 (some .int) ∈ tb := tb_of 335 rfl rfl
theorem tw_336 : Cond.methodLink "StateExplorer$Partition" 54 ⟨"StateExplorer$Partition", "goesAlike", "(LStateExplorer$Net;LStateExplorer$Table;II)Z"⟩ ∈ tb := tb_of 336 (by decide +kernel) rfl
theorem tw_338 : Cond.instanceMethod ⟨"StateExplorer$Partition", "goesAlike", "(LStateExplorer$Net;LStateExplorer$Table;II)Z"⟩ ∈ tb := tb_of 338 (by decide +kernel) rfl
set_option maxRecDepth 20000 in
theorem tw_339 : Cond.code ⟨"StateExplorer$Partition", "goesAlike", "(LStateExplorer$Net;LStateExplorer$Table;II)Z"⟩ prog_3_method_6_code 7 (some .boolean) ∈ tb := tb_of 339 rfl rfl
theorem tw_340 : Cond.methodLink "StateExplorer$Partition" 73 ⟨"StateExplorer$Net", "choiceTotal", "()I"⟩ ∈ tb := tb_of 340 (by decide +kernel) rfl
theorem tw_341 : Cond.methodLink "StateExplorer$Partition" 76 ⟨"StateExplorer$Partition", "nameOfNext", "(LStateExplorer$Table;II)I"⟩ ∈ tb := tb_of 341 (by decide +kernel) rfl
theorem tw_343 : Cond.instanceMethod ⟨"StateExplorer$Partition", "nameOfNext", "(LStateExplorer$Table;II)I"⟩ ∈ tb := tb_of 343 (by decide +kernel) rfl
set_option maxRecDepth 20000 in
theorem tw_344 : Cond.code ⟨"StateExplorer$Partition", "nameOfNext", "(LStateExplorer$Table;II)I"⟩ prog_3_method_7_code 5 (some .int) ∈ tb := tb_of 344 rfl rfl
theorem tw_345 : Cond.methodLink "StateExplorer$Partition" 80 ⟨"StateExplorer$Table", "nextOf", "(II)I"⟩ ∈ tb := tb_of 345 (by decide +kernel) rfl
theorem tw_346 : Cond.methodLink "StateExplorer$Partition" 44 ⟨"java/lang/System", "arraycopy", "(Ljava/lang/Object;ILjava/lang/Object;II)V"⟩ ∈ tb := tb_of 346 (by decide +kernel) rfl
theorem tw_347 : Cond.static ⟨"java/lang/System", "arraycopy", "(Ljava/lang/Object;ILjava/lang/Object;II)V"⟩ ∈ tb := tb_of 347 (by decide +kernel) rfl
theorem tw_348 : Cond.native ⟨"java/lang/System", "arraycopy", "(Ljava/lang/Object;ILjava/lang/Object;II)V"⟩ ∈ tb := tb_of 348 (by decide +kernel) rfl
set_option maxRecDepth 20000 in
theorem tw_352 : Cond.code ⟨"StateExplorer", "count", "(I)I"⟩ prog_1_method_15_code 2 (some .int) ∈ tb := tb_of 352 rfl rfl
theorem tw_354 : Cond.instanceMethod ⟨"StateExplorer$Net", "feedTotal", "()I"⟩ ∈ tb := tb_of 354 (by decide +kernel) rfl
theorem tw_355 : Cond.selects "StateExplorer$Net" ⟨"StateExplorer$Net", "feedTotal", "()I"⟩ ⟨"StateExplorer$Net", "feedTotal", "()I"⟩ ∈ tb := tb_of 355 (by decide +kernel) rfl
set_option maxRecDepth 20000 in
theorem tw_356 : Cond.code ⟨"StateExplorer$Net", "feedTotal", "()I"⟩ prog_2_method_3_code 1 (some .int) ∈ tb := tb_of 356 rfl rfl
set_option maxRecDepth 20000 in
theorem tw_360 : Cond.code ⟨"StateExplorer$Walk", "greatestDistance", "()I"⟩ prog_5_method_9_code 1 (some .int) ∈ tb := tb_of 360 rfl rfl
set_option maxRecDepth 20000 in
theorem tw_368 : Cond.code ⟨"StateExplorer", "gate", "(I)I"⟩ prog_1_method_2_code 2 (some .int) ∈ tb := tb_of 368 rfl rfl
set_option maxRecDepth 20000 in
theorem tw_440 : Cond.code ⟨"StateExplorer$Net", "isFullFor", "(I)Z"⟩ prog_2_method_7_code 2 (some .boolean) ∈ tb := tb_of 440 rfl rfl
set_option maxRecDepth 20000 in
theorem tw_444 : Cond.code ⟨"StateExplorer$Net", "addGate", "(I)I"⟩ prog_2_method_8_code 3 (some .int) ∈ tb := tb_of 444 rfl rfl
set_option maxRecDepth 20000 in
theorem tw_453 : Cond.code ⟨"StateExplorer", "feed", "(IIZ)I"⟩ prog_1_method_3_code 4 (some .int) ∈ tb := tb_of 453 rfl rfl
set_option maxRecDepth 20000 in
theorem tw_457 : Cond.code ⟨"StateExplorer", "requireGate", "(I)V"⟩ prog_1_method_17_code 2 (none : Option Jvm.ClassFile.FieldType) ∈ tb := tb_of 457 rfl rfl
set_option maxRecDepth 20000 in
theorem tw_477 : Cond.code ⟨"StateExplorer$Net", "takesFeed", "(I)Z"⟩ prog_2_method_10_code 2 (some .boolean) ∈ tb := tb_of 477 rfl rfl
theorem tw_478 : Cond.methodLink "StateExplorer$Net" 51 ⟨"StateExplorer$Net", "feedsOf", "(I)I"⟩ ∈ tb := tb_of 478 (by decide +kernel) rfl
theorem tw_479 : Cond.instanceMethod ⟨"StateExplorer$Net", "feedsOf", "(I)I"⟩ ∈ tb := tb_of 479 (by decide +kernel) rfl
theorem tw_480 : Cond.selects "StateExplorer$Net" ⟨"StateExplorer$Net", "feedsOf", "(I)I"⟩ ⟨"StateExplorer$Net", "feedsOf", "(I)I"⟩ ∈ tb := tb_of 480 (by decide +kernel) rfl
set_option maxRecDepth 20000 in
theorem tw_481 : Cond.code ⟨"StateExplorer$Net", "feedsOf", "(I)I"⟩ prog_2_method_9_code 2 (some .int) ∈ tb := tb_of 481 rfl rfl
set_option maxRecDepth 20000 in
theorem tw_501 : Cond.code ⟨"StateExplorer$Net", "addFeed", "(IIZ)I"⟩ prog_2_method_11_code 7 (some .int) ∈ tb := tb_of 501 rfl rfl
theorem tw_502 : Cond.methodLink "StateExplorer$Net" 54 ⟨"StateExplorer$Net", "feedTotal", "()I"⟩ ∈ tb := tb_of 502 (by decide +kernel) rfl
theorem tw_503 : Cond.methodLink "StateExplorer$Net" 57 ⟨"java/lang/System", "arraycopy", "(Ljava/lang/Object;ILjava/lang/Object;II)V"⟩ ∈ tb := tb_of 503 (by decide +kernel) rfl
set_option maxRecDepth 20000 in
theorem tw_510 : Cond.code ⟨"StateExplorer", "output", "(I)I"⟩ prog_1_method_4_code 2 (some .int) ∈ tb := tb_of 510 rfl rfl
set_option maxRecDepth 20000 in
theorem tw_514 : Cond.code ⟨"StateExplorer$Net", "addOutput", "(I)I"⟩ prog_2_method_12_code 2 (some .int) ∈ tb := tb_of 514 rfl rfl
set_option maxRecDepth 20000 in
theorem tw_521 : Cond.code ⟨"StateExplorer", "distance", "(I)I"⟩ prog_1_method_7_code 2 (some .int) ∈ tb := tb_of 521 rfl rfl
set_option maxRecDepth 20000 in
theorem tw_525 : Cond.code ⟨"StateExplorer", "requireExplored", "()V"⟩ prog_1_method_16_code 1 (none : Option Jvm.ClassFile.FieldType) ∈ tb := tb_of 525 rfl rfl
set_option maxRecDepth 20000 in
theorem tw_530 : Cond.code ⟨"StateExplorer", "requireState", "(I)V"⟩ prog_1_method_18_code 2 (none : Option Jvm.ClassFile.FieldType) ∈ tb := tb_of 530 rfl rfl
set_option maxRecDepth 20000 in
theorem tw_539 : Cond.code ⟨"StateExplorer", "way", "(II)I"⟩ prog_1_method_8_code 3 (some .int) ∈ tb := tb_of 539 rfl rfl
set_option maxRecDepth 20000 in
theorem tw_544 : Cond.code ⟨"StateExplorer$Walk", "stepOfWay", "(II)I"⟩ prog_5_method_7_code 6 (some .int) ∈ tb := tb_of 544 rfl rfl
set_option maxRecDepth 20000 in
theorem tw_551 : Cond.code ⟨"StateExplorer", "many", "(I)I"⟩ prog_1_method_9_code 2 (some .int) ∈ tb := tb_of 551 rfl rfl
set_option maxRecDepth 20000 in
theorem tw_555 : Cond.code ⟨"StateExplorer$Walk", "reachedAt", "(I)I"⟩ prog_5_method_8_code 4 (some .int) ∈ tb := tb_of 555 rfl rfl
set_option maxRecDepth 20000 in
theorem tw_562 : Cond.code ⟨"StateExplorer", "next", "(II)I"⟩ prog_1_method_10_code 3 (some .int) ∈ tb := tb_of 562 rfl rfl
set_option maxRecDepth 20000 in
theorem tw_572 : Cond.code ⟨"StateExplorer", "doubt", "(I)I"⟩ prog_1_method_11_code 2 (some .int) ∈ tb := tb_of 572 rfl rfl
set_option maxRecDepth 20000 in
theorem tw_580 : Cond.code ⟨"StateExplorer", "always", "(I)I"⟩ prog_1_method_12_code 4 (some .int) ∈ tb := tb_of 580 rfl rfl
set_option maxRecDepth 20000 in
theorem tw_584 : Cond.code ⟨"StateExplorer$Walk", "isEver", "(LStateExplorer$Table;II)Z"⟩ prog_5_method_10_code 9 (some .boolean) ∈ tb := tb_of 584 rfl rfl
theorem tw_585 : Cond.constantLong "StateExplorer$Walk" 88 (-1) ∈ tb := tb_of 585 (by decide +kernel) rfl
set_option maxRecDepth 20000 in
theorem tw_592 : Cond.code ⟨"StateExplorer", "isSame", "(II)Z"⟩ prog_1_method_13_code 3 (some .boolean) ∈ tb := tb_of 592 rfl rfl
set_option maxRecDepth 20000 in
theorem tw_596 : Cond.code ⟨"StateExplorer$Walk", "everDiffer", "(LStateExplorer$Table;II)Z"⟩ prog_5_method_11_code 7 (some .boolean) ∈ tb := tb_of 596 rfl rfl
set_option maxRecDepth 20000 in
theorem tw_603 : Cond.code ⟨"StateExplorer", "group", "(I)I"⟩ prog_1_method_14_code 2 (some .int) ∈ tb := tb_of 603 rfl rfl
theorem inNet : ∀ w ∈ wsNet0, w ∈ tb := fun w h => List.mem_filter.mpr ⟨(show ∀ w ∈ wsNet0, w ∈ lw_tbl by decide +kernel) w h, (show ∀ w ∈ wsNet0, goodWord w = true by decide +kernel) w h⟩
theorem inPar : ∀ w ∈ wsPar0, w ∈ tb := fun w h => List.mem_filter.mpr ⟨(show ∀ w ∈ wsPar0, w ∈ lw_tbl by decide +kernel) w h, (show ∀ w ∈ wsPar0, goodWord w = true by decide +kernel) w h⟩
theorem inTab : ∀ w ∈ wsTab0, w ∈ tb := fun w h => List.mem_filter.mpr ⟨(show ∀ w ∈ wsTab0, w ∈ lw_tbl by decide +kernel) w h, (show ∀ w ∈ wsTab0, goodWord w = true by decide +kernel) w h⟩
theorem inWlk : ∀ w ∈ wsWlk0, w ∈ tb := fun w h => List.mem_filter.mpr ⟨(show ∀ w ∈ wsWlk0, w ∈ lw_tbl by decide +kernel) w h, (show ∀ w ∈ wsWlk0, goodWord w = true by decide +kernel) w h⟩
theorem inExp : ∀ w ∈ wsExp0, w ∈ tb := fun w h => List.mem_filter.mpr ⟨(show ∀ w ∈ wsExp0, w ∈ lw_tbl by decide +kernel) w h, (show ∀ w ∈ wsExp0, goodWord w = true by decide +kernel) w h⟩
theorem inMod : ∀ w ∈ wsMod0, w ∈ tb := fun w h => List.mem_filter.mpr ⟨(show ∀ w ∈ wsMod0, w ∈ lw_tbl by decide +kernel) w h, (show ∀ w ∈ wsMod0, goodWord w = true by decide +kernel) w h⟩
def sx_nest : List (String × Nat × MethodName × String) := [("StateExplorer", 9, ⟨"StateExplorer$Net", "<init>", "()V"⟩, "StateExplorer"), ("StateExplorer", 18, ⟨"StateExplorer$Table", "<init>", "()V"⟩, "StateExplorer"), ("StateExplorer", 25, ⟨"StateExplorer$Walk", "<init>", "()V"⟩, "StateExplorer"), ("StateExplorer", 32, ⟨"StateExplorer$Partition", "<init>", "()V"⟩, "StateExplorer"), ("StateExplorer$Net", 47, ⟨"StateExplorer", "wordOf", "(I)I"⟩, "StateExplorer"), ("StateExplorer$Table", 92, ⟨"StateExplorer", "wordOf", "(I)I"⟩, "StateExplorer"), ("StateExplorer$Table", 96, ⟨"StateExplorer", "shiftOf", "(I)I"⟩, "StateExplorer"), ("StateExplorer$Walk", 68, ⟨"StateExplorer", "wordOf", "(I)I"⟩, "StateExplorer"), ("StateExplorer$Walk", 77, ⟨"StateExplorer", "shiftOf", "(I)I"⟩, "StateExplorer")]
theorem sx_n0 : ("StateExplorer", 9, ⟨"StateExplorer$Net", "<init>", "()V"⟩, "StateExplorer") ∈ sx_nest := List.mem_of_getElem? (i := 0) rfl
theorem sx_n1 : ("StateExplorer", 18, ⟨"StateExplorer$Table", "<init>", "()V"⟩, "StateExplorer") ∈ sx_nest := List.mem_of_getElem? (i := 1) rfl
theorem sx_n2 : ("StateExplorer", 25, ⟨"StateExplorer$Walk", "<init>", "()V"⟩, "StateExplorer") ∈ sx_nest := List.mem_of_getElem? (i := 2) rfl
theorem sx_n3 : ("StateExplorer", 32, ⟨"StateExplorer$Partition", "<init>", "()V"⟩, "StateExplorer") ∈ sx_nest := List.mem_of_getElem? (i := 3) rfl
theorem sx_n4 : ("StateExplorer$Net", 47, ⟨"StateExplorer", "wordOf", "(I)I"⟩, "StateExplorer") ∈ sx_nest := List.mem_of_getElem? (i := 4) rfl
theorem sx_n5 : ("StateExplorer$Table", 92, ⟨"StateExplorer", "wordOf", "(I)I"⟩, "StateExplorer") ∈ sx_nest := List.mem_of_getElem? (i := 5) rfl
theorem sx_n6 : ("StateExplorer$Table", 96, ⟨"StateExplorer", "shiftOf", "(I)I"⟩, "StateExplorer") ∈ sx_nest := List.mem_of_getElem? (i := 6) rfl
theorem sx_n7 : ("StateExplorer$Walk", 68, ⟨"StateExplorer", "wordOf", "(I)I"⟩, "StateExplorer") ∈ sx_nest := List.mem_of_getElem? (i := 7) rfl
theorem sx_n8 : ("StateExplorer$Walk", 77, ⟨"StateExplorer", "shiftOf", "(I)I"⟩, "StateExplorer") ∈ sx_nest := List.mem_of_getElem? (i := 8) rfl
def sx_decl : List MethodName := [⟨"java/lang/RuntimeException", "<init>", "(Ljava/lang/String;)V"⟩, ⟨"java/lang/Exception", "<init>", "(Ljava/lang/String;)V"⟩, ⟨"java/lang/Throwable", "<init>", "(Ljava/lang/String;)V"⟩]
def sx_cast : List (String × String) := [("java/lang/IllegalArgumentException", "java/lang/IllegalArgumentException"), ("java/lang/IllegalStateException", "java/lang/IllegalStateException"), ("java/lang/IndexOutOfBoundsException", "java/lang/IndexOutOfBoundsException")]
def sx_noc : List (String × String) := [("java/lang/IllegalArgumentException", "java/lang/IllegalStateException"), ("java/lang/IllegalArgumentException", "java/lang/IndexOutOfBoundsException"), ("java/lang/IllegalStateException", "java/lang/IllegalArgumentException"), ("java/lang/IllegalStateException", "java/lang/IndexOutOfBoundsException"), ("java/lang/IndexOutOfBoundsException", "java/lang/IllegalArgumentException"), ("java/lang/IndexOutOfBoundsException", "java/lang/IllegalStateException")]
def sx_strs : List (String × Nat × String) := [("StateExplorer", 43, "a sort is 0 to 3"), ("StateExplorer", 169, "there is no such gate"), ("StateExplorer", 65, "this gate takes no feed, or no more"), ("StateExplorer", 167, "nothing is explored"), ("StateExplorer", 174, "there is no such state"), ("StateExplorer", 116, "steps are counted from 0 on"), ("StateExplorer", 126, "a choice is 0 to 15"), ("StateExplorer", 134, "a doubt is asked for by 0 to 2")]
def sx_E : Nat → String := fun k => match k with
  | 0 => "java/lang/IllegalArgumentException"
  | 1 => "java/lang/IllegalStateException"
  | _ => "java/lang/IndexOutOfBoundsException"
end
section
/-! PURE ROWS of the functions that the program lays (m_.., L_..): a guard, branches, binds -/
/-- goes on where c holds, else none -/
noncomputable def gd {α : Type} (c : Prop) (a : Option α) : Option α := @ite (Option α) c (Classical.propDecidable c) a none
theorem gd_el {α : Type} {c : Prop} {a : Option α} {r : α} (h : gd c a = some r) : c ∧ a = some r := by
  by_cases hc : c
  · refine ⟨hc, ?_⟩
    rw [gd, if_pos hc] at h
    exact h
  · rw [gd, if_neg hc] at h
    cases h
theorem gd_in {α : Type} {c : Prop} {a : Option α} (hc : c) : gd c a = a := by
  rw [gd, if_pos hc]
theorem sx_pos {α : Type} {c : Prop} {i : Decidable c} {a b : Option α} {r : α} (hc : c) (h : @ite (Option α) c i a b = some r) : a = some r := by
  rw [if_pos hc] at h; exact h
theorem sx_neg {α : Type} {c : Prop} {i : Decidable c} {a b : Option α} {r : α} (hc : ¬ c) (h : @ite (Option α) c i a b = some r) : b = some r := by
  rw [if_neg hc] at h; exact h
theorem sx_bind {α β : Type} {o : Option α} {f : α → Option β} {r : β} (h : o.bind f = some r) : ∃ a, o = some a ∧ f a = some r := by
  cases o with
  | none => cases h
  | some a => exact ⟨a, rfl, h⟩
/-- more than any loop's rounds -/
def fu : Nat := 100000
theorem sx_z0 : narrow .boolean (.int 0) = .int 0 := rfl
theorem sx_z1 : narrow .boolean (.int 1) = .int 1 := rfl
def sx_zok (v : Int32) : Prop := narrow .boolean (.int v) = .int v
/-! WHAT IS CARRIED: nest mates' links, the static arrays -/
def sx_IW (j : Nat) : Int64 := ([-6148914691236517206, -3689348814741910324, -1085102592571150096, -71777214294589696] : List Int64).getD j 0
def sx_LW (j : Nat) : Int64 := ([-281470681808896, -4294967296] : List Int64).getD j 0
/-- where a static reference lies, and that it holds a reference or null -/
def sx_Q (C n d : String) (A : Nat → Prop) (U : State) (H : Heap) : Prop :=
  ∃ (c : ClassId) (k : Class) (i : Nat) (f : Field) (a : Nat) (cell : Cell) (v : Value), (U.vm.findClass C = some c ∧ U.fieldFound? C n d = some (c, k, i, f) ∧ f.isStatic = true ∧ k.statics = some a ∧ k.staticTypes[f.slot]? = some f.type) ∧ (H[a]? = some cell ∧ ¬ A a) ∧ cell.vm.isStatics = true ∧ cell.cls = c ∧ f.slot < cell.slots.size ∧ cell.slots[f.slot]? = some v ∧ v.isRef = true
theorem sx_Q.go {C n d : String} {A B : Nat → Prop} {s U : State} {H H1 : Heap} (h : sx_Q C n d A s H) (hvm : s.vm.Alike U.vm) (hk : ∀ q : Nat, q < H.size → ¬ A q → H1[q]? = H[q]?) (hB : ∀ q, B q → A q) : sx_Q C n d B U H1 := by
  obtain ⟨c, k, i, f, a, cell, v, ⟨h1, h2, h3, h4, h5⟩, ⟨h6, h7⟩, h8⟩ := h
  obtain ⟨k', hi', he⟩ := State.fieldFound?_setVm hvm h2
  exact ⟨c, k', i, f, a, cell, v, ⟨by rw [hvm.findClass]; exact h1, hi', h3, by rw [he]; exact h4, by rw [he]; exact h5⟩, ⟨by rw [hk a (Array.getElem?_eq_some_iff.mp h6).1 h7]; exact h6, fun z => h7 (hB a z)⟩, h8⟩
theorem sx_Q.word {C n d : String} {A : Nat → Prop} {s : State} {args : Array Value} (h : sx_Q C n d A s s.heap) : (Cond.laysStatic C n d).before args s = true ∧ (Cond.isRef (.static C n d)).before args s = true := by
  obtain ⟨c, k, i, f, a, cell, v, ⟨h1, h2, h3, h4, h5⟩, ⟨h6, -⟩, h8, h9, h10, h11, h12⟩ := h
  refine ⟨Cond.laysStatic_of h1 h2 h3 h4 h6 h8 h9 h10 h5, ?_⟩
  have he : (Term.static C n d).eval args s none [] s = some v := by simp [Term.eval, State.fieldNamed?, h2, h3, h4, h6, h8, h11]
  simp only [Cond.before, Cond.holds, Cond.value, he]
  cases v <;> simp_all [Value.isRef]
theorem sx_Q.of {C n d : String} {A : Nat → Prop} {s : State} {args : Array Value} (hl : (Cond.laysStatic C n d).before args s = true) (hini : (Cond.initialized C).before args s = true) (hr : (Cond.isRef (.static C n d)).before args s = true) (hA : ∀ a : Nat, a < s.heap.size → ¬ A a) : sx_Q C n d A s s.heap := by
  obtain ⟨c, k, i, f, a, cell, h1, h2, h3, h4, h5, h6, h7, h8, h9⟩ := Cond.laysStatic_spec hl
  have key : ∀ v : Value, va_Z C n d v A s s.heap → v.isRef = true → sx_Q C n d A s s.heap := by
    intro v hz hv
    obtain ⟨cf, kf, fi, f2, a2, cell2, g1, g2, g3, g4, g5, g6, g7, g8⟩ := hz
    cases Option.some.inj (h2.symm.trans g1)
    cases Option.some.inj (h4.symm.trans g4)
    cases Option.some.inj (h5.symm.trans g5)
    exact ⟨c, k, i, f, a, cell, v, ⟨h1, h2, h3, h4, h9⟩, ⟨h5, g8⟩, h6, h7, h8, g7, hv⟩
  rcases va_Zqof hl hini hr hA with h | ⟨t, h⟩
  · exact key _ h rfl
  · exact key _ h rfl
def sx_X (t1 t2 : Nat) (A : Nat → Prop) (U : State) (H : Heap) : Prop :=
  (∀ q ∈ sx_nest, va_Nw (.methodLinkNest q.1 q.2.1 q.2.2.1 q.2.2.2) U) ∧
  va_Z "StateExplorer$Table" "INPUT_WORDS" "[J" (.ref t1) A U H ∧ va_T .long t1 4 (fun j => .long (sx_IW j)) A U H ∧
  va_Z "StateExplorer$Table" "LATCH_WORDS" "[J" (.ref t2) A U H ∧ va_T .long t2 2 (fun j => .long (sx_LW j)) A U H ∧
  (∀ x ∈ sx_decl, va_Nw (.declares x) U) ∧ (∀ q ∈ sx_cast, va_Nw (.castable q.1 q.2) U) ∧ (∀ q ∈ sx_strs, ∃ a, vk_R q.1 q.2.1 q.2.2 a U) ∧
  sx_Q Bundle.tN "UNASSIGNED_STACK" Bundle.steD A U H ∧ sx_Q Bundle.tN "SUPPRESSED_SENTINEL" Bundle.listD A U H ∧ ∀ q ∈ sx_noc, va_Nc q.1 q.2 U
theorem sx_X.calling {t1 t2 : Nat} {A : Nat → Prop} {U : State} {g : JFrame} {mk : MethodId} {a : Array Value} (h : sx_X t1 t2 A U U.heap) : sx_X t1 t2 A (U.calling g mk a) (U.calling g mk a).heap := by
  obtain ⟨h1, h2, h3, h4, h5, h6, h7, h8, h9, h10, h11⟩ := h
  have hv : U.vm.Alike (U.calling g mk a).vm := Vm.Alike.refl U.vm
  exact ⟨fun q hq => va_Nw.same rfl rfl (h1 q hq), va_Z.moved hv h2, va_T.moved hv h3, va_Z.moved hv h4, va_T.moved hv h5, fun q hq => va_Nw.same rfl rfl (h6 q hq), fun q hq => va_Nw.same rfl rfl (h7 q hq),
    fun q hq => (h8 q hq).elim fun z hz => ⟨z, vk_R.same rfl hz⟩, h9.go hv (fun _ _ _ => rfl) (fun _ z => z), h10.go hv (fun _ _ _ => rfl) (fun _ z => z), fun q hq => va_Nc.moved hv (h11 q hq)⟩
theorem sx_X.call {t1 t2 : Nat} {A B : Nat → Prop} {s U : State} {H : Heap} {locs : List Loc} (h : sx_X t1 t2 A s s.heap) (hS : va_S A s.heap H locs) (hB : ∀ q, B q → A q) (hU : U.heap = H) (hW : s.WarmedH U.vm) : sx_X t1 t2 B U U.heap := by
  rw [hU]
  obtain ⟨h1, h2, h3, h4, h5, h6, h7, h8, h9, h10, h11⟩ := h
  exact ⟨fun q hq => va_Nw.warmM hW (h1 q hq), va_Z.moved hW.alike ((h2.kept hS.2.1).narrow hB), va_T.moved hW.alike ((h3.kept hS.2.1).narrow hB), va_Z.moved hW.alike ((h4.kept hS.2.1).narrow hB), va_T.moved hW.alike ((h5.kept hS.2.1).narrow hB),
    fun q hq => va_Nw.warmD hW (h6 q hq), fun q hq => va_Nw.warmC hW (h7 q hq), fun q hq => (h8 q hq).elim fun z hz => ⟨z, vk_R.warm hW hz⟩, h9.go hW.alike hS.2.1 hB, h10.go hW.alike hS.2.1 hB, fun q hq => va_Nc.moved hW.alike (h11 q hq)⟩
/-! A METHOD'S START AND END -/
def sx_Pc (D : va_G) (tys : List (ClassId × FieldType)) (t1 t2 : Nat) (ws : va_W) (sz : Nat) (av : List Value) : Array Value → State → Prop :=
  va_Pc av (fun U => U.heap.size = sz ∧ va_P D vwCl ws U.heap ∧ va_K D vwCl tys U ∧ va_D (fun _ => True) ws ∧ sx_X t1 t2 (va_A ws sz) U U.heap)
def sx_W (D : va_G) (tys : List (ClassId × FieldType)) (A : Nat → Prop) (ws : va_W) (t : State) : Prop := va_P D vwCl ws t.heap ∧ va_K D vwCl tys t ∧ va_D A ws
theorem sx_Wi {D : va_G} {tys : List (ClassId × FieldType)} {A : Nat → Prop} {ws : va_W} {s t : State} {H : Heap} (hP : va_P D vwCl ws H) (hK : va_K D vwCl tys s) (hD : va_D A ws) (ht : t.heap = H) (hvm : s.vm.Alike t.vm) : sx_W D tys A ws t :=
  ⟨by rw [ht]; exact hP, va_K.moved hvm hK, hD⟩
/-- what a walk stands on -/
def sx_C (p : Program) (s : State) (m : MethodId) (args : Array Value) (meth : Method) (c : Code) (cc : ByteArray) (nL : Nat) (own : String) (A : Nat → Prop) (D : va_G) (tys : List (ClassId × FieldType)) (t1 t2 : Nat) : Prop :=
  p.tables.exec = Jvm.exec ∧ c.code = cc ∧ c.maxLocals = nL ∧ s.vm.findClass own = some m.cls ∧ (∀ w ∈ tb, w.before args s = true) ∧ (∀ q : Nat, s.heap.size ≤ q → A q) ∧ va_K D vwCl tys s ∧ meth.locks = false ∧ sx_X t1 t2 A s s.heap
theorem sx_blind {D : va_G} {tys : List (ClassId × FieldType)} {t1 t2 : Nat} {ws : va_W} {sz : Nat} {av : List Value} : FrameBlind (sx_Pc D tys t1 t2 ws sz av) := fun a U g mk q => by
  obtain ⟨q0, q1, qP, qK, qD, qX⟩ := q
  exact ⟨q0, q1, qP, va_K.moved (u := U) (U := U.calling g mk a) (Vm.Alike.refl U.vm) qK, qD, qX.calling⟩
theorem sx_at {D : va_G} {tys : List (ClassId × FieldType)} {t1 t2 : Nat} {A : Nat → Prop} {ws wc : va_W} {s : State} {H : Heap} {locs : List Loc} {av : List Value} (hK : va_K D vwCl tys s) (hX : sx_X t1 t2 A s s.heap) (hS : va_S A s.heap H locs) (hPc : va_P D vwCl wc H) (hDc : va_D A wc) (hFc : ∀ q, va_A wc H.size q → A q) :
    ∀ U : State, U.heap = H → s.WarmedH U.vm → sx_Pc D tys t1 t2 wc H.size av av.toArray U := fun U hU hW =>
  ⟨rfl, by rw [hU], by rw [hU]; exact hPc, va_K.moved hW.alike hK, hDc.weaken (fun _ _ _ _ => trivial), hX.call hS hFc hU hW⟩
theorem sx_pV {D : va_G} {tys : List (ClassId × FieldType)} {t1 t2 : Nat} {A : Nat → Prop} {wc : va_W} {s : State} {H : Heap} {locs : List Loc} {C : String} {b : Addr} {As : List Value} (hK : va_K D vwCl tys s) (hX : sx_X t1 t2 A s s.heap) (hS : va_S A s.heap H locs) (hPc : va_P D vwCl wc H) (hDc : va_D A wc) (hFc : ∀ q, va_A wc H.size q → A q)
    (hr : ∃ cell : Cell, H[b]? = some cell ∧ cell.vm.isStatics = false ∧ s.vm.findClass C = some cell.cls) : PreV s H C b (sx_Pc D tys t1 t2 wc H.size (.ref b :: As)) As :=
  ⟨sx_blind, hr, sx_at (ws := wc) hK hX hS hPc hDc hFc⟩
theorem sx_pS {D : va_G} {tys : List (ClassId × FieldType)} {t1 t2 : Nat} {A : Nat → Prop} {wc : va_W} {s : State} {H : Heap} {locs : List Loc} {As : List Value} (hK : va_K D vwCl tys s) (hX : sx_X t1 t2 A s s.heap) (hS : va_S A s.heap H locs) (hPc : va_P D vwCl wc H) (hDc : va_D A wc) (hFc : ∀ q, va_A wc H.size q → A q) :
    PreS s H (sx_Pc D tys t1 t2 wc H.size As) As :=
  ⟨sx_blind, sx_at (ws := wc) hK hX hS hPc hDc hFc⟩
/-! THE WORDS OF A CALL -/
theorem sx_gC {cd : Cond} (h : cd ∈ tb) : GoodIn tb (cd :: tb) := fun w hw => by
  rcases List.mem_cons.mp hw with rfl | h2
  · exact tb_good _ h
  · exact tb_good _ h2
theorem sx_gV {own C : String} {idx : Nat} {y : MethodName} {cd : Cond} (h1 : Cond.methodLink own idx y ∈ tb) (h2 : Cond.instanceMethod y ∈ tb) (h3 : Cond.selects C y y ∈ tb) (h4 : Cond.initialized C ∈ tb) (h5 : cd ∈ tb) : GoodIn tb (wsV own idx C y (cd :: tb)) := fun w hw => by
  rcases List.mem_append.mp hw with h | h
  · simp only [List.mem_cons, List.not_mem_nil, or_false] at h
    rcases h with rfl | rfl | rfl | rfl
    · exact tb_good _ h1
    · exact tb_good _ h2
    · exact tb_good _ h3
    · exact tb_good _ h4
  · exact sx_gC h5 w h
theorem sx_gS {own : String} {idx : Nat} {y : MethodName} {cd : Cond} (h1 : Cond.methodLink own idx y ∈ tb) (h2 : Cond.static y ∈ tb) (h3 : Cond.initialized y.cls ∈ tb) (h5 : cd ∈ tb) : GoodIn tb (va_wsS own idx y (cd :: tb)) := fun w hw => by
  rcases List.mem_append.mp hw with h | h
  · simp only [List.mem_cons, List.not_mem_nil, or_false] at h
    rcases h with rfl | rfl | rfl
    · exact tb_good _ h1
    · exact tb_good _ h2
    · exact tb_good _ h3
  · exact sx_gC h5 w h
end
section
/-! EXCEPTIONS. A contract speaks of ONE input, whose pure function says whether the method returns or throws; so a method that throws has two contracts: Met (it returns) and sx_Thr (it throws, nothing old has changed). -/
section SXT
variable {p : Program} {l : Launch} {e : Env} {R : Room} {s : State} {m : MethodId} {args : Array Value} {below : List Frame} {meth : Method} {c : Code} {H : Heap} {locs : List Loc} {cells slots : Nat} {Q : State → Prop}
/-- q has been thrown, an object of class E; no old cell has changed -/
def sx_TQ (E : String) (mc ms : Nat) (st : State) (q : Addr) (t : State) : Prop :=
  ∃ ce : Cell, t.heap[q]? = some ce ∧ ce.vm = .none ∧ st.vm.findClass E = some ce.cls ∧ st.WarmedH t.vm ∧ st.sameButNew ({ t with vm := st.vm } : State) [] mc ms
def sx_Thr (l : Launch) (y : MethodName) (ws : List Cond) (rm : Room) (Pc : Array Value → State → Prop) (E : String) (mc ms : Nat) : Prop :=
  MetFree l y (headSpec ws rm) Pc (fun _ _ _ _ _ => True) (fun _ st o t => ∃ q, o = .threw q ∧ sx_TQ E mc ms st q t)
def sx_TZ (below : List Frame) (E : String) (mc ms : Nat) (s : State) : State → Prop := fun t => ∃ q, t.status = .running ∧ Ended t below (.threw q) ∧ sx_TQ E mc ms s q t
theorem sx_thrOf {y : MethodName} {ws ws' : List Cond} {rm : Room} {Pc : Array Value → State → Prop} {E : String} {mc ms : Nat} {cc : ByteArray} {maxL : Nat} {ret : Option FieldType}
    (hy : plainName y.cls = true) (hw : ws = Cond.code y cc maxL ret :: ws')
    (body : ∀ p e s m args below meth c s₁, BodyLoose p l y (headSpec ws rm) cc maxL ret e s m args below meth c s₁ → c.maxLocals = maxL → c.exceptionTable.toList = [] → Pc args s →
      W p l e (headSpec ws rm).room s m args below meth c s.heap [] 0 0 (sx_TZ below E mc ms s) (entryFrame m args maxL)) : sx_Thr l y ws rm Pc E mc ms := by
  have hmem : Cond.code y cc maxL ret ∈ ws := by rw [hw]; exact List.mem_cons_self
  refine MetFree.of_bodyS (code := cc) (maxLocals := maxL) (ret := ret) hy ?_ ?_
  · intro args s m h hn
    obtain ⟨meth, c, h1, h2, h3, h4, h5, h6, -, -⟩ := Cond.code_spec hn (atoms_spec (ws := ws) h _ hmem)
    exact ⟨meth, c, h1, h2, h3, h4, h5, h6⟩
  · intro p e s m args below meth c s₁ B hml hP _
    have hh0 : s₁.heap = s.heap := by rw [B.state]; rfl
    have ht : c.exceptionTable.toList = [] := by
      obtain ⟨meth9, c9, h1, h2, -, -, -, -, h7, -⟩ := Cond.code_spec B.named (atoms_spec (ws := ws) B.pre _ hmem)
      cases Option.some.inj (h1.symm.trans B.method)
      cases Option.some.inj (h2.symm.trans (Stand.of_body B).code)
      rw [Array.isEmpty_iff.mp h7]
    obtain ⟨t, a1, q, b1, b2, b3⟩ := body p e s m args below meth c s₁ B hml ht hP s₁ hh0 (Stand.of_body B)
    exact ⟨t, .threw q, a1, b1, b2, q, rfl, b3⟩
/-- the words of 'throw new E("text")' -/
theorem sx_own {own cls : String} {ic t1 t2 : Nat} {A : Nat → Prop} {names : List String} (hts : ∀ w ∈ tb, w.before args s = true) (hX : sx_X t1 t2 A s s.heap)
    (hg : ∀ w ∈ (Bundle.ownAtoms own ic cls names).filter goodWord, w ∈ tb)
    (hn : ∀ w ∈ (Bundle.ownAtoms own ic cls names).filter (fun w => !goodWord w), w = .laysStatic Bundle.tN "UNASSIGNED_STACK" Bundle.steD ∨ w = .laysStatic Bundle.tN "SUPPRESSED_SENTINEL" Bundle.listD ∨ w = .isRef (.static Bundle.tN "UNASSIGNED_STACK" Bundle.steD) ∨ w = .isRef (.static Bundle.tN "SUPPRESSED_SENTINEL" Bundle.listD) ∨ (∃ x ∈ sx_decl, w = .declares x) ∨ ∃ x ∈ sx_cast, w = .castable x.1 x.2) :
    ∀ w ∈ Bundle.ownAtoms own ic cls names, w.before args s = true := by
  intro w hw
  cases h : goodWord w with
  | true => exact hts w (hg w (List.mem_filter.mpr ⟨hw, h⟩))
  | false =>
    rcases hn w (List.mem_filter.mpr ⟨hw, by rw [h]; rfl⟩) with rfl | rfl | rfl | rfl | ⟨x, hx, rfl⟩ | ⟨x, hx, rfl⟩
    · exact hX.2.2.2.2.2.2.2.2.1.word.1
    · exact hX.2.2.2.2.2.2.2.2.2.1.word.1
    · exact hX.2.2.2.2.2.2.2.2.1.word.2
    · exact hX.2.2.2.2.2.2.2.2.2.1.word.2
    · exact va_Nw.use rfl (hX.2.2.2.2.2.1 x hx)
    · exact va_Nw.use rfl (hX.2.2.2.2.2.2.1 x hx)
/-- 'throw new E("text")', where nothing has been written yet -/
theorem sx_throwS {cc : ByteArray} {pc : Nat} {ls : Array Slot} {rest : List Value} (hx : p.tables.exec = Jvm.exec) (hb : c.code = cc) (hl : l.stackTraces = false) {own cls text : String} {names : List String} {ik is ic mc ms : Nat}
    (hown : s.vm.findClass own = some m.cls) (hcls : Bundle.fit cls = true) (hnames : ∀ n ∈ names, Bundle.fit n = true)
    (hk : (Cond.classLink own ik cls).before args s = true) (hini : (Cond.initialized cls).before args s = true) (hins : (Cond.instantiable cls 6).before args s = true) (hstr : ∃ a, vk_R own is text a s) (hat : ∀ w ∈ Bundle.ownAtoms own ic cls names, w.before args s = true)
    (hsize : ls.size = c.maxLocals)
    (d0 : decode cc pc = .ok (.new ik, 3)) (d3 : decode cc (pc + 3) = .ok (.dup, 1)) (d4 : decode cc (pc + 4) = .ok (.ldc is, 2)) (d6 : decode cc (pc + 6) = .ok (.invokespecial ic, 3)) (d9 : decode cc (pc + 9) = .ok (.athrow, 1))
    (hout : c.exceptionTable.toList = []) (hlocks : meth.locks = false)
    (hRframes : names.length + 3 < R.frames) (hRlocals : (rest.map fun v => v.category).sum + (13 * (names.length + 1) + 43) ≤ R.locals) (hRcells : cells + 1 ≤ R.cells) (hRslots : slots + 6 ≤ R.slots) (hc : cells + 1 ≤ mc) (hs : slots + 6 ≤ ms) :
    W p l e R s m args below meth c s.heap [] cells slots (sx_TZ below cls mc ms s) (F0 m pc ls rest) := by
  refine W.newc hx hb hown hk hins hini rfl d0 hRcells hRslots fun cC kC h1 h2 h3 h4 => ?_
  refine lv_dup hx hb d3 rfl ?_
  obtain ⟨sa, hsa⟩ := hstr
  refine va_ldcS hx hb hown hsa d4 ?_
  intro T hT X
  have htr : e.platform.stackTraces = false := (show e.platform.stackTraces = l.stackTraces by rw [X.admits.platform]).trans hl
  have hfr : T.heap[s.heap.size]? = some { cls := cC, slots := kC.instanceTypes.map defaultValue, vm := .none } := by rw [hT]; simp
  obtain ⟨U, st, u1, u2, u3, u4, ce, u5, u6⟩ := X.ctorThrowS hx htr hown hcls hnames hat (fun x h => nomatch h) h1 h2 hfr (Nat.le_refl _) (msg := .ref sa) rfl
    (g := F0 m (pc + 6) ls (.ref sa :: .ref s.heap.size :: .ref s.heap.size :: rest)) rfl hsize rfl rfl rfl (by rw [hb]; exact d6) (by rw [hb]; exact d9) (fun x h => by rw [hout] at h; cases h) hRframes
    (by show 2 * 0 + (1 + (rest.map fun v => v.category).sum) + (13 * (names.length + 1) + 42) ≤ R.locals; omega) hlocks
  exact ⟨U, st, _, u1, u2, ce, u5, u6.vm, u6.cls, u3, u4.mono hc hs⟩
/-- the method's frame g, with q thrown over it -/
def sx_V (p : Program) (l : Launch) (e : Env) (R : Room) (s : State) (m : MethodId) (args : Array Value) (below : List Frame) (meth : Method) (c : Code) (H : Heap) (locs : List Loc) (cells slots : Nat) (Q : State → Prop) (g : JFrame) (q : Addr) : Prop :=
  ∀ T : State, T.heap = H → Stand p l e R s m args below meth c T locs cells slots → ∃ t, Steps p.tables e below ((T.setTop g).pushFrame (.throwing q)) t ∧ Q t
/-- no old cell differs -/
theorem sx_old {s U : State} {k n : Nat} (h : s.sameButNew U [] k n) : s.heap.size ≤ U.heap.size ∧ ∀ q : Nat, q < s.heap.size → U.heap[q]? = s.heap[q]? := by
  obtain ⟨-, h2, -, -, -, h6⟩ := h
  refine ⟨h2, fun q hq => ?_⟩
  have e0 := Array.getElem?_eq_getElem hq
  obtain ⟨c9, e1, e2, -, e4⟩ := h6 q _ e0
  have hs : c9.slots = (s.heap[q]).slots := Array.ext_getElem? fun i => e4 i (fun h => nomatch h)
  rw [hs] at e2
  rw [e1, e0, e2]
/-- a call of a method that throws -/
theorem sx_callT {y : MethodName} {bytes cc : ByteArray} {maxL nL mc ms n index pc : Nat} {ret : Option FieldType} {ws : List Cond} {rm : Room} {Pc : Array Value → State → Prop} {E : String} {Ts : List Cond} {own C : String} {b : Addr} {As rest st0 : List Value} {ls : Array Slot}
    (S : CallFix p m c cc nL s args Ts own) (hM : sx_Thr l y ws rm Pc E mc ms) (cw : CallW R s args own C index y bytes maxL ret ws rm mc ms n) (hp : PreV s H C b Pc As)
    (hn : As.length = n) (hsize : ls.size = nL) (hstack : st0 = As.reverse ++ .ref b :: rest) (hW : 2 * (F0 m pc ls st0).monitorRoom + (rest.map fun v => v.category).sum ≤ 8) (hdg : decode cc pc = .ok (.invokevirtual index, 3)) (hf : cells + mc ≤ R.cells ∧ slots + ms ≤ R.slots)
    (kx : ∀ (ce : Cell) (q : Addr) (H1 : Heap), H.size ≤ H1.size → (∀ a : Nat, a < H.size → H1[a]? = H[a]?) → H1[q]? = some ce → ce.vm = .none → s.vm.findClass E = some ce.cls → sx_V p l e R s m args below meth c H1 locs (cells + mc) (slots + ms) Q (F0 m pc ls rest) q) :
    W p l e R s m args below meth c H locs cells slots Q (F0 m pc ls st0) := by
  obtain ⟨⟨hrc, hrs, hfr, hlo, hws, hcm, hcode, hini, hy, hlen, hl⟩, hin, hse⟩ := cw
  obtain ⟨hx, hb, hml, ho, -⟩ := S
  obtain ⟨hbl, ⟨cellB, hcB, hoB, hclB⟩, hPc⟩ := hp
  intro T hT X
  obtain ⟨mk, methM, hnamed, hmethM, hstM, habM⟩ := Cond.instanceMethod_spec hin
  obtain ⟨methM', cM, hmethM', hcM, -, hlM, -, -, -, hsigM⟩ := Cond.code_spec hnamed hcode
  cases hmethM.symm.trans hmethM'
  obtain ⟨c2, r2, m2, q1, q2, q3, q4, kP, hkP, hkPi⟩ := Cond.selects_spec hse
  cases hclB.symm.trans q1
  cases (State.methodFound?_of_named hnamed hy).symm.trans q2
  cases hnamed.symm.trans q3
  have hselP : selectMethod e.platform s.vm cellB.cls mk = .method mk := by rw [Launch.admits_selectMethod X.admits]; exact q4
  obtain ⟨vm₁, X₁, hstep₁⟩ := X.invokevirtual hx ho hl hnamed hmethM hstM hkP hkPi hy (a := b) (cell := cellB) (by rw [hT]; exact hcB)
    (fun z h => by rw [h] at hoB; cases hoB) hselP hmethM habM hkP hkPi (g := F0 m pc ls st0) rfl (argsL := As) (rest := rest) (hn.trans (hlen _ hsigM)) hstack (by rw [hb]; exact hdg)
  -- the callee, from the state behind the linking
  generalize hU : T.setVm vm₁ = U at X₁ hstep₁
  have hUh : U.heap = H := by rw [← hU]; exact hT
  have hpre : (headSpec ws rm).pre.before (Value.ref b :: As).toArray U = true := atoms_intro fun w hw => hws w hw _ _ X₁.warmed
  have hnU : U.methodNamed? y = some mk := X₁.named hnamed
  have hcU : (Cond.code y bytes maxL ret).before (Value.ref b :: As).toArray U = true := hws _ hcm _ _ X₁.warmed
  obtain ⟨methY, cY, hmY, hcY, -, hlY, -, -, -, -⟩ := Cond.code_spec hnU hcU
  obtain ⟨kY, hkY, -⟩ := className_of_methodNamed hnU
  have hiU : (Cond.initialized y.cls).before (Value.ref b :: As).toArray U = true := word_at X₁.warmed (Or.inl (by first | rfl | simp [Cond.onTables, Cond.keeps, Cond.steady])) hini
  have hinitY : kY.init = .initialized := Cond.initialized_spec (findClass_of_methodNamed hnU) hkY hiU
  have hat : At U (F0 m pc ls rest).method c below := X₁.here
  have hdg' : decode c.code (F0 m pc ls rest).pc = .ok (.invokevirtual index, 3) := by rw [hb]; exact hdg
  have hWr : 2 * (F0 m pc ls rest).monitorRoom + ((F0 m pc ls rest).stack.map fun v => v.category).sum ≤ 8 := hW
  have happ : (headSpec ws rm).appliesLoose y e.platform (U.calling (F0 m pc ls rest) mk (Value.ref b :: As).toArray) = true :=
    Spec.appliesLoose_calling (g := F0 m pc ls rest) hat hdg' hnU hkY hinitY
      (X₁.room_calling (g := F0 m pc ls rest) (R' := (headSpec ws rm).room) (hsize.trans hml.symm) hmY hcY hfr (by rw [hlY]; show _ + rm.locals ≤ R.locals; omega) (by show cells + rm.cells ≤ R.cells; rw [hrc]; exact hf.1) (by show slots + rm.slots ≤ R.slots; rw [hrs]; exact hf.2)) hpre
  obtain ⟨mid, hmid⟩ := hat.above
  have hfrm : (U.setTop (F0 m pc ls rest)).frames = (.java (F0 m pc ls rest) :: mid) ++ below := by rw [State.frames_setTop' _ hat.top, hmid]; rfl
  have hPU : Pc (Value.ref b :: As).toArray (U.calling (F0 m pc ls rest) mk (Value.ref b :: As).toArray) := hbl _ _ _ _ (hPc U hUh X₁.warmed)
  obtain ⟨o, s₂, hsteps, -, hend, q, rfl, ce, v1, v2, v3, v4, v5⟩ := Steps.callFree hM p X₁.admits X₁.cas X₁.clock (acts := []) hfrm happ hPU trivial
  rw [State.frames_setTop' _ hat.top] at hend
  have v5' : (U.calling (F0 m pc ls rest) mk (Value.ref b :: As).toArray).sameButNew ({ s₂ with vm := (U.calling (F0 m pc ls rest) mk (Value.ref b :: As).toArray).vm } : State) [] mc ms := v5
  obtain ⟨e2, w2, w3, w4, w5, w6⟩ := id v5'
  have e3 : s₂ = ({ (U.calling (F0 m pc ls rest) mk (Value.ref b :: As).toArray).setFrames s₂.frames with heap := s₂.heap, slotsUsed := s₂.slotsUsed } : State).setVm s₂.vm := by
    have z : s₂ = ({ s₂ with vm := (U.calling (F0 m pc ls rest) mk (Value.ref b :: As).toArray).vm } : State).setVm s₂.vm := rfl
    rw [e2] at z
    exact z
  obtain ⟨g₀, hg0⟩ := Option.isSome_iff_exists.mp hat.top
  obtain ⟨r, hr⟩ := State.topJava?_eq_some.mp hg0
  have hr' : (({ U with heap := s₂.heap, slotsUsed := s₂.slotsUsed } : State).setVm s₂.vm).frames = .java g₀ :: r := hr
  have hf₂ : s₂.frames = .throwing q :: .java (F0 m pc ls rest) :: U.frames.tail := hend
  have hs₂ : s₂ = ((({ U with heap := s₂.heap, slotsUsed := s₂.slotsUsed } : State).setVm s₂.vm).setTop (F0 m pc ls rest)).pushFrame (.throwing q) := by
    refine e3.trans ?_
    rw [hf₂, State.calling_eq hat.top, State.setFrames_setFrames, State.pushFrame, State.frames_setTop _ hr', State.setTop_of_frames _ hr', State.setFrames_setFrames, hr]
    rfl
  have hW' : U.WarmedH s₂.vm := v4
  have hsame : U.sameButNew ({ U with heap := s₂.heap, slotsUsed := s₂.slotsUsed } : State) [] mc ms := by
    refine ⟨?_, w2, w3, w4, w5, w6⟩
    obtain ⟨t9, ht9, -⟩ := State.frames_cons hr
    show ({ U with heap := s₂.heap, slotsUsed := s₂.slotsUsed } : State) = { U.setFrames U.frames with heap := s₂.heap, slotsUsed := s₂.slotsUsed }
    rw [State.setFrames_self ht9]
  have XB : Stand p l e R s m args below meth c (({ U with heap := s₂.heap, slotsUsed := s₂.slotsUsed } : State).setVm s₂.vm) (locs ++ []) (cells + mc) (slots + ms) :=
    ⟨X₁.admits, X₁.cas, X₁.clock, X₁.frames, X₁.room, X₁.hears, X₁.method, X₁.code, (X₁.here.setHeapUsed s₂.heap s₂.slotsUsed).setVm hW'.alike, X₁.tail, State.WarmedH.trans X₁.warmed hW', X₁.limits, X₁.bytes, X₁.same.trans (hsame.setVm s.vm)⟩
  rw [List.append_nil] at XB
  have hold := sx_old hsame
  have v3' : s.vm.findClass E = some ce.cls := by
    have z : U.vm.findClass E = some ce.cls := v3
    rw [X₁.warmed.alike.findClass] at z
    exact z
  obtain ⟨t, a1, b1⟩ := kx ce q s₂.heap (by rw [← hUh]; exact hold.1) (by rw [← hUh]; exact hold.2) v1 v2 v3' (({ U with heap := s₂.heap, slotsUsed := s₂.slotsUsed } : State).setVm s₂.vm) rfl XB
  refine ⟨t, hstep₁ _ fun acts => ?_, b1⟩
  rw [doInvoke_state]
  refine hsteps.trans ?_
  rw [hs₂]
  exact a1
/-- it goes on to the caller, where nothing has been written yet -/
theorem sx_out {pc : Nat} {ls : Array Slot} {rest : List Value} {E : String} {ce : Cell} {q : Addr} {mc ms : Nat} (hout : c.exceptionTable.toList = []) (hlocks : meth.locks = false) (hcell : H[q]? = some ce) (hv : ce.vm = .none) (hcl : s.vm.findClass E = some ce.cls) (hc : cells ≤ mc) (hs : slots ≤ ms) :
    sx_V p l e R s m args below meth c H [] cells slots (sx_TZ below E mc ms s) (F0 m pc ls rest) q := by
  intro T hT X
  obtain ⟨st1, hrun, hend, hW, hsm⟩ := X.leaveThrown q (g := F0 m pc ls rest) rfl rfl rfl (fun x h => by rw [hout] at h; cases h) hlocks
  have hcell9 : (T.setFrames (.throwing q :: below)).heap[q]? = some ce := by
    show T.heap[q]? = some ce
    rw [hT]; exact hcell
  exact ⟨_, st1, q, hrun, hend, ce, hcell9, hv, hcl, hW, hsm.mono hc hs⟩
end SXT
end
