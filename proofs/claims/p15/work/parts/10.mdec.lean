abbrev cMod_init : ByteArray := prog_7_method_1_code
def yMod_init : MethodName := ⟨"StateExplorerModel", "<init>", "()V"⟩
def wsMod_init : List Cond := Cond.code yMod_init cMod_init 1 (none : Option Jvm.ClassFile.FieldType) :: tb
theorem tcMod_init : Cond.code yMod_init cMod_init 1 (none : Option Jvm.ClassFile.FieldType) ∈ tb := tw_608
abbrev cMod_fails : ByteArray := prog_7_method_3_code
def yMod_fails : MethodName := ⟨"StateExplorerModel", "fails", "(ZZ)Z"⟩
def wsMod_fails : List Cond := Cond.code yMod_fails cMod_fails 3 (some .boolean) :: tb
theorem tcMod_fails : Cond.code yMod_fails cMod_fails 3 (some .boolean) ∈ tb := tw_683
abbrev cMod_isGate : ByteArray := prog_7_method_4_code
def yMod_isGate : MethodName := ⟨"StateExplorerModel", "isGate", "(I)Z"⟩
def wsMod_isGate : List Cond := Cond.code yMod_isGate cMod_isGate 2 (some .boolean) :: tb
theorem tcMod_isGate : Cond.code yMod_isGate cMod_isGate 2 (some .boolean) ∈ tb := tw_691
abbrev cMod_gate : ByteArray := prog_7_method_5_code
def yMod_gate : MethodName := ⟨"StateExplorerModel", "gate", "(I)I"⟩
def wsMod_gate : List Cond := Cond.code yMod_gate cMod_gate 2 (some .int) :: tb
theorem tcMod_gate : Cond.code yMod_gate cMod_gate 2 (some .int) ∈ tb := tw_679
abbrev cMod_feedsOf : ByteArray := prog_7_method_6_code
def yMod_feedsOf : MethodName := ⟨"StateExplorerModel", "feedsOf", "(I)I"⟩
def wsMod_feedsOf : List Cond := Cond.code yMod_feedsOf cMod_feedsOf 4 (some .int) :: tb
theorem tcMod_feedsOf : Cond.code yMod_feedsOf cMod_feedsOf 4 (some .int) ∈ tb := tw_695
abbrev cMod_feed : ByteArray := prog_7_method_7_code
def yMod_feed : MethodName := ⟨"StateExplorerModel", "feed", "(IIZ)I"⟩
def wsMod_feed : List Cond := Cond.code yMod_feed cMod_feed 6 (some .int) :: tb
theorem tcMod_feed : Cond.code yMod_feed cMod_feed 6 (some .int) ∈ tb := tw_687
abbrev cMod_output : ByteArray := prog_7_method_8_code
def yMod_output : MethodName := ⟨"StateExplorerModel", "output", "(I)I"⟩
def wsMod_output : List Cond := Cond.code yMod_output cMod_output 2 (some .int) :: tb
theorem tcMod_output : Cond.code yMod_output cMod_output 2 (some .int) ∈ tb := tw_699
abbrev cMod_clear : ByteArray := prog_7_method_9_code
def yMod_clear : MethodName := ⟨"StateExplorerModel", "clear", "()I"⟩
def wsMod_clear : List Cond := Cond.code yMod_clear cMod_clear 2 (some .int) :: tb
theorem tcMod_clear : Cond.code yMod_clear cMod_clear 2 (some .int) ∈ tb := tw_703
abbrev cMod_taken : ByteArray := prog_7_method_10_code
def yMod_taken : MethodName := ⟨"StateExplorerModel", "taken", "(I)I"⟩
def wsMod_taken : List Cond := Cond.code yMod_taken cMod_taken 3 (some .int) :: tb
theorem tcMod_taken : Cond.code yMod_taken cMod_taken 3 (some .int) ∈ tb := tw_727
abbrev cMod_again : ByteArray := prog_7_method_11_code
def yMod_again : MethodName := ⟨"StateExplorerModel", "again", "()Z"⟩
def wsMod_again : List Cond := Cond.code yMod_again cMod_again 6 (some .boolean) :: tb
theorem tcMod_again : Cond.code yMod_again cMod_again 6 (some .boolean) ∈ tb := tw_723
abbrev cMod_work : ByteArray := prog_7_method_12_code
def yMod_work : MethodName := ⟨"StateExplorerModel", "work", "(II)V"⟩
def wsMod_work : List Cond := Cond.code yMod_work cMod_work 6 (none : Option Jvm.ClassFile.FieldType) :: tb
theorem tcMod_work : Cond.code yMod_work cMod_work 6 (none : Option Jvm.ClassFile.FieldType) ∈ tb := tw_719
abbrev cMod_states : ByteArray := prog_7_method_13_code
def yMod_states : MethodName := ⟨"StateExplorerModel", "states", "()I"⟩
def wsMod_states : List Cond := Cond.code yMod_states cMod_states 1 (some .int) :: tb
theorem tcMod_states : Cond.code yMod_states cMod_states 1 (some .int) ∈ tb := tw_711
abbrev cMod_choices : ByteArray := prog_7_method_14_code
def yMod_choices : MethodName := ⟨"StateExplorerModel", "choices", "()I"⟩
def wsMod_choices : List Cond := Cond.code yMod_choices cMod_choices 1 (some .int) :: tb
theorem tcMod_choices : Cond.code yMod_choices cMod_choices 1 (some .int) ∈ tb := tw_715
abbrev cMod_explore : ByteArray := prog_7_method_15_code
def yMod_explore : MethodName := ⟨"StateExplorerModel", "explore", "()I"⟩
def wsMod_explore : List Cond := Cond.code yMod_explore cMod_explore 6 (some .int) :: tb
theorem tcMod_explore : Cond.code yMod_explore cMod_explore 6 (some .int) ∈ tb := tw_707
abbrev cMod_reached : ByteArray := prog_7_method_16_code
def yMod_reached : MethodName := ⟨"StateExplorerModel", "reached", "()I"⟩
def wsMod_reached : List Cond := Cond.code yMod_reached cMod_reached 3 (some .int) :: tb
theorem tcMod_reached : Cond.code yMod_reached cMod_reached 3 (some .int) ∈ tb := tw_743
abbrev cMod_shows : ByteArray := prog_7_method_17_code
def yMod_shows : MethodName := ⟨"StateExplorerModel", "shows", "(III)Z"⟩
def wsMod_shows : List Cond := Cond.code yMod_shows cMod_shows 6 (some .boolean) :: tb
theorem tcMod_shows : Cond.code yMod_shows cMod_shows 6 (some .boolean) ∈ tb := tw_739
abbrev cMod_differ : ByteArray := prog_7_method_18_code
def yMod_differ : MethodName := ⟨"StateExplorerModel", "differ", "(II)Z"⟩
def wsMod_differ : List Cond := Cond.code yMod_differ cMod_differ 7 (some .boolean) :: tb
theorem tcMod_differ : Cond.code yMod_differ cMod_differ 7 (some .boolean) ∈ tb := tw_735
abbrev cMod_tell : ByteArray := prog_7_method_19_code
def yMod_tell : MethodName := ⟨"StateExplorerModel", "tell", "()V"⟩
def wsMod_tell : List Cond := Cond.code yMod_tell cMod_tell 4 (none : Option Jvm.ClassFile.FieldType) :: tb
theorem tcMod_tell : Cond.code yMod_tell cMod_tell 4 (none : Option Jvm.ClassFile.FieldType) ∈ tb := tw_731
abbrev cMod_isState : ByteArray := prog_7_method_20_code
def yMod_isState : MethodName := ⟨"StateExplorerModel", "isState", "(I)Z"⟩
def wsMod_isState : List Cond := Cond.code yMod_isState cMod_isState 2 (some .boolean) :: tb
theorem tcMod_isState : Cond.code yMod_isState cMod_isState 2 (some .boolean) ∈ tb := tw_751
abbrev cMod_distance : ByteArray := prog_7_method_21_code
def yMod_distance : MethodName := ⟨"StateExplorerModel", "distance", "(I)I"⟩
def wsMod_distance : List Cond := Cond.code yMod_distance cMod_distance 2 (some .int) :: tb
theorem tcMod_distance : Cond.code yMod_distance cMod_distance 2 (some .int) ∈ tb := tw_747
abbrev cMod_lead : ByteArray := prog_7_method_22_code
def yMod_lead : MethodName := ⟨"StateExplorerModel", "lead", "(II)V"⟩
def wsMod_lead : List Cond := Cond.code yMod_lead cMod_lead 7 (none : Option Jvm.ClassFile.FieldType) :: tb
theorem tcMod_lead : Cond.code yMod_lead cMod_lead 7 (none : Option Jvm.ClassFile.FieldType) ∈ tb := tw_759
abbrev cMod_way : ByteArray := prog_7_method_23_code
def yMod_way : MethodName := ⟨"StateExplorerModel", "way", "(II)I"⟩
def wsMod_way : List Cond := Cond.code yMod_way cMod_way 7 (some .int) :: tb
theorem tcMod_way : Cond.code yMod_way cMod_way 7 (some .int) ∈ tb := tw_755
abbrev cMod_many : ByteArray := prog_7_method_24_code
def yMod_many : MethodName := ⟨"StateExplorerModel", "many", "(I)I"⟩
def wsMod_many : List Cond := Cond.code yMod_many cMod_many 4 (some .int) :: tb
theorem tcMod_many : Cond.code yMod_many cMod_many 4 (some .int) ∈ tb := tw_763
abbrev cMod_next : ByteArray := prog_7_method_25_code
def yMod_next : MethodName := ⟨"StateExplorerModel", "next", "(II)I"⟩
def wsMod_next : List Cond := Cond.code yMod_next cMod_next 4 (some .int) :: tb
theorem tcMod_next : Cond.code yMod_next cMod_next 4 (some .int) ∈ tb := tw_767
abbrev cMod_doubt : ByteArray := prog_7_method_26_code
def yMod_doubt : MethodName := ⟨"StateExplorerModel", "doubt", "(I)I"⟩
def wsMod_doubt : List Cond := Cond.code yMod_doubt cMod_doubt 4 (some .int) :: tb
theorem tcMod_doubt : Cond.code yMod_doubt cMod_doubt 4 (some .int) ∈ tb := tw_771
abbrev cMod_held : ByteArray := prog_7_method_27_code
def yMod_held : MethodName := ⟨"StateExplorerModel", "held", "(JZ)I"⟩
def wsMod_held : List Cond := Cond.code yMod_held cMod_held 9 (some .int) :: tb
theorem tcMod_held : Cond.code yMod_held cMod_held 9 (some .int) ∈ tb := tw_779
abbrev cMod_always : ByteArray := prog_7_method_28_code
def yMod_always : MethodName := ⟨"StateExplorerModel", "always", "(I)I"⟩
def wsMod_always : List Cond := Cond.code yMod_always cMod_always 4 (some .int) :: tb
theorem tcMod_always : Cond.code yMod_always cMod_always 4 (some .int) ∈ tb := tw_775
abbrev cMod_isSame : ByteArray := prog_7_method_29_code
def yMod_isSame : MethodName := ⟨"StateExplorerModel", "isSame", "(II)Z"⟩
def wsMod_isSame : List Cond := Cond.code yMod_isSame cMod_isSame 5 (some .boolean) :: tb
theorem tcMod_isSame : Cond.code yMod_isSame cMod_isSame 5 (some .boolean) ∈ tb := tw_783
abbrev cMod_least : ByteArray := prog_7_method_30_code
def yMod_least : MethodName := ⟨"StateExplorerModel", "least", "(I)I"⟩
def wsMod_least : List Cond := Cond.code yMod_least cMod_least 3 (some .int) :: tb
theorem tcMod_least : Cond.code yMod_least cMod_least 3 (some .int) ∈ tb := tw_791
abbrev cMod_group : ByteArray := prog_7_method_31_code
def yMod_group : MethodName := ⟨"StateExplorerModel", "group", "(I)I"⟩
def wsMod_group : List Cond := Cond.code yMod_group cMod_group 2 (some .int) :: tb
theorem tcMod_group : Cond.code yMod_group cMod_group 2 (some .int) ∈ tb := tw_787
abbrev cMod_count : ByteArray := prog_7_method_32_code
def yMod_count : MethodName := ⟨"StateExplorerModel", "count", "(I)I"⟩
def wsMod_count : List Cond := Cond.code yMod_count cMod_count 8 (some .int) :: tb
theorem tcMod_count : Cond.code yMod_count cMod_count 8 (some .int) ∈ tb := tw_795
theorem dMod_init_0 : decode cMod_init 0 = .ok (.aload_n 0, 1) := by decide +kernel
theorem dMod_init_1 : decode cMod_init 1 = .ok (.invokespecial 1, 3) := by decide +kernel
theorem dMod_init_4 : decode cMod_init 4 = .ok (.aload_n 0, 1) := by decide +kernel
theorem dMod_init_5 : decode cMod_init 5 = .ok (.bipush 60, 2) := by decide +kernel
theorem dMod_init_7 : decode cMod_init 7 = .ok (.newarray .int, 2) := by decide +kernel
theorem dMod_init_9 : decode cMod_init 9 = .ok (.putfield 7, 3) := by decide +kernel
theorem dMod_init_12 : decode cMod_init 12 = .ok (.aload_n 0, 1) := by decide +kernel
theorem dMod_init_13 : decode cMod_init 13 = .ok (.bipush 60, 2) := by decide +kernel
theorem dMod_init_15 : decode cMod_init 15 = .ok (.newarray .int, 2) := by decide +kernel
theorem dMod_init_17 : decode cMod_init 17 = .ok (.putfield 13, 3) := by decide +kernel
theorem dMod_init_20 : decode cMod_init 20 = .ok (.aload_n 0, 1) := by decide +kernel
theorem dMod_init_21 : decode cMod_init 21 = .ok (.bipush 60, 2) := by decide +kernel
theorem dMod_init_23 : decode cMod_init 23 = .ok (.newarray .int, 2) := by decide +kernel
theorem dMod_init_25 : decode cMod_init 25 = .ok (.putfield 16, 3) := by decide +kernel
theorem dMod_init_28 : decode cMod_init 28 = .ok (.aload_n 0, 1) := by decide +kernel
theorem dMod_init_29 : decode cMod_init 29 = .ok (.bipush 60, 2) := by decide +kernel
theorem dMod_init_31 : decode cMod_init 31 = .ok (.newarray .int, 2) := by decide +kernel
theorem dMod_init_33 : decode cMod_init 33 = .ok (.putfield 19, 3) := by decide +kernel
theorem dMod_init_36 : decode cMod_init 36 = .ok (.aload_n 0, 1) := by decide +kernel
theorem dMod_init_37 : decode cMod_init 37 = .ok (.sipush 240, 3) := by decide +kernel
theorem dMod_init_40 : decode cMod_init 40 = .ok (.newarray .int, 2) := by decide +kernel
theorem dMod_init_42 : decode cMod_init 42 = .ok (.putfield 22, 3) := by decide +kernel
theorem dMod_init_45 : decode cMod_init 45 = .ok (.aload_n 0, 1) := by decide +kernel
theorem dMod_init_46 : decode cMod_init 46 = .ok (.sipush 240, 3) := by decide +kernel
theorem dMod_init_49 : decode cMod_init 49 = .ok (.newarray .int, 2) := by decide +kernel
theorem dMod_init_51 : decode cMod_init 51 = .ok (.putfield 25, 3) := by decide +kernel
theorem dMod_init_54 : decode cMod_init 54 = .ok (.aload_n 0, 1) := by decide +kernel
theorem dMod_init_55 : decode cMod_init 55 = .ok (.bipush 6, 2) := by decide +kernel
theorem dMod_init_57 : decode cMod_init 57 = .ok (.newarray .int, 2) := by decide +kernel
theorem dMod_init_59 : decode cMod_init 59 = .ok (.putfield 28, 3) := by decide +kernel
theorem dMod_init_62 : decode cMod_init 62 = .ok (.aload_n 0, 1) := by decide +kernel
theorem dMod_init_63 : decode cMod_init 63 = .ok (.sipush 240, 3) := by decide +kernel
theorem dMod_init_66 : decode cMod_init 66 = .ok (.newarray .boolean, 2) := by decide +kernel
theorem dMod_init_68 : decode cMod_init 68 = .ok (.putfield 31, 3) := by decide +kernel
theorem dMod_init_71 : decode cMod_init 71 = .ok (.aload_n 0, 1) := by decide +kernel
theorem dMod_init_72 : decode cMod_init 72 = .ok (.sipush 4096, 3) := by decide +kernel
theorem dMod_init_75 : decode cMod_init 75 = .ok (.newarray .boolean, 2) := by decide +kernel
theorem dMod_init_77 : decode cMod_init 77 = .ok (.putfield 35, 3) := by decide +kernel
theorem dMod_init_80 : decode cMod_init 80 = .ok (.aload_n 0, 1) := by decide +kernel
theorem dMod_init_81 : decode cMod_init 81 = .ok (.sipush 4096, 3) := by decide +kernel
theorem dMod_init_84 : decode cMod_init 84 = .ok (.newarray .int, 2) := by decide +kernel
theorem dMod_init_86 : decode cMod_init 86 = .ok (.putfield 38, 3) := by decide +kernel
theorem dMod_init_89 : decode cMod_init 89 = .ok (.aload_n 0, 1) := by decide +kernel
theorem dMod_init_90 : decode cMod_init 90 = .ok (.sipush 4096, 3) := by decide +kernel
theorem dMod_init_93 : decode cMod_init 93 = .ok (.newarray .long, 2) := by decide +kernel
theorem dMod_init_95 : decode cMod_init 95 = .ok (.putfield 41, 3) := by decide +kernel
theorem dMod_init_98 : decode cMod_init 98 = .ok (.aload_n 0, 1) := by decide +kernel
theorem dMod_init_99 : decode cMod_init 99 = .ok (.sipush 256, 3) := by decide +kernel
theorem dMod_init_102 : decode cMod_init 102 = .ok (.newarray .int, 2) := by decide +kernel
theorem dMod_init_104 : decode cMod_init 104 = .ok (.putfield 45, 3) := by decide +kernel
theorem dMod_init_107 : decode cMod_init 107 = .ok (.aload_n 0, 1) := by decide +kernel
theorem dMod_init_108 : decode cMod_init 108 = .ok (.ldc 48, 2) := by decide +kernel
theorem dMod_init_110 : decode cMod_init 110 = .ok (.newarray .boolean, 2) := by decide +kernel
theorem dMod_init_112 : decode cMod_init 112 = .ok (.putfield 49, 3) := by decide +kernel
theorem dMod_init_115 : decode cMod_init 115 = .ok (.aload_n 0, 1) := by decide +kernel
theorem dMod_init_116 : decode cMod_init 116 = .ok (.ldc 48, 2) := by decide +kernel
theorem dMod_init_118 : decode cMod_init 118 = .ok (.newarray .boolean, 2) := by decide +kernel
theorem dMod_init_120 : decode cMod_init 120 = .ok (.putfield 52, 3) := by decide +kernel
theorem dMod_init_123 : decode cMod_init 123 = .ok (.return_, 1) := by decide +kernel
theorem dMod_fails_0 : decode cMod_fails 0 = .ok (.aload_n 0, 1) := by decide +kernel
theorem dMod_fails_1 : decode cMod_fails 1 = .ok (.iload_n 1, 1) := by decide +kernel
theorem dMod_fails_2 : decode cMod_fails 2 = .ok (.ifCond .eq 7, 3) := by decide +kernel
theorem dMod_fails_5 : decode cMod_fails 5 = .ok (.iconst 1, 1) := by decide +kernel
theorem dMod_fails_6 : decode cMod_fails 6 = .ok (.goto 12, 3) := by decide +kernel
theorem dMod_fails_9 : decode cMod_fails 9 = .ok (.iload_n 2, 1) := by decide +kernel
theorem dMod_fails_10 : decode cMod_fails 10 = .ok (.ifCond .eq 7, 3) := by decide +kernel
theorem dMod_fails_13 : decode cMod_fails 13 = .ok (.iconst 2, 1) := by decide +kernel
theorem dMod_fails_14 : decode cMod_fails 14 = .ok (.goto 4, 3) := by decide +kernel
theorem dMod_fails_17 : decode cMod_fails 17 = .ok (.iconst 0, 1) := by decide +kernel
theorem dMod_fails_18 : decode cMod_fails 18 = .ok (.putfield 55, 3) := by decide +kernel
theorem dMod_fails_21 : decode cMod_fails 21 = .ok (.aload_n 0, 1) := by decide +kernel
theorem dMod_fails_22 : decode cMod_fails 22 = .ok (.getfield 55, 3) := by decide +kernel
theorem dMod_fails_25 : decode cMod_fails 25 = .ok (.ifCond .le 7, 3) := by decide +kernel
theorem dMod_fails_28 : decode cMod_fails 28 = .ok (.iconst 1, 1) := by decide +kernel
theorem dMod_fails_29 : decode cMod_fails 29 = .ok (.goto 4, 3) := by decide +kernel
theorem dMod_fails_32 : decode cMod_fails 32 = .ok (.iconst 0, 1) := by decide +kernel
theorem dMod_fails_33 : decode cMod_fails 33 = .ok (.ireturn, 1) := by decide +kernel
theorem dMod_isGate_0 : decode cMod_isGate 0 = .ok (.iload_n 1, 1) := by decide +kernel
theorem dMod_isGate_1 : decode cMod_isGate 1 = .ok (.ifCond .lt 15, 3) := by decide +kernel
theorem dMod_isGate_4 : decode cMod_isGate 4 = .ok (.iload_n 1, 1) := by decide +kernel
theorem dMod_isGate_5 : decode cMod_isGate 5 = .ok (.aload_n 0, 1) := by decide +kernel
theorem dMod_isGate_6 : decode cMod_isGate 6 = .ok (.getfield 59, 3) := by decide +kernel
theorem dMod_isGate_9 : decode cMod_isGate 9 = .ok (.if_icmp .ge 7, 3) := by decide +kernel
theorem dMod_isGate_12 : decode cMod_isGate 12 = .ok (.iconst 1, 1) := by decide +kernel
theorem dMod_isGate_13 : decode cMod_isGate 13 = .ok (.goto 4, 3) := by decide +kernel
theorem dMod_isGate_16 : decode cMod_isGate 16 = .ok (.iconst 0, 1) := by decide +kernel
theorem dMod_isGate_17 : decode cMod_isGate 17 = .ok (.ireturn, 1) := by decide +kernel
theorem dMod_gate_0 : decode cMod_gate 0 = .ok (.aload_n 0, 1) := by decide +kernel
theorem dMod_gate_1 : decode cMod_gate 1 = .ok (.iload_n 1, 1) := by decide +kernel
theorem dMod_gate_2 : decode cMod_gate 2 = .ok (.ifCond .lt 8, 3) := by decide +kernel
theorem dMod_gate_5 : decode cMod_gate 5 = .ok (.iload_n 1, 1) := by decide +kernel
theorem dMod_gate_6 : decode cMod_gate 6 = .ok (.iconst 3, 1) := by decide +kernel
theorem dMod_gate_7 : decode cMod_gate 7 = .ok (.if_icmp .le 7, 3) := by decide +kernel
theorem dMod_gate_10 : decode cMod_gate 10 = .ok (.iconst 1, 1) := by decide +kernel
theorem dMod_gate_11 : decode cMod_gate 11 = .ok (.goto 4, 3) := by decide +kernel
theorem dMod_gate_14 : decode cMod_gate 14 = .ok (.iconst 0, 1) := by decide +kernel
theorem dMod_gate_15 : decode cMod_gate 15 = .ok (.iconst 0, 1) := by decide +kernel
theorem dMod_gate_16 : decode cMod_gate 16 = .ok (.invokevirtual 62, 3) := by decide +kernel
theorem dMod_gate_19 : decode cMod_gate 19 = .ok (.ifCond .eq 5, 3) := by decide +kernel
theorem dMod_gate_22 : decode cMod_gate 22 = .ok (.iconst 0, 1) := by decide +kernel
theorem dMod_gate_23 : decode cMod_gate 23 = .ok (.ireturn, 1) := by decide +kernel
theorem dMod_gate_24 : decode cMod_gate 24 = .ok (.aload_n 0, 1) := by decide +kernel
theorem dMod_gate_25 : decode cMod_gate 25 = .ok (.getfield 59, 3) := by decide +kernel
theorem dMod_gate_28 : decode cMod_gate 28 = .ok (.bipush 60, 2) := by decide +kernel
theorem dMod_gate_30 : decode cMod_gate 30 = .ok (.if_icmp .eq 29, 3) := by decide +kernel
theorem dMod_gate_33 : decode cMod_gate 33 = .ok (.iload_n 1, 1) := by decide +kernel
theorem dMod_gate_34 : decode cMod_gate 34 = .ok (.ifCond .ne 11, 3) := by decide +kernel
theorem dMod_gate_37 : decode cMod_gate 37 = .ok (.aload_n 0, 1) := by decide +kernel
theorem dMod_gate_38 : decode cMod_gate 38 = .ok (.getfield 66, 3) := by decide +kernel
theorem dMod_gate_41 : decode cMod_gate 41 = .ok (.iconst 4, 1) := by decide +kernel
theorem dMod_gate_42 : decode cMod_gate 42 = .ok (.if_icmp .eq 17, 3) := by decide +kernel
theorem dMod_gate_45 : decode cMod_gate 45 = .ok (.iload_n 1, 1) := by decide +kernel
theorem dMod_gate_46 : decode cMod_gate 46 = .ok (.iconst 1, 1) := by decide +kernel
theorem dMod_gate_47 : decode cMod_gate 47 = .ok (.if_icmp .ne 14, 3) := by decide +kernel
theorem dMod_gate_50 : decode cMod_gate 50 = .ok (.aload_n 0, 1) := by decide +kernel
theorem dMod_gate_51 : decode cMod_gate 51 = .ok (.getfield 69, 3) := by decide +kernel
theorem dMod_gate_54 : decode cMod_gate 54 = .ok (.bipush 8, 2) := by decide +kernel
theorem dMod_gate_56 : decode cMod_gate 56 = .ok (.if_icmp .ne 5, 3) := by decide +kernel
theorem dMod_gate_59 : decode cMod_gate 59 = .ok (.iconst (-1), 1) := by decide +kernel
theorem dMod_gate_60 : decode cMod_gate 60 = .ok (.ireturn, 1) := by decide +kernel
theorem dMod_gate_61 : decode cMod_gate 61 = .ok (.aload_n 0, 1) := by decide +kernel
theorem dMod_gate_62 : decode cMod_gate 62 = .ok (.getfield 7, 3) := by decide +kernel
theorem dMod_gate_65 : decode cMod_gate 65 = .ok (.aload_n 0, 1) := by decide +kernel
theorem dMod_gate_66 : decode cMod_gate 66 = .ok (.getfield 59, 3) := by decide +kernel
theorem dMod_gate_69 : decode cMod_gate 69 = .ok (.iload_n 1, 1) := by decide +kernel
theorem dMod_gate_70 : decode cMod_gate 70 = .ok (.iastore, 1) := by decide +kernel
theorem dMod_gate_71 : decode cMod_gate 71 = .ok (.aload_n 0, 1) := by decide +kernel
theorem dMod_gate_72 : decode cMod_gate 72 = .ok (.getfield 13, 3) := by decide +kernel
theorem dMod_gate_75 : decode cMod_gate 75 = .ok (.aload_n 0, 1) := by decide +kernel
theorem dMod_gate_76 : decode cMod_gate 76 = .ok (.getfield 59, 3) := by decide +kernel
theorem dMod_gate_79 : decode cMod_gate 79 = .ok (.iload_n 1, 1) := by decide +kernel
theorem dMod_gate_80 : decode cMod_gate 80 = .ok (.ifCond .ne 10, 3) := by decide +kernel
theorem dMod_gate_83 : decode cMod_gate 83 = .ok (.aload_n 0, 1) := by decide +kernel
theorem dMod_gate_84 : decode cMod_gate 84 = .ok (.getfield 66, 3) := by decide +kernel
theorem dMod_gate_87 : decode cMod_gate 87 = .ok (.goto 16, 3) := by decide +kernel
theorem dMod_gate_90 : decode cMod_gate 90 = .ok (.iload_n 1, 1) := by decide +kernel
theorem dMod_gate_91 : decode cMod_gate 91 = .ok (.iconst 1, 1) := by decide +kernel
theorem dMod_gate_92 : decode cMod_gate 92 = .ok (.if_icmp .ne 10, 3) := by decide +kernel
theorem dMod_gate_95 : decode cMod_gate 95 = .ok (.aload_n 0, 1) := by decide +kernel
theorem dMod_gate_96 : decode cMod_gate 96 = .ok (.getfield 69, 3) := by decide +kernel
theorem dMod_gate_99 : decode cMod_gate 99 = .ok (.goto 4, 3) := by decide +kernel
theorem dMod_gate_102 : decode cMod_gate 102 = .ok (.iconst (-1), 1) := by decide +kernel
theorem dMod_gate_103 : decode cMod_gate 103 = .ok (.iastore, 1) := by decide +kernel
theorem dMod_gate_104 : decode cMod_gate 104 = .ok (.aload_n 0, 1) := by decide +kernel
theorem dMod_gate_105 : decode cMod_gate 105 = .ok (.iload_n 1, 1) := by decide +kernel
theorem dMod_gate_106 : decode cMod_gate 106 = .ok (.ifCond .ne 12, 3) := by decide +kernel
theorem dMod_gate_109 : decode cMod_gate 109 = .ok (.aload_n 0, 1) := by decide +kernel
theorem dMod_gate_110 : decode cMod_gate 110 = .ok (.getfield 66, 3) := by decide +kernel
theorem dMod_gate_113 : decode cMod_gate 113 = .ok (.iconst 1, 1) := by decide +kernel
theorem dMod_gate_114 : decode cMod_gate 114 = .ok (.iadd, 1) := by decide +kernel
theorem dMod_gate_115 : decode cMod_gate 115 = .ok (.goto 7, 3) := by decide +kernel
theorem dMod_gate_118 : decode cMod_gate 118 = .ok (.aload_n 0, 1) := by decide +kernel
theorem dMod_gate_119 : decode cMod_gate 119 = .ok (.getfield 66, 3) := by decide +kernel
theorem dMod_gate_122 : decode cMod_gate 122 = .ok (.putfield 66, 3) := by decide +kernel
theorem dMod_gate_125 : decode cMod_gate 125 = .ok (.aload_n 0, 1) := by decide +kernel
theorem dMod_gate_126 : decode cMod_gate 126 = .ok (.iload_n 1, 1) := by decide +kernel
theorem dMod_gate_127 : decode cMod_gate 127 = .ok (.iconst 1, 1) := by decide +kernel
theorem dMod_gate_128 : decode cMod_gate 128 = .ok (.if_icmp .ne 12, 3) := by decide +kernel
theorem dMod_gate_131 : decode cMod_gate 131 = .ok (.aload_n 0, 1) := by decide +kernel
theorem dMod_gate_132 : decode cMod_gate 132 = .ok (.getfield 69, 3) := by decide +kernel
theorem dMod_gate_135 : decode cMod_gate 135 = .ok (.iconst 1, 1) := by decide +kernel
theorem dMod_gate_136 : decode cMod_gate 136 = .ok (.iadd, 1) := by decide +kernel
theorem dMod_gate_137 : decode cMod_gate 137 = .ok (.goto 7, 3) := by decide +kernel
theorem dMod_gate_140 : decode cMod_gate 140 = .ok (.aload_n 0, 1) := by decide +kernel
theorem dMod_gate_141 : decode cMod_gate 141 = .ok (.getfield 69, 3) := by decide +kernel
theorem dMod_gate_144 : decode cMod_gate 144 = .ok (.putfield 69, 3) := by decide +kernel
theorem dMod_gate_147 : decode cMod_gate 147 = .ok (.aload_n 0, 1) := by decide +kernel
theorem dMod_gate_148 : decode cMod_gate 148 = .ok (.dup, 1) := by decide +kernel
theorem dMod_gate_149 : decode cMod_gate 149 = .ok (.getfield 59, 3) := by decide +kernel
theorem dMod_gate_152 : decode cMod_gate 152 = .ok (.iconst 1, 1) := by decide +kernel
theorem dMod_gate_153 : decode cMod_gate 153 = .ok (.iadd, 1) := by decide +kernel
theorem dMod_gate_154 : decode cMod_gate 154 = .ok (.putfield 59, 3) := by decide +kernel
theorem dMod_gate_157 : decode cMod_gate 157 = .ok (.aload_n 0, 1) := by decide +kernel
theorem dMod_gate_158 : decode cMod_gate 158 = .ok (.iconst 0, 1) := by decide +kernel
theorem dMod_gate_159 : decode cMod_gate 159 = .ok (.putfield 72, 3) := by decide +kernel
theorem dMod_gate_162 : decode cMod_gate 162 = .ok (.aload_n 0, 1) := by decide +kernel
theorem dMod_gate_163 : decode cMod_gate 163 = .ok (.getfield 59, 3) := by decide +kernel
theorem dMod_gate_166 : decode cMod_gate 166 = .ok (.iconst 1, 1) := by decide +kernel
theorem dMod_gate_167 : decode cMod_gate 167 = .ok (.isub, 1) := by decide +kernel
theorem dMod_gate_168 : decode cMod_gate 168 = .ok (.ireturn, 1) := by decide +kernel
theorem dMod_feedsOf_0 : decode cMod_feedsOf 0 = .ok (.iconst 0, 1) := by decide +kernel
theorem dMod_feedsOf_1 : decode cMod_feedsOf 1 = .ok (.istore_n 2, 1) := by decide +kernel
theorem dMod_feedsOf_2 : decode cMod_feedsOf 2 = .ok (.iconst 0, 1) := by decide +kernel
theorem dMod_feedsOf_3 : decode cMod_feedsOf 3 = .ok (.istore_n 3, 1) := by decide +kernel
theorem dMod_feedsOf_4 : decode cMod_feedsOf 4 = .ok (.iload_n 3, 1) := by decide +kernel
theorem dMod_feedsOf_5 : decode cMod_feedsOf 5 = .ok (.aload_n 0, 1) := by decide +kernel
theorem dMod_feedsOf_6 : decode cMod_feedsOf 6 = .ok (.getfield 76, 3) := by decide +kernel
theorem dMod_feedsOf_9 : decode cMod_feedsOf 9 = .ok (.if_icmp .ge 27, 3) := by decide +kernel
theorem dMod_feedsOf_12 : decode cMod_feedsOf 12 = .ok (.aload_n 0, 1) := by decide +kernel
theorem dMod_feedsOf_13 : decode cMod_feedsOf 13 = .ok (.getfield 22, 3) := by decide +kernel
theorem dMod_feedsOf_16 : decode cMod_feedsOf 16 = .ok (.iload_n 3, 1) := by decide +kernel
theorem dMod_feedsOf_17 : decode cMod_feedsOf 17 = .ok (.iaload, 1) := by decide +kernel
theorem dMod_feedsOf_18 : decode cMod_feedsOf 18 = .ok (.iload_n 1, 1) := by decide +kernel
theorem dMod_feedsOf_19 : decode cMod_feedsOf 19 = .ok (.if_icmp .ne 9, 3) := by decide +kernel
theorem dMod_feedsOf_22 : decode cMod_feedsOf 22 = .ok (.iload_n 2, 1) := by decide +kernel
theorem dMod_feedsOf_23 : decode cMod_feedsOf 23 = .ok (.iconst 1, 1) := by decide +kernel
theorem dMod_feedsOf_24 : decode cMod_feedsOf 24 = .ok (.iadd, 1) := by decide +kernel
theorem dMod_feedsOf_25 : decode cMod_feedsOf 25 = .ok (.goto 4, 3) := by decide +kernel
theorem dMod_feedsOf_28 : decode cMod_feedsOf 28 = .ok (.iload_n 2, 1) := by decide +kernel
theorem dMod_feedsOf_29 : decode cMod_feedsOf 29 = .ok (.istore_n 2, 1) := by decide +kernel
theorem dMod_feedsOf_30 : decode cMod_feedsOf 30 = .ok (.iinc 3 1, 3) := by decide +kernel
theorem dMod_feedsOf_33 : decode cMod_feedsOf 33 = .ok (.goto (-29), 3) := by decide +kernel
theorem dMod_feedsOf_36 : decode cMod_feedsOf 36 = .ok (.iload_n 2, 1) := by decide +kernel
theorem dMod_feedsOf_37 : decode cMod_feedsOf 37 = .ok (.ireturn, 1) := by decide +kernel
theorem dMod_feed_0 : decode cMod_feed 0 = .ok (.aload_n 0, 1) := by decide +kernel
theorem dMod_feed_1 : decode cMod_feed 1 = .ok (.iload_n 1, 1) := by decide +kernel
theorem dMod_feed_2 : decode cMod_feed 2 = .ok (.invokevirtual 79, 3) := by decide +kernel
theorem dMod_feed_5 : decode cMod_feed 5 = .ok (.ifCond .eq 15, 3) := by decide +kernel
theorem dMod_feed_8 : decode cMod_feed 8 = .ok (.aload_n 0, 1) := by decide +kernel
theorem dMod_feed_9 : decode cMod_feed 9 = .ok (.iload_n 2, 1) := by decide +kernel
theorem dMod_feed_10 : decode cMod_feed 10 = .ok (.invokevirtual 79, 3) := by decide +kernel
theorem dMod_feed_13 : decode cMod_feed 13 = .ok (.ifCond .eq 7, 3) := by decide +kernel
theorem dMod_feed_16 : decode cMod_feed 16 = .ok (.iconst 1, 1) := by decide +kernel
theorem dMod_feed_17 : decode cMod_feed 17 = .ok (.goto 4, 3) := by decide +kernel
theorem dMod_feed_20 : decode cMod_feed 20 = .ok (.iconst 0, 1) := by decide +kernel
theorem dMod_feed_21 : decode cMod_feed 21 = .ok (.istore 4, 2) := by decide +kernel
theorem dMod_feed_23 : decode cMod_feed 23 = .ok (.iload 4, 2) := by decide +kernel
theorem dMod_feed_25 : decode cMod_feed 25 = .ok (.ifCond .eq 34, 3) := by decide +kernel
theorem dMod_feed_28 : decode cMod_feed 28 = .ok (.aload_n 0, 1) := by decide +kernel
theorem dMod_feed_29 : decode cMod_feed 29 = .ok (.getfield 7, 3) := by decide +kernel
theorem dMod_feed_32 : decode cMod_feed 32 = .ok (.iload_n 1, 1) := by decide +kernel
theorem dMod_feed_33 : decode cMod_feed 33 = .ok (.iaload, 1) := by decide +kernel
theorem dMod_feed_34 : decode cMod_feed 34 = .ok (.ifCond .eq 21, 3) := by decide +kernel
theorem dMod_feed_37 : decode cMod_feed 37 = .ok (.aload_n 0, 1) := by decide +kernel
theorem dMod_feed_38 : decode cMod_feed 38 = .ok (.getfield 7, 3) := by decide +kernel
theorem dMod_feed_41 : decode cMod_feed 41 = .ok (.iload_n 1, 1) := by decide +kernel
theorem dMod_feed_42 : decode cMod_feed 42 = .ok (.iaload, 1) := by decide +kernel
theorem dMod_feed_43 : decode cMod_feed 43 = .ok (.iconst 1, 1) := by decide +kernel
theorem dMod_feed_44 : decode cMod_feed 44 = .ok (.if_icmp .ne 15, 3) := by decide +kernel
theorem dMod_feed_47 : decode cMod_feed 47 = .ok (.aload_n 0, 1) := by decide +kernel
theorem dMod_feed_48 : decode cMod_feed 48 = .ok (.iload_n 1, 1) := by decide +kernel
theorem dMod_feed_49 : decode cMod_feed 49 = .ok (.invokevirtual 83, 3) := by decide +kernel
theorem dMod_feed_52 : decode cMod_feed 52 = .ok (.ifCond .le 7, 3) := by decide +kernel
theorem dMod_feed_55 : decode cMod_feed 55 = .ok (.iconst 1, 1) := by decide +kernel
theorem dMod_feed_56 : decode cMod_feed 56 = .ok (.goto 4, 3) := by decide +kernel
theorem dMod_feed_59 : decode cMod_feed 59 = .ok (.iconst 0, 1) := by decide +kernel
theorem dMod_feed_60 : decode cMod_feed 60 = .ok (.istore 5, 2) := by decide +kernel
theorem dMod_feed_62 : decode cMod_feed 62 = .ok (.aload_n 0, 1) := by decide +kernel
theorem dMod_feed_63 : decode cMod_feed 63 = .ok (.iload 4, 2) := by decide +kernel
theorem dMod_feed_65 : decode cMod_feed 65 = .ok (.ifCond .ne 7, 3) := by decide +kernel
theorem dMod_feed_68 : decode cMod_feed 68 = .ok (.iconst 1, 1) := by decide +kernel
theorem dMod_feed_69 : decode cMod_feed 69 = .ok (.goto 4, 3) := by decide +kernel
theorem dMod_feed_72 : decode cMod_feed 72 = .ok (.iconst 0, 1) := by decide +kernel
theorem dMod_feed_73 : decode cMod_feed 73 = .ok (.iload 5, 2) := by decide +kernel
theorem dMod_feed_75 : decode cMod_feed 75 = .ok (.invokevirtual 62, 3) := by decide +kernel
theorem dMod_feed_78 : decode cMod_feed 78 = .ok (.ifCond .eq 5, 3) := by decide +kernel
theorem dMod_feed_81 : decode cMod_feed 81 = .ok (.iconst 0, 1) := by decide +kernel
theorem dMod_feed_82 : decode cMod_feed 82 = .ok (.ireturn, 1) := by decide +kernel
theorem dMod_feed_83 : decode cMod_feed 83 = .ok (.aload_n 0, 1) := by decide +kernel
theorem dMod_feed_84 : decode cMod_feed 84 = .ok (.getfield 76, 3) := by decide +kernel
theorem dMod_feed_87 : decode cMod_feed 87 = .ok (.sipush 240, 3) := by decide +kernel
theorem dMod_feed_90 : decode cMod_feed 90 = .ok (.if_icmp .ne 5, 3) := by decide +kernel
theorem dMod_feed_93 : decode cMod_feed 93 = .ok (.iconst (-1), 1) := by decide +kernel
theorem dMod_feed_94 : decode cMod_feed 94 = .ok (.ireturn, 1) := by decide +kernel
theorem dMod_feed_95 : decode cMod_feed 95 = .ok (.aload_n 0, 1) := by decide +kernel
theorem dMod_feed_96 : decode cMod_feed 96 = .ok (.getfield 22, 3) := by decide +kernel
theorem dMod_feed_99 : decode cMod_feed 99 = .ok (.aload_n 0, 1) := by decide +kernel
theorem dMod_feed_100 : decode cMod_feed 100 = .ok (.getfield 76, 3) := by decide +kernel
theorem dMod_feed_103 : decode cMod_feed 103 = .ok (.iload_n 1, 1) := by decide +kernel
theorem dMod_feed_104 : decode cMod_feed 104 = .ok (.iastore, 1) := by decide +kernel
theorem dMod_feed_105 : decode cMod_feed 105 = .ok (.aload_n 0, 1) := by decide +kernel
theorem dMod_feed_106 : decode cMod_feed 106 = .ok (.getfield 25, 3) := by decide +kernel
theorem dMod_feed_109 : decode cMod_feed 109 = .ok (.aload_n 0, 1) := by decide +kernel
theorem dMod_feed_110 : decode cMod_feed 110 = .ok (.getfield 76, 3) := by decide +kernel
theorem dMod_feed_113 : decode cMod_feed 113 = .ok (.iload_n 2, 1) := by decide +kernel
theorem dMod_feed_114 : decode cMod_feed 114 = .ok (.iastore, 1) := by decide +kernel
theorem dMod_feed_115 : decode cMod_feed 115 = .ok (.aload_n 0, 1) := by decide +kernel
theorem dMod_feed_116 : decode cMod_feed 116 = .ok (.getfield 31, 3) := by decide +kernel
theorem dMod_feed_119 : decode cMod_feed 119 = .ok (.aload_n 0, 1) := by decide +kernel
theorem dMod_feed_120 : decode cMod_feed 120 = .ok (.getfield 76, 3) := by decide +kernel
theorem dMod_feed_123 : decode cMod_feed 123 = .ok (.iload_n 3, 1) := by decide +kernel
theorem dMod_feed_124 : decode cMod_feed 124 = .ok (.bastore, 1) := by decide +kernel
theorem dMod_feed_125 : decode cMod_feed 125 = .ok (.aload_n 0, 1) := by decide +kernel
theorem dMod_feed_126 : decode cMod_feed 126 = .ok (.dup, 1) := by decide +kernel
theorem dMod_feed_127 : decode cMod_feed 127 = .ok (.getfield 76, 3) := by decide +kernel
theorem dMod_feed_130 : decode cMod_feed 130 = .ok (.iconst 1, 1) := by decide +kernel
theorem dMod_feed_131 : decode cMod_feed 131 = .ok (.iadd, 1) := by decide +kernel
theorem dMod_feed_132 : decode cMod_feed 132 = .ok (.putfield 76, 3) := by decide +kernel
theorem dMod_feed_135 : decode cMod_feed 135 = .ok (.aload_n 0, 1) := by decide +kernel
theorem dMod_feed_136 : decode cMod_feed 136 = .ok (.iconst 0, 1) := by decide +kernel
theorem dMod_feed_137 : decode cMod_feed 137 = .ok (.putfield 72, 3) := by decide +kernel
theorem dMod_feed_140 : decode cMod_feed 140 = .ok (.aload_n 0, 1) := by decide +kernel
theorem dMod_feed_141 : decode cMod_feed 141 = .ok (.iload_n 1, 1) := by decide +kernel
theorem dMod_feed_142 : decode cMod_feed 142 = .ok (.invokevirtual 83, 3) := by decide +kernel
theorem dMod_feed_145 : decode cMod_feed 145 = .ok (.ireturn, 1) := by decide +kernel
theorem dMod_output_0 : decode cMod_output 0 = .ok (.aload_n 0, 1) := by decide +kernel
theorem dMod_output_1 : decode cMod_output 1 = .ok (.aload_n 0, 1) := by decide +kernel
theorem dMod_output_2 : decode cMod_output 2 = .ok (.iload_n 1, 1) := by decide +kernel
theorem dMod_output_3 : decode cMod_output 3 = .ok (.invokevirtual 79, 3) := by decide +kernel
theorem dMod_output_6 : decode cMod_output 6 = .ok (.ifCond .ne 7, 3) := by decide +kernel
theorem dMod_output_9 : decode cMod_output 9 = .ok (.iconst 1, 1) := by decide +kernel
theorem dMod_output_10 : decode cMod_output 10 = .ok (.goto 4, 3) := by decide +kernel
theorem dMod_output_13 : decode cMod_output 13 = .ok (.iconst 0, 1) := by decide +kernel
theorem dMod_output_14 : decode cMod_output 14 = .ok (.iconst 0, 1) := by decide +kernel
theorem dMod_output_15 : decode cMod_output 15 = .ok (.invokevirtual 62, 3) := by decide +kernel
theorem dMod_output_18 : decode cMod_output 18 = .ok (.ifCond .eq 5, 3) := by decide +kernel
theorem dMod_output_21 : decode cMod_output 21 = .ok (.iconst 0, 1) := by decide +kernel
theorem dMod_output_22 : decode cMod_output 22 = .ok (.ireturn, 1) := by decide +kernel
theorem dMod_output_23 : decode cMod_output 23 = .ok (.aload_n 0, 1) := by decide +kernel
theorem dMod_output_24 : decode cMod_output 24 = .ok (.getfield 87, 3) := by decide +kernel
theorem dMod_output_27 : decode cMod_output 27 = .ok (.bipush 6, 2) := by decide +kernel
theorem dMod_output_29 : decode cMod_output 29 = .ok (.if_icmp .ne 5, 3) := by decide +kernel
theorem dMod_output_32 : decode cMod_output 32 = .ok (.iconst (-1), 1) := by decide +kernel
theorem dMod_output_33 : decode cMod_output 33 = .ok (.ireturn, 1) := by decide +kernel
theorem dMod_output_34 : decode cMod_output 34 = .ok (.aload_n 0, 1) := by decide +kernel
theorem dMod_output_35 : decode cMod_output 35 = .ok (.getfield 28, 3) := by decide +kernel
theorem dMod_output_38 : decode cMod_output 38 = .ok (.aload_n 0, 1) := by decide +kernel
theorem dMod_output_39 : decode cMod_output 39 = .ok (.getfield 87, 3) := by decide +kernel
theorem dMod_output_42 : decode cMod_output 42 = .ok (.iload_n 1, 1) := by decide +kernel
theorem dMod_output_43 : decode cMod_output 43 = .ok (.iastore, 1) := by decide +kernel
theorem dMod_output_44 : decode cMod_output 44 = .ok (.aload_n 0, 1) := by decide +kernel
theorem dMod_output_45 : decode cMod_output 45 = .ok (.dup, 1) := by decide +kernel
theorem dMod_output_46 : decode cMod_output 46 = .ok (.getfield 87, 3) := by decide +kernel
theorem dMod_output_49 : decode cMod_output 49 = .ok (.iconst 1, 1) := by decide +kernel
theorem dMod_output_50 : decode cMod_output 50 = .ok (.iadd, 1) := by decide +kernel
theorem dMod_output_51 : decode cMod_output 51 = .ok (.putfield 87, 3) := by decide +kernel
theorem dMod_output_54 : decode cMod_output 54 = .ok (.aload_n 0, 1) := by decide +kernel
theorem dMod_output_55 : decode cMod_output 55 = .ok (.iconst 0, 1) := by decide +kernel
theorem dMod_output_56 : decode cMod_output 56 = .ok (.putfield 72, 3) := by decide +kernel
theorem dMod_output_59 : decode cMod_output 59 = .ok (.aload_n 0, 1) := by decide +kernel
theorem dMod_output_60 : decode cMod_output 60 = .ok (.getfield 87, 3) := by decide +kernel
theorem dMod_output_63 : decode cMod_output 63 = .ok (.ireturn, 1) := by decide +kernel
theorem dMod_clear_0 : decode cMod_clear 0 = .ok (.aload_n 0, 1) := by decide +kernel
theorem dMod_clear_1 : decode cMod_clear 1 = .ok (.iconst 0, 1) := by decide +kernel
theorem dMod_clear_2 : decode cMod_clear 2 = .ok (.putfield 55, 3) := by decide +kernel
theorem dMod_clear_5 : decode cMod_clear 5 = .ok (.aload_n 0, 1) := by decide +kernel
theorem dMod_clear_6 : decode cMod_clear 6 = .ok (.getfield 59, 3) := by decide +kernel
theorem dMod_clear_9 : decode cMod_clear 9 = .ok (.istore_n 1, 1) := by decide +kernel
theorem dMod_clear_10 : decode cMod_clear 10 = .ok (.aload_n 0, 1) := by decide +kernel
theorem dMod_clear_11 : decode cMod_clear 11 = .ok (.aload_n 0, 1) := by decide +kernel
theorem dMod_clear_12 : decode cMod_clear 12 = .ok (.aload_n 0, 1) := by decide +kernel
theorem dMod_clear_13 : decode cMod_clear 13 = .ok (.aload_n 0, 1) := by decide +kernel
theorem dMod_clear_14 : decode cMod_clear 14 = .ok (.aload_n 0, 1) := by decide +kernel
theorem dMod_clear_15 : decode cMod_clear 15 = .ok (.iconst 0, 1) := by decide +kernel
theorem dMod_clear_16 : decode cMod_clear 16 = .ok (.dup_x1, 1) := by decide +kernel
theorem dMod_clear_17 : decode cMod_clear 17 = .ok (.putfield 87, 3) := by decide +kernel
theorem dMod_clear_20 : decode cMod_clear 20 = .ok (.dup_x1, 1) := by decide +kernel
theorem dMod_clear_21 : decode cMod_clear 21 = .ok (.putfield 69, 3) := by decide +kernel
theorem dMod_clear_24 : decode cMod_clear 24 = .ok (.dup_x1, 1) := by decide +kernel
theorem dMod_clear_25 : decode cMod_clear 25 = .ok (.putfield 66, 3) := by decide +kernel
theorem dMod_clear_28 : decode cMod_clear 28 = .ok (.dup_x1, 1) := by decide +kernel
theorem dMod_clear_29 : decode cMod_clear 29 = .ok (.putfield 76, 3) := by decide +kernel
theorem dMod_clear_32 : decode cMod_clear 32 = .ok (.putfield 59, 3) := by decide +kernel
theorem dMod_clear_35 : decode cMod_clear 35 = .ok (.aload_n 0, 1) := by decide +kernel
theorem dMod_clear_36 : decode cMod_clear 36 = .ok (.iconst 0, 1) := by decide +kernel
theorem dMod_clear_37 : decode cMod_clear 37 = .ok (.putfield 72, 3) := by decide +kernel
theorem dMod_clear_40 : decode cMod_clear 40 = .ok (.iload_n 1, 1) := by decide +kernel
theorem dMod_clear_41 : decode cMod_clear 41 = .ok (.ireturn, 1) := by decide +kernel
theorem dMod_taken_0 : decode cMod_taken 0 = .ok (.aload_n 0, 1) := by decide +kernel
theorem dMod_taken_1 : decode cMod_taken 1 = .ok (.getfield 16, 3) := by decide +kernel
theorem dMod_taken_4 : decode cMod_taken 4 = .ok (.aload_n 0, 1) := by decide +kernel
theorem dMod_taken_5 : decode cMod_taken 5 = .ok (.getfield 25, 3) := by decide +kernel
theorem dMod_taken_8 : decode cMod_taken 8 = .ok (.iload_n 1, 1) := by decide +kernel
theorem dMod_taken_9 : decode cMod_taken 9 = .ok (.iaload, 1) := by decide +kernel
theorem dMod_taken_10 : decode cMod_taken 10 = .ok (.iaload, 1) := by decide +kernel
theorem dMod_taken_11 : decode cMod_taken 11 = .ok (.istore_n 2, 1) := by decide +kernel
theorem dMod_taken_12 : decode cMod_taken 12 = .ok (.iload_n 2, 1) := by decide +kernel
theorem dMod_taken_13 : decode cMod_taken 13 = .ok (.iconst 2, 1) := by decide +kernel
theorem dMod_taken_14 : decode cMod_taken 14 = .ok (.if_icmp .eq 12, 3) := by decide +kernel
theorem dMod_taken_17 : decode cMod_taken 17 = .ok (.aload_n 0, 1) := by decide +kernel
theorem dMod_taken_18 : decode cMod_taken 18 = .ok (.getfield 31, 3) := by decide +kernel
theorem dMod_taken_21 : decode cMod_taken 21 = .ok (.iload_n 1, 1) := by decide +kernel
theorem dMod_taken_22 : decode cMod_taken 22 = .ok (.baload, 1) := by decide +kernel
theorem dMod_taken_23 : decode cMod_taken 23 = .ok (.ifCond .ne 7, 3) := by decide +kernel
theorem dMod_taken_26 : decode cMod_taken 26 = .ok (.iload_n 2, 1) := by decide +kernel
theorem dMod_taken_27 : decode cMod_taken 27 = .ok (.goto 6, 3) := by decide +kernel
theorem dMod_taken_30 : decode cMod_taken 30 = .ok (.iconst 1, 1) := by decide +kernel
theorem dMod_taken_31 : decode cMod_taken 31 = .ok (.iload_n 2, 1) := by decide +kernel
theorem dMod_taken_32 : decode cMod_taken 32 = .ok (.isub, 1) := by decide +kernel
theorem dMod_taken_33 : decode cMod_taken 33 = .ok (.ireturn, 1) := by decide +kernel
theorem dMod_again_0 : decode cMod_again 0 = .ok (.iconst 0, 1) := by decide +kernel
theorem dMod_again_1 : decode cMod_again 1 = .ok (.istore_n 1, 1) := by decide +kernel
theorem dMod_again_2 : decode cMod_again 2 = .ok (.iconst 0, 1) := by decide +kernel
theorem dMod_again_3 : decode cMod_again 3 = .ok (.istore_n 2, 1) := by decide +kernel
theorem dMod_again_4 : decode cMod_again 4 = .ok (.iload_n 2, 1) := by decide +kernel
theorem dMod_again_5 : decode cMod_again 5 = .ok (.aload_n 0, 1) := by decide +kernel
theorem dMod_again_6 : decode cMod_again 6 = .ok (.getfield 59, 3) := by decide +kernel
theorem dMod_again_9 : decode cMod_again 9 = .ok (.if_icmp .ge 30, 3) := by decide +kernel
theorem dMod_again_12 : decode cMod_again 12 = .ok (.aload_n 0, 1) := by decide +kernel
theorem dMod_again_13 : decode cMod_again 13 = .ok (.getfield 19, 3) := by decide +kernel
theorem dMod_again_16 : decode cMod_again 16 = .ok (.iload_n 2, 1) := by decide +kernel
theorem dMod_again_17 : decode cMod_again 17 = .ok (.aload_n 0, 1) := by decide +kernel
theorem dMod_again_18 : decode cMod_again 18 = .ok (.getfield 7, 3) := by decide +kernel
theorem dMod_again_21 : decode cMod_again 21 = .ok (.iload_n 2, 1) := by decide +kernel
theorem dMod_again_22 : decode cMod_again 22 = .ok (.iaload, 1) := by decide +kernel
theorem dMod_again_23 : decode cMod_again 23 = .ok (.iconst 2, 1) := by decide +kernel
theorem dMod_again_24 : decode cMod_again 24 = .ok (.if_icmp .ne 7, 3) := by decide +kernel
theorem dMod_again_27 : decode cMod_again 27 = .ok (.iconst 1, 1) := by decide +kernel
theorem dMod_again_28 : decode cMod_again 28 = .ok (.goto 4, 3) := by decide +kernel
theorem dMod_again_31 : decode cMod_again 31 = .ok (.iconst 0, 1) := by decide +kernel
theorem dMod_again_32 : decode cMod_again 32 = .ok (.iastore, 1) := by decide +kernel
theorem dMod_again_33 : decode cMod_again 33 = .ok (.iinc 2 1, 3) := by decide +kernel
theorem dMod_again_36 : decode cMod_again 36 = .ok (.goto (-32), 3) := by decide +kernel
theorem dMod_again_39 : decode cMod_again 39 = .ok (.iconst 0, 1) := by decide +kernel
theorem dMod_again_40 : decode cMod_again 40 = .ok (.istore_n 2, 1) := by decide +kernel
theorem dMod_again_41 : decode cMod_again 41 = .ok (.iload_n 2, 1) := by decide +kernel
theorem dMod_again_42 : decode cMod_again 42 = .ok (.aload_n 0, 1) := by decide +kernel
theorem dMod_again_43 : decode cMod_again 43 = .ok (.getfield 76, 3) := by decide +kernel
theorem dMod_again_46 : decode cMod_again 46 = .ok (.if_icmp .ge 79, 3) := by decide +kernel
theorem dMod_again_49 : decode cMod_again 49 = .ok (.aload_n 0, 1) := by decide +kernel
theorem dMod_again_50 : decode cMod_again 50 = .ok (.getfield 22, 3) := by decide +kernel
theorem dMod_again_53 : decode cMod_again 53 = .ok (.iload_n 2, 1) := by decide +kernel
theorem dMod_again_54 : decode cMod_again 54 = .ok (.iaload, 1) := by decide +kernel
theorem dMod_again_55 : decode cMod_again 55 = .ok (.istore_n 3, 1) := by decide +kernel
theorem dMod_again_56 : decode cMod_again 56 = .ok (.aload_n 0, 1) := by decide +kernel
theorem dMod_again_57 : decode cMod_again 57 = .ok (.getfield 7, 3) := by decide +kernel
theorem dMod_again_60 : decode cMod_again 60 = .ok (.iload_n 3, 1) := by decide +kernel
theorem dMod_again_61 : decode cMod_again 61 = .ok (.iaload, 1) := by decide +kernel
theorem dMod_again_62 : decode cMod_again 62 = .ok (.iconst 2, 1) := by decide +kernel
theorem dMod_again_63 : decode cMod_again 63 = .ok (.if_icmp .ne 7, 3) := by decide +kernel
theorem dMod_again_66 : decode cMod_again 66 = .ok (.iconst 0, 1) := by decide +kernel
theorem dMod_again_67 : decode cMod_again 67 = .ok (.goto 4, 3) := by decide +kernel
theorem dMod_again_70 : decode cMod_again 70 = .ok (.iconst 1, 1) := by decide +kernel
theorem dMod_again_71 : decode cMod_again 71 = .ok (.istore 4, 2) := by decide +kernel
theorem dMod_again_73 : decode cMod_again 73 = .ok (.aload_n 0, 1) := by decide +kernel
theorem dMod_again_74 : decode cMod_again 74 = .ok (.iload_n 2, 1) := by decide +kernel
theorem dMod_again_75 : decode cMod_again 75 = .ok (.invokevirtual 90, 3) := by decide +kernel
theorem dMod_again_78 : decode cMod_again 78 = .ok (.istore 5, 2) := by decide +kernel
theorem dMod_again_80 : decode cMod_again 80 = .ok (.iload 5, 2) := by decide +kernel
theorem dMod_again_82 : decode cMod_again 82 = .ok (.iload 4, 2) := by decide +kernel
theorem dMod_again_84 : decode cMod_again 84 = .ok (.if_icmp .ne 11, 3) := by decide +kernel
theorem dMod_again_87 : decode cMod_again 87 = .ok (.aload_n 0, 1) := by decide +kernel
theorem dMod_again_88 : decode cMod_again 88 = .ok (.getfield 19, 3) := by decide +kernel
theorem dMod_again_91 : decode cMod_again 91 = .ok (.iload_n 3, 1) := by decide +kernel
theorem dMod_again_92 : decode cMod_again 92 = .ok (.iload 4, 2) := by decide +kernel
theorem dMod_again_94 : decode cMod_again 94 = .ok (.iastore, 1) := by decide +kernel
theorem dMod_again_95 : decode cMod_again 95 = .ok (.iload 5, 2) := by decide +kernel
theorem dMod_again_97 : decode cMod_again 97 = .ok (.iconst 2, 1) := by decide +kernel
theorem dMod_again_98 : decode cMod_again 98 = .ok (.if_icmp .ne 21, 3) := by decide +kernel
theorem dMod_again_101 : decode cMod_again 101 = .ok (.aload_n 0, 1) := by decide +kernel
theorem dMod_again_102 : decode cMod_again 102 = .ok (.getfield 19, 3) := by decide +kernel
theorem dMod_again_105 : decode cMod_again 105 = .ok (.iload_n 3, 1) := by decide +kernel
theorem dMod_again_106 : decode cMod_again 106 = .ok (.iaload, 1) := by decide +kernel
theorem dMod_again_107 : decode cMod_again 107 = .ok (.iload 4, 2) := by decide +kernel
theorem dMod_again_109 : decode cMod_again 109 = .ok (.if_icmp .eq 10, 3) := by decide +kernel
theorem dMod_again_112 : decode cMod_again 112 = .ok (.aload_n 0, 1) := by decide +kernel
theorem dMod_again_113 : decode cMod_again 113 = .ok (.getfield 19, 3) := by decide +kernel
theorem dMod_again_116 : decode cMod_again 116 = .ok (.iload_n 3, 1) := by decide +kernel
theorem dMod_again_117 : decode cMod_again 117 = .ok (.iconst 2, 1) := by decide +kernel
theorem dMod_again_118 : decode cMod_again 118 = .ok (.iastore, 1) := by decide +kernel
theorem dMod_again_119 : decode cMod_again 119 = .ok (.iinc 2 1, 3) := by decide +kernel
theorem dMod_again_122 : decode cMod_again 122 = .ok (.goto (-81), 3) := by decide +kernel
theorem dMod_again_125 : decode cMod_again 125 = .ok (.iconst 0, 1) := by decide +kernel
theorem dMod_again_126 : decode cMod_again 126 = .ok (.istore_n 2, 1) := by decide +kernel
theorem dMod_again_127 : decode cMod_again 127 = .ok (.iload_n 2, 1) := by decide +kernel
theorem dMod_again_128 : decode cMod_again 128 = .ok (.aload_n 0, 1) := by decide +kernel
theorem dMod_again_129 : decode cMod_again 129 = .ok (.getfield 59, 3) := by decide +kernel
theorem dMod_again_132 : decode cMod_again 132 = .ok (.if_icmp .ge 84, 3) := by decide +kernel
theorem dMod_again_135 : decode cMod_again 135 = .ok (.aload_n 0, 1) := by decide +kernel
theorem dMod_again_136 : decode cMod_again 136 = .ok (.getfield 7, 3) := by decide +kernel
theorem dMod_again_139 : decode cMod_again 139 = .ok (.iload_n 2, 1) := by decide +kernel
theorem dMod_again_140 : decode cMod_again 140 = .ok (.iaload, 1) := by decide +kernel
theorem dMod_again_141 : decode cMod_again 141 = .ok (.iconst 2, 1) := by decide +kernel
theorem dMod_again_142 : decode cMod_again 142 = .ok (.if_icmp .lt 27, 3) := by decide +kernel
theorem dMod_again_145 : decode cMod_again 145 = .ok (.aload_n 0, 1) := by decide +kernel
theorem dMod_again_146 : decode cMod_again 146 = .ok (.getfield 16, 3) := by decide +kernel
theorem dMod_again_149 : decode cMod_again 149 = .ok (.iload_n 2, 1) := by decide +kernel
theorem dMod_again_150 : decode cMod_again 150 = .ok (.iaload, 1) := by decide +kernel
theorem dMod_again_151 : decode cMod_again 151 = .ok (.iconst 2, 1) := by decide +kernel
theorem dMod_again_152 : decode cMod_again 152 = .ok (.if_icmp .ne 17, 3) := by decide +kernel
theorem dMod_again_155 : decode cMod_again 155 = .ok (.aload_n 0, 1) := by decide +kernel
theorem dMod_again_156 : decode cMod_again 156 = .ok (.getfield 19, 3) := by decide +kernel
theorem dMod_again_159 : decode cMod_again 159 = .ok (.iload_n 2, 1) := by decide +kernel
theorem dMod_again_160 : decode cMod_again 160 = .ok (.iaload, 1) := by decide +kernel
theorem dMod_again_161 : decode cMod_again 161 = .ok (.iconst 2, 1) := by decide +kernel
theorem dMod_again_162 : decode cMod_again 162 = .ok (.if_icmp .eq 7, 3) := by decide +kernel
theorem dMod_again_165 : decode cMod_again 165 = .ok (.iconst 1, 1) := by decide +kernel
theorem dMod_again_166 : decode cMod_again 166 = .ok (.goto 4, 3) := by decide +kernel
theorem dMod_again_169 : decode cMod_again 169 = .ok (.iconst 0, 1) := by decide +kernel
theorem dMod_again_170 : decode cMod_again 170 = .ok (.istore_n 3, 1) := by decide +kernel
theorem dMod_again_171 : decode cMod_again 171 = .ok (.aload_n 0, 1) := by decide +kernel
theorem dMod_again_172 : decode cMod_again 172 = .ok (.getfield 16, 3) := by decide +kernel
theorem dMod_again_175 : decode cMod_again 175 = .ok (.iload_n 2, 1) := by decide +kernel
theorem dMod_again_176 : decode cMod_again 176 = .ok (.iload_n 3, 1) := by decide +kernel
theorem dMod_again_177 : decode cMod_again 177 = .ok (.ifCond .eq 12, 3) := by decide +kernel
theorem dMod_again_180 : decode cMod_again 180 = .ok (.aload_n 0, 1) := by decide +kernel
theorem dMod_again_181 : decode cMod_again 181 = .ok (.getfield 19, 3) := by decide +kernel
theorem dMod_again_184 : decode cMod_again 184 = .ok (.iload_n 2, 1) := by decide +kernel
theorem dMod_again_185 : decode cMod_again 185 = .ok (.iaload, 1) := by decide +kernel
theorem dMod_again_186 : decode cMod_again 186 = .ok (.goto 9, 3) := by decide +kernel
theorem dMod_again_189 : decode cMod_again 189 = .ok (.aload_n 0, 1) := by decide +kernel
theorem dMod_again_190 : decode cMod_again 190 = .ok (.getfield 16, 3) := by decide +kernel
theorem dMod_again_193 : decode cMod_again 193 = .ok (.iload_n 2, 1) := by decide +kernel
theorem dMod_again_194 : decode cMod_again 194 = .ok (.iaload, 1) := by decide +kernel
theorem dMod_again_195 : decode cMod_again 195 = .ok (.iastore, 1) := by decide +kernel
theorem dMod_again_196 : decode cMod_again 196 = .ok (.iload_n 1, 1) := by decide +kernel
theorem dMod_again_197 : decode cMod_again 197 = .ok (.ifCond .ne 7, 3) := by decide +kernel
theorem dMod_again_200 : decode cMod_again 200 = .ok (.iload_n 3, 1) := by decide +kernel
theorem dMod_again_201 : decode cMod_again 201 = .ok (.ifCond .eq 7, 3) := by decide +kernel
theorem dMod_again_204 : decode cMod_again 204 = .ok (.iconst 1, 1) := by decide +kernel
theorem dMod_again_205 : decode cMod_again 205 = .ok (.goto 4, 3) := by decide +kernel
theorem dMod_again_208 : decode cMod_again 208 = .ok (.iconst 0, 1) := by decide +kernel
theorem dMod_again_209 : decode cMod_again 209 = .ok (.istore_n 1, 1) := by decide +kernel
theorem dMod_again_210 : decode cMod_again 210 = .ok (.iinc 2 1, 3) := by decide +kernel
theorem dMod_again_213 : decode cMod_again 213 = .ok (.goto (-86), 3) := by decide +kernel
theorem dMod_again_216 : decode cMod_again 216 = .ok (.iload_n 1, 1) := by decide +kernel
theorem dMod_again_217 : decode cMod_again 217 = .ok (.ireturn, 1) := by decide +kernel
theorem dMod_work_0 : decode cMod_work 0 = .ok (.bipush 16, 2) := by decide +kernel
theorem dMod_work_2 : decode cMod_work 2 = .ok (.iload_n 1, 1) := by decide +kernel
theorem dMod_work_3 : decode cMod_work 3 = .ok (.imul, 1) := by decide +kernel
theorem dMod_work_4 : decode cMod_work 4 = .ok (.iload_n 2, 1) := by decide +kernel
theorem dMod_work_5 : decode cMod_work 5 = .ok (.iadd, 1) := by decide +kernel
theorem dMod_work_6 : decode cMod_work 6 = .ok (.istore_n 3, 1) := by decide +kernel
theorem dMod_work_7 : decode cMod_work 7 = .ok (.iconst 0, 1) := by decide +kernel
theorem dMod_work_8 : decode cMod_work 8 = .ok (.istore 4, 2) := by decide +kernel
theorem dMod_work_10 : decode cMod_work 10 = .ok (.iload 4, 2) := by decide +kernel
theorem dMod_work_12 : decode cMod_work 12 = .ok (.aload_n 0, 1) := by decide +kernel
theorem dMod_work_13 : decode cMod_work 13 = .ok (.getfield 59, 3) := by decide +kernel
theorem dMod_work_16 : decode cMod_work 16 = .ok (.if_icmp .ge 66, 3) := by decide +kernel
theorem dMod_work_19 : decode cMod_work 19 = .ok (.aload_n 0, 1) := by decide +kernel
theorem dMod_work_20 : decode cMod_work 20 = .ok (.getfield 16, 3) := by decide +kernel
theorem dMod_work_23 : decode cMod_work 23 = .ok (.iload 4, 2) := by decide +kernel
theorem dMod_work_25 : decode cMod_work 25 = .ok (.aload_n 0, 1) := by decide +kernel
theorem dMod_work_26 : decode cMod_work 26 = .ok (.getfield 7, 3) := by decide +kernel
theorem dMod_work_29 : decode cMod_work 29 = .ok (.iload 4, 2) := by decide +kernel
theorem dMod_work_31 : decode cMod_work 31 = .ok (.iaload, 1) := by decide +kernel
theorem dMod_work_32 : decode cMod_work 32 = .ok (.ifCond .ne 17, 3) := by decide +kernel
theorem dMod_work_35 : decode cMod_work 35 = .ok (.iload_n 2, 1) := by decide +kernel
theorem dMod_work_36 : decode cMod_work 36 = .ok (.aload_n 0, 1) := by decide +kernel
theorem dMod_work_37 : decode cMod_work 37 = .ok (.getfield 13, 3) := by decide +kernel
theorem dMod_work_40 : decode cMod_work 40 = .ok (.iload 4, 2) := by decide +kernel
theorem dMod_work_42 : decode cMod_work 42 = .ok (.iaload, 1) := by decide +kernel
theorem dMod_work_43 : decode cMod_work 43 = .ok (.ishr, 1) := by decide +kernel
theorem dMod_work_44 : decode cMod_work 44 = .ok (.iconst 1, 1) := by decide +kernel
theorem dMod_work_45 : decode cMod_work 45 = .ok (.iand, 1) := by decide +kernel
theorem dMod_work_46 : decode cMod_work 46 = .ok (.goto 29, 3) := by decide +kernel
theorem dMod_work_49 : decode cMod_work 49 = .ok (.aload_n 0, 1) := by decide +kernel
theorem dMod_work_50 : decode cMod_work 50 = .ok (.getfield 7, 3) := by decide +kernel
theorem dMod_work_53 : decode cMod_work 53 = .ok (.iload 4, 2) := by decide +kernel
theorem dMod_work_55 : decode cMod_work 55 = .ok (.iaload, 1) := by decide +kernel
theorem dMod_work_56 : decode cMod_work 56 = .ok (.iconst 1, 1) := by decide +kernel
theorem dMod_work_57 : decode cMod_work 57 = .ok (.if_icmp .ne 17, 3) := by decide +kernel
theorem dMod_work_60 : decode cMod_work 60 = .ok (.iload_n 1, 1) := by decide +kernel
theorem dMod_work_61 : decode cMod_work 61 = .ok (.aload_n 0, 1) := by decide +kernel
theorem dMod_work_62 : decode cMod_work 62 = .ok (.getfield 13, 3) := by decide +kernel
theorem dMod_work_65 : decode cMod_work 65 = .ok (.iload 4, 2) := by decide +kernel
theorem dMod_work_67 : decode cMod_work 67 = .ok (.iaload, 1) := by decide +kernel
theorem dMod_work_68 : decode cMod_work 68 = .ok (.ishr, 1) := by decide +kernel
theorem dMod_work_69 : decode cMod_work 69 = .ok (.iconst 1, 1) := by decide +kernel
theorem dMod_work_70 : decode cMod_work 70 = .ok (.iand, 1) := by decide +kernel
theorem dMod_work_71 : decode cMod_work 71 = .ok (.goto 4, 3) := by decide +kernel
theorem dMod_work_74 : decode cMod_work 74 = .ok (.iconst 2, 1) := by decide +kernel
theorem dMod_work_75 : decode cMod_work 75 = .ok (.iastore, 1) := by decide +kernel
theorem dMod_work_76 : decode cMod_work 76 = .ok (.iinc 4 1, 3) := by decide +kernel
theorem dMod_work_79 : decode cMod_work 79 = .ok (.goto (-69), 3) := by decide +kernel
theorem dMod_work_82 : decode cMod_work 82 = .ok (.iconst 1, 1) := by decide +kernel
theorem dMod_work_83 : decode cMod_work 83 = .ok (.istore 4, 2) := by decide +kernel
theorem dMod_work_85 : decode cMod_work 85 = .ok (.iload 4, 2) := by decide +kernel
theorem dMod_work_87 : decode cMod_work 87 = .ok (.ifCond .eq 12, 3) := by decide +kernel
theorem dMod_work_90 : decode cMod_work 90 = .ok (.aload_n 0, 1) := by decide +kernel
theorem dMod_work_91 : decode cMod_work 91 = .ok (.invokevirtual 93, 3) := by decide +kernel
theorem dMod_work_94 : decode cMod_work 94 = .ok (.istore 4, 2) := by decide +kernel
theorem dMod_work_96 : decode cMod_work 96 = .ok (.goto (-11), 3) := by decide +kernel
theorem dMod_work_99 : decode cMod_work 99 = .ok (.aload_n 0, 1) := by decide +kernel
theorem dMod_work_100 : decode cMod_work 100 = .ok (.getfield 35, 3) := by decide +kernel
theorem dMod_work_103 : decode cMod_work 103 = .ok (.iload_n 3, 1) := by decide +kernel
theorem dMod_work_104 : decode cMod_work 104 = .ok (.iconst 1, 1) := by decide +kernel
theorem dMod_work_105 : decode cMod_work 105 = .ok (.bastore, 1) := by decide +kernel
theorem dMod_work_106 : decode cMod_work 106 = .ok (.aload_n 0, 1) := by decide +kernel
theorem dMod_work_107 : decode cMod_work 107 = .ok (.getfield 41, 3) := by decide +kernel
theorem dMod_work_110 : decode cMod_work 110 = .ok (.iload_n 3, 1) := by decide +kernel
theorem dMod_work_111 : decode cMod_work 111 = .ok (.lconst 0, 1) := by decide +kernel
theorem dMod_work_112 : decode cMod_work 112 = .ok (.lastore, 1) := by decide +kernel
theorem dMod_work_113 : decode cMod_work 113 = .ok (.iconst 0, 1) := by decide +kernel
theorem dMod_work_114 : decode cMod_work 114 = .ok (.istore 5, 2) := by decide +kernel
theorem dMod_work_116 : decode cMod_work 116 = .ok (.iload 5, 2) := by decide +kernel
theorem dMod_work_118 : decode cMod_work 118 = .ok (.aload_n 0, 1) := by decide +kernel
theorem dMod_work_119 : decode cMod_work 119 = .ok (.getfield 59, 3) := by decide +kernel
theorem dMod_work_122 : decode cMod_work 122 = .ok (.if_icmp .ge 77, 3) := by decide +kernel
theorem dMod_work_125 : decode cMod_work 125 = .ok (.aload_n 0, 1) := by decide +kernel
theorem dMod_work_126 : decode cMod_work 126 = .ok (.getfield 35, 3) := by decide +kernel
theorem dMod_work_129 : decode cMod_work 129 = .ok (.iload_n 3, 1) := by decide +kernel
theorem dMod_work_130 : decode cMod_work 130 = .ok (.aload_n 0, 1) := by decide +kernel
theorem dMod_work_131 : decode cMod_work 131 = .ok (.getfield 35, 3) := by decide +kernel
theorem dMod_work_134 : decode cMod_work 134 = .ok (.iload_n 3, 1) := by decide +kernel
theorem dMod_work_135 : decode cMod_work 135 = .ok (.baload, 1) := by decide +kernel
theorem dMod_work_136 : decode cMod_work 136 = .ok (.ifCond .eq 18, 3) := by decide +kernel
theorem dMod_work_139 : decode cMod_work 139 = .ok (.aload_n 0, 1) := by decide +kernel
theorem dMod_work_140 : decode cMod_work 140 = .ok (.getfield 16, 3) := by decide +kernel
theorem dMod_work_143 : decode cMod_work 143 = .ok (.iload 5, 2) := by decide +kernel
theorem dMod_work_145 : decode cMod_work 145 = .ok (.iaload, 1) := by decide +kernel
theorem dMod_work_146 : decode cMod_work 146 = .ok (.iconst 2, 1) := by decide +kernel
theorem dMod_work_147 : decode cMod_work 147 = .ok (.if_icmp .eq 7, 3) := by decide +kernel
theorem dMod_work_150 : decode cMod_work 150 = .ok (.iconst 1, 1) := by decide +kernel
theorem dMod_work_151 : decode cMod_work 151 = .ok (.goto 4, 3) := by decide +kernel
theorem dMod_work_154 : decode cMod_work 154 = .ok (.iconst 0, 1) := by decide +kernel
theorem dMod_work_155 : decode cMod_work 155 = .ok (.bastore, 1) := by decide +kernel
theorem dMod_work_156 : decode cMod_work 156 = .ok (.aload_n 0, 1) := by decide +kernel
theorem dMod_work_157 : decode cMod_work 157 = .ok (.getfield 41, 3) := by decide +kernel
theorem dMod_work_160 : decode cMod_work 160 = .ok (.iload_n 3, 1) := by decide +kernel
theorem dMod_work_161 : decode cMod_work 161 = .ok (.aload_n 0, 1) := by decide +kernel
theorem dMod_work_162 : decode cMod_work 162 = .ok (.getfield 16, 3) := by decide +kernel
theorem dMod_work_165 : decode cMod_work 165 = .ok (.iload 5, 2) := by decide +kernel
theorem dMod_work_167 : decode cMod_work 167 = .ok (.iaload, 1) := by decide +kernel
theorem dMod_work_168 : decode cMod_work 168 = .ok (.iconst 1, 1) := by decide +kernel
theorem dMod_work_169 : decode cMod_work 169 = .ok (.if_icmp .ne 17, 3) := by decide +kernel
theorem dMod_work_172 : decode cMod_work 172 = .ok (.aload_n 0, 1) := by decide +kernel
theorem dMod_work_173 : decode cMod_work 173 = .ok (.getfield 41, 3) := by decide +kernel
theorem dMod_work_176 : decode cMod_work 176 = .ok (.iload_n 3, 1) := by decide +kernel
theorem dMod_work_177 : decode cMod_work 177 = .ok (.laload, 1) := by decide +kernel
theorem dMod_work_178 : decode cMod_work 178 = .ok (.lconst 1, 1) := by decide +kernel
theorem dMod_work_179 : decode cMod_work 179 = .ok (.iload 5, 2) := by decide +kernel
theorem dMod_work_181 : decode cMod_work 181 = .ok (.lshl, 1) := by decide +kernel
theorem dMod_work_182 : decode cMod_work 182 = .ok (.lor, 1) := by decide +kernel
theorem dMod_work_183 : decode cMod_work 183 = .ok (.goto 9, 3) := by decide +kernel
theorem dMod_work_186 : decode cMod_work 186 = .ok (.aload_n 0, 1) := by decide +kernel
theorem dMod_work_187 : decode cMod_work 187 = .ok (.getfield 41, 3) := by decide +kernel
theorem dMod_work_190 : decode cMod_work 190 = .ok (.iload_n 3, 1) := by decide +kernel
theorem dMod_work_191 : decode cMod_work 191 = .ok (.laload, 1) := by decide +kernel
theorem dMod_work_192 : decode cMod_work 192 = .ok (.lastore, 1) := by decide +kernel
theorem dMod_work_193 : decode cMod_work 193 = .ok (.iinc 5 1, 3) := by decide +kernel
theorem dMod_work_196 : decode cMod_work 196 = .ok (.goto (-80), 3) := by decide +kernel
theorem dMod_work_199 : decode cMod_work 199 = .ok (.aload_n 0, 1) := by decide +kernel
theorem dMod_work_200 : decode cMod_work 200 = .ok (.getfield 38, 3) := by decide +kernel
theorem dMod_work_203 : decode cMod_work 203 = .ok (.iload_n 3, 1) := by decide +kernel
theorem dMod_work_204 : decode cMod_work 204 = .ok (.iload_n 1, 1) := by decide +kernel
theorem dMod_work_205 : decode cMod_work 205 = .ok (.iastore, 1) := by decide +kernel
theorem dMod_work_206 : decode cMod_work 206 = .ok (.iconst 0, 1) := by decide +kernel
theorem dMod_work_207 : decode cMod_work 207 = .ok (.istore 5, 2) := by decide +kernel
theorem dMod_work_209 : decode cMod_work 209 = .ok (.iload 5, 2) := by decide +kernel
theorem dMod_work_211 : decode cMod_work 211 = .ok (.aload_n 0, 1) := by decide +kernel
theorem dMod_work_212 : decode cMod_work 212 = .ok (.getfield 76, 3) := by decide +kernel
theorem dMod_work_215 : decode cMod_work 215 = .ok (.if_icmp .ge 83, 3) := by decide +kernel
theorem dMod_work_218 : decode cMod_work 218 = .ok (.aload_n 0, 1) := by decide +kernel
theorem dMod_work_219 : decode cMod_work 219 = .ok (.getfield 35, 3) := by decide +kernel
theorem dMod_work_222 : decode cMod_work 222 = .ok (.iload_n 3, 1) := by decide +kernel
theorem dMod_work_223 : decode cMod_work 223 = .ok (.baload, 1) := by decide +kernel
theorem dMod_work_224 : decode cMod_work 224 = .ok (.ifCond .eq 74, 3) := by decide +kernel
theorem dMod_work_227 : decode cMod_work 227 = .ok (.aload_n 0, 1) := by decide +kernel
theorem dMod_work_228 : decode cMod_work 228 = .ok (.getfield 7, 3) := by decide +kernel
theorem dMod_work_231 : decode cMod_work 231 = .ok (.aload_n 0, 1) := by decide +kernel
theorem dMod_work_232 : decode cMod_work 232 = .ok (.getfield 22, 3) := by decide +kernel
theorem dMod_work_235 : decode cMod_work 235 = .ok (.iload 5, 2) := by decide +kernel
theorem dMod_work_237 : decode cMod_work 237 = .ok (.iaload, 1) := by decide +kernel
theorem dMod_work_238 : decode cMod_work 238 = .ok (.iaload, 1) := by decide +kernel
theorem dMod_work_239 : decode cMod_work 239 = .ok (.iconst 1, 1) := by decide +kernel
theorem dMod_work_240 : decode cMod_work 240 = .ok (.if_icmp .ne 52, 3) := by decide +kernel
theorem dMod_work_243 : decode cMod_work 243 = .ok (.aload_n 0, 1) := by decide +kernel
theorem dMod_work_244 : decode cMod_work 244 = .ok (.getfield 38, 3) := by decide +kernel
theorem dMod_work_247 : decode cMod_work 247 = .ok (.iload_n 3, 1) := by decide +kernel
theorem dMod_work_248 : decode cMod_work 248 = .ok (.aload_n 0, 1) := by decide +kernel
theorem dMod_work_249 : decode cMod_work 249 = .ok (.getfield 38, 3) := by decide +kernel
theorem dMod_work_252 : decode cMod_work 252 = .ok (.iload_n 3, 1) := by decide +kernel
theorem dMod_work_253 : decode cMod_work 253 = .ok (.iaload, 1) := by decide +kernel
theorem dMod_work_254 : decode cMod_work 254 = .ok (.iconst 1, 1) := by decide +kernel
theorem dMod_work_255 : decode cMod_work 255 = .ok (.aload_n 0, 1) := by decide +kernel
theorem dMod_work_256 : decode cMod_work 256 = .ok (.getfield 13, 3) := by decide +kernel
theorem dMod_work_259 : decode cMod_work 259 = .ok (.aload_n 0, 1) := by decide +kernel
theorem dMod_work_260 : decode cMod_work 260 = .ok (.getfield 22, 3) := by decide +kernel
theorem dMod_work_263 : decode cMod_work 263 = .ok (.iload 5, 2) := by decide +kernel
theorem dMod_work_265 : decode cMod_work 265 = .ok (.iaload, 1) := by decide +kernel
theorem dMod_work_266 : decode cMod_work 266 = .ok (.iaload, 1) := by decide +kernel
theorem dMod_work_267 : decode cMod_work 267 = .ok (.ishl, 1) := by decide +kernel
theorem dMod_work_268 : decode cMod_work 268 = .ok (.iconst (-1), 1) := by decide +kernel
theorem dMod_work_269 : decode cMod_work 269 = .ok (.ixor, 1) := by decide +kernel
theorem dMod_work_270 : decode cMod_work 270 = .ok (.iand, 1) := by decide +kernel
theorem dMod_work_271 : decode cMod_work 271 = .ok (.aload_n 0, 1) := by decide +kernel
theorem dMod_work_272 : decode cMod_work 272 = .ok (.iload 5, 2) := by decide +kernel
theorem dMod_work_274 : decode cMod_work 274 = .ok (.invokevirtual 90, 3) := by decide +kernel
theorem dMod_work_277 : decode cMod_work 277 = .ok (.aload_n 0, 1) := by decide +kernel
theorem dMod_work_278 : decode cMod_work 278 = .ok (.getfield 13, 3) := by decide +kernel
theorem dMod_work_281 : decode cMod_work 281 = .ok (.aload_n 0, 1) := by decide +kernel
theorem dMod_work_282 : decode cMod_work 282 = .ok (.getfield 22, 3) := by decide +kernel
theorem dMod_work_285 : decode cMod_work 285 = .ok (.iload 5, 2) := by decide +kernel
theorem dMod_work_287 : decode cMod_work 287 = .ok (.iaload, 1) := by decide +kernel
theorem dMod_work_288 : decode cMod_work 288 = .ok (.iaload, 1) := by decide +kernel
theorem dMod_work_289 : decode cMod_work 289 = .ok (.ishl, 1) := by decide +kernel
theorem dMod_work_290 : decode cMod_work 290 = .ok (.ior, 1) := by decide +kernel
theorem dMod_work_291 : decode cMod_work 291 = .ok (.iastore, 1) := by decide +kernel
theorem dMod_work_292 : decode cMod_work 292 = .ok (.iinc 5 1, 3) := by decide +kernel
theorem dMod_work_295 : decode cMod_work 295 = .ok (.goto (-86), 3) := by decide +kernel
theorem dMod_work_298 : decode cMod_work 298 = .ok (.return_, 1) := by decide +kernel
theorem dMod_states_0 : decode cMod_states 0 = .ok (.iconst 1, 1) := by decide +kernel
theorem dMod_states_1 : decode cMod_states 1 = .ok (.aload_n 0, 1) := by decide +kernel
theorem dMod_states_2 : decode cMod_states 2 = .ok (.getfield 69, 3) := by decide +kernel
theorem dMod_states_5 : decode cMod_states 5 = .ok (.ishl, 1) := by decide +kernel
theorem dMod_states_6 : decode cMod_states 6 = .ok (.ireturn, 1) := by decide +kernel
theorem dMod_choices_0 : decode cMod_choices 0 = .ok (.iconst 1, 1) := by decide +kernel
theorem dMod_choices_1 : decode cMod_choices 1 = .ok (.aload_n 0, 1) := by decide +kernel
theorem dMod_choices_2 : decode cMod_choices 2 = .ok (.getfield 66, 3) := by decide +kernel
theorem dMod_choices_5 : decode cMod_choices 5 = .ok (.ishl, 1) := by decide +kernel
theorem dMod_choices_6 : decode cMod_choices 6 = .ok (.ireturn, 1) := by decide +kernel
theorem dMod_explore_0 : decode cMod_explore 0 = .ok (.aload_n 0, 1) := by decide +kernel
theorem dMod_explore_1 : decode cMod_explore 1 = .ok (.iconst 0, 1) := by decide +kernel
theorem dMod_explore_2 : decode cMod_explore 2 = .ok (.putfield 55, 3) := by decide +kernel
theorem dMod_explore_5 : decode cMod_explore 5 = .ok (.iconst 0, 1) := by decide +kernel
theorem dMod_explore_6 : decode cMod_explore 6 = .ok (.istore_n 1, 1) := by decide +kernel
theorem dMod_explore_7 : decode cMod_explore 7 = .ok (.iload_n 1, 1) := by decide +kernel
theorem dMod_explore_8 : decode cMod_explore 8 = .ok (.aload_n 0, 1) := by decide +kernel
theorem dMod_explore_9 : decode cMod_explore 9 = .ok (.invokevirtual 97, 3) := by decide +kernel
theorem dMod_explore_12 : decode cMod_explore 12 = .ok (.if_icmp .ge 46, 3) := by decide +kernel
theorem dMod_explore_15 : decode cMod_explore 15 = .ok (.aload_n 0, 1) := by decide +kernel
theorem dMod_explore_16 : decode cMod_explore 16 = .ok (.getfield 45, 3) := by decide +kernel
theorem dMod_explore_19 : decode cMod_explore 19 = .ok (.iload_n 1, 1) := by decide +kernel
theorem dMod_explore_20 : decode cMod_explore 20 = .ok (.iload_n 1, 1) := by decide +kernel
theorem dMod_explore_21 : decode cMod_explore 21 = .ok (.ifCond .ne 7, 3) := by decide +kernel
theorem dMod_explore_24 : decode cMod_explore 24 = .ok (.iconst 0, 1) := by decide +kernel
theorem dMod_explore_25 : decode cMod_explore 25 = .ok (.goto 4, 3) := by decide +kernel
theorem dMod_explore_28 : decode cMod_explore 28 = .ok (.iconst (-1), 1) := by decide +kernel
theorem dMod_explore_29 : decode cMod_explore 29 = .ok (.iastore, 1) := by decide +kernel
theorem dMod_explore_30 : decode cMod_explore 30 = .ok (.iconst 0, 1) := by decide +kernel
theorem dMod_explore_31 : decode cMod_explore 31 = .ok (.istore_n 2, 1) := by decide +kernel
theorem dMod_explore_32 : decode cMod_explore 32 = .ok (.iload_n 2, 1) := by decide +kernel
theorem dMod_explore_33 : decode cMod_explore 33 = .ok (.aload_n 0, 1) := by decide +kernel
theorem dMod_explore_34 : decode cMod_explore 34 = .ok (.invokevirtual 101, 3) := by decide +kernel
theorem dMod_explore_37 : decode cMod_explore 37 = .ok (.if_icmp .ge 15, 3) := by decide +kernel
theorem dMod_explore_40 : decode cMod_explore 40 = .ok (.aload_n 0, 1) := by decide +kernel
theorem dMod_explore_41 : decode cMod_explore 41 = .ok (.iload_n 1, 1) := by decide +kernel
theorem dMod_explore_42 : decode cMod_explore 42 = .ok (.iload_n 2, 1) := by decide +kernel
theorem dMod_explore_43 : decode cMod_explore 43 = .ok (.invokevirtual 104, 3) := by decide +kernel
theorem dMod_explore_46 : decode cMod_explore 46 = .ok (.iinc 2 1, 3) := by decide +kernel
theorem dMod_explore_49 : decode cMod_explore 49 = .ok (.goto (-17), 3) := by decide +kernel
theorem dMod_explore_52 : decode cMod_explore 52 = .ok (.iinc 1 1, 3) := by decide +kernel
theorem dMod_explore_55 : decode cMod_explore 55 = .ok (.goto (-48), 3) := by decide +kernel
theorem dMod_explore_58 : decode cMod_explore 58 = .ok (.iconst 1, 1) := by decide +kernel
theorem dMod_explore_59 : decode cMod_explore 59 = .ok (.istore_n 1, 1) := by decide +kernel
theorem dMod_explore_60 : decode cMod_explore 60 = .ok (.iconst 0, 1) := by decide +kernel
theorem dMod_explore_61 : decode cMod_explore 61 = .ok (.istore_n 2, 1) := by decide +kernel
theorem dMod_explore_62 : decode cMod_explore 62 = .ok (.iload_n 1, 1) := by decide +kernel
theorem dMod_explore_63 : decode cMod_explore 63 = .ok (.ifCond .eq 110, 3) := by decide +kernel
theorem dMod_explore_66 : decode cMod_explore 66 = .ok (.iconst 0, 1) := by decide +kernel
theorem dMod_explore_67 : decode cMod_explore 67 = .ok (.istore_n 1, 1) := by decide +kernel
theorem dMod_explore_68 : decode cMod_explore 68 = .ok (.iconst 0, 1) := by decide +kernel
theorem dMod_explore_69 : decode cMod_explore 69 = .ok (.istore_n 3, 1) := by decide +kernel
theorem dMod_explore_70 : decode cMod_explore 70 = .ok (.iload_n 3, 1) := by decide +kernel
theorem dMod_explore_71 : decode cMod_explore 71 = .ok (.aload_n 0, 1) := by decide +kernel
theorem dMod_explore_72 : decode cMod_explore 72 = .ok (.invokevirtual 97, 3) := by decide +kernel
theorem dMod_explore_75 : decode cMod_explore 75 = .ok (.if_icmp .ge 92, 3) := by decide +kernel
theorem dMod_explore_78 : decode cMod_explore 78 = .ok (.iconst 0, 1) := by decide +kernel
theorem dMod_explore_79 : decode cMod_explore 79 = .ok (.istore 4, 2) := by decide +kernel
theorem dMod_explore_81 : decode cMod_explore 81 = .ok (.iload 4, 2) := by decide +kernel
theorem dMod_explore_83 : decode cMod_explore 83 = .ok (.aload_n 0, 1) := by decide +kernel
theorem dMod_explore_84 : decode cMod_explore 84 = .ok (.invokevirtual 101, 3) := by decide +kernel
theorem dMod_explore_87 : decode cMod_explore 87 = .ok (.if_icmp .ge 74, 3) := by decide +kernel
theorem dMod_explore_90 : decode cMod_explore 90 = .ok (.aload_n 0, 1) := by decide +kernel
theorem dMod_explore_91 : decode cMod_explore 91 = .ok (.getfield 45, 3) := by decide +kernel
theorem dMod_explore_94 : decode cMod_explore 94 = .ok (.iload_n 3, 1) := by decide +kernel
theorem dMod_explore_95 : decode cMod_explore 95 = .ok (.iaload, 1) := by decide +kernel
theorem dMod_explore_96 : decode cMod_explore 96 = .ok (.iload_n 2, 1) := by decide +kernel
theorem dMod_explore_97 : decode cMod_explore 97 = .ok (.if_icmp .ne 64, 3) := by decide +kernel
theorem dMod_explore_100 : decode cMod_explore 100 = .ok (.aload_n 0, 1) := by decide +kernel
theorem dMod_explore_101 : decode cMod_explore 101 = .ok (.getfield 38, 3) := by decide +kernel
theorem dMod_explore_104 : decode cMod_explore 104 = .ok (.bipush 16, 2) := by decide +kernel
theorem dMod_explore_106 : decode cMod_explore 106 = .ok (.iload_n 3, 1) := by decide +kernel
theorem dMod_explore_107 : decode cMod_explore 107 = .ok (.imul, 1) := by decide +kernel
theorem dMod_explore_108 : decode cMod_explore 108 = .ok (.iload 4, 2) := by decide +kernel
theorem dMod_explore_110 : decode cMod_explore 110 = .ok (.iadd, 1) := by decide +kernel
theorem dMod_explore_111 : decode cMod_explore 111 = .ok (.iaload, 1) := by decide +kernel
theorem dMod_explore_112 : decode cMod_explore 112 = .ok (.istore 5, 2) := by decide +kernel
theorem dMod_explore_114 : decode cMod_explore 114 = .ok (.aload_n 0, 1) := by decide +kernel
theorem dMod_explore_115 : decode cMod_explore 115 = .ok (.getfield 35, 3) := by decide +kernel
theorem dMod_explore_118 : decode cMod_explore 118 = .ok (.bipush 16, 2) := by decide +kernel
theorem dMod_explore_120 : decode cMod_explore 120 = .ok (.iload_n 3, 1) := by decide +kernel
theorem dMod_explore_121 : decode cMod_explore 121 = .ok (.imul, 1) := by decide +kernel
theorem dMod_explore_122 : decode cMod_explore 122 = .ok (.iload 4, 2) := by decide +kernel
theorem dMod_explore_124 : decode cMod_explore 124 = .ok (.iadd, 1) := by decide +kernel
theorem dMod_explore_125 : decode cMod_explore 125 = .ok (.baload, 1) := by decide +kernel
theorem dMod_explore_126 : decode cMod_explore 126 = .ok (.ifCond .eq 29, 3) := by decide +kernel
theorem dMod_explore_129 : decode cMod_explore 129 = .ok (.aload_n 0, 1) := by decide +kernel
theorem dMod_explore_130 : decode cMod_explore 130 = .ok (.getfield 45, 3) := by decide +kernel
theorem dMod_explore_133 : decode cMod_explore 133 = .ok (.iload 5, 2) := by decide +kernel
theorem dMod_explore_135 : decode cMod_explore 135 = .ok (.iaload, 1) := by decide +kernel
theorem dMod_explore_136 : decode cMod_explore 136 = .ok (.iconst (-1), 1) := by decide +kernel
theorem dMod_explore_137 : decode cMod_explore 137 = .ok (.if_icmp .eq 6, 3) := by decide +kernel
theorem dMod_explore_140 : decode cMod_explore 140 = .ok (.goto 15, 3) := by decide +kernel
theorem dMod_explore_143 : decode cMod_explore 143 = .ok (.aload_n 0, 1) := by decide +kernel
theorem dMod_explore_144 : decode cMod_explore 144 = .ok (.getfield 45, 3) := by decide +kernel
theorem dMod_explore_147 : decode cMod_explore 147 = .ok (.iload 5, 2) := by decide +kernel
theorem dMod_explore_149 : decode cMod_explore 149 = .ok (.iload_n 2, 1) := by decide +kernel
theorem dMod_explore_150 : decode cMod_explore 150 = .ok (.iconst 1, 1) := by decide +kernel
theorem dMod_explore_151 : decode cMod_explore 151 = .ok (.iadd, 1) := by decide +kernel
theorem dMod_explore_152 : decode cMod_explore 152 = .ok (.iastore, 1) := by decide +kernel
theorem dMod_explore_153 : decode cMod_explore 153 = .ok (.iconst 1, 1) := by decide +kernel
theorem dMod_explore_154 : decode cMod_explore 154 = .ok (.istore_n 1, 1) := by decide +kernel
theorem dMod_explore_155 : decode cMod_explore 155 = .ok (.iinc 4 1, 3) := by decide +kernel
theorem dMod_explore_158 : decode cMod_explore 158 = .ok (.goto (-77), 3) := by decide +kernel
theorem dMod_explore_161 : decode cMod_explore 161 = .ok (.iinc 3 1, 3) := by decide +kernel
theorem dMod_explore_164 : decode cMod_explore 164 = .ok (.goto (-94), 3) := by decide +kernel
theorem dMod_explore_167 : decode cMod_explore 167 = .ok (.iinc 2 1, 3) := by decide +kernel
theorem dMod_explore_170 : decode cMod_explore 170 = .ok (.goto (-108), 3) := by decide +kernel
theorem dMod_explore_173 : decode cMod_explore 173 = .ok (.aload_n 0, 1) := by decide +kernel
theorem dMod_explore_174 : decode cMod_explore 174 = .ok (.iconst 1, 1) := by decide +kernel
theorem dMod_explore_175 : decode cMod_explore 175 = .ok (.putfield 72, 3) := by decide +kernel
theorem dMod_explore_178 : decode cMod_explore 178 = .ok (.aload_n 0, 1) := by decide +kernel
theorem dMod_explore_179 : decode cMod_explore 179 = .ok (.invokevirtual 108, 3) := by decide +kernel
theorem dMod_explore_182 : decode cMod_explore 182 = .ok (.aload_n 0, 1) := by decide +kernel
theorem dMod_explore_183 : decode cMod_explore 183 = .ok (.invokevirtual 111, 3) := by decide +kernel
theorem dMod_explore_186 : decode cMod_explore 186 = .ok (.ireturn, 1) := by decide +kernel
theorem dMod_reached_0 : decode cMod_reached 0 = .ok (.iconst 0, 1) := by decide +kernel
theorem dMod_reached_1 : decode cMod_reached 1 = .ok (.istore_n 1, 1) := by decide +kernel
theorem dMod_reached_2 : decode cMod_reached 2 = .ok (.iconst 0, 1) := by decide +kernel
theorem dMod_reached_3 : decode cMod_reached 3 = .ok (.istore_n 2, 1) := by decide +kernel
theorem dMod_reached_4 : decode cMod_reached 4 = .ok (.iload_n 2, 1) := by decide +kernel
theorem dMod_reached_5 : decode cMod_reached 5 = .ok (.aload_n 0, 1) := by decide +kernel
theorem dMod_reached_6 : decode cMod_reached 6 = .ok (.invokevirtual 97, 3) := by decide +kernel
theorem dMod_reached_9 : decode cMod_reached 9 = .ok (.if_icmp .ge 26, 3) := by decide +kernel
theorem dMod_reached_12 : decode cMod_reached 12 = .ok (.aload_n 0, 1) := by decide +kernel
theorem dMod_reached_13 : decode cMod_reached 13 = .ok (.getfield 45, 3) := by decide +kernel
theorem dMod_reached_16 : decode cMod_reached 16 = .ok (.iload_n 2, 1) := by decide +kernel
theorem dMod_reached_17 : decode cMod_reached 17 = .ok (.iaload, 1) := by decide +kernel
theorem dMod_reached_18 : decode cMod_reached 18 = .ok (.ifCond .lt 9, 3) := by decide +kernel
theorem dMod_reached_21 : decode cMod_reached 21 = .ok (.iload_n 1, 1) := by decide +kernel
theorem dMod_reached_22 : decode cMod_reached 22 = .ok (.iconst 1, 1) := by decide +kernel
theorem dMod_reached_23 : decode cMod_reached 23 = .ok (.iadd, 1) := by decide +kernel
theorem dMod_reached_24 : decode cMod_reached 24 = .ok (.goto 4, 3) := by decide +kernel
theorem dMod_reached_27 : decode cMod_reached 27 = .ok (.iload_n 1, 1) := by decide +kernel
theorem dMod_reached_28 : decode cMod_reached 28 = .ok (.istore_n 1, 1) := by decide +kernel
theorem dMod_reached_29 : decode cMod_reached 29 = .ok (.iinc 2 1, 3) := by decide +kernel
theorem dMod_reached_32 : decode cMod_reached 32 = .ok (.goto (-28), 3) := by decide +kernel
theorem dMod_reached_35 : decode cMod_reached 35 = .ok (.iload_n 1, 1) := by decide +kernel
theorem dMod_reached_36 : decode cMod_reached 36 = .ok (.ireturn, 1) := by decide +kernel
theorem dMod_shows_0 : decode cMod_shows 0 = .ok (.iconst 1, 1) := by decide +kernel
theorem dMod_shows_1 : decode cMod_shows 1 = .ok (.istore 4, 2) := by decide +kernel
theorem dMod_shows_3 : decode cMod_shows 3 = .ok (.iconst 0, 1) := by decide +kernel
theorem dMod_shows_4 : decode cMod_shows 4 = .ok (.istore 5, 2) := by decide +kernel
theorem dMod_shows_6 : decode cMod_shows 6 = .ok (.iload 5, 2) := by decide +kernel
theorem dMod_shows_8 : decode cMod_shows 8 = .ok (.aload_n 0, 1) := by decide +kernel
theorem dMod_shows_9 : decode cMod_shows 9 = .ok (.getfield 87, 3) := by decide +kernel
theorem dMod_shows_12 : decode cMod_shows 12 = .ok (.if_icmp .ge 67, 3) := by decide +kernel
theorem dMod_shows_15 : decode cMod_shows 15 = .ok (.iload 4, 2) := by decide +kernel
theorem dMod_shows_17 : decode cMod_shows 17 = .ok (.ifCond .eq 53, 3) := by decide +kernel
theorem dMod_shows_20 : decode cMod_shows 20 = .ok (.aload_n 0, 1) := by decide +kernel
theorem dMod_shows_21 : decode cMod_shows 21 = .ok (.getfield 41, 3) := by decide +kernel
theorem dMod_shows_24 : decode cMod_shows 24 = .ok (.bipush 16, 2) := by decide +kernel
theorem dMod_shows_26 : decode cMod_shows 26 = .ok (.iload_n 1, 1) := by decide +kernel
theorem dMod_shows_27 : decode cMod_shows 27 = .ok (.imul, 1) := by decide +kernel
theorem dMod_shows_28 : decode cMod_shows 28 = .ok (.iload_n 3, 1) := by decide +kernel
theorem dMod_shows_29 : decode cMod_shows 29 = .ok (.iadd, 1) := by decide +kernel
theorem dMod_shows_30 : decode cMod_shows 30 = .ok (.laload, 1) := by decide +kernel
theorem dMod_shows_31 : decode cMod_shows 31 = .ok (.aload_n 0, 1) := by decide +kernel
theorem dMod_shows_32 : decode cMod_shows 32 = .ok (.getfield 28, 3) := by decide +kernel
theorem dMod_shows_35 : decode cMod_shows 35 = .ok (.iload 5, 2) := by decide +kernel
theorem dMod_shows_37 : decode cMod_shows 37 = .ok (.iaload, 1) := by decide +kernel
theorem dMod_shows_38 : decode cMod_shows 38 = .ok (.lshr, 1) := by decide +kernel
theorem dMod_shows_39 : decode cMod_shows 39 = .ok (.lconst 1, 1) := by decide +kernel
theorem dMod_shows_40 : decode cMod_shows 40 = .ok (.land, 1) := by decide +kernel
theorem dMod_shows_41 : decode cMod_shows 41 = .ok (.aload_n 0, 1) := by decide +kernel
theorem dMod_shows_42 : decode cMod_shows 42 = .ok (.getfield 41, 3) := by decide +kernel
theorem dMod_shows_45 : decode cMod_shows 45 = .ok (.bipush 16, 2) := by decide +kernel
theorem dMod_shows_47 : decode cMod_shows 47 = .ok (.iload_n 2, 1) := by decide +kernel
theorem dMod_shows_48 : decode cMod_shows 48 = .ok (.imul, 1) := by decide +kernel
theorem dMod_shows_49 : decode cMod_shows 49 = .ok (.iload_n 3, 1) := by decide +kernel
theorem dMod_shows_50 : decode cMod_shows 50 = .ok (.iadd, 1) := by decide +kernel
theorem dMod_shows_51 : decode cMod_shows 51 = .ok (.laload, 1) := by decide +kernel
theorem dMod_shows_52 : decode cMod_shows 52 = .ok (.aload_n 0, 1) := by decide +kernel
theorem dMod_shows_53 : decode cMod_shows 53 = .ok (.getfield 28, 3) := by decide +kernel
theorem dMod_shows_56 : decode cMod_shows 56 = .ok (.iload 5, 2) := by decide +kernel
theorem dMod_shows_58 : decode cMod_shows 58 = .ok (.iaload, 1) := by decide +kernel
theorem dMod_shows_59 : decode cMod_shows 59 = .ok (.lshr, 1) := by decide +kernel
theorem dMod_shows_60 : decode cMod_shows 60 = .ok (.lconst 1, 1) := by decide +kernel
theorem dMod_shows_61 : decode cMod_shows 61 = .ok (.land, 1) := by decide +kernel
theorem dMod_shows_62 : decode cMod_shows 62 = .ok (.lcmp, 1) := by decide +kernel
theorem dMod_shows_63 : decode cMod_shows 63 = .ok (.ifCond .ne 7, 3) := by decide +kernel
theorem dMod_shows_66 : decode cMod_shows 66 = .ok (.iconst 1, 1) := by decide +kernel
theorem dMod_shows_67 : decode cMod_shows 67 = .ok (.goto 4, 3) := by decide +kernel
theorem dMod_shows_70 : decode cMod_shows 70 = .ok (.iconst 0, 1) := by decide +kernel
theorem dMod_shows_71 : decode cMod_shows 71 = .ok (.istore 4, 2) := by decide +kernel
theorem dMod_shows_73 : decode cMod_shows 73 = .ok (.iinc 5 1, 3) := by decide +kernel
theorem dMod_shows_76 : decode cMod_shows 76 = .ok (.goto (-70), 3) := by decide +kernel
theorem dMod_shows_79 : decode cMod_shows 79 = .ok (.iload 4, 2) := by decide +kernel
theorem dMod_shows_81 : decode cMod_shows 81 = .ok (.ireturn, 1) := by decide +kernel
theorem dMod_differ_0 : decode cMod_differ 0 = .ok (.iconst 0, 1) := by decide +kernel
theorem dMod_differ_1 : decode cMod_differ 1 = .ok (.istore_n 3, 1) := by decide +kernel
theorem dMod_differ_2 : decode cMod_differ 2 = .ok (.iconst 0, 1) := by decide +kernel
theorem dMod_differ_3 : decode cMod_differ 3 = .ok (.istore 4, 2) := by decide +kernel
theorem dMod_differ_5 : decode cMod_differ 5 = .ok (.iload 4, 2) := by decide +kernel
theorem dMod_differ_7 : decode cMod_differ 7 = .ok (.aload_n 0, 1) := by decide +kernel
theorem dMod_differ_8 : decode cMod_differ 8 = .ok (.invokevirtual 101, 3) := by decide +kernel
theorem dMod_differ_11 : decode cMod_differ 11 = .ok (.if_icmp .ge 102, 3) := by decide +kernel
theorem dMod_differ_14 : decode cMod_differ 14 = .ok (.bipush 16, 2) := by decide +kernel
theorem dMod_differ_16 : decode cMod_differ 16 = .ok (.iload_n 1, 1) := by decide +kernel
theorem dMod_differ_17 : decode cMod_differ 17 = .ok (.imul, 1) := by decide +kernel
theorem dMod_differ_18 : decode cMod_differ 18 = .ok (.iload 4, 2) := by decide +kernel
theorem dMod_differ_20 : decode cMod_differ 20 = .ok (.iadd, 1) := by decide +kernel
theorem dMod_differ_21 : decode cMod_differ 21 = .ok (.istore 5, 2) := by decide +kernel
theorem dMod_differ_23 : decode cMod_differ 23 = .ok (.bipush 16, 2) := by decide +kernel
theorem dMod_differ_25 : decode cMod_differ 25 = .ok (.iload_n 2, 1) := by decide +kernel
theorem dMod_differ_26 : decode cMod_differ 26 = .ok (.imul, 1) := by decide +kernel
theorem dMod_differ_27 : decode cMod_differ 27 = .ok (.iload 4, 2) := by decide +kernel
theorem dMod_differ_29 : decode cMod_differ 29 = .ok (.iadd, 1) := by decide +kernel
theorem dMod_differ_30 : decode cMod_differ 30 = .ok (.istore 6, 2) := by decide +kernel
theorem dMod_differ_32 : decode cMod_differ 32 = .ok (.iload_n 3, 1) := by decide +kernel
theorem dMod_differ_33 : decode cMod_differ 33 = .ok (.ifCond .ne 68, 3) := by decide +kernel
theorem dMod_differ_36 : decode cMod_differ 36 = .ok (.aload_n 0, 1) := by decide +kernel
theorem dMod_differ_37 : decode cMod_differ 37 = .ok (.getfield 35, 3) := by decide +kernel
theorem dMod_differ_40 : decode cMod_differ 40 = .ok (.iload 5, 2) := by decide +kernel
theorem dMod_differ_42 : decode cMod_differ 42 = .ok (.baload, 1) := by decide +kernel
theorem dMod_differ_43 : decode cMod_differ 43 = .ok (.aload_n 0, 1) := by decide +kernel
theorem dMod_differ_44 : decode cMod_differ 44 = .ok (.getfield 35, 3) := by decide +kernel
theorem dMod_differ_47 : decode cMod_differ 47 = .ok (.iload 6, 2) := by decide +kernel
theorem dMod_differ_49 : decode cMod_differ 49 = .ok (.baload, 1) := by decide +kernel
theorem dMod_differ_50 : decode cMod_differ 50 = .ok (.if_icmp .ne 51, 3) := by decide +kernel
theorem dMod_differ_53 : decode cMod_differ 53 = .ok (.aload_n 0, 1) := by decide +kernel
theorem dMod_differ_54 : decode cMod_differ 54 = .ok (.getfield 35, 3) := by decide +kernel
theorem dMod_differ_57 : decode cMod_differ 57 = .ok (.iload 5, 2) := by decide +kernel
theorem dMod_differ_59 : decode cMod_differ 59 = .ok (.baload, 1) := by decide +kernel
theorem dMod_differ_60 : decode cMod_differ 60 = .ok (.ifCond .eq 45, 3) := by decide +kernel
theorem dMod_differ_63 : decode cMod_differ 63 = .ok (.aload_n 0, 1) := by decide +kernel
theorem dMod_differ_64 : decode cMod_differ 64 = .ok (.iload_n 1, 1) := by decide +kernel
theorem dMod_differ_65 : decode cMod_differ 65 = .ok (.iload_n 2, 1) := by decide +kernel
theorem dMod_differ_66 : decode cMod_differ 66 = .ok (.iload 4, 2) := by decide +kernel
theorem dMod_differ_68 : decode cMod_differ 68 = .ok (.invokevirtual 114, 3) := by decide +kernel
theorem dMod_differ_71 : decode cMod_differ 71 = .ok (.ifCond .eq 30, 3) := by decide +kernel
theorem dMod_differ_74 : decode cMod_differ 74 = .ok (.aload_n 0, 1) := by decide +kernel
theorem dMod_differ_75 : decode cMod_differ 75 = .ok (.getfield 49, 3) := by decide +kernel
theorem dMod_differ_78 : decode cMod_differ 78 = .ok (.sipush 256, 3) := by decide +kernel
theorem dMod_differ_81 : decode cMod_differ 81 = .ok (.aload_n 0, 1) := by decide +kernel
theorem dMod_differ_82 : decode cMod_differ 82 = .ok (.getfield 38, 3) := by decide +kernel
theorem dMod_differ_85 : decode cMod_differ 85 = .ok (.iload 5, 2) := by decide +kernel
theorem dMod_differ_87 : decode cMod_differ 87 = .ok (.iaload, 1) := by decide +kernel
theorem dMod_differ_88 : decode cMod_differ 88 = .ok (.imul, 1) := by decide +kernel
theorem dMod_differ_89 : decode cMod_differ 89 = .ok (.aload_n 0, 1) := by decide +kernel
theorem dMod_differ_90 : decode cMod_differ 90 = .ok (.getfield 38, 3) := by decide +kernel
theorem dMod_differ_93 : decode cMod_differ 93 = .ok (.iload 6, 2) := by decide +kernel
theorem dMod_differ_95 : decode cMod_differ 95 = .ok (.iaload, 1) := by decide +kernel
theorem dMod_differ_96 : decode cMod_differ 96 = .ok (.iadd, 1) := by decide +kernel
theorem dMod_differ_97 : decode cMod_differ 97 = .ok (.baload, 1) := by decide +kernel
theorem dMod_differ_98 : decode cMod_differ 98 = .ok (.ifCond .eq 7, 3) := by decide +kernel
theorem dMod_differ_101 : decode cMod_differ 101 = .ok (.iconst 1, 1) := by decide +kernel
theorem dMod_differ_102 : decode cMod_differ 102 = .ok (.goto 4, 3) := by decide +kernel
theorem dMod_differ_105 : decode cMod_differ 105 = .ok (.iconst 0, 1) := by decide +kernel
theorem dMod_differ_106 : decode cMod_differ 106 = .ok (.istore_n 3, 1) := by decide +kernel
theorem dMod_differ_107 : decode cMod_differ 107 = .ok (.iinc 4 1, 3) := by decide +kernel
theorem dMod_differ_110 : decode cMod_differ 110 = .ok (.goto (-105), 3) := by decide +kernel
theorem dMod_differ_113 : decode cMod_differ 113 = .ok (.iload_n 3, 1) := by decide +kernel
theorem dMod_differ_114 : decode cMod_differ 114 = .ok (.ireturn, 1) := by decide +kernel
theorem dMod_tell_0 : decode cMod_tell 0 = .ok (.iconst 0, 1) := by decide +kernel
theorem dMod_tell_1 : decode cMod_tell 1 = .ok (.istore_n 1, 1) := by decide +kernel
theorem dMod_tell_2 : decode cMod_tell 2 = .ok (.iload_n 1, 1) := by decide +kernel
theorem dMod_tell_3 : decode cMod_tell 3 = .ok (.ldc 48, 2) := by decide +kernel
theorem dMod_tell_5 : decode cMod_tell 5 = .ok (.if_icmp .ge 16, 3) := by decide +kernel
theorem dMod_tell_8 : decode cMod_tell 8 = .ok (.aload_n 0, 1) := by decide +kernel
theorem dMod_tell_9 : decode cMod_tell 9 = .ok (.getfield 49, 3) := by decide +kernel
theorem dMod_tell_12 : decode cMod_tell 12 = .ok (.iload_n 1, 1) := by decide +kernel
theorem dMod_tell_13 : decode cMod_tell 13 = .ok (.iconst 0, 1) := by decide +kernel
theorem dMod_tell_14 : decode cMod_tell 14 = .ok (.bastore, 1) := by decide +kernel
theorem dMod_tell_15 : decode cMod_tell 15 = .ok (.iinc 1 1, 3) := by decide +kernel
theorem dMod_tell_18 : decode cMod_tell 18 = .ok (.goto (-16), 3) := by decide +kernel
theorem dMod_tell_21 : decode cMod_tell 21 = .ok (.iconst 1, 1) := by decide +kernel
theorem dMod_tell_22 : decode cMod_tell 22 = .ok (.istore_n 1, 1) := by decide +kernel
theorem dMod_tell_23 : decode cMod_tell 23 = .ok (.iload_n 1, 1) := by decide +kernel
theorem dMod_tell_24 : decode cMod_tell 24 = .ok (.ifCond .eq 110, 3) := by decide +kernel
theorem dMod_tell_27 : decode cMod_tell 27 = .ok (.iconst 0, 1) := by decide +kernel
theorem dMod_tell_28 : decode cMod_tell 28 = .ok (.istore_n 1, 1) := by decide +kernel
theorem dMod_tell_29 : decode cMod_tell 29 = .ok (.iconst 0, 1) := by decide +kernel
theorem dMod_tell_30 : decode cMod_tell 30 = .ok (.istore_n 2, 1) := by decide +kernel
theorem dMod_tell_31 : decode cMod_tell 31 = .ok (.iload_n 2, 1) := by decide +kernel
theorem dMod_tell_32 : decode cMod_tell 32 = .ok (.aload_n 0, 1) := by decide +kernel
theorem dMod_tell_33 : decode cMod_tell 33 = .ok (.invokevirtual 97, 3) := by decide +kernel
theorem dMod_tell_36 : decode cMod_tell 36 = .ok (.if_icmp .ge 95, 3) := by decide +kernel
theorem dMod_tell_39 : decode cMod_tell 39 = .ok (.iconst 0, 1) := by decide +kernel
theorem dMod_tell_40 : decode cMod_tell 40 = .ok (.istore_n 3, 1) := by decide +kernel
theorem dMod_tell_41 : decode cMod_tell 41 = .ok (.iload_n 3, 1) := by decide +kernel
theorem dMod_tell_42 : decode cMod_tell 42 = .ok (.iload_n 2, 1) := by decide +kernel
theorem dMod_tell_43 : decode cMod_tell 43 = .ok (.if_icmp .ge 82, 3) := by decide +kernel
theorem dMod_tell_46 : decode cMod_tell 46 = .ok (.aload_n 0, 1) := by decide +kernel
theorem dMod_tell_47 : decode cMod_tell 47 = .ok (.getfield 45, 3) := by decide +kernel
theorem dMod_tell_50 : decode cMod_tell 50 = .ok (.iload_n 2, 1) := by decide +kernel
theorem dMod_tell_51 : decode cMod_tell 51 = .ok (.iaload, 1) := by decide +kernel
theorem dMod_tell_52 : decode cMod_tell 52 = .ok (.ifCond .lt 67, 3) := by decide +kernel
theorem dMod_tell_55 : decode cMod_tell 55 = .ok (.aload_n 0, 1) := by decide +kernel
theorem dMod_tell_56 : decode cMod_tell 56 = .ok (.getfield 45, 3) := by decide +kernel
theorem dMod_tell_59 : decode cMod_tell 59 = .ok (.iload_n 3, 1) := by decide +kernel
theorem dMod_tell_60 : decode cMod_tell 60 = .ok (.iaload, 1) := by decide +kernel
theorem dMod_tell_61 : decode cMod_tell 61 = .ok (.ifCond .lt 58, 3) := by decide +kernel
theorem dMod_tell_64 : decode cMod_tell 64 = .ok (.aload_n 0, 1) := by decide +kernel
theorem dMod_tell_65 : decode cMod_tell 65 = .ok (.getfield 49, 3) := by decide +kernel
theorem dMod_tell_68 : decode cMod_tell 68 = .ok (.sipush 256, 3) := by decide +kernel
theorem dMod_tell_71 : decode cMod_tell 71 = .ok (.iload_n 2, 1) := by decide +kernel
theorem dMod_tell_72 : decode cMod_tell 72 = .ok (.imul, 1) := by decide +kernel
theorem dMod_tell_73 : decode cMod_tell 73 = .ok (.iload_n 3, 1) := by decide +kernel
theorem dMod_tell_74 : decode cMod_tell 74 = .ok (.iadd, 1) := by decide +kernel
theorem dMod_tell_75 : decode cMod_tell 75 = .ok (.baload, 1) := by decide +kernel
theorem dMod_tell_76 : decode cMod_tell 76 = .ok (.ifCond .ne 43, 3) := by decide +kernel
theorem dMod_tell_79 : decode cMod_tell 79 = .ok (.aload_n 0, 1) := by decide +kernel
theorem dMod_tell_80 : decode cMod_tell 80 = .ok (.iload_n 2, 1) := by decide +kernel
theorem dMod_tell_81 : decode cMod_tell 81 = .ok (.iload_n 3, 1) := by decide +kernel
theorem dMod_tell_82 : decode cMod_tell 82 = .ok (.invokevirtual 118, 3) := by decide +kernel
theorem dMod_tell_85 : decode cMod_tell 85 = .ok (.ifCond .ne 6, 3) := by decide +kernel
theorem dMod_tell_88 : decode cMod_tell 88 = .ok (.goto 31, 3) := by decide +kernel
theorem dMod_tell_91 : decode cMod_tell 91 = .ok (.aload_n 0, 1) := by decide +kernel
theorem dMod_tell_92 : decode cMod_tell 92 = .ok (.getfield 49, 3) := by decide +kernel
theorem dMod_tell_95 : decode cMod_tell 95 = .ok (.sipush 256, 3) := by decide +kernel
theorem dMod_tell_98 : decode cMod_tell 98 = .ok (.iload_n 2, 1) := by decide +kernel
theorem dMod_tell_99 : decode cMod_tell 99 = .ok (.imul, 1) := by decide +kernel
theorem dMod_tell_100 : decode cMod_tell 100 = .ok (.iload_n 3, 1) := by decide +kernel
theorem dMod_tell_101 : decode cMod_tell 101 = .ok (.iadd, 1) := by decide +kernel
theorem dMod_tell_102 : decode cMod_tell 102 = .ok (.iconst 1, 1) := by decide +kernel
theorem dMod_tell_103 : decode cMod_tell 103 = .ok (.bastore, 1) := by decide +kernel
theorem dMod_tell_104 : decode cMod_tell 104 = .ok (.aload_n 0, 1) := by decide +kernel
theorem dMod_tell_105 : decode cMod_tell 105 = .ok (.getfield 49, 3) := by decide +kernel
theorem dMod_tell_108 : decode cMod_tell 108 = .ok (.sipush 256, 3) := by decide +kernel
theorem dMod_tell_111 : decode cMod_tell 111 = .ok (.iload_n 3, 1) := by decide +kernel
theorem dMod_tell_112 : decode cMod_tell 112 = .ok (.imul, 1) := by decide +kernel
theorem dMod_tell_113 : decode cMod_tell 113 = .ok (.iload_n 2, 1) := by decide +kernel
theorem dMod_tell_114 : decode cMod_tell 114 = .ok (.iadd, 1) := by decide +kernel
theorem dMod_tell_115 : decode cMod_tell 115 = .ok (.iconst 1, 1) := by decide +kernel
theorem dMod_tell_116 : decode cMod_tell 116 = .ok (.bastore, 1) := by decide +kernel
theorem dMod_tell_117 : decode cMod_tell 117 = .ok (.iconst 1, 1) := by decide +kernel
theorem dMod_tell_118 : decode cMod_tell 118 = .ok (.istore_n 1, 1) := by decide +kernel
theorem dMod_tell_119 : decode cMod_tell 119 = .ok (.iinc 3 1, 3) := by decide +kernel
theorem dMod_tell_122 : decode cMod_tell 122 = .ok (.goto (-81), 3) := by decide +kernel
theorem dMod_tell_125 : decode cMod_tell 125 = .ok (.iinc 2 1, 3) := by decide +kernel
theorem dMod_tell_128 : decode cMod_tell 128 = .ok (.goto (-97), 3) := by decide +kernel
theorem dMod_tell_131 : decode cMod_tell 131 = .ok (.goto (-108), 3) := by decide +kernel
theorem dMod_tell_134 : decode cMod_tell 134 = .ok (.return_, 1) := by decide +kernel
theorem dMod_isState_0 : decode cMod_isState 0 = .ok (.iload_n 1, 1) := by decide +kernel
theorem dMod_isState_1 : decode cMod_isState 1 = .ok (.ifCond .lt 15, 3) := by decide +kernel
theorem dMod_isState_4 : decode cMod_isState 4 = .ok (.iload_n 1, 1) := by decide +kernel
theorem dMod_isState_5 : decode cMod_isState 5 = .ok (.aload_n 0, 1) := by decide +kernel
theorem dMod_isState_6 : decode cMod_isState 6 = .ok (.invokevirtual 97, 3) := by decide +kernel
theorem dMod_isState_9 : decode cMod_isState 9 = .ok (.if_icmp .ge 7, 3) := by decide +kernel
theorem dMod_isState_12 : decode cMod_isState 12 = .ok (.iconst 1, 1) := by decide +kernel
theorem dMod_isState_13 : decode cMod_isState 13 = .ok (.goto 4, 3) := by decide +kernel
theorem dMod_isState_16 : decode cMod_isState 16 = .ok (.iconst 0, 1) := by decide +kernel
theorem dMod_isState_17 : decode cMod_isState 17 = .ok (.ireturn, 1) := by decide +kernel
theorem dMod_distance_0 : decode cMod_distance 0 = .ok (.aload_n 0, 1) := by decide +kernel
theorem dMod_distance_1 : decode cMod_distance 1 = .ok (.aload_n 0, 1) := by decide +kernel
theorem dMod_distance_2 : decode cMod_distance 2 = .ok (.getfield 72, 3) := by decide +kernel
theorem dMod_distance_5 : decode cMod_distance 5 = .ok (.ifCond .ne 7, 3) := by decide +kernel
theorem dMod_distance_8 : decode cMod_distance 8 = .ok (.iconst 1, 1) := by decide +kernel
theorem dMod_distance_9 : decode cMod_distance 9 = .ok (.goto 4, 3) := by decide +kernel
theorem dMod_distance_12 : decode cMod_distance 12 = .ok (.iconst 0, 1) := by decide +kernel
theorem dMod_distance_13 : decode cMod_distance 13 = .ok (.aload_n 0, 1) := by decide +kernel
theorem dMod_distance_14 : decode cMod_distance 14 = .ok (.iload_n 1, 1) := by decide +kernel
theorem dMod_distance_15 : decode cMod_distance 15 = .ok (.invokevirtual 122, 3) := by decide +kernel
theorem dMod_distance_18 : decode cMod_distance 18 = .ok (.ifCond .ne 7, 3) := by decide +kernel
theorem dMod_distance_21 : decode cMod_distance 21 = .ok (.iconst 1, 1) := by decide +kernel
theorem dMod_distance_22 : decode cMod_distance 22 = .ok (.goto 4, 3) := by decide +kernel
theorem dMod_distance_25 : decode cMod_distance 25 = .ok (.iconst 0, 1) := by decide +kernel
theorem dMod_distance_26 : decode cMod_distance 26 = .ok (.invokevirtual 62, 3) := by decide +kernel
theorem dMod_distance_29 : decode cMod_distance 29 = .ok (.ifCond .eq 7, 3) := by decide +kernel
theorem dMod_distance_32 : decode cMod_distance 32 = .ok (.iconst 0, 1) := by decide +kernel
theorem dMod_distance_33 : decode cMod_distance 33 = .ok (.goto 9, 3) := by decide +kernel
theorem dMod_distance_36 : decode cMod_distance 36 = .ok (.aload_n 0, 1) := by decide +kernel
theorem dMod_distance_37 : decode cMod_distance 37 = .ok (.getfield 45, 3) := by decide +kernel
theorem dMod_distance_40 : decode cMod_distance 40 = .ok (.iload_n 1, 1) := by decide +kernel
theorem dMod_distance_41 : decode cMod_distance 41 = .ok (.iaload, 1) := by decide +kernel
theorem dMod_distance_42 : decode cMod_distance 42 = .ok (.ireturn, 1) := by decide +kernel
theorem dMod_lead_0 : decode cMod_lead 0 = .ok (.iconst 0, 1) := by decide +kernel
theorem dMod_lead_1 : decode cMod_lead 1 = .ok (.istore_n 3, 1) := by decide +kernel
theorem dMod_lead_2 : decode cMod_lead 2 = .ok (.iload_n 3, 1) := by decide +kernel
theorem dMod_lead_3 : decode cMod_lead 3 = .ok (.aload_n 0, 1) := by decide +kernel
theorem dMod_lead_4 : decode cMod_lead 4 = .ok (.invokevirtual 97, 3) := by decide +kernel
theorem dMod_lead_7 : decode cMod_lead 7 = .ok (.if_icmp .ge 25, 3) := by decide +kernel
theorem dMod_lead_10 : decode cMod_lead 10 = .ok (.aload_n 0, 1) := by decide +kernel
theorem dMod_lead_11 : decode cMod_lead 11 = .ok (.getfield 52, 3) := by decide +kernel
theorem dMod_lead_14 : decode cMod_lead 14 = .ok (.iload_n 3, 1) := by decide +kernel
theorem dMod_lead_15 : decode cMod_lead 15 = .ok (.iload_n 3, 1) := by decide +kernel
theorem dMod_lead_16 : decode cMod_lead 16 = .ok (.iload_n 1, 1) := by decide +kernel
theorem dMod_lead_17 : decode cMod_lead 17 = .ok (.if_icmp .ne 7, 3) := by decide +kernel
theorem dMod_lead_20 : decode cMod_lead 20 = .ok (.iconst 1, 1) := by decide +kernel
theorem dMod_lead_21 : decode cMod_lead 21 = .ok (.goto 4, 3) := by decide +kernel
theorem dMod_lead_24 : decode cMod_lead 24 = .ok (.iconst 0, 1) := by decide +kernel
theorem dMod_lead_25 : decode cMod_lead 25 = .ok (.bastore, 1) := by decide +kernel
theorem dMod_lead_26 : decode cMod_lead 26 = .ok (.iinc 3 1, 3) := by decide +kernel
theorem dMod_lead_29 : decode cMod_lead 29 = .ok (.goto (-27), 3) := by decide +kernel
theorem dMod_lead_32 : decode cMod_lead 32 = .ok (.iconst 1, 1) := by decide +kernel
theorem dMod_lead_33 : decode cMod_lead 33 = .ok (.istore_n 3, 1) := by decide +kernel
theorem dMod_lead_34 : decode cMod_lead 34 = .ok (.iload_n 3, 1) := by decide +kernel
theorem dMod_lead_35 : decode cMod_lead 35 = .ok (.iload_n 2, 1) := by decide +kernel
theorem dMod_lead_36 : decode cMod_lead 36 = .ok (.if_icmp .gt 120, 3) := by decide +kernel
theorem dMod_lead_39 : decode cMod_lead 39 = .ok (.iconst 0, 1) := by decide +kernel
theorem dMod_lead_40 : decode cMod_lead 40 = .ok (.istore 4, 2) := by decide +kernel
theorem dMod_lead_42 : decode cMod_lead 42 = .ok (.iload 4, 2) := by decide +kernel
theorem dMod_lead_44 : decode cMod_lead 44 = .ok (.aload_n 0, 1) := by decide +kernel
theorem dMod_lead_45 : decode cMod_lead 45 = .ok (.invokevirtual 97, 3) := by decide +kernel
theorem dMod_lead_48 : decode cMod_lead 48 = .ok (.if_icmp .ge 102, 3) := by decide +kernel
theorem dMod_lead_51 : decode cMod_lead 51 = .ok (.iconst 0, 1) := by decide +kernel
theorem dMod_lead_52 : decode cMod_lead 52 = .ok (.istore 5, 2) := by decide +kernel
theorem dMod_lead_54 : decode cMod_lead 54 = .ok (.iconst 0, 1) := by decide +kernel
theorem dMod_lead_55 : decode cMod_lead 55 = .ok (.istore 6, 2) := by decide +kernel
theorem dMod_lead_57 : decode cMod_lead 57 = .ok (.iload 6, 2) := by decide +kernel
theorem dMod_lead_59 : decode cMod_lead 59 = .ok (.aload_n 0, 1) := by decide +kernel
theorem dMod_lead_60 : decode cMod_lead 60 = .ok (.invokevirtual 101, 3) := by decide +kernel
theorem dMod_lead_63 : decode cMod_lead 63 = .ok (.if_icmp .ge 66, 3) := by decide +kernel
theorem dMod_lead_66 : decode cMod_lead 66 = .ok (.iload 5, 2) := by decide +kernel
theorem dMod_lead_68 : decode cMod_lead 68 = .ok (.ifCond .ne 48, 3) := by decide +kernel
theorem dMod_lead_71 : decode cMod_lead 71 = .ok (.aload_n 0, 1) := by decide +kernel
theorem dMod_lead_72 : decode cMod_lead 72 = .ok (.getfield 35, 3) := by decide +kernel
theorem dMod_lead_75 : decode cMod_lead 75 = .ok (.bipush 16, 2) := by decide +kernel
theorem dMod_lead_77 : decode cMod_lead 77 = .ok (.iload 4, 2) := by decide +kernel
theorem dMod_lead_79 : decode cMod_lead 79 = .ok (.imul, 1) := by decide +kernel
theorem dMod_lead_80 : decode cMod_lead 80 = .ok (.iload 6, 2) := by decide +kernel
theorem dMod_lead_82 : decode cMod_lead 82 = .ok (.iadd, 1) := by decide +kernel
theorem dMod_lead_83 : decode cMod_lead 83 = .ok (.baload, 1) := by decide +kernel
theorem dMod_lead_84 : decode cMod_lead 84 = .ok (.ifCond .eq 36, 3) := by decide +kernel
theorem dMod_lead_87 : decode cMod_lead 87 = .ok (.aload_n 0, 1) := by decide +kernel
theorem dMod_lead_88 : decode cMod_lead 88 = .ok (.getfield 52, 3) := by decide +kernel
theorem dMod_lead_91 : decode cMod_lead 91 = .ok (.sipush 256, 3) := by decide +kernel
theorem dMod_lead_94 : decode cMod_lead 94 = .ok (.iload_n 3, 1) := by decide +kernel
theorem dMod_lead_95 : decode cMod_lead 95 = .ok (.iconst 1, 1) := by decide +kernel
theorem dMod_lead_96 : decode cMod_lead 96 = .ok (.isub, 1) := by decide +kernel
theorem dMod_lead_97 : decode cMod_lead 97 = .ok (.imul, 1) := by decide +kernel
theorem dMod_lead_98 : decode cMod_lead 98 = .ok (.aload_n 0, 1) := by decide +kernel
theorem dMod_lead_99 : decode cMod_lead 99 = .ok (.getfield 38, 3) := by decide +kernel
theorem dMod_lead_102 : decode cMod_lead 102 = .ok (.bipush 16, 2) := by decide +kernel
theorem dMod_lead_104 : decode cMod_lead 104 = .ok (.iload 4, 2) := by decide +kernel
theorem dMod_lead_106 : decode cMod_lead 106 = .ok (.imul, 1) := by decide +kernel
theorem dMod_lead_107 : decode cMod_lead 107 = .ok (.iload 6, 2) := by decide +kernel
theorem dMod_lead_109 : decode cMod_lead 109 = .ok (.iadd, 1) := by decide +kernel
theorem dMod_lead_110 : decode cMod_lead 110 = .ok (.iaload, 1) := by decide +kernel
theorem dMod_lead_111 : decode cMod_lead 111 = .ok (.iadd, 1) := by decide +kernel
theorem dMod_lead_112 : decode cMod_lead 112 = .ok (.baload, 1) := by decide +kernel
theorem dMod_lead_113 : decode cMod_lead 113 = .ok (.ifCond .eq 7, 3) := by decide +kernel
theorem dMod_lead_116 : decode cMod_lead 116 = .ok (.iconst 1, 1) := by decide +kernel
theorem dMod_lead_117 : decode cMod_lead 117 = .ok (.goto 4, 3) := by decide +kernel
theorem dMod_lead_120 : decode cMod_lead 120 = .ok (.iconst 0, 1) := by decide +kernel
theorem dMod_lead_121 : decode cMod_lead 121 = .ok (.istore 5, 2) := by decide +kernel
theorem dMod_lead_123 : decode cMod_lead 123 = .ok (.iinc 6 1, 3) := by decide +kernel
theorem dMod_lead_126 : decode cMod_lead 126 = .ok (.goto (-69), 3) := by decide +kernel
theorem dMod_lead_129 : decode cMod_lead 129 = .ok (.aload_n 0, 1) := by decide +kernel
theorem dMod_lead_130 : decode cMod_lead 130 = .ok (.getfield 52, 3) := by decide +kernel
theorem dMod_lead_133 : decode cMod_lead 133 = .ok (.sipush 256, 3) := by decide +kernel
theorem dMod_lead_136 : decode cMod_lead 136 = .ok (.iload_n 3, 1) := by decide +kernel
theorem dMod_lead_137 : decode cMod_lead 137 = .ok (.imul, 1) := by decide +kernel
theorem dMod_lead_138 : decode cMod_lead 138 = .ok (.iload 4, 2) := by decide +kernel
theorem dMod_lead_140 : decode cMod_lead 140 = .ok (.iadd, 1) := by decide +kernel
theorem dMod_lead_141 : decode cMod_lead 141 = .ok (.iload 5, 2) := by decide +kernel
theorem dMod_lead_143 : decode cMod_lead 143 = .ok (.bastore, 1) := by decide +kernel
theorem dMod_lead_144 : decode cMod_lead 144 = .ok (.iinc 4 1, 3) := by decide +kernel
theorem dMod_lead_147 : decode cMod_lead 147 = .ok (.goto (-105), 3) := by decide +kernel
theorem dMod_lead_150 : decode cMod_lead 150 = .ok (.iinc 3 1, 3) := by decide +kernel
theorem dMod_lead_153 : decode cMod_lead 153 = .ok (.goto (-119), 3) := by decide +kernel
theorem dMod_lead_156 : decode cMod_lead 156 = .ok (.return_, 1) := by decide +kernel
theorem dMod_way_0 : decode cMod_way 0 = .ok (.aload_n 0, 1) := by decide +kernel
theorem dMod_way_1 : decode cMod_way 1 = .ok (.aload_n 0, 1) := by decide +kernel
theorem dMod_way_2 : decode cMod_way 2 = .ok (.getfield 72, 3) := by decide +kernel
theorem dMod_way_5 : decode cMod_way 5 = .ok (.ifCond .ne 7, 3) := by decide +kernel
theorem dMod_way_8 : decode cMod_way 8 = .ok (.iconst 1, 1) := by decide +kernel
theorem dMod_way_9 : decode cMod_way 9 = .ok (.goto 4, 3) := by decide +kernel
theorem dMod_way_12 : decode cMod_way 12 = .ok (.iconst 0, 1) := by decide +kernel
theorem dMod_way_13 : decode cMod_way 13 = .ok (.aload_n 0, 1) := by decide +kernel
theorem dMod_way_14 : decode cMod_way 14 = .ok (.iload_n 1, 1) := by decide +kernel
theorem dMod_way_15 : decode cMod_way 15 = .ok (.invokevirtual 122, 3) := by decide +kernel
theorem dMod_way_18 : decode cMod_way 18 = .ok (.ifCond .ne 7, 3) := by decide +kernel
theorem dMod_way_21 : decode cMod_way 21 = .ok (.iconst 1, 1) := by decide +kernel
theorem dMod_way_22 : decode cMod_way 22 = .ok (.goto 4, 3) := by decide +kernel
theorem dMod_way_25 : decode cMod_way 25 = .ok (.iconst 0, 1) := by decide +kernel
theorem dMod_way_26 : decode cMod_way 26 = .ok (.invokevirtual 62, 3) := by decide +kernel
theorem dMod_way_29 : decode cMod_way 29 = .ok (.ifCond .eq 5, 3) := by decide +kernel
theorem dMod_way_32 : decode cMod_way 32 = .ok (.iconst 0, 1) := by decide +kernel
theorem dMod_way_33 : decode cMod_way 33 = .ok (.ireturn, 1) := by decide +kernel
theorem dMod_way_34 : decode cMod_way 34 = .ok (.aload_n 0, 1) := by decide +kernel
theorem dMod_way_35 : decode cMod_way 35 = .ok (.getfield 45, 3) := by decide +kernel
theorem dMod_way_38 : decode cMod_way 38 = .ok (.iload_n 1, 1) := by decide +kernel
theorem dMod_way_39 : decode cMod_way 39 = .ok (.iaload, 1) := by decide +kernel
theorem dMod_way_40 : decode cMod_way 40 = .ok (.istore_n 3, 1) := by decide +kernel
theorem dMod_way_41 : decode cMod_way 41 = .ok (.iload_n 2, 1) := by decide +kernel
theorem dMod_way_42 : decode cMod_way 42 = .ok (.ifCond .lt 8, 3) := by decide +kernel
theorem dMod_way_45 : decode cMod_way 45 = .ok (.iload_n 2, 1) := by decide +kernel
theorem dMod_way_46 : decode cMod_way 46 = .ok (.iload_n 3, 1) := by decide +kernel
theorem dMod_way_47 : decode cMod_way 47 = .ok (.if_icmp .lt 5, 3) := by decide +kernel
theorem dMod_way_50 : decode cMod_way 50 = .ok (.iconst (-1), 1) := by decide +kernel
theorem dMod_way_51 : decode cMod_way 51 = .ok (.ireturn, 1) := by decide +kernel
theorem dMod_way_52 : decode cMod_way 52 = .ok (.aload_n 0, 1) := by decide +kernel
theorem dMod_way_53 : decode cMod_way 53 = .ok (.iload_n 1, 1) := by decide +kernel
theorem dMod_way_54 : decode cMod_way 54 = .ok (.iload_n 3, 1) := by decide +kernel
theorem dMod_way_55 : decode cMod_way 55 = .ok (.invokevirtual 125, 3) := by decide +kernel
theorem dMod_way_58 : decode cMod_way 58 = .ok (.iconst 0, 1) := by decide +kernel
theorem dMod_way_59 : decode cMod_way 59 = .ok (.istore 4, 2) := by decide +kernel
theorem dMod_way_61 : decode cMod_way 61 = .ok (.iconst 0, 1) := by decide +kernel
theorem dMod_way_62 : decode cMod_way 62 = .ok (.istore 5, 2) := by decide +kernel
theorem dMod_way_64 : decode cMod_way 64 = .ok (.iconst 0, 1) := by decide +kernel
theorem dMod_way_65 : decode cMod_way 65 = .ok (.istore 6, 2) := by decide +kernel
theorem dMod_way_67 : decode cMod_way 67 = .ok (.iload 6, 2) := by decide +kernel
theorem dMod_way_69 : decode cMod_way 69 = .ok (.iload_n 2, 1) := by decide +kernel
theorem dMod_way_70 : decode cMod_way 70 = .ok (.if_icmp .gt 81, 3) := by decide +kernel
theorem dMod_way_73 : decode cMod_way 73 = .ok (.iconst 0, 1) := by decide +kernel
theorem dMod_way_74 : decode cMod_way 74 = .ok (.istore 5, 2) := by decide +kernel
theorem dMod_way_76 : decode cMod_way 76 = .ok (.aload_n 0, 1) := by decide +kernel
theorem dMod_way_77 : decode cMod_way 77 = .ok (.getfield 35, 3) := by decide +kernel
theorem dMod_way_80 : decode cMod_way 80 = .ok (.bipush 16, 2) := by decide +kernel
theorem dMod_way_82 : decode cMod_way 82 = .ok (.iload 4, 2) := by decide +kernel
theorem dMod_way_84 : decode cMod_way 84 = .ok (.imul, 1) := by decide +kernel
theorem dMod_way_85 : decode cMod_way 85 = .ok (.iload 5, 2) := by decide +kernel
theorem dMod_way_87 : decode cMod_way 87 = .ok (.iadd, 1) := by decide +kernel
theorem dMod_way_88 : decode cMod_way 88 = .ok (.baload, 1) := by decide +kernel
theorem dMod_way_89 : decode cMod_way 89 = .ok (.ifCond .eq 35, 3) := by decide +kernel
theorem dMod_way_92 : decode cMod_way 92 = .ok (.aload_n 0, 1) := by decide +kernel
theorem dMod_way_93 : decode cMod_way 93 = .ok (.getfield 52, 3) := by decide +kernel
theorem dMod_way_96 : decode cMod_way 96 = .ok (.sipush 256, 3) := by decide +kernel
theorem dMod_way_99 : decode cMod_way 99 = .ok (.iload_n 3, 1) := by decide +kernel
theorem dMod_way_100 : decode cMod_way 100 = .ok (.iload 6, 2) := by decide +kernel
theorem dMod_way_102 : decode cMod_way 102 = .ok (.isub, 1) := by decide +kernel
theorem dMod_way_103 : decode cMod_way 103 = .ok (.iconst 1, 1) := by decide +kernel
theorem dMod_way_104 : decode cMod_way 104 = .ok (.isub, 1) := by decide +kernel
theorem dMod_way_105 : decode cMod_way 105 = .ok (.imul, 1) := by decide +kernel
theorem dMod_way_106 : decode cMod_way 106 = .ok (.aload_n 0, 1) := by decide +kernel
theorem dMod_way_107 : decode cMod_way 107 = .ok (.getfield 38, 3) := by decide +kernel
theorem dMod_way_110 : decode cMod_way 110 = .ok (.bipush 16, 2) := by decide +kernel
theorem dMod_way_112 : decode cMod_way 112 = .ok (.iload 4, 2) := by decide +kernel
theorem dMod_way_114 : decode cMod_way 114 = .ok (.imul, 1) := by decide +kernel
theorem dMod_way_115 : decode cMod_way 115 = .ok (.iload 5, 2) := by decide +kernel
theorem dMod_way_117 : decode cMod_way 117 = .ok (.iadd, 1) := by decide +kernel
theorem dMod_way_118 : decode cMod_way 118 = .ok (.iaload, 1) := by decide +kernel
theorem dMod_way_119 : decode cMod_way 119 = .ok (.iadd, 1) := by decide +kernel
theorem dMod_way_120 : decode cMod_way 120 = .ok (.baload, 1) := by decide +kernel
theorem dMod_way_121 : decode cMod_way 121 = .ok (.ifCond .ne 9, 3) := by decide +kernel
theorem dMod_way_124 : decode cMod_way 124 = .ok (.iinc 5 1, 3) := by decide +kernel
theorem dMod_way_127 : decode cMod_way 127 = .ok (.goto (-51), 3) := by decide +kernel
theorem dMod_way_130 : decode cMod_way 130 = .ok (.aload_n 0, 1) := by decide +kernel
theorem dMod_way_131 : decode cMod_way 131 = .ok (.getfield 38, 3) := by decide +kernel
theorem dMod_way_134 : decode cMod_way 134 = .ok (.bipush 16, 2) := by decide +kernel
theorem dMod_way_136 : decode cMod_way 136 = .ok (.iload 4, 2) := by decide +kernel
theorem dMod_way_138 : decode cMod_way 138 = .ok (.imul, 1) := by decide +kernel
theorem dMod_way_139 : decode cMod_way 139 = .ok (.iload 5, 2) := by decide +kernel
theorem dMod_way_141 : decode cMod_way 141 = .ok (.iadd, 1) := by decide +kernel
theorem dMod_way_142 : decode cMod_way 142 = .ok (.iaload, 1) := by decide +kernel
theorem dMod_way_143 : decode cMod_way 143 = .ok (.istore 4, 2) := by decide +kernel
theorem dMod_way_145 : decode cMod_way 145 = .ok (.iinc 6 1, 3) := by decide +kernel
theorem dMod_way_148 : decode cMod_way 148 = .ok (.goto (-81), 3) := by decide +kernel
theorem dMod_way_151 : decode cMod_way 151 = .ok (.iload 5, 2) := by decide +kernel
theorem dMod_way_153 : decode cMod_way 153 = .ok (.ireturn, 1) := by decide +kernel
theorem dMod_many_0 : decode cMod_many 0 = .ok (.aload_n 0, 1) := by decide +kernel
theorem dMod_many_1 : decode cMod_many 1 = .ok (.aload_n 0, 1) := by decide +kernel
theorem dMod_many_2 : decode cMod_many 2 = .ok (.getfield 72, 3) := by decide +kernel
theorem dMod_many_5 : decode cMod_many 5 = .ok (.ifCond .ne 7, 3) := by decide +kernel
theorem dMod_many_8 : decode cMod_many 8 = .ok (.iconst 1, 1) := by decide +kernel
theorem dMod_many_9 : decode cMod_many 9 = .ok (.goto 4, 3) := by decide +kernel
theorem dMod_many_12 : decode cMod_many 12 = .ok (.iconst 0, 1) := by decide +kernel
theorem dMod_many_13 : decode cMod_many 13 = .ok (.iconst 0, 1) := by decide +kernel
theorem dMod_many_14 : decode cMod_many 14 = .ok (.invokevirtual 62, 3) := by decide +kernel
theorem dMod_many_17 : decode cMod_many 17 = .ok (.ifCond .eq 5, 3) := by decide +kernel
theorem dMod_many_20 : decode cMod_many 20 = .ok (.iconst 0, 1) := by decide +kernel
theorem dMod_many_21 : decode cMod_many 21 = .ok (.ireturn, 1) := by decide +kernel
theorem dMod_many_22 : decode cMod_many 22 = .ok (.iconst 0, 1) := by decide +kernel
theorem dMod_many_23 : decode cMod_many 23 = .ok (.istore_n 2, 1) := by decide +kernel
theorem dMod_many_24 : decode cMod_many 24 = .ok (.iconst 0, 1) := by decide +kernel
theorem dMod_many_25 : decode cMod_many 25 = .ok (.istore_n 3, 1) := by decide +kernel
theorem dMod_many_26 : decode cMod_many 26 = .ok (.iload_n 3, 1) := by decide +kernel
theorem dMod_many_27 : decode cMod_many 27 = .ok (.aload_n 0, 1) := by decide +kernel
theorem dMod_many_28 : decode cMod_many 28 = .ok (.invokevirtual 97, 3) := by decide +kernel
theorem dMod_many_31 : decode cMod_many 31 = .ok (.if_icmp .ge 31, 3) := by decide +kernel
theorem dMod_many_34 : decode cMod_many 34 = .ok (.iload_n 1, 1) := by decide +kernel
theorem dMod_many_35 : decode cMod_many 35 = .ok (.ifCond .lt 27, 3) := by decide +kernel
theorem dMod_many_38 : decode cMod_many 38 = .ok (.aload_n 0, 1) := by decide +kernel
theorem dMod_many_39 : decode cMod_many 39 = .ok (.getfield 45, 3) := by decide +kernel
theorem dMod_many_42 : decode cMod_many 42 = .ok (.iload_n 3, 1) := by decide +kernel
theorem dMod_many_43 : decode cMod_many 43 = .ok (.iaload, 1) := by decide +kernel
theorem dMod_many_44 : decode cMod_many 44 = .ok (.iload_n 1, 1) := by decide +kernel
theorem dMod_many_45 : decode cMod_many 45 = .ok (.if_icmp .ne 9, 3) := by decide +kernel
theorem dMod_many_48 : decode cMod_many 48 = .ok (.iload_n 2, 1) := by decide +kernel
theorem dMod_many_49 : decode cMod_many 49 = .ok (.iconst 1, 1) := by decide +kernel
theorem dMod_many_50 : decode cMod_many 50 = .ok (.iadd, 1) := by decide +kernel
theorem dMod_many_51 : decode cMod_many 51 = .ok (.goto 4, 3) := by decide +kernel
theorem dMod_many_54 : decode cMod_many 54 = .ok (.iload_n 2, 1) := by decide +kernel
theorem dMod_many_55 : decode cMod_many 55 = .ok (.istore_n 2, 1) := by decide +kernel
theorem dMod_many_56 : decode cMod_many 56 = .ok (.iinc 3 1, 3) := by decide +kernel
theorem dMod_many_59 : decode cMod_many 59 = .ok (.goto (-33), 3) := by decide +kernel
theorem dMod_many_62 : decode cMod_many 62 = .ok (.iload_n 2, 1) := by decide +kernel
theorem dMod_many_63 : decode cMod_many 63 = .ok (.ireturn, 1) := by decide +kernel
theorem dMod_next_0 : decode cMod_next 0 = .ok (.aload_n 0, 1) := by decide +kernel
theorem dMod_next_1 : decode cMod_next 1 = .ok (.aload_n 0, 1) := by decide +kernel
theorem dMod_next_2 : decode cMod_next 2 = .ok (.getfield 72, 3) := by decide +kernel
theorem dMod_next_5 : decode cMod_next 5 = .ok (.ifCond .ne 7, 3) := by decide +kernel
theorem dMod_next_8 : decode cMod_next 8 = .ok (.iconst 1, 1) := by decide +kernel
theorem dMod_next_9 : decode cMod_next 9 = .ok (.goto 4, 3) := by decide +kernel
theorem dMod_next_12 : decode cMod_next 12 = .ok (.iconst 0, 1) := by decide +kernel
theorem dMod_next_13 : decode cMod_next 13 = .ok (.aload_n 0, 1) := by decide +kernel
theorem dMod_next_14 : decode cMod_next 14 = .ok (.iload_n 1, 1) := by decide +kernel
theorem dMod_next_15 : decode cMod_next 15 = .ok (.invokevirtual 122, 3) := by decide +kernel
theorem dMod_next_18 : decode cMod_next 18 = .ok (.ifCond .eq 13, 3) := by decide +kernel
theorem dMod_next_21 : decode cMod_next 21 = .ok (.iload_n 2, 1) := by decide +kernel
theorem dMod_next_22 : decode cMod_next 22 = .ok (.ifCond .lt 9, 3) := by decide +kernel
theorem dMod_next_25 : decode cMod_next 25 = .ok (.iload_n 2, 1) := by decide +kernel
theorem dMod_next_26 : decode cMod_next 26 = .ok (.bipush 15, 2) := by decide +kernel
theorem dMod_next_28 : decode cMod_next 28 = .ok (.if_icmp .le 7, 3) := by decide +kernel
theorem dMod_next_31 : decode cMod_next 31 = .ok (.iconst 1, 1) := by decide +kernel
theorem dMod_next_32 : decode cMod_next 32 = .ok (.goto 4, 3) := by decide +kernel
theorem dMod_next_35 : decode cMod_next 35 = .ok (.iconst 0, 1) := by decide +kernel
theorem dMod_next_36 : decode cMod_next 36 = .ok (.invokevirtual 62, 3) := by decide +kernel
theorem dMod_next_39 : decode cMod_next 39 = .ok (.ifCond .eq 5, 3) := by decide +kernel
theorem dMod_next_42 : decode cMod_next 42 = .ok (.iconst 0, 1) := by decide +kernel
theorem dMod_next_43 : decode cMod_next 43 = .ok (.ireturn, 1) := by decide +kernel
theorem dMod_next_44 : decode cMod_next 44 = .ok (.bipush 16, 2) := by decide +kernel
theorem dMod_next_46 : decode cMod_next 46 = .ok (.iload_n 1, 1) := by decide +kernel
theorem dMod_next_47 : decode cMod_next 47 = .ok (.imul, 1) := by decide +kernel
theorem dMod_next_48 : decode cMod_next 48 = .ok (.iload_n 2, 1) := by decide +kernel
theorem dMod_next_49 : decode cMod_next 49 = .ok (.aload_n 0, 1) := by decide +kernel
theorem dMod_next_50 : decode cMod_next 50 = .ok (.invokevirtual 101, 3) := by decide +kernel
theorem dMod_next_53 : decode cMod_next 53 = .ok (.irem, 1) := by decide +kernel
theorem dMod_next_54 : decode cMod_next 54 = .ok (.iadd, 1) := by decide +kernel
theorem dMod_next_55 : decode cMod_next 55 = .ok (.istore_n 3, 1) := by decide +kernel
theorem dMod_next_56 : decode cMod_next 56 = .ok (.aload_n 0, 1) := by decide +kernel
theorem dMod_next_57 : decode cMod_next 57 = .ok (.getfield 35, 3) := by decide +kernel
theorem dMod_next_60 : decode cMod_next 60 = .ok (.iload_n 3, 1) := by decide +kernel
theorem dMod_next_61 : decode cMod_next 61 = .ok (.baload, 1) := by decide +kernel
theorem dMod_next_62 : decode cMod_next 62 = .ok (.ifCond .eq 12, 3) := by decide +kernel
theorem dMod_next_65 : decode cMod_next 65 = .ok (.aload_n 0, 1) := by decide +kernel
theorem dMod_next_66 : decode cMod_next 66 = .ok (.getfield 38, 3) := by decide +kernel
theorem dMod_next_69 : decode cMod_next 69 = .ok (.iload_n 3, 1) := by decide +kernel
theorem dMod_next_70 : decode cMod_next 70 = .ok (.iaload, 1) := by decide +kernel
theorem dMod_next_71 : decode cMod_next 71 = .ok (.goto 4, 3) := by decide +kernel
theorem dMod_next_74 : decode cMod_next 74 = .ok (.iconst (-1), 1) := by decide +kernel
theorem dMod_next_75 : decode cMod_next 75 = .ok (.ireturn, 1) := by decide +kernel
theorem dMod_doubt_0 : decode cMod_doubt 0 = .ok (.aload_n 0, 1) := by decide +kernel
theorem dMod_doubt_1 : decode cMod_doubt 1 = .ok (.aload_n 0, 1) := by decide +kernel
theorem dMod_doubt_2 : decode cMod_doubt 2 = .ok (.getfield 72, 3) := by decide +kernel
theorem dMod_doubt_5 : decode cMod_doubt 5 = .ok (.ifCond .ne 7, 3) := by decide +kernel
theorem dMod_doubt_8 : decode cMod_doubt 8 = .ok (.iconst 1, 1) := by decide +kernel
theorem dMod_doubt_9 : decode cMod_doubt 9 = .ok (.goto 4, 3) := by decide +kernel
theorem dMod_doubt_12 : decode cMod_doubt 12 = .ok (.iconst 0, 1) := by decide +kernel
theorem dMod_doubt_13 : decode cMod_doubt 13 = .ok (.iload_n 1, 1) := by decide +kernel
theorem dMod_doubt_14 : decode cMod_doubt 14 = .ok (.ifCond .lt 8, 3) := by decide +kernel
theorem dMod_doubt_17 : decode cMod_doubt 17 = .ok (.iload_n 1, 1) := by decide +kernel
theorem dMod_doubt_18 : decode cMod_doubt 18 = .ok (.iconst 2, 1) := by decide +kernel
theorem dMod_doubt_19 : decode cMod_doubt 19 = .ok (.if_icmp .le 7, 3) := by decide +kernel
theorem dMod_doubt_22 : decode cMod_doubt 22 = .ok (.iconst 1, 1) := by decide +kernel
theorem dMod_doubt_23 : decode cMod_doubt 23 = .ok (.goto 4, 3) := by decide +kernel
theorem dMod_doubt_26 : decode cMod_doubt 26 = .ok (.iconst 0, 1) := by decide +kernel
theorem dMod_doubt_27 : decode cMod_doubt 27 = .ok (.invokevirtual 62, 3) := by decide +kernel
theorem dMod_doubt_30 : decode cMod_doubt 30 = .ok (.ifCond .eq 5, 3) := by decide +kernel
theorem dMod_doubt_33 : decode cMod_doubt 33 = .ok (.iconst 0, 1) := by decide +kernel
theorem dMod_doubt_34 : decode cMod_doubt 34 = .ok (.ireturn, 1) := by decide +kernel
theorem dMod_doubt_35 : decode cMod_doubt 35 = .ok (.iconst 0, 1) := by decide +kernel
theorem dMod_doubt_36 : decode cMod_doubt 36 = .ok (.istore_n 2, 1) := by decide +kernel
theorem dMod_doubt_37 : decode cMod_doubt 37 = .ok (.iload_n 2, 1) := by decide +kernel
theorem dMod_doubt_38 : decode cMod_doubt 38 = .ok (.sipush 256, 3) := by decide +kernel
theorem dMod_doubt_41 : decode cMod_doubt 41 = .ok (.if_icmp .ge 86, 3) := by decide +kernel
theorem dMod_doubt_44 : decode cMod_doubt 44 = .ok (.iconst 0, 1) := by decide +kernel
theorem dMod_doubt_45 : decode cMod_doubt 45 = .ok (.istore_n 3, 1) := by decide +kernel
theorem dMod_doubt_46 : decode cMod_doubt 46 = .ok (.iload_n 3, 1) := by decide +kernel
theorem dMod_doubt_47 : decode cMod_doubt 47 = .ok (.bipush 16, 2) := by decide +kernel
theorem dMod_doubt_49 : decode cMod_doubt 49 = .ok (.aload_n 0, 1) := by decide +kernel
theorem dMod_doubt_50 : decode cMod_doubt 50 = .ok (.invokevirtual 97, 3) := by decide +kernel
theorem dMod_doubt_53 : decode cMod_doubt 53 = .ok (.imul, 1) := by decide +kernel
theorem dMod_doubt_54 : decode cMod_doubt 54 = .ok (.if_icmp .ge 67, 3) := by decide +kernel
theorem dMod_doubt_57 : decode cMod_doubt 57 = .ok (.aload_n 0, 1) := by decide +kernel
theorem dMod_doubt_58 : decode cMod_doubt 58 = .ok (.getfield 45, 3) := by decide +kernel
theorem dMod_doubt_61 : decode cMod_doubt 61 = .ok (.iload_n 3, 1) := by decide +kernel
theorem dMod_doubt_62 : decode cMod_doubt 62 = .ok (.bipush 16, 2) := by decide +kernel
theorem dMod_doubt_64 : decode cMod_doubt 64 = .ok (.idiv, 1) := by decide +kernel
theorem dMod_doubt_65 : decode cMod_doubt 65 = .ok (.iaload, 1) := by decide +kernel
theorem dMod_doubt_66 : decode cMod_doubt 66 = .ok (.iload_n 2, 1) := by decide +kernel
theorem dMod_doubt_67 : decode cMod_doubt 67 = .ok (.if_icmp .ne 48, 3) := by decide +kernel
theorem dMod_doubt_70 : decode cMod_doubt 70 = .ok (.iload_n 3, 1) := by decide +kernel
theorem dMod_doubt_71 : decode cMod_doubt 71 = .ok (.bipush 16, 2) := by decide +kernel
theorem dMod_doubt_73 : decode cMod_doubt 73 = .ok (.irem, 1) := by decide +kernel
theorem dMod_doubt_74 : decode cMod_doubt 74 = .ok (.aload_n 0, 1) := by decide +kernel
theorem dMod_doubt_75 : decode cMod_doubt 75 = .ok (.invokevirtual 101, 3) := by decide +kernel
theorem dMod_doubt_78 : decode cMod_doubt 78 = .ok (.if_icmp .ge 37, 3) := by decide +kernel
theorem dMod_doubt_81 : decode cMod_doubt 81 = .ok (.aload_n 0, 1) := by decide +kernel
theorem dMod_doubt_82 : decode cMod_doubt 82 = .ok (.getfield 35, 3) := by decide +kernel
theorem dMod_doubt_85 : decode cMod_doubt 85 = .ok (.iload_n 3, 1) := by decide +kernel
theorem dMod_doubt_86 : decode cMod_doubt 86 = .ok (.baload, 1) := by decide +kernel
theorem dMod_doubt_87 : decode cMod_doubt 87 = .ok (.ifCond .ne 28, 3) := by decide +kernel
theorem dMod_doubt_90 : decode cMod_doubt 90 = .ok (.iload_n 1, 1) := by decide +kernel
theorem dMod_doubt_91 : decode cMod_doubt 91 = .ok (.ifCond .ne 7, 3) := by decide +kernel
theorem dMod_doubt_94 : decode cMod_doubt 94 = .ok (.iload_n 2, 1) := by decide +kernel
theorem dMod_doubt_95 : decode cMod_doubt 95 = .ok (.goto 19, 3) := by decide +kernel
theorem dMod_doubt_98 : decode cMod_doubt 98 = .ok (.iload_n 1, 1) := by decide +kernel
theorem dMod_doubt_99 : decode cMod_doubt 99 = .ok (.iconst 1, 1) := by decide +kernel
theorem dMod_doubt_100 : decode cMod_doubt 100 = .ok (.if_icmp .ne 10, 3) := by decide +kernel
theorem dMod_doubt_103 : decode cMod_doubt 103 = .ok (.iload_n 3, 1) := by decide +kernel
theorem dMod_doubt_104 : decode cMod_doubt 104 = .ok (.bipush 16, 2) := by decide +kernel
theorem dMod_doubt_106 : decode cMod_doubt 106 = .ok (.idiv, 1) := by decide +kernel
theorem dMod_doubt_107 : decode cMod_doubt 107 = .ok (.goto 7, 3) := by decide +kernel
theorem dMod_doubt_110 : decode cMod_doubt 110 = .ok (.iload_n 3, 1) := by decide +kernel
theorem dMod_doubt_111 : decode cMod_doubt 111 = .ok (.bipush 16, 2) := by decide +kernel
theorem dMod_doubt_113 : decode cMod_doubt 113 = .ok (.irem, 1) := by decide +kernel
theorem dMod_doubt_114 : decode cMod_doubt 114 = .ok (.ireturn, 1) := by decide +kernel
theorem dMod_doubt_115 : decode cMod_doubt 115 = .ok (.iinc 3 1, 3) := by decide +kernel
theorem dMod_doubt_118 : decode cMod_doubt 118 = .ok (.goto (-72), 3) := by decide +kernel
theorem dMod_doubt_121 : decode cMod_doubt 121 = .ok (.iinc 2 1, 3) := by decide +kernel
theorem dMod_doubt_124 : decode cMod_doubt 124 = .ok (.goto (-87), 3) := by decide +kernel
theorem dMod_doubt_127 : decode cMod_doubt 127 = .ok (.iconst (-1), 1) := by decide +kernel
theorem dMod_doubt_128 : decode cMod_doubt 128 = .ok (.ireturn, 1) := by decide +kernel
theorem dMod_held_0 : decode cMod_held 0 = .ok (.iconst 0, 1) := by decide +kernel
theorem dMod_held_1 : decode cMod_held 1 = .ok (.istore 4, 2) := by decide +kernel
theorem dMod_held_3 : decode cMod_held 3 = .ok (.iconst 0, 1) := by decide +kernel
theorem dMod_held_4 : decode cMod_held 4 = .ok (.istore 5, 2) := by decide +kernel
theorem dMod_held_6 : decode cMod_held 6 = .ok (.iload 5, 2) := by decide +kernel
theorem dMod_held_8 : decode cMod_held 8 = .ok (.bipush 16, 2) := by decide +kernel
theorem dMod_held_10 : decode cMod_held 10 = .ok (.aload_n 0, 1) := by decide +kernel
theorem dMod_held_11 : decode cMod_held 11 = .ok (.invokevirtual 97, 3) := by decide +kernel
theorem dMod_held_14 : decode cMod_held 14 = .ok (.imul, 1) := by decide +kernel
theorem dMod_held_15 : decode cMod_held 15 = .ok (.if_icmp .ge 99, 3) := by decide +kernel
theorem dMod_held_18 : decode cMod_held 18 = .ok (.aload_n 0, 1) := by decide +kernel
theorem dMod_held_19 : decode cMod_held 19 = .ok (.getfield 45, 3) := by decide +kernel
theorem dMod_held_22 : decode cMod_held 22 = .ok (.iload 5, 2) := by decide +kernel
theorem dMod_held_24 : decode cMod_held 24 = .ok (.bipush 16, 2) := by decide +kernel
theorem dMod_held_26 : decode cMod_held 26 = .ok (.idiv, 1) := by decide +kernel
theorem dMod_held_27 : decode cMod_held 27 = .ok (.iaload, 1) := by decide +kernel
theorem dMod_held_28 : decode cMod_held 28 = .ok (.ifCond .lt 29, 3) := by decide +kernel
theorem dMod_held_31 : decode cMod_held 31 = .ok (.iload 5, 2) := by decide +kernel
theorem dMod_held_33 : decode cMod_held 33 = .ok (.bipush 16, 2) := by decide +kernel
theorem dMod_held_35 : decode cMod_held 35 = .ok (.irem, 1) := by decide +kernel
theorem dMod_held_36 : decode cMod_held 36 = .ok (.aload_n 0, 1) := by decide +kernel
theorem dMod_held_37 : decode cMod_held 37 = .ok (.invokevirtual 101, 3) := by decide +kernel
theorem dMod_held_40 : decode cMod_held 40 = .ok (.if_icmp .ge 17, 3) := by decide +kernel
theorem dMod_held_43 : decode cMod_held 43 = .ok (.aload_n 0, 1) := by decide +kernel
theorem dMod_held_44 : decode cMod_held 44 = .ok (.getfield 35, 3) := by decide +kernel
theorem dMod_held_47 : decode cMod_held 47 = .ok (.iload 5, 2) := by decide +kernel
theorem dMod_held_49 : decode cMod_held 49 = .ok (.baload, 1) := by decide +kernel
theorem dMod_held_50 : decode cMod_held 50 = .ok (.ifCond .eq 7, 3) := by decide +kernel
theorem dMod_held_53 : decode cMod_held 53 = .ok (.iconst 1, 1) := by decide +kernel
theorem dMod_held_54 : decode cMod_held 54 = .ok (.goto 4, 3) := by decide +kernel
theorem dMod_held_57 : decode cMod_held 57 = .ok (.iconst 0, 1) := by decide +kernel
theorem dMod_held_58 : decode cMod_held 58 = .ok (.istore 6, 2) := by decide +kernel
theorem dMod_held_60 : decode cMod_held 60 = .ok (.aload_n 0, 1) := by decide +kernel
theorem dMod_held_61 : decode cMod_held 61 = .ok (.getfield 41, 3) := by decide +kernel
theorem dMod_held_64 : decode cMod_held 64 = .ok (.iload 5, 2) := by decide +kernel
theorem dMod_held_66 : decode cMod_held 66 = .ok (.laload, 1) := by decide +kernel
theorem dMod_held_67 : decode cMod_held 67 = .ok (.lload_n 1, 1) := by decide +kernel
theorem dMod_held_68 : decode cMod_held 68 = .ok (.land, 1) := by decide +kernel
theorem dMod_held_69 : decode cMod_held 69 = .ok (.lstore 7, 2) := by decide +kernel
theorem dMod_held_71 : decode cMod_held 71 = .ok (.iload 6, 2) := by decide +kernel
theorem dMod_held_73 : decode cMod_held 73 = .ok (.ifCond .eq 31, 3) := by decide +kernel
theorem dMod_held_76 : decode cMod_held 76 = .ok (.iload_n 3, 1) := by decide +kernel
theorem dMod_held_77 : decode cMod_held 77 = .ok (.ifCond .eq 13, 3) := by decide +kernel
theorem dMod_held_80 : decode cMod_held 80 = .ok (.lload 7, 2) := by decide +kernel
theorem dMod_held_82 : decode cMod_held 82 = .ok (.lload_n 1, 1) := by decide +kernel
theorem dMod_held_83 : decode cMod_held 83 = .ok (.lcmp, 1) := by decide +kernel
theorem dMod_held_84 : decode cMod_held 84 = .ok (.ifCond .ne 20, 3) := by decide +kernel
theorem dMod_held_87 : decode cMod_held 87 = .ok (.goto 10, 3) := by decide +kernel
theorem dMod_held_90 : decode cMod_held 90 = .ok (.lload 7, 2) := by decide +kernel
theorem dMod_held_92 : decode cMod_held 92 = .ok (.lconst 0, 1) := by decide +kernel
theorem dMod_held_93 : decode cMod_held 93 = .ok (.lcmp, 1) := by decide +kernel
theorem dMod_held_94 : decode cMod_held 94 = .ok (.ifCond .ne 10, 3) := by decide +kernel
theorem dMod_held_97 : decode cMod_held 97 = .ok (.iload 4, 2) := by decide +kernel
theorem dMod_held_99 : decode cMod_held 99 = .ok (.iconst 1, 1) := by decide +kernel
theorem dMod_held_100 : decode cMod_held 100 = .ok (.iadd, 1) := by decide +kernel
theorem dMod_held_101 : decode cMod_held 101 = .ok (.goto 5, 3) := by decide +kernel
theorem dMod_held_104 : decode cMod_held 104 = .ok (.iload 4, 2) := by decide +kernel
theorem dMod_held_106 : decode cMod_held 106 = .ok (.istore 4, 2) := by decide +kernel
theorem dMod_held_108 : decode cMod_held 108 = .ok (.iinc 5 1, 3) := by decide +kernel
theorem dMod_held_111 : decode cMod_held 111 = .ok (.goto (-105), 3) := by decide +kernel
theorem dMod_held_114 : decode cMod_held 114 = .ok (.iload 4, 2) := by decide +kernel
theorem dMod_held_116 : decode cMod_held 116 = .ok (.ireturn, 1) := by decide +kernel
theorem dMod_always_0 : decode cMod_always 0 = .ok (.aload_n 0, 1) := by decide +kernel
theorem dMod_always_1 : decode cMod_always 1 = .ok (.aload_n 0, 1) := by decide +kernel
theorem dMod_always_2 : decode cMod_always 2 = .ok (.getfield 72, 3) := by decide +kernel
theorem dMod_always_5 : decode cMod_always 5 = .ok (.ifCond .ne 7, 3) := by decide +kernel
theorem dMod_always_8 : decode cMod_always 8 = .ok (.iconst 1, 1) := by decide +kernel
theorem dMod_always_9 : decode cMod_always 9 = .ok (.goto 4, 3) := by decide +kernel
theorem dMod_always_12 : decode cMod_always 12 = .ok (.iconst 0, 1) := by decide +kernel
theorem dMod_always_13 : decode cMod_always 13 = .ok (.aload_n 0, 1) := by decide +kernel
theorem dMod_always_14 : decode cMod_always 14 = .ok (.iload_n 1, 1) := by decide +kernel
theorem dMod_always_15 : decode cMod_always 15 = .ok (.invokevirtual 79, 3) := by decide +kernel
theorem dMod_always_18 : decode cMod_always 18 = .ok (.ifCond .ne 7, 3) := by decide +kernel
theorem dMod_always_21 : decode cMod_always 21 = .ok (.iconst 1, 1) := by decide +kernel
theorem dMod_always_22 : decode cMod_always 22 = .ok (.goto 4, 3) := by decide +kernel
theorem dMod_always_25 : decode cMod_always 25 = .ok (.iconst 0, 1) := by decide +kernel
theorem dMod_always_26 : decode cMod_always 26 = .ok (.invokevirtual 62, 3) := by decide +kernel
theorem dMod_always_29 : decode cMod_always 29 = .ok (.ifCond .eq 5, 3) := by decide +kernel
theorem dMod_always_32 : decode cMod_always 32 = .ok (.iconst 0, 1) := by decide +kernel
theorem dMod_always_33 : decode cMod_always 33 = .ok (.ireturn, 1) := by decide +kernel
theorem dMod_always_34 : decode cMod_always 34 = .ok (.aload_n 0, 1) := by decide +kernel
theorem dMod_always_35 : decode cMod_always 35 = .ok (.lconst 1, 1) := by decide +kernel
theorem dMod_always_36 : decode cMod_always 36 = .ok (.iload_n 1, 1) := by decide +kernel
theorem dMod_always_37 : decode cMod_always 37 = .ok (.lshl, 1) := by decide +kernel
theorem dMod_always_38 : decode cMod_always 38 = .ok (.iconst 1, 1) := by decide +kernel
theorem dMod_always_39 : decode cMod_always 39 = .ok (.invokevirtual 128, 3) := by decide +kernel
theorem dMod_always_42 : decode cMod_always 42 = .ok (.istore_n 2, 1) := by decide +kernel
theorem dMod_always_43 : decode cMod_always 43 = .ok (.aload_n 0, 1) := by decide +kernel
theorem dMod_always_44 : decode cMod_always 44 = .ok (.lconst 1, 1) := by decide +kernel
theorem dMod_always_45 : decode cMod_always 45 = .ok (.iload_n 1, 1) := by decide +kernel
theorem dMod_always_46 : decode cMod_always 46 = .ok (.lshl, 1) := by decide +kernel
theorem dMod_always_47 : decode cMod_always 47 = .ok (.iconst 0, 1) := by decide +kernel
theorem dMod_always_48 : decode cMod_always 48 = .ok (.invokevirtual 128, 3) := by decide +kernel
theorem dMod_always_51 : decode cMod_always 51 = .ok (.istore_n 3, 1) := by decide +kernel
theorem dMod_always_52 : decode cMod_always 52 = .ok (.iload_n 2, 1) := by decide +kernel
theorem dMod_always_53 : decode cMod_always 53 = .ok (.ifCond .le 11, 3) := by decide +kernel
theorem dMod_always_56 : decode cMod_always 56 = .ok (.iload_n 3, 1) := by decide +kernel
theorem dMod_always_57 : decode cMod_always 57 = .ok (.ifCond .ne 7, 3) := by decide +kernel
theorem dMod_always_60 : decode cMod_always 60 = .ok (.iconst 1, 1) := by decide +kernel
theorem dMod_always_61 : decode cMod_always 61 = .ok (.goto 16, 3) := by decide +kernel
theorem dMod_always_64 : decode cMod_always 64 = .ok (.iload_n 3, 1) := by decide +kernel
theorem dMod_always_65 : decode cMod_always 65 = .ok (.ifCond .le 11, 3) := by decide +kernel
theorem dMod_always_68 : decode cMod_always 68 = .ok (.iload_n 2, 1) := by decide +kernel
theorem dMod_always_69 : decode cMod_always 69 = .ok (.ifCond .ne 7, 3) := by decide +kernel
theorem dMod_always_72 : decode cMod_always 72 = .ok (.iconst 0, 1) := by decide +kernel
theorem dMod_always_73 : decode cMod_always 73 = .ok (.goto 4, 3) := by decide +kernel
theorem dMod_always_76 : decode cMod_always 76 = .ok (.iconst 2, 1) := by decide +kernel
theorem dMod_always_77 : decode cMod_always 77 = .ok (.ireturn, 1) := by decide +kernel
theorem dMod_isSame_0 : decode cMod_isSame 0 = .ok (.aload_n 0, 1) := by decide +kernel
theorem dMod_isSame_1 : decode cMod_isSame 1 = .ok (.aload_n 0, 1) := by decide +kernel
theorem dMod_isSame_2 : decode cMod_isSame 2 = .ok (.getfield 72, 3) := by decide +kernel
theorem dMod_isSame_5 : decode cMod_isSame 5 = .ok (.ifCond .ne 7, 3) := by decide +kernel
theorem dMod_isSame_8 : decode cMod_isSame 8 = .ok (.iconst 1, 1) := by decide +kernel
theorem dMod_isSame_9 : decode cMod_isSame 9 = .ok (.goto 4, 3) := by decide +kernel
theorem dMod_isSame_12 : decode cMod_isSame 12 = .ok (.iconst 0, 1) := by decide +kernel
theorem dMod_isSame_13 : decode cMod_isSame 13 = .ok (.aload_n 0, 1) := by decide +kernel
theorem dMod_isSame_14 : decode cMod_isSame 14 = .ok (.iload_n 1, 1) := by decide +kernel
theorem dMod_isSame_15 : decode cMod_isSame 15 = .ok (.invokevirtual 79, 3) := by decide +kernel
theorem dMod_isSame_18 : decode cMod_isSame 18 = .ok (.ifCond .eq 11, 3) := by decide +kernel
theorem dMod_isSame_21 : decode cMod_isSame 21 = .ok (.aload_n 0, 1) := by decide +kernel
theorem dMod_isSame_22 : decode cMod_isSame 22 = .ok (.iload_n 2, 1) := by decide +kernel
theorem dMod_isSame_23 : decode cMod_isSame 23 = .ok (.invokevirtual 79, 3) := by decide +kernel
theorem dMod_isSame_26 : decode cMod_isSame 26 = .ok (.ifCond .ne 7, 3) := by decide +kernel
theorem dMod_isSame_29 : decode cMod_isSame 29 = .ok (.iconst 1, 1) := by decide +kernel
theorem dMod_isSame_30 : decode cMod_isSame 30 = .ok (.goto 4, 3) := by decide +kernel
theorem dMod_isSame_33 : decode cMod_isSame 33 = .ok (.iconst 0, 1) := by decide +kernel
theorem dMod_isSame_34 : decode cMod_isSame 34 = .ok (.invokevirtual 62, 3) := by decide +kernel
theorem dMod_isSame_37 : decode cMod_isSame 37 = .ok (.ifCond .eq 5, 3) := by decide +kernel
theorem dMod_isSame_40 : decode cMod_isSame 40 = .ok (.iconst 0, 1) := by decide +kernel
theorem dMod_isSame_41 : decode cMod_isSame 41 = .ok (.ireturn, 1) := by decide +kernel
theorem dMod_isSame_42 : decode cMod_isSame 42 = .ok (.lconst 1, 1) := by decide +kernel
theorem dMod_isSame_43 : decode cMod_isSame 43 = .ok (.iload_n 1, 1) := by decide +kernel
theorem dMod_isSame_44 : decode cMod_isSame 44 = .ok (.lshl, 1) := by decide +kernel
theorem dMod_isSame_45 : decode cMod_isSame 45 = .ok (.lconst 1, 1) := by decide +kernel
theorem dMod_isSame_46 : decode cMod_isSame 46 = .ok (.iload_n 2, 1) := by decide +kernel
theorem dMod_isSame_47 : decode cMod_isSame 47 = .ok (.lshl, 1) := by decide +kernel
theorem dMod_isSame_48 : decode cMod_isSame 48 = .ok (.lor, 1) := by decide +kernel
theorem dMod_isSame_49 : decode cMod_isSame 49 = .ok (.lstore_n 3, 1) := by decide +kernel
theorem dMod_isSame_50 : decode cMod_isSame 50 = .ok (.aload_n 0, 1) := by decide +kernel
theorem dMod_isSame_51 : decode cMod_isSame 51 = .ok (.lload_n 3, 1) := by decide +kernel
theorem dMod_isSame_52 : decode cMod_isSame 52 = .ok (.iconst 1, 1) := by decide +kernel
theorem dMod_isSame_53 : decode cMod_isSame 53 = .ok (.invokevirtual 128, 3) := by decide +kernel
theorem dMod_isSame_56 : decode cMod_isSame 56 = .ok (.aload_n 0, 1) := by decide +kernel
theorem dMod_isSame_57 : decode cMod_isSame 57 = .ok (.lload_n 3, 1) := by decide +kernel
theorem dMod_isSame_58 : decode cMod_isSame 58 = .ok (.iconst 0, 1) := by decide +kernel
theorem dMod_isSame_59 : decode cMod_isSame 59 = .ok (.invokevirtual 128, 3) := by decide +kernel
theorem dMod_isSame_62 : decode cMod_isSame 62 = .ok (.iadd, 1) := by decide +kernel
theorem dMod_isSame_63 : decode cMod_isSame 63 = .ok (.aload_n 0, 1) := by decide +kernel
theorem dMod_isSame_64 : decode cMod_isSame 64 = .ok (.lconst 0, 1) := by decide +kernel
theorem dMod_isSame_65 : decode cMod_isSame 65 = .ok (.iconst 1, 1) := by decide +kernel
theorem dMod_isSame_66 : decode cMod_isSame 66 = .ok (.invokevirtual 128, 3) := by decide +kernel
theorem dMod_isSame_69 : decode cMod_isSame 69 = .ok (.if_icmp .ne 7, 3) := by decide +kernel
theorem dMod_isSame_72 : decode cMod_isSame 72 = .ok (.iconst 1, 1) := by decide +kernel
theorem dMod_isSame_73 : decode cMod_isSame 73 = .ok (.goto 4, 3) := by decide +kernel
theorem dMod_isSame_76 : decode cMod_isSame 76 = .ok (.iconst 0, 1) := by decide +kernel
theorem dMod_isSame_77 : decode cMod_isSame 77 = .ok (.ireturn, 1) := by decide +kernel
theorem dMod_least_0 : decode cMod_least 0 = .ok (.iconst 0, 1) := by decide +kernel
theorem dMod_least_1 : decode cMod_least 1 = .ok (.istore_n 2, 1) := by decide +kernel
theorem dMod_least_2 : decode cMod_least 2 = .ok (.aload_n 0, 1) := by decide +kernel
theorem dMod_least_3 : decode cMod_least 3 = .ok (.getfield 45, 3) := by decide +kernel
theorem dMod_least_6 : decode cMod_least 6 = .ok (.iload_n 2, 1) := by decide +kernel
theorem dMod_least_7 : decode cMod_least 7 = .ok (.iaload, 1) := by decide +kernel
theorem dMod_least_8 : decode cMod_least 8 = .ok (.ifCond .lt 18, 3) := by decide +kernel
theorem dMod_least_11 : decode cMod_least 11 = .ok (.aload_n 0, 1) := by decide +kernel
theorem dMod_least_12 : decode cMod_least 12 = .ok (.getfield 49, 3) := by decide +kernel
theorem dMod_least_15 : decode cMod_least 15 = .ok (.sipush 256, 3) := by decide +kernel
theorem dMod_least_18 : decode cMod_least 18 = .ok (.iload_n 1, 1) := by decide +kernel
theorem dMod_least_19 : decode cMod_least 19 = .ok (.imul, 1) := by decide +kernel
theorem dMod_least_20 : decode cMod_least 20 = .ok (.iload_n 2, 1) := by decide +kernel
theorem dMod_least_21 : decode cMod_least 21 = .ok (.iadd, 1) := by decide +kernel
theorem dMod_least_22 : decode cMod_least 22 = .ok (.baload, 1) := by decide +kernel
theorem dMod_least_23 : decode cMod_least 23 = .ok (.ifCond .eq 9, 3) := by decide +kernel
theorem dMod_least_26 : decode cMod_least 26 = .ok (.iinc 2 1, 3) := by decide +kernel
theorem dMod_least_29 : decode cMod_least 29 = .ok (.goto (-27), 3) := by decide +kernel
theorem dMod_least_32 : decode cMod_least 32 = .ok (.iload_n 2, 1) := by decide +kernel
theorem dMod_least_33 : decode cMod_least 33 = .ok (.ireturn, 1) := by decide +kernel
theorem dMod_group_0 : decode cMod_group 0 = .ok (.aload_n 0, 1) := by decide +kernel
theorem dMod_group_1 : decode cMod_group 1 = .ok (.aload_n 0, 1) := by decide +kernel
theorem dMod_group_2 : decode cMod_group 2 = .ok (.getfield 72, 3) := by decide +kernel
theorem dMod_group_5 : decode cMod_group 5 = .ok (.ifCond .ne 7, 3) := by decide +kernel
theorem dMod_group_8 : decode cMod_group 8 = .ok (.iconst 1, 1) := by decide +kernel
theorem dMod_group_9 : decode cMod_group 9 = .ok (.goto 4, 3) := by decide +kernel
theorem dMod_group_12 : decode cMod_group 12 = .ok (.iconst 0, 1) := by decide +kernel
theorem dMod_group_13 : decode cMod_group 13 = .ok (.aload_n 0, 1) := by decide +kernel
theorem dMod_group_14 : decode cMod_group 14 = .ok (.iload_n 1, 1) := by decide +kernel
theorem dMod_group_15 : decode cMod_group 15 = .ok (.invokevirtual 122, 3) := by decide +kernel
theorem dMod_group_18 : decode cMod_group 18 = .ok (.ifCond .ne 7, 3) := by decide +kernel
theorem dMod_group_21 : decode cMod_group 21 = .ok (.iconst 1, 1) := by decide +kernel
theorem dMod_group_22 : decode cMod_group 22 = .ok (.goto 4, 3) := by decide +kernel
theorem dMod_group_25 : decode cMod_group 25 = .ok (.iconst 0, 1) := by decide +kernel
theorem dMod_group_26 : decode cMod_group 26 = .ok (.invokevirtual 62, 3) := by decide +kernel
theorem dMod_group_29 : decode cMod_group 29 = .ok (.ifCond .eq 7, 3) := by decide +kernel
theorem dMod_group_32 : decode cMod_group 32 = .ok (.iconst 0, 1) := by decide +kernel
theorem dMod_group_33 : decode cMod_group 33 = .ok (.goto 21, 3) := by decide +kernel
theorem dMod_group_36 : decode cMod_group 36 = .ok (.aload_n 0, 1) := by decide +kernel
theorem dMod_group_37 : decode cMod_group 37 = .ok (.getfield 45, 3) := by decide +kernel
theorem dMod_group_40 : decode cMod_group 40 = .ok (.iload_n 1, 1) := by decide +kernel
theorem dMod_group_41 : decode cMod_group 41 = .ok (.iaload, 1) := by decide +kernel
theorem dMod_group_42 : decode cMod_group 42 = .ok (.ifCond .ge 7, 3) := by decide +kernel
theorem dMod_group_45 : decode cMod_group 45 = .ok (.iconst (-1), 1) := by decide +kernel
theorem dMod_group_46 : decode cMod_group 46 = .ok (.goto 8, 3) := by decide +kernel
theorem dMod_group_49 : decode cMod_group 49 = .ok (.aload_n 0, 1) := by decide +kernel
theorem dMod_group_50 : decode cMod_group 50 = .ok (.iload_n 1, 1) := by decide +kernel
theorem dMod_group_51 : decode cMod_group 51 = .ok (.invokevirtual 132, 3) := by decide +kernel
theorem dMod_group_54 : decode cMod_group 54 = .ok (.ireturn, 1) := by decide +kernel
theorem dMod_count_0 : decode cMod_count 0 = .ok (.aload_n 0, 1) := by decide +kernel
theorem dMod_count_1 : decode cMod_count 1 = .ok (.iconst 0, 1) := by decide +kernel
theorem dMod_count_2 : decode cMod_count 2 = .ok (.putfield 55, 3) := by decide +kernel
theorem dMod_count_5 : decode cMod_count 5 = .ok (.iload_n 1, 1) := by decide +kernel
theorem dMod_count_6 : decode cMod_count 6 = .ok (.ifCond .lt 9, 3) := by decide +kernel
theorem dMod_count_9 : decode cMod_count 9 = .ok (.iload_n 1, 1) := by decide +kernel
theorem dMod_count_10 : decode cMod_count 10 = .ok (.bipush 9, 2) := by decide +kernel
theorem dMod_count_12 : decode cMod_count 12 = .ok (.if_icmp .le 5, 3) := by decide +kernel
theorem dMod_count_15 : decode cMod_count 15 = .ok (.iconst (-1), 1) := by decide +kernel
theorem dMod_count_16 : decode cMod_count 16 = .ok (.ireturn, 1) := by decide +kernel
theorem dMod_count_17 : decode cMod_count 17 = .ok (.iload_n 1, 1) := by decide +kernel
theorem dMod_count_18 : decode cMod_count 18 = .ok (.iconst 5, 1) := by decide +kernel
theorem dMod_count_19 : decode cMod_count 19 = .ok (.if_icmp .ge 55, 3) := by decide +kernel
theorem dMod_count_22 : decode cMod_count 22 = .ok (.iload_n 1, 1) := by decide +kernel
theorem dMod_count_23 : decode cMod_count 23 = .ok (.ifCond .ne 10, 3) := by decide +kernel
theorem dMod_count_26 : decode cMod_count 26 = .ok (.aload_n 0, 1) := by decide +kernel
theorem dMod_count_27 : decode cMod_count 27 = .ok (.getfield 59, 3) := by decide +kernel
theorem dMod_count_30 : decode cMod_count 30 = .ok (.goto 43, 3) := by decide +kernel
theorem dMod_count_33 : decode cMod_count 33 = .ok (.iload_n 1, 1) := by decide +kernel
theorem dMod_count_34 : decode cMod_count 34 = .ok (.iconst 1, 1) := by decide +kernel
theorem dMod_count_35 : decode cMod_count 35 = .ok (.if_icmp .ne 10, 3) := by decide +kernel
theorem dMod_count_38 : decode cMod_count 38 = .ok (.aload_n 0, 1) := by decide +kernel
theorem dMod_count_39 : decode cMod_count 39 = .ok (.getfield 76, 3) := by decide +kernel
theorem dMod_count_42 : decode cMod_count 42 = .ok (.goto 31, 3) := by decide +kernel
theorem dMod_count_45 : decode cMod_count 45 = .ok (.iload_n 1, 1) := by decide +kernel
theorem dMod_count_46 : decode cMod_count 46 = .ok (.iconst 2, 1) := by decide +kernel
theorem dMod_count_47 : decode cMod_count 47 = .ok (.if_icmp .ne 10, 3) := by decide +kernel
theorem dMod_count_50 : decode cMod_count 50 = .ok (.aload_n 0, 1) := by decide +kernel
theorem dMod_count_51 : decode cMod_count 51 = .ok (.getfield 66, 3) := by decide +kernel
theorem dMod_count_54 : decode cMod_count 54 = .ok (.goto 19, 3) := by decide +kernel
theorem dMod_count_57 : decode cMod_count 57 = .ok (.iload_n 1, 1) := by decide +kernel
theorem dMod_count_58 : decode cMod_count 58 = .ok (.iconst 3, 1) := by decide +kernel
theorem dMod_count_59 : decode cMod_count 59 = .ok (.if_icmp .ne 10, 3) := by decide +kernel
theorem dMod_count_62 : decode cMod_count 62 = .ok (.aload_n 0, 1) := by decide +kernel
theorem dMod_count_63 : decode cMod_count 63 = .ok (.getfield 69, 3) := by decide +kernel
theorem dMod_count_66 : decode cMod_count 66 = .ok (.goto 7, 3) := by decide +kernel
theorem dMod_count_69 : decode cMod_count 69 = .ok (.aload_n 0, 1) := by decide +kernel
theorem dMod_count_70 : decode cMod_count 70 = .ok (.getfield 87, 3) := by decide +kernel
theorem dMod_count_73 : decode cMod_count 73 = .ok (.ireturn, 1) := by decide +kernel
theorem dMod_count_74 : decode cMod_count 74 = .ok (.iload_n 1, 1) := by decide +kernel
theorem dMod_count_75 : decode cMod_count 75 = .ok (.iconst 5, 1) := by decide +kernel
theorem dMod_count_76 : decode cMod_count 76 = .ok (.if_icmp .eq 10, 3) := by decide +kernel
theorem dMod_count_79 : decode cMod_count 79 = .ok (.aload_n 0, 1) := by decide +kernel
theorem dMod_count_80 : decode cMod_count 80 = .ok (.getfield 72, 3) := by decide +kernel
theorem dMod_count_83 : decode cMod_count 83 = .ok (.ifCond .ne 16, 3) := by decide +kernel
theorem dMod_count_86 : decode cMod_count 86 = .ok (.aload_n 0, 1) := by decide +kernel
theorem dMod_count_87 : decode cMod_count 87 = .ok (.getfield 72, 3) := by decide +kernel
theorem dMod_count_90 : decode cMod_count 90 = .ok (.ifCond .eq 7, 3) := by decide +kernel
theorem dMod_count_93 : decode cMod_count 93 = .ok (.iconst 1, 1) := by decide +kernel
theorem dMod_count_94 : decode cMod_count 94 = .ok (.goto 4, 3) := by decide +kernel
theorem dMod_count_97 : decode cMod_count 97 = .ok (.iconst 0, 1) := by decide +kernel
theorem dMod_count_98 : decode cMod_count 98 = .ok (.ireturn, 1) := by decide +kernel
theorem dMod_count_99 : decode cMod_count 99 = .ok (.iconst 0, 1) := by decide +kernel
theorem dMod_count_100 : decode cMod_count 100 = .ok (.istore_n 2, 1) := by decide +kernel
theorem dMod_count_101 : decode cMod_count 101 = .ok (.iconst 0, 1) := by decide +kernel
theorem dMod_count_102 : decode cMod_count 102 = .ok (.istore_n 3, 1) := by decide +kernel
theorem dMod_count_103 : decode cMod_count 103 = .ok (.iconst 0, 1) := by decide +kernel
theorem dMod_count_104 : decode cMod_count 104 = .ok (.istore 4, 2) := by decide +kernel
theorem dMod_count_106 : decode cMod_count 106 = .ok (.iconst 0, 1) := by decide +kernel
theorem dMod_count_107 : decode cMod_count 107 = .ok (.istore 5, 2) := by decide +kernel
theorem dMod_count_109 : decode cMod_count 109 = .ok (.iconst 0, 1) := by decide +kernel
theorem dMod_count_110 : decode cMod_count 110 = .ok (.istore 6, 2) := by decide +kernel
theorem dMod_count_112 : decode cMod_count 112 = .ok (.iload 6, 2) := by decide +kernel
theorem dMod_count_114 : decode cMod_count 114 = .ok (.aload_n 0, 1) := by decide +kernel
theorem dMod_count_115 : decode cMod_count 115 = .ok (.invokevirtual 97, 3) := by decide +kernel
theorem dMod_count_118 : decode cMod_count 118 = .ok (.if_icmp .ge 115, 3) := by decide +kernel
theorem dMod_count_121 : decode cMod_count 121 = .ok (.aload_n 0, 1) := by decide +kernel
theorem dMod_count_122 : decode cMod_count 122 = .ok (.getfield 45, 3) := by decide +kernel
theorem dMod_count_125 : decode cMod_count 125 = .ok (.iload 6, 2) := by decide +kernel
theorem dMod_count_127 : decode cMod_count 127 = .ok (.iaload, 1) := by decide +kernel
theorem dMod_count_128 : decode cMod_count 128 = .ok (.ifCond .ge 6, 3) := by decide +kernel
theorem dMod_count_131 : decode cMod_count 131 = .ok (.goto 96, 3) := by decide +kernel
theorem dMod_count_134 : decode cMod_count 134 = .ok (.iinc 2 1, 3) := by decide +kernel
theorem dMod_count_137 : decode cMod_count 137 = .ok (.aload_n 0, 1) := by decide +kernel
theorem dMod_count_138 : decode cMod_count 138 = .ok (.getfield 45, 3) := by decide +kernel
theorem dMod_count_141 : decode cMod_count 141 = .ok (.iload 6, 2) := by decide +kernel
theorem dMod_count_143 : decode cMod_count 143 = .ok (.iaload, 1) := by decide +kernel
theorem dMod_count_144 : decode cMod_count 144 = .ok (.iload_n 3, 1) := by decide +kernel
theorem dMod_count_145 : decode cMod_count 145 = .ok (.if_icmp .le 13, 3) := by decide +kernel
theorem dMod_count_148 : decode cMod_count 148 = .ok (.aload_n 0, 1) := by decide +kernel
theorem dMod_count_149 : decode cMod_count 149 = .ok (.getfield 45, 3) := by decide +kernel
theorem dMod_count_152 : decode cMod_count 152 = .ok (.iload 6, 2) := by decide +kernel
theorem dMod_count_154 : decode cMod_count 154 = .ok (.iaload, 1) := by decide +kernel
theorem dMod_count_155 : decode cMod_count 155 = .ok (.goto 4, 3) := by decide +kernel
theorem dMod_count_158 : decode cMod_count 158 = .ok (.iload_n 3, 1) := by decide +kernel
theorem dMod_count_159 : decode cMod_count 159 = .ok (.istore_n 3, 1) := by decide +kernel
theorem dMod_count_160 : decode cMod_count 160 = .ok (.aload_n 0, 1) := by decide +kernel
theorem dMod_count_161 : decode cMod_count 161 = .ok (.iload 6, 2) := by decide +kernel
theorem dMod_count_163 : decode cMod_count 163 = .ok (.invokevirtual 132, 3) := by decide +kernel
theorem dMod_count_166 : decode cMod_count 166 = .ok (.iload 6, 2) := by decide +kernel
theorem dMod_count_168 : decode cMod_count 168 = .ok (.if_icmp .ne 10, 3) := by decide +kernel
theorem dMod_count_171 : decode cMod_count 171 = .ok (.iload 4, 2) := by decide +kernel
theorem dMod_count_173 : decode cMod_count 173 = .ok (.iconst 1, 1) := by decide +kernel
theorem dMod_count_174 : decode cMod_count 174 = .ok (.iadd, 1) := by decide +kernel
theorem dMod_count_175 : decode cMod_count 175 = .ok (.goto 5, 3) := by decide +kernel
theorem dMod_count_178 : decode cMod_count 178 = .ok (.iload 4, 2) := by decide +kernel
theorem dMod_count_180 : decode cMod_count 180 = .ok (.istore 4, 2) := by decide +kernel
theorem dMod_count_182 : decode cMod_count 182 = .ok (.iconst 0, 1) := by decide +kernel
theorem dMod_count_183 : decode cMod_count 183 = .ok (.istore 7, 2) := by decide +kernel
theorem dMod_count_185 : decode cMod_count 185 = .ok (.iload 7, 2) := by decide +kernel
theorem dMod_count_187 : decode cMod_count 187 = .ok (.aload_n 0, 1) := by decide +kernel
theorem dMod_count_188 : decode cMod_count 188 = .ok (.invokevirtual 101, 3) := by decide +kernel
theorem dMod_count_191 : decode cMod_count 191 = .ok (.if_icmp .ge 36, 3) := by decide +kernel
theorem dMod_count_194 : decode cMod_count 194 = .ok (.aload_n 0, 1) := by decide +kernel
theorem dMod_count_195 : decode cMod_count 195 = .ok (.getfield 35, 3) := by decide +kernel
theorem dMod_count_198 : decode cMod_count 198 = .ok (.bipush 16, 2) := by decide +kernel
theorem dMod_count_200 : decode cMod_count 200 = .ok (.iload 6, 2) := by decide +kernel
theorem dMod_count_202 : decode cMod_count 202 = .ok (.imul, 1) := by decide +kernel
theorem dMod_count_203 : decode cMod_count 203 = .ok (.iload 7, 2) := by decide +kernel
theorem dMod_count_205 : decode cMod_count 205 = .ok (.iadd, 1) := by decide +kernel
theorem dMod_count_206 : decode cMod_count 206 = .ok (.baload, 1) := by decide +kernel
theorem dMod_count_207 : decode cMod_count 207 = .ok (.ifCond .eq 8, 3) := by decide +kernel
theorem dMod_count_210 : decode cMod_count 210 = .ok (.iload 5, 2) := by decide +kernel
theorem dMod_count_212 : decode cMod_count 212 = .ok (.goto 7, 3) := by decide +kernel
theorem dMod_count_215 : decode cMod_count 215 = .ok (.iload 5, 2) := by decide +kernel
theorem dMod_count_217 : decode cMod_count 217 = .ok (.iconst 1, 1) := by decide +kernel
theorem dMod_count_218 : decode cMod_count 218 = .ok (.iadd, 1) := by decide +kernel
theorem dMod_count_219 : decode cMod_count 219 = .ok (.istore 5, 2) := by decide +kernel
theorem dMod_count_221 : decode cMod_count 221 = .ok (.iinc 7 1, 3) := by decide +kernel
theorem dMod_count_224 : decode cMod_count 224 = .ok (.goto (-39), 3) := by decide +kernel
theorem dMod_count_227 : decode cMod_count 227 = .ok (.iinc 6 1, 3) := by decide +kernel
theorem dMod_count_230 : decode cMod_count 230 = .ok (.goto (-118), 3) := by decide +kernel
theorem dMod_count_233 : decode cMod_count 233 = .ok (.iload_n 1, 1) := by decide +kernel
theorem dMod_count_234 : decode cMod_count 234 = .ok (.bipush 6, 2) := by decide +kernel
theorem dMod_count_236 : decode cMod_count 236 = .ok (.if_icmp .ne 7, 3) := by decide +kernel
theorem dMod_count_239 : decode cMod_count 239 = .ok (.iload_n 2, 1) := by decide +kernel
theorem dMod_count_240 : decode cMod_count 240 = .ok (.goto 26, 3) := by decide +kernel
theorem dMod_count_243 : decode cMod_count 243 = .ok (.iload_n 1, 1) := by decide +kernel
theorem dMod_count_244 : decode cMod_count 244 = .ok (.bipush 7, 2) := by decide +kernel
theorem dMod_count_246 : decode cMod_count 246 = .ok (.if_icmp .ne 7, 3) := by decide +kernel
theorem dMod_count_249 : decode cMod_count 249 = .ok (.iload_n 3, 1) := by decide +kernel
theorem dMod_count_250 : decode cMod_count 250 = .ok (.goto 16, 3) := by decide +kernel
theorem dMod_count_253 : decode cMod_count 253 = .ok (.iload_n 1, 1) := by decide +kernel
theorem dMod_count_254 : decode cMod_count 254 = .ok (.bipush 8, 2) := by decide +kernel
theorem dMod_count_256 : decode cMod_count 256 = .ok (.if_icmp .ne 8, 3) := by decide +kernel
theorem dMod_count_259 : decode cMod_count 259 = .ok (.iload 4, 2) := by decide +kernel
theorem dMod_count_261 : decode cMod_count 261 = .ok (.goto 5, 3) := by decide +kernel
theorem dMod_count_264 : decode cMod_count 264 = .ok (.iload 5, 2) := by decide +kernel
theorem dMod_count_266 : decode cMod_count 266 = .ok (.ireturn, 1) := by decide +kernel
abbrev cLaw_gate : ByteArray := method_3_code
def yLaw_gate : MethodName := ⟨"StateExplorerLaw", "gate", "(LStateExplorer;I[J)I"⟩
def wsLaw_gate : List Cond := Cond.codeWith yLaw_gate cLaw_gate 4 (some .int) [(0, 9, 12, 13)] :: tb
theorem tcLaw_gate : Cond.codeWith yLaw_gate cLaw_gate 4 (some .int) [(0, 9, 12, 13)] ∈ tb := tw_363
abbrev cLaw_feed : ByteArray := method_4_code
def yLaw_feed : MethodName := ⟨"StateExplorerLaw", "feed", "(LStateExplorer;IIZ[J)I"⟩
def wsLaw_feed : List Cond := Cond.codeWith yLaw_feed cLaw_feed 6 (some .int) [(0, 12, 15, 19), (0, 12, 19, 21)] :: tb
theorem tcLaw_feed : Cond.codeWith yLaw_feed cLaw_feed 6 (some .int) [(0, 12, 15, 19), (0, 12, 19, 21)] ∈ tb := tw_447
abbrev cLaw_output : ByteArray := method_5_code
def yLaw_output : MethodName := ⟨"StateExplorerLaw", "output", "(LStateExplorer;I[J)I"⟩
def wsLaw_output : List Cond := Cond.codeWith yLaw_output cLaw_output 4 (some .int) [(0, 9, 12, 19)] :: tb
theorem tcLaw_output : Cond.codeWith yLaw_output cLaw_output 4 (some .int) [(0, 9, 12, 19)] ∈ tb := tw_506
abbrev cLaw_distance : ByteArray := method_6_code
def yLaw_distance : MethodName := ⟨"StateExplorerLaw", "distance", "(LStateExplorer;I[J)I"⟩
def wsLaw_distance : List Cond := Cond.codeWith yLaw_distance cLaw_distance 4 (some .int) [(0, 9, 12, 21), (0, 9, 15, 19)] :: tb
theorem tcLaw_distance : Cond.codeWith yLaw_distance cLaw_distance 4 (some .int) [(0, 9, 12, 21), (0, 9, 15, 19)] ∈ tb := tw_517
abbrev cLaw_way : ByteArray := method_7_code
def yLaw_way : MethodName := ⟨"StateExplorerLaw", "way", "(LStateExplorer;II[J)I"⟩
def wsLaw_way : List Cond := Cond.codeWith yLaw_way cLaw_way 5 (some .int) [(0, 10, 13, 21), (0, 10, 17, 19)] :: tb
theorem tcLaw_way : Cond.codeWith yLaw_way cLaw_way 5 (some .int) [(0, 10, 13, 21), (0, 10, 17, 19)] ∈ tb := tw_535
abbrev cLaw_many : ByteArray := method_8_code
def yLaw_many : MethodName := ⟨"StateExplorerLaw", "many", "(LStateExplorer;I[J)I"⟩
def wsLaw_many : List Cond := Cond.codeWith yLaw_many cLaw_many 4 (some .int) [(0, 9, 12, 21)] :: tb
theorem tcLaw_many : Cond.codeWith yLaw_many cLaw_many 4 (some .int) [(0, 9, 12, 21)] ∈ tb := tw_547
abbrev cLaw_next : ByteArray := method_9_code
def yLaw_next : MethodName := ⟨"StateExplorerLaw", "next", "(LStateExplorer;II[J)I"⟩
def wsLaw_next : List Cond := Cond.codeWith yLaw_next cLaw_next 5 (some .int) [(0, 10, 13, 21), (0, 10, 17, 19)] :: tb
theorem tcLaw_next : Cond.codeWith yLaw_next cLaw_next 5 (some .int) [(0, 10, 13, 21), (0, 10, 17, 19)] ∈ tb := tw_558
abbrev cLaw_doubt : ByteArray := method_10_code
def yLaw_doubt : MethodName := ⟨"StateExplorerLaw", "doubt", "(LStateExplorer;I[J)I"⟩
def wsLaw_doubt : List Cond := Cond.codeWith yLaw_doubt cLaw_doubt 4 (some .int) [(0, 9, 12, 21), (0, 9, 15, 19)] :: tb
theorem tcLaw_doubt : Cond.codeWith yLaw_doubt cLaw_doubt 4 (some .int) [(0, 9, 12, 21), (0, 9, 15, 19)] ∈ tb := tw_568
abbrev cLaw_always : ByteArray := method_11_code
def yLaw_always : MethodName := ⟨"StateExplorerLaw", "always", "(LStateExplorer;I[J)I"⟩
def wsLaw_always : List Cond := Cond.codeWith yLaw_always cLaw_always 4 (some .int) [(0, 9, 12, 21), (0, 9, 15, 19)] :: tb
theorem tcLaw_always : Cond.codeWith yLaw_always cLaw_always 4 (some .int) [(0, 9, 12, 21), (0, 9, 15, 19)] ∈ tb := tw_576
abbrev cLaw_isSame : ByteArray := method_12_code
def yLaw_isSame : MethodName := ⟨"StateExplorerLaw", "isSame", "(LStateExplorer;II[J)I"⟩
def wsLaw_isSame : List Cond := Cond.codeWith yLaw_isSame cLaw_isSame 5 (some .int) [(0, 17, 20, 21), (0, 17, 24, 19)] :: tb
theorem tcLaw_isSame : Cond.codeWith yLaw_isSame cLaw_isSame 5 (some .int) [(0, 17, 20, 21), (0, 17, 24, 19)] ∈ tb := tw_588
abbrev cLaw_group : ByteArray := method_13_code
def yLaw_group : MethodName := ⟨"StateExplorerLaw", "group", "(LStateExplorer;I[J)I"⟩
def wsLaw_group : List Cond := Cond.codeWith yLaw_group cLaw_group 4 (some .int) [(0, 9, 12, 21), (0, 9, 15, 19)] :: tb
theorem tcLaw_group : Cond.codeWith yLaw_group cLaw_group 4 (some .int) [(0, 9, 12, 21), (0, 9, 15, 19)] ∈ tb := tw_599
abbrev cLaw_law : ByteArray := code
theorem dLaw_gate_0 : decode cLaw_gate 0 = .ok (.aload_n 2, 1) := by decide +kernel
theorem dLaw_gate_1 : decode cLaw_gate 1 = .ok (.iconst 0, 1) := by decide +kernel
theorem dLaw_gate_2 : decode cLaw_gate 2 = .ok (.aload_n 0, 1) := by decide +kernel
theorem dLaw_gate_3 : decode cLaw_gate 3 = .ok (.iload_n 1, 1) := by decide +kernel
theorem dLaw_gate_4 : decode cLaw_gate 4 = .ok (.invokevirtual 7, 3) := by decide +kernel
theorem dLaw_gate_7 : decode cLaw_gate 7 = .ok (.i2l, 1) := by decide +kernel
theorem dLaw_gate_8 : decode cLaw_gate 8 = .ok (.lastore, 1) := by decide +kernel
theorem dLaw_gate_9 : decode cLaw_gate 9 = .ok (.goto 6, 3) := by decide +kernel
theorem dLaw_gate_12 : decode cLaw_gate 12 = .ok (.astore_n 3, 1) := by decide +kernel
theorem dLaw_gate_13 : decode cLaw_gate 13 = .ok (.iconst 1, 1) := by decide +kernel
theorem dLaw_gate_14 : decode cLaw_gate 14 = .ok (.ireturn, 1) := by decide +kernel
theorem dLaw_gate_15 : decode cLaw_gate 15 = .ok (.iconst 0, 1) := by decide +kernel
theorem dLaw_gate_16 : decode cLaw_gate 16 = .ok (.ireturn, 1) := by decide +kernel
theorem dLaw_feed_0 : decode cLaw_feed 0 = .ok (.aload 4, 2) := by decide +kernel
theorem dLaw_feed_2 : decode cLaw_feed 2 = .ok (.iconst 0, 1) := by decide +kernel
theorem dLaw_feed_3 : decode cLaw_feed 3 = .ok (.aload_n 0, 1) := by decide +kernel
theorem dLaw_feed_4 : decode cLaw_feed 4 = .ok (.iload_n 1, 1) := by decide +kernel
theorem dLaw_feed_5 : decode cLaw_feed 5 = .ok (.iload_n 2, 1) := by decide +kernel
theorem dLaw_feed_6 : decode cLaw_feed 6 = .ok (.iload_n 3, 1) := by decide +kernel
theorem dLaw_feed_7 : decode cLaw_feed 7 = .ok (.invokevirtual 15, 3) := by decide +kernel
theorem dLaw_feed_10 : decode cLaw_feed 10 = .ok (.i2l, 1) := by decide +kernel
theorem dLaw_feed_11 : decode cLaw_feed 11 = .ok (.lastore, 1) := by decide +kernel
theorem dLaw_feed_12 : decode cLaw_feed 12 = .ok (.goto 11, 3) := by decide +kernel
theorem dLaw_feed_15 : decode cLaw_feed 15 = .ok (.astore 5, 2) := by decide +kernel
theorem dLaw_feed_17 : decode cLaw_feed 17 = .ok (.iconst 1, 1) := by decide +kernel
theorem dLaw_feed_18 : decode cLaw_feed 18 = .ok (.ireturn, 1) := by decide +kernel
theorem dLaw_feed_19 : decode cLaw_feed 19 = .ok (.astore 5, 2) := by decide +kernel
theorem dLaw_feed_21 : decode cLaw_feed 21 = .ok (.iconst 2, 1) := by decide +kernel
theorem dLaw_feed_22 : decode cLaw_feed 22 = .ok (.ireturn, 1) := by decide +kernel
theorem dLaw_feed_23 : decode cLaw_feed 23 = .ok (.iconst 0, 1) := by decide +kernel
theorem dLaw_feed_24 : decode cLaw_feed 24 = .ok (.ireturn, 1) := by decide +kernel
theorem dLaw_output_0 : decode cLaw_output 0 = .ok (.aload_n 2, 1) := by decide +kernel
theorem dLaw_output_1 : decode cLaw_output 1 = .ok (.iconst 0, 1) := by decide +kernel
theorem dLaw_output_2 : decode cLaw_output 2 = .ok (.aload_n 0, 1) := by decide +kernel
theorem dLaw_output_3 : decode cLaw_output 3 = .ok (.iload_n 1, 1) := by decide +kernel
theorem dLaw_output_4 : decode cLaw_output 4 = .ok (.invokevirtual 23, 3) := by decide +kernel
theorem dLaw_output_7 : decode cLaw_output 7 = .ok (.i2l, 1) := by decide +kernel
theorem dLaw_output_8 : decode cLaw_output 8 = .ok (.lastore, 1) := by decide +kernel
theorem dLaw_output_9 : decode cLaw_output 9 = .ok (.goto 6, 3) := by decide +kernel
theorem dLaw_output_12 : decode cLaw_output 12 = .ok (.astore_n 3, 1) := by decide +kernel
theorem dLaw_output_13 : decode cLaw_output 13 = .ok (.iconst 1, 1) := by decide +kernel
theorem dLaw_output_14 : decode cLaw_output 14 = .ok (.ireturn, 1) := by decide +kernel
theorem dLaw_output_15 : decode cLaw_output 15 = .ok (.iconst 0, 1) := by decide +kernel
theorem dLaw_output_16 : decode cLaw_output 16 = .ok (.ireturn, 1) := by decide +kernel
theorem dLaw_distance_0 : decode cLaw_distance 0 = .ok (.aload_n 2, 1) := by decide +kernel
theorem dLaw_distance_1 : decode cLaw_distance 1 = .ok (.iconst 0, 1) := by decide +kernel
theorem dLaw_distance_2 : decode cLaw_distance 2 = .ok (.aload_n 0, 1) := by decide +kernel
theorem dLaw_distance_3 : decode cLaw_distance 3 = .ok (.iload_n 1, 1) := by decide +kernel
theorem dLaw_distance_4 : decode cLaw_distance 4 = .ok (.invokevirtual 26, 3) := by decide +kernel
theorem dLaw_distance_7 : decode cLaw_distance 7 = .ok (.i2l, 1) := by decide +kernel
theorem dLaw_distance_8 : decode cLaw_distance 8 = .ok (.lastore, 1) := by decide +kernel
theorem dLaw_distance_9 : decode cLaw_distance 9 = .ok (.goto 9, 3) := by decide +kernel
theorem dLaw_distance_12 : decode cLaw_distance 12 = .ok (.astore_n 3, 1) := by decide +kernel
theorem dLaw_distance_13 : decode cLaw_distance 13 = .ok (.iconst 1, 1) := by decide +kernel
theorem dLaw_distance_14 : decode cLaw_distance 14 = .ok (.ireturn, 1) := by decide +kernel
theorem dLaw_distance_15 : decode cLaw_distance 15 = .ok (.astore_n 3, 1) := by decide +kernel
theorem dLaw_distance_16 : decode cLaw_distance 16 = .ok (.iconst 2, 1) := by decide +kernel
theorem dLaw_distance_17 : decode cLaw_distance 17 = .ok (.ireturn, 1) := by decide +kernel
theorem dLaw_distance_18 : decode cLaw_distance 18 = .ok (.iconst 0, 1) := by decide +kernel
theorem dLaw_distance_19 : decode cLaw_distance 19 = .ok (.ireturn, 1) := by decide +kernel
theorem dLaw_way_0 : decode cLaw_way 0 = .ok (.aload_n 3, 1) := by decide +kernel
theorem dLaw_way_1 : decode cLaw_way 1 = .ok (.iconst 0, 1) := by decide +kernel
theorem dLaw_way_2 : decode cLaw_way 2 = .ok (.aload_n 0, 1) := by decide +kernel
theorem dLaw_way_3 : decode cLaw_way 3 = .ok (.iload_n 1, 1) := by decide +kernel
theorem dLaw_way_4 : decode cLaw_way 4 = .ok (.iload_n 2, 1) := by decide +kernel
theorem dLaw_way_5 : decode cLaw_way 5 = .ok (.invokevirtual 29, 3) := by decide +kernel
theorem dLaw_way_8 : decode cLaw_way 8 = .ok (.i2l, 1) := by decide +kernel
theorem dLaw_way_9 : decode cLaw_way 9 = .ok (.lastore, 1) := by decide +kernel
theorem dLaw_way_10 : decode cLaw_way 10 = .ok (.goto 11, 3) := by decide +kernel
theorem dLaw_way_13 : decode cLaw_way 13 = .ok (.astore 4, 2) := by decide +kernel
theorem dLaw_way_15 : decode cLaw_way 15 = .ok (.iconst 1, 1) := by decide +kernel
theorem dLaw_way_16 : decode cLaw_way 16 = .ok (.ireturn, 1) := by decide +kernel
theorem dLaw_way_17 : decode cLaw_way 17 = .ok (.astore 4, 2) := by decide +kernel
theorem dLaw_way_19 : decode cLaw_way 19 = .ok (.iconst 2, 1) := by decide +kernel
theorem dLaw_way_20 : decode cLaw_way 20 = .ok (.ireturn, 1) := by decide +kernel
theorem dLaw_way_21 : decode cLaw_way 21 = .ok (.iconst 0, 1) := by decide +kernel
theorem dLaw_way_22 : decode cLaw_way 22 = .ok (.ireturn, 1) := by decide +kernel
theorem dLaw_many_0 : decode cLaw_many 0 = .ok (.aload_n 2, 1) := by decide +kernel
theorem dLaw_many_1 : decode cLaw_many 1 = .ok (.iconst 0, 1) := by decide +kernel
theorem dLaw_many_2 : decode cLaw_many 2 = .ok (.aload_n 0, 1) := by decide +kernel
theorem dLaw_many_3 : decode cLaw_many 3 = .ok (.iload_n 1, 1) := by decide +kernel
theorem dLaw_many_4 : decode cLaw_many 4 = .ok (.invokevirtual 33, 3) := by decide +kernel
theorem dLaw_many_7 : decode cLaw_many 7 = .ok (.i2l, 1) := by decide +kernel
theorem dLaw_many_8 : decode cLaw_many 8 = .ok (.lastore, 1) := by decide +kernel
theorem dLaw_many_9 : decode cLaw_many 9 = .ok (.goto 6, 3) := by decide +kernel
theorem dLaw_many_12 : decode cLaw_many 12 = .ok (.astore_n 3, 1) := by decide +kernel
theorem dLaw_many_13 : decode cLaw_many 13 = .ok (.iconst 1, 1) := by decide +kernel
theorem dLaw_many_14 : decode cLaw_many 14 = .ok (.ireturn, 1) := by decide +kernel
theorem dLaw_many_15 : decode cLaw_many 15 = .ok (.iconst 0, 1) := by decide +kernel
theorem dLaw_many_16 : decode cLaw_many 16 = .ok (.ireturn, 1) := by decide +kernel
theorem dLaw_next_0 : decode cLaw_next 0 = .ok (.aload_n 3, 1) := by decide +kernel
theorem dLaw_next_1 : decode cLaw_next 1 = .ok (.iconst 0, 1) := by decide +kernel
theorem dLaw_next_2 : decode cLaw_next 2 = .ok (.aload_n 0, 1) := by decide +kernel
theorem dLaw_next_3 : decode cLaw_next 3 = .ok (.iload_n 1, 1) := by decide +kernel
theorem dLaw_next_4 : decode cLaw_next 4 = .ok (.iload_n 2, 1) := by decide +kernel
theorem dLaw_next_5 : decode cLaw_next 5 = .ok (.invokevirtual 36, 3) := by decide +kernel
theorem dLaw_next_8 : decode cLaw_next 8 = .ok (.i2l, 1) := by decide +kernel
theorem dLaw_next_9 : decode cLaw_next 9 = .ok (.lastore, 1) := by decide +kernel
theorem dLaw_next_10 : decode cLaw_next 10 = .ok (.goto 11, 3) := by decide +kernel
theorem dLaw_next_13 : decode cLaw_next 13 = .ok (.astore 4, 2) := by decide +kernel
theorem dLaw_next_15 : decode cLaw_next 15 = .ok (.iconst 1, 1) := by decide +kernel
theorem dLaw_next_16 : decode cLaw_next 16 = .ok (.ireturn, 1) := by decide +kernel
theorem dLaw_next_17 : decode cLaw_next 17 = .ok (.astore 4, 2) := by decide +kernel
theorem dLaw_next_19 : decode cLaw_next 19 = .ok (.iconst 2, 1) := by decide +kernel
theorem dLaw_next_20 : decode cLaw_next 20 = .ok (.ireturn, 1) := by decide +kernel
theorem dLaw_next_21 : decode cLaw_next 21 = .ok (.iconst 0, 1) := by decide +kernel
theorem dLaw_next_22 : decode cLaw_next 22 = .ok (.ireturn, 1) := by decide +kernel
theorem dLaw_doubt_0 : decode cLaw_doubt 0 = .ok (.aload_n 2, 1) := by decide +kernel
theorem dLaw_doubt_1 : decode cLaw_doubt 1 = .ok (.iconst 0, 1) := by decide +kernel
theorem dLaw_doubt_2 : decode cLaw_doubt 2 = .ok (.aload_n 0, 1) := by decide +kernel
theorem dLaw_doubt_3 : decode cLaw_doubt 3 = .ok (.iload_n 1, 1) := by decide +kernel
theorem dLaw_doubt_4 : decode cLaw_doubt 4 = .ok (.invokevirtual 39, 3) := by decide +kernel
theorem dLaw_doubt_7 : decode cLaw_doubt 7 = .ok (.i2l, 1) := by decide +kernel
theorem dLaw_doubt_8 : decode cLaw_doubt 8 = .ok (.lastore, 1) := by decide +kernel
theorem dLaw_doubt_9 : decode cLaw_doubt 9 = .ok (.goto 9, 3) := by decide +kernel
theorem dLaw_doubt_12 : decode cLaw_doubt 12 = .ok (.astore_n 3, 1) := by decide +kernel
theorem dLaw_doubt_13 : decode cLaw_doubt 13 = .ok (.iconst 1, 1) := by decide +kernel
theorem dLaw_doubt_14 : decode cLaw_doubt 14 = .ok (.ireturn, 1) := by decide +kernel
theorem dLaw_doubt_15 : decode cLaw_doubt 15 = .ok (.astore_n 3, 1) := by decide +kernel
theorem dLaw_doubt_16 : decode cLaw_doubt 16 = .ok (.iconst 2, 1) := by decide +kernel
theorem dLaw_doubt_17 : decode cLaw_doubt 17 = .ok (.ireturn, 1) := by decide +kernel
theorem dLaw_doubt_18 : decode cLaw_doubt 18 = .ok (.iconst 0, 1) := by decide +kernel
theorem dLaw_doubt_19 : decode cLaw_doubt 19 = .ok (.ireturn, 1) := by decide +kernel
theorem dLaw_always_0 : decode cLaw_always 0 = .ok (.aload_n 2, 1) := by decide +kernel
theorem dLaw_always_1 : decode cLaw_always 1 = .ok (.iconst 0, 1) := by decide +kernel
theorem dLaw_always_2 : decode cLaw_always 2 = .ok (.aload_n 0, 1) := by decide +kernel
theorem dLaw_always_3 : decode cLaw_always 3 = .ok (.iload_n 1, 1) := by decide +kernel
theorem dLaw_always_4 : decode cLaw_always 4 = .ok (.invokevirtual 42, 3) := by decide +kernel
theorem dLaw_always_7 : decode cLaw_always 7 = .ok (.i2l, 1) := by decide +kernel
theorem dLaw_always_8 : decode cLaw_always 8 = .ok (.lastore, 1) := by decide +kernel
theorem dLaw_always_9 : decode cLaw_always 9 = .ok (.goto 9, 3) := by decide +kernel
theorem dLaw_always_12 : decode cLaw_always 12 = .ok (.astore_n 3, 1) := by decide +kernel
theorem dLaw_always_13 : decode cLaw_always 13 = .ok (.iconst 1, 1) := by decide +kernel
theorem dLaw_always_14 : decode cLaw_always 14 = .ok (.ireturn, 1) := by decide +kernel
theorem dLaw_always_15 : decode cLaw_always 15 = .ok (.astore_n 3, 1) := by decide +kernel
theorem dLaw_always_16 : decode cLaw_always 16 = .ok (.iconst 2, 1) := by decide +kernel
theorem dLaw_always_17 : decode cLaw_always 17 = .ok (.ireturn, 1) := by decide +kernel
theorem dLaw_always_18 : decode cLaw_always 18 = .ok (.iconst 0, 1) := by decide +kernel
theorem dLaw_always_19 : decode cLaw_always 19 = .ok (.ireturn, 1) := by decide +kernel
theorem dLaw_isSame_0 : decode cLaw_isSame 0 = .ok (.aload_n 3, 1) := by decide +kernel
theorem dLaw_isSame_1 : decode cLaw_isSame 1 = .ok (.iconst 0, 1) := by decide +kernel
theorem dLaw_isSame_2 : decode cLaw_isSame 2 = .ok (.aload_n 0, 1) := by decide +kernel
theorem dLaw_isSame_3 : decode cLaw_isSame 3 = .ok (.iload_n 1, 1) := by decide +kernel
theorem dLaw_isSame_4 : decode cLaw_isSame 4 = .ok (.iload_n 2, 1) := by decide +kernel
theorem dLaw_isSame_5 : decode cLaw_isSame 5 = .ok (.invokevirtual 45, 3) := by decide +kernel
theorem dLaw_isSame_8 : decode cLaw_isSame 8 = .ok (.ifCond .eq 7, 3) := by decide +kernel
theorem dLaw_isSame_11 : decode cLaw_isSame 11 = .ok (.lconst 1, 1) := by decide +kernel
theorem dLaw_isSame_12 : decode cLaw_isSame 12 = .ok (.goto 4, 3) := by decide +kernel
theorem dLaw_isSame_15 : decode cLaw_isSame 15 = .ok (.lconst 0, 1) := by decide +kernel
theorem dLaw_isSame_16 : decode cLaw_isSame 16 = .ok (.lastore, 1) := by decide +kernel
theorem dLaw_isSame_17 : decode cLaw_isSame 17 = .ok (.goto 11, 3) := by decide +kernel
theorem dLaw_isSame_20 : decode cLaw_isSame 20 = .ok (.astore 4, 2) := by decide +kernel
theorem dLaw_isSame_22 : decode cLaw_isSame 22 = .ok (.iconst 1, 1) := by decide +kernel
theorem dLaw_isSame_23 : decode cLaw_isSame 23 = .ok (.ireturn, 1) := by decide +kernel
theorem dLaw_isSame_24 : decode cLaw_isSame 24 = .ok (.astore 4, 2) := by decide +kernel
theorem dLaw_isSame_26 : decode cLaw_isSame 26 = .ok (.iconst 2, 1) := by decide +kernel
theorem dLaw_isSame_27 : decode cLaw_isSame 27 = .ok (.ireturn, 1) := by decide +kernel
theorem dLaw_isSame_28 : decode cLaw_isSame 28 = .ok (.iconst 0, 1) := by decide +kernel
theorem dLaw_isSame_29 : decode cLaw_isSame 29 = .ok (.ireturn, 1) := by decide +kernel
theorem dLaw_group_0 : decode cLaw_group 0 = .ok (.aload_n 2, 1) := by decide +kernel
theorem dLaw_group_1 : decode cLaw_group 1 = .ok (.iconst 0, 1) := by decide +kernel
theorem dLaw_group_2 : decode cLaw_group 2 = .ok (.aload_n 0, 1) := by decide +kernel
theorem dLaw_group_3 : decode cLaw_group 3 = .ok (.iload_n 1, 1) := by decide +kernel
theorem dLaw_group_4 : decode cLaw_group 4 = .ok (.invokevirtual 49, 3) := by decide +kernel
theorem dLaw_group_7 : decode cLaw_group 7 = .ok (.i2l, 1) := by decide +kernel
theorem dLaw_group_8 : decode cLaw_group 8 = .ok (.lastore, 1) := by decide +kernel
theorem dLaw_group_9 : decode cLaw_group 9 = .ok (.goto 9, 3) := by decide +kernel
theorem dLaw_group_12 : decode cLaw_group 12 = .ok (.astore_n 3, 1) := by decide +kernel
theorem dLaw_group_13 : decode cLaw_group 13 = .ok (.iconst 1, 1) := by decide +kernel
theorem dLaw_group_14 : decode cLaw_group 14 = .ok (.ireturn, 1) := by decide +kernel
theorem dLaw_group_15 : decode cLaw_group 15 = .ok (.astore_n 3, 1) := by decide +kernel
theorem dLaw_group_16 : decode cLaw_group 16 = .ok (.iconst 2, 1) := by decide +kernel
theorem dLaw_group_17 : decode cLaw_group 17 = .ok (.ireturn, 1) := by decide +kernel
theorem dLaw_group_18 : decode cLaw_group 18 = .ok (.iconst 0, 1) := by decide +kernel
theorem dLaw_group_19 : decode cLaw_group 19 = .ok (.ireturn, 1) := by decide +kernel
theorem dLaw_law_0 : decode cLaw_law 0 = .ok (.new 8, 3) := by decide +kernel
theorem dLaw_law_3 : decode cLaw_law 3 = .ok (.dup, 1) := by decide +kernel
theorem dLaw_law_4 : decode cLaw_law 4 = .ok (.invokespecial 52, 3) := by decide +kernel
theorem dLaw_law_7 : decode cLaw_law 7 = .ok (.astore_n 1, 1) := by decide +kernel
theorem dLaw_law_8 : decode cLaw_law 8 = .ok (.new 53, 3) := by decide +kernel
theorem dLaw_law_11 : decode cLaw_law 11 = .ok (.dup, 1) := by decide +kernel
theorem dLaw_law_12 : decode cLaw_law 12 = .ok (.invokespecial 55, 3) := by decide +kernel
theorem dLaw_law_15 : decode cLaw_law 15 = .ok (.astore_n 2, 1) := by decide +kernel
theorem dLaw_law_16 : decode cLaw_law 16 = .ok (.iconst 1, 1) := by decide +kernel
theorem dLaw_law_17 : decode cLaw_law 17 = .ok (.newarray .long, 2) := by decide +kernel
theorem dLaw_law_19 : decode cLaw_law 19 = .ok (.astore_n 3, 1) := by decide +kernel
theorem dLaw_law_20 : decode cLaw_law 20 = .ok (.iconst 0, 1) := by decide +kernel
theorem dLaw_law_21 : decode cLaw_law 21 = .ok (.istore 4, 2) := by decide +kernel
theorem dLaw_law_23 : decode cLaw_law 23 = .ok (.iload 4, 2) := by decide +kernel
theorem dLaw_law_25 : decode cLaw_law 25 = .ok (.aload_n 0, 1) := by decide +kernel
theorem dLaw_law_26 : decode cLaw_law 26 = .ok (.arraylength, 1) := by decide +kernel
theorem dLaw_law_27 : decode cLaw_law 27 = .ok (.iconst 4, 1) := by decide +kernel
theorem dLaw_law_28 : decode cLaw_law 28 = .ok (.isub, 1) := by decide +kernel
theorem dLaw_law_29 : decode cLaw_law 29 = .ok (.if_icmp .gt 520, 3) := by decide +kernel
theorem dLaw_law_32 : decode cLaw_law 32 = .ok (.aload_n 0, 1) := by decide +kernel
theorem dLaw_law_33 : decode cLaw_law 33 = .ok (.iload 4, 2) := by decide +kernel
theorem dLaw_law_35 : decode cLaw_law 35 = .ok (.iaload, 1) := by decide +kernel
theorem dLaw_law_36 : decode cLaw_law 36 = .ok (.bipush 15, 2) := by decide +kernel
theorem dLaw_law_38 : decode cLaw_law 38 = .ok (.iand, 1) := by decide +kernel
theorem dLaw_law_39 : decode cLaw_law 39 = .ok (.tableswitch 504 0 13 #[69, 97, 165, 193, 206, 219, 247, 287, 315, 355, 383, 411, 451, 479], 69) := by decide +kernel
theorem dLaw_law_108 : decode cLaw_law 108 = .ok (.aload_n 1, 1) := by decide +kernel
theorem dLaw_law_109 : decode cLaw_law 109 = .ok (.aload_n 0, 1) := by decide +kernel
theorem dLaw_law_110 : decode cLaw_law 110 = .ok (.iload 4, 2) := by decide +kernel
theorem dLaw_law_112 : decode cLaw_law 112 = .ok (.iconst 1, 1) := by decide +kernel
theorem dLaw_law_113 : decode cLaw_law 113 = .ok (.iadd, 1) := by decide +kernel
theorem dLaw_law_114 : decode cLaw_law 114 = .ok (.iaload, 1) := by decide +kernel
theorem dLaw_law_115 : decode cLaw_law 115 = .ok (.aload_n 3, 1) := by decide +kernel
theorem dLaw_law_116 : decode cLaw_law 116 = .ok (.invokestatic 56, 3) := by decide +kernel
theorem dLaw_law_119 : decode cLaw_law 119 = .ok (.istore 5, 2) := by decide +kernel
theorem dLaw_law_121 : decode cLaw_law 121 = .ok (.aload_n 2, 1) := by decide +kernel
theorem dLaw_law_122 : decode cLaw_law 122 = .ok (.aload_n 0, 1) := by decide +kernel
theorem dLaw_law_123 : decode cLaw_law 123 = .ok (.iload 4, 2) := by decide +kernel
theorem dLaw_law_125 : decode cLaw_law 125 = .ok (.iconst 1, 1) := by decide +kernel
theorem dLaw_law_126 : decode cLaw_law 126 = .ok (.iadd, 1) := by decide +kernel
theorem dLaw_law_127 : decode cLaw_law 127 = .ok (.iaload, 1) := by decide +kernel
theorem dLaw_law_128 : decode cLaw_law 128 = .ok (.invokevirtual 61, 3) := by decide +kernel
theorem dLaw_law_131 : decode cLaw_law 131 = .ok (.istore 6, 2) := by decide +kernel
theorem dLaw_law_133 : decode cLaw_law 133 = .ok (.goto 410, 3) := by decide +kernel
theorem dLaw_law_136 : decode cLaw_law 136 = .ok (.aload_n 1, 1) := by decide +kernel
theorem dLaw_law_137 : decode cLaw_law 137 = .ok (.aload_n 0, 1) := by decide +kernel
theorem dLaw_law_138 : decode cLaw_law 138 = .ok (.iload 4, 2) := by decide +kernel
theorem dLaw_law_140 : decode cLaw_law 140 = .ok (.iconst 1, 1) := by decide +kernel
theorem dLaw_law_141 : decode cLaw_law 141 = .ok (.iadd, 1) := by decide +kernel
theorem dLaw_law_142 : decode cLaw_law 142 = .ok (.iaload, 1) := by decide +kernel
theorem dLaw_law_143 : decode cLaw_law 143 = .ok (.aload_n 0, 1) := by decide +kernel
theorem dLaw_law_144 : decode cLaw_law 144 = .ok (.iload 4, 2) := by decide +kernel
theorem dLaw_law_146 : decode cLaw_law 146 = .ok (.iconst 2, 1) := by decide +kernel
theorem dLaw_law_147 : decode cLaw_law 147 = .ok (.iadd, 1) := by decide +kernel
theorem dLaw_law_148 : decode cLaw_law 148 = .ok (.iaload, 1) := by decide +kernel
theorem dLaw_law_149 : decode cLaw_law 149 = .ok (.aload_n 0, 1) := by decide +kernel
theorem dLaw_law_150 : decode cLaw_law 150 = .ok (.iload 4, 2) := by decide +kernel
theorem dLaw_law_152 : decode cLaw_law 152 = .ok (.iconst 3, 1) := by decide +kernel
theorem dLaw_law_153 : decode cLaw_law 153 = .ok (.iadd, 1) := by decide +kernel
theorem dLaw_law_154 : decode cLaw_law 154 = .ok (.iaload, 1) := by decide +kernel
theorem dLaw_law_155 : decode cLaw_law 155 = .ok (.ifCond .eq 7, 3) := by decide +kernel
theorem dLaw_law_158 : decode cLaw_law 158 = .ok (.iconst 1, 1) := by decide +kernel
theorem dLaw_law_159 : decode cLaw_law 159 = .ok (.goto 4, 3) := by decide +kernel
theorem dLaw_law_162 : decode cLaw_law 162 = .ok (.iconst 0, 1) := by decide +kernel
theorem dLaw_law_163 : decode cLaw_law 163 = .ok (.aload_n 3, 1) := by decide +kernel
theorem dLaw_law_164 : decode cLaw_law 164 = .ok (.invokestatic 62, 3) := by decide +kernel
theorem dLaw_law_167 : decode cLaw_law 167 = .ok (.istore 5, 2) := by decide +kernel
theorem dLaw_law_169 : decode cLaw_law 169 = .ok (.aload_n 2, 1) := by decide +kernel
theorem dLaw_law_170 : decode cLaw_law 170 = .ok (.aload_n 0, 1) := by decide +kernel
theorem dLaw_law_171 : decode cLaw_law 171 = .ok (.iload 4, 2) := by decide +kernel
theorem dLaw_law_173 : decode cLaw_law 173 = .ok (.iconst 1, 1) := by decide +kernel
theorem dLaw_law_174 : decode cLaw_law 174 = .ok (.iadd, 1) := by decide +kernel
theorem dLaw_law_175 : decode cLaw_law 175 = .ok (.iaload, 1) := by decide +kernel
theorem dLaw_law_176 : decode cLaw_law 176 = .ok (.aload_n 0, 1) := by decide +kernel
theorem dLaw_law_177 : decode cLaw_law 177 = .ok (.iload 4, 2) := by decide +kernel
theorem dLaw_law_179 : decode cLaw_law 179 = .ok (.iconst 2, 1) := by decide +kernel
theorem dLaw_law_180 : decode cLaw_law 180 = .ok (.iadd, 1) := by decide +kernel
theorem dLaw_law_181 : decode cLaw_law 181 = .ok (.iaload, 1) := by decide +kernel
theorem dLaw_law_182 : decode cLaw_law 182 = .ok (.aload_n 0, 1) := by decide +kernel
theorem dLaw_law_183 : decode cLaw_law 183 = .ok (.iload 4, 2) := by decide +kernel
theorem dLaw_law_185 : decode cLaw_law 185 = .ok (.iconst 3, 1) := by decide +kernel
theorem dLaw_law_186 : decode cLaw_law 186 = .ok (.iadd, 1) := by decide +kernel
theorem dLaw_law_187 : decode cLaw_law 187 = .ok (.iaload, 1) := by decide +kernel
theorem dLaw_law_188 : decode cLaw_law 188 = .ok (.ifCond .eq 7, 3) := by decide +kernel
theorem dLaw_law_191 : decode cLaw_law 191 = .ok (.iconst 1, 1) := by decide +kernel
theorem dLaw_law_192 : decode cLaw_law 192 = .ok (.goto 4, 3) := by decide +kernel
theorem dLaw_law_195 : decode cLaw_law 195 = .ok (.iconst 0, 1) := by decide +kernel
theorem dLaw_law_196 : decode cLaw_law 196 = .ok (.invokevirtual 65, 3) := by decide +kernel
theorem dLaw_law_199 : decode cLaw_law 199 = .ok (.istore 6, 2) := by decide +kernel
theorem dLaw_law_201 : decode cLaw_law 201 = .ok (.goto 342, 3) := by decide +kernel
theorem dLaw_law_204 : decode cLaw_law 204 = .ok (.aload_n 1, 1) := by decide +kernel
theorem dLaw_law_205 : decode cLaw_law 205 = .ok (.aload_n 0, 1) := by decide +kernel
theorem dLaw_law_206 : decode cLaw_law 206 = .ok (.iload 4, 2) := by decide +kernel
theorem dLaw_law_208 : decode cLaw_law 208 = .ok (.iconst 1, 1) := by decide +kernel
theorem dLaw_law_209 : decode cLaw_law 209 = .ok (.iadd, 1) := by decide +kernel
theorem dLaw_law_210 : decode cLaw_law 210 = .ok (.iaload, 1) := by decide +kernel
theorem dLaw_law_211 : decode cLaw_law 211 = .ok (.aload_n 3, 1) := by decide +kernel
theorem dLaw_law_212 : decode cLaw_law 212 = .ok (.invokestatic 66, 3) := by decide +kernel
theorem dLaw_law_215 : decode cLaw_law 215 = .ok (.istore 5, 2) := by decide +kernel
theorem dLaw_law_217 : decode cLaw_law 217 = .ok (.aload_n 2, 1) := by decide +kernel
theorem dLaw_law_218 : decode cLaw_law 218 = .ok (.aload_n 0, 1) := by decide +kernel
theorem dLaw_law_219 : decode cLaw_law 219 = .ok (.iload 4, 2) := by decide +kernel
theorem dLaw_law_221 : decode cLaw_law 221 = .ok (.iconst 1, 1) := by decide +kernel
theorem dLaw_law_222 : decode cLaw_law 222 = .ok (.iadd, 1) := by decide +kernel
theorem dLaw_law_223 : decode cLaw_law 223 = .ok (.iaload, 1) := by decide +kernel
theorem dLaw_law_224 : decode cLaw_law 224 = .ok (.invokevirtual 68, 3) := by decide +kernel
theorem dLaw_law_227 : decode cLaw_law 227 = .ok (.istore 6, 2) := by decide +kernel
theorem dLaw_law_229 : decode cLaw_law 229 = .ok (.goto 314, 3) := by decide +kernel
theorem dLaw_law_232 : decode cLaw_law 232 = .ok (.aload_n 1, 1) := by decide +kernel
theorem dLaw_law_233 : decode cLaw_law 233 = .ok (.invokevirtual 69, 3) := by decide +kernel
theorem dLaw_law_236 : decode cLaw_law 236 = .ok (.pop, 1) := by decide +kernel
theorem dLaw_law_237 : decode cLaw_law 237 = .ok (.aload_n 2, 1) := by decide +kernel
theorem dLaw_law_238 : decode cLaw_law 238 = .ok (.invokevirtual 73, 3) := by decide +kernel
theorem dLaw_law_241 : decode cLaw_law 241 = .ok (.pop, 1) := by decide +kernel
theorem dLaw_law_242 : decode cLaw_law 242 = .ok (.goto 301, 3) := by decide +kernel
theorem dLaw_law_245 : decode cLaw_law 245 = .ok (.aload_n 1, 1) := by decide +kernel
theorem dLaw_law_246 : decode cLaw_law 246 = .ok (.invokevirtual 74, 3) := by decide +kernel
theorem dLaw_law_249 : decode cLaw_law 249 = .ok (.pop, 1) := by decide +kernel
theorem dLaw_law_250 : decode cLaw_law 250 = .ok (.aload_n 2, 1) := by decide +kernel
theorem dLaw_law_251 : decode cLaw_law 251 = .ok (.invokevirtual 77, 3) := by decide +kernel
theorem dLaw_law_254 : decode cLaw_law 254 = .ok (.pop, 1) := by decide +kernel
theorem dLaw_law_255 : decode cLaw_law 255 = .ok (.goto 288, 3) := by decide +kernel
theorem dLaw_law_258 : decode cLaw_law 258 = .ok (.aload_n 1, 1) := by decide +kernel
theorem dLaw_law_259 : decode cLaw_law 259 = .ok (.aload_n 0, 1) := by decide +kernel
theorem dLaw_law_260 : decode cLaw_law 260 = .ok (.iload 4, 2) := by decide +kernel
theorem dLaw_law_262 : decode cLaw_law 262 = .ok (.iconst 1, 1) := by decide +kernel
theorem dLaw_law_263 : decode cLaw_law 263 = .ok (.iadd, 1) := by decide +kernel
theorem dLaw_law_264 : decode cLaw_law 264 = .ok (.iaload, 1) := by decide +kernel
theorem dLaw_law_265 : decode cLaw_law 265 = .ok (.aload_n 3, 1) := by decide +kernel
theorem dLaw_law_266 : decode cLaw_law 266 = .ok (.invokestatic 78, 3) := by decide +kernel
theorem dLaw_law_269 : decode cLaw_law 269 = .ok (.istore 5, 2) := by decide +kernel
theorem dLaw_law_271 : decode cLaw_law 271 = .ok (.aload_n 2, 1) := by decide +kernel
theorem dLaw_law_272 : decode cLaw_law 272 = .ok (.aload_n 0, 1) := by decide +kernel
theorem dLaw_law_273 : decode cLaw_law 273 = .ok (.iload 4, 2) := by decide +kernel
theorem dLaw_law_275 : decode cLaw_law 275 = .ok (.iconst 1, 1) := by decide +kernel
theorem dLaw_law_276 : decode cLaw_law 276 = .ok (.iadd, 1) := by decide +kernel
theorem dLaw_law_277 : decode cLaw_law 277 = .ok (.iaload, 1) := by decide +kernel
theorem dLaw_law_278 : decode cLaw_law 278 = .ok (.invokevirtual 80, 3) := by decide +kernel
theorem dLaw_law_281 : decode cLaw_law 281 = .ok (.istore 6, 2) := by decide +kernel
theorem dLaw_law_283 : decode cLaw_law 283 = .ok (.goto 260, 3) := by decide +kernel
theorem dLaw_law_286 : decode cLaw_law 286 = .ok (.aload_n 1, 1) := by decide +kernel
theorem dLaw_law_287 : decode cLaw_law 287 = .ok (.aload_n 0, 1) := by decide +kernel
theorem dLaw_law_288 : decode cLaw_law 288 = .ok (.iload 4, 2) := by decide +kernel
theorem dLaw_law_290 : decode cLaw_law 290 = .ok (.iconst 1, 1) := by decide +kernel
theorem dLaw_law_291 : decode cLaw_law 291 = .ok (.iadd, 1) := by decide +kernel
theorem dLaw_law_292 : decode cLaw_law 292 = .ok (.iaload, 1) := by decide +kernel
theorem dLaw_law_293 : decode cLaw_law 293 = .ok (.aload_n 0, 1) := by decide +kernel
theorem dLaw_law_294 : decode cLaw_law 294 = .ok (.iload 4, 2) := by decide +kernel
theorem dLaw_law_296 : decode cLaw_law 296 = .ok (.iconst 2, 1) := by decide +kernel
theorem dLaw_law_297 : decode cLaw_law 297 = .ok (.iadd, 1) := by decide +kernel
theorem dLaw_law_298 : decode cLaw_law 298 = .ok (.iaload, 1) := by decide +kernel
theorem dLaw_law_299 : decode cLaw_law 299 = .ok (.aload_n 3, 1) := by decide +kernel
theorem dLaw_law_300 : decode cLaw_law 300 = .ok (.invokestatic 81, 3) := by decide +kernel
theorem dLaw_law_303 : decode cLaw_law 303 = .ok (.istore 5, 2) := by decide +kernel
theorem dLaw_law_305 : decode cLaw_law 305 = .ok (.aload_n 2, 1) := by decide +kernel
theorem dLaw_law_306 : decode cLaw_law 306 = .ok (.aload_n 0, 1) := by decide +kernel
theorem dLaw_law_307 : decode cLaw_law 307 = .ok (.iload 4, 2) := by decide +kernel
theorem dLaw_law_309 : decode cLaw_law 309 = .ok (.iconst 1, 1) := by decide +kernel
theorem dLaw_law_310 : decode cLaw_law 310 = .ok (.iadd, 1) := by decide +kernel
theorem dLaw_law_311 : decode cLaw_law 311 = .ok (.iaload, 1) := by decide +kernel
theorem dLaw_law_312 : decode cLaw_law 312 = .ok (.aload_n 0, 1) := by decide +kernel
theorem dLaw_law_313 : decode cLaw_law 313 = .ok (.iload 4, 2) := by decide +kernel
theorem dLaw_law_315 : decode cLaw_law 315 = .ok (.iconst 2, 1) := by decide +kernel
theorem dLaw_law_316 : decode cLaw_law 316 = .ok (.iadd, 1) := by decide +kernel
theorem dLaw_law_317 : decode cLaw_law 317 = .ok (.iaload, 1) := by decide +kernel
theorem dLaw_law_318 : decode cLaw_law 318 = .ok (.invokevirtual 84, 3) := by decide +kernel
theorem dLaw_law_321 : decode cLaw_law 321 = .ok (.istore 6, 2) := by decide +kernel
theorem dLaw_law_323 : decode cLaw_law 323 = .ok (.goto 220, 3) := by decide +kernel
theorem dLaw_law_326 : decode cLaw_law 326 = .ok (.aload_n 1, 1) := by decide +kernel
theorem dLaw_law_327 : decode cLaw_law 327 = .ok (.aload_n 0, 1) := by decide +kernel
theorem dLaw_law_328 : decode cLaw_law 328 = .ok (.iload 4, 2) := by decide +kernel
theorem dLaw_law_330 : decode cLaw_law 330 = .ok (.iconst 1, 1) := by decide +kernel
theorem dLaw_law_331 : decode cLaw_law 331 = .ok (.iadd, 1) := by decide +kernel
theorem dLaw_law_332 : decode cLaw_law 332 = .ok (.iaload, 1) := by decide +kernel
theorem dLaw_law_333 : decode cLaw_law 333 = .ok (.aload_n 3, 1) := by decide +kernel
theorem dLaw_law_334 : decode cLaw_law 334 = .ok (.invokestatic 85, 3) := by decide +kernel
theorem dLaw_law_337 : decode cLaw_law 337 = .ok (.istore 5, 2) := by decide +kernel
theorem dLaw_law_339 : decode cLaw_law 339 = .ok (.aload_n 2, 1) := by decide +kernel
theorem dLaw_law_340 : decode cLaw_law 340 = .ok (.aload_n 0, 1) := by decide +kernel
theorem dLaw_law_341 : decode cLaw_law 341 = .ok (.iload 4, 2) := by decide +kernel
theorem dLaw_law_343 : decode cLaw_law 343 = .ok (.iconst 1, 1) := by decide +kernel
theorem dLaw_law_344 : decode cLaw_law 344 = .ok (.iadd, 1) := by decide +kernel
theorem dLaw_law_345 : decode cLaw_law 345 = .ok (.iaload, 1) := by decide +kernel
theorem dLaw_law_346 : decode cLaw_law 346 = .ok (.invokevirtual 87, 3) := by decide +kernel
theorem dLaw_law_349 : decode cLaw_law 349 = .ok (.istore 6, 2) := by decide +kernel
theorem dLaw_law_351 : decode cLaw_law 351 = .ok (.goto 192, 3) := by decide +kernel
theorem dLaw_law_354 : decode cLaw_law 354 = .ok (.aload_n 1, 1) := by decide +kernel
theorem dLaw_law_355 : decode cLaw_law 355 = .ok (.aload_n 0, 1) := by decide +kernel
theorem dLaw_law_356 : decode cLaw_law 356 = .ok (.iload 4, 2) := by decide +kernel
theorem dLaw_law_358 : decode cLaw_law 358 = .ok (.iconst 1, 1) := by decide +kernel
theorem dLaw_law_359 : decode cLaw_law 359 = .ok (.iadd, 1) := by decide +kernel
theorem dLaw_law_360 : decode cLaw_law 360 = .ok (.iaload, 1) := by decide +kernel
theorem dLaw_law_361 : decode cLaw_law 361 = .ok (.aload_n 0, 1) := by decide +kernel
theorem dLaw_law_362 : decode cLaw_law 362 = .ok (.iload 4, 2) := by decide +kernel
theorem dLaw_law_364 : decode cLaw_law 364 = .ok (.iconst 2, 1) := by decide +kernel
theorem dLaw_law_365 : decode cLaw_law 365 = .ok (.iadd, 1) := by decide +kernel
theorem dLaw_law_366 : decode cLaw_law 366 = .ok (.iaload, 1) := by decide +kernel
theorem dLaw_law_367 : decode cLaw_law 367 = .ok (.aload_n 3, 1) := by decide +kernel
theorem dLaw_law_368 : decode cLaw_law 368 = .ok (.invokestatic 88, 3) := by decide +kernel
theorem dLaw_law_371 : decode cLaw_law 371 = .ok (.istore 5, 2) := by decide +kernel
theorem dLaw_law_373 : decode cLaw_law 373 = .ok (.aload_n 2, 1) := by decide +kernel
theorem dLaw_law_374 : decode cLaw_law 374 = .ok (.aload_n 0, 1) := by decide +kernel
theorem dLaw_law_375 : decode cLaw_law 375 = .ok (.iload 4, 2) := by decide +kernel
theorem dLaw_law_377 : decode cLaw_law 377 = .ok (.iconst 1, 1) := by decide +kernel
theorem dLaw_law_378 : decode cLaw_law 378 = .ok (.iadd, 1) := by decide +kernel
theorem dLaw_law_379 : decode cLaw_law 379 = .ok (.iaload, 1) := by decide +kernel
theorem dLaw_law_380 : decode cLaw_law 380 = .ok (.aload_n 0, 1) := by decide +kernel
theorem dLaw_law_381 : decode cLaw_law 381 = .ok (.iload 4, 2) := by decide +kernel
theorem dLaw_law_383 : decode cLaw_law 383 = .ok (.iconst 2, 1) := by decide +kernel
theorem dLaw_law_384 : decode cLaw_law 384 = .ok (.iadd, 1) := by decide +kernel
theorem dLaw_law_385 : decode cLaw_law 385 = .ok (.iaload, 1) := by decide +kernel
theorem dLaw_law_386 : decode cLaw_law 386 = .ok (.invokevirtual 90, 3) := by decide +kernel
theorem dLaw_law_389 : decode cLaw_law 389 = .ok (.istore 6, 2) := by decide +kernel
theorem dLaw_law_391 : decode cLaw_law 391 = .ok (.goto 152, 3) := by decide +kernel
theorem dLaw_law_394 : decode cLaw_law 394 = .ok (.aload_n 1, 1) := by decide +kernel
theorem dLaw_law_395 : decode cLaw_law 395 = .ok (.aload_n 0, 1) := by decide +kernel
theorem dLaw_law_396 : decode cLaw_law 396 = .ok (.iload 4, 2) := by decide +kernel
theorem dLaw_law_398 : decode cLaw_law 398 = .ok (.iconst 1, 1) := by decide +kernel
theorem dLaw_law_399 : decode cLaw_law 399 = .ok (.iadd, 1) := by decide +kernel
theorem dLaw_law_400 : decode cLaw_law 400 = .ok (.iaload, 1) := by decide +kernel
theorem dLaw_law_401 : decode cLaw_law 401 = .ok (.aload_n 3, 1) := by decide +kernel
theorem dLaw_law_402 : decode cLaw_law 402 = .ok (.invokestatic 91, 3) := by decide +kernel
theorem dLaw_law_405 : decode cLaw_law 405 = .ok (.istore 5, 2) := by decide +kernel
theorem dLaw_law_407 : decode cLaw_law 407 = .ok (.aload_n 2, 1) := by decide +kernel
theorem dLaw_law_408 : decode cLaw_law 408 = .ok (.aload_n 0, 1) := by decide +kernel
theorem dLaw_law_409 : decode cLaw_law 409 = .ok (.iload 4, 2) := by decide +kernel
theorem dLaw_law_411 : decode cLaw_law 411 = .ok (.iconst 1, 1) := by decide +kernel
theorem dLaw_law_412 : decode cLaw_law 412 = .ok (.iadd, 1) := by decide +kernel
theorem dLaw_law_413 : decode cLaw_law 413 = .ok (.iaload, 1) := by decide +kernel
theorem dLaw_law_414 : decode cLaw_law 414 = .ok (.invokevirtual 93, 3) := by decide +kernel
theorem dLaw_law_417 : decode cLaw_law 417 = .ok (.istore 6, 2) := by decide +kernel
theorem dLaw_law_419 : decode cLaw_law 419 = .ok (.goto 124, 3) := by decide +kernel
theorem dLaw_law_422 : decode cLaw_law 422 = .ok (.aload_n 1, 1) := by decide +kernel
theorem dLaw_law_423 : decode cLaw_law 423 = .ok (.aload_n 0, 1) := by decide +kernel
theorem dLaw_law_424 : decode cLaw_law 424 = .ok (.iload 4, 2) := by decide +kernel
theorem dLaw_law_426 : decode cLaw_law 426 = .ok (.iconst 1, 1) := by decide +kernel
theorem dLaw_law_427 : decode cLaw_law 427 = .ok (.iadd, 1) := by decide +kernel
theorem dLaw_law_428 : decode cLaw_law 428 = .ok (.iaload, 1) := by decide +kernel
theorem dLaw_law_429 : decode cLaw_law 429 = .ok (.aload_n 3, 1) := by decide +kernel
theorem dLaw_law_430 : decode cLaw_law 430 = .ok (.invokestatic 94, 3) := by decide +kernel
theorem dLaw_law_433 : decode cLaw_law 433 = .ok (.istore 5, 2) := by decide +kernel
theorem dLaw_law_435 : decode cLaw_law 435 = .ok (.aload_n 2, 1) := by decide +kernel
theorem dLaw_law_436 : decode cLaw_law 436 = .ok (.aload_n 0, 1) := by decide +kernel
theorem dLaw_law_437 : decode cLaw_law 437 = .ok (.iload 4, 2) := by decide +kernel
theorem dLaw_law_439 : decode cLaw_law 439 = .ok (.iconst 1, 1) := by decide +kernel
theorem dLaw_law_440 : decode cLaw_law 440 = .ok (.iadd, 1) := by decide +kernel
theorem dLaw_law_441 : decode cLaw_law 441 = .ok (.iaload, 1) := by decide +kernel
theorem dLaw_law_442 : decode cLaw_law 442 = .ok (.invokevirtual 96, 3) := by decide +kernel
theorem dLaw_law_445 : decode cLaw_law 445 = .ok (.istore 6, 2) := by decide +kernel
theorem dLaw_law_447 : decode cLaw_law 447 = .ok (.goto 96, 3) := by decide +kernel
theorem dLaw_law_450 : decode cLaw_law 450 = .ok (.aload_n 1, 1) := by decide +kernel
theorem dLaw_law_451 : decode cLaw_law 451 = .ok (.aload_n 0, 1) := by decide +kernel
theorem dLaw_law_452 : decode cLaw_law 452 = .ok (.iload 4, 2) := by decide +kernel
theorem dLaw_law_454 : decode cLaw_law 454 = .ok (.iconst 1, 1) := by decide +kernel
theorem dLaw_law_455 : decode cLaw_law 455 = .ok (.iadd, 1) := by decide +kernel
theorem dLaw_law_456 : decode cLaw_law 456 = .ok (.iaload, 1) := by decide +kernel
theorem dLaw_law_457 : decode cLaw_law 457 = .ok (.aload_n 0, 1) := by decide +kernel
theorem dLaw_law_458 : decode cLaw_law 458 = .ok (.iload 4, 2) := by decide +kernel
theorem dLaw_law_460 : decode cLaw_law 460 = .ok (.iconst 2, 1) := by decide +kernel
theorem dLaw_law_461 : decode cLaw_law 461 = .ok (.iadd, 1) := by decide +kernel
theorem dLaw_law_462 : decode cLaw_law 462 = .ok (.iaload, 1) := by decide +kernel
theorem dLaw_law_463 : decode cLaw_law 463 = .ok (.aload_n 3, 1) := by decide +kernel
theorem dLaw_law_464 : decode cLaw_law 464 = .ok (.invokestatic 97, 3) := by decide +kernel
theorem dLaw_law_467 : decode cLaw_law 467 = .ok (.istore 5, 2) := by decide +kernel
theorem dLaw_law_469 : decode cLaw_law 469 = .ok (.aload_n 2, 1) := by decide +kernel
theorem dLaw_law_470 : decode cLaw_law 470 = .ok (.aload_n 0, 1) := by decide +kernel
theorem dLaw_law_471 : decode cLaw_law 471 = .ok (.iload 4, 2) := by decide +kernel
theorem dLaw_law_473 : decode cLaw_law 473 = .ok (.iconst 1, 1) := by decide +kernel
theorem dLaw_law_474 : decode cLaw_law 474 = .ok (.iadd, 1) := by decide +kernel
theorem dLaw_law_475 : decode cLaw_law 475 = .ok (.iaload, 1) := by decide +kernel
theorem dLaw_law_476 : decode cLaw_law 476 = .ok (.aload_n 0, 1) := by decide +kernel
theorem dLaw_law_477 : decode cLaw_law 477 = .ok (.iload 4, 2) := by decide +kernel
theorem dLaw_law_479 : decode cLaw_law 479 = .ok (.iconst 2, 1) := by decide +kernel
theorem dLaw_law_480 : decode cLaw_law 480 = .ok (.iadd, 1) := by decide +kernel
theorem dLaw_law_481 : decode cLaw_law 481 = .ok (.iaload, 1) := by decide +kernel
theorem dLaw_law_482 : decode cLaw_law 482 = .ok (.invokevirtual 99, 3) := by decide +kernel
theorem dLaw_law_485 : decode cLaw_law 485 = .ok (.istore 6, 2) := by decide +kernel
theorem dLaw_law_487 : decode cLaw_law 487 = .ok (.goto 56, 3) := by decide +kernel
theorem dLaw_law_490 : decode cLaw_law 490 = .ok (.aload_n 1, 1) := by decide +kernel
theorem dLaw_law_491 : decode cLaw_law 491 = .ok (.aload_n 0, 1) := by decide +kernel
theorem dLaw_law_492 : decode cLaw_law 492 = .ok (.iload 4, 2) := by decide +kernel
theorem dLaw_law_494 : decode cLaw_law 494 = .ok (.iconst 1, 1) := by decide +kernel
theorem dLaw_law_495 : decode cLaw_law 495 = .ok (.iadd, 1) := by decide +kernel
theorem dLaw_law_496 : decode cLaw_law 496 = .ok (.iaload, 1) := by decide +kernel
theorem dLaw_law_497 : decode cLaw_law 497 = .ok (.aload_n 3, 1) := by decide +kernel
theorem dLaw_law_498 : decode cLaw_law 498 = .ok (.invokestatic 100, 3) := by decide +kernel
theorem dLaw_law_501 : decode cLaw_law 501 = .ok (.istore 5, 2) := by decide +kernel
theorem dLaw_law_503 : decode cLaw_law 503 = .ok (.aload_n 2, 1) := by decide +kernel
theorem dLaw_law_504 : decode cLaw_law 504 = .ok (.aload_n 0, 1) := by decide +kernel
theorem dLaw_law_505 : decode cLaw_law 505 = .ok (.iload 4, 2) := by decide +kernel
theorem dLaw_law_507 : decode cLaw_law 507 = .ok (.iconst 1, 1) := by decide +kernel
theorem dLaw_law_508 : decode cLaw_law 508 = .ok (.iadd, 1) := by decide +kernel
theorem dLaw_law_509 : decode cLaw_law 509 = .ok (.iaload, 1) := by decide +kernel
theorem dLaw_law_510 : decode cLaw_law 510 = .ok (.invokevirtual 102, 3) := by decide +kernel
theorem dLaw_law_513 : decode cLaw_law 513 = .ok (.istore 6, 2) := by decide +kernel
theorem dLaw_law_515 : decode cLaw_law 515 = .ok (.goto 28, 3) := by decide +kernel
theorem dLaw_law_518 : decode cLaw_law 518 = .ok (.aload_n 1, 1) := by decide +kernel
theorem dLaw_law_519 : decode cLaw_law 519 = .ok (.aload_n 0, 1) := by decide +kernel
theorem dLaw_law_520 : decode cLaw_law 520 = .ok (.iload 4, 2) := by decide +kernel
theorem dLaw_law_522 : decode cLaw_law 522 = .ok (.iconst 1, 1) := by decide +kernel
theorem dLaw_law_523 : decode cLaw_law 523 = .ok (.iadd, 1) := by decide +kernel
theorem dLaw_law_524 : decode cLaw_law 524 = .ok (.iaload, 1) := by decide +kernel
theorem dLaw_law_525 : decode cLaw_law 525 = .ok (.invokevirtual 103, 3) := by decide +kernel
theorem dLaw_law_528 : decode cLaw_law 528 = .ok (.aload_n 2, 1) := by decide +kernel
theorem dLaw_law_529 : decode cLaw_law 529 = .ok (.aload_n 0, 1) := by decide +kernel
theorem dLaw_law_530 : decode cLaw_law 530 = .ok (.iload 4, 2) := by decide +kernel
theorem dLaw_law_532 : decode cLaw_law 532 = .ok (.iconst 1, 1) := by decide +kernel
theorem dLaw_law_533 : decode cLaw_law 533 = .ok (.iadd, 1) := by decide +kernel
theorem dLaw_law_534 : decode cLaw_law 534 = .ok (.iaload, 1) := by decide +kernel
theorem dLaw_law_535 : decode cLaw_law 535 = .ok (.invokevirtual 106, 3) := by decide +kernel
theorem dLaw_law_538 : decode cLaw_law 538 = .ok (.if_icmp .eq 5, 3) := by decide +kernel
theorem dLaw_law_541 : decode cLaw_law 541 = .ok (.iconst 0, 1) := by decide +kernel
theorem dLaw_law_542 : decode cLaw_law 542 = .ok (.ireturn, 1) := by decide +kernel
theorem dLaw_law_543 : decode cLaw_law 543 = .ok (.iinc 4 4, 3) := by decide +kernel
theorem dLaw_law_546 : decode cLaw_law 546 = .ok (.goto (-523), 3) := by decide +kernel
theorem dLaw_law_549 : decode cLaw_law 549 = .ok (.iconst 1, 1) := by decide +kernel
theorem dLaw_law_550 : decode cLaw_law 550 = .ok (.ireturn, 1) := by decide +kernel
