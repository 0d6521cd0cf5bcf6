abbrev cNet_init : ByteArray := prog_2_method_1_code
def yNet_init : MethodName := ⟨"StateExplorer$Net", "<init>", "()V"⟩
def wsNet_init : List Cond := Cond.code yNet_init cNet_init 1 (none : Option Jvm.ClassFile.FieldType) :: tb
theorem tcNet_init : Cond.code yNet_init cNet_init 1 (none : Option Jvm.ClassFile.FieldType) ∈ tb := tw_61
abbrev cNet_empty : ByteArray := prog_2_method_2_code
def yNet_empty : MethodName := ⟨"StateExplorer$Net", "empty", "()V"⟩
def wsNet_empty : List Cond := Cond.code yNet_empty cNet_empty 1 (none : Option Jvm.ClassFile.FieldType) :: tb
theorem tcNet_empty : Cond.code yNet_empty cNet_empty 1 (none : Option Jvm.ClassFile.FieldType) ∈ tb := tw_216
abbrev cNet_feedTotal : ByteArray := prog_2_method_3_code
def yNet_feedTotal : MethodName := ⟨"StateExplorer$Net", "feedTotal", "()I"⟩
def wsNet_feedTotal : List Cond := Cond.code yNet_feedTotal cNet_feedTotal 1 (some .int) :: tb
theorem tcNet_feedTotal : Cond.code yNet_feedTotal cNet_feedTotal 1 (some .int) ∈ tb := tw_356
abbrev cNet_stateTotal : ByteArray := prog_2_method_4_code
def yNet_stateTotal : MethodName := ⟨"StateExplorer$Net", "stateTotal", "()I"⟩
def wsNet_stateTotal : List Cond := Cond.code yNet_stateTotal cNet_stateTotal 1 (some .int) :: tb
theorem tcNet_stateTotal : Cond.code yNet_stateTotal cNet_stateTotal 1 (some .int) ∈ tb := tw_232
abbrev cNet_choiceTotal : ByteArray := prog_2_method_5_code
def yNet_choiceTotal : MethodName := ⟨"StateExplorer$Net", "choiceTotal", "()I"⟩
def wsNet_choiceTotal : List Cond := Cond.code yNet_choiceTotal cNet_choiceTotal 1 (some .int) :: tb
theorem tcNet_choiceTotal : Cond.code yNet_choiceTotal cNet_choiceTotal 1 (some .int) ∈ tb := tw_272
abbrev cNet_wordTotal : ByteArray := prog_2_method_6_code
def yNet_wordTotal : MethodName := ⟨"StateExplorer$Net", "wordTotal", "()I"⟩
def wsNet_wordTotal : List Cond := Cond.code yNet_wordTotal cNet_wordTotal 1 (some .int) :: tb
theorem tcNet_wordTotal : Cond.code yNet_wordTotal cNet_wordTotal 1 (some .int) ∈ tb := tw_228
abbrev cNet_isFullFor : ByteArray := prog_2_method_7_code
def yNet_isFullFor : MethodName := ⟨"StateExplorer$Net", "isFullFor", "(I)Z"⟩
def wsNet_isFullFor : List Cond := Cond.code yNet_isFullFor cNet_isFullFor 2 (some .boolean) :: tb
theorem tcNet_isFullFor : Cond.code yNet_isFullFor cNet_isFullFor 2 (some .boolean) ∈ tb := tw_440
abbrev cNet_addGate : ByteArray := prog_2_method_8_code
def yNet_addGate : MethodName := ⟨"StateExplorer$Net", "addGate", "(I)I"⟩
def wsNet_addGate : List Cond := Cond.code yNet_addGate cNet_addGate 3 (some .int) :: tb
theorem tcNet_addGate : Cond.code yNet_addGate cNet_addGate 3 (some .int) ∈ tb := tw_444
abbrev cNet_feedsOf : ByteArray := prog_2_method_9_code
def yNet_feedsOf : MethodName := ⟨"StateExplorer$Net", "feedsOf", "(I)I"⟩
def wsNet_feedsOf : List Cond := Cond.code yNet_feedsOf cNet_feedsOf 2 (some .int) :: tb
theorem tcNet_feedsOf : Cond.code yNet_feedsOf cNet_feedsOf 2 (some .int) ∈ tb := tw_481
abbrev cNet_takesFeed : ByteArray := prog_2_method_10_code
def yNet_takesFeed : MethodName := ⟨"StateExplorer$Net", "takesFeed", "(I)Z"⟩
def wsNet_takesFeed : List Cond := Cond.code yNet_takesFeed cNet_takesFeed 2 (some .boolean) :: tb
theorem tcNet_takesFeed : Cond.code yNet_takesFeed cNet_takesFeed 2 (some .boolean) ∈ tb := tw_477
abbrev cNet_addFeed : ByteArray := prog_2_method_11_code
def yNet_addFeed : MethodName := ⟨"StateExplorer$Net", "addFeed", "(IIZ)I"⟩
def wsNet_addFeed : List Cond := Cond.code yNet_addFeed cNet_addFeed 7 (some .int) :: tb
theorem tcNet_addFeed : Cond.code yNet_addFeed cNet_addFeed 7 (some .int) ∈ tb := tw_501
abbrev cNet_addOutput : ByteArray := prog_2_method_12_code
def yNet_addOutput : MethodName := ⟨"StateExplorer$Net", "addOutput", "(I)I"⟩
def wsNet_addOutput : List Cond := Cond.code yNet_addOutput cNet_addOutput 2 (some .int) :: tb
theorem tcNet_addOutput : Cond.code yNet_addOutput cNet_addOutput 2 (some .int) ∈ tb := tw_514
theorem dNet_init_0 : decode cNet_init 0 = .ok (.aload_n 0, 1) := by decide +kernel
theorem dNet_init_1 : decode cNet_init 1 = .ok (.invokespecial 3, 3) := by decide +kernel
theorem dNet_init_4 : decode cNet_init 4 = .ok (.aload_n 0, 1) := by decide +kernel
theorem dNet_init_5 : decode cNet_init 5 = .ok (.bipush 60, 2) := by decide +kernel
theorem dNet_init_7 : decode cNet_init 7 = .ok (.newarray .int, 2) := by decide +kernel
theorem dNet_init_9 : decode cNet_init 9 = .ok (.putfield 9, 3) := by decide +kernel
theorem dNet_init_12 : decode cNet_init 12 = .ok (.aload_n 0, 1) := by decide +kernel
theorem dNet_init_13 : decode cNet_init 13 = .ok (.bipush 60, 2) := by decide +kernel
theorem dNet_init_15 : decode cNet_init 15 = .ok (.newarray .int, 2) := by decide +kernel
theorem dNet_init_17 : decode cNet_init 17 = .ok (.putfield 15, 3) := by decide +kernel
theorem dNet_init_20 : decode cNet_init 20 = .ok (.aload_n 0, 1) := by decide +kernel
theorem dNet_init_21 : decode cNet_init 21 = .ok (.bipush 61, 2) := by decide +kernel
theorem dNet_init_23 : decode cNet_init 23 = .ok (.newarray .int, 2) := by decide +kernel
theorem dNet_init_25 : decode cNet_init 25 = .ok (.putfield 18, 3) := by decide +kernel
theorem dNet_init_28 : decode cNet_init 28 = .ok (.aload_n 0, 1) := by decide +kernel
theorem dNet_init_29 : decode cNet_init 29 = .ok (.sipush 240, 3) := by decide +kernel
theorem dNet_init_32 : decode cNet_init 32 = .ok (.newarray .int, 2) := by decide +kernel
theorem dNet_init_34 : decode cNet_init 34 = .ok (.putfield 21, 3) := by decide +kernel
theorem dNet_init_37 : decode cNet_init 37 = .ok (.aload_n 0, 1) := by decide +kernel
theorem dNet_init_38 : decode cNet_init 38 = .ok (.bipush 8, 2) := by decide +kernel
theorem dNet_init_40 : decode cNet_init 40 = .ok (.newarray .int, 2) := by decide +kernel
theorem dNet_init_42 : decode cNet_init 42 = .ok (.putfield 24, 3) := by decide +kernel
theorem dNet_init_45 : decode cNet_init 45 = .ok (.aload_n 0, 1) := by decide +kernel
theorem dNet_init_46 : decode cNet_init 46 = .ok (.bipush 6, 2) := by decide +kernel
theorem dNet_init_48 : decode cNet_init 48 = .ok (.newarray .int, 2) := by decide +kernel
theorem dNet_init_50 : decode cNet_init 50 = .ok (.putfield 27, 3) := by decide +kernel
theorem dNet_init_53 : decode cNet_init 53 = .ok (.aload_n 0, 1) := by decide +kernel
theorem dNet_init_54 : decode cNet_init 54 = .ok (.iconst 0, 1) := by decide +kernel
theorem dNet_init_55 : decode cNet_init 55 = .ok (.putfield 30, 3) := by decide +kernel
theorem dNet_init_58 : decode cNet_init 58 = .ok (.aload_n 0, 1) := by decide +kernel
theorem dNet_init_59 : decode cNet_init 59 = .ok (.iconst 0, 1) := by decide +kernel
theorem dNet_init_60 : decode cNet_init 60 = .ok (.putfield 34, 3) := by decide +kernel
theorem dNet_init_63 : decode cNet_init 63 = .ok (.aload_n 0, 1) := by decide +kernel
theorem dNet_init_64 : decode cNet_init 64 = .ok (.iconst 0, 1) := by decide +kernel
theorem dNet_init_65 : decode cNet_init 65 = .ok (.putfield 37, 3) := by decide +kernel
theorem dNet_init_68 : decode cNet_init 68 = .ok (.aload_n 0, 1) := by decide +kernel
theorem dNet_init_69 : decode cNet_init 69 = .ok (.iconst 0, 1) := by decide +kernel
theorem dNet_init_70 : decode cNet_init 70 = .ok (.putfield 40, 3) := by decide +kernel
theorem dNet_init_73 : decode cNet_init 73 = .ok (.return_, 1) := by decide +kernel
theorem dNet_empty_0 : decode cNet_empty 0 = .ok (.aload_n 0, 1) := by decide +kernel
theorem dNet_empty_1 : decode cNet_empty 1 = .ok (.iconst 0, 1) := by decide +kernel
theorem dNet_empty_2 : decode cNet_empty 2 = .ok (.putfield 30, 3) := by decide +kernel
theorem dNet_empty_5 : decode cNet_empty 5 = .ok (.aload_n 0, 1) := by decide +kernel
theorem dNet_empty_6 : decode cNet_empty 6 = .ok (.iconst 0, 1) := by decide +kernel
theorem dNet_empty_7 : decode cNet_empty 7 = .ok (.putfield 34, 3) := by decide +kernel
theorem dNet_empty_10 : decode cNet_empty 10 = .ok (.aload_n 0, 1) := by decide +kernel
theorem dNet_empty_11 : decode cNet_empty 11 = .ok (.iconst 0, 1) := by decide +kernel
theorem dNet_empty_12 : decode cNet_empty 12 = .ok (.putfield 37, 3) := by decide +kernel
theorem dNet_empty_15 : decode cNet_empty 15 = .ok (.aload_n 0, 1) := by decide +kernel
theorem dNet_empty_16 : decode cNet_empty 16 = .ok (.iconst 0, 1) := by decide +kernel
theorem dNet_empty_17 : decode cNet_empty 17 = .ok (.putfield 40, 3) := by decide +kernel
theorem dNet_empty_20 : decode cNet_empty 20 = .ok (.return_, 1) := by decide +kernel
theorem dNet_feedTotal_0 : decode cNet_feedTotal 0 = .ok (.aload_n 0, 1) := by decide +kernel
theorem dNet_feedTotal_1 : decode cNet_feedTotal 1 = .ok (.getfield 18, 3) := by decide +kernel
theorem dNet_feedTotal_4 : decode cNet_feedTotal 4 = .ok (.aload_n 0, 1) := by decide +kernel
theorem dNet_feedTotal_5 : decode cNet_feedTotal 5 = .ok (.getfield 30, 3) := by decide +kernel
theorem dNet_feedTotal_8 : decode cNet_feedTotal 8 = .ok (.iaload, 1) := by decide +kernel
theorem dNet_feedTotal_9 : decode cNet_feedTotal 9 = .ok (.ireturn, 1) := by decide +kernel
theorem dNet_stateTotal_0 : decode cNet_stateTotal 0 = .ok (.iconst 1, 1) := by decide +kernel
theorem dNet_stateTotal_1 : decode cNet_stateTotal 1 = .ok (.aload_n 0, 1) := by decide +kernel
theorem dNet_stateTotal_2 : decode cNet_stateTotal 2 = .ok (.getfield 37, 3) := by decide +kernel
theorem dNet_stateTotal_5 : decode cNet_stateTotal 5 = .ok (.ishl, 1) := by decide +kernel
theorem dNet_stateTotal_6 : decode cNet_stateTotal 6 = .ok (.ireturn, 1) := by decide +kernel
theorem dNet_choiceTotal_0 : decode cNet_choiceTotal 0 = .ok (.iconst 1, 1) := by decide +kernel
theorem dNet_choiceTotal_1 : decode cNet_choiceTotal 1 = .ok (.aload_n 0, 1) := by decide +kernel
theorem dNet_choiceTotal_2 : decode cNet_choiceTotal 2 = .ok (.getfield 34, 3) := by decide +kernel
theorem dNet_choiceTotal_5 : decode cNet_choiceTotal 5 = .ok (.ishl, 1) := by decide +kernel
theorem dNet_choiceTotal_6 : decode cNet_choiceTotal 6 = .ok (.ireturn, 1) := by decide +kernel
theorem dNet_wordTotal_0 : decode cNet_wordTotal 0 = .ok (.aload_n 0, 1) := by decide +kernel
theorem dNet_wordTotal_1 : decode cNet_wordTotal 1 = .ok (.invokevirtual 43, 3) := by decide +kernel
theorem dNet_wordTotal_4 : decode cNet_wordTotal 4 = .ok (.iconst 1, 1) := by decide +kernel
theorem dNet_wordTotal_5 : decode cNet_wordTotal 5 = .ok (.isub, 1) := by decide +kernel
theorem dNet_wordTotal_6 : decode cNet_wordTotal 6 = .ok (.invokestatic 47, 3) := by decide +kernel
theorem dNet_wordTotal_9 : decode cNet_wordTotal 9 = .ok (.iconst 1, 1) := by decide +kernel
theorem dNet_wordTotal_10 : decode cNet_wordTotal 10 = .ok (.iadd, 1) := by decide +kernel
theorem dNet_wordTotal_11 : decode cNet_wordTotal 11 = .ok (.ireturn, 1) := by decide +kernel
theorem dNet_isFullFor_0 : decode cNet_isFullFor 0 = .ok (.aload_n 0, 1) := by decide +kernel
theorem dNet_isFullFor_1 : decode cNet_isFullFor 1 = .ok (.getfield 30, 3) := by decide +kernel
theorem dNet_isFullFor_4 : decode cNet_isFullFor 4 = .ok (.bipush 60, 2) := by decide +kernel
theorem dNet_isFullFor_6 : decode cNet_isFullFor 6 = .ok (.if_icmp .ge 29, 3) := by decide +kernel
theorem dNet_isFullFor_9 : decode cNet_isFullFor 9 = .ok (.iload_n 1, 1) := by decide +kernel
theorem dNet_isFullFor_10 : decode cNet_isFullFor 10 = .ok (.ifCond .ne 11, 3) := by decide +kernel
theorem dNet_isFullFor_13 : decode cNet_isFullFor 13 = .ok (.aload_n 0, 1) := by decide +kernel
theorem dNet_isFullFor_14 : decode cNet_isFullFor 14 = .ok (.getfield 34, 3) := by decide +kernel
theorem dNet_isFullFor_17 : decode cNet_isFullFor 17 = .ok (.iconst 4, 1) := by decide +kernel
theorem dNet_isFullFor_18 : decode cNet_isFullFor 18 = .ok (.if_icmp .ge 17, 3) := by decide +kernel
theorem dNet_isFullFor_21 : decode cNet_isFullFor 21 = .ok (.iload_n 1, 1) := by decide +kernel
theorem dNet_isFullFor_22 : decode cNet_isFullFor 22 = .ok (.iconst 1, 1) := by decide +kernel
theorem dNet_isFullFor_23 : decode cNet_isFullFor 23 = .ok (.if_icmp .ne 16, 3) := by decide +kernel
theorem dNet_isFullFor_26 : decode cNet_isFullFor 26 = .ok (.aload_n 0, 1) := by decide +kernel
theorem dNet_isFullFor_27 : decode cNet_isFullFor 27 = .ok (.getfield 37, 3) := by decide +kernel
theorem dNet_isFullFor_30 : decode cNet_isFullFor 30 = .ok (.bipush 8, 2) := by decide +kernel
theorem dNet_isFullFor_32 : decode cNet_isFullFor 32 = .ok (.if_icmp .lt 7, 3) := by decide +kernel
theorem dNet_isFullFor_35 : decode cNet_isFullFor 35 = .ok (.iconst 1, 1) := by decide +kernel
theorem dNet_isFullFor_36 : decode cNet_isFullFor 36 = .ok (.goto 4, 3) := by decide +kernel
theorem dNet_isFullFor_39 : decode cNet_isFullFor 39 = .ok (.iconst 0, 1) := by decide +kernel
theorem dNet_isFullFor_40 : decode cNet_isFullFor 40 = .ok (.ireturn, 1) := by decide +kernel
theorem dNet_addGate_0 : decode cNet_addGate 0 = .ok (.aload_n 0, 1) := by decide +kernel
theorem dNet_addGate_1 : decode cNet_addGate 1 = .ok (.getfield 30, 3) := by decide +kernel
theorem dNet_addGate_4 : decode cNet_addGate 4 = .ok (.istore_n 2, 1) := by decide +kernel
theorem dNet_addGate_5 : decode cNet_addGate 5 = .ok (.aload_n 0, 1) := by decide +kernel
theorem dNet_addGate_6 : decode cNet_addGate 6 = .ok (.getfield 9, 3) := by decide +kernel
theorem dNet_addGate_9 : decode cNet_addGate 9 = .ok (.iload_n 2, 1) := by decide +kernel
theorem dNet_addGate_10 : decode cNet_addGate 10 = .ok (.iload_n 1, 1) := by decide +kernel
theorem dNet_addGate_11 : decode cNet_addGate 11 = .ok (.iastore, 1) := by decide +kernel
theorem dNet_addGate_12 : decode cNet_addGate 12 = .ok (.iload_n 1, 1) := by decide +kernel
theorem dNet_addGate_13 : decode cNet_addGate 13 = .ok (.ifCond .ne 26, 3) := by decide +kernel
theorem dNet_addGate_16 : decode cNet_addGate 16 = .ok (.aload_n 0, 1) := by decide +kernel
theorem dNet_addGate_17 : decode cNet_addGate 17 = .ok (.getfield 15, 3) := by decide +kernel
theorem dNet_addGate_20 : decode cNet_addGate 20 = .ok (.iload_n 2, 1) := by decide +kernel
theorem dNet_addGate_21 : decode cNet_addGate 21 = .ok (.aload_n 0, 1) := by decide +kernel
theorem dNet_addGate_22 : decode cNet_addGate 22 = .ok (.getfield 34, 3) := by decide +kernel
theorem dNet_addGate_25 : decode cNet_addGate 25 = .ok (.iastore, 1) := by decide +kernel
theorem dNet_addGate_26 : decode cNet_addGate 26 = .ok (.aload_n 0, 1) := by decide +kernel
theorem dNet_addGate_27 : decode cNet_addGate 27 = .ok (.dup, 1) := by decide +kernel
theorem dNet_addGate_28 : decode cNet_addGate 28 = .ok (.getfield 34, 3) := by decide +kernel
theorem dNet_addGate_31 : decode cNet_addGate 31 = .ok (.iconst 1, 1) := by decide +kernel
theorem dNet_addGate_32 : decode cNet_addGate 32 = .ok (.iadd, 1) := by decide +kernel
theorem dNet_addGate_33 : decode cNet_addGate 33 = .ok (.putfield 34, 3) := by decide +kernel
theorem dNet_addGate_36 : decode cNet_addGate 36 = .ok (.goto 40, 3) := by decide +kernel
theorem dNet_addGate_39 : decode cNet_addGate 39 = .ok (.iload_n 1, 1) := by decide +kernel
theorem dNet_addGate_40 : decode cNet_addGate 40 = .ok (.iconst 1, 1) := by decide +kernel
theorem dNet_addGate_41 : decode cNet_addGate 41 = .ok (.if_icmp .ne 35, 3) := by decide +kernel
theorem dNet_addGate_44 : decode cNet_addGate 44 = .ok (.aload_n 0, 1) := by decide +kernel
theorem dNet_addGate_45 : decode cNet_addGate 45 = .ok (.getfield 15, 3) := by decide +kernel
theorem dNet_addGate_48 : decode cNet_addGate 48 = .ok (.iload_n 2, 1) := by decide +kernel
theorem dNet_addGate_49 : decode cNet_addGate 49 = .ok (.aload_n 0, 1) := by decide +kernel
theorem dNet_addGate_50 : decode cNet_addGate 50 = .ok (.getfield 37, 3) := by decide +kernel
theorem dNet_addGate_53 : decode cNet_addGate 53 = .ok (.iastore, 1) := by decide +kernel
theorem dNet_addGate_54 : decode cNet_addGate 54 = .ok (.aload_n 0, 1) := by decide +kernel
theorem dNet_addGate_55 : decode cNet_addGate 55 = .ok (.getfield 24, 3) := by decide +kernel
theorem dNet_addGate_58 : decode cNet_addGate 58 = .ok (.aload_n 0, 1) := by decide +kernel
theorem dNet_addGate_59 : decode cNet_addGate 59 = .ok (.getfield 37, 3) := by decide +kernel
theorem dNet_addGate_62 : decode cNet_addGate 62 = .ok (.iload_n 2, 1) := by decide +kernel
theorem dNet_addGate_63 : decode cNet_addGate 63 = .ok (.iconst 2, 1) := by decide +kernel
theorem dNet_addGate_64 : decode cNet_addGate 64 = .ok (.imul, 1) := by decide +kernel
theorem dNet_addGate_65 : decode cNet_addGate 65 = .ok (.iastore, 1) := by decide +kernel
theorem dNet_addGate_66 : decode cNet_addGate 66 = .ok (.aload_n 0, 1) := by decide +kernel
theorem dNet_addGate_67 : decode cNet_addGate 67 = .ok (.dup, 1) := by decide +kernel
theorem dNet_addGate_68 : decode cNet_addGate 68 = .ok (.getfield 37, 3) := by decide +kernel
theorem dNet_addGate_71 : decode cNet_addGate 71 = .ok (.iconst 1, 1) := by decide +kernel
theorem dNet_addGate_72 : decode cNet_addGate 72 = .ok (.iadd, 1) := by decide +kernel
theorem dNet_addGate_73 : decode cNet_addGate 73 = .ok (.putfield 37, 3) := by decide +kernel
theorem dNet_addGate_76 : decode cNet_addGate 76 = .ok (.aload_n 0, 1) := by decide +kernel
theorem dNet_addGate_77 : decode cNet_addGate 77 = .ok (.getfield 18, 3) := by decide +kernel
theorem dNet_addGate_80 : decode cNet_addGate 80 = .ok (.iload_n 2, 1) := by decide +kernel
theorem dNet_addGate_81 : decode cNet_addGate 81 = .ok (.iconst 1, 1) := by decide +kernel
theorem dNet_addGate_82 : decode cNet_addGate 82 = .ok (.iadd, 1) := by decide +kernel
theorem dNet_addGate_83 : decode cNet_addGate 83 = .ok (.aload_n 0, 1) := by decide +kernel
theorem dNet_addGate_84 : decode cNet_addGate 84 = .ok (.getfield 18, 3) := by decide +kernel
theorem dNet_addGate_87 : decode cNet_addGate 87 = .ok (.iload_n 2, 1) := by decide +kernel
theorem dNet_addGate_88 : decode cNet_addGate 88 = .ok (.iaload, 1) := by decide +kernel
theorem dNet_addGate_89 : decode cNet_addGate 89 = .ok (.iastore, 1) := by decide +kernel
theorem dNet_addGate_90 : decode cNet_addGate 90 = .ok (.aload_n 0, 1) := by decide +kernel
theorem dNet_addGate_91 : decode cNet_addGate 91 = .ok (.dup, 1) := by decide +kernel
theorem dNet_addGate_92 : decode cNet_addGate 92 = .ok (.getfield 30, 3) := by decide +kernel
theorem dNet_addGate_95 : decode cNet_addGate 95 = .ok (.iconst 1, 1) := by decide +kernel
theorem dNet_addGate_96 : decode cNet_addGate 96 = .ok (.iadd, 1) := by decide +kernel
theorem dNet_addGate_97 : decode cNet_addGate 97 = .ok (.putfield 30, 3) := by decide +kernel
theorem dNet_addGate_100 : decode cNet_addGate 100 = .ok (.iload_n 2, 1) := by decide +kernel
theorem dNet_addGate_101 : decode cNet_addGate 101 = .ok (.ireturn, 1) := by decide +kernel
theorem dNet_feedsOf_0 : decode cNet_feedsOf 0 = .ok (.aload_n 0, 1) := by decide +kernel
theorem dNet_feedsOf_1 : decode cNet_feedsOf 1 = .ok (.getfield 18, 3) := by decide +kernel
theorem dNet_feedsOf_4 : decode cNet_feedsOf 4 = .ok (.iload_n 1, 1) := by decide +kernel
theorem dNet_feedsOf_5 : decode cNet_feedsOf 5 = .ok (.iconst 1, 1) := by decide +kernel
theorem dNet_feedsOf_6 : decode cNet_feedsOf 6 = .ok (.iadd, 1) := by decide +kernel
theorem dNet_feedsOf_7 : decode cNet_feedsOf 7 = .ok (.iaload, 1) := by decide +kernel
theorem dNet_feedsOf_8 : decode cNet_feedsOf 8 = .ok (.aload_n 0, 1) := by decide +kernel
theorem dNet_feedsOf_9 : decode cNet_feedsOf 9 = .ok (.getfield 18, 3) := by decide +kernel
theorem dNet_feedsOf_12 : decode cNet_feedsOf 12 = .ok (.iload_n 1, 1) := by decide +kernel
theorem dNet_feedsOf_13 : decode cNet_feedsOf 13 = .ok (.iaload, 1) := by decide +kernel
theorem dNet_feedsOf_14 : decode cNet_feedsOf 14 = .ok (.isub, 1) := by decide +kernel
theorem dNet_feedsOf_15 : decode cNet_feedsOf 15 = .ok (.ireturn, 1) := by decide +kernel
theorem dNet_takesFeed_0 : decode cNet_takesFeed 0 = .ok (.aload_n 0, 1) := by decide +kernel
theorem dNet_takesFeed_1 : decode cNet_takesFeed 1 = .ok (.getfield 9, 3) := by decide +kernel
theorem dNet_takesFeed_4 : decode cNet_takesFeed 4 = .ok (.iload_n 1, 1) := by decide +kernel
theorem dNet_takesFeed_5 : decode cNet_takesFeed 5 = .ok (.iaload, 1) := by decide +kernel
theorem dNet_takesFeed_6 : decode cNet_takesFeed 6 = .ok (.iconst 1, 1) := by decide +kernel
theorem dNet_takesFeed_7 : decode cNet_takesFeed 7 = .ok (.if_icmp .ne 17, 3) := by decide +kernel
theorem dNet_takesFeed_10 : decode cNet_takesFeed 10 = .ok (.aload_n 0, 1) := by decide +kernel
theorem dNet_takesFeed_11 : decode cNet_takesFeed 11 = .ok (.iload_n 1, 1) := by decide +kernel
theorem dNet_takesFeed_12 : decode cNet_takesFeed 12 = .ok (.invokevirtual 51, 3) := by decide +kernel
theorem dNet_takesFeed_15 : decode cNet_takesFeed 15 = .ok (.ifCond .ne 7, 3) := by decide +kernel
theorem dNet_takesFeed_18 : decode cNet_takesFeed 18 = .ok (.iconst 1, 1) := by decide +kernel
theorem dNet_takesFeed_19 : decode cNet_takesFeed 19 = .ok (.goto 4, 3) := by decide +kernel
theorem dNet_takesFeed_22 : decode cNet_takesFeed 22 = .ok (.iconst 0, 1) := by decide +kernel
theorem dNet_takesFeed_23 : decode cNet_takesFeed 23 = .ok (.ireturn, 1) := by decide +kernel
theorem dNet_takesFeed_24 : decode cNet_takesFeed 24 = .ok (.aload_n 0, 1) := by decide +kernel
theorem dNet_takesFeed_25 : decode cNet_takesFeed 25 = .ok (.getfield 9, 3) := by decide +kernel
theorem dNet_takesFeed_28 : decode cNet_takesFeed 28 = .ok (.iload_n 1, 1) := by decide +kernel
theorem dNet_takesFeed_29 : decode cNet_takesFeed 29 = .ok (.iaload, 1) := by decide +kernel
theorem dNet_takesFeed_30 : decode cNet_takesFeed 30 = .ok (.ifCond .eq 7, 3) := by decide +kernel
theorem dNet_takesFeed_33 : decode cNet_takesFeed 33 = .ok (.iconst 1, 1) := by decide +kernel
theorem dNet_takesFeed_34 : decode cNet_takesFeed 34 = .ok (.goto 4, 3) := by decide +kernel
theorem dNet_takesFeed_37 : decode cNet_takesFeed 37 = .ok (.iconst 0, 1) := by decide +kernel
theorem dNet_takesFeed_38 : decode cNet_takesFeed 38 = .ok (.ireturn, 1) := by decide +kernel
theorem dNet_addFeed_0 : decode cNet_addFeed 0 = .ok (.iload_n 2, 1) := by decide +kernel
theorem dNet_addFeed_1 : decode cNet_addFeed 1 = .ok (.iconst 2, 1) := by decide +kernel
theorem dNet_addFeed_2 : decode cNet_addFeed 2 = .ok (.imul, 1) := by decide +kernel
theorem dNet_addFeed_3 : decode cNet_addFeed 3 = .ok (.iload_n 3, 1) := by decide +kernel
theorem dNet_addFeed_4 : decode cNet_addFeed 4 = .ok (.ifCond .eq 7, 3) := by decide +kernel
theorem dNet_addFeed_7 : decode cNet_addFeed 7 = .ok (.iconst 1, 1) := by decide +kernel
theorem dNet_addFeed_8 : decode cNet_addFeed 8 = .ok (.goto 4, 3) := by decide +kernel
theorem dNet_addFeed_11 : decode cNet_addFeed 11 = .ok (.iconst 0, 1) := by decide +kernel
theorem dNet_addFeed_12 : decode cNet_addFeed 12 = .ok (.iadd, 1) := by decide +kernel
theorem dNet_addFeed_13 : decode cNet_addFeed 13 = .ok (.istore 4, 2) := by decide +kernel
theorem dNet_addFeed_15 : decode cNet_addFeed 15 = .ok (.aload_n 0, 1) := by decide +kernel
theorem dNet_addFeed_16 : decode cNet_addFeed 16 = .ok (.getfield 18, 3) := by decide +kernel
theorem dNet_addFeed_19 : decode cNet_addFeed 19 = .ok (.iload_n 1, 1) := by decide +kernel
theorem dNet_addFeed_20 : decode cNet_addFeed 20 = .ok (.iconst 1, 1) := by decide +kernel
theorem dNet_addFeed_21 : decode cNet_addFeed 21 = .ok (.iadd, 1) := by decide +kernel
theorem dNet_addFeed_22 : decode cNet_addFeed 22 = .ok (.iaload, 1) := by decide +kernel
theorem dNet_addFeed_23 : decode cNet_addFeed 23 = .ok (.istore 5, 2) := by decide +kernel
theorem dNet_addFeed_25 : decode cNet_addFeed 25 = .ok (.aload_n 0, 1) := by decide +kernel
theorem dNet_addFeed_26 : decode cNet_addFeed 26 = .ok (.getfield 21, 3) := by decide +kernel
theorem dNet_addFeed_29 : decode cNet_addFeed 29 = .ok (.iload 5, 2) := by decide +kernel
theorem dNet_addFeed_31 : decode cNet_addFeed 31 = .ok (.aload_n 0, 1) := by decide +kernel
theorem dNet_addFeed_32 : decode cNet_addFeed 32 = .ok (.getfield 21, 3) := by decide +kernel
theorem dNet_addFeed_35 : decode cNet_addFeed 35 = .ok (.iload 5, 2) := by decide +kernel
theorem dNet_addFeed_37 : decode cNet_addFeed 37 = .ok (.iconst 1, 1) := by decide +kernel
theorem dNet_addFeed_38 : decode cNet_addFeed 38 = .ok (.iadd, 1) := by decide +kernel
theorem dNet_addFeed_39 : decode cNet_addFeed 39 = .ok (.aload_n 0, 1) := by decide +kernel
theorem dNet_addFeed_40 : decode cNet_addFeed 40 = .ok (.invokevirtual 54, 3) := by decide +kernel
theorem dNet_addFeed_43 : decode cNet_addFeed 43 = .ok (.iload 5, 2) := by decide +kernel
theorem dNet_addFeed_45 : decode cNet_addFeed 45 = .ok (.isub, 1) := by decide +kernel
theorem dNet_addFeed_46 : decode cNet_addFeed 46 = .ok (.invokestatic 57, 3) := by decide +kernel
theorem dNet_addFeed_49 : decode cNet_addFeed 49 = .ok (.aload_n 0, 1) := by decide +kernel
theorem dNet_addFeed_50 : decode cNet_addFeed 50 = .ok (.getfield 21, 3) := by decide +kernel
theorem dNet_addFeed_53 : decode cNet_addFeed 53 = .ok (.iload 5, 2) := by decide +kernel
theorem dNet_addFeed_55 : decode cNet_addFeed 55 = .ok (.iload 4, 2) := by decide +kernel
theorem dNet_addFeed_57 : decode cNet_addFeed 57 = .ok (.iastore, 1) := by decide +kernel
theorem dNet_addFeed_58 : decode cNet_addFeed 58 = .ok (.iload_n 1, 1) := by decide +kernel
theorem dNet_addFeed_59 : decode cNet_addFeed 59 = .ok (.iconst 1, 1) := by decide +kernel
theorem dNet_addFeed_60 : decode cNet_addFeed 60 = .ok (.iadd, 1) := by decide +kernel
theorem dNet_addFeed_61 : decode cNet_addFeed 61 = .ok (.istore 6, 2) := by decide +kernel
theorem dNet_addFeed_63 : decode cNet_addFeed 63 = .ok (.iload 6, 2) := by decide +kernel
theorem dNet_addFeed_65 : decode cNet_addFeed 65 = .ok (.aload_n 0, 1) := by decide +kernel
theorem dNet_addFeed_66 : decode cNet_addFeed 66 = .ok (.getfield 30, 3) := by decide +kernel
theorem dNet_addFeed_69 : decode cNet_addFeed 69 = .ok (.if_icmp .gt 20, 3) := by decide +kernel
theorem dNet_addFeed_72 : decode cNet_addFeed 72 = .ok (.aload_n 0, 1) := by decide +kernel
theorem dNet_addFeed_73 : decode cNet_addFeed 73 = .ok (.getfield 18, 3) := by decide +kernel
theorem dNet_addFeed_76 : decode cNet_addFeed 76 = .ok (.iload 6, 2) := by decide +kernel
theorem dNet_addFeed_78 : decode cNet_addFeed 78 = .ok (.dup2, 1) := by decide +kernel
theorem dNet_addFeed_79 : decode cNet_addFeed 79 = .ok (.iaload, 1) := by decide +kernel
theorem dNet_addFeed_80 : decode cNet_addFeed 80 = .ok (.iconst 1, 1) := by decide +kernel
theorem dNet_addFeed_81 : decode cNet_addFeed 81 = .ok (.iadd, 1) := by decide +kernel
theorem dNet_addFeed_82 : decode cNet_addFeed 82 = .ok (.iastore, 1) := by decide +kernel
theorem dNet_addFeed_83 : decode cNet_addFeed 83 = .ok (.iinc 6 1, 3) := by decide +kernel
theorem dNet_addFeed_86 : decode cNet_addFeed 86 = .ok (.goto (-23), 3) := by decide +kernel
theorem dNet_addFeed_89 : decode cNet_addFeed 89 = .ok (.aload_n 0, 1) := by decide +kernel
theorem dNet_addFeed_90 : decode cNet_addFeed 90 = .ok (.getfield 9, 3) := by decide +kernel
theorem dNet_addFeed_93 : decode cNet_addFeed 93 = .ok (.iload_n 1, 1) := by decide +kernel
theorem dNet_addFeed_94 : decode cNet_addFeed 94 = .ok (.iaload, 1) := by decide +kernel
theorem dNet_addFeed_95 : decode cNet_addFeed 95 = .ok (.iconst 1, 1) := by decide +kernel
theorem dNet_addFeed_96 : decode cNet_addFeed 96 = .ok (.if_icmp .ne 16, 3) := by decide +kernel
theorem dNet_addFeed_99 : decode cNet_addFeed 99 = .ok (.aload_n 0, 1) := by decide +kernel
theorem dNet_addFeed_100 : decode cNet_addFeed 100 = .ok (.getfield 24, 3) := by decide +kernel
theorem dNet_addFeed_103 : decode cNet_addFeed 103 = .ok (.aload_n 0, 1) := by decide +kernel
theorem dNet_addFeed_104 : decode cNet_addFeed 104 = .ok (.getfield 15, 3) := by decide +kernel
theorem dNet_addFeed_107 : decode cNet_addFeed 107 = .ok (.iload_n 1, 1) := by decide +kernel
theorem dNet_addFeed_108 : decode cNet_addFeed 108 = .ok (.iaload, 1) := by decide +kernel
theorem dNet_addFeed_109 : decode cNet_addFeed 109 = .ok (.iload 4, 2) := by decide +kernel
theorem dNet_addFeed_111 : decode cNet_addFeed 111 = .ok (.iastore, 1) := by decide +kernel
theorem dNet_addFeed_112 : decode cNet_addFeed 112 = .ok (.aload_n 0, 1) := by decide +kernel
theorem dNet_addFeed_113 : decode cNet_addFeed 113 = .ok (.iload_n 1, 1) := by decide +kernel
theorem dNet_addFeed_114 : decode cNet_addFeed 114 = .ok (.invokevirtual 51, 3) := by decide +kernel
theorem dNet_addFeed_117 : decode cNet_addFeed 117 = .ok (.ireturn, 1) := by decide +kernel
theorem dNet_addOutput_0 : decode cNet_addOutput 0 = .ok (.aload_n 0, 1) := by decide +kernel
theorem dNet_addOutput_1 : decode cNet_addOutput 1 = .ok (.getfield 27, 3) := by decide +kernel
theorem dNet_addOutput_4 : decode cNet_addOutput 4 = .ok (.aload_n 0, 1) := by decide +kernel
theorem dNet_addOutput_5 : decode cNet_addOutput 5 = .ok (.getfield 40, 3) := by decide +kernel
theorem dNet_addOutput_8 : decode cNet_addOutput 8 = .ok (.iload_n 1, 1) := by decide +kernel
theorem dNet_addOutput_9 : decode cNet_addOutput 9 = .ok (.iastore, 1) := by decide +kernel
theorem dNet_addOutput_10 : decode cNet_addOutput 10 = .ok (.aload_n 0, 1) := by decide +kernel
theorem dNet_addOutput_11 : decode cNet_addOutput 11 = .ok (.dup, 1) := by decide +kernel
theorem dNet_addOutput_12 : decode cNet_addOutput 12 = .ok (.getfield 40, 3) := by decide +kernel
theorem dNet_addOutput_15 : decode cNet_addOutput 15 = .ok (.iconst 1, 1) := by decide +kernel
theorem dNet_addOutput_16 : decode cNet_addOutput 16 = .ok (.iadd, 1) := by decide +kernel
theorem dNet_addOutput_17 : decode cNet_addOutput 17 = .ok (.putfield 40, 3) := by decide +kernel
theorem dNet_addOutput_20 : decode cNet_addOutput 20 = .ok (.aload_n 0, 1) := by decide +kernel
theorem dNet_addOutput_21 : decode cNet_addOutput 21 = .ok (.getfield 40, 3) := by decide +kernel
theorem dNet_addOutput_24 : decode cNet_addOutput 24 = .ok (.ireturn, 1) := by decide +kernel
abbrev cPar_init : ByteArray := prog_3_method_1_code
def yPar_init : MethodName := ⟨"StateExplorer$Partition", "<init>", "()V"⟩
def wsPar_init : List Cond := Cond.code yPar_init cPar_init 1 (none : Option Jvm.ClassFile.FieldType) :: tb
theorem tcPar_init : Cond.code yPar_init cPar_init 1 (none : Option Jvm.ClassFile.FieldType) ∈ tb := tw_176
abbrev cPar_split : ByteArray := prog_3_method_2_code
def yPar_split : MethodName := ⟨"StateExplorer$Partition", "split", "(LStateExplorer$Net;LStateExplorer$Table;LStateExplorer$Walk;)V"⟩
def wsPar_split : List Cond := Cond.code yPar_split cPar_split 7 (none : Option Jvm.ClassFile.FieldType) :: tb
theorem tcPar_split : Cond.code yPar_split cPar_split 7 (none : Option Jvm.ClassFile.FieldType) ∈ tb := tw_318
abbrev cPar_splitOnce : ByteArray := prog_3_method_3_code
def yPar_splitOnce : MethodName := ⟨"StateExplorer$Partition", "splitOnce", "(LStateExplorer$Net;LStateExplorer$Table;LStateExplorer$Walk;)I"⟩
def wsPar_splitOnce : List Cond := Cond.code yPar_splitOnce cPar_splitOnce 7 (some .int) :: tb
theorem tcPar_splitOnce : Cond.code yPar_splitOnce cPar_splitOnce 7 (some .int) ∈ tb := tw_323
abbrev cPar_place : ByteArray := prog_3_method_4_code
def yPar_place : MethodName := ⟨"StateExplorer$Partition", "place", "(LStateExplorer$Net;LStateExplorer$Table;I)I"⟩
def wsPar_place : List Cond := Cond.code yPar_place cPar_place 7 (some .int) :: tb
theorem tcPar_place : Cond.code yPar_place cPar_place 7 (some .int) ∈ tb := tw_327
abbrev cPar_looksAlike : ByteArray := prog_3_method_5_code
def yPar_looksAlike : MethodName := ⟨"StateExplorer$Partition", "looksAlike", "(LStateExplorer$Net;LStateExplorer$Table;II)Z"⟩
def wsPar_looksAlike : List Cond := Cond.code yPar_looksAlike cPar_looksAlike 8 (some .boolean) :: tb
theorem tcPar_looksAlike : Cond.code yPar_looksAlike cPar_looksAlike 8 (some .boolean) ∈ tb := tw_330
abbrev cPar_goesAlike : ByteArray := prog_3_method_6_code
def yPar_goesAlike : MethodName := ⟨"StateExplorer$Partition", "goesAlike", "(LStateExplorer$Net;LStateExplorer$Table;II)Z"⟩
def wsPar_goesAlike : List Cond := Cond.code yPar_goesAlike cPar_goesAlike 7 (some .boolean) :: tb
theorem tcPar_goesAlike : Cond.code yPar_goesAlike cPar_goesAlike 7 (some .boolean) ∈ tb := tw_339
abbrev cPar_nameOfNext : ByteArray := prog_3_method_7_code
def yPar_nameOfNext : MethodName := ⟨"StateExplorer$Partition", "nameOfNext", "(LStateExplorer$Table;II)I"⟩
def wsPar_nameOfNext : List Cond := Cond.code yPar_nameOfNext cPar_nameOfNext 5 (some .int) :: tb
theorem tcPar_nameOfNext : Cond.code yPar_nameOfNext cPar_nameOfNext 5 (some .int) ∈ tb := tw_344
theorem dPar_init_0 : decode cPar_init 0 = .ok (.aload_n 0, 1) := by decide +kernel
theorem dPar_init_1 : decode cPar_init 1 = .ok (.invokespecial 3, 3) := by decide +kernel
theorem dPar_init_4 : decode cPar_init 4 = .ok (.aload_n 0, 1) := by decide +kernel
theorem dPar_init_5 : decode cPar_init 5 = .ok (.sipush 256, 3) := by decide +kernel
theorem dPar_init_8 : decode cPar_init 8 = .ok (.newarray .int, 2) := by decide +kernel
theorem dPar_init_10 : decode cPar_init 10 = .ok (.putfield 9, 3) := by decide +kernel
theorem dPar_init_13 : decode cPar_init 13 = .ok (.aload_n 0, 1) := by decide +kernel
theorem dPar_init_14 : decode cPar_init 14 = .ok (.sipush 256, 3) := by decide +kernel
theorem dPar_init_17 : decode cPar_init 17 = .ok (.newarray .int, 2) := by decide +kernel
theorem dPar_init_19 : decode cPar_init 19 = .ok (.putfield 15, 3) := by decide +kernel
theorem dPar_init_22 : decode cPar_init 22 = .ok (.aload_n 0, 1) := by decide +kernel
theorem dPar_init_23 : decode cPar_init 23 = .ok (.sipush 256, 3) := by decide +kernel
theorem dPar_init_26 : decode cPar_init 26 = .ok (.newarray .int, 2) := by decide +kernel
theorem dPar_init_28 : decode cPar_init 28 = .ok (.putfield 18, 3) := by decide +kernel
theorem dPar_init_31 : decode cPar_init 31 = .ok (.aload_n 0, 1) := by decide +kernel
theorem dPar_init_32 : decode cPar_init 32 = .ok (.iconst 0, 1) := by decide +kernel
theorem dPar_init_33 : decode cPar_init 33 = .ok (.putfield 21, 3) := by decide +kernel
theorem dPar_init_36 : decode cPar_init 36 = .ok (.return_, 1) := by decide +kernel
theorem dPar_split_0 : decode cPar_split 0 = .ok (.aload_n 1, 1) := by decide +kernel
theorem dPar_split_1 : decode cPar_split 1 = .ok (.invokevirtual 25, 3) := by decide +kernel
theorem dPar_split_4 : decode cPar_split 4 = .ok (.istore 4, 2) := by decide +kernel
theorem dPar_split_6 : decode cPar_split 6 = .ok (.iconst 0, 1) := by decide +kernel
theorem dPar_split_7 : decode cPar_split 7 = .ok (.istore 5, 2) := by decide +kernel
theorem dPar_split_9 : decode cPar_split 9 = .ok (.iload 5, 2) := by decide +kernel
theorem dPar_split_11 : decode cPar_split 11 = .ok (.iload 4, 2) := by decide +kernel
theorem dPar_split_13 : decode cPar_split 13 = .ok (.if_icmp .ge 17, 3) := by decide +kernel
theorem dPar_split_16 : decode cPar_split 16 = .ok (.aload_n 0, 1) := by decide +kernel
theorem dPar_split_17 : decode cPar_split 17 = .ok (.getfield 9, 3) := by decide +kernel
theorem dPar_split_20 : decode cPar_split 20 = .ok (.iload 5, 2) := by decide +kernel
theorem dPar_split_22 : decode cPar_split 22 = .ok (.iconst 0, 1) := by decide +kernel
theorem dPar_split_23 : decode cPar_split 23 = .ok (.iastore, 1) := by decide +kernel
theorem dPar_split_24 : decode cPar_split 24 = .ok (.iinc 5 1, 3) := by decide +kernel
theorem dPar_split_27 : decode cPar_split 27 = .ok (.goto (-18), 3) := by decide +kernel
theorem dPar_split_30 : decode cPar_split 30 = .ok (.aload_n 0, 1) := by decide +kernel
theorem dPar_split_31 : decode cPar_split 31 = .ok (.iconst 1, 1) := by decide +kernel
theorem dPar_split_32 : decode cPar_split 32 = .ok (.putfield 21, 3) := by decide +kernel
theorem dPar_split_35 : decode cPar_split 35 = .ok (.iconst 0, 1) := by decide +kernel
theorem dPar_split_36 : decode cPar_split 36 = .ok (.istore 5, 2) := by decide +kernel
theorem dPar_split_38 : decode cPar_split 38 = .ok (.iload 5, 2) := by decide +kernel
theorem dPar_split_40 : decode cPar_split 40 = .ok (.sipush 256, 3) := by decide +kernel
theorem dPar_split_43 : decode cPar_split 43 = .ok (.if_icmp .ge 36, 3) := by decide +kernel
theorem dPar_split_46 : decode cPar_split 46 = .ok (.aload_n 0, 1) := by decide +kernel
theorem dPar_split_47 : decode cPar_split 47 = .ok (.getfield 21, 3) := by decide +kernel
theorem dPar_split_50 : decode cPar_split 50 = .ok (.istore 6, 2) := by decide +kernel
theorem dPar_split_52 : decode cPar_split 52 = .ok (.aload_n 0, 1) := by decide +kernel
theorem dPar_split_53 : decode cPar_split 53 = .ok (.aload_n 0, 1) := by decide +kernel
theorem dPar_split_54 : decode cPar_split 54 = .ok (.aload_n 1, 1) := by decide +kernel
theorem dPar_split_55 : decode cPar_split 55 = .ok (.aload_n 2, 1) := by decide +kernel
theorem dPar_split_56 : decode cPar_split 56 = .ok (.aload_n 3, 1) := by decide +kernel
theorem dPar_split_57 : decode cPar_split 57 = .ok (.invokevirtual 31, 3) := by decide +kernel
theorem dPar_split_60 : decode cPar_split 60 = .ok (.putfield 21, 3) := by decide +kernel
theorem dPar_split_63 : decode cPar_split 63 = .ok (.aload_n 0, 1) := by decide +kernel
theorem dPar_split_64 : decode cPar_split 64 = .ok (.getfield 21, 3) := by decide +kernel
theorem dPar_split_67 : decode cPar_split 67 = .ok (.iload 6, 2) := by decide +kernel
theorem dPar_split_69 : decode cPar_split 69 = .ok (.if_icmp .ne 4, 3) := by decide +kernel
theorem dPar_split_72 : decode cPar_split 72 = .ok (.return_, 1) := by decide +kernel
theorem dPar_split_73 : decode cPar_split 73 = .ok (.iinc 5 1, 3) := by decide +kernel
theorem dPar_split_76 : decode cPar_split 76 = .ok (.goto (-38), 3) := by decide +kernel
theorem dPar_split_79 : decode cPar_split 79 = .ok (.return_, 1) := by decide +kernel
theorem dPar_splitOnce_0 : decode cPar_splitOnce 0 = .ok (.aload_n 1, 1) := by decide +kernel
theorem dPar_splitOnce_1 : decode cPar_splitOnce 1 = .ok (.invokevirtual 25, 3) := by decide +kernel
theorem dPar_splitOnce_4 : decode cPar_splitOnce 4 = .ok (.istore 4, 2) := by decide +kernel
theorem dPar_splitOnce_6 : decode cPar_splitOnce 6 = .ok (.iconst 0, 1) := by decide +kernel
theorem dPar_splitOnce_7 : decode cPar_splitOnce 7 = .ok (.istore 5, 2) := by decide +kernel
theorem dPar_splitOnce_9 : decode cPar_splitOnce 9 = .ok (.iconst 0, 1) := by decide +kernel
theorem dPar_splitOnce_10 : decode cPar_splitOnce 10 = .ok (.istore 6, 2) := by decide +kernel
theorem dPar_splitOnce_12 : decode cPar_splitOnce 12 = .ok (.iload 6, 2) := by decide +kernel
theorem dPar_splitOnce_14 : decode cPar_splitOnce 14 = .ok (.iload 4, 2) := by decide +kernel
theorem dPar_splitOnce_16 : decode cPar_splitOnce 16 = .ok (.if_icmp .ge 50, 3) := by decide +kernel
theorem dPar_splitOnce_19 : decode cPar_splitOnce 19 = .ok (.aload_n 3, 1) := by decide +kernel
theorem dPar_splitOnce_20 : decode cPar_splitOnce 20 = .ok (.getfield 35, 3) := by decide +kernel
theorem dPar_splitOnce_23 : decode cPar_splitOnce 23 = .ok (.iload 6, 2) := by decide +kernel
theorem dPar_splitOnce_25 : decode cPar_splitOnce 25 = .ok (.iaload, 1) := by decide +kernel
theorem dPar_splitOnce_26 : decode cPar_splitOnce 26 = .ok (.iconst (-1), 1) := by decide +kernel
theorem dPar_splitOnce_27 : decode cPar_splitOnce 27 = .ok (.if_icmp .eq 33, 3) := by decide +kernel
theorem dPar_splitOnce_30 : decode cPar_splitOnce 30 = .ok (.aload_n 0, 1) := by decide +kernel
theorem dPar_splitOnce_31 : decode cPar_splitOnce 31 = .ok (.getfield 15, 3) := by decide +kernel
theorem dPar_splitOnce_34 : decode cPar_splitOnce 34 = .ok (.iload 6, 2) := by decide +kernel
theorem dPar_splitOnce_36 : decode cPar_splitOnce 36 = .ok (.aload_n 0, 1) := by decide +kernel
theorem dPar_splitOnce_37 : decode cPar_splitOnce 37 = .ok (.aload_n 1, 1) := by decide +kernel
theorem dPar_splitOnce_38 : decode cPar_splitOnce 38 = .ok (.aload_n 2, 1) := by decide +kernel
theorem dPar_splitOnce_39 : decode cPar_splitOnce 39 = .ok (.iload 6, 2) := by decide +kernel
theorem dPar_splitOnce_41 : decode cPar_splitOnce 41 = .ok (.invokevirtual 40, 3) := by decide +kernel
theorem dPar_splitOnce_44 : decode cPar_splitOnce 44 = .ok (.iastore, 1) := by decide +kernel
theorem dPar_splitOnce_45 : decode cPar_splitOnce 45 = .ok (.aload_n 0, 1) := by decide +kernel
theorem dPar_splitOnce_46 : decode cPar_splitOnce 46 = .ok (.getfield 15, 3) := by decide +kernel
theorem dPar_splitOnce_49 : decode cPar_splitOnce 49 = .ok (.iload 6, 2) := by decide +kernel
theorem dPar_splitOnce_51 : decode cPar_splitOnce 51 = .ok (.iaload, 1) := by decide +kernel
theorem dPar_splitOnce_52 : decode cPar_splitOnce 52 = .ok (.iload 6, 2) := by decide +kernel
theorem dPar_splitOnce_54 : decode cPar_splitOnce 54 = .ok (.if_icmp .ne 6, 3) := by decide +kernel
theorem dPar_splitOnce_57 : decode cPar_splitOnce 57 = .ok (.iinc 5 1, 3) := by decide +kernel
theorem dPar_splitOnce_60 : decode cPar_splitOnce 60 = .ok (.iinc 6 1, 3) := by decide +kernel
theorem dPar_splitOnce_63 : decode cPar_splitOnce 63 = .ok (.goto (-51), 3) := by decide +kernel
theorem dPar_splitOnce_66 : decode cPar_splitOnce 66 = .ok (.aload_n 0, 1) := by decide +kernel
theorem dPar_splitOnce_67 : decode cPar_splitOnce 67 = .ok (.getfield 15, 3) := by decide +kernel
theorem dPar_splitOnce_70 : decode cPar_splitOnce 70 = .ok (.iconst 0, 1) := by decide +kernel
theorem dPar_splitOnce_71 : decode cPar_splitOnce 71 = .ok (.aload_n 0, 1) := by decide +kernel
theorem dPar_splitOnce_72 : decode cPar_splitOnce 72 = .ok (.getfield 9, 3) := by decide +kernel
theorem dPar_splitOnce_75 : decode cPar_splitOnce 75 = .ok (.iconst 0, 1) := by decide +kernel
theorem dPar_splitOnce_76 : decode cPar_splitOnce 76 = .ok (.iload 4, 2) := by decide +kernel
theorem dPar_splitOnce_78 : decode cPar_splitOnce 78 = .ok (.invokestatic 44, 3) := by decide +kernel
theorem dPar_splitOnce_81 : decode cPar_splitOnce 81 = .ok (.iload 5, 2) := by decide +kernel
theorem dPar_splitOnce_83 : decode cPar_splitOnce 83 = .ok (.ireturn, 1) := by decide +kernel
theorem dPar_place_0 : decode cPar_place 0 = .ok (.aload_n 0, 1) := by decide +kernel
theorem dPar_place_1 : decode cPar_place 1 = .ok (.getfield 9, 3) := by decide +kernel
theorem dPar_place_4 : decode cPar_place 4 = .ok (.iload_n 3, 1) := by decide +kernel
theorem dPar_place_5 : decode cPar_place 5 = .ok (.iaload, 1) := by decide +kernel
theorem dPar_place_6 : decode cPar_place 6 = .ok (.istore 4, 2) := by decide +kernel
theorem dPar_place_8 : decode cPar_place 8 = .ok (.iload 4, 2) := by decide +kernel
theorem dPar_place_10 : decode cPar_place 10 = .ok (.iload_n 3, 1) := by decide +kernel
theorem dPar_place_11 : decode cPar_place 11 = .ok (.if_icmp .ne 12, 3) := by decide +kernel
theorem dPar_place_14 : decode cPar_place 14 = .ok (.aload_n 0, 1) := by decide +kernel
theorem dPar_place_15 : decode cPar_place 15 = .ok (.getfield 18, 3) := by decide +kernel
theorem dPar_place_18 : decode cPar_place 18 = .ok (.iload_n 3, 1) := by decide +kernel
theorem dPar_place_19 : decode cPar_place 19 = .ok (.iconst (-1), 1) := by decide +kernel
theorem dPar_place_20 : decode cPar_place 20 = .ok (.iastore, 1) := by decide +kernel
theorem dPar_place_21 : decode cPar_place 21 = .ok (.iload_n 3, 1) := by decide +kernel
theorem dPar_place_22 : decode cPar_place 22 = .ok (.ireturn, 1) := by decide +kernel
theorem dPar_place_23 : decode cPar_place 23 = .ok (.iload 4, 2) := by decide +kernel
theorem dPar_place_25 : decode cPar_place 25 = .ok (.istore 5, 2) := by decide +kernel
theorem dPar_place_27 : decode cPar_place 27 = .ok (.iconst 0, 1) := by decide +kernel
theorem dPar_place_28 : decode cPar_place 28 = .ok (.istore 6, 2) := by decide +kernel
theorem dPar_place_30 : decode cPar_place 30 = .ok (.iload 5, 2) := by decide +kernel
theorem dPar_place_32 : decode cPar_place 32 = .ok (.iconst (-1), 1) := by decide +kernel
theorem dPar_place_33 : decode cPar_place 33 = .ok (.if_icmp .eq 56, 3) := by decide +kernel
theorem dPar_place_36 : decode cPar_place 36 = .ok (.iload 6, 2) := by decide +kernel
theorem dPar_place_38 : decode cPar_place 38 = .ok (.sipush 256, 3) := by decide +kernel
theorem dPar_place_41 : decode cPar_place 41 = .ok (.if_icmp .ge 48, 3) := by decide +kernel
theorem dPar_place_44 : decode cPar_place 44 = .ok (.aload_n 1, 1) := by decide +kernel
theorem dPar_place_45 : decode cPar_place 45 = .ok (.aload_n 2, 1) := by decide +kernel
theorem dPar_place_46 : decode cPar_place 46 = .ok (.iload 5, 2) := by decide +kernel
theorem dPar_place_48 : decode cPar_place 48 = .ok (.iload_n 3, 1) := by decide +kernel
theorem dPar_place_49 : decode cPar_place 49 = .ok (.invokestatic 50, 3) := by decide +kernel
theorem dPar_place_52 : decode cPar_place 52 = .ok (.ifCond .eq 18, 3) := by decide +kernel
theorem dPar_place_55 : decode cPar_place 55 = .ok (.aload_n 0, 1) := by decide +kernel
theorem dPar_place_56 : decode cPar_place 56 = .ok (.aload_n 1, 1) := by decide +kernel
theorem dPar_place_57 : decode cPar_place 57 = .ok (.aload_n 2, 1) := by decide +kernel
theorem dPar_place_58 : decode cPar_place 58 = .ok (.iload 5, 2) := by decide +kernel
theorem dPar_place_60 : decode cPar_place 60 = .ok (.iload_n 3, 1) := by decide +kernel
theorem dPar_place_61 : decode cPar_place 61 = .ok (.invokevirtual 54, 3) := by decide +kernel
theorem dPar_place_64 : decode cPar_place 64 = .ok (.ifCond .eq 6, 3) := by decide +kernel
theorem dPar_place_67 : decode cPar_place 67 = .ok (.iload 5, 2) := by decide +kernel
theorem dPar_place_69 : decode cPar_place 69 = .ok (.ireturn, 1) := by decide +kernel
theorem dPar_place_70 : decode cPar_place 70 = .ok (.iload 5, 2) := by decide +kernel
theorem dPar_place_72 : decode cPar_place 72 = .ok (.istore 4, 2) := by decide +kernel
theorem dPar_place_74 : decode cPar_place 74 = .ok (.aload_n 0, 1) := by decide +kernel
theorem dPar_place_75 : decode cPar_place 75 = .ok (.getfield 18, 3) := by decide +kernel
theorem dPar_place_78 : decode cPar_place 78 = .ok (.iload 5, 2) := by decide +kernel
theorem dPar_place_80 : decode cPar_place 80 = .ok (.iaload, 1) := by decide +kernel
theorem dPar_place_81 : decode cPar_place 81 = .ok (.istore 5, 2) := by decide +kernel
theorem dPar_place_83 : decode cPar_place 83 = .ok (.iinc 6 1, 3) := by decide +kernel
theorem dPar_place_86 : decode cPar_place 86 = .ok (.goto (-56), 3) := by decide +kernel
theorem dPar_place_89 : decode cPar_place 89 = .ok (.aload_n 0, 1) := by decide +kernel
theorem dPar_place_90 : decode cPar_place 90 = .ok (.getfield 18, 3) := by decide +kernel
theorem dPar_place_93 : decode cPar_place 93 = .ok (.iload 4, 2) := by decide +kernel
theorem dPar_place_95 : decode cPar_place 95 = .ok (.iload_n 3, 1) := by decide +kernel
theorem dPar_place_96 : decode cPar_place 96 = .ok (.iastore, 1) := by decide +kernel
theorem dPar_place_97 : decode cPar_place 97 = .ok (.aload_n 0, 1) := by decide +kernel
theorem dPar_place_98 : decode cPar_place 98 = .ok (.getfield 18, 3) := by decide +kernel
theorem dPar_place_101 : decode cPar_place 101 = .ok (.iload_n 3, 1) := by decide +kernel
theorem dPar_place_102 : decode cPar_place 102 = .ok (.iconst (-1), 1) := by decide +kernel
theorem dPar_place_103 : decode cPar_place 103 = .ok (.iastore, 1) := by decide +kernel
theorem dPar_place_104 : decode cPar_place 104 = .ok (.iload_n 3, 1) := by decide +kernel
theorem dPar_place_105 : decode cPar_place 105 = .ok (.ireturn, 1) := by decide +kernel
theorem dPar_looksAlike_0 : decode cPar_looksAlike 0 = .ok (.aload_n 1, 1) := by decide +kernel
theorem dPar_looksAlike_1 : decode cPar_looksAlike 1 = .ok (.iload_n 2, 1) := by decide +kernel
theorem dPar_looksAlike_2 : decode cPar_looksAlike 2 = .ok (.invokevirtual 57, 3) := by decide +kernel
theorem dPar_looksAlike_5 : decode cPar_looksAlike 5 = .ok (.istore 4, 2) := by decide +kernel
theorem dPar_looksAlike_7 : decode cPar_looksAlike 7 = .ok (.iload 4, 2) := by decide +kernel
theorem dPar_looksAlike_9 : decode cPar_looksAlike 9 = .ok (.aload_n 1, 1) := by decide +kernel
theorem dPar_looksAlike_10 : decode cPar_looksAlike 10 = .ok (.iload_n 3, 1) := by decide +kernel
theorem dPar_looksAlike_11 : decode cPar_looksAlike 11 = .ok (.invokevirtual 57, 3) := by decide +kernel
theorem dPar_looksAlike_14 : decode cPar_looksAlike 14 = .ok (.if_icmp .eq 5, 3) := by decide +kernel
theorem dPar_looksAlike_17 : decode cPar_looksAlike 17 = .ok (.iconst 0, 1) := by decide +kernel
theorem dPar_looksAlike_18 : decode cPar_looksAlike 18 = .ok (.ireturn, 1) := by decide +kernel
theorem dPar_looksAlike_19 : decode cPar_looksAlike 19 = .ok (.iconst 0, 1) := by decide +kernel
theorem dPar_looksAlike_20 : decode cPar_looksAlike 20 = .ok (.istore 5, 2) := by decide +kernel
theorem dPar_looksAlike_22 : decode cPar_looksAlike 22 = .ok (.iload 5, 2) := by decide +kernel
theorem dPar_looksAlike_24 : decode cPar_looksAlike 24 = .ok (.aload_n 0, 1) := by decide +kernel
theorem dPar_looksAlike_25 : decode cPar_looksAlike 25 = .ok (.getfield 63, 3) := by decide +kernel
theorem dPar_looksAlike_28 : decode cPar_looksAlike 28 = .ok (.if_icmp .ge 45, 3) := by decide +kernel
theorem dPar_looksAlike_31 : decode cPar_looksAlike 31 = .ok (.aload_n 0, 1) := by decide +kernel
theorem dPar_looksAlike_32 : decode cPar_looksAlike 32 = .ok (.getfield 66, 3) := by decide +kernel
theorem dPar_looksAlike_35 : decode cPar_looksAlike 35 = .ok (.iload 5, 2) := by decide +kernel
theorem dPar_looksAlike_37 : decode cPar_looksAlike 37 = .ok (.iaload, 1) := by decide +kernel
theorem dPar_looksAlike_38 : decode cPar_looksAlike 38 = .ok (.istore 6, 2) := by decide +kernel
theorem dPar_looksAlike_40 : decode cPar_looksAlike 40 = .ok (.aload_n 1, 1) := by decide +kernel
theorem dPar_looksAlike_41 : decode cPar_looksAlike 41 = .ok (.iload 6, 2) := by decide +kernel
theorem dPar_looksAlike_43 : decode cPar_looksAlike 43 = .ok (.iload_n 2, 1) := by decide +kernel
theorem dPar_looksAlike_44 : decode cPar_looksAlike 44 = .ok (.invokevirtual 69, 3) := by decide +kernel
theorem dPar_looksAlike_47 : decode cPar_looksAlike 47 = .ok (.aload_n 1, 1) := by decide +kernel
theorem dPar_looksAlike_48 : decode cPar_looksAlike 48 = .ok (.iload 6, 2) := by decide +kernel
theorem dPar_looksAlike_50 : decode cPar_looksAlike 50 = .ok (.iload_n 3, 1) := by decide +kernel
theorem dPar_looksAlike_51 : decode cPar_looksAlike 51 = .ok (.invokevirtual 69, 3) := by decide +kernel
theorem dPar_looksAlike_54 : decode cPar_looksAlike 54 = .ok (.ixor, 1) := by decide +kernel
theorem dPar_looksAlike_55 : decode cPar_looksAlike 55 = .ok (.istore 7, 2) := by decide +kernel
theorem dPar_looksAlike_57 : decode cPar_looksAlike 57 = .ok (.iload 7, 2) := by decide +kernel
theorem dPar_looksAlike_59 : decode cPar_looksAlike 59 = .ok (.iload 4, 2) := by decide +kernel
theorem dPar_looksAlike_61 : decode cPar_looksAlike 61 = .ok (.iand, 1) := by decide +kernel
theorem dPar_looksAlike_62 : decode cPar_looksAlike 62 = .ok (.ifCond .eq 5, 3) := by decide +kernel
theorem dPar_looksAlike_65 : decode cPar_looksAlike 65 = .ok (.iconst 0, 1) := by decide +kernel
theorem dPar_looksAlike_66 : decode cPar_looksAlike 66 = .ok (.ireturn, 1) := by decide +kernel
theorem dPar_looksAlike_67 : decode cPar_looksAlike 67 = .ok (.iinc 5 1, 3) := by decide +kernel
theorem dPar_looksAlike_70 : decode cPar_looksAlike 70 = .ok (.goto (-48), 3) := by decide +kernel
theorem dPar_looksAlike_73 : decode cPar_looksAlike 73 = .ok (.iconst 1, 1) := by decide +kernel
theorem dPar_looksAlike_74 : decode cPar_looksAlike 74 = .ok (.ireturn, 1) := by decide +kernel
theorem dPar_goesAlike_0 : decode cPar_goesAlike 0 = .ok (.aload_n 1, 1) := by decide +kernel
theorem dPar_goesAlike_1 : decode cPar_goesAlike 1 = .ok (.invokevirtual 73, 3) := by decide +kernel
theorem dPar_goesAlike_4 : decode cPar_goesAlike 4 = .ok (.istore 5, 2) := by decide +kernel
theorem dPar_goesAlike_6 : decode cPar_goesAlike 6 = .ok (.iconst 0, 1) := by decide +kernel
theorem dPar_goesAlike_7 : decode cPar_goesAlike 7 = .ok (.istore 6, 2) := by decide +kernel
theorem dPar_goesAlike_9 : decode cPar_goesAlike 9 = .ok (.iload 6, 2) := by decide +kernel
theorem dPar_goesAlike_11 : decode cPar_goesAlike 11 = .ok (.iload 5, 2) := by decide +kernel
theorem dPar_goesAlike_13 : decode cPar_goesAlike 13 = .ok (.if_icmp .ge 31, 3) := by decide +kernel
theorem dPar_goesAlike_16 : decode cPar_goesAlike 16 = .ok (.aload_n 0, 1) := by decide +kernel
theorem dPar_goesAlike_17 : decode cPar_goesAlike 17 = .ok (.aload_n 2, 1) := by decide +kernel
theorem dPar_goesAlike_18 : decode cPar_goesAlike 18 = .ok (.iload_n 3, 1) := by decide +kernel
theorem dPar_goesAlike_19 : decode cPar_goesAlike 19 = .ok (.iload 6, 2) := by decide +kernel
theorem dPar_goesAlike_21 : decode cPar_goesAlike 21 = .ok (.invokevirtual 76, 3) := by decide +kernel
theorem dPar_goesAlike_24 : decode cPar_goesAlike 24 = .ok (.aload_n 0, 1) := by decide +kernel
theorem dPar_goesAlike_25 : decode cPar_goesAlike 25 = .ok (.aload_n 2, 1) := by decide +kernel
theorem dPar_goesAlike_26 : decode cPar_goesAlike 26 = .ok (.iload 4, 2) := by decide +kernel
theorem dPar_goesAlike_28 : decode cPar_goesAlike 28 = .ok (.iload 6, 2) := by decide +kernel
theorem dPar_goesAlike_30 : decode cPar_goesAlike 30 = .ok (.invokevirtual 76, 3) := by decide +kernel
theorem dPar_goesAlike_33 : decode cPar_goesAlike 33 = .ok (.if_icmp .eq 5, 3) := by decide +kernel
theorem dPar_goesAlike_36 : decode cPar_goesAlike 36 = .ok (.iconst 0, 1) := by decide +kernel
theorem dPar_goesAlike_37 : decode cPar_goesAlike 37 = .ok (.ireturn, 1) := by decide +kernel
theorem dPar_goesAlike_38 : decode cPar_goesAlike 38 = .ok (.iinc 6 1, 3) := by decide +kernel
theorem dPar_goesAlike_41 : decode cPar_goesAlike 41 = .ok (.goto (-32), 3) := by decide +kernel
theorem dPar_goesAlike_44 : decode cPar_goesAlike 44 = .ok (.iconst 1, 1) := by decide +kernel
theorem dPar_goesAlike_45 : decode cPar_goesAlike 45 = .ok (.ireturn, 1) := by decide +kernel
theorem dPar_nameOfNext_0 : decode cPar_nameOfNext 0 = .ok (.aload_n 1, 1) := by decide +kernel
theorem dPar_nameOfNext_1 : decode cPar_nameOfNext 1 = .ok (.iload_n 2, 1) := by decide +kernel
theorem dPar_nameOfNext_2 : decode cPar_nameOfNext 2 = .ok (.iload_n 3, 1) := by decide +kernel
theorem dPar_nameOfNext_3 : decode cPar_nameOfNext 3 = .ok (.invokevirtual 80, 3) := by decide +kernel
theorem dPar_nameOfNext_6 : decode cPar_nameOfNext 6 = .ok (.istore 4, 2) := by decide +kernel
theorem dPar_nameOfNext_8 : decode cPar_nameOfNext 8 = .ok (.iload 4, 2) := by decide +kernel
theorem dPar_nameOfNext_10 : decode cPar_nameOfNext 10 = .ok (.iconst (-1), 1) := by decide +kernel
theorem dPar_nameOfNext_11 : decode cPar_nameOfNext 11 = .ok (.if_icmp .ne 7, 3) := by decide +kernel
theorem dPar_nameOfNext_14 : decode cPar_nameOfNext 14 = .ok (.iconst (-1), 1) := by decide +kernel
theorem dPar_nameOfNext_15 : decode cPar_nameOfNext 15 = .ok (.goto 10, 3) := by decide +kernel
theorem dPar_nameOfNext_18 : decode cPar_nameOfNext 18 = .ok (.aload_n 0, 1) := by decide +kernel
theorem dPar_nameOfNext_19 : decode cPar_nameOfNext 19 = .ok (.getfield 9, 3) := by decide +kernel
theorem dPar_nameOfNext_22 : decode cPar_nameOfNext 22 = .ok (.iload 4, 2) := by decide +kernel
theorem dPar_nameOfNext_24 : decode cPar_nameOfNext 24 = .ok (.iaload, 1) := by decide +kernel
theorem dPar_nameOfNext_25 : decode cPar_nameOfNext 25 = .ok (.ireturn, 1) := by decide +kernel
abbrev cTab_init : ByteArray := prog_4_method_1_code
def yTab_init : MethodName := ⟨"StateExplorer$Table", "<init>", "()V"⟩
def wsTab_init : List Cond := Cond.code yTab_init cTab_init 1 (none : Option Jvm.ClassFile.FieldType) :: tb
theorem tcTab_init : Cond.code yTab_init cTab_init 1 (none : Option Jvm.ClassFile.FieldType) ∈ tb := tw_112
abbrev cTab_fill : ByteArray := prog_4_method_2_code
def yTab_fill : MethodName := ⟨"StateExplorer$Table", "fill", "(LStateExplorer$Net;)V"⟩
def wsTab_fill : List Cond := Cond.code yTab_fill cTab_fill 7 (none : Option Jvm.ClassFile.FieldType) :: tb
theorem tcTab_fill : Cond.code yTab_fill cTab_fill 7 (none : Option Jvm.ClassFile.FieldType) ∈ tb := tw_224
abbrev cTab_begin : ByteArray := prog_4_method_3_code
def yTab_begin : MethodName := ⟨"StateExplorer$Table", "begin", "(LStateExplorer$Net;I)V"⟩
def wsTab_begin : List Cond := Cond.code yTab_begin cTab_begin 5 (none : Option Jvm.ClassFile.FieldType) :: tb
theorem tcTab_begin : Cond.code yTab_begin cTab_begin 5 (none : Option Jvm.ClassFile.FieldType) ∈ tb := tw_239
abbrev cTab_set : ByteArray := prog_4_method_4_code
def yTab_set : MethodName := ⟨"StateExplorer$Table", "set", "(IJ)V"⟩
def wsTab_set : List Cond := Cond.code yTab_set cTab_set 4 (none : Option Jvm.ClassFile.FieldType) :: tb
theorem tcTab_set : Cond.code yTab_set cTab_set 4 (none : Option Jvm.ClassFile.FieldType) ∈ tb := tw_245
abbrev cTab_latchBits : ByteArray := prog_4_method_5_code
def yTab_latchBits : MethodName := ⟨"StateExplorer$Table", "latchBits", "(II)J"⟩
def wsTab_latchBits : List Cond := Cond.code yTab_latchBits cTab_latchBits 2 (some .long) :: tb
theorem tcTab_latchBits : Cond.code yTab_latchBits cTab_latchBits 2 (some .long) ∈ tb := tw_249
abbrev cTab_settle : ByteArray := prog_4_method_6_code
def yTab_settle : MethodName := ⟨"StateExplorer$Table", "settle", "(LStateExplorer$Net;)V"⟩
def wsTab_settle : List Cond := Cond.code yTab_settle cTab_settle 3 (none : Option Jvm.ClassFile.FieldType) :: tb
theorem tcTab_settle : Cond.code yTab_settle cTab_settle 3 (none : Option Jvm.ClassFile.FieldType) ∈ tb := tw_255
abbrev cTab_sweepOnce : ByteArray := prog_4_method_7_code
def yTab_sweepOnce : MethodName := ⟨"StateExplorer$Table", "sweepOnce", "(LStateExplorer$Net;)Z"⟩
def wsTab_sweepOnce : List Cond := Cond.code yTab_sweepOnce cTab_sweepOnce 5 (some .boolean) :: tb
theorem tcTab_sweepOnce : Cond.code yTab_sweepOnce cTab_sweepOnce 5 (some .boolean) ∈ tb := tw_259
abbrev cTab_learn : ByteArray := prog_4_method_8_code
def yTab_learn : MethodName := ⟨"StateExplorer$Table", "learn", "(LStateExplorer$Net;II)Z"⟩
def wsTab_learn : List Cond := Cond.code yTab_learn cTab_learn 11 (some .boolean) :: tb
theorem tcTab_learn : Cond.code yTab_learn cTab_learn 11 (some .boolean) ∈ tb := tw_263
abbrev cTab_keep : ByteArray := prog_4_method_9_code
def yTab_keep : MethodName := ⟨"StateExplorer$Table", "keep", "(LStateExplorer$Net;I)V"⟩
def wsTab_keep : List Cond := Cond.code yTab_keep cTab_keep 6 (none : Option Jvm.ClassFile.FieldType) :: tb
theorem tcTab_keep : Cond.code yTab_keep cTab_keep 6 (none : Option Jvm.ClassFile.FieldType) ∈ tb := tw_267
abbrev cTab_findNext : ByteArray := prog_4_method_10_code
def yTab_findNext : MethodName := ⟨"StateExplorer$Table", "findNext", "(LStateExplorer$Net;II)I"⟩
def wsTab_findNext : List Cond := Cond.code yTab_findNext cTab_findNext 11 (some .int) :: tb
theorem tcTab_findNext : Cond.code yTab_findNext cTab_findNext 11 (some .int) ∈ tb := tw_276
abbrev cTab_nextOf : ByteArray := prog_4_method_11_code
def yTab_nextOf : MethodName := ⟨"StateExplorer$Table", "nextOf", "(II)I"⟩
def wsTab_nextOf : List Cond := Cond.code yTab_nextOf cTab_nextOf 3 (some .int) :: tb
theorem tcTab_nextOf : Cond.code yTab_nextOf cTab_nextOf 3 (some .int) ∈ tb := tw_310
abbrev cTab_settledIn : ByteArray := prog_4_method_12_code
def yTab_settledIn : MethodName := ⟨"StateExplorer$Table", "settledIn", "(I)I"⟩
def wsTab_settledIn : List Cond := Cond.code yTab_settledIn cTab_settledIn 2 (some .int) :: tb
theorem tcTab_settledIn : Cond.code yTab_settledIn cTab_settledIn 2 (some .int) ∈ tb := tw_304
abbrev cTab_onesIn : ByteArray := prog_4_method_13_code
def yTab_onesIn : MethodName := ⟨"StateExplorer$Table", "onesIn", "(II)I"⟩
def wsTab_onesIn : List Cond := Cond.code yTab_onesIn cTab_onesIn 3 (some .int) :: tb
theorem tcTab_onesIn : Cond.code yTab_onesIn cTab_onesIn 3 (some .int) ∈ tb := tw_335
theorem dTab_init_0 : decode cTab_init 0 = .ok (.aload_n 0, 1) := by decide +kernel
theorem dTab_init_1 : decode cTab_init 1 = .ok (.invokespecial 3, 3) := by decide +kernel
theorem dTab_init_4 : decode cTab_init 4 = .ok (.aload_n 0, 1) := by decide +kernel
theorem dTab_init_5 : decode cTab_init 5 = .ok (.bipush 120, 2) := by decide +kernel
theorem dTab_init_7 : decode cTab_init 7 = .ok (.newarray .long, 2) := by decide +kernel
theorem dTab_init_9 : decode cTab_init 9 = .ok (.putfield 9, 3) := by decide +kernel
theorem dTab_init_12 : decode cTab_init 12 = .ok (.aload_n 0, 1) := by decide +kernel
theorem dTab_init_13 : decode cTab_init 13 = .ok (.bipush 64, 2) := by decide +kernel
theorem dTab_init_15 : decode cTab_init 15 = .ok (.newarray .long, 2) := by decide +kernel
theorem dTab_init_17 : decode cTab_init 17 = .ok (.putfield 15, 3) := by decide +kernel
theorem dTab_init_20 : decode cTab_init 20 = .ok (.aload_n 0, 1) := by decide +kernel
theorem dTab_init_21 : decode cTab_init 21 = .ok (.sipush 3840, 3) := by decide +kernel
theorem dTab_init_24 : decode cTab_init 24 = .ok (.newarray .long, 2) := by decide +kernel
theorem dTab_init_26 : decode cTab_init 26 = .ok (.putfield 18, 3) := by decide +kernel
theorem dTab_init_29 : decode cTab_init 29 = .ok (.aload_n 0, 1) := by decide +kernel
theorem dTab_init_30 : decode cTab_init 30 = .ok (.sipush 4096, 3) := by decide +kernel
theorem dTab_init_33 : decode cTab_init 33 = .ok (.newarray .int, 2) := by decide +kernel
theorem dTab_init_35 : decode cTab_init 35 = .ok (.putfield 21, 3) := by decide +kernel
theorem dTab_init_38 : decode cTab_init 38 = .ok (.return_, 1) := by decide +kernel
theorem dTab_fill_0 : decode cTab_fill 0 = .ok (.aload_n 1, 1) := by decide +kernel
theorem dTab_fill_1 : decode cTab_fill 1 = .ok (.invokevirtual 25, 3) := by decide +kernel
theorem dTab_fill_4 : decode cTab_fill 4 = .ok (.istore_n 2, 1) := by decide +kernel
theorem dTab_fill_5 : decode cTab_fill 5 = .ok (.iconst 0, 1) := by decide +kernel
theorem dTab_fill_6 : decode cTab_fill 6 = .ok (.istore_n 3, 1) := by decide +kernel
theorem dTab_fill_7 : decode cTab_fill 7 = .ok (.iload_n 3, 1) := by decide +kernel
theorem dTab_fill_8 : decode cTab_fill 8 = .ok (.iload_n 2, 1) := by decide +kernel
theorem dTab_fill_9 : decode cTab_fill 9 = .ok (.if_icmp .ge 26, 3) := by decide +kernel
theorem dTab_fill_12 : decode cTab_fill 12 = .ok (.aload_n 0, 1) := by decide +kernel
theorem dTab_fill_13 : decode cTab_fill 13 = .ok (.aload_n 1, 1) := by decide +kernel
theorem dTab_fill_14 : decode cTab_fill 14 = .ok (.iload_n 3, 1) := by decide +kernel
theorem dTab_fill_15 : decode cTab_fill 15 = .ok (.invokevirtual 31, 3) := by decide +kernel
theorem dTab_fill_18 : decode cTab_fill 18 = .ok (.aload_n 0, 1) := by decide +kernel
theorem dTab_fill_19 : decode cTab_fill 19 = .ok (.aload_n 1, 1) := by decide +kernel
theorem dTab_fill_20 : decode cTab_fill 20 = .ok (.invokevirtual 35, 3) := by decide +kernel
theorem dTab_fill_23 : decode cTab_fill 23 = .ok (.aload_n 0, 1) := by decide +kernel
theorem dTab_fill_24 : decode cTab_fill 24 = .ok (.aload_n 1, 1) := by decide +kernel
theorem dTab_fill_25 : decode cTab_fill 25 = .ok (.iload_n 3, 1) := by decide +kernel
theorem dTab_fill_26 : decode cTab_fill 26 = .ok (.invokevirtual 39, 3) := by decide +kernel
theorem dTab_fill_29 : decode cTab_fill 29 = .ok (.iinc 3 1, 3) := by decide +kernel
theorem dTab_fill_32 : decode cTab_fill 32 = .ok (.goto (-25), 3) := by decide +kernel
theorem dTab_fill_35 : decode cTab_fill 35 = .ok (.aload_n 1, 1) := by decide +kernel
theorem dTab_fill_36 : decode cTab_fill 36 = .ok (.invokevirtual 42, 3) := by decide +kernel
theorem dTab_fill_39 : decode cTab_fill 39 = .ok (.istore_n 3, 1) := by decide +kernel
theorem dTab_fill_40 : decode cTab_fill 40 = .ok (.aload_n 1, 1) := by decide +kernel
theorem dTab_fill_41 : decode cTab_fill 41 = .ok (.invokevirtual 45, 3) := by decide +kernel
theorem dTab_fill_44 : decode cTab_fill 44 = .ok (.istore 4, 2) := by decide +kernel
theorem dTab_fill_46 : decode cTab_fill 46 = .ok (.iconst 0, 1) := by decide +kernel
theorem dTab_fill_47 : decode cTab_fill 47 = .ok (.istore 5, 2) := by decide +kernel
theorem dTab_fill_49 : decode cTab_fill 49 = .ok (.iload 5, 2) := by decide +kernel
theorem dTab_fill_51 : decode cTab_fill 51 = .ok (.iload_n 3, 1) := by decide +kernel
theorem dTab_fill_52 : decode cTab_fill 52 = .ok (.if_icmp .ge 47, 3) := by decide +kernel
theorem dTab_fill_55 : decode cTab_fill 55 = .ok (.iconst 0, 1) := by decide +kernel
theorem dTab_fill_56 : decode cTab_fill 56 = .ok (.istore 6, 2) := by decide +kernel
theorem dTab_fill_58 : decode cTab_fill 58 = .ok (.iload 6, 2) := by decide +kernel
theorem dTab_fill_60 : decode cTab_fill 60 = .ok (.iload 4, 2) := by decide +kernel
theorem dTab_fill_62 : decode cTab_fill 62 = .ok (.if_icmp .ge 31, 3) := by decide +kernel
theorem dTab_fill_65 : decode cTab_fill 65 = .ok (.aload_n 0, 1) := by decide +kernel
theorem dTab_fill_66 : decode cTab_fill 66 = .ok (.getfield 21, 3) := by decide +kernel
theorem dTab_fill_69 : decode cTab_fill 69 = .ok (.iload 5, 2) := by decide +kernel
theorem dTab_fill_71 : decode cTab_fill 71 = .ok (.bipush 16, 2) := by decide +kernel
theorem dTab_fill_73 : decode cTab_fill 73 = .ok (.imul, 1) := by decide +kernel
theorem dTab_fill_74 : decode cTab_fill 74 = .ok (.iload 6, 2) := by decide +kernel
theorem dTab_fill_76 : decode cTab_fill 76 = .ok (.iadd, 1) := by decide +kernel
theorem dTab_fill_77 : decode cTab_fill 77 = .ok (.aload_n 0, 1) := by decide +kernel
theorem dTab_fill_78 : decode cTab_fill 78 = .ok (.aload_n 1, 1) := by decide +kernel
theorem dTab_fill_79 : decode cTab_fill 79 = .ok (.iload 5, 2) := by decide +kernel
theorem dTab_fill_81 : decode cTab_fill 81 = .ok (.iload 6, 2) := by decide +kernel
theorem dTab_fill_83 : decode cTab_fill 83 = .ok (.invokevirtual 48, 3) := by decide +kernel
theorem dTab_fill_86 : decode cTab_fill 86 = .ok (.iastore, 1) := by decide +kernel
theorem dTab_fill_87 : decode cTab_fill 87 = .ok (.iinc 6 1, 3) := by decide +kernel
theorem dTab_fill_90 : decode cTab_fill 90 = .ok (.goto (-32), 3) := by decide +kernel
theorem dTab_fill_93 : decode cTab_fill 93 = .ok (.iinc 5 1, 3) := by decide +kernel
theorem dTab_fill_96 : decode cTab_fill 96 = .ok (.goto (-47), 3) := by decide +kernel
theorem dTab_fill_99 : decode cTab_fill 99 = .ok (.return_, 1) := by decide +kernel
theorem dTab_begin_0 : decode cTab_begin 0 = .ok (.iconst 0, 1) := by decide +kernel
theorem dTab_begin_1 : decode cTab_begin 1 = .ok (.istore_n 3, 1) := by decide +kernel
theorem dTab_begin_2 : decode cTab_begin 2 = .ok (.iload_n 3, 1) := by decide +kernel
theorem dTab_begin_3 : decode cTab_begin 3 = .ok (.aload_n 1, 1) := by decide +kernel
theorem dTab_begin_4 : decode cTab_begin 4 = .ok (.getfield 52, 3) := by decide +kernel
theorem dTab_begin_7 : decode cTab_begin 7 = .ok (.if_icmp .ge 84, 3) := by decide +kernel
theorem dTab_begin_10 : decode cTab_begin 10 = .ok (.aload_n 1, 1) := by decide +kernel
theorem dTab_begin_11 : decode cTab_begin 11 = .ok (.getfield 56, 3) := by decide +kernel
theorem dTab_begin_14 : decode cTab_begin 14 = .ok (.iload_n 3, 1) := by decide +kernel
theorem dTab_begin_15 : decode cTab_begin 15 = .ok (.iaload, 1) := by decide +kernel
theorem dTab_begin_16 : decode cTab_begin 16 = .ok (.istore 4, 2) := by decide +kernel
theorem dTab_begin_18 : decode cTab_begin 18 = .ok (.iload 4, 2) := by decide +kernel
theorem dTab_begin_20 : decode cTab_begin 20 = .ok (.ifCond .ne 21, 3) := by decide +kernel
theorem dTab_begin_23 : decode cTab_begin 23 = .ok (.aload_n 0, 1) := by decide +kernel
theorem dTab_begin_24 : decode cTab_begin 24 = .ok (.iload_n 3, 1) := by decide +kernel
theorem dTab_begin_25 : decode cTab_begin 25 = .ok (.getstatic 59, 3) := by decide +kernel
theorem dTab_begin_28 : decode cTab_begin 28 = .ok (.aload_n 1, 1) := by decide +kernel
theorem dTab_begin_29 : decode cTab_begin 29 = .ok (.getfield 62, 3) := by decide +kernel
theorem dTab_begin_32 : decode cTab_begin 32 = .ok (.iload_n 3, 1) := by decide +kernel
theorem dTab_begin_33 : decode cTab_begin 33 = .ok (.iaload, 1) := by decide +kernel
theorem dTab_begin_34 : decode cTab_begin 34 = .ok (.laload, 1) := by decide +kernel
theorem dTab_begin_35 : decode cTab_begin 35 = .ok (.invokevirtual 65, 3) := by decide +kernel
theorem dTab_begin_38 : decode cTab_begin 38 = .ok (.goto 47, 3) := by decide +kernel
theorem dTab_begin_41 : decode cTab_begin 41 = .ok (.iload 4, 2) := by decide +kernel
theorem dTab_begin_43 : decode cTab_begin 43 = .ok (.iconst 1, 1) := by decide +kernel
theorem dTab_begin_44 : decode cTab_begin 44 = .ok (.if_icmp .ne 21, 3) := by decide +kernel
theorem dTab_begin_47 : decode cTab_begin 47 = .ok (.aload_n 0, 1) := by decide +kernel
theorem dTab_begin_48 : decode cTab_begin 48 = .ok (.iload_n 3, 1) := by decide +kernel
theorem dTab_begin_49 : decode cTab_begin 49 = .ok (.aload_n 1, 1) := by decide +kernel
theorem dTab_begin_50 : decode cTab_begin 50 = .ok (.getfield 62, 3) := by decide +kernel
theorem dTab_begin_53 : decode cTab_begin 53 = .ok (.iload_n 3, 1) := by decide +kernel
theorem dTab_begin_54 : decode cTab_begin 54 = .ok (.iaload, 1) := by decide +kernel
theorem dTab_begin_55 : decode cTab_begin 55 = .ok (.iload_n 2, 1) := by decide +kernel
theorem dTab_begin_56 : decode cTab_begin 56 = .ok (.invokestatic 69, 3) := by decide +kernel
theorem dTab_begin_59 : decode cTab_begin 59 = .ok (.invokevirtual 65, 3) := by decide +kernel
theorem dTab_begin_62 : decode cTab_begin 62 = .ok (.goto 23, 3) := by decide +kernel
theorem dTab_begin_65 : decode cTab_begin 65 = .ok (.aload_n 0, 1) := by decide +kernel
theorem dTab_begin_66 : decode cTab_begin 66 = .ok (.getfield 9, 3) := by decide +kernel
theorem dTab_begin_69 : decode cTab_begin 69 = .ok (.iload_n 3, 1) := by decide +kernel
theorem dTab_begin_70 : decode cTab_begin 70 = .ok (.iconst 2, 1) := by decide +kernel
theorem dTab_begin_71 : decode cTab_begin 71 = .ok (.imul, 1) := by decide +kernel
theorem dTab_begin_72 : decode cTab_begin 72 = .ok (.lconst 0, 1) := by decide +kernel
theorem dTab_begin_73 : decode cTab_begin 73 = .ok (.lastore, 1) := by decide +kernel
theorem dTab_begin_74 : decode cTab_begin 74 = .ok (.aload_n 0, 1) := by decide +kernel
theorem dTab_begin_75 : decode cTab_begin 75 = .ok (.getfield 9, 3) := by decide +kernel
theorem dTab_begin_78 : decode cTab_begin 78 = .ok (.iload_n 3, 1) := by decide +kernel
theorem dTab_begin_79 : decode cTab_begin 79 = .ok (.iconst 2, 1) := by decide +kernel
theorem dTab_begin_80 : decode cTab_begin 80 = .ok (.imul, 1) := by decide +kernel
theorem dTab_begin_81 : decode cTab_begin 81 = .ok (.iconst 1, 1) := by decide +kernel
theorem dTab_begin_82 : decode cTab_begin 82 = .ok (.iadd, 1) := by decide +kernel
theorem dTab_begin_83 : decode cTab_begin 83 = .ok (.lconst 0, 1) := by decide +kernel
theorem dTab_begin_84 : decode cTab_begin 84 = .ok (.lastore, 1) := by decide +kernel
theorem dTab_begin_85 : decode cTab_begin 85 = .ok (.iinc 3 1, 3) := by decide +kernel
theorem dTab_begin_88 : decode cTab_begin 88 = .ok (.goto (-86), 3) := by decide +kernel
theorem dTab_begin_91 : decode cTab_begin 91 = .ok (.return_, 1) := by decide +kernel
theorem dTab_set_0 : decode cTab_set 0 = .ok (.aload_n 0, 1) := by decide +kernel
theorem dTab_set_1 : decode cTab_set 1 = .ok (.getfield 9, 3) := by decide +kernel
theorem dTab_set_4 : decode cTab_set 4 = .ok (.iload_n 1, 1) := by decide +kernel
theorem dTab_set_5 : decode cTab_set 5 = .ok (.iconst 2, 1) := by decide +kernel
theorem dTab_set_6 : decode cTab_set 6 = .ok (.imul, 1) := by decide +kernel
theorem dTab_set_7 : decode cTab_set 7 = .ok (.lload_n 2, 1) := by decide +kernel
theorem dTab_set_8 : decode cTab_set 8 = .ok (.lastore, 1) := by decide +kernel
theorem dTab_set_9 : decode cTab_set 9 = .ok (.aload_n 0, 1) := by decide +kernel
theorem dTab_set_10 : decode cTab_set 10 = .ok (.getfield 9, 3) := by decide +kernel
theorem dTab_set_13 : decode cTab_set 13 = .ok (.iload_n 1, 1) := by decide +kernel
theorem dTab_set_14 : decode cTab_set 14 = .ok (.iconst 2, 1) := by decide +kernel
theorem dTab_set_15 : decode cTab_set 15 = .ok (.imul, 1) := by decide +kernel
theorem dTab_set_16 : decode cTab_set 16 = .ok (.iconst 1, 1) := by decide +kernel
theorem dTab_set_17 : decode cTab_set 17 = .ok (.iadd, 1) := by decide +kernel
theorem dTab_set_18 : decode cTab_set 18 = .ok (.lload_n 2, 1) := by decide +kernel
theorem dTab_set_19 : decode cTab_set 19 = .ok (.ldc2_w 73, 3) := by decide +kernel
theorem dTab_set_22 : decode cTab_set 22 = .ok (.lxor, 1) := by decide +kernel
theorem dTab_set_23 : decode cTab_set 23 = .ok (.lastore, 1) := by decide +kernel
theorem dTab_set_24 : decode cTab_set 24 = .ok (.return_, 1) := by decide +kernel
theorem dTab_latchBits_0 : decode cTab_latchBits 0 = .ok (.iload_n 0, 1) := by decide +kernel
theorem dTab_latchBits_1 : decode cTab_latchBits 1 = .ok (.getstatic 75, 3) := by decide +kernel
theorem dTab_latchBits_4 : decode cTab_latchBits 4 = .ok (.arraylength, 1) := by decide +kernel
theorem dTab_latchBits_5 : decode cTab_latchBits 5 = .ok (.if_icmp .ge 9, 3) := by decide +kernel
theorem dTab_latchBits_8 : decode cTab_latchBits 8 = .ok (.getstatic 75, 3) := by decide +kernel
theorem dTab_latchBits_11 : decode cTab_latchBits 11 = .ok (.iload_n 0, 1) := by decide +kernel
theorem dTab_latchBits_12 : decode cTab_latchBits 12 = .ok (.laload, 1) := by decide +kernel
theorem dTab_latchBits_13 : decode cTab_latchBits 13 = .ok (.lreturn, 1) := by decide +kernel
theorem dTab_latchBits_14 : decode cTab_latchBits 14 = .ok (.iload_n 1, 1) := by decide +kernel
theorem dTab_latchBits_15 : decode cTab_latchBits 15 = .ok (.iload_n 0, 1) := by decide +kernel
theorem dTab_latchBits_16 : decode cTab_latchBits 16 = .ok (.getstatic 75, 3) := by decide +kernel
theorem dTab_latchBits_19 : decode cTab_latchBits 19 = .ok (.arraylength, 1) := by decide +kernel
theorem dTab_latchBits_20 : decode cTab_latchBits 20 = .ok (.isub, 1) := by decide +kernel
theorem dTab_latchBits_21 : decode cTab_latchBits 21 = .ok (.ishr, 1) := by decide +kernel
theorem dTab_latchBits_22 : decode cTab_latchBits 22 = .ok (.iconst 1, 1) := by decide +kernel
theorem dTab_latchBits_23 : decode cTab_latchBits 23 = .ok (.iand, 1) := by decide +kernel
theorem dTab_latchBits_24 : decode cTab_latchBits 24 = .ok (.iconst 1, 1) := by decide +kernel
theorem dTab_latchBits_25 : decode cTab_latchBits 25 = .ok (.if_icmp .ne 9, 3) := by decide +kernel
theorem dTab_latchBits_28 : decode cTab_latchBits 28 = .ok (.ldc2_w 73, 3) := by decide +kernel
theorem dTab_latchBits_31 : decode cTab_latchBits 31 = .ok (.goto 4, 3) := by decide +kernel
theorem dTab_latchBits_34 : decode cTab_latchBits 34 = .ok (.lconst 0, 1) := by decide +kernel
theorem dTab_latchBits_35 : decode cTab_latchBits 35 = .ok (.lreturn, 1) := by decide +kernel
theorem dTab_settle_0 : decode cTab_settle 0 = .ok (.iconst 0, 1) := by decide +kernel
theorem dTab_settle_1 : decode cTab_settle 1 = .ok (.istore_n 2, 1) := by decide +kernel
theorem dTab_settle_2 : decode cTab_settle 2 = .ok (.iload_n 2, 1) := by decide +kernel
theorem dTab_settle_3 : decode cTab_settle 3 = .ok (.aload_n 1, 1) := by decide +kernel
theorem dTab_settle_4 : decode cTab_settle 4 = .ok (.getfield 52, 3) := by decide +kernel
theorem dTab_settle_7 : decode cTab_settle 7 = .ok (.if_icmp .ge 18, 3) := by decide +kernel
theorem dTab_settle_10 : decode cTab_settle 10 = .ok (.aload_n 0, 1) := by decide +kernel
theorem dTab_settle_11 : decode cTab_settle 11 = .ok (.aload_n 1, 1) := by decide +kernel
theorem dTab_settle_12 : decode cTab_settle 12 = .ok (.invokevirtual 78, 3) := by decide +kernel
theorem dTab_settle_15 : decode cTab_settle 15 = .ok (.ifCond .ne 4, 3) := by decide +kernel
theorem dTab_settle_18 : decode cTab_settle 18 = .ok (.return_, 1) := by decide +kernel
theorem dTab_settle_19 : decode cTab_settle 19 = .ok (.iinc 2 1, 3) := by decide +kernel
theorem dTab_settle_22 : decode cTab_settle 22 = .ok (.goto (-20), 3) := by decide +kernel
theorem dTab_settle_25 : decode cTab_settle 25 = .ok (.return_, 1) := by decide +kernel
theorem dTab_sweepOnce_0 : decode cTab_sweepOnce 0 = .ok (.iconst 0, 1) := by decide +kernel
theorem dTab_sweepOnce_1 : decode cTab_sweepOnce 1 = .ok (.istore_n 2, 1) := by decide +kernel
theorem dTab_sweepOnce_2 : decode cTab_sweepOnce 2 = .ok (.iconst 0, 1) := by decide +kernel
theorem dTab_sweepOnce_3 : decode cTab_sweepOnce 3 = .ok (.istore_n 3, 1) := by decide +kernel
theorem dTab_sweepOnce_4 : decode cTab_sweepOnce 4 = .ok (.iload_n 3, 1) := by decide +kernel
theorem dTab_sweepOnce_5 : decode cTab_sweepOnce 5 = .ok (.aload_n 1, 1) := by decide +kernel
theorem dTab_sweepOnce_6 : decode cTab_sweepOnce 6 = .ok (.getfield 52, 3) := by decide +kernel
theorem dTab_sweepOnce_9 : decode cTab_sweepOnce 9 = .ok (.if_icmp .ge 51, 3) := by decide +kernel
theorem dTab_sweepOnce_12 : decode cTab_sweepOnce 12 = .ok (.aload_n 1, 1) := by decide +kernel
theorem dTab_sweepOnce_13 : decode cTab_sweepOnce 13 = .ok (.getfield 56, 3) := by decide +kernel
theorem dTab_sweepOnce_16 : decode cTab_sweepOnce 16 = .ok (.iload_n 3, 1) := by decide +kernel
theorem dTab_sweepOnce_17 : decode cTab_sweepOnce 17 = .ok (.iaload, 1) := by decide +kernel
theorem dTab_sweepOnce_18 : decode cTab_sweepOnce 18 = .ok (.istore 4, 2) := by decide +kernel
theorem dTab_sweepOnce_20 : decode cTab_sweepOnce 20 = .ok (.iload 4, 2) := by decide +kernel
theorem dTab_sweepOnce_22 : decode cTab_sweepOnce 22 = .ok (.iconst 2, 1) := by decide +kernel
theorem dTab_sweepOnce_23 : decode cTab_sweepOnce 23 = .ok (.if_icmp .eq 9, 3) := by decide +kernel
theorem dTab_sweepOnce_26 : decode cTab_sweepOnce 26 = .ok (.iload 4, 2) := by decide +kernel
theorem dTab_sweepOnce_28 : decode cTab_sweepOnce 28 = .ok (.iconst 3, 1) := by decide +kernel
theorem dTab_sweepOnce_29 : decode cTab_sweepOnce 29 = .ok (.if_icmp .ne 25, 3) := by decide +kernel
theorem dTab_sweepOnce_32 : decode cTab_sweepOnce 32 = .ok (.aload_n 0, 1) := by decide +kernel
theorem dTab_sweepOnce_33 : decode cTab_sweepOnce 33 = .ok (.aload_n 1, 1) := by decide +kernel
theorem dTab_sweepOnce_34 : decode cTab_sweepOnce 34 = .ok (.iload_n 3, 1) := by decide +kernel
theorem dTab_sweepOnce_35 : decode cTab_sweepOnce 35 = .ok (.iload 4, 2) := by decide +kernel
theorem dTab_sweepOnce_37 : decode cTab_sweepOnce 37 = .ok (.iconst 2, 1) := by decide +kernel
theorem dTab_sweepOnce_38 : decode cTab_sweepOnce 38 = .ok (.if_icmp .ne 7, 3) := by decide +kernel
theorem dTab_sweepOnce_41 : decode cTab_sweepOnce 41 = .ok (.iconst 0, 1) := by decide +kernel
theorem dTab_sweepOnce_42 : decode cTab_sweepOnce 42 = .ok (.goto 4, 3) := by decide +kernel
theorem dTab_sweepOnce_45 : decode cTab_sweepOnce 45 = .ok (.iconst 1, 1) := by decide +kernel
theorem dTab_sweepOnce_46 : decode cTab_sweepOnce 46 = .ok (.invokevirtual 82, 3) := by decide +kernel
theorem dTab_sweepOnce_49 : decode cTab_sweepOnce 49 = .ok (.ifCond .eq 5, 3) := by decide +kernel
theorem dTab_sweepOnce_52 : decode cTab_sweepOnce 52 = .ok (.iconst 1, 1) := by decide +kernel
theorem dTab_sweepOnce_53 : decode cTab_sweepOnce 53 = .ok (.istore_n 2, 1) := by decide +kernel
theorem dTab_sweepOnce_54 : decode cTab_sweepOnce 54 = .ok (.iinc 3 1, 3) := by decide +kernel
theorem dTab_sweepOnce_57 : decode cTab_sweepOnce 57 = .ok (.goto (-53), 3) := by decide +kernel
theorem dTab_sweepOnce_60 : decode cTab_sweepOnce 60 = .ok (.iload_n 2, 1) := by decide +kernel
theorem dTab_sweepOnce_61 : decode cTab_sweepOnce 61 = .ok (.ireturn, 1) := by decide +kernel
theorem dTab_learn_0 : decode cTab_learn 0 = .ok (.ldc2_w 73, 3) := by decide +kernel
theorem dTab_learn_3 : decode cTab_learn 3 = .ok (.lstore 4, 2) := by decide +kernel
theorem dTab_learn_5 : decode cTab_learn 5 = .ok (.lconst 0, 1) := by decide +kernel
theorem dTab_learn_6 : decode cTab_learn 6 = .ok (.lstore 6, 2) := by decide +kernel
theorem dTab_learn_8 : decode cTab_learn 8 = .ok (.aload_n 1, 1) := by decide +kernel
theorem dTab_learn_9 : decode cTab_learn 9 = .ok (.getfield 86, 3) := by decide +kernel
theorem dTab_learn_12 : decode cTab_learn 12 = .ok (.iload_n 2, 1) := by decide +kernel
theorem dTab_learn_13 : decode cTab_learn 13 = .ok (.iconst 1, 1) := by decide +kernel
theorem dTab_learn_14 : decode cTab_learn 14 = .ok (.iadd, 1) := by decide +kernel
theorem dTab_learn_15 : decode cTab_learn 15 = .ok (.iaload, 1) := by decide +kernel
theorem dTab_learn_16 : decode cTab_learn 16 = .ok (.istore 8, 2) := by decide +kernel
theorem dTab_learn_18 : decode cTab_learn 18 = .ok (.aload_n 1, 1) := by decide +kernel
theorem dTab_learn_19 : decode cTab_learn 19 = .ok (.getfield 86, 3) := by decide +kernel
theorem dTab_learn_22 : decode cTab_learn 22 = .ok (.iload_n 2, 1) := by decide +kernel
theorem dTab_learn_23 : decode cTab_learn 23 = .ok (.iaload, 1) := by decide +kernel
theorem dTab_learn_24 : decode cTab_learn 24 = .ok (.istore 9, 2) := by decide +kernel
theorem dTab_learn_26 : decode cTab_learn 26 = .ok (.iload 9, 2) := by decide +kernel
theorem dTab_learn_28 : decode cTab_learn 28 = .ok (.iload 8, 2) := by decide +kernel
theorem dTab_learn_30 : decode cTab_learn 30 = .ok (.if_icmp .ge 46, 3) := by decide +kernel
theorem dTab_learn_33 : decode cTab_learn 33 = .ok (.aload_n 1, 1) := by decide +kernel
theorem dTab_learn_34 : decode cTab_learn 34 = .ok (.getfield 89, 3) := by decide +kernel
theorem dTab_learn_37 : decode cTab_learn 37 = .ok (.iload 9, 2) := by decide +kernel
theorem dTab_learn_39 : decode cTab_learn 39 = .ok (.iaload, 1) := by decide +kernel
theorem dTab_learn_40 : decode cTab_learn 40 = .ok (.iload_n 3, 1) := by decide +kernel
theorem dTab_learn_41 : decode cTab_learn 41 = .ok (.ixor, 1) := by decide +kernel
theorem dTab_learn_42 : decode cTab_learn 42 = .ok (.istore 10, 2) := by decide +kernel
theorem dTab_learn_44 : decode cTab_learn 44 = .ok (.lload 4, 2) := by decide +kernel
theorem dTab_learn_46 : decode cTab_learn 46 = .ok (.aload_n 0, 1) := by decide +kernel
theorem dTab_learn_47 : decode cTab_learn 47 = .ok (.getfield 9, 3) := by decide +kernel
theorem dTab_learn_50 : decode cTab_learn 50 = .ok (.iload 10, 2) := by decide +kernel
theorem dTab_learn_52 : decode cTab_learn 52 = .ok (.laload, 1) := by decide +kernel
theorem dTab_learn_53 : decode cTab_learn 53 = .ok (.land, 1) := by decide +kernel
theorem dTab_learn_54 : decode cTab_learn 54 = .ok (.lstore 4, 2) := by decide +kernel
theorem dTab_learn_56 : decode cTab_learn 56 = .ok (.lload 6, 2) := by decide +kernel
theorem dTab_learn_58 : decode cTab_learn 58 = .ok (.aload_n 0, 1) := by decide +kernel
theorem dTab_learn_59 : decode cTab_learn 59 = .ok (.getfield 9, 3) := by decide +kernel
theorem dTab_learn_62 : decode cTab_learn 62 = .ok (.iload 10, 2) := by decide +kernel
theorem dTab_learn_64 : decode cTab_learn 64 = .ok (.iconst 1, 1) := by decide +kernel
theorem dTab_learn_65 : decode cTab_learn 65 = .ok (.ixor, 1) := by decide +kernel
theorem dTab_learn_66 : decode cTab_learn 66 = .ok (.laload, 1) := by decide +kernel
theorem dTab_learn_67 : decode cTab_learn 67 = .ok (.lor, 1) := by decide +kernel
theorem dTab_learn_68 : decode cTab_learn 68 = .ok (.lstore 6, 2) := by decide +kernel
theorem dTab_learn_70 : decode cTab_learn 70 = .ok (.iinc 9 1, 3) := by decide +kernel
theorem dTab_learn_73 : decode cTab_learn 73 = .ok (.goto (-47), 3) := by decide +kernel
theorem dTab_learn_76 : decode cTab_learn 76 = .ok (.iload_n 2, 1) := by decide +kernel
theorem dTab_learn_77 : decode cTab_learn 77 = .ok (.iconst 2, 1) := by decide +kernel
theorem dTab_learn_78 : decode cTab_learn 78 = .ok (.imul, 1) := by decide +kernel
theorem dTab_learn_79 : decode cTab_learn 79 = .ok (.iload_n 3, 1) := by decide +kernel
theorem dTab_learn_80 : decode cTab_learn 80 = .ok (.iadd, 1) := by decide +kernel
theorem dTab_learn_81 : decode cTab_learn 81 = .ok (.istore 9, 2) := by decide +kernel
theorem dTab_learn_83 : decode cTab_learn 83 = .ok (.aload_n 0, 1) := by decide +kernel
theorem dTab_learn_84 : decode cTab_learn 84 = .ok (.getfield 9, 3) := by decide +kernel
theorem dTab_learn_87 : decode cTab_learn 87 = .ok (.iload 9, 2) := by decide +kernel
theorem dTab_learn_89 : decode cTab_learn 89 = .ok (.laload, 1) := by decide +kernel
theorem dTab_learn_90 : decode cTab_learn 90 = .ok (.lload 4, 2) := by decide +kernel
theorem dTab_learn_92 : decode cTab_learn 92 = .ok (.lcmp, 1) := by decide +kernel
theorem dTab_learn_93 : decode cTab_learn 93 = .ok (.ifCond .ne 18, 3) := by decide +kernel
theorem dTab_learn_96 : decode cTab_learn 96 = .ok (.aload_n 0, 1) := by decide +kernel
theorem dTab_learn_97 : decode cTab_learn 97 = .ok (.getfield 9, 3) := by decide +kernel
theorem dTab_learn_100 : decode cTab_learn 100 = .ok (.iload 9, 2) := by decide +kernel
theorem dTab_learn_102 : decode cTab_learn 102 = .ok (.iconst 1, 1) := by decide +kernel
theorem dTab_learn_103 : decode cTab_learn 103 = .ok (.ixor, 1) := by decide +kernel
theorem dTab_learn_104 : decode cTab_learn 104 = .ok (.laload, 1) := by decide +kernel
theorem dTab_learn_105 : decode cTab_learn 105 = .ok (.lload 6, 2) := by decide +kernel
theorem dTab_learn_107 : decode cTab_learn 107 = .ok (.lcmp, 1) := by decide +kernel
theorem dTab_learn_108 : decode cTab_learn 108 = .ok (.ifCond .eq 7, 3) := by decide +kernel
theorem dTab_learn_111 : decode cTab_learn 111 = .ok (.iconst 1, 1) := by decide +kernel
theorem dTab_learn_112 : decode cTab_learn 112 = .ok (.goto 4, 3) := by decide +kernel
theorem dTab_learn_115 : decode cTab_learn 115 = .ok (.iconst 0, 1) := by decide +kernel
theorem dTab_learn_116 : decode cTab_learn 116 = .ok (.istore 10, 2) := by decide +kernel
theorem dTab_learn_118 : decode cTab_learn 118 = .ok (.aload_n 0, 1) := by decide +kernel
theorem dTab_learn_119 : decode cTab_learn 119 = .ok (.getfield 9, 3) := by decide +kernel
theorem dTab_learn_122 : decode cTab_learn 122 = .ok (.iload 9, 2) := by decide +kernel
theorem dTab_learn_124 : decode cTab_learn 124 = .ok (.lload 4, 2) := by decide +kernel
theorem dTab_learn_126 : decode cTab_learn 126 = .ok (.lastore, 1) := by decide +kernel
theorem dTab_learn_127 : decode cTab_learn 127 = .ok (.aload_n 0, 1) := by decide +kernel
theorem dTab_learn_128 : decode cTab_learn 128 = .ok (.getfield 9, 3) := by decide +kernel
theorem dTab_learn_131 : decode cTab_learn 131 = .ok (.iload 9, 2) := by decide +kernel
theorem dTab_learn_133 : decode cTab_learn 133 = .ok (.iconst 1, 1) := by decide +kernel
theorem dTab_learn_134 : decode cTab_learn 134 = .ok (.ixor, 1) := by decide +kernel
theorem dTab_learn_135 : decode cTab_learn 135 = .ok (.lload 6, 2) := by decide +kernel
theorem dTab_learn_137 : decode cTab_learn 137 = .ok (.lastore, 1) := by decide +kernel
theorem dTab_learn_138 : decode cTab_learn 138 = .ok (.iload 10, 2) := by decide +kernel
theorem dTab_learn_140 : decode cTab_learn 140 = .ok (.ireturn, 1) := by decide +kernel
theorem dTab_keep_0 : decode cTab_keep 0 = .ok (.ldc2_w 73, 3) := by decide +kernel
theorem dTab_keep_3 : decode cTab_keep 3 = .ok (.lstore_n 3, 1) := by decide +kernel
theorem dTab_keep_4 : decode cTab_keep 4 = .ok (.iconst 0, 1) := by decide +kernel
theorem dTab_keep_5 : decode cTab_keep 5 = .ok (.istore 5, 2) := by decide +kernel
theorem dTab_keep_7 : decode cTab_keep 7 = .ok (.iload 5, 2) := by decide +kernel
theorem dTab_keep_9 : decode cTab_keep 9 = .ok (.aload_n 1, 1) := by decide +kernel
theorem dTab_keep_10 : decode cTab_keep 10 = .ok (.getfield 52, 3) := by decide +kernel
theorem dTab_keep_13 : decode cTab_keep 13 = .ok (.if_icmp .ge 54, 3) := by decide +kernel
theorem dTab_keep_16 : decode cTab_keep 16 = .ok (.lload_n 3, 1) := by decide +kernel
theorem dTab_keep_17 : decode cTab_keep 17 = .ok (.aload_n 0, 1) := by decide +kernel
theorem dTab_keep_18 : decode cTab_keep 18 = .ok (.getfield 9, 3) := by decide +kernel
theorem dTab_keep_21 : decode cTab_keep 21 = .ok (.iload 5, 2) := by decide +kernel
theorem dTab_keep_23 : decode cTab_keep 23 = .ok (.iconst 2, 1) := by decide +kernel
theorem dTab_keep_24 : decode cTab_keep 24 = .ok (.imul, 1) := by decide +kernel
theorem dTab_keep_25 : decode cTab_keep 25 = .ok (.laload, 1) := by decide +kernel
theorem dTab_keep_26 : decode cTab_keep 26 = .ok (.aload_n 0, 1) := by decide +kernel
theorem dTab_keep_27 : decode cTab_keep 27 = .ok (.getfield 9, 3) := by decide +kernel
theorem dTab_keep_30 : decode cTab_keep 30 = .ok (.iload 5, 2) := by decide +kernel
theorem dTab_keep_32 : decode cTab_keep 32 = .ok (.iconst 2, 1) := by decide +kernel
theorem dTab_keep_33 : decode cTab_keep 33 = .ok (.imul, 1) := by decide +kernel
theorem dTab_keep_34 : decode cTab_keep 34 = .ok (.iconst 1, 1) := by decide +kernel
theorem dTab_keep_35 : decode cTab_keep 35 = .ok (.iadd, 1) := by decide +kernel
theorem dTab_keep_36 : decode cTab_keep 36 = .ok (.laload, 1) := by decide +kernel
theorem dTab_keep_37 : decode cTab_keep 37 = .ok (.lor, 1) := by decide +kernel
theorem dTab_keep_38 : decode cTab_keep 38 = .ok (.land, 1) := by decide +kernel
theorem dTab_keep_39 : decode cTab_keep 39 = .ok (.lstore_n 3, 1) := by decide +kernel
theorem dTab_keep_40 : decode cTab_keep 40 = .ok (.aload_n 0, 1) := by decide +kernel
theorem dTab_keep_41 : decode cTab_keep 41 = .ok (.getfield 18, 3) := by decide +kernel
theorem dTab_keep_44 : decode cTab_keep 44 = .ok (.iload 5, 2) := by decide +kernel
theorem dTab_keep_46 : decode cTab_keep 46 = .ok (.bipush 64, 2) := by decide +kernel
theorem dTab_keep_48 : decode cTab_keep 48 = .ok (.imul, 1) := by decide +kernel
theorem dTab_keep_49 : decode cTab_keep 49 = .ok (.iload_n 2, 1) := by decide +kernel
theorem dTab_keep_50 : decode cTab_keep 50 = .ok (.iadd, 1) := by decide +kernel
theorem dTab_keep_51 : decode cTab_keep 51 = .ok (.aload_n 0, 1) := by decide +kernel
theorem dTab_keep_52 : decode cTab_keep 52 = .ok (.getfield 9, 3) := by decide +kernel
theorem dTab_keep_55 : decode cTab_keep 55 = .ok (.iload 5, 2) := by decide +kernel
theorem dTab_keep_57 : decode cTab_keep 57 = .ok (.iconst 2, 1) := by decide +kernel
theorem dTab_keep_58 : decode cTab_keep 58 = .ok (.imul, 1) := by decide +kernel
theorem dTab_keep_59 : decode cTab_keep 59 = .ok (.laload, 1) := by decide +kernel
theorem dTab_keep_60 : decode cTab_keep 60 = .ok (.lastore, 1) := by decide +kernel
theorem dTab_keep_61 : decode cTab_keep 61 = .ok (.iinc 5 1, 3) := by decide +kernel
theorem dTab_keep_64 : decode cTab_keep 64 = .ok (.goto (-57), 3) := by decide +kernel
theorem dTab_keep_67 : decode cTab_keep 67 = .ok (.aload_n 0, 1) := by decide +kernel
theorem dTab_keep_68 : decode cTab_keep 68 = .ok (.getfield 15, 3) := by decide +kernel
theorem dTab_keep_71 : decode cTab_keep 71 = .ok (.iload_n 2, 1) := by decide +kernel
theorem dTab_keep_72 : decode cTab_keep 72 = .ok (.lload_n 3, 1) := by decide +kernel
theorem dTab_keep_73 : decode cTab_keep 73 = .ok (.lastore, 1) := by decide +kernel
theorem dTab_keep_74 : decode cTab_keep 74 = .ok (.return_, 1) := by decide +kernel
theorem dTab_findNext_0 : decode cTab_findNext 0 = .ok (.iload_n 2, 1) := by decide +kernel
theorem dTab_findNext_1 : decode cTab_findNext 1 = .ok (.invokestatic 92, 3) := by decide +kernel
theorem dTab_findNext_4 : decode cTab_findNext 4 = .ok (.istore 4, 2) := by decide +kernel
theorem dTab_findNext_6 : decode cTab_findNext 6 = .ok (.iload_n 2, 1) := by decide +kernel
theorem dTab_findNext_7 : decode cTab_findNext 7 = .ok (.invokestatic 96, 3) := by decide +kernel
theorem dTab_findNext_10 : decode cTab_findNext 10 = .ok (.iload_n 3, 1) := by decide +kernel
theorem dTab_findNext_11 : decode cTab_findNext 11 = .ok (.iadd, 1) := by decide +kernel
theorem dTab_findNext_12 : decode cTab_findNext 12 = .ok (.istore 5, 2) := by decide +kernel
theorem dTab_findNext_14 : decode cTab_findNext 14 = .ok (.aload_n 0, 1) := by decide +kernel
theorem dTab_findNext_15 : decode cTab_findNext 15 = .ok (.getfield 15, 3) := by decide +kernel
theorem dTab_findNext_18 : decode cTab_findNext 18 = .ok (.iload 4, 2) := by decide +kernel
theorem dTab_findNext_20 : decode cTab_findNext 20 = .ok (.laload, 1) := by decide +kernel
theorem dTab_findNext_21 : decode cTab_findNext 21 = .ok (.iload 5, 2) := by decide +kernel
theorem dTab_findNext_23 : decode cTab_findNext 23 = .ok (.lushr, 1) := by decide +kernel
theorem dTab_findNext_24 : decode cTab_findNext 24 = .ok (.lconst 1, 1) := by decide +kernel
theorem dTab_findNext_25 : decode cTab_findNext 25 = .ok (.land, 1) := by decide +kernel
theorem dTab_findNext_26 : decode cTab_findNext 26 = .ok (.lconst 0, 1) := by decide +kernel
theorem dTab_findNext_27 : decode cTab_findNext 27 = .ok (.lcmp, 1) := by decide +kernel
theorem dTab_findNext_28 : decode cTab_findNext 28 = .ok (.ifCond .ne 5, 3) := by decide +kernel
theorem dTab_findNext_31 : decode cTab_findNext 31 = .ok (.iconst (-1), 1) := by decide +kernel
theorem dTab_findNext_32 : decode cTab_findNext 32 = .ok (.ireturn, 1) := by decide +kernel
theorem dTab_findNext_33 : decode cTab_findNext 33 = .ok (.iconst 0, 1) := by decide +kernel
theorem dTab_findNext_34 : decode cTab_findNext 34 = .ok (.istore 6, 2) := by decide +kernel
theorem dTab_findNext_36 : decode cTab_findNext 36 = .ok (.iconst 0, 1) := by decide +kernel
theorem dTab_findNext_37 : decode cTab_findNext 37 = .ok (.istore 7, 2) := by decide +kernel
theorem dTab_findNext_39 : decode cTab_findNext 39 = .ok (.iload 7, 2) := by decide +kernel
theorem dTab_findNext_41 : decode cTab_findNext 41 = .ok (.aload_n 1, 1) := by decide +kernel
theorem dTab_findNext_42 : decode cTab_findNext 42 = .ok (.getfield 99, 3) := by decide +kernel
theorem dTab_findNext_45 : decode cTab_findNext 45 = .ok (.if_icmp .ge 54, 3) := by decide +kernel
theorem dTab_findNext_48 : decode cTab_findNext 48 = .ok (.aload_n 1, 1) := by decide +kernel
theorem dTab_findNext_49 : decode cTab_findNext 49 = .ok (.getfield 102, 3) := by decide +kernel
theorem dTab_findNext_52 : decode cTab_findNext 52 = .ok (.iload 7, 2) := by decide +kernel
theorem dTab_findNext_54 : decode cTab_findNext 54 = .ok (.iaload, 1) := by decide +kernel
theorem dTab_findNext_55 : decode cTab_findNext 55 = .ok (.istore 8, 2) := by decide +kernel
theorem dTab_findNext_57 : decode cTab_findNext 57 = .ok (.aload_n 0, 1) := by decide +kernel
theorem dTab_findNext_58 : decode cTab_findNext 58 = .ok (.getfield 18, 3) := by decide +kernel
theorem dTab_findNext_61 : decode cTab_findNext 61 = .ok (.iload 8, 2) := by decide +kernel
theorem dTab_findNext_63 : decode cTab_findNext 63 = .ok (.iconst 1, 1) := by decide +kernel
theorem dTab_findNext_64 : decode cTab_findNext 64 = .ok (.ishr, 1) := by decide +kernel
theorem dTab_findNext_65 : decode cTab_findNext 65 = .ok (.bipush 64, 2) := by decide +kernel
theorem dTab_findNext_67 : decode cTab_findNext 67 = .ok (.imul, 1) := by decide +kernel
theorem dTab_findNext_68 : decode cTab_findNext 68 = .ok (.iload 4, 2) := by decide +kernel
theorem dTab_findNext_70 : decode cTab_findNext 70 = .ok (.iadd, 1) := by decide +kernel
theorem dTab_findNext_71 : decode cTab_findNext 71 = .ok (.laload, 1) := by decide +kernel
theorem dTab_findNext_72 : decode cTab_findNext 72 = .ok (.iload 5, 2) := by decide +kernel
theorem dTab_findNext_74 : decode cTab_findNext 74 = .ok (.lushr, 1) := by decide +kernel
theorem dTab_findNext_75 : decode cTab_findNext 75 = .ok (.lstore 9, 2) := by decide +kernel
theorem dTab_findNext_77 : decode cTab_findNext 77 = .ok (.iload 6, 2) := by decide +kernel
theorem dTab_findNext_79 : decode cTab_findNext 79 = .ok (.lload 9, 2) := by decide +kernel
theorem dTab_findNext_81 : decode cTab_findNext 81 = .ok (.l2i, 1) := by decide +kernel
theorem dTab_findNext_82 : decode cTab_findNext 82 = .ok (.iload 8, 2) := by decide +kernel
theorem dTab_findNext_84 : decode cTab_findNext 84 = .ok (.ixor, 1) := by decide +kernel
theorem dTab_findNext_85 : decode cTab_findNext 85 = .ok (.iconst 1, 1) := by decide +kernel
theorem dTab_findNext_86 : decode cTab_findNext 86 = .ok (.iand, 1) := by decide +kernel
theorem dTab_findNext_87 : decode cTab_findNext 87 = .ok (.iload 7, 2) := by decide +kernel
theorem dTab_findNext_89 : decode cTab_findNext 89 = .ok (.ishl, 1) := by decide +kernel
theorem dTab_findNext_90 : decode cTab_findNext 90 = .ok (.ior, 1) := by decide +kernel
theorem dTab_findNext_91 : decode cTab_findNext 91 = .ok (.istore 6, 2) := by decide +kernel
theorem dTab_findNext_93 : decode cTab_findNext 93 = .ok (.iinc 7 1, 3) := by decide +kernel
theorem dTab_findNext_96 : decode cTab_findNext 96 = .ok (.goto (-57), 3) := by decide +kernel
theorem dTab_findNext_99 : decode cTab_findNext 99 = .ok (.iload 6, 2) := by decide +kernel
theorem dTab_findNext_101 : decode cTab_findNext 101 = .ok (.ireturn, 1) := by decide +kernel
theorem dTab_nextOf_0 : decode cTab_nextOf 0 = .ok (.aload_n 0, 1) := by decide +kernel
theorem dTab_nextOf_1 : decode cTab_nextOf 1 = .ok (.getfield 21, 3) := by decide +kernel
theorem dTab_nextOf_4 : decode cTab_nextOf 4 = .ok (.iload_n 1, 1) := by decide +kernel
theorem dTab_nextOf_5 : decode cTab_nextOf 5 = .ok (.bipush 16, 2) := by decide +kernel
theorem dTab_nextOf_7 : decode cTab_nextOf 7 = .ok (.imul, 1) := by decide +kernel
theorem dTab_nextOf_8 : decode cTab_nextOf 8 = .ok (.iload_n 2, 1) := by decide +kernel
theorem dTab_nextOf_9 : decode cTab_nextOf 9 = .ok (.iadd, 1) := by decide +kernel
theorem dTab_nextOf_10 : decode cTab_nextOf 10 = .ok (.iaload, 1) := by decide +kernel
theorem dTab_nextOf_11 : decode cTab_nextOf 11 = .ok (.ireturn, 1) := by decide +kernel
theorem dTab_settledIn_0 : decode cTab_settledIn 0 = .ok (.aload_n 0, 1) := by decide +kernel
theorem dTab_settledIn_1 : decode cTab_settledIn 1 = .ok (.getfield 15, 3) := by decide +kernel
theorem dTab_settledIn_4 : decode cTab_settledIn 4 = .ok (.iload_n 1, 1) := by decide +kernel
theorem dTab_settledIn_5 : decode cTab_settledIn 5 = .ok (.invokestatic 92, 3) := by decide +kernel
theorem dTab_settledIn_8 : decode cTab_settledIn 8 = .ok (.laload, 1) := by decide +kernel
theorem dTab_settledIn_9 : decode cTab_settledIn 9 = .ok (.iload_n 1, 1) := by decide +kernel
theorem dTab_settledIn_10 : decode cTab_settledIn 10 = .ok (.invokestatic 96, 3) := by decide +kernel
theorem dTab_settledIn_13 : decode cTab_settledIn 13 = .ok (.lushr, 1) := by decide +kernel
theorem dTab_settledIn_14 : decode cTab_settledIn 14 = .ok (.l2i, 1) := by decide +kernel
theorem dTab_settledIn_15 : decode cTab_settledIn 15 = .ok (.ldc 105, 2) := by decide +kernel
theorem dTab_settledIn_17 : decode cTab_settledIn 17 = .ok (.iand, 1) := by decide +kernel
theorem dTab_settledIn_18 : decode cTab_settledIn 18 = .ok (.ireturn, 1) := by decide +kernel
theorem dTab_onesIn_0 : decode cTab_onesIn 0 = .ok (.aload_n 0, 1) := by decide +kernel
theorem dTab_onesIn_1 : decode cTab_onesIn 1 = .ok (.getfield 18, 3) := by decide +kernel
theorem dTab_onesIn_4 : decode cTab_onesIn 4 = .ok (.iload_n 1, 1) := by decide +kernel
theorem dTab_onesIn_5 : decode cTab_onesIn 5 = .ok (.bipush 64, 2) := by decide +kernel
theorem dTab_onesIn_7 : decode cTab_onesIn 7 = .ok (.imul, 1) := by decide +kernel
theorem dTab_onesIn_8 : decode cTab_onesIn 8 = .ok (.iload_n 2, 1) := by decide +kernel
theorem dTab_onesIn_9 : decode cTab_onesIn 9 = .ok (.invokestatic 92, 3) := by decide +kernel
theorem dTab_onesIn_12 : decode cTab_onesIn 12 = .ok (.iadd, 1) := by decide +kernel
theorem dTab_onesIn_13 : decode cTab_onesIn 13 = .ok (.laload, 1) := by decide +kernel
theorem dTab_onesIn_14 : decode cTab_onesIn 14 = .ok (.iload_n 2, 1) := by decide +kernel
theorem dTab_onesIn_15 : decode cTab_onesIn 15 = .ok (.invokestatic 96, 3) := by decide +kernel
theorem dTab_onesIn_18 : decode cTab_onesIn 18 = .ok (.lushr, 1) := by decide +kernel
theorem dTab_onesIn_19 : decode cTab_onesIn 19 = .ok (.l2i, 1) := by decide +kernel
theorem dTab_onesIn_20 : decode cTab_onesIn 20 = .ok (.ldc 105, 2) := by decide +kernel
theorem dTab_onesIn_22 : decode cTab_onesIn 22 = .ok (.iand, 1) := by decide +kernel
theorem dTab_onesIn_23 : decode cTab_onesIn 23 = .ok (.ireturn, 1) := by decide +kernel
abbrev cWlk_init : ByteArray := prog_5_method_1_code
def yWlk_init : MethodName := ⟨"StateExplorer$Walk", "<init>", "()V"⟩
def wsWlk_init : List Cond := Cond.code yWlk_init cWlk_init 1 (none : Option Jvm.ClassFile.FieldType) :: tb
theorem tcWlk_init : Cond.code yWlk_init cWlk_init 1 (none : Option Jvm.ClassFile.FieldType) ∈ tb := tw_133
abbrev cWlk_run : ByteArray := prog_5_method_2_code
def yWlk_run : MethodName := ⟨"StateExplorer$Walk", "run", "(LStateExplorer$Net;LStateExplorer$Table;)V"⟩
def wsWlk_run : List Cond := Cond.code yWlk_run cWlk_run 5 (none : Option Jvm.ClassFile.FieldType) :: tb
theorem tcWlk_run : Cond.code yWlk_run cWlk_run 5 (none : Option Jvm.ClassFile.FieldType) ∈ tb := tw_284
abbrev cWlk_forget : ByteArray := prog_5_method_3_code
def yWlk_forget : MethodName := ⟨"StateExplorer$Walk", "forget", "(LStateExplorer$Net;)V"⟩
def wsWlk_forget : List Cond := Cond.code yWlk_forget cWlk_forget 4 (none : Option Jvm.ClassFile.FieldType) :: tb
theorem tcWlk_forget : Cond.code yWlk_forget cWlk_forget 4 (none : Option Jvm.ClassFile.FieldType) ∈ tb := tw_288
abbrev cWlk_reach : ByteArray := prog_5_method_4_code
def yWlk_reach : MethodName := ⟨"StateExplorer$Walk", "reach", "(IIII)V"⟩
def wsWlk_reach : List Cond := Cond.code yWlk_reach cWlk_reach 5 (none : Option Jvm.ClassFile.FieldType) :: tb
theorem tcWlk_reach : Cond.code yWlk_reach cWlk_reach 5 (none : Option Jvm.ClassFile.FieldType) ∈ tb := tw_294
abbrev cWlk_leave : ByteArray := prog_5_method_5_code
def yWlk_leave : MethodName := ⟨"StateExplorer$Walk", "leave", "(LStateExplorer$Table;II)V"⟩
def wsWlk_leave : List Cond := Cond.code yWlk_leave cWlk_leave 6 (none : Option Jvm.ClassFile.FieldType) :: tb
theorem tcWlk_leave : Cond.code yWlk_leave cWlk_leave 6 (none : Option Jvm.ClassFile.FieldType) ∈ tb := tw_299
abbrev cWlk_noteDoubt : ByteArray := prog_5_method_6_code
def yWlk_noteDoubt : MethodName := ⟨"StateExplorer$Walk", "noteDoubt", "(II)V"⟩
def wsWlk_noteDoubt : List Cond := Cond.code yWlk_noteDoubt cWlk_noteDoubt 3 (none : Option Jvm.ClassFile.FieldType) :: tb
theorem tcWlk_noteDoubt : Cond.code yWlk_noteDoubt cWlk_noteDoubt 3 (none : Option Jvm.ClassFile.FieldType) ∈ tb := tw_314
abbrev cWlk_stepOfWay : ByteArray := prog_5_method_7_code
def yWlk_stepOfWay : MethodName := ⟨"StateExplorer$Walk", "stepOfWay", "(II)I"⟩
def wsWlk_stepOfWay : List Cond := Cond.code yWlk_stepOfWay cWlk_stepOfWay 6 (some .int) :: tb
theorem tcWlk_stepOfWay : Cond.code yWlk_stepOfWay cWlk_stepOfWay 6 (some .int) ∈ tb := tw_544
abbrev cWlk_reachedAt : ByteArray := prog_5_method_8_code
def yWlk_reachedAt : MethodName := ⟨"StateExplorer$Walk", "reachedAt", "(I)I"⟩
def wsWlk_reachedAt : List Cond := Cond.code yWlk_reachedAt cWlk_reachedAt 4 (some .int) :: tb
theorem tcWlk_reachedAt : Cond.code yWlk_reachedAt cWlk_reachedAt 4 (some .int) ∈ tb := tw_555
abbrev cWlk_greatestDistance : ByteArray := prog_5_method_9_code
def yWlk_greatestDistance : MethodName := ⟨"StateExplorer$Walk", "greatestDistance", "()I"⟩
def wsWlk_greatestDistance : List Cond := Cond.code yWlk_greatestDistance cWlk_greatestDistance 1 (some .int) :: tb
theorem tcWlk_greatestDistance : Cond.code yWlk_greatestDistance cWlk_greatestDistance 1 (some .int) ∈ tb := tw_360
abbrev cWlk_isEver : ByteArray := prog_5_method_10_code
def yWlk_isEver : MethodName := ⟨"StateExplorer$Walk", "isEver", "(LStateExplorer$Table;II)Z"⟩
def wsWlk_isEver : List Cond := Cond.code yWlk_isEver cWlk_isEver 9 (some .boolean) :: tb
theorem tcWlk_isEver : Cond.code yWlk_isEver cWlk_isEver 9 (some .boolean) ∈ tb := tw_584
abbrev cWlk_everDiffer : ByteArray := prog_5_method_11_code
def yWlk_everDiffer : MethodName := ⟨"StateExplorer$Walk", "everDiffer", "(LStateExplorer$Table;II)Z"⟩
def wsWlk_everDiffer : List Cond := Cond.code yWlk_everDiffer cWlk_everDiffer 7 (some .boolean) :: tb
theorem tcWlk_everDiffer : Cond.code yWlk_everDiffer cWlk_everDiffer 7 (some .boolean) ∈ tb := tw_596
theorem dWlk_init_0 : decode cWlk_init 0 = .ok (.aload_n 0, 1) := by decide +kernel
theorem dWlk_init_1 : decode cWlk_init 1 = .ok (.invokespecial 3, 3) := by decide +kernel
theorem dWlk_init_4 : decode cWlk_init 4 = .ok (.aload_n 0, 1) := by decide +kernel
theorem dWlk_init_5 : decode cWlk_init 5 = .ok (.sipush 256, 3) := by decide +kernel
theorem dWlk_init_8 : decode cWlk_init 8 = .ok (.newarray .int, 2) := by decide +kernel
theorem dWlk_init_10 : decode cWlk_init 10 = .ok (.putfield 9, 3) := by decide +kernel
theorem dWlk_init_13 : decode cWlk_init 13 = .ok (.aload_n 0, 1) := by decide +kernel
theorem dWlk_init_14 : decode cWlk_init 14 = .ok (.sipush 256, 3) := by decide +kernel
theorem dWlk_init_17 : decode cWlk_init 17 = .ok (.newarray .int, 2) := by decide +kernel
theorem dWlk_init_19 : decode cWlk_init 19 = .ok (.putfield 15, 3) := by decide +kernel
theorem dWlk_init_22 : decode cWlk_init 22 = .ok (.aload_n 0, 1) := by decide +kernel
theorem dWlk_init_23 : decode cWlk_init 23 = .ok (.sipush 256, 3) := by decide +kernel
theorem dWlk_init_26 : decode cWlk_init 26 = .ok (.newarray .int, 2) := by decide +kernel
theorem dWlk_init_28 : decode cWlk_init 28 = .ok (.putfield 18, 3) := by decide +kernel
theorem dWlk_init_31 : decode cWlk_init 31 = .ok (.aload_n 0, 1) := by decide +kernel
theorem dWlk_init_32 : decode cWlk_init 32 = .ok (.sipush 256, 3) := by decide +kernel
theorem dWlk_init_35 : decode cWlk_init 35 = .ok (.newarray .int, 2) := by decide +kernel
theorem dWlk_init_37 : decode cWlk_init 37 = .ok (.putfield 21, 3) := by decide +kernel
theorem dWlk_init_40 : decode cWlk_init 40 = .ok (.aload_n 0, 1) := by decide +kernel
theorem dWlk_init_41 : decode cWlk_init 41 = .ok (.bipush 64, 2) := by decide +kernel
theorem dWlk_init_43 : decode cWlk_init 43 = .ok (.newarray .long, 2) := by decide +kernel
theorem dWlk_init_45 : decode cWlk_init 45 = .ok (.putfield 24, 3) := by decide +kernel
theorem dWlk_init_48 : decode cWlk_init 48 = .ok (.aload_n 0, 1) := by decide +kernel
theorem dWlk_init_49 : decode cWlk_init 49 = .ok (.iconst 0, 1) := by decide +kernel
theorem dWlk_init_50 : decode cWlk_init 50 = .ok (.putfield 28, 3) := by decide +kernel
theorem dWlk_init_53 : decode cWlk_init 53 = .ok (.aload_n 0, 1) := by decide +kernel
theorem dWlk_init_54 : decode cWlk_init 54 = .ok (.iconst 0, 1) := by decide +kernel
theorem dWlk_init_55 : decode cWlk_init 55 = .ok (.putfield 32, 3) := by decide +kernel
theorem dWlk_init_58 : decode cWlk_init 58 = .ok (.aload_n 0, 1) := by decide +kernel
theorem dWlk_init_59 : decode cWlk_init 59 = .ok (.iconst 0, 1) := by decide +kernel
theorem dWlk_init_60 : decode cWlk_init 60 = .ok (.putfield 35, 3) := by decide +kernel
theorem dWlk_init_63 : decode cWlk_init 63 = .ok (.aload_n 0, 1) := by decide +kernel
theorem dWlk_init_64 : decode cWlk_init 64 = .ok (.iconst (-1), 1) := by decide +kernel
theorem dWlk_init_65 : decode cWlk_init 65 = .ok (.putfield 38, 3) := by decide +kernel
theorem dWlk_init_68 : decode cWlk_init 68 = .ok (.aload_n 0, 1) := by decide +kernel
theorem dWlk_init_69 : decode cWlk_init 69 = .ok (.iconst (-1), 1) := by decide +kernel
theorem dWlk_init_70 : decode cWlk_init 70 = .ok (.putfield 41, 3) := by decide +kernel
theorem dWlk_init_73 : decode cWlk_init 73 = .ok (.return_, 1) := by decide +kernel
theorem dWlk_run_0 : decode cWlk_run 0 = .ok (.aload_n 0, 1) := by decide +kernel
theorem dWlk_run_1 : decode cWlk_run 1 = .ok (.aload_n 1, 1) := by decide +kernel
theorem dWlk_run_2 : decode cWlk_run 2 = .ok (.invokevirtual 44, 3) := by decide +kernel
theorem dWlk_run_5 : decode cWlk_run 5 = .ok (.aload_n 0, 1) := by decide +kernel
theorem dWlk_run_6 : decode cWlk_run 6 = .ok (.iconst 0, 1) := by decide +kernel
theorem dWlk_run_7 : decode cWlk_run 7 = .ok (.iconst 0, 1) := by decide +kernel
theorem dWlk_run_8 : decode cWlk_run 8 = .ok (.iconst (-1), 1) := by decide +kernel
theorem dWlk_run_9 : decode cWlk_run 9 = .ok (.iconst (-1), 1) := by decide +kernel
theorem dWlk_run_10 : decode cWlk_run 10 = .ok (.invokevirtual 48, 3) := by decide +kernel
theorem dWlk_run_13 : decode cWlk_run 13 = .ok (.aload_n 1, 1) := by decide +kernel
theorem dWlk_run_14 : decode cWlk_run 14 = .ok (.invokevirtual 52, 3) := by decide +kernel
theorem dWlk_run_17 : decode cWlk_run 17 = .ok (.istore_n 3, 1) := by decide +kernel
theorem dWlk_run_18 : decode cWlk_run 18 = .ok (.iconst 0, 1) := by decide +kernel
theorem dWlk_run_19 : decode cWlk_run 19 = .ok (.istore 4, 2) := by decide +kernel
theorem dWlk_run_21 : decode cWlk_run 21 = .ok (.iload 4, 2) := by decide +kernel
theorem dWlk_run_23 : decode cWlk_run 23 = .ok (.aload_n 0, 1) := by decide +kernel
theorem dWlk_run_24 : decode cWlk_run 24 = .ok (.getfield 32, 3) := by decide +kernel
theorem dWlk_run_27 : decode cWlk_run 27 = .ok (.if_icmp .ge 30, 3) := by decide +kernel
theorem dWlk_run_30 : decode cWlk_run 30 = .ok (.iload 4, 2) := by decide +kernel
theorem dWlk_run_32 : decode cWlk_run 32 = .ok (.sipush 256, 3) := by decide +kernel
theorem dWlk_run_35 : decode cWlk_run 35 = .ok (.if_icmp .ge 22, 3) := by decide +kernel
theorem dWlk_run_38 : decode cWlk_run 38 = .ok (.aload_n 0, 1) := by decide +kernel
theorem dWlk_run_39 : decode cWlk_run 39 = .ok (.aload_n 2, 1) := by decide +kernel
theorem dWlk_run_40 : decode cWlk_run 40 = .ok (.aload_n 0, 1) := by decide +kernel
theorem dWlk_run_41 : decode cWlk_run 41 = .ok (.getfield 15, 3) := by decide +kernel
theorem dWlk_run_44 : decode cWlk_run 44 = .ok (.iload 4, 2) := by decide +kernel
theorem dWlk_run_46 : decode cWlk_run 46 = .ok (.iaload, 1) := by decide +kernel
theorem dWlk_run_47 : decode cWlk_run 47 = .ok (.iload_n 3, 1) := by decide +kernel
theorem dWlk_run_48 : decode cWlk_run 48 = .ok (.invokevirtual 58, 3) := by decide +kernel
theorem dWlk_run_51 : decode cWlk_run 51 = .ok (.iinc 4 1, 3) := by decide +kernel
theorem dWlk_run_54 : decode cWlk_run 54 = .ok (.goto (-33), 3) := by decide +kernel
theorem dWlk_run_57 : decode cWlk_run 57 = .ok (.return_, 1) := by decide +kernel
theorem dWlk_forget_0 : decode cWlk_forget 0 = .ok (.aload_n 1, 1) := by decide +kernel
theorem dWlk_forget_1 : decode cWlk_forget 1 = .ok (.invokevirtual 62, 3) := by decide +kernel
theorem dWlk_forget_4 : decode cWlk_forget 4 = .ok (.istore_n 2, 1) := by decide +kernel
theorem dWlk_forget_5 : decode cWlk_forget 5 = .ok (.iconst 0, 1) := by decide +kernel
theorem dWlk_forget_6 : decode cWlk_forget 6 = .ok (.istore_n 3, 1) := by decide +kernel
theorem dWlk_forget_7 : decode cWlk_forget 7 = .ok (.iload_n 3, 1) := by decide +kernel
theorem dWlk_forget_8 : decode cWlk_forget 8 = .ok (.iload_n 2, 1) := by decide +kernel
theorem dWlk_forget_9 : decode cWlk_forget 9 = .ok (.if_icmp .ge 16, 3) := by decide +kernel
theorem dWlk_forget_12 : decode cWlk_forget 12 = .ok (.aload_n 0, 1) := by decide +kernel
theorem dWlk_forget_13 : decode cWlk_forget 13 = .ok (.getfield 9, 3) := by decide +kernel
theorem dWlk_forget_16 : decode cWlk_forget 16 = .ok (.iload_n 3, 1) := by decide +kernel
theorem dWlk_forget_17 : decode cWlk_forget 17 = .ok (.iconst (-1), 1) := by decide +kernel
theorem dWlk_forget_18 : decode cWlk_forget 18 = .ok (.iastore, 1) := by decide +kernel
theorem dWlk_forget_19 : decode cWlk_forget 19 = .ok (.iinc 3 1, 3) := by decide +kernel
theorem dWlk_forget_22 : decode cWlk_forget 22 = .ok (.goto (-15), 3) := by decide +kernel
theorem dWlk_forget_25 : decode cWlk_forget 25 = .ok (.aload_n 0, 1) := by decide +kernel
theorem dWlk_forget_26 : decode cWlk_forget 26 = .ok (.aload_n 1, 1) := by decide +kernel
theorem dWlk_forget_27 : decode cWlk_forget 27 = .ok (.invokevirtual 65, 3) := by decide +kernel
theorem dWlk_forget_30 : decode cWlk_forget 30 = .ok (.putfield 28, 3) := by decide +kernel
theorem dWlk_forget_33 : decode cWlk_forget 33 = .ok (.iconst 0, 1) := by decide +kernel
theorem dWlk_forget_34 : decode cWlk_forget 34 = .ok (.istore_n 3, 1) := by decide +kernel
theorem dWlk_forget_35 : decode cWlk_forget 35 = .ok (.iload_n 3, 1) := by decide +kernel
theorem dWlk_forget_36 : decode cWlk_forget 36 = .ok (.aload_n 0, 1) := by decide +kernel
theorem dWlk_forget_37 : decode cWlk_forget 37 = .ok (.getfield 28, 3) := by decide +kernel
theorem dWlk_forget_40 : decode cWlk_forget 40 = .ok (.if_icmp .ge 16, 3) := by decide +kernel
theorem dWlk_forget_43 : decode cWlk_forget 43 = .ok (.aload_n 0, 1) := by decide +kernel
theorem dWlk_forget_44 : decode cWlk_forget 44 = .ok (.getfield 24, 3) := by decide +kernel
theorem dWlk_forget_47 : decode cWlk_forget 47 = .ok (.iload_n 3, 1) := by decide +kernel
theorem dWlk_forget_48 : decode cWlk_forget 48 = .ok (.lconst 0, 1) := by decide +kernel
theorem dWlk_forget_49 : decode cWlk_forget 49 = .ok (.lastore, 1) := by decide +kernel
theorem dWlk_forget_50 : decode cWlk_forget 50 = .ok (.iinc 3 1, 3) := by decide +kernel
theorem dWlk_forget_53 : decode cWlk_forget 53 = .ok (.goto (-18), 3) := by decide +kernel
theorem dWlk_forget_56 : decode cWlk_forget 56 = .ok (.aload_n 0, 1) := by decide +kernel
theorem dWlk_forget_57 : decode cWlk_forget 57 = .ok (.iconst 0, 1) := by decide +kernel
theorem dWlk_forget_58 : decode cWlk_forget 58 = .ok (.putfield 32, 3) := by decide +kernel
theorem dWlk_forget_61 : decode cWlk_forget 61 = .ok (.aload_n 0, 1) := by decide +kernel
theorem dWlk_forget_62 : decode cWlk_forget 62 = .ok (.iconst 0, 1) := by decide +kernel
theorem dWlk_forget_63 : decode cWlk_forget 63 = .ok (.putfield 35, 3) := by decide +kernel
theorem dWlk_forget_66 : decode cWlk_forget 66 = .ok (.aload_n 0, 1) := by decide +kernel
theorem dWlk_forget_67 : decode cWlk_forget 67 = .ok (.iconst (-1), 1) := by decide +kernel
theorem dWlk_forget_68 : decode cWlk_forget 68 = .ok (.putfield 38, 3) := by decide +kernel
theorem dWlk_forget_71 : decode cWlk_forget 71 = .ok (.aload_n 0, 1) := by decide +kernel
theorem dWlk_forget_72 : decode cWlk_forget 72 = .ok (.iconst (-1), 1) := by decide +kernel
theorem dWlk_forget_73 : decode cWlk_forget 73 = .ok (.putfield 41, 3) := by decide +kernel
theorem dWlk_forget_76 : decode cWlk_forget 76 = .ok (.return_, 1) := by decide +kernel
theorem dWlk_reach_0 : decode cWlk_reach 0 = .ok (.aload_n 0, 1) := by decide +kernel
theorem dWlk_reach_1 : decode cWlk_reach 1 = .ok (.getfield 9, 3) := by decide +kernel
theorem dWlk_reach_4 : decode cWlk_reach 4 = .ok (.iload_n 1, 1) := by decide +kernel
theorem dWlk_reach_5 : decode cWlk_reach 5 = .ok (.iload_n 2, 1) := by decide +kernel
theorem dWlk_reach_6 : decode cWlk_reach 6 = .ok (.iastore, 1) := by decide +kernel
theorem dWlk_reach_7 : decode cWlk_reach 7 = .ok (.aload_n 0, 1) := by decide +kernel
theorem dWlk_reach_8 : decode cWlk_reach 8 = .ok (.getfield 18, 3) := by decide +kernel
theorem dWlk_reach_11 : decode cWlk_reach 11 = .ok (.iload_n 1, 1) := by decide +kernel
theorem dWlk_reach_12 : decode cWlk_reach 12 = .ok (.iload_n 3, 1) := by decide +kernel
theorem dWlk_reach_13 : decode cWlk_reach 13 = .ok (.iastore, 1) := by decide +kernel
theorem dWlk_reach_14 : decode cWlk_reach 14 = .ok (.aload_n 0, 1) := by decide +kernel
theorem dWlk_reach_15 : decode cWlk_reach 15 = .ok (.getfield 21, 3) := by decide +kernel
theorem dWlk_reach_18 : decode cWlk_reach 18 = .ok (.iload_n 1, 1) := by decide +kernel
theorem dWlk_reach_19 : decode cWlk_reach 19 = .ok (.iload 4, 2) := by decide +kernel
theorem dWlk_reach_21 : decode cWlk_reach 21 = .ok (.iastore, 1) := by decide +kernel
theorem dWlk_reach_22 : decode cWlk_reach 22 = .ok (.aload_n 0, 1) := by decide +kernel
theorem dWlk_reach_23 : decode cWlk_reach 23 = .ok (.getfield 15, 3) := by decide +kernel
theorem dWlk_reach_26 : decode cWlk_reach 26 = .ok (.aload_n 0, 1) := by decide +kernel
theorem dWlk_reach_27 : decode cWlk_reach 27 = .ok (.getfield 32, 3) := by decide +kernel
theorem dWlk_reach_30 : decode cWlk_reach 30 = .ok (.iload_n 1, 1) := by decide +kernel
theorem dWlk_reach_31 : decode cWlk_reach 31 = .ok (.iastore, 1) := by decide +kernel
theorem dWlk_reach_32 : decode cWlk_reach 32 = .ok (.aload_n 0, 1) := by decide +kernel
theorem dWlk_reach_33 : decode cWlk_reach 33 = .ok (.dup, 1) := by decide +kernel
theorem dWlk_reach_34 : decode cWlk_reach 34 = .ok (.getfield 32, 3) := by decide +kernel
theorem dWlk_reach_37 : decode cWlk_reach 37 = .ok (.iconst 1, 1) := by decide +kernel
theorem dWlk_reach_38 : decode cWlk_reach 38 = .ok (.iadd, 1) := by decide +kernel
theorem dWlk_reach_39 : decode cWlk_reach 39 = .ok (.putfield 32, 3) := by decide +kernel
theorem dWlk_reach_42 : decode cWlk_reach 42 = .ok (.return_, 1) := by decide +kernel
theorem dWlk_leave_0 : decode cWlk_leave 0 = .ok (.aload_n 0, 1) := by decide +kernel
theorem dWlk_leave_1 : decode cWlk_leave 1 = .ok (.getfield 24, 3) := by decide +kernel
theorem dWlk_leave_4 : decode cWlk_leave 4 = .ok (.iload_n 2, 1) := by decide +kernel
theorem dWlk_leave_5 : decode cWlk_leave 5 = .ok (.invokestatic 68, 3) := by decide +kernel
theorem dWlk_leave_8 : decode cWlk_leave 8 = .ok (.dup2, 1) := by decide +kernel
theorem dWlk_leave_9 : decode cWlk_leave 9 = .ok (.laload, 1) := by decide +kernel
theorem dWlk_leave_10 : decode cWlk_leave 10 = .ok (.aload_n 1, 1) := by decide +kernel
theorem dWlk_leave_11 : decode cWlk_leave 11 = .ok (.iload_n 2, 1) := by decide +kernel
theorem dWlk_leave_12 : decode cWlk_leave 12 = .ok (.invokevirtual 72, 3) := by decide +kernel
theorem dWlk_leave_15 : decode cWlk_leave 15 = .ok (.i2l, 1) := by decide +kernel
theorem dWlk_leave_16 : decode cWlk_leave 16 = .ok (.iload_n 2, 1) := by decide +kernel
theorem dWlk_leave_17 : decode cWlk_leave 17 = .ok (.invokestatic 77, 3) := by decide +kernel
theorem dWlk_leave_20 : decode cWlk_leave 20 = .ok (.lshl, 1) := by decide +kernel
theorem dWlk_leave_21 : decode cWlk_leave 21 = .ok (.lor, 1) := by decide +kernel
theorem dWlk_leave_22 : decode cWlk_leave 22 = .ok (.lastore, 1) := by decide +kernel
theorem dWlk_leave_23 : decode cWlk_leave 23 = .ok (.iconst 0, 1) := by decide +kernel
theorem dWlk_leave_24 : decode cWlk_leave 24 = .ok (.istore 4, 2) := by decide +kernel
theorem dWlk_leave_26 : decode cWlk_leave 26 = .ok (.iload 4, 2) := by decide +kernel
theorem dWlk_leave_28 : decode cWlk_leave 28 = .ok (.iload_n 3, 1) := by decide +kernel
theorem dWlk_leave_29 : decode cWlk_leave 29 = .ok (.if_icmp .ge 62, 3) := by decide +kernel
theorem dWlk_leave_32 : decode cWlk_leave 32 = .ok (.aload_n 1, 1) := by decide +kernel
theorem dWlk_leave_33 : decode cWlk_leave 33 = .ok (.iload_n 2, 1) := by decide +kernel
theorem dWlk_leave_34 : decode cWlk_leave 34 = .ok (.iload 4, 2) := by decide +kernel
theorem dWlk_leave_36 : decode cWlk_leave 36 = .ok (.invokevirtual 80, 3) := by decide +kernel
theorem dWlk_leave_39 : decode cWlk_leave 39 = .ok (.istore 5, 2) := by decide +kernel
theorem dWlk_leave_41 : decode cWlk_leave 41 = .ok (.iload 5, 2) := by decide +kernel
theorem dWlk_leave_43 : decode cWlk_leave 43 = .ok (.iconst (-1), 1) := by decide +kernel
theorem dWlk_leave_44 : decode cWlk_leave 44 = .ok (.if_icmp .ne 13, 3) := by decide +kernel
theorem dWlk_leave_47 : decode cWlk_leave 47 = .ok (.aload_n 0, 1) := by decide +kernel
theorem dWlk_leave_48 : decode cWlk_leave 48 = .ok (.iload_n 2, 1) := by decide +kernel
theorem dWlk_leave_49 : decode cWlk_leave 49 = .ok (.iload 4, 2) := by decide +kernel
theorem dWlk_leave_51 : decode cWlk_leave 51 = .ok (.invokevirtual 84, 3) := by decide +kernel
theorem dWlk_leave_54 : decode cWlk_leave 54 = .ok (.goto 31, 3) := by decide +kernel
theorem dWlk_leave_57 : decode cWlk_leave 57 = .ok (.aload_n 0, 1) := by decide +kernel
theorem dWlk_leave_58 : decode cWlk_leave 58 = .ok (.getfield 9, 3) := by decide +kernel
theorem dWlk_leave_61 : decode cWlk_leave 61 = .ok (.iload 5, 2) := by decide +kernel
theorem dWlk_leave_63 : decode cWlk_leave 63 = .ok (.iaload, 1) := by decide +kernel
theorem dWlk_leave_64 : decode cWlk_leave 64 = .ok (.iconst (-1), 1) := by decide +kernel
theorem dWlk_leave_65 : decode cWlk_leave 65 = .ok (.if_icmp .ne 20, 3) := by decide +kernel
theorem dWlk_leave_68 : decode cWlk_leave 68 = .ok (.aload_n 0, 1) := by decide +kernel
theorem dWlk_leave_69 : decode cWlk_leave 69 = .ok (.iload 5, 2) := by decide +kernel
theorem dWlk_leave_71 : decode cWlk_leave 71 = .ok (.aload_n 0, 1) := by decide +kernel
theorem dWlk_leave_72 : decode cWlk_leave 72 = .ok (.getfield 9, 3) := by decide +kernel
theorem dWlk_leave_75 : decode cWlk_leave 75 = .ok (.iload_n 2, 1) := by decide +kernel
theorem dWlk_leave_76 : decode cWlk_leave 76 = .ok (.iaload, 1) := by decide +kernel
theorem dWlk_leave_77 : decode cWlk_leave 77 = .ok (.iconst 1, 1) := by decide +kernel
theorem dWlk_leave_78 : decode cWlk_leave 78 = .ok (.iadd, 1) := by decide +kernel
theorem dWlk_leave_79 : decode cWlk_leave 79 = .ok (.iload_n 2, 1) := by decide +kernel
theorem dWlk_leave_80 : decode cWlk_leave 80 = .ok (.iload 4, 2) := by decide +kernel
theorem dWlk_leave_82 : decode cWlk_leave 82 = .ok (.invokevirtual 48, 3) := by decide +kernel
theorem dWlk_leave_85 : decode cWlk_leave 85 = .ok (.iinc 4 1, 3) := by decide +kernel
theorem dWlk_leave_88 : decode cWlk_leave 88 = .ok (.goto (-62), 3) := by decide +kernel
theorem dWlk_leave_91 : decode cWlk_leave 91 = .ok (.return_, 1) := by decide +kernel
theorem dWlk_noteDoubt_0 : decode cWlk_noteDoubt 0 = .ok (.aload_n 0, 1) := by decide +kernel
theorem dWlk_noteDoubt_1 : decode cWlk_noteDoubt 1 = .ok (.dup, 1) := by decide +kernel
theorem dWlk_noteDoubt_2 : decode cWlk_noteDoubt 2 = .ok (.getfield 35, 3) := by decide +kernel
theorem dWlk_noteDoubt_5 : decode cWlk_noteDoubt 5 = .ok (.iconst 1, 1) := by decide +kernel
theorem dWlk_noteDoubt_6 : decode cWlk_noteDoubt 6 = .ok (.iadd, 1) := by decide +kernel
theorem dWlk_noteDoubt_7 : decode cWlk_noteDoubt 7 = .ok (.putfield 35, 3) := by decide +kernel
theorem dWlk_noteDoubt_10 : decode cWlk_noteDoubt 10 = .ok (.aload_n 0, 1) := by decide +kernel
theorem dWlk_noteDoubt_11 : decode cWlk_noteDoubt 11 = .ok (.getfield 38, 3) := by decide +kernel
theorem dWlk_noteDoubt_14 : decode cWlk_noteDoubt 14 = .ok (.iconst (-1), 1) := by decide +kernel
theorem dWlk_noteDoubt_15 : decode cWlk_noteDoubt 15 = .ok (.if_icmp .eq 29, 3) := by decide +kernel
theorem dWlk_noteDoubt_18 : decode cWlk_noteDoubt 18 = .ok (.aload_n 0, 1) := by decide +kernel
theorem dWlk_noteDoubt_19 : decode cWlk_noteDoubt 19 = .ok (.getfield 9, 3) := by decide +kernel
theorem dWlk_noteDoubt_22 : decode cWlk_noteDoubt 22 = .ok (.iload_n 1, 1) := by decide +kernel
theorem dWlk_noteDoubt_23 : decode cWlk_noteDoubt 23 = .ok (.iaload, 1) := by decide +kernel
theorem dWlk_noteDoubt_24 : decode cWlk_noteDoubt 24 = .ok (.aload_n 0, 1) := by decide +kernel
theorem dWlk_noteDoubt_25 : decode cWlk_noteDoubt 25 = .ok (.getfield 9, 3) := by decide +kernel
theorem dWlk_noteDoubt_28 : decode cWlk_noteDoubt 28 = .ok (.aload_n 0, 1) := by decide +kernel
theorem dWlk_noteDoubt_29 : decode cWlk_noteDoubt 29 = .ok (.getfield 38, 3) := by decide +kernel
theorem dWlk_noteDoubt_32 : decode cWlk_noteDoubt 32 = .ok (.iaload, 1) := by decide +kernel
theorem dWlk_noteDoubt_33 : decode cWlk_noteDoubt 33 = .ok (.if_icmp .ne 21, 3) := by decide +kernel
theorem dWlk_noteDoubt_36 : decode cWlk_noteDoubt 36 = .ok (.iload_n 1, 1) := by decide +kernel
theorem dWlk_noteDoubt_37 : decode cWlk_noteDoubt 37 = .ok (.aload_n 0, 1) := by decide +kernel
theorem dWlk_noteDoubt_38 : decode cWlk_noteDoubt 38 = .ok (.getfield 38, 3) := by decide +kernel
theorem dWlk_noteDoubt_41 : decode cWlk_noteDoubt 41 = .ok (.if_icmp .ge 13, 3) := by decide +kernel
theorem dWlk_noteDoubt_44 : decode cWlk_noteDoubt 44 = .ok (.aload_n 0, 1) := by decide +kernel
theorem dWlk_noteDoubt_45 : decode cWlk_noteDoubt 45 = .ok (.iload_n 1, 1) := by decide +kernel
theorem dWlk_noteDoubt_46 : decode cWlk_noteDoubt 46 = .ok (.putfield 38, 3) := by decide +kernel
theorem dWlk_noteDoubt_49 : decode cWlk_noteDoubt 49 = .ok (.aload_n 0, 1) := by decide +kernel
theorem dWlk_noteDoubt_50 : decode cWlk_noteDoubt 50 = .ok (.iload_n 2, 1) := by decide +kernel
theorem dWlk_noteDoubt_51 : decode cWlk_noteDoubt 51 = .ok (.putfield 41, 3) := by decide +kernel
theorem dWlk_noteDoubt_54 : decode cWlk_noteDoubt 54 = .ok (.return_, 1) := by decide +kernel
theorem dWlk_stepOfWay_0 : decode cWlk_stepOfWay 0 = .ok (.aload_n 0, 1) := by decide +kernel
theorem dWlk_stepOfWay_1 : decode cWlk_stepOfWay 1 = .ok (.getfield 9, 3) := by decide +kernel
theorem dWlk_stepOfWay_4 : decode cWlk_stepOfWay 4 = .ok (.iload_n 1, 1) := by decide +kernel
theorem dWlk_stepOfWay_5 : decode cWlk_stepOfWay 5 = .ok (.iaload, 1) := by decide +kernel
theorem dWlk_stepOfWay_6 : decode cWlk_stepOfWay 6 = .ok (.istore_n 3, 1) := by decide +kernel
theorem dWlk_stepOfWay_7 : decode cWlk_stepOfWay 7 = .ok (.iload_n 3, 1) := by decide +kernel
theorem dWlk_stepOfWay_8 : decode cWlk_stepOfWay 8 = .ok (.iconst (-1), 1) := by decide +kernel
theorem dWlk_stepOfWay_9 : decode cWlk_stepOfWay 9 = .ok (.if_icmp .eq 8, 3) := by decide +kernel
theorem dWlk_stepOfWay_12 : decode cWlk_stepOfWay 12 = .ok (.iload_n 2, 1) := by decide +kernel
theorem dWlk_stepOfWay_13 : decode cWlk_stepOfWay 13 = .ok (.iload_n 3, 1) := by decide +kernel
theorem dWlk_stepOfWay_14 : decode cWlk_stepOfWay 14 = .ok (.if_icmp .lt 5, 3) := by decide +kernel
theorem dWlk_stepOfWay_17 : decode cWlk_stepOfWay 17 = .ok (.iconst (-1), 1) := by decide +kernel
theorem dWlk_stepOfWay_18 : decode cWlk_stepOfWay 18 = .ok (.ireturn, 1) := by decide +kernel
theorem dWlk_stepOfWay_19 : decode cWlk_stepOfWay 19 = .ok (.iload_n 1, 1) := by decide +kernel
theorem dWlk_stepOfWay_20 : decode cWlk_stepOfWay 20 = .ok (.istore 4, 2) := by decide +kernel
theorem dWlk_stepOfWay_22 : decode cWlk_stepOfWay 22 = .ok (.iload_n 3, 1) := by decide +kernel
theorem dWlk_stepOfWay_23 : decode cWlk_stepOfWay 23 = .ok (.iconst 1, 1) := by decide +kernel
theorem dWlk_stepOfWay_24 : decode cWlk_stepOfWay 24 = .ok (.isub, 1) := by decide +kernel
theorem dWlk_stepOfWay_25 : decode cWlk_stepOfWay 25 = .ok (.istore 5, 2) := by decide +kernel
theorem dWlk_stepOfWay_27 : decode cWlk_stepOfWay 27 = .ok (.iload 5, 2) := by decide +kernel
theorem dWlk_stepOfWay_29 : decode cWlk_stepOfWay 29 = .ok (.iload_n 2, 1) := by decide +kernel
theorem dWlk_stepOfWay_30 : decode cWlk_stepOfWay 30 = .ok (.if_icmp .le 18, 3) := by decide +kernel
theorem dWlk_stepOfWay_33 : decode cWlk_stepOfWay 33 = .ok (.aload_n 0, 1) := by decide +kernel
theorem dWlk_stepOfWay_34 : decode cWlk_stepOfWay 34 = .ok (.getfield 18, 3) := by decide +kernel
theorem dWlk_stepOfWay_37 : decode cWlk_stepOfWay 37 = .ok (.iload 4, 2) := by decide +kernel
theorem dWlk_stepOfWay_39 : decode cWlk_stepOfWay 39 = .ok (.iaload, 1) := by decide +kernel
theorem dWlk_stepOfWay_40 : decode cWlk_stepOfWay 40 = .ok (.istore 4, 2) := by decide +kernel
theorem dWlk_stepOfWay_42 : decode cWlk_stepOfWay 42 = .ok (.iinc 5 (-1), 3) := by decide +kernel
theorem dWlk_stepOfWay_45 : decode cWlk_stepOfWay 45 = .ok (.goto (-18), 3) := by decide +kernel
theorem dWlk_stepOfWay_48 : decode cWlk_stepOfWay 48 = .ok (.aload_n 0, 1) := by decide +kernel
theorem dWlk_stepOfWay_49 : decode cWlk_stepOfWay 49 = .ok (.getfield 21, 3) := by decide +kernel
theorem dWlk_stepOfWay_52 : decode cWlk_stepOfWay 52 = .ok (.iload 4, 2) := by decide +kernel
theorem dWlk_stepOfWay_54 : decode cWlk_stepOfWay 54 = .ok (.iaload, 1) := by decide +kernel
theorem dWlk_stepOfWay_55 : decode cWlk_stepOfWay 55 = .ok (.ireturn, 1) := by decide +kernel
theorem dWlk_reachedAt_0 : decode cWlk_reachedAt 0 = .ok (.iconst 0, 1) := by decide +kernel
theorem dWlk_reachedAt_1 : decode cWlk_reachedAt 1 = .ok (.istore_n 2, 1) := by decide +kernel
theorem dWlk_reachedAt_2 : decode cWlk_reachedAt 2 = .ok (.iconst 0, 1) := by decide +kernel
theorem dWlk_reachedAt_3 : decode cWlk_reachedAt 3 = .ok (.istore_n 3, 1) := by decide +kernel
theorem dWlk_reachedAt_4 : decode cWlk_reachedAt 4 = .ok (.iload_n 3, 1) := by decide +kernel
theorem dWlk_reachedAt_5 : decode cWlk_reachedAt 5 = .ok (.aload_n 0, 1) := by decide +kernel
theorem dWlk_reachedAt_6 : decode cWlk_reachedAt 6 = .ok (.getfield 32, 3) := by decide +kernel
theorem dWlk_reachedAt_9 : decode cWlk_reachedAt 9 = .ok (.if_icmp .ge 27, 3) := by decide +kernel
theorem dWlk_reachedAt_12 : decode cWlk_reachedAt 12 = .ok (.aload_n 0, 1) := by decide +kernel
theorem dWlk_reachedAt_13 : decode cWlk_reachedAt 13 = .ok (.getfield 9, 3) := by decide +kernel
theorem dWlk_reachedAt_16 : decode cWlk_reachedAt 16 = .ok (.aload_n 0, 1) := by decide +kernel
theorem dWlk_reachedAt_17 : decode cWlk_reachedAt 17 = .ok (.getfield 15, 3) := by decide +kernel
theorem dWlk_reachedAt_20 : decode cWlk_reachedAt 20 = .ok (.iload_n 3, 1) := by decide +kernel
theorem dWlk_reachedAt_21 : decode cWlk_reachedAt 21 = .ok (.iaload, 1) := by decide +kernel
theorem dWlk_reachedAt_22 : decode cWlk_reachedAt 22 = .ok (.iaload, 1) := by decide +kernel
theorem dWlk_reachedAt_23 : decode cWlk_reachedAt 23 = .ok (.iload_n 1, 1) := by decide +kernel
theorem dWlk_reachedAt_24 : decode cWlk_reachedAt 24 = .ok (.if_icmp .ne 6, 3) := by decide +kernel
theorem dWlk_reachedAt_27 : decode cWlk_reachedAt 27 = .ok (.iinc 2 1, 3) := by decide +kernel
theorem dWlk_reachedAt_30 : decode cWlk_reachedAt 30 = .ok (.iinc 3 1, 3) := by decide +kernel
theorem dWlk_reachedAt_33 : decode cWlk_reachedAt 33 = .ok (.goto (-29), 3) := by decide +kernel
theorem dWlk_reachedAt_36 : decode cWlk_reachedAt 36 = .ok (.iload_n 2, 1) := by decide +kernel
theorem dWlk_reachedAt_37 : decode cWlk_reachedAt 37 = .ok (.ireturn, 1) := by decide +kernel
theorem dWlk_greatestDistance_0 : decode cWlk_greatestDistance 0 = .ok (.aload_n 0, 1) := by decide +kernel
theorem dWlk_greatestDistance_1 : decode cWlk_greatestDistance 1 = .ok (.getfield 9, 3) := by decide +kernel
theorem dWlk_greatestDistance_4 : decode cWlk_greatestDistance 4 = .ok (.aload_n 0, 1) := by decide +kernel
theorem dWlk_greatestDistance_5 : decode cWlk_greatestDistance 5 = .ok (.getfield 15, 3) := by decide +kernel
theorem dWlk_greatestDistance_8 : decode cWlk_greatestDistance 8 = .ok (.aload_n 0, 1) := by decide +kernel
theorem dWlk_greatestDistance_9 : decode cWlk_greatestDistance 9 = .ok (.getfield 32, 3) := by decide +kernel
theorem dWlk_greatestDistance_12 : decode cWlk_greatestDistance 12 = .ok (.iconst 1, 1) := by decide +kernel
theorem dWlk_greatestDistance_13 : decode cWlk_greatestDistance 13 = .ok (.isub, 1) := by decide +kernel
theorem dWlk_greatestDistance_14 : decode cWlk_greatestDistance 14 = .ok (.iaload, 1) := by decide +kernel
theorem dWlk_greatestDistance_15 : decode cWlk_greatestDistance 15 = .ok (.iaload, 1) := by decide +kernel
theorem dWlk_greatestDistance_16 : decode cWlk_greatestDistance 16 = .ok (.ireturn, 1) := by decide +kernel
theorem dWlk_isEver_0 : decode cWlk_isEver 0 = .ok (.iload_n 3, 1) := by decide +kernel
theorem dWlk_isEver_1 : decode cWlk_isEver 1 = .ok (.iconst 1, 1) := by decide +kernel
theorem dWlk_isEver_2 : decode cWlk_isEver 2 = .ok (.if_icmp .ne 7, 3) := by decide +kernel
theorem dWlk_isEver_5 : decode cWlk_isEver 5 = .ok (.lconst 0, 1) := by decide +kernel
theorem dWlk_isEver_6 : decode cWlk_isEver 6 = .ok (.goto 6, 3) := by decide +kernel
theorem dWlk_isEver_9 : decode cWlk_isEver 9 = .ok (.ldc2_w 88, 3) := by decide +kernel
theorem dWlk_isEver_12 : decode cWlk_isEver 12 = .ok (.lstore 4, 2) := by decide +kernel
theorem dWlk_isEver_14 : decode cWlk_isEver 14 = .ok (.iconst 0, 1) := by decide +kernel
theorem dWlk_isEver_15 : decode cWlk_isEver 15 = .ok (.istore 6, 2) := by decide +kernel
theorem dWlk_isEver_17 : decode cWlk_isEver 17 = .ok (.iload 6, 2) := by decide +kernel
theorem dWlk_isEver_19 : decode cWlk_isEver 19 = .ok (.aload_n 0, 1) := by decide +kernel
theorem dWlk_isEver_20 : decode cWlk_isEver 20 = .ok (.getfield 28, 3) := by decide +kernel
theorem dWlk_isEver_23 : decode cWlk_isEver 23 = .ok (.if_icmp .ge 43, 3) := by decide +kernel
theorem dWlk_isEver_26 : decode cWlk_isEver 26 = .ok (.aload_n 1, 1) := by decide +kernel
theorem dWlk_isEver_27 : decode cWlk_isEver 27 = .ok (.getfield 90, 3) := by decide +kernel
theorem dWlk_isEver_30 : decode cWlk_isEver 30 = .ok (.iload_n 2, 1) := by decide +kernel
theorem dWlk_isEver_31 : decode cWlk_isEver 31 = .ok (.bipush 64, 2) := by decide +kernel
theorem dWlk_isEver_33 : decode cWlk_isEver 33 = .ok (.imul, 1) := by decide +kernel
theorem dWlk_isEver_34 : decode cWlk_isEver 34 = .ok (.iload 6, 2) := by decide +kernel
theorem dWlk_isEver_36 : decode cWlk_isEver 36 = .ok (.iadd, 1) := by decide +kernel
theorem dWlk_isEver_37 : decode cWlk_isEver 37 = .ok (.laload, 1) := by decide +kernel
theorem dWlk_isEver_38 : decode cWlk_isEver 38 = .ok (.lload 4, 2) := by decide +kernel
theorem dWlk_isEver_40 : decode cWlk_isEver 40 = .ok (.lxor, 1) := by decide +kernel
theorem dWlk_isEver_41 : decode cWlk_isEver 41 = .ok (.lstore 7, 2) := by decide +kernel
theorem dWlk_isEver_43 : decode cWlk_isEver 43 = .ok (.lload 7, 2) := by decide +kernel
theorem dWlk_isEver_45 : decode cWlk_isEver 45 = .ok (.aload_n 0, 1) := by decide +kernel
theorem dWlk_isEver_46 : decode cWlk_isEver 46 = .ok (.getfield 24, 3) := by decide +kernel
theorem dWlk_isEver_49 : decode cWlk_isEver 49 = .ok (.iload 6, 2) := by decide +kernel
theorem dWlk_isEver_51 : decode cWlk_isEver 51 = .ok (.laload, 1) := by decide +kernel
theorem dWlk_isEver_52 : decode cWlk_isEver 52 = .ok (.land, 1) := by decide +kernel
theorem dWlk_isEver_53 : decode cWlk_isEver 53 = .ok (.lconst 0, 1) := by decide +kernel
theorem dWlk_isEver_54 : decode cWlk_isEver 54 = .ok (.lcmp, 1) := by decide +kernel
theorem dWlk_isEver_55 : decode cWlk_isEver 55 = .ok (.ifCond .eq 5, 3) := by decide +kernel
theorem dWlk_isEver_58 : decode cWlk_isEver 58 = .ok (.iconst 1, 1) := by decide +kernel
theorem dWlk_isEver_59 : decode cWlk_isEver 59 = .ok (.ireturn, 1) := by decide +kernel
theorem dWlk_isEver_60 : decode cWlk_isEver 60 = .ok (.iinc 6 1, 3) := by decide +kernel
theorem dWlk_isEver_63 : decode cWlk_isEver 63 = .ok (.goto (-46), 3) := by decide +kernel
theorem dWlk_isEver_66 : decode cWlk_isEver 66 = .ok (.iconst 0, 1) := by decide +kernel
theorem dWlk_isEver_67 : decode cWlk_isEver 67 = .ok (.ireturn, 1) := by decide +kernel
theorem dWlk_everDiffer_0 : decode cWlk_everDiffer 0 = .ok (.iconst 0, 1) := by decide +kernel
theorem dWlk_everDiffer_1 : decode cWlk_everDiffer 1 = .ok (.istore 4, 2) := by decide +kernel
theorem dWlk_everDiffer_3 : decode cWlk_everDiffer 3 = .ok (.iload 4, 2) := by decide +kernel
theorem dWlk_everDiffer_5 : decode cWlk_everDiffer 5 = .ok (.aload_n 0, 1) := by decide +kernel
theorem dWlk_everDiffer_6 : decode cWlk_everDiffer 6 = .ok (.getfield 28, 3) := by decide +kernel
theorem dWlk_everDiffer_9 : decode cWlk_everDiffer 9 = .ok (.if_icmp .ge 53, 3) := by decide +kernel
theorem dWlk_everDiffer_12 : decode cWlk_everDiffer 12 = .ok (.aload_n 1, 1) := by decide +kernel
theorem dWlk_everDiffer_13 : decode cWlk_everDiffer 13 = .ok (.getfield 90, 3) := by decide +kernel
theorem dWlk_everDiffer_16 : decode cWlk_everDiffer 16 = .ok (.iload_n 2, 1) := by decide +kernel
theorem dWlk_everDiffer_17 : decode cWlk_everDiffer 17 = .ok (.bipush 64, 2) := by decide +kernel
theorem dWlk_everDiffer_19 : decode cWlk_everDiffer 19 = .ok (.imul, 1) := by decide +kernel
theorem dWlk_everDiffer_20 : decode cWlk_everDiffer 20 = .ok (.iload 4, 2) := by decide +kernel
theorem dWlk_everDiffer_22 : decode cWlk_everDiffer 22 = .ok (.iadd, 1) := by decide +kernel
theorem dWlk_everDiffer_23 : decode cWlk_everDiffer 23 = .ok (.laload, 1) := by decide +kernel
theorem dWlk_everDiffer_24 : decode cWlk_everDiffer 24 = .ok (.aload_n 1, 1) := by decide +kernel
theorem dWlk_everDiffer_25 : decode cWlk_everDiffer 25 = .ok (.getfield 90, 3) := by decide +kernel
theorem dWlk_everDiffer_28 : decode cWlk_everDiffer 28 = .ok (.iload_n 3, 1) := by decide +kernel
theorem dWlk_everDiffer_29 : decode cWlk_everDiffer 29 = .ok (.bipush 64, 2) := by decide +kernel
theorem dWlk_everDiffer_31 : decode cWlk_everDiffer 31 = .ok (.imul, 1) := by decide +kernel
theorem dWlk_everDiffer_32 : decode cWlk_everDiffer 32 = .ok (.iload 4, 2) := by decide +kernel
theorem dWlk_everDiffer_34 : decode cWlk_everDiffer 34 = .ok (.iadd, 1) := by decide +kernel
theorem dWlk_everDiffer_35 : decode cWlk_everDiffer 35 = .ok (.laload, 1) := by decide +kernel
theorem dWlk_everDiffer_36 : decode cWlk_everDiffer 36 = .ok (.lxor, 1) := by decide +kernel
theorem dWlk_everDiffer_37 : decode cWlk_everDiffer 37 = .ok (.lstore 5, 2) := by decide +kernel
theorem dWlk_everDiffer_39 : decode cWlk_everDiffer 39 = .ok (.lload 5, 2) := by decide +kernel
theorem dWlk_everDiffer_41 : decode cWlk_everDiffer 41 = .ok (.aload_n 0, 1) := by decide +kernel
theorem dWlk_everDiffer_42 : decode cWlk_everDiffer 42 = .ok (.getfield 24, 3) := by decide +kernel
theorem dWlk_everDiffer_45 : decode cWlk_everDiffer 45 = .ok (.iload 4, 2) := by decide +kernel
theorem dWlk_everDiffer_47 : decode cWlk_everDiffer 47 = .ok (.laload, 1) := by decide +kernel
theorem dWlk_everDiffer_48 : decode cWlk_everDiffer 48 = .ok (.land, 1) := by decide +kernel
theorem dWlk_everDiffer_49 : decode cWlk_everDiffer 49 = .ok (.lconst 0, 1) := by decide +kernel
theorem dWlk_everDiffer_50 : decode cWlk_everDiffer 50 = .ok (.lcmp, 1) := by decide +kernel
theorem dWlk_everDiffer_51 : decode cWlk_everDiffer 51 = .ok (.ifCond .eq 5, 3) := by decide +kernel
theorem dWlk_everDiffer_54 : decode cWlk_everDiffer 54 = .ok (.iconst 1, 1) := by decide +kernel
theorem dWlk_everDiffer_55 : decode cWlk_everDiffer 55 = .ok (.ireturn, 1) := by decide +kernel
theorem dWlk_everDiffer_56 : decode cWlk_everDiffer 56 = .ok (.iinc 4 1, 3) := by decide +kernel
theorem dWlk_everDiffer_59 : decode cWlk_everDiffer 59 = .ok (.goto (-56), 3) := by decide +kernel
theorem dWlk_everDiffer_62 : decode cWlk_everDiffer 62 = .ok (.iconst 0, 1) := by decide +kernel
theorem dWlk_everDiffer_63 : decode cWlk_everDiffer 63 = .ok (.ireturn, 1) := by decide +kernel
abbrev cExp_init : ByteArray := prog_1_method_1_code
def yExp_init : MethodName := ⟨"StateExplorer", "<init>", "()V"⟩
def wsExp_init : List Cond := Cond.code yExp_init cExp_init 1 (none : Option Jvm.ClassFile.FieldType) :: tb
theorem tcExp_init : Cond.code yExp_init cExp_init 1 (none : Option Jvm.ClassFile.FieldType) ∈ tb := tw_53
abbrev cExp_gate : ByteArray := prog_1_method_2_code
def yExp_gate : MethodName := ⟨"StateExplorer", "gate", "(I)I"⟩
def wsExp_gate : List Cond := Cond.code yExp_gate cExp_gate 2 (some .int) :: tb
theorem tcExp_gate : Cond.code yExp_gate cExp_gate 2 (some .int) ∈ tb := tw_368
abbrev cExp_feed : ByteArray := prog_1_method_3_code
def yExp_feed : MethodName := ⟨"StateExplorer", "feed", "(IIZ)I"⟩
def wsExp_feed : List Cond := Cond.code yExp_feed cExp_feed 4 (some .int) :: tb
theorem tcExp_feed : Cond.code yExp_feed cExp_feed 4 (some .int) ∈ tb := tw_453
abbrev cExp_output : ByteArray := prog_1_method_4_code
def yExp_output : MethodName := ⟨"StateExplorer", "output", "(I)I"⟩
def wsExp_output : List Cond := Cond.code yExp_output cExp_output 2 (some .int) :: tb
theorem tcExp_output : Cond.code yExp_output cExp_output 2 (some .int) ∈ tb := tw_510
abbrev cExp_clear : ByteArray := prog_1_method_5_code
def yExp_clear : MethodName := ⟨"StateExplorer", "clear", "()I"⟩
def wsExp_clear : List Cond := Cond.code yExp_clear cExp_clear 2 (some .int) :: tb
theorem tcExp_clear : Cond.code yExp_clear cExp_clear 2 (some .int) ∈ tb := tw_212
abbrev cExp_explore : ByteArray := prog_1_method_6_code
def yExp_explore : MethodName := ⟨"StateExplorer", "explore", "()I"⟩
def wsExp_explore : List Cond := Cond.code yExp_explore cExp_explore 1 (some .int) :: tb
theorem tcExp_explore : Cond.code yExp_explore cExp_explore 1 (some .int) ∈ tb := tw_220
abbrev cExp_distance : ByteArray := prog_1_method_7_code
def yExp_distance : MethodName := ⟨"StateExplorer", "distance", "(I)I"⟩
def wsExp_distance : List Cond := Cond.code yExp_distance cExp_distance 2 (some .int) :: tb
theorem tcExp_distance : Cond.code yExp_distance cExp_distance 2 (some .int) ∈ tb := tw_521
abbrev cExp_way : ByteArray := prog_1_method_8_code
def yExp_way : MethodName := ⟨"StateExplorer", "way", "(II)I"⟩
def wsExp_way : List Cond := Cond.code yExp_way cExp_way 3 (some .int) :: tb
theorem tcExp_way : Cond.code yExp_way cExp_way 3 (some .int) ∈ tb := tw_539
abbrev cExp_many : ByteArray := prog_1_method_9_code
def yExp_many : MethodName := ⟨"StateExplorer", "many", "(I)I"⟩
def wsExp_many : List Cond := Cond.code yExp_many cExp_many 2 (some .int) :: tb
theorem tcExp_many : Cond.code yExp_many cExp_many 2 (some .int) ∈ tb := tw_551
abbrev cExp_next : ByteArray := prog_1_method_10_code
def yExp_next : MethodName := ⟨"StateExplorer", "next", "(II)I"⟩
def wsExp_next : List Cond := Cond.code yExp_next cExp_next 3 (some .int) :: tb
theorem tcExp_next : Cond.code yExp_next cExp_next 3 (some .int) ∈ tb := tw_562
abbrev cExp_doubt : ByteArray := prog_1_method_11_code
def yExp_doubt : MethodName := ⟨"StateExplorer", "doubt", "(I)I"⟩
def wsExp_doubt : List Cond := Cond.code yExp_doubt cExp_doubt 2 (some .int) :: tb
theorem tcExp_doubt : Cond.code yExp_doubt cExp_doubt 2 (some .int) ∈ tb := tw_572
abbrev cExp_always : ByteArray := prog_1_method_12_code
def yExp_always : MethodName := ⟨"StateExplorer", "always", "(I)I"⟩
def wsExp_always : List Cond := Cond.code yExp_always cExp_always 4 (some .int) :: tb
theorem tcExp_always : Cond.code yExp_always cExp_always 4 (some .int) ∈ tb := tw_580
abbrev cExp_isSame : ByteArray := prog_1_method_13_code
def yExp_isSame : MethodName := ⟨"StateExplorer", "isSame", "(II)Z"⟩
def wsExp_isSame : List Cond := Cond.code yExp_isSame cExp_isSame 3 (some .boolean) :: tb
theorem tcExp_isSame : Cond.code yExp_isSame cExp_isSame 3 (some .boolean) ∈ tb := tw_592
abbrev cExp_group : ByteArray := prog_1_method_14_code
def yExp_group : MethodName := ⟨"StateExplorer", "group", "(I)I"⟩
def wsExp_group : List Cond := Cond.code yExp_group cExp_group 2 (some .int) :: tb
theorem tcExp_group : Cond.code yExp_group cExp_group 2 (some .int) ∈ tb := tw_603
abbrev cExp_count : ByteArray := prog_1_method_15_code
def yExp_count : MethodName := ⟨"StateExplorer", "count", "(I)I"⟩
def wsExp_count : List Cond := Cond.code yExp_count cExp_count 2 (some .int) :: tb
theorem tcExp_count : Cond.code yExp_count cExp_count 2 (some .int) ∈ tb := tw_352
abbrev cExp_requireExplored : ByteArray := prog_1_method_16_code
def yExp_requireExplored : MethodName := ⟨"StateExplorer", "requireExplored", "()V"⟩
def wsExp_requireExplored : List Cond := Cond.code yExp_requireExplored cExp_requireExplored 1 (none : Option Jvm.ClassFile.FieldType) :: tb
theorem tcExp_requireExplored : Cond.code yExp_requireExplored cExp_requireExplored 1 (none : Option Jvm.ClassFile.FieldType) ∈ tb := tw_525
abbrev cExp_requireGate : ByteArray := prog_1_method_17_code
def yExp_requireGate : MethodName := ⟨"StateExplorer", "requireGate", "(I)V"⟩
def wsExp_requireGate : List Cond := Cond.code yExp_requireGate cExp_requireGate 2 (none : Option Jvm.ClassFile.FieldType) :: tb
theorem tcExp_requireGate : Cond.code yExp_requireGate cExp_requireGate 2 (none : Option Jvm.ClassFile.FieldType) ∈ tb := tw_457
abbrev cExp_requireState : ByteArray := prog_1_method_18_code
def yExp_requireState : MethodName := ⟨"StateExplorer", "requireState", "(I)V"⟩
def wsExp_requireState : List Cond := Cond.code yExp_requireState cExp_requireState 2 (none : Option Jvm.ClassFile.FieldType) :: tb
theorem tcExp_requireState : Cond.code yExp_requireState cExp_requireState 2 (none : Option Jvm.ClassFile.FieldType) ∈ tb := tw_530
abbrev cExp_wordOf : ByteArray := prog_1_method_19_code
def yExp_wordOf : MethodName := ⟨"StateExplorer", "wordOf", "(I)I"⟩
def wsExp_wordOf : List Cond := Cond.code yExp_wordOf cExp_wordOf 1 (some .int) :: tb
theorem tcExp_wordOf : Cond.code yExp_wordOf cExp_wordOf 1 (some .int) ∈ tb := tw_235
abbrev cExp_shiftOf : ByteArray := prog_1_method_20_code
def yExp_shiftOf : MethodName := ⟨"StateExplorer", "shiftOf", "(I)I"⟩
def wsExp_shiftOf : List Cond := Cond.code yExp_shiftOf cExp_shiftOf 1 (some .int) :: tb
theorem tcExp_shiftOf : Cond.code yExp_shiftOf cExp_shiftOf 1 (some .int) ∈ tb := tw_280
theorem dExp_init_0 : decode cExp_init 0 = .ok (.aload_n 0, 1) := by decide +kernel
theorem dExp_init_1 : decode cExp_init 1 = .ok (.invokespecial 1, 3) := by decide +kernel
theorem dExp_init_4 : decode cExp_init 4 = .ok (.aload_n 0, 1) := by decide +kernel
theorem dExp_init_5 : decode cExp_init 5 = .ok (.new 7, 3) := by decide +kernel
theorem dExp_init_8 : decode cExp_init 8 = .ok (.dup, 1) := by decide +kernel
theorem dExp_init_9 : decode cExp_init 9 = .ok (.invokespecial 9, 3) := by decide +kernel
theorem dExp_init_12 : decode cExp_init 12 = .ok (.putfield 10, 3) := by decide +kernel
theorem dExp_init_15 : decode cExp_init 15 = .ok (.aload_n 0, 1) := by decide +kernel
theorem dExp_init_16 : decode cExp_init 16 = .ok (.new 16, 3) := by decide +kernel
theorem dExp_init_19 : decode cExp_init 19 = .ok (.dup, 1) := by decide +kernel
theorem dExp_init_20 : decode cExp_init 20 = .ok (.invokespecial 18, 3) := by decide +kernel
theorem dExp_init_23 : decode cExp_init 23 = .ok (.putfield 19, 3) := by decide +kernel
theorem dExp_init_26 : decode cExp_init 26 = .ok (.aload_n 0, 1) := by decide +kernel
theorem dExp_init_27 : decode cExp_init 27 = .ok (.new 23, 3) := by decide +kernel
theorem dExp_init_30 : decode cExp_init 30 = .ok (.dup, 1) := by decide +kernel
theorem dExp_init_31 : decode cExp_init 31 = .ok (.invokespecial 25, 3) := by decide +kernel
theorem dExp_init_34 : decode cExp_init 34 = .ok (.putfield 26, 3) := by decide +kernel
theorem dExp_init_37 : decode cExp_init 37 = .ok (.aload_n 0, 1) := by decide +kernel
theorem dExp_init_38 : decode cExp_init 38 = .ok (.new 30, 3) := by decide +kernel
theorem dExp_init_41 : decode cExp_init 41 = .ok (.dup, 1) := by decide +kernel
theorem dExp_init_42 : decode cExp_init 42 = .ok (.invokespecial 32, 3) := by decide +kernel
theorem dExp_init_45 : decode cExp_init 45 = .ok (.putfield 33, 3) := by decide +kernel
theorem dExp_init_48 : decode cExp_init 48 = .ok (.aload_n 0, 1) := by decide +kernel
theorem dExp_init_49 : decode cExp_init 49 = .ok (.iconst 0, 1) := by decide +kernel
theorem dExp_init_50 : decode cExp_init 50 = .ok (.putfield 37, 3) := by decide +kernel
theorem dExp_init_53 : decode cExp_init 53 = .ok (.return_, 1) := by decide +kernel
theorem dExp_gate_0 : decode cExp_gate 0 = .ok (.iload_n 1, 1) := by decide +kernel
theorem dExp_gate_1 : decode cExp_gate 1 = .ok (.ifCond .lt 8, 3) := by decide +kernel
theorem dExp_gate_4 : decode cExp_gate 4 = .ok (.iload_n 1, 1) := by decide +kernel
theorem dExp_gate_5 : decode cExp_gate 5 = .ok (.iconst 3, 1) := by decide +kernel
theorem dExp_gate_6 : decode cExp_gate 6 = .ok (.if_icmp .le 13, 3) := by decide +kernel
theorem dExp_gate_9 : decode cExp_gate 9 = .ok (.new 41, 3) := by decide +kernel
theorem dExp_gate_12 : decode cExp_gate 12 = .ok (.dup, 1) := by decide +kernel
theorem dExp_gate_13 : decode cExp_gate 13 = .ok (.ldc 43, 2) := by decide +kernel
theorem dExp_gate_15 : decode cExp_gate 15 = .ok (.invokespecial 45, 3) := by decide +kernel
theorem dExp_gate_18 : decode cExp_gate 18 = .ok (.athrow, 1) := by decide +kernel
theorem dExp_gate_19 : decode cExp_gate 19 = .ok (.aload_n 0, 1) := by decide +kernel
theorem dExp_gate_20 : decode cExp_gate 20 = .ok (.getfield 10, 3) := by decide +kernel
theorem dExp_gate_23 : decode cExp_gate 23 = .ok (.iload_n 1, 1) := by decide +kernel
theorem dExp_gate_24 : decode cExp_gate 24 = .ok (.invokevirtual 48, 3) := by decide +kernel
theorem dExp_gate_27 : decode cExp_gate 27 = .ok (.ifCond .eq 5, 3) := by decide +kernel
theorem dExp_gate_30 : decode cExp_gate 30 = .ok (.iconst (-1), 1) := by decide +kernel
theorem dExp_gate_31 : decode cExp_gate 31 = .ok (.ireturn, 1) := by decide +kernel
theorem dExp_gate_32 : decode cExp_gate 32 = .ok (.aload_n 0, 1) := by decide +kernel
theorem dExp_gate_33 : decode cExp_gate 33 = .ok (.iconst 0, 1) := by decide +kernel
theorem dExp_gate_34 : decode cExp_gate 34 = .ok (.putfield 37, 3) := by decide +kernel
theorem dExp_gate_37 : decode cExp_gate 37 = .ok (.aload_n 0, 1) := by decide +kernel
theorem dExp_gate_38 : decode cExp_gate 38 = .ok (.getfield 10, 3) := by decide +kernel
theorem dExp_gate_41 : decode cExp_gate 41 = .ok (.iload_n 1, 1) := by decide +kernel
theorem dExp_gate_42 : decode cExp_gate 42 = .ok (.invokevirtual 52, 3) := by decide +kernel
theorem dExp_gate_45 : decode cExp_gate 45 = .ok (.ireturn, 1) := by decide +kernel
theorem dExp_feed_0 : decode cExp_feed 0 = .ok (.aload_n 0, 1) := by decide +kernel
theorem dExp_feed_1 : decode cExp_feed 1 = .ok (.iload_n 1, 1) := by decide +kernel
theorem dExp_feed_2 : decode cExp_feed 2 = .ok (.invokevirtual 56, 3) := by decide +kernel
theorem dExp_feed_5 : decode cExp_feed 5 = .ok (.aload_n 0, 1) := by decide +kernel
theorem dExp_feed_6 : decode cExp_feed 6 = .ok (.iload_n 2, 1) := by decide +kernel
theorem dExp_feed_7 : decode cExp_feed 7 = .ok (.invokevirtual 56, 3) := by decide +kernel
theorem dExp_feed_10 : decode cExp_feed 10 = .ok (.aload_n 0, 1) := by decide +kernel
theorem dExp_feed_11 : decode cExp_feed 11 = .ok (.getfield 10, 3) := by decide +kernel
theorem dExp_feed_14 : decode cExp_feed 14 = .ok (.iload_n 1, 1) := by decide +kernel
theorem dExp_feed_15 : decode cExp_feed 15 = .ok (.invokevirtual 60, 3) := by decide +kernel
theorem dExp_feed_18 : decode cExp_feed 18 = .ok (.ifCond .ne 13, 3) := by decide +kernel
theorem dExp_feed_21 : decode cExp_feed 21 = .ok (.new 63, 3) := by decide +kernel
theorem dExp_feed_24 : decode cExp_feed 24 = .ok (.dup, 1) := by decide +kernel
theorem dExp_feed_25 : decode cExp_feed 25 = .ok (.ldc 65, 2) := by decide +kernel
theorem dExp_feed_27 : decode cExp_feed 27 = .ok (.invokespecial 67, 3) := by decide +kernel
theorem dExp_feed_30 : decode cExp_feed 30 = .ok (.athrow, 1) := by decide +kernel
theorem dExp_feed_31 : decode cExp_feed 31 = .ok (.aload_n 0, 1) := by decide +kernel
theorem dExp_feed_32 : decode cExp_feed 32 = .ok (.getfield 10, 3) := by decide +kernel
theorem dExp_feed_35 : decode cExp_feed 35 = .ok (.invokevirtual 68, 3) := by decide +kernel
theorem dExp_feed_38 : decode cExp_feed 38 = .ok (.sipush 240, 3) := by decide +kernel
theorem dExp_feed_41 : decode cExp_feed 41 = .ok (.if_icmp .lt 5, 3) := by decide +kernel
theorem dExp_feed_44 : decode cExp_feed 44 = .ok (.iconst (-1), 1) := by decide +kernel
theorem dExp_feed_45 : decode cExp_feed 45 = .ok (.ireturn, 1) := by decide +kernel
theorem dExp_feed_46 : decode cExp_feed 46 = .ok (.aload_n 0, 1) := by decide +kernel
theorem dExp_feed_47 : decode cExp_feed 47 = .ok (.iconst 0, 1) := by decide +kernel
theorem dExp_feed_48 : decode cExp_feed 48 = .ok (.putfield 37, 3) := by decide +kernel
theorem dExp_feed_51 : decode cExp_feed 51 = .ok (.aload_n 0, 1) := by decide +kernel
theorem dExp_feed_52 : decode cExp_feed 52 = .ok (.getfield 10, 3) := by decide +kernel
theorem dExp_feed_55 : decode cExp_feed 55 = .ok (.iload_n 1, 1) := by decide +kernel
theorem dExp_feed_56 : decode cExp_feed 56 = .ok (.iload_n 2, 1) := by decide +kernel
theorem dExp_feed_57 : decode cExp_feed 57 = .ok (.iload_n 3, 1) := by decide +kernel
theorem dExp_feed_58 : decode cExp_feed 58 = .ok (.invokevirtual 72, 3) := by decide +kernel
theorem dExp_feed_61 : decode cExp_feed 61 = .ok (.ireturn, 1) := by decide +kernel
theorem dExp_output_0 : decode cExp_output 0 = .ok (.aload_n 0, 1) := by decide +kernel
theorem dExp_output_1 : decode cExp_output 1 = .ok (.iload_n 1, 1) := by decide +kernel
theorem dExp_output_2 : decode cExp_output 2 = .ok (.invokevirtual 56, 3) := by decide +kernel
theorem dExp_output_5 : decode cExp_output 5 = .ok (.aload_n 0, 1) := by decide +kernel
theorem dExp_output_6 : decode cExp_output 6 = .ok (.getfield 10, 3) := by decide +kernel
theorem dExp_output_9 : decode cExp_output 9 = .ok (.getfield 76, 3) := by decide +kernel
theorem dExp_output_12 : decode cExp_output 12 = .ok (.bipush 6, 2) := by decide +kernel
theorem dExp_output_14 : decode cExp_output 14 = .ok (.if_icmp .lt 5, 3) := by decide +kernel
theorem dExp_output_17 : decode cExp_output 17 = .ok (.iconst (-1), 1) := by decide +kernel
theorem dExp_output_18 : decode cExp_output 18 = .ok (.ireturn, 1) := by decide +kernel
theorem dExp_output_19 : decode cExp_output 19 = .ok (.aload_n 0, 1) := by decide +kernel
theorem dExp_output_20 : decode cExp_output 20 = .ok (.iconst 0, 1) := by decide +kernel
theorem dExp_output_21 : decode cExp_output 21 = .ok (.putfield 37, 3) := by decide +kernel
theorem dExp_output_24 : decode cExp_output 24 = .ok (.aload_n 0, 1) := by decide +kernel
theorem dExp_output_25 : decode cExp_output 25 = .ok (.getfield 10, 3) := by decide +kernel
theorem dExp_output_28 : decode cExp_output 28 = .ok (.iload_n 1, 1) := by decide +kernel
theorem dExp_output_29 : decode cExp_output 29 = .ok (.invokevirtual 80, 3) := by decide +kernel
theorem dExp_output_32 : decode cExp_output 32 = .ok (.ireturn, 1) := by decide +kernel
theorem dExp_clear_0 : decode cExp_clear 0 = .ok (.aload_n 0, 1) := by decide +kernel
theorem dExp_clear_1 : decode cExp_clear 1 = .ok (.getfield 10, 3) := by decide +kernel
theorem dExp_clear_4 : decode cExp_clear 4 = .ok (.getfield 83, 3) := by decide +kernel
theorem dExp_clear_7 : decode cExp_clear 7 = .ok (.istore_n 1, 1) := by decide +kernel
theorem dExp_clear_8 : decode cExp_clear 8 = .ok (.aload_n 0, 1) := by decide +kernel
theorem dExp_clear_9 : decode cExp_clear 9 = .ok (.getfield 10, 3) := by decide +kernel
theorem dExp_clear_12 : decode cExp_clear 12 = .ok (.invokevirtual 86, 3) := by decide +kernel
theorem dExp_clear_15 : decode cExp_clear 15 = .ok (.aload_n 0, 1) := by decide +kernel
theorem dExp_clear_16 : decode cExp_clear 16 = .ok (.iconst 0, 1) := by decide +kernel
theorem dExp_clear_17 : decode cExp_clear 17 = .ok (.putfield 37, 3) := by decide +kernel
theorem dExp_clear_20 : decode cExp_clear 20 = .ok (.iload_n 1, 1) := by decide +kernel
theorem dExp_clear_21 : decode cExp_clear 21 = .ok (.ireturn, 1) := by decide +kernel
theorem dExp_explore_0 : decode cExp_explore 0 = .ok (.aload_n 0, 1) := by decide +kernel
theorem dExp_explore_1 : decode cExp_explore 1 = .ok (.getfield 37, 3) := by decide +kernel
theorem dExp_explore_4 : decode cExp_explore 4 = .ok (.ifCond .ne 53, 3) := by decide +kernel
theorem dExp_explore_7 : decode cExp_explore 7 = .ok (.aload_n 0, 1) := by decide +kernel
theorem dExp_explore_8 : decode cExp_explore 8 = .ok (.getfield 19, 3) := by decide +kernel
theorem dExp_explore_11 : decode cExp_explore 11 = .ok (.aload_n 0, 1) := by decide +kernel
theorem dExp_explore_12 : decode cExp_explore 12 = .ok (.getfield 10, 3) := by decide +kernel
theorem dExp_explore_15 : decode cExp_explore 15 = .ok (.invokevirtual 89, 3) := by decide +kernel
theorem dExp_explore_18 : decode cExp_explore 18 = .ok (.aload_n 0, 1) := by decide +kernel
theorem dExp_explore_19 : decode cExp_explore 19 = .ok (.getfield 26, 3) := by decide +kernel
theorem dExp_explore_22 : decode cExp_explore 22 = .ok (.aload_n 0, 1) := by decide +kernel
theorem dExp_explore_23 : decode cExp_explore 23 = .ok (.getfield 10, 3) := by decide +kernel
theorem dExp_explore_26 : decode cExp_explore 26 = .ok (.aload_n 0, 1) := by decide +kernel
theorem dExp_explore_27 : decode cExp_explore 27 = .ok (.getfield 19, 3) := by decide +kernel
theorem dExp_explore_30 : decode cExp_explore 30 = .ok (.invokevirtual 93, 3) := by decide +kernel
theorem dExp_explore_33 : decode cExp_explore 33 = .ok (.aload_n 0, 1) := by decide +kernel
theorem dExp_explore_34 : decode cExp_explore 34 = .ok (.getfield 33, 3) := by decide +kernel
theorem dExp_explore_37 : decode cExp_explore 37 = .ok (.aload_n 0, 1) := by decide +kernel
theorem dExp_explore_38 : decode cExp_explore 38 = .ok (.getfield 10, 3) := by decide +kernel
theorem dExp_explore_41 : decode cExp_explore 41 = .ok (.aload_n 0, 1) := by decide +kernel
theorem dExp_explore_42 : decode cExp_explore 42 = .ok (.getfield 19, 3) := by decide +kernel
theorem dExp_explore_45 : decode cExp_explore 45 = .ok (.aload_n 0, 1) := by decide +kernel
theorem dExp_explore_46 : decode cExp_explore 46 = .ok (.getfield 26, 3) := by decide +kernel
theorem dExp_explore_49 : decode cExp_explore 49 = .ok (.invokevirtual 97, 3) := by decide +kernel
theorem dExp_explore_52 : decode cExp_explore 52 = .ok (.aload_n 0, 1) := by decide +kernel
theorem dExp_explore_53 : decode cExp_explore 53 = .ok (.iconst 1, 1) := by decide +kernel
theorem dExp_explore_54 : decode cExp_explore 54 = .ok (.putfield 37, 3) := by decide +kernel
theorem dExp_explore_57 : decode cExp_explore 57 = .ok (.aload_n 0, 1) := by decide +kernel
theorem dExp_explore_58 : decode cExp_explore 58 = .ok (.getfield 26, 3) := by decide +kernel
theorem dExp_explore_61 : decode cExp_explore 61 = .ok (.getfield 101, 3) := by decide +kernel
theorem dExp_explore_64 : decode cExp_explore 64 = .ok (.ireturn, 1) := by decide +kernel
theorem dExp_distance_0 : decode cExp_distance 0 = .ok (.aload_n 0, 1) := by decide +kernel
theorem dExp_distance_1 : decode cExp_distance 1 = .ok (.invokevirtual 104, 3) := by decide +kernel
theorem dExp_distance_4 : decode cExp_distance 4 = .ok (.aload_n 0, 1) := by decide +kernel
theorem dExp_distance_5 : decode cExp_distance 5 = .ok (.iload_n 1, 1) := by decide +kernel
theorem dExp_distance_6 : decode cExp_distance 6 = .ok (.invokevirtual 107, 3) := by decide +kernel
theorem dExp_distance_9 : decode cExp_distance 9 = .ok (.aload_n 0, 1) := by decide +kernel
theorem dExp_distance_10 : decode cExp_distance 10 = .ok (.getfield 26, 3) := by decide +kernel
theorem dExp_distance_13 : decode cExp_distance 13 = .ok (.getfield 110, 3) := by decide +kernel
theorem dExp_distance_16 : decode cExp_distance 16 = .ok (.iload_n 1, 1) := by decide +kernel
theorem dExp_distance_17 : decode cExp_distance 17 = .ok (.iaload, 1) := by decide +kernel
theorem dExp_distance_18 : decode cExp_distance 18 = .ok (.ireturn, 1) := by decide +kernel
theorem dExp_way_0 : decode cExp_way 0 = .ok (.aload_n 0, 1) := by decide +kernel
theorem dExp_way_1 : decode cExp_way 1 = .ok (.invokevirtual 104, 3) := by decide +kernel
theorem dExp_way_4 : decode cExp_way 4 = .ok (.aload_n 0, 1) := by decide +kernel
theorem dExp_way_5 : decode cExp_way 5 = .ok (.iload_n 1, 1) := by decide +kernel
theorem dExp_way_6 : decode cExp_way 6 = .ok (.invokevirtual 107, 3) := by decide +kernel
theorem dExp_way_9 : decode cExp_way 9 = .ok (.iload_n 2, 1) := by decide +kernel
theorem dExp_way_10 : decode cExp_way 10 = .ok (.ifCond .ge 13, 3) := by decide +kernel
theorem dExp_way_13 : decode cExp_way 13 = .ok (.new 114, 3) := by decide +kernel
theorem dExp_way_16 : decode cExp_way 16 = .ok (.dup, 1) := by decide +kernel
theorem dExp_way_17 : decode cExp_way 17 = .ok (.ldc 116, 2) := by decide +kernel
theorem dExp_way_19 : decode cExp_way 19 = .ok (.invokespecial 118, 3) := by decide +kernel
theorem dExp_way_22 : decode cExp_way 22 = .ok (.athrow, 1) := by decide +kernel
theorem dExp_way_23 : decode cExp_way 23 = .ok (.aload_n 0, 1) := by decide +kernel
theorem dExp_way_24 : decode cExp_way 24 = .ok (.getfield 26, 3) := by decide +kernel
theorem dExp_way_27 : decode cExp_way 27 = .ok (.iload_n 1, 1) := by decide +kernel
theorem dExp_way_28 : decode cExp_way 28 = .ok (.iload_n 2, 1) := by decide +kernel
theorem dExp_way_29 : decode cExp_way 29 = .ok (.invokevirtual 119, 3) := by decide +kernel
theorem dExp_way_32 : decode cExp_way 32 = .ok (.ireturn, 1) := by decide +kernel
theorem dExp_many_0 : decode cExp_many 0 = .ok (.aload_n 0, 1) := by decide +kernel
theorem dExp_many_1 : decode cExp_many 1 = .ok (.invokevirtual 104, 3) := by decide +kernel
theorem dExp_many_4 : decode cExp_many 4 = .ok (.aload_n 0, 1) := by decide +kernel
theorem dExp_many_5 : decode cExp_many 5 = .ok (.getfield 26, 3) := by decide +kernel
theorem dExp_many_8 : decode cExp_many 8 = .ok (.iload_n 1, 1) := by decide +kernel
theorem dExp_many_9 : decode cExp_many 9 = .ok (.invokevirtual 123, 3) := by decide +kernel
theorem dExp_many_12 : decode cExp_many 12 = .ok (.ireturn, 1) := by decide +kernel
theorem dExp_next_0 : decode cExp_next 0 = .ok (.aload_n 0, 1) := by decide +kernel
theorem dExp_next_1 : decode cExp_next 1 = .ok (.invokevirtual 104, 3) := by decide +kernel
theorem dExp_next_4 : decode cExp_next 4 = .ok (.aload_n 0, 1) := by decide +kernel
theorem dExp_next_5 : decode cExp_next 5 = .ok (.iload_n 1, 1) := by decide +kernel
theorem dExp_next_6 : decode cExp_next 6 = .ok (.invokevirtual 107, 3) := by decide +kernel
theorem dExp_next_9 : decode cExp_next 9 = .ok (.iload_n 2, 1) := by decide +kernel
theorem dExp_next_10 : decode cExp_next 10 = .ok (.ifCond .lt 9, 3) := by decide +kernel
theorem dExp_next_13 : decode cExp_next 13 = .ok (.iload_n 2, 1) := by decide +kernel
theorem dExp_next_14 : decode cExp_next 14 = .ok (.bipush 16, 2) := by decide +kernel
theorem dExp_next_16 : decode cExp_next 16 = .ok (.if_icmp .lt 13, 3) := by decide +kernel
theorem dExp_next_19 : decode cExp_next 19 = .ok (.new 114, 3) := by decide +kernel
theorem dExp_next_22 : decode cExp_next 22 = .ok (.dup, 1) := by decide +kernel
theorem dExp_next_23 : decode cExp_next 23 = .ok (.ldc 126, 2) := by decide +kernel
theorem dExp_next_25 : decode cExp_next 25 = .ok (.invokespecial 118, 3) := by decide +kernel
theorem dExp_next_28 : decode cExp_next 28 = .ok (.athrow, 1) := by decide +kernel
theorem dExp_next_29 : decode cExp_next 29 = .ok (.aload_n 0, 1) := by decide +kernel
theorem dExp_next_30 : decode cExp_next 30 = .ok (.getfield 19, 3) := by decide +kernel
theorem dExp_next_33 : decode cExp_next 33 = .ok (.iload_n 1, 1) := by decide +kernel
theorem dExp_next_34 : decode cExp_next 34 = .ok (.iload_n 2, 1) := by decide +kernel
theorem dExp_next_35 : decode cExp_next 35 = .ok (.aload_n 0, 1) := by decide +kernel
theorem dExp_next_36 : decode cExp_next 36 = .ok (.getfield 10, 3) := by decide +kernel
theorem dExp_next_39 : decode cExp_next 39 = .ok (.invokevirtual 128, 3) := by decide +kernel
theorem dExp_next_42 : decode cExp_next 42 = .ok (.iconst 1, 1) := by decide +kernel
theorem dExp_next_43 : decode cExp_next 43 = .ok (.isub, 1) := by decide +kernel
theorem dExp_next_44 : decode cExp_next 44 = .ok (.iand, 1) := by decide +kernel
theorem dExp_next_45 : decode cExp_next 45 = .ok (.invokevirtual 131, 3) := by decide +kernel
theorem dExp_next_48 : decode cExp_next 48 = .ok (.ireturn, 1) := by decide +kernel
theorem dExp_doubt_0 : decode cExp_doubt 0 = .ok (.aload_n 0, 1) := by decide +kernel
theorem dExp_doubt_1 : decode cExp_doubt 1 = .ok (.invokevirtual 104, 3) := by decide +kernel
theorem dExp_doubt_4 : decode cExp_doubt 4 = .ok (.iload_n 1, 1) := by decide +kernel
theorem dExp_doubt_5 : decode cExp_doubt 5 = .ok (.ifCond .lt 8, 3) := by decide +kernel
theorem dExp_doubt_8 : decode cExp_doubt 8 = .ok (.iload_n 1, 1) := by decide +kernel
theorem dExp_doubt_9 : decode cExp_doubt 9 = .ok (.iconst 2, 1) := by decide +kernel
theorem dExp_doubt_10 : decode cExp_doubt 10 = .ok (.if_icmp .le 13, 3) := by decide +kernel
theorem dExp_doubt_13 : decode cExp_doubt 13 = .ok (.new 114, 3) := by decide +kernel
theorem dExp_doubt_16 : decode cExp_doubt 16 = .ok (.dup, 1) := by decide +kernel
theorem dExp_doubt_17 : decode cExp_doubt 17 = .ok (.ldc 134, 2) := by decide +kernel
theorem dExp_doubt_19 : decode cExp_doubt 19 = .ok (.invokespecial 118, 3) := by decide +kernel
theorem dExp_doubt_22 : decode cExp_doubt 22 = .ok (.athrow, 1) := by decide +kernel
theorem dExp_doubt_23 : decode cExp_doubt 23 = .ok (.aload_n 0, 1) := by decide +kernel
theorem dExp_doubt_24 : decode cExp_doubt 24 = .ok (.getfield 26, 3) := by decide +kernel
theorem dExp_doubt_27 : decode cExp_doubt 27 = .ok (.getfield 136, 3) := by decide +kernel
theorem dExp_doubt_30 : decode cExp_doubt 30 = .ok (.iconst (-1), 1) := by decide +kernel
theorem dExp_doubt_31 : decode cExp_doubt 31 = .ok (.if_icmp .ne 5, 3) := by decide +kernel
theorem dExp_doubt_34 : decode cExp_doubt 34 = .ok (.iconst (-1), 1) := by decide +kernel
theorem dExp_doubt_35 : decode cExp_doubt 35 = .ok (.ireturn, 1) := by decide +kernel
theorem dExp_doubt_36 : decode cExp_doubt 36 = .ok (.iload_n 1, 1) := by decide +kernel
theorem dExp_doubt_37 : decode cExp_doubt 37 = .ok (.ifCond .ne 19, 3) := by decide +kernel
theorem dExp_doubt_40 : decode cExp_doubt 40 = .ok (.aload_n 0, 1) := by decide +kernel
theorem dExp_doubt_41 : decode cExp_doubt 41 = .ok (.getfield 26, 3) := by decide +kernel
theorem dExp_doubt_44 : decode cExp_doubt 44 = .ok (.getfield 110, 3) := by decide +kernel
theorem dExp_doubt_47 : decode cExp_doubt 47 = .ok (.aload_n 0, 1) := by decide +kernel
theorem dExp_doubt_48 : decode cExp_doubt 48 = .ok (.getfield 26, 3) := by decide +kernel
theorem dExp_doubt_51 : decode cExp_doubt 51 = .ok (.getfield 136, 3) := by decide +kernel
theorem dExp_doubt_54 : decode cExp_doubt 54 = .ok (.iaload, 1) := by decide +kernel
theorem dExp_doubt_55 : decode cExp_doubt 55 = .ok (.ireturn, 1) := by decide +kernel
theorem dExp_doubt_56 : decode cExp_doubt 56 = .ok (.iload_n 1, 1) := by decide +kernel
theorem dExp_doubt_57 : decode cExp_doubt 57 = .ok (.iconst 1, 1) := by decide +kernel
theorem dExp_doubt_58 : decode cExp_doubt 58 = .ok (.if_icmp .ne 13, 3) := by decide +kernel
theorem dExp_doubt_61 : decode cExp_doubt 61 = .ok (.aload_n 0, 1) := by decide +kernel
theorem dExp_doubt_62 : decode cExp_doubt 62 = .ok (.getfield 26, 3) := by decide +kernel
theorem dExp_doubt_65 : decode cExp_doubt 65 = .ok (.getfield 136, 3) := by decide +kernel
theorem dExp_doubt_68 : decode cExp_doubt 68 = .ok (.goto 10, 3) := by decide +kernel
theorem dExp_doubt_71 : decode cExp_doubt 71 = .ok (.aload_n 0, 1) := by decide +kernel
theorem dExp_doubt_72 : decode cExp_doubt 72 = .ok (.getfield 26, 3) := by decide +kernel
theorem dExp_doubt_75 : decode cExp_doubt 75 = .ok (.getfield 139, 3) := by decide +kernel
theorem dExp_doubt_78 : decode cExp_doubt 78 = .ok (.ireturn, 1) := by decide +kernel
theorem dExp_always_0 : decode cExp_always 0 = .ok (.aload_n 0, 1) := by decide +kernel
theorem dExp_always_1 : decode cExp_always 1 = .ok (.invokevirtual 104, 3) := by decide +kernel
theorem dExp_always_4 : decode cExp_always 4 = .ok (.aload_n 0, 1) := by decide +kernel
theorem dExp_always_5 : decode cExp_always 5 = .ok (.iload_n 1, 1) := by decide +kernel
theorem dExp_always_6 : decode cExp_always 6 = .ok (.invokevirtual 56, 3) := by decide +kernel
theorem dExp_always_9 : decode cExp_always 9 = .ok (.aload_n 0, 1) := by decide +kernel
theorem dExp_always_10 : decode cExp_always 10 = .ok (.getfield 26, 3) := by decide +kernel
theorem dExp_always_13 : decode cExp_always 13 = .ok (.aload_n 0, 1) := by decide +kernel
theorem dExp_always_14 : decode cExp_always 14 = .ok (.getfield 19, 3) := by decide +kernel
theorem dExp_always_17 : decode cExp_always 17 = .ok (.iload_n 1, 1) := by decide +kernel
theorem dExp_always_18 : decode cExp_always 18 = .ok (.iconst 1, 1) := by decide +kernel
theorem dExp_always_19 : decode cExp_always 19 = .ok (.invokevirtual 142, 3) := by decide +kernel
theorem dExp_always_22 : decode cExp_always 22 = .ok (.istore_n 2, 1) := by decide +kernel
theorem dExp_always_23 : decode cExp_always 23 = .ok (.aload_n 0, 1) := by decide +kernel
theorem dExp_always_24 : decode cExp_always 24 = .ok (.getfield 26, 3) := by decide +kernel
theorem dExp_always_27 : decode cExp_always 27 = .ok (.aload_n 0, 1) := by decide +kernel
theorem dExp_always_28 : decode cExp_always 28 = .ok (.getfield 19, 3) := by decide +kernel
theorem dExp_always_31 : decode cExp_always 31 = .ok (.iload_n 1, 1) := by decide +kernel
theorem dExp_always_32 : decode cExp_always 32 = .ok (.iconst 0, 1) := by decide +kernel
theorem dExp_always_33 : decode cExp_always 33 = .ok (.invokevirtual 142, 3) := by decide +kernel
theorem dExp_always_36 : decode cExp_always 36 = .ok (.istore_n 3, 1) := by decide +kernel
theorem dExp_always_37 : decode cExp_always 37 = .ok (.iload_n 2, 1) := by decide +kernel
theorem dExp_always_38 : decode cExp_always 38 = .ok (.iload_n 3, 1) := by decide +kernel
theorem dExp_always_39 : decode cExp_always 39 = .ok (.if_icmp .ne 5, 3) := by decide +kernel
theorem dExp_always_42 : decode cExp_always 42 = .ok (.iconst 2, 1) := by decide +kernel
theorem dExp_always_43 : decode cExp_always 43 = .ok (.ireturn, 1) := by decide +kernel
theorem dExp_always_44 : decode cExp_always 44 = .ok (.iload_n 2, 1) := by decide +kernel
theorem dExp_always_45 : decode cExp_always 45 = .ok (.ifCond .eq 7, 3) := by decide +kernel
theorem dExp_always_48 : decode cExp_always 48 = .ok (.iconst 1, 1) := by decide +kernel
theorem dExp_always_49 : decode cExp_always 49 = .ok (.goto 4, 3) := by decide +kernel
theorem dExp_always_52 : decode cExp_always 52 = .ok (.iconst 0, 1) := by decide +kernel
theorem dExp_always_53 : decode cExp_always 53 = .ok (.ireturn, 1) := by decide +kernel
theorem dExp_isSame_0 : decode cExp_isSame 0 = .ok (.aload_n 0, 1) := by decide +kernel
theorem dExp_isSame_1 : decode cExp_isSame 1 = .ok (.invokevirtual 104, 3) := by decide +kernel
theorem dExp_isSame_4 : decode cExp_isSame 4 = .ok (.aload_n 0, 1) := by decide +kernel
theorem dExp_isSame_5 : decode cExp_isSame 5 = .ok (.iload_n 1, 1) := by decide +kernel
theorem dExp_isSame_6 : decode cExp_isSame 6 = .ok (.invokevirtual 56, 3) := by decide +kernel
theorem dExp_isSame_9 : decode cExp_isSame 9 = .ok (.aload_n 0, 1) := by decide +kernel
theorem dExp_isSame_10 : decode cExp_isSame 10 = .ok (.iload_n 2, 1) := by decide +kernel
theorem dExp_isSame_11 : decode cExp_isSame 11 = .ok (.invokevirtual 56, 3) := by decide +kernel
theorem dExp_isSame_14 : decode cExp_isSame 14 = .ok (.aload_n 0, 1) := by decide +kernel
theorem dExp_isSame_15 : decode cExp_isSame 15 = .ok (.getfield 26, 3) := by decide +kernel
theorem dExp_isSame_18 : decode cExp_isSame 18 = .ok (.aload_n 0, 1) := by decide +kernel
theorem dExp_isSame_19 : decode cExp_isSame 19 = .ok (.getfield 19, 3) := by decide +kernel
theorem dExp_isSame_22 : decode cExp_isSame 22 = .ok (.iload_n 1, 1) := by decide +kernel
theorem dExp_isSame_23 : decode cExp_isSame 23 = .ok (.iload_n 2, 1) := by decide +kernel
theorem dExp_isSame_24 : decode cExp_isSame 24 = .ok (.invokevirtual 146, 3) := by decide +kernel
theorem dExp_isSame_27 : decode cExp_isSame 27 = .ok (.ifCond .ne 7, 3) := by decide +kernel
theorem dExp_isSame_30 : decode cExp_isSame 30 = .ok (.iconst 1, 1) := by decide +kernel
theorem dExp_isSame_31 : decode cExp_isSame 31 = .ok (.goto 4, 3) := by decide +kernel
theorem dExp_isSame_34 : decode cExp_isSame 34 = .ok (.iconst 0, 1) := by decide +kernel
theorem dExp_isSame_35 : decode cExp_isSame 35 = .ok (.ireturn, 1) := by decide +kernel
theorem dExp_group_0 : decode cExp_group 0 = .ok (.aload_n 0, 1) := by decide +kernel
theorem dExp_group_1 : decode cExp_group 1 = .ok (.invokevirtual 104, 3) := by decide +kernel
theorem dExp_group_4 : decode cExp_group 4 = .ok (.aload_n 0, 1) := by decide +kernel
theorem dExp_group_5 : decode cExp_group 5 = .ok (.iload_n 1, 1) := by decide +kernel
theorem dExp_group_6 : decode cExp_group 6 = .ok (.invokevirtual 107, 3) := by decide +kernel
theorem dExp_group_9 : decode cExp_group 9 = .ok (.aload_n 0, 1) := by decide +kernel
theorem dExp_group_10 : decode cExp_group 10 = .ok (.getfield 26, 3) := by decide +kernel
theorem dExp_group_13 : decode cExp_group 13 = .ok (.getfield 110, 3) := by decide +kernel
theorem dExp_group_16 : decode cExp_group 16 = .ok (.iload_n 1, 1) := by decide +kernel
theorem dExp_group_17 : decode cExp_group 17 = .ok (.iaload, 1) := by decide +kernel
theorem dExp_group_18 : decode cExp_group 18 = .ok (.iconst (-1), 1) := by decide +kernel
theorem dExp_group_19 : decode cExp_group 19 = .ok (.if_icmp .ne 7, 3) := by decide +kernel
theorem dExp_group_22 : decode cExp_group 22 = .ok (.iconst (-1), 1) := by decide +kernel
theorem dExp_group_23 : decode cExp_group 23 = .ok (.goto 12, 3) := by decide +kernel
theorem dExp_group_26 : decode cExp_group 26 = .ok (.aload_n 0, 1) := by decide +kernel
theorem dExp_group_27 : decode cExp_group 27 = .ok (.getfield 33, 3) := by decide +kernel
theorem dExp_group_30 : decode cExp_group 30 = .ok (.getfield 149, 3) := by decide +kernel
theorem dExp_group_33 : decode cExp_group 33 = .ok (.iload_n 1, 1) := by decide +kernel
theorem dExp_group_34 : decode cExp_group 34 = .ok (.iaload, 1) := by decide +kernel
theorem dExp_group_35 : decode cExp_group 35 = .ok (.ireturn, 1) := by decide +kernel
theorem dExp_count_0 : decode cExp_count 0 = .ok (.iload_n 1, 1) := by decide +kernel
theorem dExp_count_1 : decode cExp_count 1 = .ok (.tableswitch 184 0 9 #[55, 63, 71, 79, 87, 95, 108, 127, 146, 165], 55) := by decide +kernel
theorem dExp_count_56 : decode cExp_count 56 = .ok (.aload_n 0, 1) := by decide +kernel
theorem dExp_count_57 : decode cExp_count 57 = .ok (.getfield 10, 3) := by decide +kernel
theorem dExp_count_60 : decode cExp_count 60 = .ok (.getfield 83, 3) := by decide +kernel
theorem dExp_count_63 : decode cExp_count 63 = .ok (.ireturn, 1) := by decide +kernel
theorem dExp_count_64 : decode cExp_count 64 = .ok (.aload_n 0, 1) := by decide +kernel
theorem dExp_count_65 : decode cExp_count 65 = .ok (.getfield 10, 3) := by decide +kernel
theorem dExp_count_68 : decode cExp_count 68 = .ok (.invokevirtual 68, 3) := by decide +kernel
theorem dExp_count_71 : decode cExp_count 71 = .ok (.ireturn, 1) := by decide +kernel
theorem dExp_count_72 : decode cExp_count 72 = .ok (.aload_n 0, 1) := by decide +kernel
theorem dExp_count_73 : decode cExp_count 73 = .ok (.getfield 10, 3) := by decide +kernel
theorem dExp_count_76 : decode cExp_count 76 = .ok (.getfield 152, 3) := by decide +kernel
theorem dExp_count_79 : decode cExp_count 79 = .ok (.ireturn, 1) := by decide +kernel
theorem dExp_count_80 : decode cExp_count 80 = .ok (.aload_n 0, 1) := by decide +kernel
theorem dExp_count_81 : decode cExp_count 81 = .ok (.getfield 10, 3) := by decide +kernel
theorem dExp_count_84 : decode cExp_count 84 = .ok (.getfield 155, 3) := by decide +kernel
theorem dExp_count_87 : decode cExp_count 87 = .ok (.ireturn, 1) := by decide +kernel
theorem dExp_count_88 : decode cExp_count 88 = .ok (.aload_n 0, 1) := by decide +kernel
theorem dExp_count_89 : decode cExp_count 89 = .ok (.getfield 10, 3) := by decide +kernel
theorem dExp_count_92 : decode cExp_count 92 = .ok (.getfield 76, 3) := by decide +kernel
theorem dExp_count_95 : decode cExp_count 95 = .ok (.ireturn, 1) := by decide +kernel
theorem dExp_count_96 : decode cExp_count 96 = .ok (.aload_n 0, 1) := by decide +kernel
theorem dExp_count_97 : decode cExp_count 97 = .ok (.getfield 37, 3) := by decide +kernel
theorem dExp_count_100 : decode cExp_count 100 = .ok (.ifCond .eq 7, 3) := by decide +kernel
theorem dExp_count_103 : decode cExp_count 103 = .ok (.iconst 1, 1) := by decide +kernel
theorem dExp_count_104 : decode cExp_count 104 = .ok (.goto 4, 3) := by decide +kernel
theorem dExp_count_107 : decode cExp_count 107 = .ok (.iconst 0, 1) := by decide +kernel
theorem dExp_count_108 : decode cExp_count 108 = .ok (.ireturn, 1) := by decide +kernel
theorem dExp_count_109 : decode cExp_count 109 = .ok (.aload_n 0, 1) := by decide +kernel
theorem dExp_count_110 : decode cExp_count 110 = .ok (.getfield 37, 3) := by decide +kernel
theorem dExp_count_113 : decode cExp_count 113 = .ok (.ifCond .eq 13, 3) := by decide +kernel
theorem dExp_count_116 : decode cExp_count 116 = .ok (.aload_n 0, 1) := by decide +kernel
theorem dExp_count_117 : decode cExp_count 117 = .ok (.getfield 26, 3) := by decide +kernel
theorem dExp_count_120 : decode cExp_count 120 = .ok (.getfield 101, 3) := by decide +kernel
theorem dExp_count_123 : decode cExp_count 123 = .ok (.goto 4, 3) := by decide +kernel
theorem dExp_count_126 : decode cExp_count 126 = .ok (.iconst 0, 1) := by decide +kernel
theorem dExp_count_127 : decode cExp_count 127 = .ok (.ireturn, 1) := by decide +kernel
theorem dExp_count_128 : decode cExp_count 128 = .ok (.aload_n 0, 1) := by decide +kernel
theorem dExp_count_129 : decode cExp_count 129 = .ok (.getfield 37, 3) := by decide +kernel
theorem dExp_count_132 : decode cExp_count 132 = .ok (.ifCond .eq 13, 3) := by decide +kernel
theorem dExp_count_135 : decode cExp_count 135 = .ok (.aload_n 0, 1) := by decide +kernel
theorem dExp_count_136 : decode cExp_count 136 = .ok (.getfield 26, 3) := by decide +kernel
theorem dExp_count_139 : decode cExp_count 139 = .ok (.invokevirtual 158, 3) := by decide +kernel
theorem dExp_count_142 : decode cExp_count 142 = .ok (.goto 4, 3) := by decide +kernel
theorem dExp_count_145 : decode cExp_count 145 = .ok (.iconst 0, 1) := by decide +kernel
theorem dExp_count_146 : decode cExp_count 146 = .ok (.ireturn, 1) := by decide +kernel
theorem dExp_count_147 : decode cExp_count 147 = .ok (.aload_n 0, 1) := by decide +kernel
theorem dExp_count_148 : decode cExp_count 148 = .ok (.getfield 37, 3) := by decide +kernel
theorem dExp_count_151 : decode cExp_count 151 = .ok (.ifCond .eq 13, 3) := by decide +kernel
theorem dExp_count_154 : decode cExp_count 154 = .ok (.aload_n 0, 1) := by decide +kernel
theorem dExp_count_155 : decode cExp_count 155 = .ok (.getfield 33, 3) := by decide +kernel
theorem dExp_count_158 : decode cExp_count 158 = .ok (.getfield 161, 3) := by decide +kernel
theorem dExp_count_161 : decode cExp_count 161 = .ok (.goto 4, 3) := by decide +kernel
theorem dExp_count_164 : decode cExp_count 164 = .ok (.iconst 0, 1) := by decide +kernel
theorem dExp_count_165 : decode cExp_count 165 = .ok (.ireturn, 1) := by decide +kernel
theorem dExp_count_166 : decode cExp_count 166 = .ok (.aload_n 0, 1) := by decide +kernel
theorem dExp_count_167 : decode cExp_count 167 = .ok (.getfield 37, 3) := by decide +kernel
theorem dExp_count_170 : decode cExp_count 170 = .ok (.ifCond .eq 13, 3) := by decide +kernel
theorem dExp_count_173 : decode cExp_count 173 = .ok (.aload_n 0, 1) := by decide +kernel
theorem dExp_count_174 : decode cExp_count 174 = .ok (.getfield 26, 3) := by decide +kernel
theorem dExp_count_177 : decode cExp_count 177 = .ok (.getfield 164, 3) := by decide +kernel
theorem dExp_count_180 : decode cExp_count 180 = .ok (.goto 4, 3) := by decide +kernel
theorem dExp_count_183 : decode cExp_count 183 = .ok (.iconst 0, 1) := by decide +kernel
theorem dExp_count_184 : decode cExp_count 184 = .ok (.ireturn, 1) := by decide +kernel
theorem dExp_count_185 : decode cExp_count 185 = .ok (.iconst (-1), 1) := by decide +kernel
theorem dExp_count_186 : decode cExp_count 186 = .ok (.ireturn, 1) := by decide +kernel
theorem dExp_requireExplored_0 : decode cExp_requireExplored 0 = .ok (.aload_n 0, 1) := by decide +kernel
theorem dExp_requireExplored_1 : decode cExp_requireExplored 1 = .ok (.getfield 37, 3) := by decide +kernel
theorem dExp_requireExplored_4 : decode cExp_requireExplored 4 = .ok (.ifCond .ne 13, 3) := by decide +kernel
theorem dExp_requireExplored_7 : decode cExp_requireExplored 7 = .ok (.new 63, 3) := by decide +kernel
theorem dExp_requireExplored_10 : decode cExp_requireExplored 10 = .ok (.dup, 1) := by decide +kernel
theorem dExp_requireExplored_11 : decode cExp_requireExplored 11 = .ok (.ldc 167, 2) := by decide +kernel
theorem dExp_requireExplored_13 : decode cExp_requireExplored 13 = .ok (.invokespecial 67, 3) := by decide +kernel
theorem dExp_requireExplored_16 : decode cExp_requireExplored 16 = .ok (.athrow, 1) := by decide +kernel
theorem dExp_requireExplored_17 : decode cExp_requireExplored 17 = .ok (.return_, 1) := by decide +kernel
theorem dExp_requireGate_0 : decode cExp_requireGate 0 = .ok (.iload_n 1, 1) := by decide +kernel
theorem dExp_requireGate_1 : decode cExp_requireGate 1 = .ok (.ifCond .lt 14, 3) := by decide +kernel
theorem dExp_requireGate_4 : decode cExp_requireGate 4 = .ok (.iload_n 1, 1) := by decide +kernel
theorem dExp_requireGate_5 : decode cExp_requireGate 5 = .ok (.aload_n 0, 1) := by decide +kernel
theorem dExp_requireGate_6 : decode cExp_requireGate 6 = .ok (.getfield 10, 3) := by decide +kernel
theorem dExp_requireGate_9 : decode cExp_requireGate 9 = .ok (.getfield 83, 3) := by decide +kernel
theorem dExp_requireGate_12 : decode cExp_requireGate 12 = .ok (.if_icmp .lt 13, 3) := by decide +kernel
theorem dExp_requireGate_15 : decode cExp_requireGate 15 = .ok (.new 114, 3) := by decide +kernel
theorem dExp_requireGate_18 : decode cExp_requireGate 18 = .ok (.dup, 1) := by decide +kernel
theorem dExp_requireGate_19 : decode cExp_requireGate 19 = .ok (.ldc 169, 2) := by decide +kernel
theorem dExp_requireGate_21 : decode cExp_requireGate 21 = .ok (.invokespecial 118, 3) := by decide +kernel
theorem dExp_requireGate_24 : decode cExp_requireGate 24 = .ok (.athrow, 1) := by decide +kernel
theorem dExp_requireGate_25 : decode cExp_requireGate 25 = .ok (.return_, 1) := by decide +kernel
theorem dExp_requireState_0 : decode cExp_requireState 0 = .ok (.iload_n 1, 1) := by decide +kernel
theorem dExp_requireState_1 : decode cExp_requireState 1 = .ok (.ifCond .lt 14, 3) := by decide +kernel
theorem dExp_requireState_4 : decode cExp_requireState 4 = .ok (.iload_n 1, 1) := by decide +kernel
theorem dExp_requireState_5 : decode cExp_requireState 5 = .ok (.aload_n 0, 1) := by decide +kernel
theorem dExp_requireState_6 : decode cExp_requireState 6 = .ok (.getfield 10, 3) := by decide +kernel
theorem dExp_requireState_9 : decode cExp_requireState 9 = .ok (.invokevirtual 171, 3) := by decide +kernel
theorem dExp_requireState_12 : decode cExp_requireState 12 = .ok (.if_icmp .lt 13, 3) := by decide +kernel
theorem dExp_requireState_15 : decode cExp_requireState 15 = .ok (.new 114, 3) := by decide +kernel
theorem dExp_requireState_18 : decode cExp_requireState 18 = .ok (.dup, 1) := by decide +kernel
theorem dExp_requireState_19 : decode cExp_requireState 19 = .ok (.ldc 174, 2) := by decide +kernel
theorem dExp_requireState_21 : decode cExp_requireState 21 = .ok (.invokespecial 118, 3) := by decide +kernel
theorem dExp_requireState_24 : decode cExp_requireState 24 = .ok (.athrow, 1) := by decide +kernel
theorem dExp_requireState_25 : decode cExp_requireState 25 = .ok (.return_, 1) := by decide +kernel
theorem dExp_wordOf_0 : decode cExp_wordOf 0 = .ok (.iload_n 0, 1) := by decide +kernel
theorem dExp_wordOf_1 : decode cExp_wordOf 1 = .ok (.iconst 2, 1) := by decide +kernel
theorem dExp_wordOf_2 : decode cExp_wordOf 2 = .ok (.ishr, 1) := by decide +kernel
theorem dExp_wordOf_3 : decode cExp_wordOf 3 = .ok (.ireturn, 1) := by decide +kernel
theorem dExp_shiftOf_0 : decode cExp_shiftOf 0 = .ok (.iload_n 0, 1) := by decide +kernel
theorem dExp_shiftOf_1 : decode cExp_shiftOf 1 = .ok (.iconst 3, 1) := by decide +kernel
theorem dExp_shiftOf_2 : decode cExp_shiftOf 2 = .ok (.iand, 1) := by decide +kernel
theorem dExp_shiftOf_3 : decode cExp_shiftOf 3 = .ok (.iconst 4, 1) := by decide +kernel
theorem dExp_shiftOf_4 : decode cExp_shiftOf 4 = .ok (.ishl, 1) := by decide +kernel
theorem dExp_shiftOf_5 : decode cExp_shiftOf 5 = .ok (.ireturn, 1) := by decide +kernel
