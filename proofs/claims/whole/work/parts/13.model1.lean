theorem ms_k1318 : (Jvm.Cond.fieldLink "MarkupStoreModel" (16 : Nat) "MarkupStoreModel" "w" "[I") ∈ ms_tb := ms_i6 118 (by decide +kernel) (by decide +kernel)
theorem ms_k1324 : (Jvm.Cond.fieldLink "MarkupStoreModel" (197 : Nat) "MarkupStoreModel" "p" "I") ∈ ms_tb := ms_i6 124 (by decide +kernel) (by decide +kernel)
theorem ms_k1325 : (Jvm.Cond.fieldLink "MarkupStoreModel" (137 : Nat) "MarkupStoreModel" "wrong" "I") ∈ ms_tb := ms_i6 125 (by decide +kernel) (by decide +kernel)
theorem ms_k1326 : (Jvm.Cond.fieldLink "MarkupStoreModel" (152 : Nat) "MarkupStoreModel" "many" "I") ∈ ms_tb := ms_i6 126 (by decide +kernel) (by decide +kernel)
theorem ms_k1327 : (Jvm.Cond.fieldLink "MarkupStoreModel" (161 : Nat) "MarkupStoreModel" "over" "Z") ∈ ms_tb := ms_i6 127 (by decide +kernel) (by decide +kernel)
theorem ms_k1328 : (Jvm.Cond.fieldLink "MarkupStoreModel" (155 : Nat) "MarkupStoreModel" "text" "I") ∈ ms_tb := ms_i6 128 (by decide +kernel) (by decide +kernel)
theorem ms_k1330 : (Jvm.Cond.fieldLink "MarkupStoreModel" (158 : Nat) "MarkupStoreModel" "opens" "I") ∈ ms_tb := ms_i6 130 (by decide +kernel) (by decide +kernel)
theorem ms_k1331 : (Jvm.Cond.fieldLink "MarkupStoreModel" (26 : Nat) "MarkupStoreModel" "openAt" "[I") ∈ ms_tb := ms_i6 131 (by decide +kernel) (by decide +kernel)
theorem ms_k1332 : (Jvm.Cond.fieldLink "MarkupStoreModel" (29 : Nat) "MarkupStoreModel" "openFrom" "[I") ∈ ms_tb := ms_i6 132 (by decide +kernel) (by decide +kernel)
theorem ms_k1333 : (Jvm.Cond.fieldLink "MarkupStoreModel" (32 : Nat) "MarkupStoreModel" "openSize" "[I") ∈ ms_tb := ms_i6 133 (by decide +kernel) (by decide +kernel)
theorem ms_k1334 : (Jvm.Cond.fieldLink "MarkupStoreModel" (169 : Nat) "MarkupStoreModel" "entity" "I") ∈ ms_tb := ms_i6 134 (by decide +kernel) (by decide +kernel)
theorem ms_k1335 : (Jvm.Cond.fieldLink "MarkupStoreModel" (172 : Nat) "MarkupStoreModel" "entityLength" "I") ∈ ms_tb := ms_i6 135 (by decide +kernel) (by decide +kernel)
theorem ms_k1336 : (Jvm.Cond.fieldLink "MarkupStoreModel" (35 : Nat) "MarkupStoreModel" "nameFrom" "[I") ∈ ms_tb := ms_i6 136 (by decide +kernel) (by decide +kernel)
theorem ms_k1337 : (Jvm.Cond.fieldLink "MarkupStoreModel" (38 : Nat) "MarkupStoreModel" "nameSize" "[I") ∈ ms_tb := ms_i6 137 (by decide +kernel) (by decide +kernel)
theorem ms_k1516 : (Jvm.Cond.methodLink "MarkupStoreModel" (140 : Nat) ({ cls := "MarkupStoreModel", name := "look", desc := "(I)C" } : Jvm.MethodName)) ∈ ms_tb := ms_i7 76 (by decide +kernel) (by decide +kernel)
theorem ms_k1518 : (Jvm.Cond.instanceMethod ({ cls := "MarkupStoreModel", name := "look", desc := "(I)C" } : Jvm.MethodName)) ∈ ms_tb := ms_i7 78 (by decide +kernel) (by decide +kernel)
theorem ms_k1519 : (Jvm.Cond.code ({ cls := "MarkupStoreModel", name := "look", desc := "(I)C" } : Jvm.MethodName) prog_14_method_12_code (2 : Nat) (Option.some Jvm.ClassFile.FieldType.char)) ∈ ms_tb := ms_i7 79 (by decide +kernel) (by decide +kernel)
theorem ms_k1520 : (Jvm.Cond.methodLink "MarkupStoreModel" (144 : Nat) ({ cls := "MarkupStoreModel", name := "error", desc := "(I)V" } : Jvm.MethodName)) ∈ ms_tb := ms_i7 80 (by decide +kernel) (by decide +kernel)
theorem ms_k1522 : (Jvm.Cond.instanceMethod ({ cls := "MarkupStoreModel", name := "error", desc := "(I)V" } : Jvm.MethodName)) ∈ ms_tb := ms_i7 82 (by decide +kernel) (by decide +kernel)
theorem ms_k1523 : (Jvm.Cond.code ({ cls := "MarkupStoreModel", name := "error", desc := "(I)V" } : Jvm.MethodName) prog_14_method_15_code (2 : Nat) (Option.none : Option Jvm.ClassFile.FieldType)) ∈ ms_tb := ms_i7 83 (by decide +kernel) (by decide +kernel)
theorem ms_k1528 : (Jvm.Cond.methodLink "MarkupStoreModel" (148 : Nat) ({ cls := "MarkupStoreModel", name := "small", desc := "(C)Z" } : Jvm.MethodName)) ∈ ms_tb := ms_i7 88 (by decide +kernel) (by decide +kernel)
theorem ms_k1529 : (Jvm.Cond.static ({ cls := "MarkupStoreModel", name := "small", desc := "(C)Z" } : Jvm.MethodName)) ∈ ms_tb := ms_i7 89 (by decide +kernel) (by decide +kernel)
theorem ms_k1530 : (Jvm.Cond.code ({ cls := "MarkupStoreModel", name := "small", desc := "(C)Z" } : Jvm.MethodName) prog_14_method_13_code (1 : Nat) (Option.some Jvm.ClassFile.FieldType.boolean)) ∈ ms_tb := ms_i7 90 (by decide +kernel) (by decide +kernel)
theorem ms_k1535 : (Jvm.Cond.methodLink "MarkupStoreModel" (194 : Nat) ({ cls := "MarkupStoreModel", name := "make", desc := "(I)I" } : Jvm.MethodName)) ∈ ms_tb := ms_i7 95 (by decide +kernel) (by decide +kernel)
theorem ms_k1537 : (Jvm.Cond.instanceMethod ({ cls := "MarkupStoreModel", name := "make", desc := "(I)I" } : Jvm.MethodName)) ∈ ms_tb := ms_i7 97 (by decide +kernel) (by decide +kernel)
theorem ms_k1538 : (Jvm.Cond.code ({ cls := "MarkupStoreModel", name := "make", desc := "(I)I" } : Jvm.MethodName) prog_14_method_18_code (4 : Nat) (Option.some Jvm.ClassFile.FieldType.int)) ∈ ms_tb := ms_i7 98 (by decide +kernel) (by decide +kernel)
theorem ms_k1539 : (Jvm.Cond.methodLink "MarkupStoreModel" (175 : Nat) ({ cls := "MarkupStoreModel", name := "letters", desc := "(I)I" } : Jvm.MethodName)) ∈ ms_tb := ms_i7 99 (by decide +kernel) (by decide +kernel)
theorem ms_k1541 : (Jvm.Cond.instanceMethod ({ cls := "MarkupStoreModel", name := "letters", desc := "(I)I" } : Jvm.MethodName)) ∈ ms_tb := ms_i7 101 (by decide +kernel) (by decide +kernel)
theorem ms_k1542 : (Jvm.Cond.code ({ cls := "MarkupStoreModel", name := "letters", desc := "(I)I" } : Jvm.MethodName) prog_14_method_17_code (3 : Nat) (Option.some Jvm.ClassFile.FieldType.int)) ∈ ms_tb := ms_i7 102 (by decide +kernel) (by decide +kernel)
theorem ms_k1543 : (Jvm.Cond.methodLink "MarkupStoreModel" (200 : Nat) ({ cls := "MarkupStoreModel", name := "attribute", desc := "(III)I" } : Jvm.MethodName)) ∈ ms_tb := ms_i7 103 (by decide +kernel) (by decide +kernel)
theorem ms_k1545 : (Jvm.Cond.instanceMethod ({ cls := "MarkupStoreModel", name := "attribute", desc := "(III)I" } : Jvm.MethodName)) ∈ ms_tb := ms_i7 105 (by decide +kernel) (by decide +kernel)
theorem ms_k1546 : (Jvm.Cond.code ({ cls := "MarkupStoreModel", name := "attribute", desc := "(III)I" } : Jvm.MethodName) prog_14_method_23_code (9 : Nat) (Option.some Jvm.ClassFile.FieldType.int)) ∈ ms_tb := ms_i7 106 (by decide +kernel) (by decide +kernel)
theorem ms_k1547 : (Jvm.Cond.methodLink "MarkupStoreModel" (178 : Nat) ({ cls := "MarkupStoreModel", name := "twice", desc := "(III)Z" } : Jvm.MethodName)) ∈ ms_tb := ms_i7 107 (by decide +kernel) (by decide +kernel)
theorem ms_k1549 : (Jvm.Cond.instanceMethod ({ cls := "MarkupStoreModel", name := "twice", desc := "(III)Z" } : Jvm.MethodName)) ∈ ms_tb := ms_i7 109 (by decide +kernel) (by decide +kernel)
theorem ms_k1550 : (Jvm.Cond.code ({ cls := "MarkupStoreModel", name := "twice", desc := "(III)Z" } : Jvm.MethodName) prog_14_method_22_code (7 : Nat) (Option.some Jvm.ClassFile.FieldType.boolean)) ∈ ms_tb := ms_i7 110 (by decide +kernel) (by decide +kernel)
theorem ms_k1551 : (Jvm.Cond.methodLink "MarkupStoreModel" (182 : Nat) ({ cls := "MarkupStoreModel", name := "must", desc := "(IC)Z" } : Jvm.MethodName)) ∈ ms_tb := ms_i7 111 (by decide +kernel) (by decide +kernel)
theorem ms_k1553 : (Jvm.Cond.instanceMethod ({ cls := "MarkupStoreModel", name := "must", desc := "(IC)Z" } : Jvm.MethodName)) ∈ ms_tb := ms_i7 113 (by decide +kernel) (by decide +kernel)
theorem ms_k1554 : (Jvm.Cond.code ({ cls := "MarkupStoreModel", name := "must", desc := "(IC)Z" } : Jvm.MethodName) prog_14_method_16_code (3 : Nat) (Option.some Jvm.ClassFile.FieldType.boolean)) ∈ ms_tb := ms_i7 114 (by decide +kernel) (by decide +kernel)
theorem ms_k1555 : (Jvm.Cond.methodLink "MarkupStoreModel" (186 : Nat) ({ cls := "MarkupStoreModel", name := "isEntity", desc := "(I)Z" } : Jvm.MethodName)) ∈ ms_tb := ms_i7 115 (by decide +kernel) (by decide +kernel)
theorem ms_k1557 : (Jvm.Cond.instanceMethod ({ cls := "MarkupStoreModel", name := "isEntity", desc := "(I)Z" } : Jvm.MethodName)) ∈ ms_tb := ms_i7 117 (by decide +kernel) (by decide +kernel)
theorem ms_k1558 : (Jvm.Cond.code ({ cls := "MarkupStoreModel", name := "isEntity", desc := "(I)Z" } : Jvm.MethodName) prog_14_method_21_code (7 : Nat) (Option.some Jvm.ClassFile.FieldType.boolean)) ∈ ms_tb := ms_i7 118 (by decide +kernel) (by decide +kernel)
theorem ms_k1559 : (Jvm.Cond.methodLink "MarkupStoreModel" (165 : Nat) ({ cls := "MarkupStoreModel", name := "word", desc := "(ICCCC)Z" } : Jvm.MethodName)) ∈ ms_tb := ms_i7 119 (by decide +kernel) (by decide +kernel)
theorem ms_k1561 : (Jvm.Cond.instanceMethod ({ cls := "MarkupStoreModel", name := "word", desc := "(ICCCC)Z" } : Jvm.MethodName)) ∈ ms_tb := ms_i7 121 (by decide +kernel) (by decide +kernel)
theorem ms_k1562 : (Jvm.Cond.code ({ cls := "MarkupStoreModel", name := "word", desc := "(ICCCC)Z" } : Jvm.MethodName) prog_14_method_20_code (6 : Nat) (Option.some Jvm.ClassFile.FieldType.boolean)) ∈ ms_tb := ms_i7 122 (by decide +kernel) (by decide +kernel)
theorem ms_k1563 : (Jvm.Cond.methodLink "MarkupStoreModel" (190 : Nat) ({ cls := "MarkupStoreModel", name := "append", desc := "(IIIC)V" } : Jvm.MethodName)) ∈ ms_tb := ms_i7 123 (by decide +kernel) (by decide +kernel)
theorem ms_k1565 : (Jvm.Cond.instanceMethod ({ cls := "MarkupStoreModel", name := "append", desc := "(IIIC)V" } : Jvm.MethodName)) ∈ ms_tb := ms_i7 125 (by decide +kernel) (by decide +kernel)
theorem ms_k1566 : (Jvm.Cond.code ({ cls := "MarkupStoreModel", name := "append", desc := "(IIIC)V" } : Jvm.MethodName) prog_14_method_19_code (6 : Nat) (Option.none : Option Jvm.ClassFile.FieldType)) ∈ ms_tb := ms_i7 126 (by decide +kernel) (by decide +kernel)
theorem ms_p46 : Cond.selects "MarkupStoreModel" (⟨"MarkupStoreModel", "look", "(I)C"⟩ : MethodName) (⟨"MarkupStoreModel", "look", "(I)C"⟩ : MethodName) ∈ ms_tb := ms_inP 46 (by decide +kernel) (by decide +kernel)
theorem ms_p47 : Cond.selects "MarkupStoreModel" (⟨"MarkupStoreModel", "error", "(I)V"⟩ : MethodName) (⟨"MarkupStoreModel", "error", "(I)V"⟩ : MethodName) ∈ ms_tb := ms_inP 47 (by decide +kernel) (by decide +kernel)
theorem ms_p50 : Cond.selects "MarkupStoreModel" (⟨"MarkupStoreModel", "make", "(I)I"⟩ : MethodName) (⟨"MarkupStoreModel", "make", "(I)I"⟩ : MethodName) ∈ ms_tb := ms_inP 50 (by decide +kernel) (by decide +kernel)
theorem ms_p51 : Cond.selects "MarkupStoreModel" (⟨"MarkupStoreModel", "letters", "(I)I"⟩ : MethodName) (⟨"MarkupStoreModel", "letters", "(I)I"⟩ : MethodName) ∈ ms_tb := ms_inP 51 (by decide +kernel) (by decide +kernel)
theorem ms_p52 : Cond.selects "MarkupStoreModel" (⟨"MarkupStoreModel", "attribute", "(III)I"⟩ : MethodName) (⟨"MarkupStoreModel", "attribute", "(III)I"⟩ : MethodName) ∈ ms_tb := ms_inP 52 (by decide +kernel) (by decide +kernel)
theorem ms_p53 : Cond.selects "MarkupStoreModel" (⟨"MarkupStoreModel", "twice", "(III)Z"⟩ : MethodName) (⟨"MarkupStoreModel", "twice", "(III)Z"⟩ : MethodName) ∈ ms_tb := ms_inP 53 (by decide +kernel) (by decide +kernel)
theorem ms_p54 : Cond.selects "MarkupStoreModel" (⟨"MarkupStoreModel", "must", "(IC)Z"⟩ : MethodName) (⟨"MarkupStoreModel", "must", "(IC)Z"⟩ : MethodName) ∈ ms_tb := ms_inP 54 (by decide +kernel) (by decide +kernel)
theorem ms_p55 : Cond.selects "MarkupStoreModel" (⟨"MarkupStoreModel", "isEntity", "(I)Z"⟩ : MethodName) (⟨"MarkupStoreModel", "isEntity", "(I)Z"⟩ : MethodName) ∈ ms_tb := ms_inP 55 (by decide +kernel) (by decide +kernel)
theorem ms_p56 : Cond.selects "MarkupStoreModel" (⟨"MarkupStoreModel", "word", "(ICCCC)Z"⟩ : MethodName) (⟨"MarkupStoreModel", "word", "(ICCCC)Z"⟩ : MethodName) ∈ ms_tb := ms_inP 56 (by decide +kernel) (by decide +kernel)
theorem ms_p57 : Cond.selects "MarkupStoreModel" (⟨"MarkupStoreModel", "append", "(IIIC)V"⟩ : MethodName) (⟨"MarkupStoreModel", "append", "(IIIC)V"⟩ : MethodName) ∈ ms_tb := ms_inP 57 (by decide +kernel) (by decide +kernel)
abbrev bM52 : ByteArray := prog_14_method_14_code
def yM52 : MethodName := ⟨"MarkupStoreModel", "digit", "(C)Z"⟩
abbrev bM53 : ByteArray := prog_14_method_15_code
def yM53 : MethodName := ⟨"MarkupStoreModel", "error", "(I)V"⟩
abbrev bM54 : ByteArray := prog_14_method_16_code
def yM54 : MethodName := ⟨"MarkupStoreModel", "must", "(IC)Z"⟩
abbrev bM55 : ByteArray := prog_14_method_17_code
def yM55 : MethodName := ⟨"MarkupStoreModel", "letters", "(I)I"⟩
abbrev bM56 : ByteArray := prog_14_method_18_code
def yM56 : MethodName := ⟨"MarkupStoreModel", "make", "(I)I"⟩
abbrev bM57 : ByteArray := prog_14_method_19_code
def yM57 : MethodName := ⟨"MarkupStoreModel", "append", "(IIIC)V"⟩
abbrev bM58 : ByteArray := prog_14_method_20_code
def yM58 : MethodName := ⟨"MarkupStoreModel", "word", "(ICCCC)Z"⟩
abbrev bM59 : ByteArray := prog_14_method_21_code
def yM59 : MethodName := ⟨"MarkupStoreModel", "isEntity", "(I)Z"⟩
abbrev bM60 : ByteArray := prog_14_method_22_code
def yM60 : MethodName := ⟨"MarkupStoreModel", "twice", "(III)Z"⟩
abbrev bM61 : ByteArray := prog_14_method_23_code
def yM61 : MethodName := ⟨"MarkupStoreModel", "attribute", "(III)I"⟩
abbrev bM62 : ByteArray := prog_14_method_24_code
def yM62 : MethodName := ⟨"MarkupStoreModel", "startTag", "()V"⟩
abbrev bM63 : ByteArray := prog_14_method_25_code
def yM63 : MethodName := ⟨"MarkupStoreModel", "endTag", "()V"⟩
theorem d52_0 : decode bM52 0 = .ok (.iload_n 0, 1) := by decide +kernel
theorem d52_1 : decode bM52 1 = .ok (.bipush 48, 2) := by decide +kernel
theorem d52_3 : decode bM52 3 = .ok (.if_icmp .lt 13, 3) := by decide +kernel
theorem d52_6 : decode bM52 6 = .ok (.iload_n 0, 1) := by decide +kernel
theorem d52_7 : decode bM52 7 = .ok (.bipush 57, 2) := by decide +kernel
theorem d52_9 : decode bM52 9 = .ok (.if_icmp .gt 7, 3) := by decide +kernel
theorem d52_12 : decode bM52 12 = .ok (.iconst 1, 1) := by decide +kernel
theorem d52_13 : decode bM52 13 = .ok (.goto 4, 3) := by decide +kernel
theorem d52_16 : decode bM52 16 = .ok (.iconst 0, 1) := by decide +kernel
theorem d52_17 : decode bM52 17 = .ok (.ireturn, 1) := by decide +kernel
theorem d53_0 : decode bM53 0 = .ok (.aload_n 0, 1) := by decide +kernel
theorem d53_1 : decode bM53 1 = .ok (.getfield 137, 3) := by decide +kernel
theorem d53_4 : decode bM53 4 = .ok (.ifCond .ge 23, 3) := by decide +kernel
theorem d53_7 : decode bM53 7 = .ok (.aload_n 0, 1) := by decide +kernel
theorem d53_8 : decode bM53 8 = .ok (.iload_n 1, 1) := by decide +kernel
theorem d53_9 : decode bM53 9 = .ok (.aload_n 0, 1) := by decide +kernel
theorem d53_10 : decode bM53 10 = .ok (.getfield 133, 3) := by decide +kernel
theorem d53_13 : decode bM53 13 = .ok (.if_icmp .ge 7, 3) := by decide +kernel
theorem d53_16 : decode bM53 16 = .ok (.iload_n 1, 1) := by decide +kernel
theorem d53_17 : decode bM53 17 = .ok (.goto 7, 3) := by decide +kernel
theorem d53_20 : decode bM53 20 = .ok (.aload_n 0, 1) := by decide +kernel
theorem d53_21 : decode bM53 21 = .ok (.getfield 133, 3) := by decide +kernel
theorem d53_24 : decode bM53 24 = .ok (.putfield 137, 3) := by decide +kernel
theorem d53_27 : decode bM53 27 = .ok (.return_, 1) := by decide +kernel
theorem d54_0 : decode bM54 0 = .ok (.aload_n 0, 1) := by decide +kernel
theorem d54_1 : decode bM54 1 = .ok (.iload_n 1, 1) := by decide +kernel
theorem d54_2 : decode bM54 2 = .ok (.invokevirtual 140, 3) := by decide +kernel
theorem d54_5 : decode bM54 5 = .ok (.iload_n 2, 1) := by decide +kernel
theorem d54_6 : decode bM54 6 = .ok (.if_icmp .eq 8, 3) := by decide +kernel
theorem d54_9 : decode bM54 9 = .ok (.aload_n 0, 1) := by decide +kernel
theorem d54_10 : decode bM54 10 = .ok (.iload_n 1, 1) := by decide +kernel
theorem d54_11 : decode bM54 11 = .ok (.invokevirtual 144, 3) := by decide +kernel
theorem d54_14 : decode bM54 14 = .ok (.aload_n 0, 1) := by decide +kernel
theorem d54_15 : decode bM54 15 = .ok (.getfield 137, 3) := by decide +kernel
theorem d54_18 : decode bM54 18 = .ok (.ifCond .ge 7, 3) := by decide +kernel
theorem d54_21 : decode bM54 21 = .ok (.iconst 1, 1) := by decide +kernel
theorem d54_22 : decode bM54 22 = .ok (.goto 4, 3) := by decide +kernel
theorem d54_25 : decode bM54 25 = .ok (.iconst 0, 1) := by decide +kernel
theorem d54_26 : decode bM54 26 = .ok (.ireturn, 1) := by decide +kernel
theorem d55_0 : decode bM55 0 = .ok (.iconst 0, 1) := by decide +kernel
theorem d55_1 : decode bM55 1 = .ok (.istore_n 2, 1) := by decide +kernel
theorem d55_2 : decode bM55 2 = .ok (.iload_n 2, 1) := by decide +kernel
theorem d55_3 : decode bM55 3 = .ok (.bipush 6, 2) := by decide +kernel
theorem d55_5 : decode bM55 5 = .ok (.if_icmp .ge 22, 3) := by decide +kernel
theorem d55_8 : decode bM55 8 = .ok (.aload_n 0, 1) := by decide +kernel
theorem d55_9 : decode bM55 9 = .ok (.iload_n 1, 1) := by decide +kernel
theorem d55_10 : decode bM55 10 = .ok (.iload_n 2, 1) := by decide +kernel
theorem d55_11 : decode bM55 11 = .ok (.iadd, 1) := by decide +kernel
theorem d55_12 : decode bM55 12 = .ok (.invokevirtual 140, 3) := by decide +kernel
theorem d55_15 : decode bM55 15 = .ok (.invokestatic 148, 3) := by decide +kernel
theorem d55_18 : decode bM55 18 = .ok (.ifCond .eq 9, 3) := by decide +kernel
theorem d55_21 : decode bM55 21 = .ok (.iinc 2 1, 3) := by decide +kernel
theorem d55_24 : decode bM55 24 = .ok (.goto (-22), 3) := by decide +kernel
theorem d55_27 : decode bM55 27 = .ok (.iload_n 2, 1) := by decide +kernel
theorem d55_28 : decode bM55 28 = .ok (.ireturn, 1) := by decide +kernel
theorem d56_0 : decode bM56 0 = .ok (.aload_n 0, 1) := by decide +kernel
theorem d56_1 : decode bM56 1 = .ok (.getfield 152, 3) := by decide +kernel
theorem d56_4 : decode bM56 4 = .ok (.istore_n 2, 1) := by decide +kernel
theorem d56_5 : decode bM56 5 = .ok (.aload_n 0, 1) := by decide +kernel
theorem d56_6 : decode bM56 6 = .ok (.dup, 1) := by decide +kernel
theorem d56_7 : decode bM56 7 = .ok (.getfield 152, 3) := by decide +kernel
theorem d56_10 : decode bM56 10 = .ok (.iconst 1, 1) := by decide +kernel
theorem d56_11 : decode bM56 11 = .ok (.iadd, 1) := by decide +kernel
theorem d56_12 : decode bM56 12 = .ok (.putfield 152, 3) := by decide +kernel
theorem d56_15 : decode bM56 15 = .ok (.aload_n 0, 1) := by decide +kernel
theorem d56_16 : decode bM56 16 = .ok (.iload_n 1, 1) := by decide +kernel
theorem d56_17 : decode bM56 17 = .ok (.iconst 2, 1) := by decide +kernel
theorem d56_18 : decode bM56 18 = .ok (.if_icmp .ne 7, 3) := by decide +kernel
theorem d56_21 : decode bM56 21 = .ok (.iload_n 2, 1) := by decide +kernel
theorem d56_22 : decode bM56 22 = .ok (.goto 4, 3) := by decide +kernel
theorem d56_25 : decode bM56 25 = .ok (.iconst (-1), 1) := by decide +kernel
theorem d56_26 : decode bM56 26 = .ok (.putfield 155, 3) := by decide +kernel
theorem d56_29 : decode bM56 29 = .ok (.iload_n 2, 1) := by decide +kernel
theorem d56_30 : decode bM56 30 = .ok (.bipush 40, 2) := by decide +kernel
theorem d56_32 : decode bM56 32 = .ok (.if_icmp .lt 5, 3) := by decide +kernel
theorem d56_35 : decode bM56 35 = .ok (.iload_n 2, 1) := by decide +kernel
theorem d56_36 : decode bM56 36 = .ok (.ireturn, 1) := by decide +kernel
theorem d56_37 : decode bM56 37 = .ok (.iconst 0, 1) := by decide +kernel
theorem d56_38 : decode bM56 38 = .ok (.istore_n 3, 1) := by decide +kernel
theorem d56_39 : decode bM56 39 = .ok (.iload_n 3, 1) := by decide +kernel
theorem d56_40 : decode bM56 40 = .ok (.sipush 128, 3) := by decide +kernel
theorem d56_43 : decode bM56 43 = .ok (.if_icmp .ge 22, 3) := by decide +kernel
theorem d56_46 : decode bM56 46 = .ok (.aload_n 0, 1) := by decide +kernel
theorem d56_47 : decode bM56 47 = .ok (.getfield 16, 3) := by decide +kernel
theorem d56_50 : decode bM56 50 = .ok (.sipush 128, 3) := by decide +kernel
theorem d56_53 : decode bM56 53 = .ok (.iload_n 2, 1) := by decide +kernel
theorem d56_54 : decode bM56 54 = .ok (.imul, 1) := by decide +kernel
theorem d56_55 : decode bM56 55 = .ok (.iload_n 3, 1) := by decide +kernel
theorem d56_56 : decode bM56 56 = .ok (.iadd, 1) := by decide +kernel
theorem d56_57 : decode bM56 57 = .ok (.iconst 0, 1) := by decide +kernel
theorem d56_58 : decode bM56 58 = .ok (.iastore, 1) := by decide +kernel
theorem d56_59 : decode bM56 59 = .ok (.iinc 3 1, 3) := by decide +kernel
theorem d56_62 : decode bM56 62 = .ok (.goto (-23), 3) := by decide +kernel
theorem d56_65 : decode bM56 65 = .ok (.aload_n 0, 1) := by decide +kernel
theorem d56_66 : decode bM56 66 = .ok (.getfield 16, 3) := by decide +kernel
theorem d56_69 : decode bM56 69 = .ok (.sipush 128, 3) := by decide +kernel
theorem d56_72 : decode bM56 72 = .ok (.iload_n 2, 1) := by decide +kernel
theorem d56_73 : decode bM56 73 = .ok (.imul, 1) := by decide +kernel
theorem d56_74 : decode bM56 74 = .ok (.iconst 1, 1) := by decide +kernel
theorem d56_75 : decode bM56 75 = .ok (.iadd, 1) := by decide +kernel
theorem d56_76 : decode bM56 76 = .ok (.iload_n 1, 1) := by decide +kernel
theorem d56_77 : decode bM56 77 = .ok (.iastore, 1) := by decide +kernel
theorem d56_78 : decode bM56 78 = .ok (.aload_n 0, 1) := by decide +kernel
theorem d56_79 : decode bM56 79 = .ok (.getfield 16, 3) := by decide +kernel
theorem d56_82 : decode bM56 82 = .ok (.sipush 128, 3) := by decide +kernel
theorem d56_85 : decode bM56 85 = .ok (.iload_n 2, 1) := by decide +kernel
theorem d56_86 : decode bM56 86 = .ok (.imul, 1) := by decide +kernel
theorem d56_87 : decode bM56 87 = .ok (.iconst 2, 1) := by decide +kernel
theorem d56_88 : decode bM56 88 = .ok (.iadd, 1) := by decide +kernel
theorem d56_89 : decode bM56 89 = .ok (.aload_n 0, 1) := by decide +kernel
theorem d56_90 : decode bM56 90 = .ok (.getfield 158, 3) := by decide +kernel
theorem d56_93 : decode bM56 93 = .ok (.ifCond .le 17, 3) := by decide +kernel
theorem d56_96 : decode bM56 96 = .ok (.aload_n 0, 1) := by decide +kernel
theorem d56_97 : decode bM56 97 = .ok (.getfield 26, 3) := by decide +kernel
theorem d56_100 : decode bM56 100 = .ok (.aload_n 0, 1) := by decide +kernel
theorem d56_101 : decode bM56 101 = .ok (.getfield 158, 3) := by decide +kernel
theorem d56_104 : decode bM56 104 = .ok (.iconst 1, 1) := by decide +kernel
theorem d56_105 : decode bM56 105 = .ok (.isub, 1) := by decide +kernel
theorem d56_106 : decode bM56 106 = .ok (.iaload, 1) := by decide +kernel
theorem d56_107 : decode bM56 107 = .ok (.goto 4, 3) := by decide +kernel
theorem d56_110 : decode bM56 110 = .ok (.iconst (-1), 1) := by decide +kernel
theorem d56_111 : decode bM56 111 = .ok (.iastore, 1) := by decide +kernel
theorem d56_112 : decode bM56 112 = .ok (.iload_n 2, 1) := by decide +kernel
theorem d56_113 : decode bM56 113 = .ok (.ireturn, 1) := by decide +kernel
theorem d57_0 : decode bM57 0 = .ok (.iload_n 1, 1) := by decide +kernel
theorem d57_1 : decode bM57 1 = .ok (.bipush 40, 2) := by decide +kernel
theorem d57_3 : decode bM57 3 = .ok (.if_icmp .lt 4, 3) := by decide +kernel
theorem d57_6 : decode bM57 6 = .ok (.return_, 1) := by decide +kernel
theorem d57_7 : decode bM57 7 = .ok (.aload_n 0, 1) := by decide +kernel
theorem d57_8 : decode bM57 8 = .ok (.getfield 16, 3) := by decide +kernel
theorem d57_11 : decode bM57 11 = .ok (.sipush 128, 3) := by decide +kernel
theorem d57_14 : decode bM57 14 = .ok (.iload_n 1, 1) := by decide +kernel
theorem d57_15 : decode bM57 15 = .ok (.imul, 1) := by decide +kernel
theorem d57_16 : decode bM57 16 = .ok (.iload_n 2, 1) := by decide +kernel
theorem d57_17 : decode bM57 17 = .ok (.iadd, 1) := by decide +kernel
theorem d57_18 : decode bM57 18 = .ok (.iaload, 1) := by decide +kernel
theorem d57_19 : decode bM57 19 = .ok (.istore 5, 2) := by decide +kernel
theorem d57_21 : decode bM57 21 = .ok (.iload 5, 2) := by decide +kernel
theorem d57_23 : decode bM57 23 = .ok (.bipush 20, 2) := by decide +kernel
theorem d57_25 : decode bM57 25 = .ok (.if_icmp .lt 9, 3) := by decide +kernel
theorem d57_28 : decode bM57 28 = .ok (.aload_n 0, 1) := by decide +kernel
theorem d57_29 : decode bM57 29 = .ok (.iconst 1, 1) := by decide +kernel
theorem d57_30 : decode bM57 30 = .ok (.putfield 161, 3) := by decide +kernel
theorem d57_33 : decode bM57 33 = .ok (.return_, 1) := by decide +kernel
theorem d57_34 : decode bM57 34 = .ok (.aload_n 0, 1) := by decide +kernel
theorem d57_35 : decode bM57 35 = .ok (.getfield 16, 3) := by decide +kernel
theorem d57_38 : decode bM57 38 = .ok (.sipush 128, 3) := by decide +kernel
theorem d57_41 : decode bM57 41 = .ok (.iload_n 1, 1) := by decide +kernel
theorem d57_42 : decode bM57 42 = .ok (.imul, 1) := by decide +kernel
theorem d57_43 : decode bM57 43 = .ok (.iload_n 3, 1) := by decide +kernel
theorem d57_44 : decode bM57 44 = .ok (.iadd, 1) := by decide +kernel
theorem d57_45 : decode bM57 45 = .ok (.iload 5, 2) := by decide +kernel
theorem d57_47 : decode bM57 47 = .ok (.iadd, 1) := by decide +kernel
theorem d57_48 : decode bM57 48 = .ok (.iload 4, 2) := by decide +kernel
theorem d57_50 : decode bM57 50 = .ok (.iastore, 1) := by decide +kernel
theorem d57_51 : decode bM57 51 = .ok (.aload_n 0, 1) := by decide +kernel
theorem d57_52 : decode bM57 52 = .ok (.getfield 16, 3) := by decide +kernel
theorem d57_55 : decode bM57 55 = .ok (.sipush 128, 3) := by decide +kernel
theorem d57_58 : decode bM57 58 = .ok (.iload_n 1, 1) := by decide +kernel
theorem d57_59 : decode bM57 59 = .ok (.imul, 1) := by decide +kernel
theorem d57_60 : decode bM57 60 = .ok (.iload_n 2, 1) := by decide +kernel
theorem d57_61 : decode bM57 61 = .ok (.iadd, 1) := by decide +kernel
theorem d57_62 : decode bM57 62 = .ok (.iload 5, 2) := by decide +kernel
theorem d57_64 : decode bM57 64 = .ok (.iconst 1, 1) := by decide +kernel
theorem d57_65 : decode bM57 65 = .ok (.iadd, 1) := by decide +kernel
theorem d57_66 : decode bM57 66 = .ok (.iastore, 1) := by decide +kernel
theorem d57_67 : decode bM57 67 = .ok (.return_, 1) := by decide +kernel
theorem d58_0 : decode bM58 0 = .ok (.aload_n 0, 1) := by decide +kernel
theorem d58_1 : decode bM58 1 = .ok (.iload_n 1, 1) := by decide +kernel
theorem d58_2 : decode bM58 2 = .ok (.invokevirtual 140, 3) := by decide +kernel
theorem d58_5 : decode bM58 5 = .ok (.iload_n 2, 1) := by decide +kernel
theorem d58_6 : decode bM58 6 = .ok (.if_icmp .ne 47, 3) := by decide +kernel
theorem d58_9 : decode bM58 9 = .ok (.aload_n 0, 1) := by decide +kernel
theorem d58_10 : decode bM58 10 = .ok (.iload_n 1, 1) := by decide +kernel
theorem d58_11 : decode bM58 11 = .ok (.iconst 1, 1) := by decide +kernel
theorem d58_12 : decode bM58 12 = .ok (.iadd, 1) := by decide +kernel
theorem d58_13 : decode bM58 13 = .ok (.invokevirtual 140, 3) := by decide +kernel
theorem d58_16 : decode bM58 16 = .ok (.iload_n 3, 1) := by decide +kernel
theorem d58_17 : decode bM58 17 = .ok (.if_icmp .ne 36, 3) := by decide +kernel
theorem d58_20 : decode bM58 20 = .ok (.aload_n 0, 1) := by decide +kernel
theorem d58_21 : decode bM58 21 = .ok (.iload_n 1, 1) := by decide +kernel
theorem d58_22 : decode bM58 22 = .ok (.iconst 2, 1) := by decide +kernel
theorem d58_23 : decode bM58 23 = .ok (.iadd, 1) := by decide +kernel
theorem d58_24 : decode bM58 24 = .ok (.invokevirtual 140, 3) := by decide +kernel
theorem d58_27 : decode bM58 27 = .ok (.iload 4, 2) := by decide +kernel
theorem d58_29 : decode bM58 29 = .ok (.if_icmp .ne 24, 3) := by decide +kernel
theorem d58_32 : decode bM58 32 = .ok (.iload 5, 2) := by decide +kernel
theorem d58_34 : decode bM58 34 = .ok (.ifCond .eq 15, 3) := by decide +kernel
theorem d58_37 : decode bM58 37 = .ok (.aload_n 0, 1) := by decide +kernel
theorem d58_38 : decode bM58 38 = .ok (.iload_n 1, 1) := by decide +kernel
theorem d58_39 : decode bM58 39 = .ok (.iconst 3, 1) := by decide +kernel
theorem d58_40 : decode bM58 40 = .ok (.iadd, 1) := by decide +kernel
theorem d58_41 : decode bM58 41 = .ok (.invokevirtual 140, 3) := by decide +kernel
theorem d58_44 : decode bM58 44 = .ok (.iload 5, 2) := by decide +kernel
theorem d58_46 : decode bM58 46 = .ok (.if_icmp .ne 7, 3) := by decide +kernel
theorem d58_49 : decode bM58 49 = .ok (.iconst 1, 1) := by decide +kernel
theorem d58_50 : decode bM58 50 = .ok (.goto 4, 3) := by decide +kernel
theorem d58_53 : decode bM58 53 = .ok (.iconst 0, 1) := by decide +kernel
theorem d58_54 : decode bM58 54 = .ok (.ireturn, 1) := by decide +kernel
theorem d59_0 : decode bM59 0 = .ok (.aload_n 0, 1) := by decide +kernel
theorem d59_1 : decode bM59 1 = .ok (.iload_n 1, 1) := by decide +kernel
theorem d59_2 : decode bM59 2 = .ok (.iconst 1, 1) := by decide +kernel
theorem d59_3 : decode bM59 3 = .ok (.iadd, 1) := by decide +kernel
theorem d59_4 : decode bM59 4 = .ok (.bipush 108, 2) := by decide +kernel
theorem d59_6 : decode bM59 6 = .ok (.bipush 116, 2) := by decide +kernel
theorem d59_8 : decode bM59 8 = .ok (.bipush 59, 2) := by decide +kernel
theorem d59_10 : decode bM59 10 = .ok (.iconst 0, 1) := by decide +kernel
theorem d59_11 : decode bM59 11 = .ok (.invokevirtual 165, 3) := by decide +kernel
theorem d59_14 : decode bM59 14 = .ok (.istore_n 2, 1) := by decide +kernel
theorem d59_15 : decode bM59 15 = .ok (.aload_n 0, 1) := by decide +kernel
theorem d59_16 : decode bM59 16 = .ok (.iload_n 1, 1) := by decide +kernel
theorem d59_17 : decode bM59 17 = .ok (.iconst 1, 1) := by decide +kernel
theorem d59_18 : decode bM59 18 = .ok (.iadd, 1) := by decide +kernel
theorem d59_19 : decode bM59 19 = .ok (.bipush 103, 2) := by decide +kernel
theorem d59_21 : decode bM59 21 = .ok (.bipush 116, 2) := by decide +kernel
theorem d59_23 : decode bM59 23 = .ok (.bipush 59, 2) := by decide +kernel
theorem d59_25 : decode bM59 25 = .ok (.iconst 0, 1) := by decide +kernel
theorem d59_26 : decode bM59 26 = .ok (.invokevirtual 165, 3) := by decide +kernel
theorem d59_29 : decode bM59 29 = .ok (.istore_n 3, 1) := by decide +kernel
theorem d59_30 : decode bM59 30 = .ok (.aload_n 0, 1) := by decide +kernel
theorem d59_31 : decode bM59 31 = .ok (.iload_n 1, 1) := by decide +kernel
theorem d59_32 : decode bM59 32 = .ok (.iconst 1, 1) := by decide +kernel
theorem d59_33 : decode bM59 33 = .ok (.iadd, 1) := by decide +kernel
theorem d59_34 : decode bM59 34 = .ok (.bipush 97, 2) := by decide +kernel
theorem d59_36 : decode bM59 36 = .ok (.bipush 109, 2) := by decide +kernel
theorem d59_38 : decode bM59 38 = .ok (.bipush 112, 2) := by decide +kernel
theorem d59_40 : decode bM59 40 = .ok (.bipush 59, 2) := by decide +kernel
theorem d59_42 : decode bM59 42 = .ok (.invokevirtual 165, 3) := by decide +kernel
theorem d59_45 : decode bM59 45 = .ok (.istore 4, 2) := by decide +kernel
theorem d59_47 : decode bM59 47 = .ok (.aload_n 0, 1) := by decide +kernel
theorem d59_48 : decode bM59 48 = .ok (.iload_n 1, 1) := by decide +kernel
theorem d59_49 : decode bM59 49 = .ok (.iconst 1, 1) := by decide +kernel
theorem d59_50 : decode bM59 50 = .ok (.iadd, 1) := by decide +kernel
theorem d59_51 : decode bM59 51 = .ok (.bipush 113, 2) := by decide +kernel
theorem d59_53 : decode bM59 53 = .ok (.bipush 117, 2) := by decide +kernel
theorem d59_55 : decode bM59 55 = .ok (.bipush 111, 2) := by decide +kernel
theorem d59_57 : decode bM59 57 = .ok (.bipush 116, 2) := by decide +kernel
theorem d59_59 : decode bM59 59 = .ok (.invokevirtual 165, 3) := by decide +kernel
theorem d59_62 : decode bM59 62 = .ok (.ifCond .eq 19, 3) := by decide +kernel
theorem d59_65 : decode bM59 65 = .ok (.aload_n 0, 1) := by decide +kernel
theorem d59_66 : decode bM59 66 = .ok (.iload_n 1, 1) := by decide +kernel
theorem d59_67 : decode bM59 67 = .ok (.iconst 5, 1) := by decide +kernel
theorem d59_68 : decode bM59 68 = .ok (.iadd, 1) := by decide +kernel
theorem d59_69 : decode bM59 69 = .ok (.invokevirtual 140, 3) := by decide +kernel
theorem d59_72 : decode bM59 72 = .ok (.bipush 59, 2) := by decide +kernel
theorem d59_74 : decode bM59 74 = .ok (.if_icmp .ne 7, 3) := by decide +kernel
theorem d59_77 : decode bM59 77 = .ok (.iconst 1, 1) := by decide +kernel
theorem d59_78 : decode bM59 78 = .ok (.goto 4, 3) := by decide +kernel
theorem d59_81 : decode bM59 81 = .ok (.iconst 0, 1) := by decide +kernel
theorem d59_82 : decode bM59 82 = .ok (.istore 5, 2) := by decide +kernel
theorem d59_84 : decode bM59 84 = .ok (.aload_n 0, 1) := by decide +kernel
theorem d59_85 : decode bM59 85 = .ok (.iload_n 1, 1) := by decide +kernel
theorem d59_86 : decode bM59 86 = .ok (.iconst 1, 1) := by decide +kernel
theorem d59_87 : decode bM59 87 = .ok (.iadd, 1) := by decide +kernel
theorem d59_88 : decode bM59 88 = .ok (.bipush 97, 2) := by decide +kernel
theorem d59_90 : decode bM59 90 = .ok (.bipush 112, 2) := by decide +kernel
theorem d59_92 : decode bM59 92 = .ok (.bipush 111, 2) := by decide +kernel
theorem d59_94 : decode bM59 94 = .ok (.bipush 115, 2) := by decide +kernel
theorem d59_96 : decode bM59 96 = .ok (.invokevirtual 165, 3) := by decide +kernel
theorem d59_99 : decode bM59 99 = .ok (.ifCond .eq 19, 3) := by decide +kernel
theorem d59_102 : decode bM59 102 = .ok (.aload_n 0, 1) := by decide +kernel
theorem d59_103 : decode bM59 103 = .ok (.iload_n 1, 1) := by decide +kernel
theorem d59_104 : decode bM59 104 = .ok (.iconst 5, 1) := by decide +kernel
theorem d59_105 : decode bM59 105 = .ok (.iadd, 1) := by decide +kernel
theorem d59_106 : decode bM59 106 = .ok (.invokevirtual 140, 3) := by decide +kernel
theorem d59_109 : decode bM59 109 = .ok (.bipush 59, 2) := by decide +kernel
theorem d59_111 : decode bM59 111 = .ok (.if_icmp .ne 7, 3) := by decide +kernel
theorem d59_114 : decode bM59 114 = .ok (.iconst 1, 1) := by decide +kernel
theorem d59_115 : decode bM59 115 = .ok (.goto 4, 3) := by decide +kernel
theorem d59_118 : decode bM59 118 = .ok (.iconst 0, 1) := by decide +kernel
theorem d59_119 : decode bM59 119 = .ok (.istore 6, 2) := by decide +kernel
theorem d59_121 : decode bM59 121 = .ok (.aload_n 0, 1) := by decide +kernel
theorem d59_122 : decode bM59 122 = .ok (.iload_n 2, 1) := by decide +kernel
theorem d59_123 : decode bM59 123 = .ok (.ifCond .eq 8, 3) := by decide +kernel
theorem d59_126 : decode bM59 126 = .ok (.bipush 60, 2) := by decide +kernel
theorem d59_128 : decode bM59 128 = .ok (.goto 34, 3) := by decide +kernel
theorem d59_131 : decode bM59 131 = .ok (.iload_n 3, 1) := by decide +kernel
theorem d59_132 : decode bM59 132 = .ok (.ifCond .eq 8, 3) := by decide +kernel
theorem d59_135 : decode bM59 135 = .ok (.bipush 62, 2) := by decide +kernel
theorem d59_137 : decode bM59 137 = .ok (.goto 25, 3) := by decide +kernel
theorem d59_140 : decode bM59 140 = .ok (.iload 4, 2) := by decide +kernel
theorem d59_142 : decode bM59 142 = .ok (.ifCond .eq 8, 3) := by decide +kernel
theorem d59_145 : decode bM59 145 = .ok (.bipush 38, 2) := by decide +kernel
theorem d59_147 : decode bM59 147 = .ok (.goto 15, 3) := by decide +kernel
theorem d59_150 : decode bM59 150 = .ok (.iload 5, 2) := by decide +kernel
theorem d59_152 : decode bM59 152 = .ok (.ifCond .eq 8, 3) := by decide +kernel
theorem d59_155 : decode bM59 155 = .ok (.bipush 34, 2) := by decide +kernel
theorem d59_157 : decode bM59 157 = .ok (.goto 5, 3) := by decide +kernel
theorem d59_160 : decode bM59 160 = .ok (.bipush 39, 2) := by decide +kernel
theorem d59_162 : decode bM59 162 = .ok (.putfield 169, 3) := by decide +kernel
theorem d59_165 : decode bM59 165 = .ok (.aload_n 0, 1) := by decide +kernel
theorem d59_166 : decode bM59 166 = .ok (.iload_n 2, 1) := by decide +kernel
theorem d59_167 : decode bM59 167 = .ok (.ifCond .ne 7, 3) := by decide +kernel
theorem d59_170 : decode bM59 170 = .ok (.iload_n 3, 1) := by decide +kernel
theorem d59_171 : decode bM59 171 = .ok (.ifCond .eq 7, 3) := by decide +kernel
theorem d59_174 : decode bM59 174 = .ok (.iconst 4, 1) := by decide +kernel
theorem d59_175 : decode bM59 175 = .ok (.goto 28, 3) := by decide +kernel
theorem d59_178 : decode bM59 178 = .ok (.iload 4, 2) := by decide +kernel
theorem d59_180 : decode bM59 180 = .ok (.ifCond .eq 7, 3) := by decide +kernel
theorem d59_183 : decode bM59 183 = .ok (.iconst 5, 1) := by decide +kernel
theorem d59_184 : decode bM59 184 = .ok (.goto 19, 3) := by decide +kernel
theorem d59_187 : decode bM59 187 = .ok (.iload 5, 2) := by decide +kernel
theorem d59_189 : decode bM59 189 = .ok (.ifCond .ne 8, 3) := by decide +kernel
theorem d59_192 : decode bM59 192 = .ok (.iload 6, 2) := by decide +kernel
theorem d59_194 : decode bM59 194 = .ok (.ifCond .eq 8, 3) := by decide +kernel
theorem d59_197 : decode bM59 197 = .ok (.bipush 6, 2) := by decide +kernel
theorem d59_199 : decode bM59 199 = .ok (.goto 4, 3) := by decide +kernel
theorem d59_202 : decode bM59 202 = .ok (.iconst 0, 1) := by decide +kernel
theorem d59_203 : decode bM59 203 = .ok (.putfield 172, 3) := by decide +kernel
theorem d59_206 : decode bM59 206 = .ok (.aload_n 0, 1) := by decide +kernel
theorem d59_207 : decode bM59 207 = .ok (.getfield 172, 3) := by decide +kernel
theorem d59_210 : decode bM59 210 = .ok (.ifCond .le 7, 3) := by decide +kernel
theorem d59_213 : decode bM59 213 = .ok (.iconst 1, 1) := by decide +kernel
theorem d59_214 : decode bM59 214 = .ok (.goto 4, 3) := by decide +kernel
theorem d59_217 : decode bM59 217 = .ok (.iconst 0, 1) := by decide +kernel
theorem d59_218 : decode bM59 218 = .ok (.ireturn, 1) := by decide +kernel
theorem d60_0 : decode bM60 0 = .ok (.iconst 0, 1) := by decide +kernel
theorem d60_1 : decode bM60 1 = .ok (.istore 4, 2) := by decide +kernel
theorem d60_3 : decode bM60 3 = .ok (.iload 4, 2) := by decide +kernel
theorem d60_5 : decode bM60 5 = .ok (.iload_n 1, 1) := by decide +kernel
theorem d60_6 : decode bM60 6 = .ok (.if_icmp .ge 86, 3) := by decide +kernel
theorem d60_9 : decode bM60 9 = .ok (.aload_n 0, 1) := by decide +kernel
theorem d60_10 : decode bM60 10 = .ok (.getfield 38, 3) := by decide +kernel
theorem d60_13 : decode bM60 13 = .ok (.iload 4, 2) := by decide +kernel
theorem d60_15 : decode bM60 15 = .ok (.iaload, 1) := by decide +kernel
theorem d60_16 : decode bM60 16 = .ok (.iload_n 3, 1) := by decide +kernel
theorem d60_17 : decode bM60 17 = .ok (.if_icmp .ne 7, 3) := by decide +kernel
theorem d60_20 : decode bM60 20 = .ok (.iconst 1, 1) := by decide +kernel
theorem d60_21 : decode bM60 21 = .ok (.goto 4, 3) := by decide +kernel
theorem d60_24 : decode bM60 24 = .ok (.iconst 0, 1) := by decide +kernel
theorem d60_25 : decode bM60 25 = .ok (.istore 5, 2) := by decide +kernel
theorem d60_27 : decode bM60 27 = .ok (.iconst 0, 1) := by decide +kernel
theorem d60_28 : decode bM60 28 = .ok (.istore 6, 2) := by decide +kernel
theorem d60_30 : decode bM60 30 = .ok (.iload 6, 2) := by decide +kernel
theorem d60_32 : decode bM60 32 = .ok (.iload_n 3, 1) := by decide +kernel
theorem d60_33 : decode bM60 33 = .ok (.if_icmp .ge 46, 3) := by decide +kernel
theorem d60_36 : decode bM60 36 = .ok (.iload 5, 2) := by decide +kernel
theorem d60_38 : decode bM60 38 = .ok (.ifCond .eq 41, 3) := by decide +kernel
theorem d60_41 : decode bM60 41 = .ok (.aload_n 0, 1) := by decide +kernel
theorem d60_42 : decode bM60 42 = .ok (.aload_n 0, 1) := by decide +kernel
theorem d60_43 : decode bM60 43 = .ok (.getfield 35, 3) := by decide +kernel
theorem d60_46 : decode bM60 46 = .ok (.iload 4, 2) := by decide +kernel
theorem d60_48 : decode bM60 48 = .ok (.iaload, 1) := by decide +kernel
theorem d60_49 : decode bM60 49 = .ok (.iload 6, 2) := by decide +kernel
theorem d60_51 : decode bM60 51 = .ok (.iadd, 1) := by decide +kernel
theorem d60_52 : decode bM60 52 = .ok (.invokevirtual 140, 3) := by decide +kernel
theorem d60_55 : decode bM60 55 = .ok (.aload_n 0, 1) := by decide +kernel
theorem d60_56 : decode bM60 56 = .ok (.iload_n 2, 1) := by decide +kernel
theorem d60_57 : decode bM60 57 = .ok (.iload 6, 2) := by decide +kernel
theorem d60_59 : decode bM60 59 = .ok (.iadd, 1) := by decide +kernel
theorem d60_60 : decode bM60 60 = .ok (.invokevirtual 140, 3) := by decide +kernel
theorem d60_63 : decode bM60 63 = .ok (.if_icmp .ne 7, 3) := by decide +kernel
theorem d60_66 : decode bM60 66 = .ok (.iconst 1, 1) := by decide +kernel
theorem d60_67 : decode bM60 67 = .ok (.goto 4, 3) := by decide +kernel
theorem d60_70 : decode bM60 70 = .ok (.iconst 0, 1) := by decide +kernel
theorem d60_71 : decode bM60 71 = .ok (.istore 5, 2) := by decide +kernel
theorem d60_73 : decode bM60 73 = .ok (.iinc 6 1, 3) := by decide +kernel
theorem d60_76 : decode bM60 76 = .ok (.goto (-46), 3) := by decide +kernel
theorem d60_79 : decode bM60 79 = .ok (.iload 5, 2) := by decide +kernel
theorem d60_81 : decode bM60 81 = .ok (.ifCond .eq 5, 3) := by decide +kernel
theorem d60_84 : decode bM60 84 = .ok (.iconst 1, 1) := by decide +kernel
theorem d60_85 : decode bM60 85 = .ok (.ireturn, 1) := by decide +kernel
theorem d60_86 : decode bM60 86 = .ok (.iinc 4 1, 3) := by decide +kernel
theorem d60_89 : decode bM60 89 = .ok (.goto (-86), 3) := by decide +kernel
theorem d60_92 : decode bM60 92 = .ok (.iconst 0, 1) := by decide +kernel
theorem d60_93 : decode bM60 93 = .ok (.ireturn, 1) := by decide +kernel
theorem d61_0 : decode bM61 0 = .ok (.aload_n 0, 1) := by decide +kernel
theorem d61_1 : decode bM61 1 = .ok (.iload_n 3, 1) := by decide +kernel
theorem d61_2 : decode bM61 2 = .ok (.invokevirtual 175, 3) := by decide +kernel
theorem d61_5 : decode bM61 5 = .ok (.istore 4, 2) := by decide +kernel
theorem d61_7 : decode bM61 7 = .ok (.iload 4, 2) := by decide +kernel
theorem d61_9 : decode bM61 9 = .ok (.ifCond .eq 14, 3) := by decide +kernel
theorem d61_12 : decode bM61 12 = .ok (.aload_n 0, 1) := by decide +kernel
theorem d61_13 : decode bM61 13 = .ok (.iload_n 2, 1) := by decide +kernel
theorem d61_14 : decode bM61 14 = .ok (.iload_n 3, 1) := by decide +kernel
theorem d61_15 : decode bM61 15 = .ok (.iload 4, 2) := by decide +kernel
theorem d61_17 : decode bM61 17 = .ok (.invokevirtual 178, 3) := by decide +kernel
theorem d61_20 : decode bM61 20 = .ok (.ifCond .eq 8, 3) := by decide +kernel
theorem d61_23 : decode bM61 23 = .ok (.aload_n 0, 1) := by decide +kernel
theorem d61_24 : decode bM61 24 = .ok (.iload_n 3, 1) := by decide +kernel
theorem d61_25 : decode bM61 25 = .ok (.invokevirtual 144, 3) := by decide +kernel
theorem d61_28 : decode bM61 28 = .ok (.aload_n 0, 1) := by decide +kernel
theorem d61_29 : decode bM61 29 = .ok (.getfield 137, 3) := by decide +kernel
theorem d61_32 : decode bM61 32 = .ok (.ifCond .ge 31, 3) := by decide +kernel
theorem d61_35 : decode bM61 35 = .ok (.aload_n 0, 1) := by decide +kernel
theorem d61_36 : decode bM61 36 = .ok (.iload_n 3, 1) := by decide +kernel
theorem d61_37 : decode bM61 37 = .ok (.iload 4, 2) := by decide +kernel
theorem d61_39 : decode bM61 39 = .ok (.iadd, 1) := by decide +kernel
theorem d61_40 : decode bM61 40 = .ok (.bipush 61, 2) := by decide +kernel
theorem d61_42 : decode bM61 42 = .ok (.invokevirtual 182, 3) := by decide +kernel
theorem d61_45 : decode bM61 45 = .ok (.ifCond .eq 18, 3) := by decide +kernel
theorem d61_48 : decode bM61 48 = .ok (.aload_n 0, 1) := by decide +kernel
theorem d61_49 : decode bM61 49 = .ok (.iload_n 3, 1) := by decide +kernel
theorem d61_50 : decode bM61 50 = .ok (.iload 4, 2) := by decide +kernel
theorem d61_52 : decode bM61 52 = .ok (.iadd, 1) := by decide +kernel
theorem d61_53 : decode bM61 53 = .ok (.iconst 1, 1) := by decide +kernel
theorem d61_54 : decode bM61 54 = .ok (.iadd, 1) := by decide +kernel
theorem d61_55 : decode bM61 55 = .ok (.bipush 34, 2) := by decide +kernel
theorem d61_57 : decode bM61 57 = .ok (.invokevirtual 182, 3) := by decide +kernel
theorem d61_60 : decode bM61 60 = .ok (.ifCond .ne 5, 3) := by decide +kernel
theorem d61_63 : decode bM61 63 = .ok (.iload_n 3, 1) := by decide +kernel
theorem d61_64 : decode bM61 64 = .ok (.ireturn, 1) := by decide +kernel
theorem d61_65 : decode bM61 65 = .ok (.aload_n 0, 1) := by decide +kernel
theorem d61_66 : decode bM61 66 = .ok (.getfield 35, 3) := by decide +kernel
theorem d61_69 : decode bM61 69 = .ok (.iload_n 2, 1) := by decide +kernel
theorem d61_70 : decode bM61 70 = .ok (.iload_n 3, 1) := by decide +kernel
theorem d61_71 : decode bM61 71 = .ok (.iastore, 1) := by decide +kernel
theorem d61_72 : decode bM61 72 = .ok (.aload_n 0, 1) := by decide +kernel
theorem d61_73 : decode bM61 73 = .ok (.getfield 38, 3) := by decide +kernel
theorem d61_76 : decode bM61 76 = .ok (.iload_n 2, 1) := by decide +kernel
theorem d61_77 : decode bM61 77 = .ok (.iload 4, 2) := by decide +kernel
theorem d61_79 : decode bM61 79 = .ok (.iastore, 1) := by decide +kernel
theorem d61_80 : decode bM61 80 = .ok (.bipush 44, 2) := by decide +kernel
theorem d61_82 : decode bM61 82 = .ok (.bipush 28, 2) := by decide +kernel
theorem d61_84 : decode bM61 84 = .ok (.iload_n 2, 1) := by decide +kernel
theorem d61_85 : decode bM61 85 = .ok (.imul, 1) := by decide +kernel
theorem d61_86 : decode bM61 86 = .ok (.iadd, 1) := by decide +kernel
theorem d61_87 : decode bM61 87 = .ok (.istore 5, 2) := by decide +kernel
theorem d61_89 : decode bM61 89 = .ok (.iload_n 2, 1) := by decide +kernel
theorem d61_90 : decode bM61 90 = .ok (.iconst 3, 1) := by decide +kernel
theorem d61_91 : decode bM61 91 = .ok (.if_icmp .ge 13, 3) := by decide +kernel
theorem d61_94 : decode bM61 94 = .ok (.iload_n 1, 1) := by decide +kernel
theorem d61_95 : decode bM61 95 = .ok (.bipush 40, 2) := by decide +kernel
theorem d61_97 : decode bM61 97 = .ok (.if_icmp .ge 7, 3) := by decide +kernel
theorem d61_100 : decode bM61 100 = .ok (.iconst 1, 1) := by decide +kernel
theorem d61_101 : decode bM61 101 = .ok (.goto 4, 3) := by decide +kernel
theorem d61_104 : decode bM61 104 = .ok (.iconst 0, 1) := by decide +kernel
theorem d61_105 : decode bM61 105 = .ok (.istore 6, 2) := by decide +kernel
theorem d61_107 : decode bM61 107 = .ok (.aload_n 0, 1) := by decide +kernel
theorem d61_108 : decode bM61 108 = .ok (.aload_n 0, 1) := by decide +kernel
theorem d61_109 : decode bM61 109 = .ok (.getfield 161, 3) := by decide +kernel
theorem d61_112 : decode bM61 112 = .ok (.ifCond .ne 8, 3) := by decide +kernel
theorem d61_115 : decode bM61 115 = .ok (.iload_n 2, 1) := by decide +kernel
theorem d61_116 : decode bM61 116 = .ok (.iconst 3, 1) := by decide +kernel
theorem d61_117 : decode bM61 117 = .ok (.if_icmp .lt 7, 3) := by decide +kernel
theorem d61_120 : decode bM61 120 = .ok (.iconst 1, 1) := by decide +kernel
theorem d61_121 : decode bM61 121 = .ok (.goto 4, 3) := by decide +kernel
theorem d61_124 : decode bM61 124 = .ok (.iconst 0, 1) := by decide +kernel
theorem d61_125 : decode bM61 125 = .ok (.putfield 161, 3) := by decide +kernel
theorem d61_128 : decode bM61 128 = .ok (.iconst 0, 1) := by decide +kernel
theorem d61_129 : decode bM61 129 = .ok (.istore 7, 2) := by decide +kernel
theorem d61_131 : decode bM61 131 = .ok (.iload 7, 2) := by decide +kernel
theorem d61_133 : decode bM61 133 = .ok (.iload 4, 2) := by decide +kernel
theorem d61_135 : decode bM61 135 = .ok (.if_icmp .ge 40, 3) := by decide +kernel
theorem d61_138 : decode bM61 138 = .ok (.iload 6, 2) := by decide +kernel
theorem d61_140 : decode bM61 140 = .ok (.ifCond .eq 35, 3) := by decide +kernel
theorem d61_143 : decode bM61 143 = .ok (.aload_n 0, 1) := by decide +kernel
theorem d61_144 : decode bM61 144 = .ok (.getfield 16, 3) := by decide +kernel
theorem d61_147 : decode bM61 147 = .ok (.sipush 128, 3) := by decide +kernel
theorem d61_150 : decode bM61 150 = .ok (.iload_n 1, 1) := by decide +kernel
theorem d61_151 : decode bM61 151 = .ok (.imul, 1) := by decide +kernel
theorem d61_152 : decode bM61 152 = .ok (.iload 5, 2) := by decide +kernel
theorem d61_154 : decode bM61 154 = .ok (.iadd, 1) := by decide +kernel
theorem d61_155 : decode bM61 155 = .ok (.iconst 1, 1) := by decide +kernel
theorem d61_156 : decode bM61 156 = .ok (.iadd, 1) := by decide +kernel
theorem d61_157 : decode bM61 157 = .ok (.iload 7, 2) := by decide +kernel
theorem d61_159 : decode bM61 159 = .ok (.iadd, 1) := by decide +kernel
theorem d61_160 : decode bM61 160 = .ok (.aload_n 0, 1) := by decide +kernel
theorem d61_161 : decode bM61 161 = .ok (.iload_n 3, 1) := by decide +kernel
theorem d61_162 : decode bM61 162 = .ok (.iload 7, 2) := by decide +kernel
theorem d61_164 : decode bM61 164 = .ok (.iadd, 1) := by decide +kernel
theorem d61_165 : decode bM61 165 = .ok (.invokevirtual 140, 3) := by decide +kernel
theorem d61_168 : decode bM61 168 = .ok (.iastore, 1) := by decide +kernel
theorem d61_169 : decode bM61 169 = .ok (.iinc 7 1, 3) := by decide +kernel
theorem d61_172 : decode bM61 172 = .ok (.goto (-41), 3) := by decide +kernel
theorem d61_175 : decode bM61 175 = .ok (.iload 6, 2) := by decide +kernel
theorem d61_177 : decode bM61 177 = .ok (.ifCond .eq 33, 3) := by decide +kernel
theorem d61_180 : decode bM61 180 = .ok (.aload_n 0, 1) := by decide +kernel
theorem d61_181 : decode bM61 181 = .ok (.getfield 16, 3) := by decide +kernel
theorem d61_184 : decode bM61 184 = .ok (.sipush 128, 3) := by decide +kernel
theorem d61_187 : decode bM61 187 = .ok (.iload_n 1, 1) := by decide +kernel
theorem d61_188 : decode bM61 188 = .ok (.imul, 1) := by decide +kernel
theorem d61_189 : decode bM61 189 = .ok (.iload 5, 2) := by decide +kernel
theorem d61_191 : decode bM61 191 = .ok (.iadd, 1) := by decide +kernel
theorem d61_192 : decode bM61 192 = .ok (.iload 4, 2) := by decide +kernel
theorem d61_194 : decode bM61 194 = .ok (.iastore, 1) := by decide +kernel
theorem d61_195 : decode bM61 195 = .ok (.aload_n 0, 1) := by decide +kernel
theorem d61_196 : decode bM61 196 = .ok (.getfield 16, 3) := by decide +kernel
theorem d61_199 : decode bM61 199 = .ok (.sipush 128, 3) := by decide +kernel
theorem d61_202 : decode bM61 202 = .ok (.iload_n 1, 1) := by decide +kernel
theorem d61_203 : decode bM61 203 = .ok (.imul, 1) := by decide +kernel
theorem d61_204 : decode bM61 204 = .ok (.iconst 5, 1) := by decide +kernel
theorem d61_205 : decode bM61 205 = .ok (.iadd, 1) := by decide +kernel
theorem d61_206 : decode bM61 206 = .ok (.iload_n 2, 1) := by decide +kernel
theorem d61_207 : decode bM61 207 = .ok (.iconst 1, 1) := by decide +kernel
theorem d61_208 : decode bM61 208 = .ok (.iadd, 1) := by decide +kernel
theorem d61_209 : decode bM61 209 = .ok (.iastore, 1) := by decide +kernel
theorem d61_210 : decode bM61 210 = .ok (.iload_n 3, 1) := by decide +kernel
theorem d61_211 : decode bM61 211 = .ok (.iload 4, 2) := by decide +kernel
theorem d61_213 : decode bM61 213 = .ok (.iadd, 1) := by decide +kernel
theorem d61_214 : decode bM61 214 = .ok (.iconst 2, 1) := by decide +kernel
theorem d61_215 : decode bM61 215 = .ok (.iadd, 1) := by decide +kernel
theorem d61_216 : decode bM61 216 = .ok (.istore 7, 2) := by decide +kernel
theorem d61_218 : decode bM61 218 = .ok (.aload_n 0, 1) := by decide +kernel
theorem d61_219 : decode bM61 219 = .ok (.getfield 137, 3) := by decide +kernel
theorem d61_222 : decode bM61 222 = .ok (.ifCond .ge 122, 3) := by decide +kernel
theorem d61_225 : decode bM61 225 = .ok (.aload_n 0, 1) := by decide +kernel
theorem d61_226 : decode bM61 226 = .ok (.iload 7, 2) := by decide +kernel
theorem d61_228 : decode bM61 228 = .ok (.invokevirtual 140, 3) := by decide +kernel
theorem d61_231 : decode bM61 231 = .ok (.bipush 34, 2) := by decide +kernel
theorem d61_233 : decode bM61 233 = .ok (.if_icmp .eq 111, 3) := by decide +kernel
theorem d61_236 : decode bM61 236 = .ok (.aload_n 0, 1) := by decide +kernel
theorem d61_237 : decode bM61 237 = .ok (.iload 7, 2) := by decide +kernel
theorem d61_239 : decode bM61 239 = .ok (.invokevirtual 140, 3) := by decide +kernel
theorem d61_242 : decode bM61 242 = .ok (.istore 8, 2) := by decide +kernel
theorem d61_244 : decode bM61 244 = .ok (.iload 8, 2) := by decide +kernel
theorem d61_246 : decode bM61 246 = .ok (.ifCond .eq 26, 3) := by decide +kernel
theorem d61_249 : decode bM61 249 = .ok (.iload 8, 2) := by decide +kernel
theorem d61_251 : decode bM61 251 = .ok (.bipush 60, 2) := by decide +kernel
theorem d61_253 : decode bM61 253 = .ok (.if_icmp .eq 19, 3) := by decide +kernel
theorem d61_256 : decode bM61 256 = .ok (.iload 8, 2) := by decide +kernel
theorem d61_258 : decode bM61 258 = .ok (.bipush 38, 2) := by decide +kernel
theorem d61_260 : decode bM61 260 = .ok (.if_icmp .ne 21, 3) := by decide +kernel
theorem d61_263 : decode bM61 263 = .ok (.aload_n 0, 1) := by decide +kernel
theorem d61_264 : decode bM61 264 = .ok (.iload 7, 2) := by decide +kernel
theorem d61_266 : decode bM61 266 = .ok (.invokevirtual 186, 3) := by decide +kernel
theorem d61_269 : decode bM61 269 = .ok (.ifCond .ne 12, 3) := by decide +kernel
theorem d61_272 : decode bM61 272 = .ok (.aload_n 0, 1) := by decide +kernel
theorem d61_273 : decode bM61 273 = .ok (.iload 7, 2) := by decide +kernel
theorem d61_275 : decode bM61 275 = .ok (.invokevirtual 144, 3) := by decide +kernel
theorem d61_278 : decode bM61 278 = .ok (.goto 63, 3) := by decide +kernel
theorem d61_281 : decode bM61 281 = .ok (.iload 6, 2) := by decide +kernel
theorem d61_283 : decode bM61 283 = .ok (.ifCond .eq 35, 3) := by decide +kernel
theorem d61_286 : decode bM61 286 = .ok (.aload_n 0, 1) := by decide +kernel
theorem d61_287 : decode bM61 287 = .ok (.iload_n 1, 1) := by decide +kernel
theorem d61_288 : decode bM61 288 = .ok (.iload 5, 2) := by decide +kernel
theorem d61_290 : decode bM61 290 = .ok (.bipush 7, 2) := by decide +kernel
theorem d61_292 : decode bM61 292 = .ok (.iadd, 1) := by decide +kernel
theorem d61_293 : decode bM61 293 = .ok (.iload 5, 2) := by decide +kernel
theorem d61_295 : decode bM61 295 = .ok (.bipush 8, 2) := by decide +kernel
theorem d61_297 : decode bM61 297 = .ok (.iadd, 1) := by decide +kernel
theorem d61_298 : decode bM61 298 = .ok (.iload 8, 2) := by decide +kernel
theorem d61_300 : decode bM61 300 = .ok (.bipush 38, 2) := by decide +kernel
theorem d61_302 : decode bM61 302 = .ok (.if_icmp .ne 11, 3) := by decide +kernel
theorem d61_305 : decode bM61 305 = .ok (.aload_n 0, 1) := by decide +kernel
theorem d61_306 : decode bM61 306 = .ok (.getfield 169, 3) := by decide +kernel
theorem d61_309 : decode bM61 309 = .ok (.i2c, 1) := by decide +kernel
theorem d61_310 : decode bM61 310 = .ok (.goto 5, 3) := by decide +kernel
theorem d61_313 : decode bM61 313 = .ok (.iload 8, 2) := by decide +kernel
theorem d61_315 : decode bM61 315 = .ok (.invokevirtual 190, 3) := by decide +kernel
theorem d61_318 : decode bM61 318 = .ok (.iload 8, 2) := by decide +kernel
theorem d61_320 : decode bM61 320 = .ok (.bipush 38, 2) := by decide +kernel
theorem d61_322 : decode bM61 322 = .ok (.if_icmp .ne 13, 3) := by decide +kernel
theorem d61_325 : decode bM61 325 = .ok (.iload 7, 2) := by decide +kernel
theorem d61_327 : decode bM61 327 = .ok (.aload_n 0, 1) := by decide +kernel
theorem d61_328 : decode bM61 328 = .ok (.getfield 172, 3) := by decide +kernel
theorem d61_331 : decode bM61 331 = .ok (.iadd, 1) := by decide +kernel
theorem d61_332 : decode bM61 332 = .ok (.goto 7, 3) := by decide +kernel
theorem d61_335 : decode bM61 335 = .ok (.iload 7, 2) := by decide +kernel
theorem d61_337 : decode bM61 337 = .ok (.iconst 1, 1) := by decide +kernel
theorem d61_338 : decode bM61 338 = .ok (.iadd, 1) := by decide +kernel
theorem d61_339 : decode bM61 339 = .ok (.istore 7, 2) := by decide +kernel
theorem d61_341 : decode bM61 341 = .ok (.goto (-123), 3) := by decide +kernel
theorem d61_344 : decode bM61 344 = .ok (.iload 7, 2) := by decide +kernel
theorem d61_346 : decode bM61 346 = .ok (.iconst 1, 1) := by decide +kernel
theorem d61_347 : decode bM61 347 = .ok (.iadd, 1) := by decide +kernel
theorem d61_348 : decode bM61 348 = .ok (.ireturn, 1) := by decide +kernel
theorem d62_0 : decode bM62 0 = .ok (.aload_n 0, 1) := by decide +kernel
theorem d62_1 : decode bM62 1 = .ok (.iconst 1, 1) := by decide +kernel
theorem d62_2 : decode bM62 2 = .ok (.invokevirtual 194, 3) := by decide +kernel
theorem d62_5 : decode bM62 5 = .ok (.istore_n 1, 1) := by decide +kernel
theorem d62_6 : decode bM62 6 = .ok (.aload_n 0, 1) := by decide +kernel
theorem d62_7 : decode bM62 7 = .ok (.aload_n 0, 1) := by decide +kernel
theorem d62_8 : decode bM62 8 = .ok (.getfield 197, 3) := by decide +kernel
theorem d62_11 : decode bM62 11 = .ok (.iconst 1, 1) := by decide +kernel
theorem d62_12 : decode bM62 12 = .ok (.iadd, 1) := by decide +kernel
theorem d62_13 : decode bM62 13 = .ok (.invokevirtual 175, 3) := by decide +kernel
theorem d62_16 : decode bM62 16 = .ok (.istore_n 2, 1) := by decide +kernel
theorem d62_17 : decode bM62 17 = .ok (.iconst 0, 1) := by decide +kernel
theorem d62_18 : decode bM62 18 = .ok (.istore_n 3, 1) := by decide +kernel
theorem d62_19 : decode bM62 19 = .ok (.iload_n 3, 1) := by decide +kernel
theorem d62_20 : decode bM62 20 = .ok (.iload_n 2, 1) := by decide +kernel
theorem d62_21 : decode bM62 21 = .ok (.if_icmp .ge 42, 3) := by decide +kernel
theorem d62_24 : decode bM62 24 = .ok (.iload_n 1, 1) := by decide +kernel
theorem d62_25 : decode bM62 25 = .ok (.bipush 40, 2) := by decide +kernel
theorem d62_27 : decode bM62 27 = .ok (.if_icmp .ge 36, 3) := by decide +kernel
theorem d62_30 : decode bM62 30 = .ok (.aload_n 0, 1) := by decide +kernel
theorem d62_31 : decode bM62 31 = .ok (.getfield 16, 3) := by decide +kernel
theorem d62_34 : decode bM62 34 = .ok (.sipush 128, 3) := by decide +kernel
theorem d62_37 : decode bM62 37 = .ok (.iload_n 1, 1) := by decide +kernel
theorem d62_38 : decode bM62 38 = .ok (.imul, 1) := by decide +kernel
theorem d62_39 : decode bM62 39 = .ok (.bipush 8, 2) := by decide +kernel
theorem d62_41 : decode bM62 41 = .ok (.iadd, 1) := by decide +kernel
theorem d62_42 : decode bM62 42 = .ok (.iload_n 3, 1) := by decide +kernel
theorem d62_43 : decode bM62 43 = .ok (.iadd, 1) := by decide +kernel
theorem d62_44 : decode bM62 44 = .ok (.aload_n 0, 1) := by decide +kernel
theorem d62_45 : decode bM62 45 = .ok (.aload_n 0, 1) := by decide +kernel
theorem d62_46 : decode bM62 46 = .ok (.getfield 197, 3) := by decide +kernel
theorem d62_49 : decode bM62 49 = .ok (.iconst 1, 1) := by decide +kernel
theorem d62_50 : decode bM62 50 = .ok (.iadd, 1) := by decide +kernel
theorem d62_51 : decode bM62 51 = .ok (.iload_n 3, 1) := by decide +kernel
theorem d62_52 : decode bM62 52 = .ok (.iadd, 1) := by decide +kernel
theorem d62_53 : decode bM62 53 = .ok (.invokevirtual 140, 3) := by decide +kernel
theorem d62_56 : decode bM62 56 = .ok (.iastore, 1) := by decide +kernel
theorem d62_57 : decode bM62 57 = .ok (.iinc 3 1, 3) := by decide +kernel
theorem d62_60 : decode bM62 60 = .ok (.goto (-41), 3) := by decide +kernel
theorem d62_63 : decode bM62 63 = .ok (.iload_n 1, 1) := by decide +kernel
theorem d62_64 : decode bM62 64 = .ok (.bipush 40, 2) := by decide +kernel
theorem d62_66 : decode bM62 66 = .ok (.if_icmp .ge 16, 3) := by decide +kernel
theorem d62_69 : decode bM62 69 = .ok (.aload_n 0, 1) := by decide +kernel
theorem d62_70 : decode bM62 70 = .ok (.getfield 16, 3) := by decide +kernel
theorem d62_73 : decode bM62 73 = .ok (.sipush 128, 3) := by decide +kernel
theorem d62_76 : decode bM62 76 = .ok (.iload_n 1, 1) := by decide +kernel
theorem d62_77 : decode bM62 77 = .ok (.imul, 1) := by decide +kernel
theorem d62_78 : decode bM62 78 = .ok (.iconst 3, 1) := by decide +kernel
theorem d62_79 : decode bM62 79 = .ok (.iadd, 1) := by decide +kernel
theorem d62_80 : decode bM62 80 = .ok (.iload_n 2, 1) := by decide +kernel
theorem d62_81 : decode bM62 81 = .ok (.iastore, 1) := by decide +kernel
theorem d62_82 : decode bM62 82 = .ok (.aload_n 0, 1) := by decide +kernel
theorem d62_83 : decode bM62 83 = .ok (.getfield 197, 3) := by decide +kernel
theorem d62_86 : decode bM62 86 = .ok (.iconst 1, 1) := by decide +kernel
theorem d62_87 : decode bM62 87 = .ok (.iadd, 1) := by decide +kernel
theorem d62_88 : decode bM62 88 = .ok (.iload_n 2, 1) := by decide +kernel
theorem d62_89 : decode bM62 89 = .ok (.iadd, 1) := by decide +kernel
theorem d62_90 : decode bM62 90 = .ok (.istore_n 3, 1) := by decide +kernel
theorem d62_91 : decode bM62 91 = .ok (.iconst 0, 1) := by decide +kernel
theorem d62_92 : decode bM62 92 = .ok (.istore 4, 2) := by decide +kernel
theorem d62_94 : decode bM62 94 = .ok (.aload_n 0, 1) := by decide +kernel
theorem d62_95 : decode bM62 95 = .ok (.getfield 137, 3) := by decide +kernel
theorem d62_98 : decode bM62 98 = .ok (.ifCond .ge 30, 3) := by decide +kernel
theorem d62_101 : decode bM62 101 = .ok (.aload_n 0, 1) := by decide +kernel
theorem d62_102 : decode bM62 102 = .ok (.iload_n 3, 1) := by decide +kernel
theorem d62_103 : decode bM62 103 = .ok (.invokevirtual 140, 3) := by decide +kernel
theorem d62_106 : decode bM62 106 = .ok (.bipush 32, 2) := by decide +kernel
theorem d62_108 : decode bM62 108 = .ok (.if_icmp .ne 20, 3) := by decide +kernel
theorem d62_111 : decode bM62 111 = .ok (.aload_n 0, 1) := by decide +kernel
theorem d62_112 : decode bM62 112 = .ok (.iload_n 1, 1) := by decide +kernel
theorem d62_113 : decode bM62 113 = .ok (.iload 4, 2) := by decide +kernel
theorem d62_115 : decode bM62 115 = .ok (.iload_n 3, 1) := by decide +kernel
theorem d62_116 : decode bM62 116 = .ok (.iconst 1, 1) := by decide +kernel
theorem d62_117 : decode bM62 117 = .ok (.iadd, 1) := by decide +kernel
theorem d62_118 : decode bM62 118 = .ok (.invokevirtual 200, 3) := by decide +kernel
theorem d62_121 : decode bM62 121 = .ok (.istore_n 3, 1) := by decide +kernel
theorem d62_122 : decode bM62 122 = .ok (.iinc 4 1, 3) := by decide +kernel
theorem d62_125 : decode bM62 125 = .ok (.goto (-31), 3) := by decide +kernel
theorem d62_128 : decode bM62 128 = .ok (.aload_n 0, 1) := by decide +kernel
theorem d62_129 : decode bM62 129 = .ok (.getfield 137, 3) := by decide +kernel
theorem d62_132 : decode bM62 132 = .ok (.ifCond .lt 4, 3) := by decide +kernel
theorem d62_135 : decode bM62 135 = .ok (.return_, 1) := by decide +kernel
theorem d62_136 : decode bM62 136 = .ok (.aload_n 0, 1) := by decide +kernel
theorem d62_137 : decode bM62 137 = .ok (.iload_n 3, 1) := by decide +kernel
theorem d62_138 : decode bM62 138 = .ok (.invokevirtual 140, 3) := by decide +kernel
theorem d62_141 : decode bM62 141 = .ok (.bipush 47, 2) := by decide +kernel
theorem d62_143 : decode bM62 143 = .ok (.if_icmp .ne 23, 3) := by decide +kernel
theorem d62_146 : decode bM62 146 = .ok (.aload_n 0, 1) := by decide +kernel
theorem d62_147 : decode bM62 147 = .ok (.iload_n 3, 1) := by decide +kernel
theorem d62_148 : decode bM62 148 = .ok (.iconst 1, 1) := by decide +kernel
theorem d62_149 : decode bM62 149 = .ok (.iadd, 1) := by decide +kernel
theorem d62_150 : decode bM62 150 = .ok (.bipush 62, 2) := by decide +kernel
theorem d62_152 : decode bM62 152 = .ok (.invokevirtual 182, 3) := by decide +kernel
theorem d62_155 : decode bM62 155 = .ok (.pop, 1) := by decide +kernel
theorem d62_156 : decode bM62 156 = .ok (.aload_n 0, 1) := by decide +kernel
theorem d62_157 : decode bM62 157 = .ok (.iload_n 3, 1) := by decide +kernel
theorem d62_158 : decode bM62 158 = .ok (.iconst 2, 1) := by decide +kernel
theorem d62_159 : decode bM62 159 = .ok (.iadd, 1) := by decide +kernel
theorem d62_160 : decode bM62 160 = .ok (.putfield 197, 3) := by decide +kernel
theorem d62_163 : decode bM62 163 = .ok (.goto 65, 3) := by decide +kernel
theorem d62_166 : decode bM62 166 = .ok (.aload_n 0, 1) := by decide +kernel
theorem d62_167 : decode bM62 167 = .ok (.iload_n 3, 1) := by decide +kernel
theorem d62_168 : decode bM62 168 = .ok (.bipush 62, 2) := by decide +kernel
theorem d62_170 : decode bM62 170 = .ok (.invokevirtual 182, 3) := by decide +kernel
theorem d62_173 : decode bM62 173 = .ok (.ifCond .eq 55, 3) := by decide +kernel
theorem d62_176 : decode bM62 176 = .ok (.aload_n 0, 1) := by decide +kernel
theorem d62_177 : decode bM62 177 = .ok (.getfield 26, 3) := by decide +kernel
theorem d62_180 : decode bM62 180 = .ok (.aload_n 0, 1) := by decide +kernel
theorem d62_181 : decode bM62 181 = .ok (.getfield 158, 3) := by decide +kernel
theorem d62_184 : decode bM62 184 = .ok (.iload_n 1, 1) := by decide +kernel
theorem d62_185 : decode bM62 185 = .ok (.iastore, 1) := by decide +kernel
theorem d62_186 : decode bM62 186 = .ok (.aload_n 0, 1) := by decide +kernel
theorem d62_187 : decode bM62 187 = .ok (.getfield 29, 3) := by decide +kernel
theorem d62_190 : decode bM62 190 = .ok (.aload_n 0, 1) := by decide +kernel
theorem d62_191 : decode bM62 191 = .ok (.getfield 158, 3) := by decide +kernel
theorem d62_194 : decode bM62 194 = .ok (.aload_n 0, 1) := by decide +kernel
theorem d62_195 : decode bM62 195 = .ok (.getfield 197, 3) := by decide +kernel
theorem d62_198 : decode bM62 198 = .ok (.iconst 1, 1) := by decide +kernel
theorem d62_199 : decode bM62 199 = .ok (.iadd, 1) := by decide +kernel
theorem d62_200 : decode bM62 200 = .ok (.iastore, 1) := by decide +kernel
theorem d62_201 : decode bM62 201 = .ok (.aload_n 0, 1) := by decide +kernel
theorem d62_202 : decode bM62 202 = .ok (.getfield 32, 3) := by decide +kernel
theorem d62_205 : decode bM62 205 = .ok (.aload_n 0, 1) := by decide +kernel
theorem d62_206 : decode bM62 206 = .ok (.getfield 158, 3) := by decide +kernel
theorem d62_209 : decode bM62 209 = .ok (.iload_n 2, 1) := by decide +kernel
theorem d62_210 : decode bM62 210 = .ok (.iastore, 1) := by decide +kernel
theorem d62_211 : decode bM62 211 = .ok (.aload_n 0, 1) := by decide +kernel
theorem d62_212 : decode bM62 212 = .ok (.dup, 1) := by decide +kernel
theorem d62_213 : decode bM62 213 = .ok (.getfield 158, 3) := by decide +kernel
theorem d62_216 : decode bM62 216 = .ok (.iconst 1, 1) := by decide +kernel
theorem d62_217 : decode bM62 217 = .ok (.iadd, 1) := by decide +kernel
theorem d62_218 : decode bM62 218 = .ok (.putfield 158, 3) := by decide +kernel
theorem d62_221 : decode bM62 221 = .ok (.aload_n 0, 1) := by decide +kernel
theorem d62_222 : decode bM62 222 = .ok (.iload_n 3, 1) := by decide +kernel
theorem d62_223 : decode bM62 223 = .ok (.iconst 1, 1) := by decide +kernel
theorem d62_224 : decode bM62 224 = .ok (.iadd, 1) := by decide +kernel
theorem d62_225 : decode bM62 225 = .ok (.putfield 197, 3) := by decide +kernel
theorem d62_228 : decode bM62 228 = .ok (.return_, 1) := by decide +kernel
theorem d63_0 : decode bM63 0 = .ok (.aload_n 0, 1) := by decide +kernel
theorem d63_1 : decode bM63 1 = .ok (.getfield 29, 3) := by decide +kernel
theorem d63_4 : decode bM63 4 = .ok (.aload_n 0, 1) := by decide +kernel
theorem d63_5 : decode bM63 5 = .ok (.getfield 158, 3) := by decide +kernel
theorem d63_8 : decode bM63 8 = .ok (.iconst 1, 1) := by decide +kernel
theorem d63_9 : decode bM63 9 = .ok (.isub, 1) := by decide +kernel
theorem d63_10 : decode bM63 10 = .ok (.iaload, 1) := by decide +kernel
theorem d63_11 : decode bM63 11 = .ok (.istore_n 1, 1) := by decide +kernel
theorem d63_12 : decode bM63 12 = .ok (.aload_n 0, 1) := by decide +kernel
theorem d63_13 : decode bM63 13 = .ok (.getfield 32, 3) := by decide +kernel
theorem d63_16 : decode bM63 16 = .ok (.aload_n 0, 1) := by decide +kernel
theorem d63_17 : decode bM63 17 = .ok (.getfield 158, 3) := by decide +kernel
theorem d63_20 : decode bM63 20 = .ok (.iconst 1, 1) := by decide +kernel
theorem d63_21 : decode bM63 21 = .ok (.isub, 1) := by decide +kernel
theorem d63_22 : decode bM63 22 = .ok (.iaload, 1) := by decide +kernel
theorem d63_23 : decode bM63 23 = .ok (.istore_n 2, 1) := by decide +kernel
theorem d63_24 : decode bM63 24 = .ok (.iconst 0, 1) := by decide +kernel
theorem d63_25 : decode bM63 25 = .ok (.istore_n 3, 1) := by decide +kernel
theorem d63_26 : decode bM63 26 = .ok (.iload_n 3, 1) := by decide +kernel
theorem d63_27 : decode bM63 27 = .ok (.iload_n 2, 1) := by decide +kernel
theorem d63_28 : decode bM63 28 = .ok (.if_icmp .ge 29, 3) := by decide +kernel
theorem d63_31 : decode bM63 31 = .ok (.aload_n 0, 1) := by decide +kernel
theorem d63_32 : decode bM63 32 = .ok (.aload_n 0, 1) := by decide +kernel
theorem d63_33 : decode bM63 33 = .ok (.getfield 197, 3) := by decide +kernel
theorem d63_36 : decode bM63 36 = .ok (.iconst 2, 1) := by decide +kernel
theorem d63_37 : decode bM63 37 = .ok (.iadd, 1) := by decide +kernel
theorem d63_38 : decode bM63 38 = .ok (.iload_n 3, 1) := by decide +kernel
theorem d63_39 : decode bM63 39 = .ok (.iadd, 1) := by decide +kernel
theorem d63_40 : decode bM63 40 = .ok (.aload_n 0, 1) := by decide +kernel
theorem d63_41 : decode bM63 41 = .ok (.iload_n 1, 1) := by decide +kernel
theorem d63_42 : decode bM63 42 = .ok (.iload_n 3, 1) := by decide +kernel
theorem d63_43 : decode bM63 43 = .ok (.iadd, 1) := by decide +kernel
theorem d63_44 : decode bM63 44 = .ok (.invokevirtual 140, 3) := by decide +kernel
theorem d63_47 : decode bM63 47 = .ok (.invokevirtual 182, 3) := by decide +kernel
theorem d63_50 : decode bM63 50 = .ok (.pop, 1) := by decide +kernel
theorem d63_51 : decode bM63 51 = .ok (.iinc 3 1, 3) := by decide +kernel
theorem d63_54 : decode bM63 54 = .ok (.goto (-28), 3) := by decide +kernel
theorem d63_57 : decode bM63 57 = .ok (.aload_n 0, 1) := by decide +kernel
theorem d63_58 : decode bM63 58 = .ok (.aload_n 0, 1) := by decide +kernel
theorem d63_59 : decode bM63 59 = .ok (.getfield 197, 3) := by decide +kernel
theorem d63_62 : decode bM63 62 = .ok (.iconst 2, 1) := by decide +kernel
theorem d63_63 : decode bM63 63 = .ok (.iadd, 1) := by decide +kernel
theorem d63_64 : decode bM63 64 = .ok (.iload_n 2, 1) := by decide +kernel
theorem d63_65 : decode bM63 65 = .ok (.iadd, 1) := by decide +kernel
theorem d63_66 : decode bM63 66 = .ok (.bipush 62, 2) := by decide +kernel
theorem d63_68 : decode bM63 68 = .ok (.invokevirtual 182, 3) := by decide +kernel
theorem d63_71 : decode bM63 71 = .ok (.pop, 1) := by decide +kernel
theorem d63_72 : decode bM63 72 = .ok (.aload_n 0, 1) := by decide +kernel
theorem d63_73 : decode bM63 73 = .ok (.dup, 1) := by decide +kernel
theorem d63_74 : decode bM63 74 = .ok (.getfield 158, 3) := by decide +kernel
theorem d63_77 : decode bM63 77 = .ok (.iconst 1, 1) := by decide +kernel
theorem d63_78 : decode bM63 78 = .ok (.isub, 1) := by decide +kernel
theorem d63_79 : decode bM63 79 = .ok (.putfield 158, 3) := by decide +kernel
theorem d63_82 : decode bM63 82 = .ok (.aload_n 0, 1) := by decide +kernel
theorem d63_83 : decode bM63 83 = .ok (.iconst (-1), 1) := by decide +kernel
theorem d63_84 : decode bM63 84 = .ok (.putfield 155, 3) := by decide +kernel
theorem d63_87 : decode bM63 87 = .ok (.aload_n 0, 1) := by decide +kernel
theorem d63_88 : decode bM63 88 = .ok (.aload_n 0, 1) := by decide +kernel
theorem d63_89 : decode bM63 89 = .ok (.getfield 197, 3) := by decide +kernel
theorem d63_92 : decode bM63 92 = .ok (.iconst 3, 1) := by decide +kernel
theorem d63_93 : decode bM63 93 = .ok (.iadd, 1) := by decide +kernel
theorem d63_94 : decode bM63 94 = .ok (.iload_n 2, 1) := by decide +kernel
theorem d63_95 : decode bM63 95 = .ok (.iadd, 1) := by decide +kernel
theorem d63_96 : decode bM63 96 = .ok (.putfield 197, 3) := by decide +kernel
theorem d63_99 : decode bM63 99 = .ok (.return_, 1) := by decide +kernel
def g_digit_16 (st : mT) : Option (Int32 × mT) := (some (0, st))
def g_digit (y0 : Int32) (st : mT) : Option (Int32 × mT) := (if y0 < 48 then (g_digit_16 st) else (if 57 < y0 then (g_digit_16 st) else (some (1, st))))
set_option maxRecDepth 100000 in
set_option maxHeartbeats 8000000 in
theorem cm_digit (l : Launch) (D : va_G) (dA : Nat → ClassId) (s0 : State) (hE : ms_EV D dA s0) (h0 : hm_T) (r : Nat) (M : Nat → Nat) (hM : mm_ok r M) (z0 : hz_T) (y0 : Int32) (st : mT) (q : Int32 × mT) (hg : g_digit y0 st = some q) : ht_C l D s0 yM52 bM52 1 (Option.some Jvm.ClassFile.FieldType.boolean) 0 0 0 0 [.int y0] (fun h z => h = mm_h dA h0 r M st ∧ z = z0) (fun h z vv h1 z1 => vv = some (.int q.1) ∧ h1 = mm_h dA h0 r M q.2 ∧ z1 = z0) := by
  refine ht_C.mk hE.1 (by decide) (Nat.le_of_ble_eq_true rfl) [(0, .int y0)] rfl ?_
  intro p e s m below meth c ls h z X hin hpre I hl
  have hx := X.1
  have hb := X.2.1
  have hml := X.2.2.1
  have hown : s.vm.findClass "MarkupStoreModel" = some m.cls := X.2.2.2.1
  have hts := X.2.2.2.2.2.2.1
  have hK := X.2.2.2.2.2.2.2.2.1
  rw [hpre.1, hpre.2] at I
  clear hpre
  have b16 : ∀ (ls : Array Slot) (st : mT) (H : Heap) (locs : List Loc), g_digit_16 st = some q → lv_has ls 1 [] → hm_I D s0 s (mm_h dA h0 r M st) z0 H locs → W p l e { frames := 0, cells := 0, slots := 0, locals := 0 } s m ([.int y0] : List Value).toArray below meth c H locs 0 0 (MQ below (ht_Q D s0 (fun vv h1 z1 => vv = some (.int q.1) ∧ h1 = mm_h dA h0 r M q.2 ∧ z1 = z0)) ([.int y0] : List Value).toArray s 0 0 (fun q => s0.heap.size ≤ q)) (F0 m 16 ls []) := by
    intro ls st H locs hF hl I
    unfold g_digit_16 at hF
    refine lv_iconst (v := 0) hx hb d52_16 (by decide) ?_
    exact ht_zret X d52_17 I (Nat.le_of_ble_eq_true rfl) (Nat.le_of_ble_eq_true rfl) (mm_fin hF) rfl
  have hF := hg
  unfold g_digit at hF
  refine lv_iload_n hx hb d52_0 rfl (lv_at hl 0 rfl) ?_
  refine lv_bipush (v := 48) hx hb d52_1 (by decide) ?_
  refine lv_icmp_lt hx hb d52_3 rfl (fun h9 => ?_) (fun h9 => ?_)
  · have hF := (if_pos h9).symm.trans hF
    exact b16 ls st _ _ hF (hl.sub [] rfl) I
  · have hF := (if_neg h9).symm.trans hF
    refine lv_iload_n hx hb d52_6 rfl (lv_at hl 0 rfl) ?_
    refine lv_bipush (v := 57) hx hb d52_7 (by decide) ?_
    refine lv_icmp_gt hx hb d52_9 rfl (fun h9 => ?_) (fun h9 => ?_)
    · have hF := (if_pos h9).symm.trans hF
      exact b16 ls st _ _ hF (hl.sub [] rfl) I
    · have hF := (if_neg h9).symm.trans hF
      refine lv_iconst (v := 1) hx hb d52_12 (by decide) ?_
      refine lv_goto hx hb d52_13 rfl ?_
      exact ht_zret X d52_17 I (Nat.le_of_ble_eq_true rfl) (Nat.le_of_ble_eq_true rfl) (mm_fin hF) rfl

def g_error_24 (w0 : Int32) (st : mT) : Option (mT) := (mm_lt (mm_F st 9 w0) (fun st1 => (some st1)))
def g_error (y1 : Int32) (st : mT) : Option (mT) := (if 0 ≤ (st.1 9) then (some st) else (if (st.1 7) ≤ y1 then (g_error_24 (st.1 7) st) else (g_error_24 y1 st)))
set_option maxRecDepth 100000 in
set_option maxHeartbeats 8000000 in
theorem cm_error (l : Launch) (D : va_G) (dA : Nat → ClassId) (s0 : State) (hE : ms_EV D dA s0) (h0 : hm_T) (r : Nat) (M : Nat → Nat) (hM : mm_ok r M) (z0 : hz_T) (y1 : Int32) (st : mT) (q : mT) (hg : g_error y1 st = some q) : ht_C l D s0 yM53 bM53 2 (Option.none : Option Jvm.ClassFile.FieldType) 0 0 0 0 [.ref r, .int y1] (fun h z => h = mm_h dA h0 r M st ∧ z = z0) (fun h z vv h1 z1 => vv = none ∧ h1 = mm_h dA h0 r M q ∧ z1 = z0) := by
  refine ht_C.mk hE.1 (by decide) (Nat.le_of_ble_eq_true rfl) [(0, .ref r), (1, .int y1)] rfl ?_
  intro p e s m below meth c ls h z X hin hpre I hl
  have hx := X.1
  have hb := X.2.1
  have hml := X.2.2.1
  have hown : s.vm.findClass "MarkupStoreModel" = some m.cls := X.2.2.2.1
  have hts := X.2.2.2.2.2.2.1
  have hK := X.2.2.2.2.2.2.2.2.1
  rw [hpre.1, hpre.2] at I
  clear hpre
  have b24 : ∀ (ls : Array Slot) (w0 : Int32) (st : mT) (H : Heap) (locs : List Loc), g_error_24 w0 st = some q → lv_has ls 2 [] → hm_I D s0 s (mm_h dA h0 r M st) z0 H locs → W p l e { frames := 0, cells := 0, slots := 0, locals := 0 } s m ([.ref r, .int y1] : List Value).toArray below meth c H locs 0 0 (MQ below (ht_Q D s0 (fun vv h1 z1 => vv = none ∧ h1 = mm_h dA h0 r M q ∧ z1 = z0)) ([.ref r, .int y1] : List Value).toArray s 0 0 (fun q => s0.heap.size ≤ q)) (F0 m 24 ls [.int w0, .ref r]) := by
    intro ls w0 st H locs hF hl I
    unfold g_error_24 at hF
    obtain ⟨st1, e9, hF⟩ := mm_lt_some hF
    refine mm_put (k := 9) (ty := .int) X I (by decide) ms_k1325 rfl rfl (by decide +kernel) ⟨rfl, rfl⟩ rfl e9 d53_24 (fun H locs I => ?_)
    clear e9
    exact ht_vret X d53_27 I (Nat.le_of_ble_eq_true rfl) (Nat.le_of_ble_eq_true rfl) (mm_finV hF)
  have hF := hg
  unfold g_error at hF
  refine lv_aload_n hx hb d53_0 rfl (lv_at hl 0 rfl) ?_
  refine va_get (D := D) (ci := 2) (v := .int (st.1 9)) (C := kR2) (T := kT2) (N := 60) hx hb hts ku2 hown hK (hm_one I.1 mm_hr) 0 rfl rfl 9 (by decide) (hts _ ms_k1325) (fun _ h => h) rfl d53_1 ?_
  refine lv_if_ge hx hb d53_4 rfl (fun h9 => ?_) (fun h9 => ?_)
  · have hF := (if_pos h9).symm.trans hF
    exact ht_vret X d53_27 I (Nat.le_of_ble_eq_true rfl) (Nat.le_of_ble_eq_true rfl) (mm_finV hF)
  · have hF := (if_neg h9).symm.trans hF
    refine lv_aload_n hx hb d53_7 rfl (lv_at hl 0 rfl) ?_
    refine lv_iload_n hx hb d53_8 rfl (lv_at hl 1 rfl) ?_
    refine lv_aload_n hx hb d53_9 rfl (lv_at hl 0 rfl) ?_
    refine va_get (D := D) (ci := 2) (v := .int (st.1 7)) (C := kR2) (T := kT2) (N := 60) hx hb hts ku2 hown hK (hm_one I.1 mm_hr) 0 rfl rfl 7 (by decide) (hts _ ms_k1323) (fun _ h => h) rfl d53_10 ?_
    refine lv_icmp_ge hx hb d53_13 rfl (fun h9 => ?_) (fun h9 => ?_)
    · have hF := (if_pos h9).symm.trans hF
      refine lv_aload_n hx hb d53_20 rfl (lv_at hl 0 rfl) ?_
      refine va_get (D := D) (ci := 2) (v := .int (st.1 7)) (C := kR2) (T := kT2) (N := 60) hx hb hts ku2 hown hK (hm_one I.1 mm_hr) 0 rfl rfl 7 (by decide) (hts _ ms_k1323) (fun _ h => h) rfl d53_21 ?_
      exact b24 ls (st.1 7) st _ _ hF (hl.sub [] rfl) I
    · have hF := (if_neg h9).symm.trans hF
      refine lv_iload_n hx hb d53_16 rfl (lv_at hl 1 rfl) ?_
      refine lv_goto hx hb d53_17 rfl ?_
      exact b24 ls y1 st _ _ hF (hl.sub [] rfl) I

def g_must_14 (st : mT) : Option (Int32 × mT) := (if 0 ≤ (st.1 9) then (some (0, st)) else (some (1, st)))
def g_must (y1 : Int32) (y2 : Int32) (st : mT) : Option (Int32 × mT) := ((g_look y1 st).bind (fun q1 => (if q1.1 = y2 then (g_must_14 q1.2) else ((g_error y1 q1.2).bind (fun q2 => (g_must_14 q2))))))
set_option maxRecDepth 100000 in
set_option maxHeartbeats 8000000 in
theorem cm_must (l : Launch) (D : va_G) (dA : Nat → ClassId) (s0 : State) (hE : ms_EV D dA s0) (h0 : hm_T) (r : Nat) (M : Nat → Nat) (hM : mm_ok r M) (z0 : hz_T) (y1 : Int32) (y2 : Int32) (st : mT) (q : Int32 × mT) (hg : g_must y1 y2 st = some q) : ht_C l D s0 yM54 bM54 3 (Option.some Jvm.ClassFile.FieldType.boolean) 1 21 0 0 [.ref r, .int y1, .int y2] (fun h z => h = mm_h dA h0 r M st ∧ z = z0) (fun h z vv h1 z1 => vv = some (.int q.1) ∧ h1 = mm_h dA h0 r M q.2 ∧ z1 = z0) := by
  refine ht_C.mk hE.1 (by decide) (Nat.le_of_ble_eq_true rfl) [(0, .ref r), (1, .int y1), (2, .int y2)] rfl ?_
  intro p e s m below meth c ls h z X hin hpre I hl
  have hx := X.1
  have hb := X.2.1
  have hml := X.2.2.1
  have hown : s.vm.findClass "MarkupStoreModel" = some m.cls := X.2.2.2.1
  have hts := X.2.2.2.2.2.2.1
  have hK := X.2.2.2.2.2.2.2.2.1
  rw [hpre.1, hpre.2] at I
  clear hpre
  have b14 : ∀ (ls : Array Slot) (st : mT) (H : Heap) (locs : List Loc), g_must_14 st = some q → lv_has ls 3 [(0, .ref r)] → hm_I D s0 s (mm_h dA h0 r M st) z0 H locs → W p l e { frames := 1, cells := 0, slots := 0, locals := 21 } s m ([.ref r, .int y1, .int y2] : List Value).toArray below meth c H locs 0 0 (MQ below (ht_Q D s0 (fun vv h1 z1 => vv = some (.int q.1) ∧ h1 = mm_h dA h0 r M q.2 ∧ z1 = z0)) ([.ref r, .int y1, .int y2] : List Value).toArray s 0 0 (fun q => s0.heap.size ≤ q)) (F0 m 14 ls []) := by
    intro ls st H locs hF hl I
    unfold g_must_14 at hF
    refine lv_aload_n hx hb d54_14 rfl (lv_at hl 0 rfl) ?_
    refine va_get (D := D) (ci := 2) (v := .int (st.1 9)) (C := kR2) (T := kT2) (N := 60) hx hb hts ku2 hown hK (hm_one I.1 mm_hr) 0 rfl rfl 9 (by decide) (hts _ ms_k1325) (fun _ h => h) rfl d54_15 ?_
    refine lv_if_ge hx hb d54_18 rfl (fun h9 => ?_) (fun h9 => ?_)
    · have hF := (if_pos h9).symm.trans hF
      refine lv_iconst (v := 0) hx hb d54_25 (by decide) ?_
      exact ht_zret X d54_26 I (Nat.le_of_ble_eq_true rfl) (Nat.le_of_ble_eq_true rfl) (mm_fin hF) rfl
    · have hF := (if_neg h9).symm.trans hF
      refine lv_iconst (v := 1) hx hb d54_21 (by decide) ?_
      refine lv_goto hx hb d54_22 rfl ?_
      exact ht_zret X d54_26 I (Nat.le_of_ble_eq_true rfl) (Nat.le_of_ble_eq_true rfl) (mm_fin hF) rfl
  have hF := hg
  unfold g_must at hF
  refine lv_aload_n hx hb d54_0 rfl (lv_at hl 0 rfl) ?_
  refine lv_iload_n hx hb d54_1 rfl (lv_at hl 1 rfl) ?_
  obtain ⟨q1, e9, hF⟩ := mm_bd hF
  refine ht_V (C := "MarkupStoreModel") (rest := []) (as := [.int y1]) X hl (cm_look l D dA s0 hE h0 r M hM z0 y1 st q1 e9) (List.forall_mem_cons.mpr ⟨ms_k1516, List.forall_mem_cons.mpr ⟨ms_k1518, List.forall_mem_cons.mpr ⟨ms_p46, List.forall_mem_cons.mpr ⟨ms_k7, List.forall_mem_cons.mpr ⟨ms_k1519, fun _ h => absurd h List.not_mem_nil⟩⟩⟩⟩⟩) ⟨rfl, by decide +kernel, by decide +kernel, (by decide +kernel : (parseMethodDescriptor "(I)C").map (fun d => d.parameters.length) = some 1)⟩ (hm_recv hK I rfl mm_hr) I ⟨rfl, rfl⟩ ⟨⟨Nat.le_of_ble_eq_true rfl, Nat.le_of_ble_eq_true rfl⟩, Nat.le_of_ble_eq_true rfl, Nat.le_of_ble_eq_true rfl⟩ rfl (Nat.le_of_ble_eq_true rfl) d54_2 (fun vv h1 z1 H locs hR I9 => ?_)
  obtain ⟨e1, e2, e3⟩ := hR
  rw [e2, e3] at I9
  clear I e2 e3 e9
  have I := I9
  clear I9
  subst e1
  refine W.eq (g2 := F0 m 5 ls [.int q1.1]) rfl ?_
  refine lv_iload_n hx hb d54_5 rfl (lv_at hl 2 rfl) ?_
  refine lv_icmp_eq hx hb d54_6 rfl (fun h9 => ?_) (fun h9 => ?_)
  · have hF := (if_pos h9).symm.trans hF
    exact b14 ls q1.2 _ _ hF (hl.sub [0] rfl) I
  · have hF := (if_neg h9).symm.trans hF
    refine lv_aload_n hx hb d54_9 rfl (lv_at hl 0 rfl) ?_
    refine lv_iload_n hx hb d54_10 rfl (lv_at hl 1 rfl) ?_
    obtain ⟨q2, e9, hF⟩ := mm_bd hF
    refine ht_V (C := "MarkupStoreModel") (rest := []) (as := [.int y1]) X hl (cm_error l D dA s0 hE h0 r M hM z0 y1 q1.2 q2 e9) (List.forall_mem_cons.mpr ⟨ms_k1520, List.forall_mem_cons.mpr ⟨ms_k1522, List.forall_mem_cons.mpr ⟨ms_p47, List.forall_mem_cons.mpr ⟨ms_k7, List.forall_mem_cons.mpr ⟨ms_k1523, fun _ h => absurd h List.not_mem_nil⟩⟩⟩⟩⟩) ⟨rfl, by decide +kernel, by decide +kernel, (by decide +kernel : (parseMethodDescriptor "(I)V").map (fun d => d.parameters.length) = some 1)⟩ (hm_recv hK I rfl mm_hr) I ⟨rfl, rfl⟩ ⟨⟨Nat.le_of_ble_eq_true rfl, Nat.le_of_ble_eq_true rfl⟩, Nat.le_of_ble_eq_true rfl, Nat.le_of_ble_eq_true rfl⟩ rfl (Nat.le_of_ble_eq_true rfl) d54_11 (fun vv h1 z1 H locs hR I9 => ?_)
    obtain ⟨e1, e2, e3⟩ := hR
    rw [e2, e3] at I9
    clear I e2 e3 e9
    have I := I9
    clear I9
    subst e1
    refine W.eq (g2 := F0 m 14 ls []) rfl ?_
    exact b14 ls q2 _ _ hF (hl.sub [0] rfl) I

def g_letters_27 (x2 : Int32) (st : mT) : Option (Int32 × mT) := (some (x2, st))
def g_letters_2 : Nat → Int32 → Int32 → mT → Option (Int32 × mT)
  | 0, _, _, _ => none
  | n9 + 1, x1, x2, st => (if 6 ≤ x2 then (g_letters_27 x2 st) else ((g_look (x1 + x2) st).bind (fun q1 => ((g_small q1.1 q1.2).bind (fun q2 => (if q2.1 = 0 then (g_letters_27 x2 q2.2) else ((g_letters_2 n9) x1 (x2 + 1) q2.2)))))))
def g_letters (y1 : Int32) (st : mT) : Option (Int32 × mT) := (g_letters_2 mF y1 0 st)
set_option maxRecDepth 100000 in
set_option maxHeartbeats 8000000 in
theorem cm_letters (l : Launch) (D : va_G) (dA : Nat → ClassId) (s0 : State) (hE : ms_EV D dA s0) (h0 : hm_T) (r : Nat) (M : Nat → Nat) (hM : mm_ok r M) (z0 : hz_T) (y1 : Int32) (st : mT) (q : Int32 × mT) (hg : g_letters y1 st = some q) : ht_C l D s0 yM55 bM55 3 (Option.some Jvm.ClassFile.FieldType.int) 1 21 0 0 [.ref r, .int y1] (fun h z => h = mm_h dA h0 r M st ∧ z = z0) (fun h z vv h1 z1 => vv = some (.int q.1) ∧ h1 = mm_h dA h0 r M q.2 ∧ z1 = z0) := by
  refine ht_C.mk hE.1 (by decide) (Nat.le_of_ble_eq_true rfl) [(0, .ref r), (1, .int y1)] rfl ?_
  intro p e s m below meth c ls h z X hin hpre I hl
  have hx := X.1
  have hb := X.2.1
  have hml := X.2.2.1
  have hown : s.vm.findClass "MarkupStoreModel" = some m.cls := X.2.2.2.1
  have hts := X.2.2.2.2.2.2.1
  have hK := X.2.2.2.2.2.2.2.2.1
  rw [hpre.1, hpre.2] at I
  clear hpre
  have b27 : ∀ (ls : Array Slot) (x2 : Int32) (st : mT) (H : Heap) (locs : List Loc), g_letters_27 x2 st = some q → lv_has ls 3 [(2, .int x2)] → hm_I D s0 s (mm_h dA h0 r M st) z0 H locs → W p l e { frames := 1, cells := 0, slots := 0, locals := 21 } s m ([.ref r, .int y1] : List Value).toArray below meth c H locs 0 0 (MQ below (ht_Q D s0 (fun vv h1 z1 => vv = some (.int q.1) ∧ h1 = mm_h dA h0 r M q.2 ∧ z1 = z0)) ([.ref r, .int y1] : List Value).toArray s 0 0 (fun q => s0.heap.size ≤ q)) (F0 m 27 ls []) := by
    intro ls x2 st H locs hF hl I
    unfold g_letters_27 at hF
    refine lv_iload_n hx hb d55_27 rfl (lv_at hl 0 rfl) ?_
    exact ht_iret X d55_28 I (Nat.le_of_ble_eq_true rfl) (Nat.le_of_ble_eq_true rfl) (mm_fin hF)
  have b2 : ∀ n9 : Nat, ∀ (ls : Array Slot) (x1 : Int32) (x2 : Int32) (st : mT) (H : Heap) (locs : List Loc), g_letters_2 n9 x1 x2 st = some q → lv_has ls 3 [(0, .ref r), (1, .int x1), (2, .int x2)] → hm_I D s0 s (mm_h dA h0 r M st) z0 H locs → W p l e { frames := 1, cells := 0, slots := 0, locals := 21 } s m ([.ref r, .int y1] : List Value).toArray below meth c H locs 0 0 (MQ below (ht_Q D s0 (fun vv h1 z1 => vv = some (.int q.1) ∧ h1 = mm_h dA h0 r M q.2 ∧ z1 = z0)) ([.ref r, .int y1] : List Value).toArray s 0 0 (fun q => s0.heap.size ≤ q)) (F0 m 2 ls []) := by
    intro n9
    induction n9 with
    | zero => intro ls x1 x2 st H locs hF; cases hF
    | succ n9 hk2 =>
    intro ls x1 x2 st H locs hF hl I
    unfold g_letters_2 at hF
    refine lv_iload_n hx hb d55_2 rfl (lv_at hl 2 rfl) ?_
    refine lv_bipush (v := 6) hx hb d55_3 (by decide) ?_
    refine lv_icmp_ge hx hb d55_5 rfl (fun h9 => ?_) (fun h9 => ?_)
    · have hF := (if_pos h9).symm.trans hF
      exact b27 ls x2 st _ _ hF (hl.sub [2] rfl) I
    · have hF := (if_neg h9).symm.trans hF
      refine lv_aload_n hx hb d55_8 rfl (lv_at hl 0 rfl) ?_
      refine lv_iload_n hx hb d55_9 rfl (lv_at hl 1 rfl) ?_
      refine lv_iload_n hx hb d55_10 rfl (lv_at hl 2 rfl) ?_
      refine lv_iadd hx hb d55_11 ?_
      obtain ⟨q1, e9, hF⟩ := mm_bd hF
      refine ht_V (C := "MarkupStoreModel") (rest := []) (as := [.int (x1 + x2)]) X hl (cm_look l D dA s0 hE h0 r M hM z0 (x1 + x2) st q1 e9) (List.forall_mem_cons.mpr ⟨ms_k1516, List.forall_mem_cons.mpr ⟨ms_k1518, List.forall_mem_cons.mpr ⟨ms_p46, List.forall_mem_cons.mpr ⟨ms_k7, List.forall_mem_cons.mpr ⟨ms_k1519, fun _ h => absurd h List.not_mem_nil⟩⟩⟩⟩⟩) ⟨rfl, by decide +kernel, by decide +kernel, (by decide +kernel : (parseMethodDescriptor "(I)C").map (fun d => d.parameters.length) = some 1)⟩ (hm_recv hK I rfl mm_hr) I ⟨rfl, rfl⟩ ⟨⟨Nat.le_of_ble_eq_true rfl, Nat.le_of_ble_eq_true rfl⟩, Nat.le_of_ble_eq_true rfl, Nat.le_of_ble_eq_true rfl⟩ rfl (Nat.le_of_ble_eq_true rfl) d55_12 (fun vv h1 z1 H locs hR I9 => ?_)
      obtain ⟨e1, e2, e3⟩ := hR
      rw [e2, e3] at I9
      clear I e2 e3 e9
      have I := I9
      clear I9
      subst e1
      refine W.eq (g2 := F0 m 15 ls [.int q1.1]) rfl ?_
      obtain ⟨q2, e9, hF⟩ := mm_bd hF
      refine ht_S (rest := []) (as := [.int q1.1]) X hl (cm_small l D dA s0 hE h0 r M hM z0 q1.1 q1.2 q2 e9) (List.forall_mem_cons.mpr ⟨ms_k1528, List.forall_mem_cons.mpr ⟨ms_k1529, List.forall_mem_cons.mpr ⟨ms_k7, List.forall_mem_cons.mpr ⟨ms_k1530, fun _ h => absurd h List.not_mem_nil⟩⟩⟩⟩) ⟨by decide +kernel, by decide +kernel, (by decide +kernel : (parseMethodDescriptor "(C)Z").map (fun d => d.parameters.length) = some 1)⟩ I ⟨rfl, rfl⟩ ⟨⟨Nat.le_of_ble_eq_true rfl, Nat.le_of_ble_eq_true rfl⟩, Nat.le_of_ble_eq_true rfl, Nat.le_of_ble_eq_true rfl⟩ rfl (Nat.le_of_ble_eq_true rfl) d55_15 (fun vv h1 z1 H locs hR I9 => ?_)
      obtain ⟨e1, e2, e3⟩ := hR
      rw [e2, e3] at I9
      clear I e2 e3 e9
      have I := I9
      clear I9
      subst e1
      refine W.eq (g2 := F0 m 18 ls [.int q2.1]) rfl ?_
      refine lv_if_eq hx hb d55_18 rfl (fun h9 => ?_) (fun h9 => ?_)
      · have hF := (if_pos h9).symm.trans hF
        exact b27 ls x2 q2.2 _ _ hF (hl.sub [2] rfl) I
      · have hF := (if_neg h9).symm.trans hF
        refine lv_iinc (k := 2) (v := (x2 + 1)) hx hb d55_21 hl rfl (rfl) (by decide) rfl (fun ls hl => ?_)
        have hl : lv_has ls 3 [(2, .int (x2 + 1)), (0, .ref r), (1, .int x1)] := hl
        refine lv_goto hx hb d55_24 rfl ?_
        exact hk2 ls x1 (x2 + 1) q2.2 _ _ hF (hl.sub [1, 2, 0] rfl) I
  have hF := hg
  unfold g_letters at hF
  refine lv_iconst (v := 0) hx hb d55_0 (by decide) ?_
  refine lv_istore_n hx hb d55_1 rfl hl (by decide) rfl (fun ls hl => ?_)
  have hl : lv_has ls 3 [(2, .int 0), (0, .ref r), (1, .int y1)] := hl
  exact b2 mF ls y1 0 st _ _ hF (hl.sub [1, 2, 0] rfl) I

def g_make_111 (x2 : Int32) (w0 : Int32) (w1 : Int32) (st : mT) : Option (Int32 × mT) := (mm_ix 5120 w1 (fun j6 => mm_lt (mm_G st 2 j6 w0) (fun st5 => (some (x2, st5)))))
def g_make_39 : Nat → Int32 → Int32 → Int32 → mT → Option (Int32 × mT)
  | 0, _, _, _, _ => none
  | n9 + 1, x1, x2, x3, st => (if 128 ≤ x3 then (mm_ix 5120 ((128 * x2) + 1) (fun j4 => mm_lt (mm_G st 2 j4 x1) (fun st3 => (if (st3.1 14) ≤ 0 then (g_make_111 x2 (-1) ((128 * x2) + 2) st3) else (mm_ld (st3.2.1 15) 8 ((st3.1 14) - 1) (fun v7 => (g_make_111 x2 v7 ((128 * x2) + 2) st3))))))) else (mm_ix 5120 ((128 * x2) + x3) (fun j9 => mm_lt (mm_G st 2 j9 0) (fun st8 => ((g_make_39 n9) x1 x2 (x3 + 1) st8)))))
def g_make_26 (x1 : Int32) (x2 : Int32) (w0 : Int32) (st : mT) : Option (Int32 × mT) := (mm_lt (mm_F st 12 w0) (fun st2 => (if x2 < 40 then (g_make_39 mF x1 x2 0 st2) else (some (x2, st2)))))
def g_make (y1 : Int32) (st : mT) : Option (Int32 × mT) := (mm_lt (mm_F st 10 ((st.1 10) + 1)) (fun st1 => (if y1 = 2 then (g_make_26 y1 (st.1 10) (st.1 10) st1) else (g_make_26 y1 (st.1 10) (-1) st1))))
set_option maxRecDepth 100000 in
set_option maxHeartbeats 8000000 in
theorem cm_make (l : Launch) (D : va_G) (dA : Nat → ClassId) (s0 : State) (hE : ms_EV D dA s0) (h0 : hm_T) (r : Nat) (M : Nat → Nat) (hM : mm_ok r M) (z0 : hz_T) (y1 : Int32) (st : mT) (q : Int32 × mT) (hg : g_make y1 st = some q) : ht_C l D s0 yM56 bM56 4 (Option.some Jvm.ClassFile.FieldType.int) 0 0 0 0 [.ref r, .int y1] (fun h z => h = mm_h dA h0 r M st ∧ z = z0) (fun h z vv h1 z1 => vv = some (.int q.1) ∧ h1 = mm_h dA h0 r M q.2 ∧ z1 = z0) := by
  refine ht_C.mk hE.1 (by decide) (Nat.le_of_ble_eq_true rfl) [(0, .ref r), (1, .int y1)] rfl ?_
  intro p e s m below meth c ls h z X hin hpre I hl
  have hx := X.1
  have hb := X.2.1
  have hml := X.2.2.1
  have hown : s.vm.findClass "MarkupStoreModel" = some m.cls := X.2.2.2.1
  have hts := X.2.2.2.2.2.2.1
  have hK := X.2.2.2.2.2.2.2.2.1
  rw [hpre.1, hpre.2] at I
  clear hpre
  have b111 : ∀ (ls : Array Slot) (x2 : Int32) (w0 : Int32) (w1 : Int32) (st : mT) (H : Heap) (locs : List Loc), g_make_111 x2 w0 w1 st = some q → lv_has ls 4 [(2, .int x2)] → hm_I D s0 s (mm_h dA h0 r M st) z0 H locs → W p l e { frames := 0, cells := 0, slots := 0, locals := 0 } s m ([.ref r, .int y1] : List Value).toArray below meth c H locs 0 0 (MQ below (ht_Q D s0 (fun vv h1 z1 => vv = some (.int q.1) ∧ h1 = mm_h dA h0 r M q.2 ∧ z1 = z0)) ([.ref r, .int y1] : List Value).toArray s 0 0 (fun q => s0.heap.size ≤ q)) (F0 m 111 ls [.int w0, .int w1, .ref (M 2)]) := by
    intro ls x2 w0 w1 st H locs hF hl I
    unfold g_make_111 at hF
    obtain ⟨i9, hF⟩ := mm_ix_some hF
    obtain ⟨st5, e9, hF⟩ := mm_lt_some hF
    refine mm_iast (k := 2) X I hM (by decide) 0 (fun _ => rfl) rfl i9 e9 d56_111 (fun H locs I => ?_)
    clear e9 i9
    refine lv_iload_n hx hb d56_112 rfl (lv_at hl 0 rfl) ?_
    exact ht_iret X d56_113 I (Nat.le_of_ble_eq_true rfl) (Nat.le_of_ble_eq_true rfl) (mm_fin hF)
  have b39 : ∀ n9 : Nat, ∀ (ls : Array Slot) (x1 : Int32) (x2 : Int32) (x3 : Int32) (st : mT) (H : Heap) (locs : List Loc), g_make_39 n9 x1 x2 x3 st = some q → lv_has ls 4 [(0, .ref r), (1, .int x1), (2, .int x2), (3, .int x3)] → hm_I D s0 s (mm_h dA h0 r M st) z0 H locs → W p l e { frames := 0, cells := 0, slots := 0, locals := 0 } s m ([.ref r, .int y1] : List Value).toArray below meth c H locs 0 0 (MQ below (ht_Q D s0 (fun vv h1 z1 => vv = some (.int q.1) ∧ h1 = mm_h dA h0 r M q.2 ∧ z1 = z0)) ([.ref r, .int y1] : List Value).toArray s 0 0 (fun q => s0.heap.size ≤ q)) (F0 m 39 ls []) := by
    intro n9
    induction n9 with
    | zero => intro ls x1 x2 x3 st H locs hF; cases hF
    | succ n9 hk39 =>
    intro ls x1 x2 x3 st H locs hF hl I
    unfold g_make_39 at hF
    refine lv_iload_n hx hb d56_39 rfl (lv_at hl 3 rfl) ?_
    refine lv_sipush (v := 128) hx hb d56_40 (by decide) ?_
    refine lv_icmp_ge hx hb d56_43 rfl (fun h9 => ?_) (fun h9 => ?_)
    · have hF := (if_pos h9).symm.trans hF
      refine lv_aload_n hx hb d56_65 rfl (lv_at hl 0 rfl) ?_
      refine va_get (D := D) (ci := 2) (v := .ref (M 2)) (C := kR2) (T := kT2) (N := 60) hx hb hts ku2 hown hK (hm_one I.1 mm_hr) 0 rfl rfl 2 (by decide) (hts _ ms_k1318) (fun _ h => h) rfl d56_66 ?_
      refine lv_sipush (v := 128) hx hb d56_69 (by decide) ?_
      refine lv_iload_n hx hb d56_72 rfl (lv_at hl 2 rfl) ?_
      refine lv_imul hx hb d56_73 ?_
      refine lv_iconst (v := 1) hx hb d56_74 (by decide) ?_
      refine lv_iadd hx hb d56_75 ?_
      refine lv_iload_n hx hb d56_76 rfl (lv_at hl 1 rfl) ?_
      obtain ⟨i9, hF⟩ := mm_ix_some hF
      obtain ⟨st3, e9, hF⟩ := mm_lt_some hF
      refine mm_iast (k := 2) X I hM (by decide) 0 (fun _ => rfl) rfl i9 e9 d56_77 (fun H locs I => ?_)
      clear e9 i9
      refine lv_aload_n hx hb d56_78 rfl (lv_at hl 0 rfl) ?_
      refine va_get (D := D) (ci := 2) (v := .ref (M 2)) (C := kR2) (T := kT2) (N := 60) hx hb hts ku2 hown hK (hm_one I.1 mm_hr) 0 rfl rfl 2 (by decide) (hts _ ms_k1318) (fun _ h => h) rfl d56_79 ?_
      refine lv_sipush (v := 128) hx hb d56_82 (by decide) ?_
      refine lv_iload_n hx hb d56_85 rfl (lv_at hl 2 rfl) ?_
      refine lv_imul hx hb d56_86 ?_
      refine lv_iconst (v := 2) hx hb d56_87 (by decide) ?_
      refine lv_iadd hx hb d56_88 ?_
      refine lv_aload_n hx hb d56_89 rfl (lv_at hl 0 rfl) ?_
      refine va_get (D := D) (ci := 2) (v := .int (st3.1 14)) (C := kR2) (T := kT2) (N := 60) hx hb hts ku2 hown hK (hm_one I.1 mm_hr) 0 rfl rfl 14 (by decide) (hts _ ms_k1330) (fun _ h => h) rfl d56_90 ?_
      refine lv_if_le hx hb d56_93 rfl (fun h9 => ?_) (fun h9 => ?_)
      · have hF := (if_pos h9).symm.trans hF
        refine lv_iconst (v := (-1)) hx hb d56_110 (by decide) ?_
        exact b111 ls x2 (-1) ((128 * x2) + 2) st3 _ _ hF (hl.sub [2] rfl) I
      · have hF := (if_neg h9).symm.trans hF
        refine lv_aload_n hx hb d56_96 rfl (lv_at hl 0 rfl) ?_
        refine va_get (D := D) (ci := 2) (v := .ref (M 15)) (C := kR2) (T := kT2) (N := 60) hx hb hts ku2 hown hK (hm_one I.1 mm_hr) 0 rfl rfl 15 (by decide) (hts _ ms_k1331) (fun _ h => h) rfl d56_97 ?_
        refine lv_aload_n hx hb d56_100 rfl (lv_at hl 0 rfl) ?_
        refine va_get (D := D) (ci := 2) (v := .int (st3.1 14)) (C := kR2) (T := kT2) (N := 60) hx hb hts ku2 hown hK (hm_one I.1 mm_hr) 0 rfl rfl 14 (by decide) (hts _ ms_k1330) (fun _ h => h) rfl d56_101 ?_
        refine lv_iconst (v := 1) hx hb d56_104 (by decide) ?_
        refine lv_isub hx hb d56_105 ?_
        obtain ⟨v7, i9, e9, hF⟩ := mm_ld_some hF
        refine va_iald hx hb hK (hm_one I.1 (mm_a15 hM)) 0 0 rfl rfl i9 d56_106 ?_
        refine ms_top (y := v7) e9 ?_
        clear e9 i9
        refine lv_goto hx hb d56_107 rfl ?_
        exact b111 ls x2 v7 ((128 * x2) + 2) st3 _ _ hF (hl.sub [2] rfl) I
    · have hF := (if_neg h9).symm.trans hF
      refine lv_aload_n hx hb d56_46 rfl (lv_at hl 0 rfl) ?_
      refine va_get (D := D) (ci := 2) (v := .ref (M 2)) (C := kR2) (T := kT2) (N := 60) hx hb hts ku2 hown hK (hm_one I.1 mm_hr) 0 rfl rfl 2 (by decide) (hts _ ms_k1318) (fun _ h => h) rfl d56_47 ?_
      refine lv_sipush (v := 128) hx hb d56_50 (by decide) ?_
      refine lv_iload_n hx hb d56_53 rfl (lv_at hl 2 rfl) ?_
      refine lv_imul hx hb d56_54 ?_
      refine lv_iload_n hx hb d56_55 rfl (lv_at hl 3 rfl) ?_
      refine lv_iadd hx hb d56_56 ?_
      refine lv_iconst (v := 0) hx hb d56_57 (by decide) ?_
      obtain ⟨i9, hF⟩ := mm_ix_some hF
      obtain ⟨st8, e9, hF⟩ := mm_lt_some hF
      refine mm_iast (k := 2) X I hM (by decide) 0 (fun _ => rfl) rfl i9 e9 d56_58 (fun H locs I => ?_)
      clear e9 i9
      refine lv_iinc (k := 3) (v := (x3 + 1)) hx hb d56_59 hl rfl (rfl) (by decide) rfl (fun ls hl => ?_)
      have hl : lv_has ls 4 [(3, .int (x3 + 1)), (0, .ref r), (1, .int x1), (2, .int x2)] := hl
      refine lv_goto hx hb d56_62 rfl ?_
      exact hk39 ls x1 x2 (x3 + 1) st8 _ _ hF (hl.sub [1, 2, 3, 0] rfl) I
  have b26 : ∀ (ls : Array Slot) (x1 : Int32) (x2 : Int32) (w0 : Int32) (st : mT) (H : Heap) (locs : List Loc), g_make_26 x1 x2 w0 st = some q → lv_has ls 4 [(0, .ref r), (1, .int x1), (2, .int x2)] → hm_I D s0 s (mm_h dA h0 r M st) z0 H locs → W p l e { frames := 0, cells := 0, slots := 0, locals := 0 } s m ([.ref r, .int y1] : List Value).toArray below meth c H locs 0 0 (MQ below (ht_Q D s0 (fun vv h1 z1 => vv = some (.int q.1) ∧ h1 = mm_h dA h0 r M q.2 ∧ z1 = z0)) ([.ref r, .int y1] : List Value).toArray s 0 0 (fun q => s0.heap.size ≤ q)) (F0 m 26 ls [.int w0, .ref r]) := by
    intro ls x1 x2 w0 st H locs hF hl I
    unfold g_make_26 at hF
    obtain ⟨st2, e9, hF⟩ := mm_lt_some hF
    refine mm_put (k := 12) (ty := .int) X I (by decide) ms_k1328 rfl rfl (by decide +kernel) ⟨rfl, rfl⟩ rfl e9 d56_26 (fun H locs I => ?_)
    clear e9
    refine lv_iload_n hx hb d56_29 rfl (lv_at hl 2 rfl) ?_
    refine lv_bipush (v := 40) hx hb d56_30 (by decide) ?_
    refine lv_icmp_lt hx hb d56_32 rfl (fun h9 => ?_) (fun h9 => ?_)
    · have hF := (if_pos h9).symm.trans hF
      refine lv_iconst (v := 0) hx hb d56_37 (by decide) ?_
      refine lv_istore_n hx hb d56_38 rfl hl (by decide) rfl (fun ls hl => ?_)
      have hl : lv_has ls 4 [(3, .int 0), (0, .ref r), (1, .int x1), (2, .int x2)] := hl
      exact b39 mF ls x1 x2 0 st2 _ _ hF (hl.sub [1, 2, 3, 0] rfl) I
    · have hF := (if_neg h9).symm.trans hF
      refine lv_iload_n hx hb d56_35 rfl (lv_at hl 2 rfl) ?_
      exact ht_iret X d56_36 I (Nat.le_of_ble_eq_true rfl) (Nat.le_of_ble_eq_true rfl) (mm_fin hF)
  have hF := hg
  unfold g_make at hF
  refine lv_aload_n hx hb d56_0 rfl (lv_at hl 0 rfl) ?_
  refine va_get (D := D) (ci := 2) (v := .int (st.1 10)) (C := kR2) (T := kT2) (N := 60) hx hb hts ku2 hown hK (hm_one I.1 mm_hr) 0 rfl rfl 10 (by decide) (hts _ ms_k1326) (fun _ h => h) rfl d56_1 ?_
  refine lv_istore_n hx hb d56_4 rfl hl (by decide) rfl (fun ls hl => ?_)
  have hl : lv_has ls 4 [(2, .int (st.1 10)), (0, .ref r), (1, .int y1)] := hl
  refine lv_aload_n hx hb d56_5 rfl (lv_at hl 1 rfl) ?_
  refine lv_dup hx hb d56_6 rfl ?_
  refine va_get (D := D) (ci := 2) (v := .int (st.1 10)) (C := kR2) (T := kT2) (N := 60) hx hb hts ku2 hown hK (hm_one I.1 mm_hr) 0 rfl rfl 10 (by decide) (hts _ ms_k1326) (fun _ h => h) rfl d56_7 ?_
  refine lv_iconst (v := 1) hx hb d56_10 (by decide) ?_
  refine lv_iadd hx hb d56_11 ?_
  obtain ⟨st1, e9, hF⟩ := mm_lt_some hF
  refine mm_put (k := 10) (ty := .int) X I (by decide) ms_k1326 rfl rfl (by decide +kernel) ⟨rfl, rfl⟩ rfl e9 d56_12 (fun H locs I => ?_)
  clear e9
  refine lv_aload_n hx hb d56_15 rfl (lv_at hl 1 rfl) ?_
  refine lv_iload_n hx hb d56_16 rfl (lv_at hl 2 rfl) ?_
  refine lv_iconst (v := 2) hx hb d56_17 (by decide) ?_
  refine lv_icmp_ne hx hb d56_18 rfl (fun h9 => ?_) (fun h9 => ?_)
  · have hF := (if_neg h9).symm.trans hF
    refine lv_iconst (v := (-1)) hx hb d56_25 (by decide) ?_
    exact b26 ls y1 (st.1 10) (-1) st1 _ _ hF (hl.sub [1, 2, 0] rfl) I
  · have hF := (if_pos h9).symm.trans hF
    refine lv_iload_n hx hb d56_21 rfl (lv_at hl 0 rfl) ?_
    refine lv_goto hx hb d56_22 rfl ?_
    exact b26 ls y1 (st.1 10) (st.1 10) st1 _ _ hF (hl.sub [1, 2, 0] rfl) I

def g_append (y1 : Int32) (y2 : Int32) (y3 : Int32) (y4 : Int32) (st : mT) : Option (mT) := (if y1 < 40 then (mm_ld (st.2.1 2) 5120 ((128 * y1) + y2) (fun v1 => (if v1 < 20 then (mm_ix 5120 (((128 * y1) + y3) + v1) (fun j3 => mm_lt (mm_G st 2 j3 y4) (fun st2 => (mm_ix 5120 ((128 * y1) + y2) (fun j5 => mm_lt (mm_G st2 2 j5 (v1 + 1)) (fun st4 => (some st4))))))) else (mm_lt (mm_F st 11 1) (fun st6 => (some st6)))))) else (some st))
set_option maxRecDepth 100000 in
set_option maxHeartbeats 8000000 in
theorem cm_append (l : Launch) (D : va_G) (dA : Nat → ClassId) (s0 : State) (hE : ms_EV D dA s0) (h0 : hm_T) (r : Nat) (M : Nat → Nat) (hM : mm_ok r M) (z0 : hz_T) (y1 : Int32) (y2 : Int32) (y3 : Int32) (y4 : Int32) (st : mT) (q : mT) (hg : g_append y1 y2 y3 y4 st = some q) : ht_C l D s0 yM57 bM57 6 (Option.none : Option Jvm.ClassFile.FieldType) 0 0 0 0 [.ref r, .int y1, .int y2, .int y3, .int y4] (fun h z => h = mm_h dA h0 r M st ∧ z = z0) (fun h z vv h1 z1 => vv = none ∧ h1 = mm_h dA h0 r M q ∧ z1 = z0) := by
  refine ht_C.mk hE.1 (by decide) (Nat.le_of_ble_eq_true rfl) [(0, .ref r), (1, .int y1), (2, .int y2), (3, .int y3), (4, .int y4)] rfl ?_
  intro p e s m below meth c ls h z X hin hpre I hl
  have hx := X.1
  have hb := X.2.1
  have hml := X.2.2.1
  have hown : s.vm.findClass "MarkupStoreModel" = some m.cls := X.2.2.2.1
  have hts := X.2.2.2.2.2.2.1
  have hK := X.2.2.2.2.2.2.2.2.1
  rw [hpre.1, hpre.2] at I
  clear hpre
  have hF := hg
  unfold g_append at hF
  refine lv_iload_n hx hb d57_0 rfl (lv_at hl 1 rfl) ?_
  refine lv_bipush (v := 40) hx hb d57_1 (by decide) ?_
  refine lv_icmp_lt hx hb d57_3 rfl (fun h9 => ?_) (fun h9 => ?_)
  · have hF := (if_pos h9).symm.trans hF
    refine lv_aload_n hx hb d57_7 rfl (lv_at hl 0 rfl) ?_
    refine va_get (D := D) (ci := 2) (v := .ref (M 2)) (C := kR2) (T := kT2) (N := 60) hx hb hts ku2 hown hK (hm_one I.1 mm_hr) 0 rfl rfl 2 (by decide) (hts _ ms_k1318) (fun _ h => h) rfl d57_8 ?_
    refine lv_sipush (v := 128) hx hb d57_11 (by decide) ?_
    refine lv_iload_n hx hb d57_14 rfl (lv_at hl 1 rfl) ?_
    refine lv_imul hx hb d57_15 ?_
    refine lv_iload_n hx hb d57_16 rfl (lv_at hl 2 rfl) ?_
    refine lv_iadd hx hb d57_17 ?_
    obtain ⟨v1, i9, e9, hF⟩ := mm_ld_some hF
    refine va_iald hx hb hK (hm_one I.1 (mm_a2 hM)) 0 0 rfl rfl i9 d57_18 ?_
    refine ms_top (y := v1) e9 ?_
    clear e9 i9
    refine lv_istore hx hb d57_19 hl (by decide) rfl (fun ls hl => ?_)
    have hl : lv_has ls 6 [(5, .int v1), (0, .ref r), (1, .int y1), (2, .int y2), (3, .int y3), (4, .int y4)] := hl
    refine lv_iload hx hb d57_21 (lv_at hl 0 rfl) ?_
    refine lv_bipush (v := 20) hx hb d57_23 (by decide) ?_
    refine lv_icmp_lt hx hb d57_25 rfl (fun h9 => ?_) (fun h9 => ?_)
    · have hF := (if_pos h9).symm.trans hF
      refine lv_aload_n hx hb d57_34 rfl (lv_at hl 1 rfl) ?_
      refine va_get (D := D) (ci := 2) (v := .ref (M 2)) (C := kR2) (T := kT2) (N := 60) hx hb hts ku2 hown hK (hm_one I.1 mm_hr) 0 rfl rfl 2 (by decide) (hts _ ms_k1318) (fun _ h => h) rfl d57_35 ?_
      refine lv_sipush (v := 128) hx hb d57_38 (by decide) ?_
      refine lv_iload_n hx hb d57_41 rfl (lv_at hl 2 rfl) ?_
      refine lv_imul hx hb d57_42 ?_
      refine lv_iload_n hx hb d57_43 rfl (lv_at hl 4 rfl) ?_
      refine lv_iadd hx hb d57_44 ?_
      refine lv_iload hx hb d57_45 (lv_at hl 0 rfl) ?_
      refine lv_iadd hx hb d57_47 ?_
      refine lv_iload hx hb d57_48 (lv_at hl 5 rfl) ?_
      obtain ⟨i9, hF⟩ := mm_ix_some hF
      obtain ⟨st2, e9, hF⟩ := mm_lt_some hF
      refine mm_iast (k := 2) X I hM (by decide) 0 (fun _ => rfl) rfl i9 e9 d57_50 (fun H locs I => ?_)
      clear e9 i9
      refine lv_aload_n hx hb d57_51 rfl (lv_at hl 1 rfl) ?_
      refine va_get (D := D) (ci := 2) (v := .ref (M 2)) (C := kR2) (T := kT2) (N := 60) hx hb hts ku2 hown hK (hm_one I.1 mm_hr) 0 rfl rfl 2 (by decide) (hts _ ms_k1318) (fun _ h => h) rfl d57_52 ?_
      refine lv_sipush (v := 128) hx hb d57_55 (by decide) ?_
      refine lv_iload_n hx hb d57_58 rfl (lv_at hl 2 rfl) ?_
      refine lv_imul hx hb d57_59 ?_
      refine lv_iload_n hx hb d57_60 rfl (lv_at hl 3 rfl) ?_
      refine lv_iadd hx hb d57_61 ?_
      refine lv_iload hx hb d57_62 (lv_at hl 0 rfl) ?_
      refine lv_iconst (v := 1) hx hb d57_64 (by decide) ?_
      refine lv_iadd hx hb d57_65 ?_
      obtain ⟨i9, hF⟩ := mm_ix_some hF
      obtain ⟨st4, e9, hF⟩ := mm_lt_some hF
      refine mm_iast (k := 2) X I hM (by decide) 0 (fun _ => rfl) rfl i9 e9 d57_66 (fun H locs I => ?_)
      clear e9 i9
      exact ht_vret X d57_67 I (Nat.le_of_ble_eq_true rfl) (Nat.le_of_ble_eq_true rfl) (mm_finV hF)
    · have hF := (if_neg h9).symm.trans hF
      refine lv_aload_n hx hb d57_28 rfl (lv_at hl 1 rfl) ?_
      refine lv_iconst (v := 1) hx hb d57_29 (by decide) ?_
      obtain ⟨st6, e9, hF⟩ := mm_lt_some hF
      refine mm_put (k := 11) (ty := .boolean) X I (by decide) ms_k1327 rfl rfl (by decide +kernel) ⟨rfl, rfl⟩ rfl e9 d57_30 (fun H locs I => ?_)
      clear e9
      exact ht_vret X d57_33 I (Nat.le_of_ble_eq_true rfl) (Nat.le_of_ble_eq_true rfl) (mm_finV hF)
  · have hF := (if_neg h9).symm.trans hF
    exact ht_vret X d57_6 I (Nat.le_of_ble_eq_true rfl) (Nat.le_of_ble_eq_true rfl) (mm_finV hF)

def g_word_53 (st : mT) : Option (Int32 × mT) := (some (0, st))
def g_word_49 (st : mT) : Option (Int32 × mT) := (some (1, st))
def g_word (y1 : Int32) (y2 : Int32) (y3 : Int32) (y4 : Int32) (y5 : Int32) (st : mT) : Option (Int32 × mT) := ((g_look y1 st).bind (fun q1 => (if q1.1 = y2 then ((g_look (y1 + 1) q1.2).bind (fun q2 => (if q2.1 = y3 then ((g_look (y1 + 2) q2.2).bind (fun q3 => (if q3.1 = y4 then (if y5 = 0 then (g_word_49 q3.2) else ((g_look (y1 + 3) q3.2).bind (fun q4 => (if q4.1 = y5 then (g_word_49 q4.2) else (g_word_53 q4.2))))) else (g_word_53 q3.2)))) else (g_word_53 q2.2)))) else (g_word_53 q1.2))))
set_option maxRecDepth 100000 in
set_option maxHeartbeats 8000000 in
theorem cm_word (l : Launch) (D : va_G) (dA : Nat → ClassId) (s0 : State) (hE : ms_EV D dA s0) (h0 : hm_T) (r : Nat) (M : Nat → Nat) (hM : mm_ok r M) (z0 : hz_T) (y1 : Int32) (y2 : Int32) (y3 : Int32) (y4 : Int32) (y5 : Int32) (st : mT) (q : Int32 × mT) (hg : g_word y1 y2 y3 y4 y5 st = some q) : ht_C l D s0 yM58 bM58 6 (Option.some Jvm.ClassFile.FieldType.boolean) 1 21 0 0 [.ref r, .int y1, .int y2, .int y3, .int y4, .int y5] (fun h z => h = mm_h dA h0 r M st ∧ z = z0) (fun h z vv h1 z1 => vv = some (.int q.1) ∧ h1 = mm_h dA h0 r M q.2 ∧ z1 = z0) := by
  refine ht_C.mk hE.1 (by decide) (Nat.le_of_ble_eq_true rfl) [(0, .ref r), (1, .int y1), (2, .int y2), (3, .int y3), (4, .int y4), (5, .int y5)] rfl ?_
  intro p e s m below meth c ls h z X hin hpre I hl
  have hx := X.1
  have hb := X.2.1
  have hml := X.2.2.1
  have hown : s.vm.findClass "MarkupStoreModel" = some m.cls := X.2.2.2.1
  have hts := X.2.2.2.2.2.2.1
  have hK := X.2.2.2.2.2.2.2.2.1
  rw [hpre.1, hpre.2] at I
  clear hpre
  have b53 : ∀ (ls : Array Slot) (st : mT) (H : Heap) (locs : List Loc), g_word_53 st = some q → lv_has ls 6 [] → hm_I D s0 s (mm_h dA h0 r M st) z0 H locs → W p l e { frames := 1, cells := 0, slots := 0, locals := 21 } s m ([.ref r, .int y1, .int y2, .int y3, .int y4, .int y5] : List Value).toArray below meth c H locs 0 0 (MQ below (ht_Q D s0 (fun vv h1 z1 => vv = some (.int q.1) ∧ h1 = mm_h dA h0 r M q.2 ∧ z1 = z0)) ([.ref r, .int y1, .int y2, .int y3, .int y4, .int y5] : List Value).toArray s 0 0 (fun q => s0.heap.size ≤ q)) (F0 m 53 ls []) := by
    intro ls st H locs hF hl I
    unfold g_word_53 at hF
    refine lv_iconst (v := 0) hx hb d58_53 (by decide) ?_
    exact ht_zret X d58_54 I (Nat.le_of_ble_eq_true rfl) (Nat.le_of_ble_eq_true rfl) (mm_fin hF) rfl
  have b49 : ∀ (ls : Array Slot) (st : mT) (H : Heap) (locs : List Loc), g_word_49 st = some q → lv_has ls 6 [] → hm_I D s0 s (mm_h dA h0 r M st) z0 H locs → W p l e { frames := 1, cells := 0, slots := 0, locals := 21 } s m ([.ref r, .int y1, .int y2, .int y3, .int y4, .int y5] : List Value).toArray below meth c H locs 0 0 (MQ below (ht_Q D s0 (fun vv h1 z1 => vv = some (.int q.1) ∧ h1 = mm_h dA h0 r M q.2 ∧ z1 = z0)) ([.ref r, .int y1, .int y2, .int y3, .int y4, .int y5] : List Value).toArray s 0 0 (fun q => s0.heap.size ≤ q)) (F0 m 49 ls []) := by
    intro ls st H locs hF hl I
    unfold g_word_49 at hF
    refine lv_iconst (v := 1) hx hb d58_49 (by decide) ?_
    refine lv_goto hx hb d58_50 rfl ?_
    exact ht_zret X d58_54 I (Nat.le_of_ble_eq_true rfl) (Nat.le_of_ble_eq_true rfl) (mm_fin hF) rfl
  have hF := hg
  unfold g_word at hF
  refine lv_aload_n hx hb d58_0 rfl (lv_at hl 0 rfl) ?_
  refine lv_iload_n hx hb d58_1 rfl (lv_at hl 1 rfl) ?_
  obtain ⟨q1, e9, hF⟩ := mm_bd hF
  refine ht_V (C := "MarkupStoreModel") (rest := []) (as := [.int y1]) X hl (cm_look l D dA s0 hE h0 r M hM z0 y1 st q1 e9) (List.forall_mem_cons.mpr ⟨ms_k1516, List.forall_mem_cons.mpr ⟨ms_k1518, List.forall_mem_cons.mpr ⟨ms_p46, List.forall_mem_cons.mpr ⟨ms_k7, List.forall_mem_cons.mpr ⟨ms_k1519, fun _ h => absurd h List.not_mem_nil⟩⟩⟩⟩⟩) ⟨rfl, by decide +kernel, by decide +kernel, (by decide +kernel : (parseMethodDescriptor "(I)C").map (fun d => d.parameters.length) = some 1)⟩ (hm_recv hK I rfl mm_hr) I ⟨rfl, rfl⟩ ⟨⟨Nat.le_of_ble_eq_true rfl, Nat.le_of_ble_eq_true rfl⟩, Nat.le_of_ble_eq_true rfl, Nat.le_of_ble_eq_true rfl⟩ rfl (Nat.le_of_ble_eq_true rfl) d58_2 (fun vv h1 z1 H locs hR I9 => ?_)
  obtain ⟨e1, e2, e3⟩ := hR
  rw [e2, e3] at I9
  clear I e2 e3 e9
  have I := I9
  clear I9
  subst e1
  refine W.eq (g2 := F0 m 5 ls [.int q1.1]) rfl ?_
  refine lv_iload_n hx hb d58_5 rfl (lv_at hl 2 rfl) ?_
  refine lv_icmp_ne hx hb d58_6 rfl (fun h9 => ?_) (fun h9 => ?_)
  · have hF := (if_neg h9).symm.trans hF
    exact b53 ls q1.2 _ _ hF (hl.sub [] rfl) I
  · have hF := (if_pos h9).symm.trans hF
    refine lv_aload_n hx hb d58_9 rfl (lv_at hl 0 rfl) ?_
    refine lv_iload_n hx hb d58_10 rfl (lv_at hl 1 rfl) ?_
    refine lv_iconst (v := 1) hx hb d58_11 (by decide) ?_
    refine lv_iadd hx hb d58_12 ?_
    obtain ⟨q2, e9, hF⟩ := mm_bd hF
    refine ht_V (C := "MarkupStoreModel") (rest := []) (as := [.int (y1 + 1)]) X hl (cm_look l D dA s0 hE h0 r M hM z0 (y1 + 1) q1.2 q2 e9) (List.forall_mem_cons.mpr ⟨ms_k1516, List.forall_mem_cons.mpr ⟨ms_k1518, List.forall_mem_cons.mpr ⟨ms_p46, List.forall_mem_cons.mpr ⟨ms_k7, List.forall_mem_cons.mpr ⟨ms_k1519, fun _ h => absurd h List.not_mem_nil⟩⟩⟩⟩⟩) ⟨rfl, by decide +kernel, by decide +kernel, (by decide +kernel : (parseMethodDescriptor "(I)C").map (fun d => d.parameters.length) = some 1)⟩ (hm_recv hK I rfl mm_hr) I ⟨rfl, rfl⟩ ⟨⟨Nat.le_of_ble_eq_true rfl, Nat.le_of_ble_eq_true rfl⟩, Nat.le_of_ble_eq_true rfl, Nat.le_of_ble_eq_true rfl⟩ rfl (Nat.le_of_ble_eq_true rfl) d58_13 (fun vv h1 z1 H locs hR I9 => ?_)
    obtain ⟨e1, e2, e3⟩ := hR
    rw [e2, e3] at I9
    clear I e2 e3 e9
    have I := I9
    clear I9
    subst e1
    refine W.eq (g2 := F0 m 16 ls [.int q2.1]) rfl ?_
    refine lv_iload_n hx hb d58_16 rfl (lv_at hl 3 rfl) ?_
    refine lv_icmp_ne hx hb d58_17 rfl (fun h9 => ?_) (fun h9 => ?_)
    · have hF := (if_neg h9).symm.trans hF
      exact b53 ls q2.2 _ _ hF (hl.sub [] rfl) I
    · have hF := (if_pos h9).symm.trans hF
      refine lv_aload_n hx hb d58_20 rfl (lv_at hl 0 rfl) ?_
      refine lv_iload_n hx hb d58_21 rfl (lv_at hl 1 rfl) ?_
      refine lv_iconst (v := 2) hx hb d58_22 (by decide) ?_
      refine lv_iadd hx hb d58_23 ?_
      obtain ⟨q3, e9, hF⟩ := mm_bd hF
      refine ht_V (C := "MarkupStoreModel") (rest := []) (as := [.int (y1 + 2)]) X hl (cm_look l D dA s0 hE h0 r M hM z0 (y1 + 2) q2.2 q3 e9) (List.forall_mem_cons.mpr ⟨ms_k1516, List.forall_mem_cons.mpr ⟨ms_k1518, List.forall_mem_cons.mpr ⟨ms_p46, List.forall_mem_cons.mpr ⟨ms_k7, List.forall_mem_cons.mpr ⟨ms_k1519, fun _ h => absurd h List.not_mem_nil⟩⟩⟩⟩⟩) ⟨rfl, by decide +kernel, by decide +kernel, (by decide +kernel : (parseMethodDescriptor "(I)C").map (fun d => d.parameters.length) = some 1)⟩ (hm_recv hK I rfl mm_hr) I ⟨rfl, rfl⟩ ⟨⟨Nat.le_of_ble_eq_true rfl, Nat.le_of_ble_eq_true rfl⟩, Nat.le_of_ble_eq_true rfl, Nat.le_of_ble_eq_true rfl⟩ rfl (Nat.le_of_ble_eq_true rfl) d58_24 (fun vv h1 z1 H locs hR I9 => ?_)
      obtain ⟨e1, e2, e3⟩ := hR
      rw [e2, e3] at I9
      clear I e2 e3 e9
      have I := I9
      clear I9
      subst e1
      refine W.eq (g2 := F0 m 27 ls [.int q3.1]) rfl ?_
      refine lv_iload hx hb d58_27 (lv_at hl 4 rfl) ?_
      refine lv_icmp_ne hx hb d58_29 rfl (fun h9 => ?_) (fun h9 => ?_)
      · have hF := (if_neg h9).symm.trans hF
        exact b53 ls q3.2 _ _ hF (hl.sub [] rfl) I
      · have hF := (if_pos h9).symm.trans hF
        refine lv_iload hx hb d58_32 (lv_at hl 5 rfl) ?_
        refine lv_if_eq hx hb d58_34 rfl (fun h9 => ?_) (fun h9 => ?_)
        · have hF := (if_pos h9).symm.trans hF
          exact b49 ls q3.2 _ _ hF (hl.sub [] rfl) I
        · have hF := (if_neg h9).symm.trans hF
          refine lv_aload_n hx hb d58_37 rfl (lv_at hl 0 rfl) ?_
          refine lv_iload_n hx hb d58_38 rfl (lv_at hl 1 rfl) ?_
          refine lv_iconst (v := 3) hx hb d58_39 (by decide) ?_
          refine lv_iadd hx hb d58_40 ?_
          obtain ⟨q4, e9, hF⟩ := mm_bd hF
          refine ht_V (C := "MarkupStoreModel") (rest := []) (as := [.int (y1 + 3)]) X hl (cm_look l D dA s0 hE h0 r M hM z0 (y1 + 3) q3.2 q4 e9) (List.forall_mem_cons.mpr ⟨ms_k1516, List.forall_mem_cons.mpr ⟨ms_k1518, List.forall_mem_cons.mpr ⟨ms_p46, List.forall_mem_cons.mpr ⟨ms_k7, List.forall_mem_cons.mpr ⟨ms_k1519, fun _ h => absurd h List.not_mem_nil⟩⟩⟩⟩⟩) ⟨rfl, by decide +kernel, by decide +kernel, (by decide +kernel : (parseMethodDescriptor "(I)C").map (fun d => d.parameters.length) = some 1)⟩ (hm_recv hK I rfl mm_hr) I ⟨rfl, rfl⟩ ⟨⟨Nat.le_of_ble_eq_true rfl, Nat.le_of_ble_eq_true rfl⟩, Nat.le_of_ble_eq_true rfl, Nat.le_of_ble_eq_true rfl⟩ rfl (Nat.le_of_ble_eq_true rfl) d58_41 (fun vv h1 z1 H locs hR I9 => ?_)
          obtain ⟨e1, e2, e3⟩ := hR
          rw [e2, e3] at I9
          clear I e2 e3 e9
          have I := I9
          clear I9
          subst e1
          refine W.eq (g2 := F0 m 44 ls [.int q4.1]) rfl ?_
          refine lv_iload hx hb d58_44 (lv_at hl 5 rfl) ?_
          refine lv_icmp_ne hx hb d58_46 rfl (fun h9 => ?_) (fun h9 => ?_)
          · have hF := (if_neg h9).symm.trans hF
            exact b53 ls q4.2 _ _ hF (hl.sub [] rfl) I
          · have hF := (if_pos h9).symm.trans hF
            exact b49 ls q4.2 _ _ hF (hl.sub [] rfl) I

def g_isEntity_203 (w0 : Int32) (st : mT) : Option (Int32 × mT) := (mm_lt (mm_F st 19 w0) (fun st7 => (if (st7.1 19) ≤ 0 then (some (0, st7)) else (some (1, st7)))))
def g_isEntity_174 (st : mT) : Option (Int32 × mT) := (g_isEntity_203 4 st)
def g_isEntity_197 (st : mT) : Option (Int32 × mT) := (g_isEntity_203 6 st)
def g_isEntity_162 (x2 : Int32) (x3 : Int32) (x4 : Int32) (x5 : Int32) (x6 : Int32) (w0 : Int32) (st : mT) : Option (Int32 × mT) := (mm_lt (mm_F st 18 w0) (fun st6 => (if x2 = 0 then (if x3 = 0 then (if x4 = 0 then (if x5 = 0 then (if x6 = 0 then (g_isEntity_203 0 st6) else (g_isEntity_197 st6)) else (g_isEntity_197 st6)) else (g_isEntity_203 5 st6)) else (g_isEntity_174 st6)) else (g_isEntity_174 st6))))
def g_isEntity_119 (x2 : Int32) (x3 : Int32) (x4 : Int32) (x5 : Int32) (w0 : Int32) (st : mT) : Option (Int32 × mT) := (if x2 = 0 then (if x3 = 0 then (if x4 = 0 then (if x5 = 0 then (g_isEntity_162 x2 x3 x4 x5 w0 39 st) else (g_isEntity_162 x2 x3 x4 x5 w0 34 st)) else (g_isEntity_162 x2 x3 x4 x5 w0 38 st)) else (g_isEntity_162 x2 x3 x4 x5 w0 62 st)) else (g_isEntity_162 x2 x3 x4 x5 w0 60 st))
def g_isEntity_118 (x2 : Int32) (x3 : Int32) (x4 : Int32) (x5 : Int32) (st : mT) : Option (Int32 × mT) := (g_isEntity_119 x2 x3 x4 x5 0 st)
def g_isEntity_82 (x1 : Int32) (x2 : Int32) (x3 : Int32) (x4 : Int32) (w0 : Int32) (st : mT) : Option (Int32 × mT) := ((g_word (x1 + 1) 97 112 111 115 st).bind (fun q5 => (if q5.1 = 0 then (g_isEntity_118 x2 x3 x4 w0 q5.2) else ((g_look (x1 + 5) q5.2).bind (fun q8 => (if q8.1 = 59 then (g_isEntity_119 x2 x3 x4 w0 1 q8.2) else (g_isEntity_118 x2 x3 x4 w0 q8.2)))))))
def g_isEntity_81 (x1 : Int32) (x2 : Int32) (x3 : Int32) (x4 : Int32) (st : mT) : Option (Int32 × mT) := (g_isEntity_82 x1 x2 x3 x4 0 st)
def g_isEntity (y1 : Int32) (st : mT) : Option (Int32 × mT) := ((g_word (y1 + 1) 108 116 59 0 st).bind (fun q1 => ((g_word (y1 + 1) 103 116 59 0 q1.2).bind (fun q2 => ((g_word (y1 + 1) 97 109 112 59 q2.2).bind (fun q3 => ((g_word (y1 + 1) 113 117 111 116 q3.2).bind (fun q4 => (if q4.1 = 0 then (g_isEntity_81 y1 q1.1 q2.1 q3.1 q4.2) else ((g_look (y1 + 5) q4.2).bind (fun q9 => (if q9.1 = 59 then (g_isEntity_82 y1 q1.1 q2.1 q3.1 1 q9.2) else (g_isEntity_81 y1 q1.1 q2.1 q3.1 q9.2)))))))))))))
set_option maxRecDepth 100000 in
set_option maxHeartbeats 8000000 in
theorem cm_isEntity (l : Launch) (D : va_G) (dA : Nat → ClassId) (s0 : State) (hE : ms_EV D dA s0) (h0 : hm_T) (r : Nat) (M : Nat → Nat) (hM : mm_ok r M) (z0 : hz_T) (y1 : Int32) (st : mT) (q : Int32 × mT) (hg : g_isEntity y1 st = some q) : ht_C l D s0 yM59 bM59 7 (Option.some Jvm.ClassFile.FieldType.boolean) 2 46 0 0 [.ref r, .int y1] (fun h z => h = mm_h dA h0 r M st ∧ z = z0) (fun h z vv h1 z1 => vv = some (.int q.1) ∧ h1 = mm_h dA h0 r M q.2 ∧ z1 = z0) := by
  refine ht_C.mk hE.1 (by decide) (Nat.le_of_ble_eq_true rfl) [(0, .ref r), (1, .int y1)] rfl ?_
  intro p e s m below meth c ls h z X hin hpre I hl
  have hx := X.1
  have hb := X.2.1
  have hml := X.2.2.1
  have hown : s.vm.findClass "MarkupStoreModel" = some m.cls := X.2.2.2.1
  have hts := X.2.2.2.2.2.2.1
  have hK := X.2.2.2.2.2.2.2.2.1
  rw [hpre.1, hpre.2] at I
  clear hpre
  have b203 : ∀ (ls : Array Slot) (w0 : Int32) (st : mT) (H : Heap) (locs : List Loc), g_isEntity_203 w0 st = some q → lv_has ls 7 [(0, .ref r)] → hm_I D s0 s (mm_h dA h0 r M st) z0 H locs → W p l e { frames := 2, cells := 0, slots := 0, locals := 46 } s m ([.ref r, .int y1] : List Value).toArray below meth c H locs 0 0 (MQ below (ht_Q D s0 (fun vv h1 z1 => vv = some (.int q.1) ∧ h1 = mm_h dA h0 r M q.2 ∧ z1 = z0)) ([.ref r, .int y1] : List Value).toArray s 0 0 (fun q => s0.heap.size ≤ q)) (F0 m 203 ls [.int w0, .ref r]) := by
    intro ls w0 st H locs hF hl I
    unfold g_isEntity_203 at hF
    obtain ⟨st7, e9, hF⟩ := mm_lt_some hF
    refine mm_put (k := 19) (ty := .int) X I (by decide) ms_k1335 rfl rfl (by decide +kernel) ⟨rfl, rfl⟩ rfl e9 d59_203 (fun H locs I => ?_)
    clear e9
    refine lv_aload_n hx hb d59_206 rfl (lv_at hl 0 rfl) ?_
    refine va_get (D := D) (ci := 2) (v := .int (st7.1 19)) (C := kR2) (T := kT2) (N := 60) hx hb hts ku2 hown hK (hm_one I.1 mm_hr) 0 rfl rfl 19 (by decide) (hts _ ms_k1335) (fun _ h => h) rfl d59_207 ?_
    refine lv_if_le hx hb d59_210 rfl (fun h9 => ?_) (fun h9 => ?_)
    · have hF := (if_pos h9).symm.trans hF
      refine lv_iconst (v := 0) hx hb d59_217 (by decide) ?_
      exact ht_zret X d59_218 I (Nat.le_of_ble_eq_true rfl) (Nat.le_of_ble_eq_true rfl) (mm_fin hF) rfl
    · have hF := (if_neg h9).symm.trans hF
      refine lv_iconst (v := 1) hx hb d59_213 (by decide) ?_
      refine lv_goto hx hb d59_214 rfl ?_
      exact ht_zret X d59_218 I (Nat.le_of_ble_eq_true rfl) (Nat.le_of_ble_eq_true rfl) (mm_fin hF) rfl
  have b174 : ∀ (ls : Array Slot) (st : mT) (H : Heap) (locs : List Loc), g_isEntity_174 st = some q → lv_has ls 7 [(0, .ref r)] → hm_I D s0 s (mm_h dA h0 r M st) z0 H locs → W p l e { frames := 2, cells := 0, slots := 0, locals := 46 } s m ([.ref r, .int y1] : List Value).toArray below meth c H locs 0 0 (MQ below (ht_Q D s0 (fun vv h1 z1 => vv = some (.int q.1) ∧ h1 = mm_h dA h0 r M q.2 ∧ z1 = z0)) ([.ref r, .int y1] : List Value).toArray s 0 0 (fun q => s0.heap.size ≤ q)) (F0 m 174 ls [.ref r]) := by
    intro ls st H locs hF hl I
    unfold g_isEntity_174 at hF
    refine lv_iconst (v := 4) hx hb d59_174 (by decide) ?_
    refine lv_goto hx hb d59_175 rfl ?_
    exact b203 ls 4 st _ _ hF (hl.sub [0] rfl) I
  have b197 : ∀ (ls : Array Slot) (st : mT) (H : Heap) (locs : List Loc), g_isEntity_197 st = some q → lv_has ls 7 [(0, .ref r)] → hm_I D s0 s (mm_h dA h0 r M st) z0 H locs → W p l e { frames := 2, cells := 0, slots := 0, locals := 46 } s m ([.ref r, .int y1] : List Value).toArray below meth c H locs 0 0 (MQ below (ht_Q D s0 (fun vv h1 z1 => vv = some (.int q.1) ∧ h1 = mm_h dA h0 r M q.2 ∧ z1 = z0)) ([.ref r, .int y1] : List Value).toArray s 0 0 (fun q => s0.heap.size ≤ q)) (F0 m 197 ls [.ref r]) := by
    intro ls st H locs hF hl I
    unfold g_isEntity_197 at hF
    refine lv_bipush (v := 6) hx hb d59_197 (by decide) ?_
    refine lv_goto hx hb d59_199 rfl ?_
    exact b203 ls 6 st _ _ hF (hl.sub [0] rfl) I
  have b162 : ∀ (ls : Array Slot) (x2 : Int32) (x3 : Int32) (x4 : Int32) (x5 : Int32) (x6 : Int32) (w0 : Int32) (st : mT) (H : Heap) (locs : List Loc), g_isEntity_162 x2 x3 x4 x5 x6 w0 st = some q → lv_has ls 7 [(0, .ref r), (2, .int x2), (3, .int x3), (4, .int x4), (5, .int x5), (6, .int x6)] → hm_I D s0 s (mm_h dA h0 r M st) z0 H locs → W p l e { frames := 2, cells := 0, slots := 0, locals := 46 } s m ([.ref r, .int y1] : List Value).toArray below meth c H locs 0 0 (MQ below (ht_Q D s0 (fun vv h1 z1 => vv = some (.int q.1) ∧ h1 = mm_h dA h0 r M q.2 ∧ z1 = z0)) ([.ref r, .int y1] : List Value).toArray s 0 0 (fun q => s0.heap.size ≤ q)) (F0 m 162 ls [.int w0, .ref r]) := by
    intro ls x2 x3 x4 x5 x6 w0 st H locs hF hl I
    unfold g_isEntity_162 at hF
    obtain ⟨st6, e9, hF⟩ := mm_lt_some hF
    refine mm_put (k := 18) (ty := .int) X I (by decide) ms_k1334 rfl rfl (by decide +kernel) ⟨rfl, rfl⟩ rfl e9 d59_162 (fun H locs I => ?_)
    clear e9
    refine lv_aload_n hx hb d59_165 rfl (lv_at hl 0 rfl) ?_
    refine lv_iload_n hx hb d59_166 rfl (lv_at hl 1 rfl) ?_
    refine lv_if_ne hx hb d59_167 rfl (fun h9 => ?_) (fun h9 => ?_)
    · have hF := (if_neg h9).symm.trans hF
      exact b174 ls st6 _ _ hF (hl.sub [0] rfl) I
    · have hF := (if_pos h9).symm.trans hF
      refine lv_iload_n hx hb d59_170 rfl (lv_at hl 2 rfl) ?_
      refine lv_if_eq hx hb d59_171 rfl (fun h9 => ?_) (fun h9 => ?_)
      · have hF := (if_pos h9).symm.trans hF
        refine lv_iload hx hb d59_178 (lv_at hl 3 rfl) ?_
        refine lv_if_eq hx hb d59_180 rfl (fun h9 => ?_) (fun h9 => ?_)
        · have hF := (if_pos h9).symm.trans hF
          refine lv_iload hx hb d59_187 (lv_at hl 4 rfl) ?_
          refine lv_if_ne hx hb d59_189 rfl (fun h9 => ?_) (fun h9 => ?_)
          · have hF := (if_neg h9).symm.trans hF
            exact b197 ls st6 _ _ hF (hl.sub [0] rfl) I
          · have hF := (if_pos h9).symm.trans hF
            refine lv_iload hx hb d59_192 (lv_at hl 5 rfl) ?_
            refine lv_if_eq hx hb d59_194 rfl (fun h9 => ?_) (fun h9 => ?_)
            · have hF := (if_pos h9).symm.trans hF
              refine lv_iconst (v := 0) hx hb d59_202 (by decide) ?_
              exact b203 ls 0 st6 _ _ hF (hl.sub [0] rfl) I
            · have hF := (if_neg h9).symm.trans hF
              exact b197 ls st6 _ _ hF (hl.sub [0] rfl) I
        · have hF := (if_neg h9).symm.trans hF
          refine lv_iconst (v := 5) hx hb d59_183 (by decide) ?_
          refine lv_goto hx hb d59_184 rfl ?_
          exact b203 ls 5 st6 _ _ hF (hl.sub [0] rfl) I
      · have hF := (if_neg h9).symm.trans hF
        exact b174 ls st6 _ _ hF (hl.sub [0] rfl) I
  have b119 : ∀ (ls : Array Slot) (x2 : Int32) (x3 : Int32) (x4 : Int32) (x5 : Int32) (w0 : Int32) (st : mT) (H : Heap) (locs : List Loc), g_isEntity_119 x2 x3 x4 x5 w0 st = some q → lv_has ls 7 [(0, .ref r), (2, .int x2), (3, .int x3), (4, .int x4), (5, .int x5)] → hm_I D s0 s (mm_h dA h0 r M st) z0 H locs → W p l e { frames := 2, cells := 0, slots := 0, locals := 46 } s m ([.ref r, .int y1] : List Value).toArray below meth c H locs 0 0 (MQ below (ht_Q D s0 (fun vv h1 z1 => vv = some (.int q.1) ∧ h1 = mm_h dA h0 r M q.2 ∧ z1 = z0)) ([.ref r, .int y1] : List Value).toArray s 0 0 (fun q => s0.heap.size ≤ q)) (F0 m 119 ls [.int w0]) := by
    intro ls x2 x3 x4 x5 w0 st H locs hF hl I
    unfold g_isEntity_119 at hF
    refine lv_istore hx hb d59_119 hl (by decide) rfl (fun ls hl => ?_)
    have hl : lv_has ls 7 [(6, .int w0), (0, .ref r), (2, .int x2), (3, .int x3), (4, .int x4), (5, .int x5)] := hl
    refine lv_aload_n hx hb d59_121 rfl (lv_at hl 1 rfl) ?_
    refine lv_iload_n hx hb d59_122 rfl (lv_at hl 2 rfl) ?_
    refine lv_if_eq hx hb d59_123 rfl (fun h9 => ?_) (fun h9 => ?_)
    · have hF := (if_pos h9).symm.trans hF
      refine lv_iload_n hx hb d59_131 rfl (lv_at hl 3 rfl) ?_
      refine lv_if_eq hx hb d59_132 rfl (fun h9 => ?_) (fun h9 => ?_)
      · have hF := (if_pos h9).symm.trans hF
        refine lv_iload hx hb d59_140 (lv_at hl 4 rfl) ?_
        refine lv_if_eq hx hb d59_142 rfl (fun h9 => ?_) (fun h9 => ?_)
        · have hF := (if_pos h9).symm.trans hF
          refine lv_iload hx hb d59_150 (lv_at hl 5 rfl) ?_
          refine lv_if_eq hx hb d59_152 rfl (fun h9 => ?_) (fun h9 => ?_)
          · have hF := (if_pos h9).symm.trans hF
            refine lv_bipush (v := 39) hx hb d59_160 (by decide) ?_
            exact b162 ls x2 x3 x4 x5 w0 39 st _ _ hF (hl.sub [1, 2, 3, 4, 5, 0] rfl) I
          · have hF := (if_neg h9).symm.trans hF
            refine lv_bipush (v := 34) hx hb d59_155 (by decide) ?_
            refine lv_goto hx hb d59_157 rfl ?_
            exact b162 ls x2 x3 x4 x5 w0 34 st _ _ hF (hl.sub [1, 2, 3, 4, 5, 0] rfl) I
        · have hF := (if_neg h9).symm.trans hF
          refine lv_bipush (v := 38) hx hb d59_145 (by decide) ?_
          refine lv_goto hx hb d59_147 rfl ?_
          exact b162 ls x2 x3 x4 x5 w0 38 st _ _ hF (hl.sub [1, 2, 3, 4, 5, 0] rfl) I
      · have hF := (if_neg h9).symm.trans hF
        refine lv_bipush (v := 62) hx hb d59_135 (by decide) ?_
        refine lv_goto hx hb d59_137 rfl ?_
        exact b162 ls x2 x3 x4 x5 w0 62 st _ _ hF (hl.sub [1, 2, 3, 4, 5, 0] rfl) I
    · have hF := (if_neg h9).symm.trans hF
      refine lv_bipush (v := 60) hx hb d59_126 (by decide) ?_
      refine lv_goto hx hb d59_128 rfl ?_
      exact b162 ls x2 x3 x4 x5 w0 60 st _ _ hF (hl.sub [1, 2, 3, 4, 5, 0] rfl) I
  have b118 : ∀ (ls : Array Slot) (x2 : Int32) (x3 : Int32) (x4 : Int32) (x5 : Int32) (st : mT) (H : Heap) (locs : List Loc), g_isEntity_118 x2 x3 x4 x5 st = some q → lv_has ls 7 [(0, .ref r), (2, .int x2), (3, .int x3), (4, .int x4), (5, .int x5)] → hm_I D s0 s (mm_h dA h0 r M st) z0 H locs → W p l e { frames := 2, cells := 0, slots := 0, locals := 46 } s m ([.ref r, .int y1] : List Value).toArray below meth c H locs 0 0 (MQ below (ht_Q D s0 (fun vv h1 z1 => vv = some (.int q.1) ∧ h1 = mm_h dA h0 r M q.2 ∧ z1 = z0)) ([.ref r, .int y1] : List Value).toArray s 0 0 (fun q => s0.heap.size ≤ q)) (F0 m 118 ls []) := by
    intro ls x2 x3 x4 x5 st H locs hF hl I
    unfold g_isEntity_118 at hF
    refine lv_iconst (v := 0) hx hb d59_118 (by decide) ?_
    exact b119 ls x2 x3 x4 x5 0 st _ _ hF (hl.sub [0, 1, 2, 3, 4] rfl) I
  have b82 : ∀ (ls : Array Slot) (x1 : Int32) (x2 : Int32) (x3 : Int32) (x4 : Int32) (w0 : Int32) (st : mT) (H : Heap) (locs : List Loc), g_isEntity_82 x1 x2 x3 x4 w0 st = some q → lv_has ls 7 [(0, .ref r), (1, .int x1), (2, .int x2), (3, .int x3), (4, .int x4)] → hm_I D s0 s (mm_h dA h0 r M st) z0 H locs → W p l e { frames := 2, cells := 0, slots := 0, locals := 46 } s m ([.ref r, .int y1] : List Value).toArray below meth c H locs 0 0 (MQ below (ht_Q D s0 (fun vv h1 z1 => vv = some (.int q.1) ∧ h1 = mm_h dA h0 r M q.2 ∧ z1 = z0)) ([.ref r, .int y1] : List Value).toArray s 0 0 (fun q => s0.heap.size ≤ q)) (F0 m 82 ls [.int w0]) := by
    intro ls x1 x2 x3 x4 w0 st H locs hF hl I
    unfold g_isEntity_82 at hF
    refine lv_istore hx hb d59_82 hl (by decide) rfl (fun ls hl => ?_)
    have hl : lv_has ls 7 [(5, .int w0), (0, .ref r), (1, .int x1), (2, .int x2), (3, .int x3), (4, .int x4)] := hl
    refine lv_aload_n hx hb d59_84 rfl (lv_at hl 1 rfl) ?_
    refine lv_iload_n hx hb d59_85 rfl (lv_at hl 2 rfl) ?_
    refine lv_iconst (v := 1) hx hb d59_86 (by decide) ?_
    refine lv_iadd hx hb d59_87 ?_
    refine lv_bipush (v := 97) hx hb d59_88 (by decide) ?_
    refine lv_bipush (v := 112) hx hb d59_90 (by decide) ?_
    refine lv_bipush (v := 111) hx hb d59_92 (by decide) ?_
    refine lv_bipush (v := 115) hx hb d59_94 (by decide) ?_
    obtain ⟨q5, e9, hF⟩ := mm_bd hF
    refine ht_V (C := "MarkupStoreModel") (rest := []) (as := [.int (x1 + 1), .int 97, .int 112, .int 111, .int 115]) X hl (cm_word l D dA s0 hE h0 r M hM z0 (x1 + 1) 97 112 111 115 st q5 e9) (List.forall_mem_cons.mpr ⟨ms_k1559, List.forall_mem_cons.mpr ⟨ms_k1561, List.forall_mem_cons.mpr ⟨ms_p56, List.forall_mem_cons.mpr ⟨ms_k7, List.forall_mem_cons.mpr ⟨ms_k1562, fun _ h => absurd h List.not_mem_nil⟩⟩⟩⟩⟩) ⟨rfl, by decide +kernel, by decide +kernel, (by decide +kernel : (parseMethodDescriptor "(ICCCC)Z").map (fun d => d.parameters.length) = some 5)⟩ (hm_recv hK I rfl mm_hr) I ⟨rfl, rfl⟩ ⟨⟨Nat.le_of_ble_eq_true rfl, Nat.le_of_ble_eq_true rfl⟩, Nat.le_of_ble_eq_true rfl, Nat.le_of_ble_eq_true rfl⟩ rfl (Nat.le_of_ble_eq_true rfl) d59_96 (fun vv h1 z1 H locs hR I9 => ?_)
    obtain ⟨e1, e2, e3⟩ := hR
    rw [e2, e3] at I9
    clear I e2 e3 e9
    have I := I9
    clear I9
    subst e1
    refine W.eq (g2 := F0 m 99 ls [.int q5.1]) rfl ?_
    refine lv_if_eq hx hb d59_99 rfl (fun h9 => ?_) (fun h9 => ?_)
    · have hF := (if_pos h9).symm.trans hF
      exact b118 ls x2 x3 x4 w0 q5.2 _ _ hF (hl.sub [1, 3, 4, 5, 0] rfl) I
    · have hF := (if_neg h9).symm.trans hF
      refine lv_aload_n hx hb d59_102 rfl (lv_at hl 1 rfl) ?_
      refine lv_iload_n hx hb d59_103 rfl (lv_at hl 2 rfl) ?_
      refine lv_iconst (v := 5) hx hb d59_104 (by decide) ?_
      refine lv_iadd hx hb d59_105 ?_
      obtain ⟨q8, e9, hF⟩ := mm_bd hF
      refine ht_V (C := "MarkupStoreModel") (rest := []) (as := [.int (x1 + 5)]) X hl (cm_look l D dA s0 hE h0 r M hM z0 (x1 + 5) q5.2 q8 e9) (List.forall_mem_cons.mpr ⟨ms_k1516, List.forall_mem_cons.mpr ⟨ms_k1518, List.forall_mem_cons.mpr ⟨ms_p46, List.forall_mem_cons.mpr ⟨ms_k7, List.forall_mem_cons.mpr ⟨ms_k1519, fun _ h => absurd h List.not_mem_nil⟩⟩⟩⟩⟩) ⟨rfl, by decide +kernel, by decide +kernel, (by decide +kernel : (parseMethodDescriptor "(I)C").map (fun d => d.parameters.length) = some 1)⟩ (hm_recv hK I rfl mm_hr) I ⟨rfl, rfl⟩ ⟨⟨Nat.le_of_ble_eq_true rfl, Nat.le_of_ble_eq_true rfl⟩, Nat.le_of_ble_eq_true rfl, Nat.le_of_ble_eq_true rfl⟩ rfl (Nat.le_of_ble_eq_true rfl) d59_106 (fun vv h1 z1 H locs hR I9 => ?_)
      obtain ⟨e1, e2, e3⟩ := hR
      rw [e2, e3] at I9
      clear I e2 e3 e9
      have I := I9
      clear I9
      subst e1
      refine W.eq (g2 := F0 m 109 ls [.int q8.1]) rfl ?_
      refine lv_bipush (v := 59) hx hb d59_109 (by decide) ?_
      refine lv_icmp_ne hx hb d59_111 rfl (fun h9 => ?_) (fun h9 => ?_)
      · have hF := (if_neg h9).symm.trans hF
        exact b118 ls x2 x3 x4 w0 q8.2 _ _ hF (hl.sub [1, 3, 4, 5, 0] rfl) I
      · have hF := (if_pos h9).symm.trans hF
        refine lv_iconst (v := 1) hx hb d59_114 (by decide) ?_
        refine lv_goto hx hb d59_115 rfl ?_
        exact b119 ls x2 x3 x4 w0 1 q8.2 _ _ hF (hl.sub [1, 3, 4, 5, 0] rfl) I
  have b81 : ∀ (ls : Array Slot) (x1 : Int32) (x2 : Int32) (x3 : Int32) (x4 : Int32) (st : mT) (H : Heap) (locs : List Loc), g_isEntity_81 x1 x2 x3 x4 st = some q → lv_has ls 7 [(0, .ref r), (1, .int x1), (2, .int x2), (3, .int x3), (4, .int x4)] → hm_I D s0 s (mm_h dA h0 r M st) z0 H locs → W p l e { frames := 2, cells := 0, slots := 0, locals := 46 } s m ([.ref r, .int y1] : List Value).toArray below meth c H locs 0 0 (MQ below (ht_Q D s0 (fun vv h1 z1 => vv = some (.int q.1) ∧ h1 = mm_h dA h0 r M q.2 ∧ z1 = z0)) ([.ref r, .int y1] : List Value).toArray s 0 0 (fun q => s0.heap.size ≤ q)) (F0 m 81 ls []) := by
    intro ls x1 x2 x3 x4 st H locs hF hl I
    unfold g_isEntity_81 at hF
    refine lv_iconst (v := 0) hx hb d59_81 (by decide) ?_
    exact b82 ls x1 x2 x3 x4 0 st _ _ hF (hl.sub [0, 1, 2, 3, 4] rfl) I
  have hF := hg
  unfold g_isEntity at hF
  refine lv_aload_n hx hb d59_0 rfl (lv_at hl 0 rfl) ?_
  refine lv_iload_n hx hb d59_1 rfl (lv_at hl 1 rfl) ?_
  refine lv_iconst (v := 1) hx hb d59_2 (by decide) ?_
  refine lv_iadd hx hb d59_3 ?_
  refine lv_bipush (v := 108) hx hb d59_4 (by decide) ?_
  refine lv_bipush (v := 116) hx hb d59_6 (by decide) ?_
  refine lv_bipush (v := 59) hx hb d59_8 (by decide) ?_
  refine lv_iconst (v := 0) hx hb d59_10 (by decide) ?_
  obtain ⟨q1, e9, hF⟩ := mm_bd hF
  refine ht_V (C := "MarkupStoreModel") (rest := []) (as := [.int (y1 + 1), .int 108, .int 116, .int 59, .int 0]) X hl (cm_word l D dA s0 hE h0 r M hM z0 (y1 + 1) 108 116 59 0 st q1 e9) (List.forall_mem_cons.mpr ⟨ms_k1559, List.forall_mem_cons.mpr ⟨ms_k1561, List.forall_mem_cons.mpr ⟨ms_p56, List.forall_mem_cons.mpr ⟨ms_k7, List.forall_mem_cons.mpr ⟨ms_k1562, fun _ h => absurd h List.not_mem_nil⟩⟩⟩⟩⟩) ⟨rfl, by decide +kernel, by decide +kernel, (by decide +kernel : (parseMethodDescriptor "(ICCCC)Z").map (fun d => d.parameters.length) = some 5)⟩ (hm_recv hK I rfl mm_hr) I ⟨rfl, rfl⟩ ⟨⟨Nat.le_of_ble_eq_true rfl, Nat.le_of_ble_eq_true rfl⟩, Nat.le_of_ble_eq_true rfl, Nat.le_of_ble_eq_true rfl⟩ rfl (Nat.le_of_ble_eq_true rfl) d59_11 (fun vv h1 z1 H locs hR I9 => ?_)
  obtain ⟨e1, e2, e3⟩ := hR
  rw [e2, e3] at I9
  clear I e2 e3 e9
  have I := I9
  clear I9
  subst e1
  refine W.eq (g2 := F0 m 14 ls [.int q1.1]) rfl ?_
  refine lv_istore_n hx hb d59_14 rfl hl (by decide) rfl (fun ls hl => ?_)
  have hl : lv_has ls 7 [(2, .int q1.1), (0, .ref r), (1, .int y1)] := hl
  refine lv_aload_n hx hb d59_15 rfl (lv_at hl 1 rfl) ?_
  refine lv_iload_n hx hb d59_16 rfl (lv_at hl 2 rfl) ?_
  refine lv_iconst (v := 1) hx hb d59_17 (by decide) ?_
  refine lv_iadd hx hb d59_18 ?_
  refine lv_bipush (v := 103) hx hb d59_19 (by decide) ?_
  refine lv_bipush (v := 116) hx hb d59_21 (by decide) ?_
  refine lv_bipush (v := 59) hx hb d59_23 (by decide) ?_
  refine lv_iconst (v := 0) hx hb d59_25 (by decide) ?_
  obtain ⟨q2, e9, hF⟩ := mm_bd hF
  refine ht_V (C := "MarkupStoreModel") (rest := []) (as := [.int (y1 + 1), .int 103, .int 116, .int 59, .int 0]) X hl (cm_word l D dA s0 hE h0 r M hM z0 (y1 + 1) 103 116 59 0 q1.2 q2 e9) (List.forall_mem_cons.mpr ⟨ms_k1559, List.forall_mem_cons.mpr ⟨ms_k1561, List.forall_mem_cons.mpr ⟨ms_p56, List.forall_mem_cons.mpr ⟨ms_k7, List.forall_mem_cons.mpr ⟨ms_k1562, fun _ h => absurd h List.not_mem_nil⟩⟩⟩⟩⟩) ⟨rfl, by decide +kernel, by decide +kernel, (by decide +kernel : (parseMethodDescriptor "(ICCCC)Z").map (fun d => d.parameters.length) = some 5)⟩ (hm_recv hK I rfl mm_hr) I ⟨rfl, rfl⟩ ⟨⟨Nat.le_of_ble_eq_true rfl, Nat.le_of_ble_eq_true rfl⟩, Nat.le_of_ble_eq_true rfl, Nat.le_of_ble_eq_true rfl⟩ rfl (Nat.le_of_ble_eq_true rfl) d59_26 (fun vv h1 z1 H locs hR I9 => ?_)
  obtain ⟨e1, e2, e3⟩ := hR
  rw [e2, e3] at I9
  clear I e2 e3 e9
  have I := I9
  clear I9
  subst e1
  refine W.eq (g2 := F0 m 29 ls [.int q2.1]) rfl ?_
  refine lv_istore_n hx hb d59_29 rfl hl (by decide) rfl (fun ls hl => ?_)
  have hl : lv_has ls 7 [(3, .int q2.1), (2, .int q1.1), (0, .ref r), (1, .int y1)] := hl
  refine lv_aload_n hx hb d59_30 rfl (lv_at hl 2 rfl) ?_
  refine lv_iload_n hx hb d59_31 rfl (lv_at hl 3 rfl) ?_
  refine lv_iconst (v := 1) hx hb d59_32 (by decide) ?_
  refine lv_iadd hx hb d59_33 ?_
  refine lv_bipush (v := 97) hx hb d59_34 (by decide) ?_
  refine lv_bipush (v := 109) hx hb d59_36 (by decide) ?_
  refine lv_bipush (v := 112) hx hb d59_38 (by decide) ?_
  refine lv_bipush (v := 59) hx hb d59_40 (by decide) ?_
  obtain ⟨q3, e9, hF⟩ := mm_bd hF
  refine ht_V (C := "MarkupStoreModel") (rest := []) (as := [.int (y1 + 1), .int 97, .int 109, .int 112, .int 59]) X hl (cm_word l D dA s0 hE h0 r M hM z0 (y1 + 1) 97 109 112 59 q2.2 q3 e9) (List.forall_mem_cons.mpr ⟨ms_k1559, List.forall_mem_cons.mpr ⟨ms_k1561, List.forall_mem_cons.mpr ⟨ms_p56, List.forall_mem_cons.mpr ⟨ms_k7, List.forall_mem_cons.mpr ⟨ms_k1562, fun _ h => absurd h List.not_mem_nil⟩⟩⟩⟩⟩) ⟨rfl, by decide +kernel, by decide +kernel, (by decide +kernel : (parseMethodDescriptor "(ICCCC)Z").map (fun d => d.parameters.length) = some 5)⟩ (hm_recv hK I rfl mm_hr) I ⟨rfl, rfl⟩ ⟨⟨Nat.le_of_ble_eq_true rfl, Nat.le_of_ble_eq_true rfl⟩, Nat.le_of_ble_eq_true rfl, Nat.le_of_ble_eq_true rfl⟩ rfl (Nat.le_of_ble_eq_true rfl) d59_42 (fun vv h1 z1 H locs hR I9 => ?_)
  obtain ⟨e1, e2, e3⟩ := hR
  rw [e2, e3] at I9
  clear I e2 e3 e9
  have I := I9
  clear I9
  subst e1
  refine W.eq (g2 := F0 m 45 ls [.int q3.1]) rfl ?_
  refine lv_istore hx hb d59_45 hl (by decide) rfl (fun ls hl => ?_)
  have hl : lv_has ls 7 [(4, .int q3.1), (3, .int q2.1), (2, .int q1.1), (0, .ref r), (1, .int y1)] := hl
  refine lv_aload_n hx hb d59_47 rfl (lv_at hl 3 rfl) ?_
  refine lv_iload_n hx hb d59_48 rfl (lv_at hl 4 rfl) ?_
  refine lv_iconst (v := 1) hx hb d59_49 (by decide) ?_
  refine lv_iadd hx hb d59_50 ?_
  refine lv_bipush (v := 113) hx hb d59_51 (by decide) ?_
  refine lv_bipush (v := 117) hx hb d59_53 (by decide) ?_
  refine lv_bipush (v := 111) hx hb d59_55 (by decide) ?_
  refine lv_bipush (v := 116) hx hb d59_57 (by decide) ?_
  obtain ⟨q4, e9, hF⟩ := mm_bd hF
  refine ht_V (C := "MarkupStoreModel") (rest := []) (as := [.int (y1 + 1), .int 113, .int 117, .int 111, .int 116]) X hl (cm_word l D dA s0 hE h0 r M hM z0 (y1 + 1) 113 117 111 116 q3.2 q4 e9) (List.forall_mem_cons.mpr ⟨ms_k1559, List.forall_mem_cons.mpr ⟨ms_k1561, List.forall_mem_cons.mpr ⟨ms_p56, List.forall_mem_cons.mpr ⟨ms_k7, List.forall_mem_cons.mpr ⟨ms_k1562, fun _ h => absurd h List.not_mem_nil⟩⟩⟩⟩⟩) ⟨rfl, by decide +kernel, by decide +kernel, (by decide +kernel : (parseMethodDescriptor "(ICCCC)Z").map (fun d => d.parameters.length) = some 5)⟩ (hm_recv hK I rfl mm_hr) I ⟨rfl, rfl⟩ ⟨⟨Nat.le_of_ble_eq_true rfl, Nat.le_of_ble_eq_true rfl⟩, Nat.le_of_ble_eq_true rfl, Nat.le_of_ble_eq_true rfl⟩ rfl (Nat.le_of_ble_eq_true rfl) d59_59 (fun vv h1 z1 H locs hR I9 => ?_)
  obtain ⟨e1, e2, e3⟩ := hR
  rw [e2, e3] at I9
  clear I e2 e3 e9
  have I := I9
  clear I9
  subst e1
  refine W.eq (g2 := F0 m 62 ls [.int q4.1]) rfl ?_
  refine lv_if_eq hx hb d59_62 rfl (fun h9 => ?_) (fun h9 => ?_)
  · have hF := (if_pos h9).symm.trans hF
    exact b81 ls y1 q1.1 q2.1 q3.1 q4.2 _ _ hF (hl.sub [3, 4, 2, 1, 0] rfl) I
  · have hF := (if_neg h9).symm.trans hF
    refine lv_aload_n hx hb d59_65 rfl (lv_at hl 3 rfl) ?_
    refine lv_iload_n hx hb d59_66 rfl (lv_at hl 4 rfl) ?_
    refine lv_iconst (v := 5) hx hb d59_67 (by decide) ?_
    refine lv_iadd hx hb d59_68 ?_
    obtain ⟨q9, e9, hF⟩ := mm_bd hF
    refine ht_V (C := "MarkupStoreModel") (rest := []) (as := [.int (y1 + 5)]) X hl (cm_look l D dA s0 hE h0 r M hM z0 (y1 + 5) q4.2 q9 e9) (List.forall_mem_cons.mpr ⟨ms_k1516, List.forall_mem_cons.mpr ⟨ms_k1518, List.forall_mem_cons.mpr ⟨ms_p46, List.forall_mem_cons.mpr ⟨ms_k7, List.forall_mem_cons.mpr ⟨ms_k1519, fun _ h => absurd h List.not_mem_nil⟩⟩⟩⟩⟩) ⟨rfl, by decide +kernel, by decide +kernel, (by decide +kernel : (parseMethodDescriptor "(I)C").map (fun d => d.parameters.length) = some 1)⟩ (hm_recv hK I rfl mm_hr) I ⟨rfl, rfl⟩ ⟨⟨Nat.le_of_ble_eq_true rfl, Nat.le_of_ble_eq_true rfl⟩, Nat.le_of_ble_eq_true rfl, Nat.le_of_ble_eq_true rfl⟩ rfl (Nat.le_of_ble_eq_true rfl) d59_69 (fun vv h1 z1 H locs hR I9 => ?_)
    obtain ⟨e1, e2, e3⟩ := hR
    rw [e2, e3] at I9
    clear I e2 e3 e9
    have I := I9
    clear I9
    subst e1
    refine W.eq (g2 := F0 m 72 ls [.int q9.1]) rfl ?_
    refine lv_bipush (v := 59) hx hb d59_72 (by decide) ?_
    refine lv_icmp_ne hx hb d59_74 rfl (fun h9 => ?_) (fun h9 => ?_)
    · have hF := (if_neg h9).symm.trans hF
      exact b81 ls y1 q1.1 q2.1 q3.1 q9.2 _ _ hF (hl.sub [3, 4, 2, 1, 0] rfl) I
    · have hF := (if_pos h9).symm.trans hF
      refine lv_iconst (v := 1) hx hb d59_77 (by decide) ?_
      refine lv_goto hx hb d59_78 rfl ?_
      exact b82 ls y1 q1.1 q2.1 q3.1 1 q9.2 _ _ hF (hl.sub [3, 4, 2, 1, 0] rfl) I

def g_twice_79 (k3 : Int32 → Int32 → Int32 → Int32 → mT → Option (Int32 × mT)) (x1 : Int32) (x2 : Int32) (x3 : Int32) (x4 : Int32) (x5 : Int32) (st : mT) : Option (Int32 × mT) := (if x5 = 0 then (k3 x1 x2 x3 (x4 + 1) st) else (some (1, st)))
def g_twice_71 (k3 : Int32 → Int32 → Int32 → Int32 → mT → Option (Int32 × mT)) (k30 : Int32 → Int32 → Int32 → Int32 → Int32 → Int32 → mT → Option (Int32 × mT)) (x1 : Int32) (x2 : Int32) (x3 : Int32) (x4 : Int32) (x6 : Int32) (w0 : Int32) (st : mT) : Option (Int32 × mT) := (k30 x1 x2 x3 x4 w0 (x6 + 1) st)
def g_twice_30 (k3 : Int32 → Int32 → Int32 → Int32 → mT → Option (Int32 × mT)) : Nat → Int32 → Int32 → Int32 → Int32 → Int32 → Int32 → mT → Option (Int32 × mT)
  | 0, _, _, _, _, _, _, _ => none
  | n9 + 1, x1, x2, x3, x4, x5, x6, st => (if x3 ≤ x6 then (g_twice_79 k3 x1 x2 x3 x4 x5 st) else (if x5 = 0 then (g_twice_79 k3 x1 x2 x3 x4 x5 st) else (mm_ld (st.2.1 20) 30 x4 (fun v2 => ((g_look (v2 + x6) st).bind (fun q3 => ((g_look (x2 + x6) q3.2).bind (fun q4 => (if q3.1 = q4.1 then (g_twice_71 k3 (g_twice_30 k3 n9) x1 x2 x3 x4 x6 1 q4.2) else (g_twice_71 k3 (g_twice_30 k3 n9) x1 x2 x3 x4 x6 0 q4.2))))))))))
def g_twice_25 (k3 : Int32 → Int32 → Int32 → Int32 → mT → Option (Int32 × mT)) (x1 : Int32) (x2 : Int32) (x3 : Int32) (x4 : Int32) (w0 : Int32) (st : mT) : Option (Int32 × mT) := (g_twice_30 k3 mF x1 x2 x3 x4 w0 0 st)
def g_twice_3 : Nat → Int32 → Int32 → Int32 → Int32 → mT → Option (Int32 × mT)
  | 0, _, _, _, _, _ => none
  | n9 + 1, x1, x2, x3, x4, st => (if x1 ≤ x4 then (some (0, st)) else (mm_ld (st.2.1 21) 30 x4 (fun v1 => (if v1 = x3 then (g_twice_25 (g_twice_3 n9) x1 x2 x3 x4 1 st) else (g_twice_25 (g_twice_3 n9) x1 x2 x3 x4 0 st)))))
def g_twice (y1 : Int32) (y2 : Int32) (y3 : Int32) (st : mT) : Option (Int32 × mT) := (g_twice_3 mF y1 y2 y3 0 st)
set_option maxRecDepth 100000 in
set_option maxHeartbeats 8000000 in
theorem cm_twice (l : Launch) (D : va_G) (dA : Nat → ClassId) (s0 : State) (hE : ms_EV D dA s0) (h0 : hm_T) (r : Nat) (M : Nat → Nat) (hM : mm_ok r M) (z0 : hz_T) (y1 : Int32) (y2 : Int32) (y3 : Int32) (st : mT) (q : Int32 × mT) (hg : g_twice y1 y2 y3 st = some q) : ht_C l D s0 yM60 bM60 7 (Option.some Jvm.ClassFile.FieldType.boolean) 1 21 0 0 [.ref r, .int y1, .int y2, .int y3] (fun h z => h = mm_h dA h0 r M st ∧ z = z0) (fun h z vv h1 z1 => vv = some (.int q.1) ∧ h1 = mm_h dA h0 r M q.2 ∧ z1 = z0) := by
  refine ht_C.mk hE.1 (by decide) (Nat.le_of_ble_eq_true rfl) [(0, .ref r), (1, .int y1), (2, .int y2), (3, .int y3)] rfl ?_
  intro p e s m below meth c ls h z X hin hpre I hl
  have hx := X.1
  have hb := X.2.1
  have hml := X.2.2.1
  have hown : s.vm.findClass "MarkupStoreModel" = some m.cls := X.2.2.2.1
  have hts := X.2.2.2.2.2.2.1
  have hK := X.2.2.2.2.2.2.2.2.1
  rw [hpre.1, hpre.2] at I
  clear hpre
  have b79 : ∀ (k3 : Int32 → Int32 → Int32 → Int32 → mT → Option (Int32 × mT)), (∀ (ls : Array Slot) (x1 : Int32) (x2 : Int32) (x3 : Int32) (x4 : Int32) (st : mT) (H : Heap) (locs : List Loc), k3 x1 x2 x3 x4 st = some q → lv_has ls 7 [(0, .ref r), (1, .int x1), (2, .int x2), (3, .int x3), (4, .int x4)] → hm_I D s0 s (mm_h dA h0 r M st) z0 H locs → W p l e { frames := 1, cells := 0, slots := 0, locals := 21 } s m ([.ref r, .int y1, .int y2, .int y3] : List Value).toArray below meth c H locs 0 0 (MQ below (ht_Q D s0 (fun vv h1 z1 => vv = some (.int q.1) ∧ h1 = mm_h dA h0 r M q.2 ∧ z1 = z0)) ([.ref r, .int y1, .int y2, .int y3] : List Value).toArray s 0 0 (fun q => s0.heap.size ≤ q)) (F0 m 3 ls [])) → ∀ (ls : Array Slot) (x1 : Int32) (x2 : Int32) (x3 : Int32) (x4 : Int32) (x5 : Int32) (st : mT) (H : Heap) (locs : List Loc), g_twice_79 k3 x1 x2 x3 x4 x5 st = some q → lv_has ls 7 [(0, .ref r), (1, .int x1), (2, .int x2), (3, .int x3), (4, .int x4), (5, .int x5)] → hm_I D s0 s (mm_h dA h0 r M st) z0 H locs → W p l e { frames := 1, cells := 0, slots := 0, locals := 21 } s m ([.ref r, .int y1, .int y2, .int y3] : List Value).toArray below meth c H locs 0 0 (MQ below (ht_Q D s0 (fun vv h1 z1 => vv = some (.int q.1) ∧ h1 = mm_h dA h0 r M q.2 ∧ z1 = z0)) ([.ref r, .int y1, .int y2, .int y3] : List Value).toArray s 0 0 (fun q => s0.heap.size ≤ q)) (F0 m 79 ls []) := by
    intro k3 hk3 ls x1 x2 x3 x4 x5 st H locs hF hl I
    unfold g_twice_79 at hF
    refine lv_iload hx hb d60_79 (lv_at hl 5 rfl) ?_
    refine lv_if_eq hx hb d60_81 rfl (fun h9 => ?_) (fun h9 => ?_)
    · have hF := (if_pos h9).symm.trans hF
      refine lv_iinc (k := 4) (v := (x4 + 1)) hx hb d60_86 hl rfl (rfl) (by decide) rfl (fun ls hl => ?_)
      have hl : lv_has ls 7 [(4, .int (x4 + 1)), (0, .ref r), (1, .int x1), (2, .int x2), (3, .int x3), (5, .int x5)] := hl
      refine lv_goto hx hb d60_89 rfl ?_
      exact hk3 ls x1 x2 x3 (x4 + 1) st _ _ hF (hl.sub [1, 2, 3, 4, 0] rfl) I
    · have hF := (if_neg h9).symm.trans hF
      refine lv_iconst (v := 1) hx hb d60_84 (by decide) ?_
      exact ht_zret X d60_85 I (Nat.le_of_ble_eq_true rfl) (Nat.le_of_ble_eq_true rfl) (mm_fin hF) rfl
  have b71 : ∀ (k3 : Int32 → Int32 → Int32 → Int32 → mT → Option (Int32 × mT)), (∀ (ls : Array Slot) (x1 : Int32) (x2 : Int32) (x3 : Int32) (x4 : Int32) (st : mT) (H : Heap) (locs : List Loc), k3 x1 x2 x3 x4 st = some q → lv_has ls 7 [(0, .ref r), (1, .int x1), (2, .int x2), (3, .int x3), (4, .int x4)] → hm_I D s0 s (mm_h dA h0 r M st) z0 H locs → W p l e { frames := 1, cells := 0, slots := 0, locals := 21 } s m ([.ref r, .int y1, .int y2, .int y3] : List Value).toArray below meth c H locs 0 0 (MQ below (ht_Q D s0 (fun vv h1 z1 => vv = some (.int q.1) ∧ h1 = mm_h dA h0 r M q.2 ∧ z1 = z0)) ([.ref r, .int y1, .int y2, .int y3] : List Value).toArray s 0 0 (fun q => s0.heap.size ≤ q)) (F0 m 3 ls [])) → ∀ (k30 : Int32 → Int32 → Int32 → Int32 → Int32 → Int32 → mT → Option (Int32 × mT)), (∀ (ls : Array Slot) (x1 : Int32) (x2 : Int32) (x3 : Int32) (x4 : Int32) (x5 : Int32) (x6 : Int32) (st : mT) (H : Heap) (locs : List Loc), k30 x1 x2 x3 x4 x5 x6 st = some q → lv_has ls 7 [(0, .ref r), (1, .int x1), (2, .int x2), (3, .int x3), (4, .int x4), (5, .int x5), (6, .int x6)] → hm_I D s0 s (mm_h dA h0 r M st) z0 H locs → W p l e { frames := 1, cells := 0, slots := 0, locals := 21 } s m ([.ref r, .int y1, .int y2, .int y3] : List Value).toArray below meth c H locs 0 0 (MQ below (ht_Q D s0 (fun vv h1 z1 => vv = some (.int q.1) ∧ h1 = mm_h dA h0 r M q.2 ∧ z1 = z0)) ([.ref r, .int y1, .int y2, .int y3] : List Value).toArray s 0 0 (fun q => s0.heap.size ≤ q)) (F0 m 30 ls [])) → ∀ (ls : Array Slot) (x1 : Int32) (x2 : Int32) (x3 : Int32) (x4 : Int32) (x6 : Int32) (w0 : Int32) (st : mT) (H : Heap) (locs : List Loc), g_twice_71 k3 k30 x1 x2 x3 x4 x6 w0 st = some q → lv_has ls 7 [(0, .ref r), (1, .int x1), (2, .int x2), (3, .int x3), (4, .int x4), (6, .int x6)] → hm_I D s0 s (mm_h dA h0 r M st) z0 H locs → W p l e { frames := 1, cells := 0, slots := 0, locals := 21 } s m ([.ref r, .int y1, .int y2, .int y3] : List Value).toArray below meth c H locs 0 0 (MQ below (ht_Q D s0 (fun vv h1 z1 => vv = some (.int q.1) ∧ h1 = mm_h dA h0 r M q.2 ∧ z1 = z0)) ([.ref r, .int y1, .int y2, .int y3] : List Value).toArray s 0 0 (fun q => s0.heap.size ≤ q)) (F0 m 71 ls [.int w0]) := by
    intro k3 hk3 k30 hk30 ls x1 x2 x3 x4 x6 w0 st H locs hF hl I
    unfold g_twice_71 at hF
    refine lv_istore hx hb d60_71 hl (by decide) rfl (fun ls hl => ?_)
    have hl : lv_has ls 7 [(5, .int w0), (0, .ref r), (1, .int x1), (2, .int x2), (3, .int x3), (4, .int x4), (6, .int x6)] := hl
    refine lv_iinc (k := 6) (v := (x6 + 1)) hx hb d60_73 hl rfl (rfl) (by decide) rfl (fun ls hl => ?_)
    have hl : lv_has ls 7 [(6, .int (x6 + 1)), (5, .int w0), (0, .ref r), (1, .int x1), (2, .int x2), (3, .int x3), (4, .int x4)] := hl
    refine lv_goto hx hb d60_76 rfl ?_
    exact hk30 ls x1 x2 x3 x4 w0 (x6 + 1) st _ _ hF (hl.sub [2, 3, 4, 5, 6, 1, 0] rfl) I
  have b30 : ∀ (k3 : Int32 → Int32 → Int32 → Int32 → mT → Option (Int32 × mT)), (∀ (ls : Array Slot) (x1 : Int32) (x2 : Int32) (x3 : Int32) (x4 : Int32) (st : mT) (H : Heap) (locs : List Loc), k3 x1 x2 x3 x4 st = some q → lv_has ls 7 [(0, .ref r), (1, .int x1), (2, .int x2), (3, .int x3), (4, .int x4)] → hm_I D s0 s (mm_h dA h0 r M st) z0 H locs → W p l e { frames := 1, cells := 0, slots := 0, locals := 21 } s m ([.ref r, .int y1, .int y2, .int y3] : List Value).toArray below meth c H locs 0 0 (MQ below (ht_Q D s0 (fun vv h1 z1 => vv = some (.int q.1) ∧ h1 = mm_h dA h0 r M q.2 ∧ z1 = z0)) ([.ref r, .int y1, .int y2, .int y3] : List Value).toArray s 0 0 (fun q => s0.heap.size ≤ q)) (F0 m 3 ls [])) → ∀ n9 : Nat, ∀ (ls : Array Slot) (x1 : Int32) (x2 : Int32) (x3 : Int32) (x4 : Int32) (x5 : Int32) (x6 : Int32) (st : mT) (H : Heap) (locs : List Loc), g_twice_30 k3 n9 x1 x2 x3 x4 x5 x6 st = some q → lv_has ls 7 [(0, .ref r), (1, .int x1), (2, .int x2), (3, .int x3), (4, .int x4), (5, .int x5), (6, .int x6)] → hm_I D s0 s (mm_h dA h0 r M st) z0 H locs → W p l e { frames := 1, cells := 0, slots := 0, locals := 21 } s m ([.ref r, .int y1, .int y2, .int y3] : List Value).toArray below meth c H locs 0 0 (MQ below (ht_Q D s0 (fun vv h1 z1 => vv = some (.int q.1) ∧ h1 = mm_h dA h0 r M q.2 ∧ z1 = z0)) ([.ref r, .int y1, .int y2, .int y3] : List Value).toArray s 0 0 (fun q => s0.heap.size ≤ q)) (F0 m 30 ls []) := by
    intro k3 hk3 n9
    induction n9 with
    | zero => intro ls x1 x2 x3 x4 x5 x6 st H locs hF; cases hF
    | succ n9 hk30 =>
    intro ls x1 x2 x3 x4 x5 x6 st H locs hF hl I
    unfold g_twice_30 at hF
    refine lv_iload hx hb d60_30 (lv_at hl 6 rfl) ?_
    refine lv_iload_n hx hb d60_32 rfl (lv_at hl 3 rfl) ?_
    refine lv_icmp_ge hx hb d60_33 rfl (fun h9 => ?_) (fun h9 => ?_)
    · have hF := (if_pos h9).symm.trans hF
      exact b79 k3 hk3 ls x1 x2 x3 x4 x5 st _ _ hF (hl.sub [0, 1, 2, 3, 4, 5] rfl) I
    · have hF := (if_neg h9).symm.trans hF
      refine lv_iload hx hb d60_36 (lv_at hl 5 rfl) ?_
      refine lv_if_eq hx hb d60_38 rfl (fun h9 => ?_) (fun h9 => ?_)
      · have hF := (if_pos h9).symm.trans hF
        exact b79 k3 hk3 ls x1 x2 x3 x4 x5 st _ _ hF (hl.sub [0, 1, 2, 3, 4, 5] rfl) I
      · have hF := (if_neg h9).symm.trans hF
        refine lv_aload_n hx hb d60_41 rfl (lv_at hl 0 rfl) ?_
        refine lv_aload_n hx hb d60_42 rfl (lv_at hl 0 rfl) ?_
        refine va_get (D := D) (ci := 2) (v := .ref (M 20)) (C := kR2) (T := kT2) (N := 60) hx hb hts ku2 hown hK (hm_one I.1 mm_hr) 0 rfl rfl 20 (by decide) (hts _ ms_k1336) (fun _ h => h) rfl d60_43 ?_
        refine lv_iload hx hb d60_46 (lv_at hl 4 rfl) ?_
        obtain ⟨v2, i9, e9, hF⟩ := mm_ld_some hF
        refine va_iald hx hb hK (hm_one I.1 (mm_a20 hM)) 0 0 rfl rfl i9 d60_48 ?_
        refine ms_top (y := v2) e9 ?_
        clear e9 i9
        refine lv_iload hx hb d60_49 (lv_at hl 6 rfl) ?_
        refine lv_iadd hx hb d60_51 ?_
        obtain ⟨q3, e9, hF⟩ := mm_bd hF
        refine ht_V (C := "MarkupStoreModel") (rest := []) (as := [.int (v2 + x6)]) X hl (cm_look l D dA s0 hE h0 r M hM z0 (v2 + x6) st q3 e9) (List.forall_mem_cons.mpr ⟨ms_k1516, List.forall_mem_cons.mpr ⟨ms_k1518, List.forall_mem_cons.mpr ⟨ms_p46, List.forall_mem_cons.mpr ⟨ms_k7, List.forall_mem_cons.mpr ⟨ms_k1519, fun _ h => absurd h List.not_mem_nil⟩⟩⟩⟩⟩) ⟨rfl, by decide +kernel, by decide +kernel, (by decide +kernel : (parseMethodDescriptor "(I)C").map (fun d => d.parameters.length) = some 1)⟩ (hm_recv hK I rfl mm_hr) I ⟨rfl, rfl⟩ ⟨⟨Nat.le_of_ble_eq_true rfl, Nat.le_of_ble_eq_true rfl⟩, Nat.le_of_ble_eq_true rfl, Nat.le_of_ble_eq_true rfl⟩ rfl (Nat.le_of_ble_eq_true rfl) d60_52 (fun vv h1 z1 H locs hR I9 => ?_)
        obtain ⟨e1, e2, e3⟩ := hR
        rw [e2, e3] at I9
        clear I e2 e3 e9
        have I := I9
        clear I9
        subst e1
        refine W.eq (g2 := F0 m 55 ls [.int q3.1]) rfl ?_
        refine lv_aload_n hx hb d60_55 rfl (lv_at hl 0 rfl) ?_
        refine lv_iload_n hx hb d60_56 rfl (lv_at hl 2 rfl) ?_
        refine lv_iload hx hb d60_57 (lv_at hl 6 rfl) ?_
        refine lv_iadd hx hb d60_59 ?_
        obtain ⟨q4, e9, hF⟩ := mm_bd hF
        refine ht_V (C := "MarkupStoreModel") (rest := [.int q3.1]) (as := [.int (x2 + x6)]) X hl (cm_look l D dA s0 hE h0 r M hM z0 (x2 + x6) q3.2 q4 e9) (List.forall_mem_cons.mpr ⟨ms_k1516, List.forall_mem_cons.mpr ⟨ms_k1518, List.forall_mem_cons.mpr ⟨ms_p46, List.forall_mem_cons.mpr ⟨ms_k7, List.forall_mem_cons.mpr ⟨ms_k1519, fun _ h => absurd h List.not_mem_nil⟩⟩⟩⟩⟩) ⟨rfl, by decide +kernel, by decide +kernel, (by decide +kernel : (parseMethodDescriptor "(I)C").map (fun d => d.parameters.length) = some 1)⟩ (hm_recv hK I rfl mm_hr) I ⟨rfl, rfl⟩ ⟨⟨Nat.le_of_ble_eq_true rfl, Nat.le_of_ble_eq_true rfl⟩, Nat.le_of_ble_eq_true rfl, Nat.le_of_ble_eq_true rfl⟩ rfl (Nat.le_of_ble_eq_true rfl) d60_60 (fun vv h1 z1 H locs hR I9 => ?_)
        obtain ⟨e1, e2, e3⟩ := hR
        rw [e2, e3] at I9
        clear I e2 e3 e9
        have I := I9
        clear I9
        subst e1
        refine W.eq (g2 := F0 m 63 ls [.int q4.1, .int q3.1]) rfl ?_
        refine lv_icmp_ne hx hb d60_63 rfl (fun h9 => ?_) (fun h9 => ?_)
        · have hF := (if_neg h9).symm.trans hF
          refine lv_iconst (v := 0) hx hb d60_70 (by decide) ?_
          exact b71 k3 hk3 (g_twice_30 k3 n9) hk30 ls x1 x2 x3 x4 x6 0 q4.2 _ _ hF (hl.sub [0, 1, 2, 3, 4, 6] rfl) I
        · have hF := (if_pos h9).symm.trans hF
          refine lv_iconst (v := 1) hx hb d60_66 (by decide) ?_
          refine lv_goto hx hb d60_67 rfl ?_
          exact b71 k3 hk3 (g_twice_30 k3 n9) hk30 ls x1 x2 x3 x4 x6 1 q4.2 _ _ hF (hl.sub [0, 1, 2, 3, 4, 6] rfl) I
  have b25 : ∀ (k3 : Int32 → Int32 → Int32 → Int32 → mT → Option (Int32 × mT)), (∀ (ls : Array Slot) (x1 : Int32) (x2 : Int32) (x3 : Int32) (x4 : Int32) (st : mT) (H : Heap) (locs : List Loc), k3 x1 x2 x3 x4 st = some q → lv_has ls 7 [(0, .ref r), (1, .int x1), (2, .int x2), (3, .int x3), (4, .int x4)] → hm_I D s0 s (mm_h dA h0 r M st) z0 H locs → W p l e { frames := 1, cells := 0, slots := 0, locals := 21 } s m ([.ref r, .int y1, .int y2, .int y3] : List Value).toArray below meth c H locs 0 0 (MQ below (ht_Q D s0 (fun vv h1 z1 => vv = some (.int q.1) ∧ h1 = mm_h dA h0 r M q.2 ∧ z1 = z0)) ([.ref r, .int y1, .int y2, .int y3] : List Value).toArray s 0 0 (fun q => s0.heap.size ≤ q)) (F0 m 3 ls [])) → ∀ (ls : Array Slot) (x1 : Int32) (x2 : Int32) (x3 : Int32) (x4 : Int32) (w0 : Int32) (st : mT) (H : Heap) (locs : List Loc), g_twice_25 k3 x1 x2 x3 x4 w0 st = some q → lv_has ls 7 [(0, .ref r), (1, .int x1), (2, .int x2), (3, .int x3), (4, .int x4)] → hm_I D s0 s (mm_h dA h0 r M st) z0 H locs → W p l e { frames := 1, cells := 0, slots := 0, locals := 21 } s m ([.ref r, .int y1, .int y2, .int y3] : List Value).toArray below meth c H locs 0 0 (MQ below (ht_Q D s0 (fun vv h1 z1 => vv = some (.int q.1) ∧ h1 = mm_h dA h0 r M q.2 ∧ z1 = z0)) ([.ref r, .int y1, .int y2, .int y3] : List Value).toArray s 0 0 (fun q => s0.heap.size ≤ q)) (F0 m 25 ls [.int w0]) := by
    intro k3 hk3 ls x1 x2 x3 x4 w0 st H locs hF hl I
    unfold g_twice_25 at hF
    refine lv_istore hx hb d60_25 hl (by decide) rfl (fun ls hl => ?_)
    have hl : lv_has ls 7 [(5, .int w0), (0, .ref r), (1, .int x1), (2, .int x2), (3, .int x3), (4, .int x4)] := hl
    refine lv_iconst (v := 0) hx hb d60_27 (by decide) ?_
    refine lv_istore hx hb d60_28 hl (by decide) rfl (fun ls hl => ?_)
    have hl : lv_has ls 7 [(6, .int 0), (5, .int w0), (0, .ref r), (1, .int x1), (2, .int x2), (3, .int x3), (4, .int x4)] := hl
    exact b30 k3 hk3 mF ls x1 x2 x3 x4 w0 0 st _ _ hF (hl.sub [2, 3, 4, 5, 6, 1, 0] rfl) I
  have b3 : ∀ n9 : Nat, ∀ (ls : Array Slot) (x1 : Int32) (x2 : Int32) (x3 : Int32) (x4 : Int32) (st : mT) (H : Heap) (locs : List Loc), g_twice_3 n9 x1 x2 x3 x4 st = some q → lv_has ls 7 [(0, .ref r), (1, .int x1), (2, .int x2), (3, .int x3), (4, .int x4)] → hm_I D s0 s (mm_h dA h0 r M st) z0 H locs → W p l e { frames := 1, cells := 0, slots := 0, locals := 21 } s m ([.ref r, .int y1, .int y2, .int y3] : List Value).toArray below meth c H locs 0 0 (MQ below (ht_Q D s0 (fun vv h1 z1 => vv = some (.int q.1) ∧ h1 = mm_h dA h0 r M q.2 ∧ z1 = z0)) ([.ref r, .int y1, .int y2, .int y3] : List Value).toArray s 0 0 (fun q => s0.heap.size ≤ q)) (F0 m 3 ls []) := by
    intro n9
    induction n9 with
    | zero => intro ls x1 x2 x3 x4 st H locs hF; cases hF
    | succ n9 hk3 =>
    intro ls x1 x2 x3 x4 st H locs hF hl I
    unfold g_twice_3 at hF
    refine lv_iload hx hb d60_3 (lv_at hl 4 rfl) ?_
    refine lv_iload_n hx hb d60_5 rfl (lv_at hl 1 rfl) ?_
    refine lv_icmp_ge hx hb d60_6 rfl (fun h9 => ?_) (fun h9 => ?_)
    · have hF := (if_pos h9).symm.trans hF
      refine lv_iconst (v := 0) hx hb d60_92 (by decide) ?_
      exact ht_zret X d60_93 I (Nat.le_of_ble_eq_true rfl) (Nat.le_of_ble_eq_true rfl) (mm_fin hF) rfl
    · have hF := (if_neg h9).symm.trans hF
      refine lv_aload_n hx hb d60_9 rfl (lv_at hl 0 rfl) ?_
      refine va_get (D := D) (ci := 2) (v := .ref (M 21)) (C := kR2) (T := kT2) (N := 60) hx hb hts ku2 hown hK (hm_one I.1 mm_hr) 0 rfl rfl 21 (by decide) (hts _ ms_k1337) (fun _ h => h) rfl d60_10 ?_
      refine lv_iload hx hb d60_13 (lv_at hl 4 rfl) ?_
      obtain ⟨v1, i9, e9, hF⟩ := mm_ld_some hF
      refine va_iald hx hb hK (hm_one I.1 (mm_a21 hM)) 0 0 rfl rfl i9 d60_15 ?_
      refine ms_top (y := v1) e9 ?_
      clear e9 i9
      refine lv_iload_n hx hb d60_16 rfl (lv_at hl 3 rfl) ?_
      refine lv_icmp_ne hx hb d60_17 rfl (fun h9 => ?_) (fun h9 => ?_)
      · have hF := (if_neg h9).symm.trans hF
        refine lv_iconst (v := 0) hx hb d60_24 (by decide) ?_
        exact b25 (g_twice_3 n9) hk3 ls x1 x2 x3 x4 0 st _ _ hF (hl.sub [0, 1, 2, 3, 4] rfl) I
      · have hF := (if_pos h9).symm.trans hF
        refine lv_iconst (v := 1) hx hb d60_20 (by decide) ?_
        refine lv_goto hx hb d60_21 rfl ?_
        exact b25 (g_twice_3 n9) hk3 ls x1 x2 x3 x4 1 st _ _ hF (hl.sub [0, 1, 2, 3, 4] rfl) I
  have hF := hg
  unfold g_twice at hF
  refine lv_iconst (v := 0) hx hb d60_0 (by decide) ?_
  refine lv_istore hx hb d60_1 hl (by decide) rfl (fun ls hl => ?_)
  have hl : lv_has ls 7 [(4, .int 0), (0, .ref r), (1, .int y1), (2, .int y2), (3, .int y3)] := hl
  exact b3 mF ls y1 y2 y3 0 st _ _ hF (hl.sub [1, 2, 3, 4, 0] rfl) I

def g_attribute_63 (x3 : Int32) (st : mT) : Option (Int32 × mT) := (some (x3, st))
def g_attribute_344 (x7 : Int32) (st : mT) : Option (Int32 × mT) := (some ((x7 + 1), st))
def g_attribute_341 (k218 : Int32 → Int32 → Int32 → Int32 → mT → Option (Int32 × mT)) (x1 : Int32) (x5 : Int32) (x6 : Int32) (x7 : Int32) (st : mT) : Option (Int32 × mT) := (k218 x1 x5 x6 x7 st)
def g_attribute_272 (k218 : Int32 → Int32 → Int32 → Int32 → mT → Option (Int32 × mT)) (x1 : Int32) (x5 : Int32) (x6 : Int32) (x7 : Int32) (st : mT) : Option (Int32 × mT) := ((g_error x7 st).bind (fun q12 => (g_attribute_341 k218 x1 x5 x6 x7 q12)))
def g_attribute_339 (k218 : Int32 → Int32 → Int32 → Int32 → mT → Option (Int32 × mT)) (x1 : Int32) (x5 : Int32) (x6 : Int32) (w0 : Int32) (st : mT) : Option (Int32 × mT) := (g_attribute_341 k218 x1 x5 x6 w0 st)
def g_attribute_318 (k218 : Int32 → Int32 → Int32 → Int32 → mT → Option (Int32 × mT)) (x1 : Int32) (x5 : Int32) (x6 : Int32) (x7 : Int32) (x8 : Int32) (st : mT) : Option (Int32 × mT) := (if x8 = 38 then (g_attribute_339 k218 x1 x5 x6 (x7 + (st.1 19)) st) else (g_attribute_339 k218 x1 x5 x6 (x7 + 1) st))
def g_attribute_315 (k218 : Int32 → Int32 → Int32 → Int32 → mT → Option (Int32 × mT)) (x1 : Int32) (x5 : Int32) (x6 : Int32) (x7 : Int32) (x8 : Int32) (w0 : Int32) (w1 : Int32) (w2 : Int32) (w3 : Int32) (st : mT) : Option (Int32 × mT) := ((g_append w3 w2 w1 w0 st).bind (fun q13 => (g_attribute_318 k218 x1 x5 x6 x7 x8 q13)))
def g_attribute_281 (k218 : Int32 → Int32 → Int32 → Int32 → mT → Option (Int32 × mT)) (x1 : Int32) (x5 : Int32) (x6 : Int32) (x7 : Int32) (x8 : Int32) (st : mT) : Option (Int32 × mT) := (if x6 = 0 then (g_attribute_318 k218 x1 x5 x6 x7 x8 st) else (if x8 = 38 then (g_attribute_315 k218 x1 x5 x6 x7 x8 (((st.1 18).toUInt32 % 65536).toInt32) (x5 + 8) (x5 + 7) x1 st) else (g_attribute_315 k218 x1 x5 x6 x7 x8 x8 (x5 + 8) (x5 + 7) x1 st)))
def g_attribute_218 : Nat → Int32 → Int32 → Int32 → Int32 → mT → Option (Int32 × mT)
  | 0, _, _, _, _, _ => none
  | n9 + 1, x1, x5, x6, x7, st => (if 0 ≤ (st.1 9) then (g_attribute_344 x7 st) else ((g_look x7 st).bind (fun q10 => (if q10.1 = 34 then (g_attribute_344 x7 q10.2) else ((g_look x7 q10.2).bind (fun q11 => (if q11.1 = 0 then (g_attribute_272 (g_attribute_218 n9) x1 x5 x6 x7 q11.2) else (if q11.1 = 60 then (g_attribute_272 (g_attribute_218 n9) x1 x5 x6 x7 q11.2) else (if q11.1 = 38 then ((g_isEntity x7 q11.2).bind (fun q14 => (if q14.1 = 0 then (g_attribute_272 (g_attribute_218 n9) x1 x5 x6 x7 q14.2) else (g_attribute_281 (g_attribute_218 n9) x1 x5 x6 x7 q11.1 q14.2)))) else (g_attribute_281 (g_attribute_218 n9) x1 x5 x6 x7 q11.1 q11.2))))))))))
def g_attribute_210 (x1 : Int32) (x3 : Int32) (x4 : Int32) (x5 : Int32) (x6 : Int32) (st : mT) : Option (Int32 × mT) := (g_attribute_218 mF x1 x5 x6 ((x3 + x4) + 2) st)
def g_attribute_175 (x1 : Int32) (x2 : Int32) (x3 : Int32) (x4 : Int32) (x5 : Int32) (x6 : Int32) (st : mT) : Option (Int32 × mT) := (if x6 = 0 then (g_attribute_210 x1 x3 x4 x5 x6 st) else (mm_ix 5120 ((128 * x1) + x5) (fun j16 => mm_lt (mm_G st 2 j16 x4) (fun st15 => (mm_ix 5120 ((128 * x1) + 5) (fun j18 => mm_lt (mm_G st15 2 j18 (x2 + 1)) (fun st17 => (g_attribute_210 x1 x3 x4 x5 x6 st17))))))))
def g_attribute_131 : Nat → Int32 → Int32 → Int32 → Int32 → Int32 → Int32 → Int32 → mT → Option (Int32 × mT)
  | 0, _, _, _, _, _, _, _, _ => none
  | n9 + 1, x1, x2, x3, x4, x5, x6, x7, st => (if x4 ≤ x7 then (g_attribute_175 x1 x2 x3 x4 x5 x6 st) else (if x6 = 0 then (g_attribute_175 x1 x2 x3 x4 x5 x6 st) else ((g_look (x3 + x7) st).bind (fun q19 => (mm_ix 5120 ((((128 * x1) + x5) + 1) + x7) (fun j21 => mm_lt (mm_G q19.2 2 j21 q19.1) (fun st20 => ((g_attribute_131 n9) x1 x2 x3 x4 x5 x6 (x7 + 1) st20))))))))
def g_attribute_125 (x1 : Int32) (x2 : Int32) (x3 : Int32) (x4 : Int32) (x5 : Int32) (x6 : Int32) (w0 : Int32) (st : mT) : Option (Int32 × mT) := (mm_zc w0 (mm_lt (mm_F st 11 w0) (fun st9 => (g_attribute_131 mF x1 x2 x3 x4 x5 x6 0 st9))))
def g_attribute_120 (x1 : Int32) (x2 : Int32) (x3 : Int32) (x4 : Int32) (x5 : Int32) (x6 : Int32) (st : mT) : Option (Int32 × mT) := (g_attribute_125 x1 x2 x3 x4 x5 x6 1 st)
def g_attribute_105 (x1 : Int32) (x2 : Int32) (x3 : Int32) (x4 : Int32) (x5 : Int32) (w0 : Int32) (st : mT) : Option (Int32 × mT) := (if (st.1 11) = 0 then (if x2 < 3 then (g_attribute_125 x1 x2 x3 x4 x5 w0 0 st) else (g_attribute_120 x1 x2 x3 x4 x5 w0 st)) else (g_attribute_120 x1 x2 x3 x4 x5 w0 st))
def g_attribute_104 (x1 : Int32) (x2 : Int32) (x3 : Int32) (x4 : Int32) (x5 : Int32) (st : mT) : Option (Int32 × mT) := (g_attribute_105 x1 x2 x3 x4 x5 0 st)
def g_attribute_28 (x1 : Int32) (x2 : Int32) (x3 : Int32) (x4 : Int32) (st : mT) : Option (Int32 × mT) := (if 0 ≤ (st.1 9) then (g_attribute_63 x3 st) else ((g_must (x3 + x4) 61 st).bind (fun q3 => (if q3.1 = 0 then (g_attribute_63 x3 q3.2) else ((g_must ((x3 + x4) + 1) 34 q3.2).bind (fun q4 => (if q4.1 = 0 then (g_attribute_63 x3 q4.2) else (mm_ix 30 x2 (fun j6 => mm_lt (mm_G q4.2 20 j6 x3) (fun st5 => (mm_ix 30 x2 (fun j8 => mm_lt (mm_G st5 21 j8 x4) (fun st7 => (if 3 ≤ x2 then (g_attribute_104 x1 x2 x3 x4 (44 + (28 * x2)) st7) else (if 40 ≤ x1 then (g_attribute_104 x1 x2 x3 x4 (44 + (28 * x2)) st7) else (g_attribute_105 x1 x2 x3 x4 (44 + (28 * x2)) 1 st7))))))))))))))))
def g_attribute_23 (x1 : Int32) (x2 : Int32) (x3 : Int32) (x4 : Int32) (st : mT) : Option (Int32 × mT) := ((g_error x3 st).bind (fun q2 => (g_attribute_28 x1 x2 x3 x4 q2)))
def g_attribute (y1 : Int32) (y2 : Int32) (y3 : Int32) (st : mT) : Option (Int32 × mT) := ((g_letters y3 st).bind (fun q1 => (if q1.1 = 0 then (g_attribute_23 y1 y2 y3 q1.1 q1.2) else ((g_twice y2 y3 q1.1 q1.2).bind (fun q22 => (if q22.1 = 0 then (g_attribute_28 y1 y2 y3 q1.1 q22.2) else (g_attribute_23 y1 y2 y3 q1.1 q22.2)))))))
set_option maxRecDepth 100000 in
set_option maxHeartbeats 8000000 in
theorem cm_attribute (l : Launch) (D : va_G) (dA : Nat → ClassId) (s0 : State) (hE : ms_EV D dA s0) (h0 : hm_T) (r : Nat) (M : Nat → Nat) (hM : mm_ok r M) (z0 : hz_T) (y1 : Int32) (y2 : Int32) (y3 : Int32) (st : mT) (q : Int32 × mT) (hg : g_attribute y1 y2 y3 st = some q) : ht_C l D s0 yM61 bM61 9 (Option.some Jvm.ClassFile.FieldType.int) 3 72 0 0 [.ref r, .int y1, .int y2, .int y3] (fun h z => h = mm_h dA h0 r M st ∧ z = z0) (fun h z vv h1 z1 => vv = some (.int q.1) ∧ h1 = mm_h dA h0 r M q.2 ∧ z1 = z0) := by
  refine ht_C.mk hE.1 (by decide) (Nat.le_of_ble_eq_true rfl) [(0, .ref r), (1, .int y1), (2, .int y2), (3, .int y3)] rfl ?_
  intro p e s m below meth c ls h z X hin hpre I hl
  have hx := X.1
  have hb := X.2.1
  have hml := X.2.2.1
  have hown : s.vm.findClass "MarkupStoreModel" = some m.cls := X.2.2.2.1
  have hts := X.2.2.2.2.2.2.1
  have hK := X.2.2.2.2.2.2.2.2.1
  rw [hpre.1, hpre.2] at I
  clear hpre
  have b63 : ∀ (ls : Array Slot) (x3 : Int32) (st : mT) (H : Heap) (locs : List Loc), g_attribute_63 x3 st = some q → lv_has ls 9 [(3, .int x3)] → hm_I D s0 s (mm_h dA h0 r M st) z0 H locs → W p l e { frames := 3, cells := 0, slots := 0, locals := 72 } s m ([.ref r, .int y1, .int y2, .int y3] : List Value).toArray below meth c H locs 0 0 (MQ below (ht_Q D s0 (fun vv h1 z1 => vv = some (.int q.1) ∧ h1 = mm_h dA h0 r M q.2 ∧ z1 = z0)) ([.ref r, .int y1, .int y2, .int y3] : List Value).toArray s 0 0 (fun q => s0.heap.size ≤ q)) (F0 m 63 ls []) := by
    intro ls x3 st H locs hF hl I
    unfold g_attribute_63 at hF
    refine lv_iload_n hx hb d61_63 rfl (lv_at hl 0 rfl) ?_
    exact ht_iret X d61_64 I (Nat.le_of_ble_eq_true rfl) (Nat.le_of_ble_eq_true rfl) (mm_fin hF)
  have b344 : ∀ (ls : Array Slot) (x7 : Int32) (st : mT) (H : Heap) (locs : List Loc), g_attribute_344 x7 st = some q → lv_has ls 9 [(7, .int x7)] → hm_I D s0 s (mm_h dA h0 r M st) z0 H locs → W p l e { frames := 3, cells := 0, slots := 0, locals := 72 } s m ([.ref r, .int y1, .int y2, .int y3] : List Value).toArray below meth c H locs 0 0 (MQ below (ht_Q D s0 (fun vv h1 z1 => vv = some (.int q.1) ∧ h1 = mm_h dA h0 r M q.2 ∧ z1 = z0)) ([.ref r, .int y1, .int y2, .int y3] : List Value).toArray s 0 0 (fun q => s0.heap.size ≤ q)) (F0 m 344 ls []) := by
    intro ls x7 st H locs hF hl I
    unfold g_attribute_344 at hF
    refine lv_iload hx hb d61_344 (lv_at hl 0 rfl) ?_
    refine lv_iconst (v := 1) hx hb d61_346 (by decide) ?_
    refine lv_iadd hx hb d61_347 ?_
    exact ht_iret X d61_348 I (Nat.le_of_ble_eq_true rfl) (Nat.le_of_ble_eq_true rfl) (mm_fin hF)
  have b341 : ∀ (k218 : Int32 → Int32 → Int32 → Int32 → mT → Option (Int32 × mT)), (∀ (ls : Array Slot) (x1 : Int32) (x5 : Int32) (x6 : Int32) (x7 : Int32) (st : mT) (H : Heap) (locs : List Loc), k218 x1 x5 x6 x7 st = some q → lv_has ls 9 [(0, .ref r), (1, .int x1), (5, .int x5), (6, .int x6), (7, .int x7)] → hm_I D s0 s (mm_h dA h0 r M st) z0 H locs → W p l e { frames := 3, cells := 0, slots := 0, locals := 72 } s m ([.ref r, .int y1, .int y2, .int y3] : List Value).toArray below meth c H locs 0 0 (MQ below (ht_Q D s0 (fun vv h1 z1 => vv = some (.int q.1) ∧ h1 = mm_h dA h0 r M q.2 ∧ z1 = z0)) ([.ref r, .int y1, .int y2, .int y3] : List Value).toArray s 0 0 (fun q => s0.heap.size ≤ q)) (F0 m 218 ls [])) → ∀ (ls : Array Slot) (x1 : Int32) (x5 : Int32) (x6 : Int32) (x7 : Int32) (st : mT) (H : Heap) (locs : List Loc), g_attribute_341 k218 x1 x5 x6 x7 st = some q → lv_has ls 9 [(0, .ref r), (1, .int x1), (5, .int x5), (6, .int x6), (7, .int x7)] → hm_I D s0 s (mm_h dA h0 r M st) z0 H locs → W p l e { frames := 3, cells := 0, slots := 0, locals := 72 } s m ([.ref r, .int y1, .int y2, .int y3] : List Value).toArray below meth c H locs 0 0 (MQ below (ht_Q D s0 (fun vv h1 z1 => vv = some (.int q.1) ∧ h1 = mm_h dA h0 r M q.2 ∧ z1 = z0)) ([.ref r, .int y1, .int y2, .int y3] : List Value).toArray s 0 0 (fun q => s0.heap.size ≤ q)) (F0 m 341 ls []) := by
    intro k218 hk218 ls x1 x5 x6 x7 st H locs hF hl I
    unfold g_attribute_341 at hF
    refine lv_goto hx hb d61_341 rfl ?_
    exact hk218 ls x1 x5 x6 x7 st _ _ hF (hl.sub [0, 1, 2, 3, 4] rfl) I
  have b272 : ∀ (k218 : Int32 → Int32 → Int32 → Int32 → mT → Option (Int32 × mT)), (∀ (ls : Array Slot) (x1 : Int32) (x5 : Int32) (x6 : Int32) (x7 : Int32) (st : mT) (H : Heap) (locs : List Loc), k218 x1 x5 x6 x7 st = some q → lv_has ls 9 [(0, .ref r), (1, .int x1), (5, .int x5), (6, .int x6), (7, .int x7)] → hm_I D s0 s (mm_h dA h0 r M st) z0 H locs → W p l e { frames := 3, cells := 0, slots := 0, locals := 72 } s m ([.ref r, .int y1, .int y2, .int y3] : List Value).toArray below meth c H locs 0 0 (MQ below (ht_Q D s0 (fun vv h1 z1 => vv = some (.int q.1) ∧ h1 = mm_h dA h0 r M q.2 ∧ z1 = z0)) ([.ref r, .int y1, .int y2, .int y3] : List Value).toArray s 0 0 (fun q => s0.heap.size ≤ q)) (F0 m 218 ls [])) → ∀ (ls : Array Slot) (x1 : Int32) (x5 : Int32) (x6 : Int32) (x7 : Int32) (st : mT) (H : Heap) (locs : List Loc), g_attribute_272 k218 x1 x5 x6 x7 st = some q → lv_has ls 9 [(0, .ref r), (1, .int x1), (5, .int x5), (6, .int x6), (7, .int x7)] → hm_I D s0 s (mm_h dA h0 r M st) z0 H locs → W p l e { frames := 3, cells := 0, slots := 0, locals := 72 } s m ([.ref r, .int y1, .int y2, .int y3] : List Value).toArray below meth c H locs 0 0 (MQ below (ht_Q D s0 (fun vv h1 z1 => vv = some (.int q.1) ∧ h1 = mm_h dA h0 r M q.2 ∧ z1 = z0)) ([.ref r, .int y1, .int y2, .int y3] : List Value).toArray s 0 0 (fun q => s0.heap.size ≤ q)) (F0 m 272 ls []) := by
    intro k218 hk218 ls x1 x5 x6 x7 st H locs hF hl I
    unfold g_attribute_272 at hF
    refine lv_aload_n hx hb d61_272 rfl (lv_at hl 0 rfl) ?_
    refine lv_iload hx hb d61_273 (lv_at hl 4 rfl) ?_
    obtain ⟨q12, e9, hF⟩ := mm_bd hF
    refine ht_V (C := "MarkupStoreModel") (rest := []) (as := [.int x7]) X hl (cm_error l D dA s0 hE h0 r M hM z0 x7 st q12 e9) (List.forall_mem_cons.mpr ⟨ms_k1520, List.forall_mem_cons.mpr ⟨ms_k1522, List.forall_mem_cons.mpr ⟨ms_p47, List.forall_mem_cons.mpr ⟨ms_k7, List.forall_mem_cons.mpr ⟨ms_k1523, fun _ h => absurd h List.not_mem_nil⟩⟩⟩⟩⟩) ⟨rfl, by decide +kernel, by decide +kernel, (by decide +kernel : (parseMethodDescriptor "(I)V").map (fun d => d.parameters.length) = some 1)⟩ (hm_recv hK I rfl mm_hr) I ⟨rfl, rfl⟩ ⟨⟨Nat.le_of_ble_eq_true rfl, Nat.le_of_ble_eq_true rfl⟩, Nat.le_of_ble_eq_true rfl, Nat.le_of_ble_eq_true rfl⟩ rfl (Nat.le_of_ble_eq_true rfl) d61_275 (fun vv h1 z1 H locs hR I9 => ?_)
    obtain ⟨e1, e2, e3⟩ := hR
    rw [e2, e3] at I9
    clear I e2 e3 e9
    have I := I9
    clear I9
    subst e1
    refine W.eq (g2 := F0 m 278 ls []) rfl ?_
    refine lv_goto hx hb d61_278 rfl ?_
    exact b341 k218 hk218 ls x1 x5 x6 x7 q12 _ _ hF (hl.sub [0, 1, 2, 3, 4] rfl) I
  have b339 : ∀ (k218 : Int32 → Int32 → Int32 → Int32 → mT → Option (Int32 × mT)), (∀ (ls : Array Slot) (x1 : Int32) (x5 : Int32) (x6 : Int32) (x7 : Int32) (st : mT) (H : Heap) (locs : List Loc), k218 x1 x5 x6 x7 st = some q → lv_has ls 9 [(0, .ref r), (1, .int x1), (5, .int x5), (6, .int x6), (7, .int x7)] → hm_I D s0 s (mm_h dA h0 r M st) z0 H locs → W p l e { frames := 3, cells := 0, slots := 0, locals := 72 } s m ([.ref r, .int y1, .int y2, .int y3] : List Value).toArray below meth c H locs 0 0 (MQ below (ht_Q D s0 (fun vv h1 z1 => vv = some (.int q.1) ∧ h1 = mm_h dA h0 r M q.2 ∧ z1 = z0)) ([.ref r, .int y1, .int y2, .int y3] : List Value).toArray s 0 0 (fun q => s0.heap.size ≤ q)) (F0 m 218 ls [])) → ∀ (ls : Array Slot) (x1 : Int32) (x5 : Int32) (x6 : Int32) (w0 : Int32) (st : mT) (H : Heap) (locs : List Loc), g_attribute_339 k218 x1 x5 x6 w0 st = some q → lv_has ls 9 [(0, .ref r), (1, .int x1), (5, .int x5), (6, .int x6)] → hm_I D s0 s (mm_h dA h0 r M st) z0 H locs → W p l e { frames := 3, cells := 0, slots := 0, locals := 72 } s m ([.ref r, .int y1, .int y2, .int y3] : List Value).toArray below meth c H locs 0 0 (MQ below (ht_Q D s0 (fun vv h1 z1 => vv = some (.int q.1) ∧ h1 = mm_h dA h0 r M q.2 ∧ z1 = z0)) ([.ref r, .int y1, .int y2, .int y3] : List Value).toArray s 0 0 (fun q => s0.heap.size ≤ q)) (F0 m 339 ls [.int w0]) := by
    intro k218 hk218 ls x1 x5 x6 w0 st H locs hF hl I
    unfold g_attribute_339 at hF
    refine lv_istore hx hb d61_339 hl (by decide) rfl (fun ls hl => ?_)
    have hl : lv_has ls 9 [(7, .int w0), (0, .ref r), (1, .int x1), (5, .int x5), (6, .int x6)] := hl
    exact b341 k218 hk218 ls x1 x5 x6 w0 st _ _ hF (hl.sub [1, 2, 3, 4, 0] rfl) I
  have b318 : ∀ (k218 : Int32 → Int32 → Int32 → Int32 → mT → Option (Int32 × mT)), (∀ (ls : Array Slot) (x1 : Int32) (x5 : Int32) (x6 : Int32) (x7 : Int32) (st : mT) (H : Heap) (locs : List Loc), k218 x1 x5 x6 x7 st = some q → lv_has ls 9 [(0, .ref r), (1, .int x1), (5, .int x5), (6, .int x6), (7, .int x7)] → hm_I D s0 s (mm_h dA h0 r M st) z0 H locs → W p l e { frames := 3, cells := 0, slots := 0, locals := 72 } s m ([.ref r, .int y1, .int y2, .int y3] : List Value).toArray below meth c H locs 0 0 (MQ below (ht_Q D s0 (fun vv h1 z1 => vv = some (.int q.1) ∧ h1 = mm_h dA h0 r M q.2 ∧ z1 = z0)) ([.ref r, .int y1, .int y2, .int y3] : List Value).toArray s 0 0 (fun q => s0.heap.size ≤ q)) (F0 m 218 ls [])) → ∀ (ls : Array Slot) (x1 : Int32) (x5 : Int32) (x6 : Int32) (x7 : Int32) (x8 : Int32) (st : mT) (H : Heap) (locs : List Loc), g_attribute_318 k218 x1 x5 x6 x7 x8 st = some q → lv_has ls 9 [(0, .ref r), (1, .int x1), (5, .int x5), (6, .int x6), (7, .int x7), (8, .int x8)] → hm_I D s0 s (mm_h dA h0 r M st) z0 H locs → W p l e { frames := 3, cells := 0, slots := 0, locals := 72 } s m ([.ref r, .int y1, .int y2, .int y3] : List Value).toArray below meth c H locs 0 0 (MQ below (ht_Q D s0 (fun vv h1 z1 => vv = some (.int q.1) ∧ h1 = mm_h dA h0 r M q.2 ∧ z1 = z0)) ([.ref r, .int y1, .int y2, .int y3] : List Value).toArray s 0 0 (fun q => s0.heap.size ≤ q)) (F0 m 318 ls []) := by
    intro k218 hk218 ls x1 x5 x6 x7 x8 st H locs hF hl I
    unfold g_attribute_318 at hF
    refine lv_iload hx hb d61_318 (lv_at hl 5 rfl) ?_
    refine lv_bipush (v := 38) hx hb d61_320 (by decide) ?_
    refine lv_icmp_ne hx hb d61_322 rfl (fun h9 => ?_) (fun h9 => ?_)
    · have hF := (if_neg h9).symm.trans hF
      refine lv_iload hx hb d61_335 (lv_at hl 4 rfl) ?_
      refine lv_iconst (v := 1) hx hb d61_337 (by decide) ?_
      refine lv_iadd hx hb d61_338 ?_
      exact b339 k218 hk218 ls x1 x5 x6 (x7 + 1) st _ _ hF (hl.sub [0, 1, 2, 3] rfl) I
    · have hF := (if_pos h9).symm.trans hF
      refine lv_iload hx hb d61_325 (lv_at hl 4 rfl) ?_
      refine lv_aload_n hx hb d61_327 rfl (lv_at hl 0 rfl) ?_
      refine va_get (D := D) (ci := 2) (v := .int (st.1 19)) (C := kR2) (T := kT2) (N := 60) hx hb hts ku2 hown hK (hm_one I.1 mm_hr) 0 rfl rfl 19 (by decide) (hts _ ms_k1335) (fun _ h => h) rfl d61_328 ?_
      refine lv_iadd hx hb d61_331 ?_
      refine lv_goto hx hb d61_332 rfl ?_
      exact b339 k218 hk218 ls x1 x5 x6 (x7 + (st.1 19)) st _ _ hF (hl.sub [0, 1, 2, 3] rfl) I
  have b315 : ∀ (k218 : Int32 → Int32 → Int32 → Int32 → mT → Option (Int32 × mT)), (∀ (ls : Array Slot) (x1 : Int32) (x5 : Int32) (x6 : Int32) (x7 : Int32) (st : mT) (H : Heap) (locs : List Loc), k218 x1 x5 x6 x7 st = some q → lv_has ls 9 [(0, .ref r), (1, .int x1), (5, .int x5), (6, .int x6), (7, .int x7)] → hm_I D s0 s (mm_h dA h0 r M st) z0 H locs → W p l e { frames := 3, cells := 0, slots := 0, locals := 72 } s m ([.ref r, .int y1, .int y2, .int y3] : List Value).toArray below meth c H locs 0 0 (MQ below (ht_Q D s0 (fun vv h1 z1 => vv = some (.int q.1) ∧ h1 = mm_h dA h0 r M q.2 ∧ z1 = z0)) ([.ref r, .int y1, .int y2, .int y3] : List Value).toArray s 0 0 (fun q => s0.heap.size ≤ q)) (F0 m 218 ls [])) → ∀ (ls : Array Slot) (x1 : Int32) (x5 : Int32) (x6 : Int32) (x7 : Int32) (x8 : Int32) (w0 : Int32) (w1 : Int32) (w2 : Int32) (w3 : Int32) (st : mT) (H : Heap) (locs : List Loc), g_attribute_315 k218 x1 x5 x6 x7 x8 w0 w1 w2 w3 st = some q → lv_has ls 9 [(0, .ref r), (1, .int x1), (5, .int x5), (6, .int x6), (7, .int x7), (8, .int x8)] → hm_I D s0 s (mm_h dA h0 r M st) z0 H locs → W p l e { frames := 3, cells := 0, slots := 0, locals := 72 } s m ([.ref r, .int y1, .int y2, .int y3] : List Value).toArray below meth c H locs 0 0 (MQ below (ht_Q D s0 (fun vv h1 z1 => vv = some (.int q.1) ∧ h1 = mm_h dA h0 r M q.2 ∧ z1 = z0)) ([.ref r, .int y1, .int y2, .int y3] : List Value).toArray s 0 0 (fun q => s0.heap.size ≤ q)) (F0 m 315 ls [.int w0, .int w1, .int w2, .int w3, .ref r]) := by
    intro k218 hk218 ls x1 x5 x6 x7 x8 w0 w1 w2 w3 st H locs hF hl I
    unfold g_attribute_315 at hF
    obtain ⟨q13, e9, hF⟩ := mm_bd hF
    refine ht_V (C := "MarkupStoreModel") (rest := []) (as := [.int w3, .int w2, .int w1, .int w0]) X hl (cm_append l D dA s0 hE h0 r M hM z0 w3 w2 w1 w0 st q13 e9) (List.forall_mem_cons.mpr ⟨ms_k1563, List.forall_mem_cons.mpr ⟨ms_k1565, List.forall_mem_cons.mpr ⟨ms_p57, List.forall_mem_cons.mpr ⟨ms_k7, List.forall_mem_cons.mpr ⟨ms_k1566, fun _ h => absurd h List.not_mem_nil⟩⟩⟩⟩⟩) ⟨rfl, by decide +kernel, by decide +kernel, (by decide +kernel : (parseMethodDescriptor "(IIIC)V").map (fun d => d.parameters.length) = some 4)⟩ (hm_recv hK I rfl mm_hr) I ⟨rfl, rfl⟩ ⟨⟨Nat.le_of_ble_eq_true rfl, Nat.le_of_ble_eq_true rfl⟩, Nat.le_of_ble_eq_true rfl, Nat.le_of_ble_eq_true rfl⟩ rfl (Nat.le_of_ble_eq_true rfl) d61_315 (fun vv h1 z1 H locs hR I9 => ?_)
    obtain ⟨e1, e2, e3⟩ := hR
    rw [e2, e3] at I9
    clear I e2 e3 e9
    have I := I9
    clear I9
    subst e1
    refine W.eq (g2 := F0 m 318 ls []) rfl ?_
    exact b318 k218 hk218 ls x1 x5 x6 x7 x8 q13 _ _ hF (hl.sub [0, 1, 2, 3, 4, 5] rfl) I
  have b281 : ∀ (k218 : Int32 → Int32 → Int32 → Int32 → mT → Option (Int32 × mT)), (∀ (ls : Array Slot) (x1 : Int32) (x5 : Int32) (x6 : Int32) (x7 : Int32) (st : mT) (H : Heap) (locs : List Loc), k218 x1 x5 x6 x7 st = some q → lv_has ls 9 [(0, .ref r), (1, .int x1), (5, .int x5), (6, .int x6), (7, .int x7)] → hm_I D s0 s (mm_h dA h0 r M st) z0 H locs → W p l e { frames := 3, cells := 0, slots := 0, locals := 72 } s m ([.ref r, .int y1, .int y2, .int y3] : List Value).toArray below meth c H locs 0 0 (MQ below (ht_Q D s0 (fun vv h1 z1 => vv = some (.int q.1) ∧ h1 = mm_h dA h0 r M q.2 ∧ z1 = z0)) ([.ref r, .int y1, .int y2, .int y3] : List Value).toArray s 0 0 (fun q => s0.heap.size ≤ q)) (F0 m 218 ls [])) → ∀ (ls : Array Slot) (x1 : Int32) (x5 : Int32) (x6 : Int32) (x7 : Int32) (x8 : Int32) (st : mT) (H : Heap) (locs : List Loc), g_attribute_281 k218 x1 x5 x6 x7 x8 st = some q → lv_has ls 9 [(0, .ref r), (1, .int x1), (5, .int x5), (6, .int x6), (7, .int x7), (8, .int x8)] → hm_I D s0 s (mm_h dA h0 r M st) z0 H locs → W p l e { frames := 3, cells := 0, slots := 0, locals := 72 } s m ([.ref r, .int y1, .int y2, .int y3] : List Value).toArray below meth c H locs 0 0 (MQ below (ht_Q D s0 (fun vv h1 z1 => vv = some (.int q.1) ∧ h1 = mm_h dA h0 r M q.2 ∧ z1 = z0)) ([.ref r, .int y1, .int y2, .int y3] : List Value).toArray s 0 0 (fun q => s0.heap.size ≤ q)) (F0 m 281 ls []) := by
    intro k218 hk218 ls x1 x5 x6 x7 x8 st H locs hF hl I
    unfold g_attribute_281 at hF
    refine lv_iload hx hb d61_281 (lv_at hl 3 rfl) ?_
    refine lv_if_eq hx hb d61_283 rfl (fun h9 => ?_) (fun h9 => ?_)
    · have hF := (if_pos h9).symm.trans hF
      exact b318 k218 hk218 ls x1 x5 x6 x7 x8 st _ _ hF (hl.sub [0, 1, 2, 3, 4, 5] rfl) I
    · have hF := (if_neg h9).symm.trans hF
      refine lv_aload_n hx hb d61_286 rfl (lv_at hl 0 rfl) ?_
      refine lv_iload_n hx hb d61_287 rfl (lv_at hl 1 rfl) ?_
      refine lv_iload hx hb d61_288 (lv_at hl 2 rfl) ?_
      refine lv_bipush (v := 7) hx hb d61_290 (by decide) ?_
      refine lv_iadd hx hb d61_292 ?_
      refine lv_iload hx hb d61_293 (lv_at hl 2 rfl) ?_
      refine lv_bipush (v := 8) hx hb d61_295 (by decide) ?_
      refine lv_iadd hx hb d61_297 ?_
      refine lv_iload hx hb d61_298 (lv_at hl 5 rfl) ?_
      refine lv_bipush (v := 38) hx hb d61_300 (by decide) ?_
      refine lv_icmp_ne hx hb d61_302 rfl (fun h9 => ?_) (fun h9 => ?_)
      · have hF := (if_neg h9).symm.trans hF
        refine lv_iload hx hb d61_313 (lv_at hl 5 rfl) ?_
        exact b315 k218 hk218 ls x1 x5 x6 x7 x8 x8 (x5 + 8) (x5 + 7) x1 st _ _ hF (hl.sub [0, 1, 2, 3, 4, 5] rfl) I
      · have hF := (if_pos h9).symm.trans hF
        refine lv_aload_n hx hb d61_305 rfl (lv_at hl 0 rfl) ?_
        refine va_get (D := D) (ci := 2) (v := .int (st.1 18)) (C := kR2) (T := kT2) (N := 60) hx hb hts ku2 hown hK (hm_one I.1 mm_hr) 0 rfl rfl 18 (by decide) (hts _ ms_k1334) (fun _ h => h) rfl d61_306 ?_
        refine lv_i2c (v := ((st.1 18).toUInt32 % 65536).toInt32) hx hb d61_309 (rfl) ?_
        refine lv_goto hx hb d61_310 rfl ?_
        exact b315 k218 hk218 ls x1 x5 x6 x7 x8 (((st.1 18).toUInt32 % 65536).toInt32) (x5 + 8) (x5 + 7) x1 st _ _ hF (hl.sub [0, 1, 2, 3, 4, 5] rfl) I
  have b218 : ∀ n9 : Nat, ∀ (ls : Array Slot) (x1 : Int32) (x5 : Int32) (x6 : Int32) (x7 : Int32) (st : mT) (H : Heap) (locs : List Loc), g_attribute_218 n9 x1 x5 x6 x7 st = some q → lv_has ls 9 [(0, .ref r), (1, .int x1), (5, .int x5), (6, .int x6), (7, .int x7)] → hm_I D s0 s (mm_h dA h0 r M st) z0 H locs → W p l e { frames := 3, cells := 0, slots := 0, locals := 72 } s m ([.ref r, .int y1, .int y2, .int y3] : List Value).toArray below meth c H locs 0 0 (MQ below (ht_Q D s0 (fun vv h1 z1 => vv = some (.int q.1) ∧ h1 = mm_h dA h0 r M q.2 ∧ z1 = z0)) ([.ref r, .int y1, .int y2, .int y3] : List Value).toArray s 0 0 (fun q => s0.heap.size ≤ q)) (F0 m 218 ls []) := by
    intro n9
    induction n9 with
    | zero => intro ls x1 x5 x6 x7 st H locs hF; cases hF
    | succ n9 hk218 =>
    intro ls x1 x5 x6 x7 st H locs hF hl I
    unfold g_attribute_218 at hF
    refine lv_aload_n hx hb d61_218 rfl (lv_at hl 0 rfl) ?_
    refine va_get (D := D) (ci := 2) (v := .int (st.1 9)) (C := kR2) (T := kT2) (N := 60) hx hb hts ku2 hown hK (hm_one I.1 mm_hr) 0 rfl rfl 9 (by decide) (hts _ ms_k1325) (fun _ h => h) rfl d61_219 ?_
    refine lv_if_ge hx hb d61_222 rfl (fun h9 => ?_) (fun h9 => ?_)
    · have hF := (if_pos h9).symm.trans hF
      exact b344 ls x7 st _ _ hF (hl.sub [4] rfl) I
    · have hF := (if_neg h9).symm.trans hF
      refine lv_aload_n hx hb d61_225 rfl (lv_at hl 0 rfl) ?_
      refine lv_iload hx hb d61_226 (lv_at hl 4 rfl) ?_
      obtain ⟨q10, e9, hF⟩ := mm_bd hF
      refine ht_V (C := "MarkupStoreModel") (rest := []) (as := [.int x7]) X hl (cm_look l D dA s0 hE h0 r M hM z0 x7 st q10 e9) (List.forall_mem_cons.mpr ⟨ms_k1516, List.forall_mem_cons.mpr ⟨ms_k1518, List.forall_mem_cons.mpr ⟨ms_p46, List.forall_mem_cons.mpr ⟨ms_k7, List.forall_mem_cons.mpr ⟨ms_k1519, fun _ h => absurd h List.not_mem_nil⟩⟩⟩⟩⟩) ⟨rfl, by decide +kernel, by decide +kernel, (by decide +kernel : (parseMethodDescriptor "(I)C").map (fun d => d.parameters.length) = some 1)⟩ (hm_recv hK I rfl mm_hr) I ⟨rfl, rfl⟩ ⟨⟨Nat.le_of_ble_eq_true rfl, Nat.le_of_ble_eq_true rfl⟩, Nat.le_of_ble_eq_true rfl, Nat.le_of_ble_eq_true rfl⟩ rfl (Nat.le_of_ble_eq_true rfl) d61_228 (fun vv h1 z1 H locs hR I9 => ?_)
      obtain ⟨e1, e2, e3⟩ := hR
      rw [e2, e3] at I9
      clear I e2 e3 e9
      have I := I9
      clear I9
      subst e1
      refine W.eq (g2 := F0 m 231 ls [.int q10.1]) rfl ?_
      refine lv_bipush (v := 34) hx hb d61_231 (by decide) ?_
      refine lv_icmp_eq hx hb d61_233 rfl (fun h9 => ?_) (fun h9 => ?_)
      · have hF := (if_pos h9).symm.trans hF
        exact b344 ls x7 q10.2 _ _ hF (hl.sub [4] rfl) I
      · have hF := (if_neg h9).symm.trans hF
        refine lv_aload_n hx hb d61_236 rfl (lv_at hl 0 rfl) ?_
        refine lv_iload hx hb d61_237 (lv_at hl 4 rfl) ?_
        obtain ⟨q11, e9, hF⟩ := mm_bd hF
        refine ht_V (C := "MarkupStoreModel") (rest := []) (as := [.int x7]) X hl (cm_look l D dA s0 hE h0 r M hM z0 x7 q10.2 q11 e9) (List.forall_mem_cons.mpr ⟨ms_k1516, List.forall_mem_cons.mpr ⟨ms_k1518, List.forall_mem_cons.mpr ⟨ms_p46, List.forall_mem_cons.mpr ⟨ms_k7, List.forall_mem_cons.mpr ⟨ms_k1519, fun _ h => absurd h List.not_mem_nil⟩⟩⟩⟩⟩) ⟨rfl, by decide +kernel, by decide +kernel, (by decide +kernel : (parseMethodDescriptor "(I)C").map (fun d => d.parameters.length) = some 1)⟩ (hm_recv hK I rfl mm_hr) I ⟨rfl, rfl⟩ ⟨⟨Nat.le_of_ble_eq_true rfl, Nat.le_of_ble_eq_true rfl⟩, Nat.le_of_ble_eq_true rfl, Nat.le_of_ble_eq_true rfl⟩ rfl (Nat.le_of_ble_eq_true rfl) d61_239 (fun vv h1 z1 H locs hR I9 => ?_)
        obtain ⟨e1, e2, e3⟩ := hR
        rw [e2, e3] at I9
        clear I e2 e3 e9
        have I := I9
        clear I9
        subst e1
        refine W.eq (g2 := F0 m 242 ls [.int q11.1]) rfl ?_
        refine lv_istore hx hb d61_242 hl (by decide) rfl (fun ls hl => ?_)
        have hl : lv_has ls 9 [(8, .int q11.1), (0, .ref r), (1, .int x1), (5, .int x5), (6, .int x6), (7, .int x7)] := hl
        refine lv_iload hx hb d61_244 (lv_at hl 0 rfl) ?_
        refine lv_if_eq hx hb d61_246 rfl (fun h9 => ?_) (fun h9 => ?_)
        · have hF := (if_pos h9).symm.trans hF
          exact b272 (g_attribute_218 n9) hk218 ls x1 x5 x6 x7 q11.2 _ _ hF (hl.sub [1, 2, 3, 4, 5] rfl) I
        · have hF := (if_neg h9).symm.trans hF
          refine lv_iload hx hb d61_249 (lv_at hl 0 rfl) ?_
          refine lv_bipush (v := 60) hx hb d61_251 (by decide) ?_
          refine lv_icmp_eq hx hb d61_253 rfl (fun h9 => ?_) (fun h9 => ?_)
          · have hF := (if_pos h9).symm.trans hF
            exact b272 (g_attribute_218 n9) hk218 ls x1 x5 x6 x7 q11.2 _ _ hF (hl.sub [1, 2, 3, 4, 5] rfl) I
          · have hF := (if_neg h9).symm.trans hF
            refine lv_iload hx hb d61_256 (lv_at hl 0 rfl) ?_
            refine lv_bipush (v := 38) hx hb d61_258 (by decide) ?_
            refine lv_icmp_ne hx hb d61_260 rfl (fun h9 => ?_) (fun h9 => ?_)
            · have hF := (if_neg h9).symm.trans hF
              exact b281 (g_attribute_218 n9) hk218 ls x1 x5 x6 x7 q11.1 q11.2 _ _ hF (hl.sub [1, 2, 3, 4, 5, 0] rfl) I
            · have hF := (if_pos h9).symm.trans hF
              refine lv_aload_n hx hb d61_263 rfl (lv_at hl 1 rfl) ?_
              refine lv_iload hx hb d61_264 (lv_at hl 5 rfl) ?_
              obtain ⟨q14, e9, hF⟩ := mm_bd hF
              refine ht_V (C := "MarkupStoreModel") (rest := []) (as := [.int x7]) X hl (cm_isEntity l D dA s0 hE h0 r M hM z0 x7 q11.2 q14 e9) (List.forall_mem_cons.mpr ⟨ms_k1555, List.forall_mem_cons.mpr ⟨ms_k1557, List.forall_mem_cons.mpr ⟨ms_p55, List.forall_mem_cons.mpr ⟨ms_k7, List.forall_mem_cons.mpr ⟨ms_k1558, fun _ h => absurd h List.not_mem_nil⟩⟩⟩⟩⟩) ⟨rfl, by decide +kernel, by decide +kernel, (by decide +kernel : (parseMethodDescriptor "(I)Z").map (fun d => d.parameters.length) = some 1)⟩ (hm_recv hK I rfl mm_hr) I ⟨rfl, rfl⟩ ⟨⟨Nat.le_of_ble_eq_true rfl, Nat.le_of_ble_eq_true rfl⟩, Nat.le_of_ble_eq_true rfl, Nat.le_of_ble_eq_true rfl⟩ rfl (Nat.le_of_ble_eq_true rfl) d61_266 (fun vv h1 z1 H locs hR I9 => ?_)
              obtain ⟨e1, e2, e3⟩ := hR
              rw [e2, e3] at I9
              clear I e2 e3 e9
              have I := I9
              clear I9
              subst e1
              refine W.eq (g2 := F0 m 269 ls [.int q14.1]) rfl ?_
              refine lv_if_ne hx hb d61_269 rfl (fun h9 => ?_) (fun h9 => ?_)
              · have hF := (if_neg h9).symm.trans hF
                exact b281 (g_attribute_218 n9) hk218 ls x1 x5 x6 x7 q11.1 q14.2 _ _ hF (hl.sub [1, 2, 3, 4, 5, 0] rfl) I
              · have hF := (if_pos h9).symm.trans hF
                exact b272 (g_attribute_218 n9) hk218 ls x1 x5 x6 x7 q14.2 _ _ hF (hl.sub [1, 2, 3, 4, 5] rfl) I
  have b210 : ∀ (ls : Array Slot) (x1 : Int32) (x3 : Int32) (x4 : Int32) (x5 : Int32) (x6 : Int32) (st : mT) (H : Heap) (locs : List Loc), g_attribute_210 x1 x3 x4 x5 x6 st = some q → lv_has ls 9 [(0, .ref r), (1, .int x1), (3, .int x3), (4, .int x4), (5, .int x5), (6, .int x6)] → hm_I D s0 s (mm_h dA h0 r M st) z0 H locs → W p l e { frames := 3, cells := 0, slots := 0, locals := 72 } s m ([.ref r, .int y1, .int y2, .int y3] : List Value).toArray below meth c H locs 0 0 (MQ below (ht_Q D s0 (fun vv h1 z1 => vv = some (.int q.1) ∧ h1 = mm_h dA h0 r M q.2 ∧ z1 = z0)) ([.ref r, .int y1, .int y2, .int y3] : List Value).toArray s 0 0 (fun q => s0.heap.size ≤ q)) (F0 m 210 ls []) := by
    intro ls x1 x3 x4 x5 x6 st H locs hF hl I
    unfold g_attribute_210 at hF
    refine lv_iload_n hx hb d61_210 rfl (lv_at hl 2 rfl) ?_
    refine lv_iload hx hb d61_211 (lv_at hl 3 rfl) ?_
    refine lv_iadd hx hb d61_213 ?_
    refine lv_iconst (v := 2) hx hb d61_214 (by decide) ?_
    refine lv_iadd hx hb d61_215 ?_
    refine lv_istore hx hb d61_216 hl (by decide) rfl (fun ls hl => ?_)
    have hl : lv_has ls 9 [(7, .int ((x3 + x4) + 2)), (0, .ref r), (1, .int x1), (3, .int x3), (4, .int x4), (5, .int x5), (6, .int x6)] := hl
    exact b218 mF ls x1 x5 x6 ((x3 + x4) + 2) st _ _ hF (hl.sub [1, 2, 5, 6, 0] rfl) I
  have b175 : ∀ (ls : Array Slot) (x1 : Int32) (x2 : Int32) (x3 : Int32) (x4 : Int32) (x5 : Int32) (x6 : Int32) (st : mT) (H : Heap) (locs : List Loc), g_attribute_175 x1 x2 x3 x4 x5 x6 st = some q → lv_has ls 9 [(0, .ref r), (1, .int x1), (2, .int x2), (3, .int x3), (4, .int x4), (5, .int x5), (6, .int x6)] → hm_I D s0 s (mm_h dA h0 r M st) z0 H locs → W p l e { frames := 3, cells := 0, slots := 0, locals := 72 } s m ([.ref r, .int y1, .int y2, .int y3] : List Value).toArray below meth c H locs 0 0 (MQ below (ht_Q D s0 (fun vv h1 z1 => vv = some (.int q.1) ∧ h1 = mm_h dA h0 r M q.2 ∧ z1 = z0)) ([.ref r, .int y1, .int y2, .int y3] : List Value).toArray s 0 0 (fun q => s0.heap.size ≤ q)) (F0 m 175 ls []) := by
    intro ls x1 x2 x3 x4 x5 x6 st H locs hF hl I
    unfold g_attribute_175 at hF
    refine lv_iload hx hb d61_175 (lv_at hl 6 rfl) ?_
    refine lv_if_eq hx hb d61_177 rfl (fun h9 => ?_) (fun h9 => ?_)
    · have hF := (if_pos h9).symm.trans hF
      exact b210 ls x1 x3 x4 x5 x6 st _ _ hF (hl.sub [0, 1, 3, 4, 5, 6] rfl) I
    · have hF := (if_neg h9).symm.trans hF
      refine lv_aload_n hx hb d61_180 rfl (lv_at hl 0 rfl) ?_
      refine va_get (D := D) (ci := 2) (v := .ref (M 2)) (C := kR2) (T := kT2) (N := 60) hx hb hts ku2 hown hK (hm_one I.1 mm_hr) 0 rfl rfl 2 (by decide) (hts _ ms_k1318) (fun _ h => h) rfl d61_181 ?_
      refine lv_sipush (v := 128) hx hb d61_184 (by decide) ?_
      refine lv_iload_n hx hb d61_187 rfl (lv_at hl 1 rfl) ?_
      refine lv_imul hx hb d61_188 ?_
      refine lv_iload hx hb d61_189 (lv_at hl 5 rfl) ?_
      refine lv_iadd hx hb d61_191 ?_
      refine lv_iload hx hb d61_192 (lv_at hl 4 rfl) ?_
      obtain ⟨i9, hF⟩ := mm_ix_some hF
      obtain ⟨st15, e9, hF⟩ := mm_lt_some hF
      refine mm_iast (k := 2) X I hM (by decide) 0 (fun _ => rfl) rfl i9 e9 d61_194 (fun H locs I => ?_)
      clear e9 i9
      refine lv_aload_n hx hb d61_195 rfl (lv_at hl 0 rfl) ?_
      refine va_get (D := D) (ci := 2) (v := .ref (M 2)) (C := kR2) (T := kT2) (N := 60) hx hb hts ku2 hown hK (hm_one I.1 mm_hr) 0 rfl rfl 2 (by decide) (hts _ ms_k1318) (fun _ h => h) rfl d61_196 ?_
      refine lv_sipush (v := 128) hx hb d61_199 (by decide) ?_
      refine lv_iload_n hx hb d61_202 rfl (lv_at hl 1 rfl) ?_
      refine lv_imul hx hb d61_203 ?_
      refine lv_iconst (v := 5) hx hb d61_204 (by decide) ?_
      refine lv_iadd hx hb d61_205 ?_
      refine lv_iload_n hx hb d61_206 rfl (lv_at hl 2 rfl) ?_
      refine lv_iconst (v := 1) hx hb d61_207 (by decide) ?_
      refine lv_iadd hx hb d61_208 ?_
      obtain ⟨i9, hF⟩ := mm_ix_some hF
      obtain ⟨st17, e9, hF⟩ := mm_lt_some hF
      refine mm_iast (k := 2) X I hM (by decide) 0 (fun _ => rfl) rfl i9 e9 d61_209 (fun H locs I => ?_)
      clear e9 i9
      exact b210 ls x1 x3 x4 x5 x6 st17 _ _ hF (hl.sub [0, 1, 3, 4, 5, 6] rfl) I
  have b131 : ∀ n9 : Nat, ∀ (ls : Array Slot) (x1 : Int32) (x2 : Int32) (x3 : Int32) (x4 : Int32) (x5 : Int32) (x6 : Int32) (x7 : Int32) (st : mT) (H : Heap) (locs : List Loc), g_attribute_131 n9 x1 x2 x3 x4 x5 x6 x7 st = some q → lv_has ls 9 [(0, .ref r), (1, .int x1), (2, .int x2), (3, .int x3), (4, .int x4), (5, .int x5), (6, .int x6), (7, .int x7)] → hm_I D s0 s (mm_h dA h0 r M st) z0 H locs → W p l e { frames := 3, cells := 0, slots := 0, locals := 72 } s m ([.ref r, .int y1, .int y2, .int y3] : List Value).toArray below meth c H locs 0 0 (MQ below (ht_Q D s0 (fun vv h1 z1 => vv = some (.int q.1) ∧ h1 = mm_h dA h0 r M q.2 ∧ z1 = z0)) ([.ref r, .int y1, .int y2, .int y3] : List Value).toArray s 0 0 (fun q => s0.heap.size ≤ q)) (F0 m 131 ls []) := by
    intro n9
    induction n9 with
    | zero => intro ls x1 x2 x3 x4 x5 x6 x7 st H locs hF; cases hF
    | succ n9 hk131 =>
    intro ls x1 x2 x3 x4 x5 x6 x7 st H locs hF hl I
    unfold g_attribute_131 at hF
    refine lv_iload hx hb d61_131 (lv_at hl 7 rfl) ?_
    refine lv_iload hx hb d61_133 (lv_at hl 4 rfl) ?_
    refine lv_icmp_ge hx hb d61_135 rfl (fun h9 => ?_) (fun h9 => ?_)
    · have hF := (if_pos h9).symm.trans hF
      exact b175 ls x1 x2 x3 x4 x5 x6 st _ _ hF (hl.sub [0, 1, 2, 3, 4, 5, 6] rfl) I
    · have hF := (if_neg h9).symm.trans hF
      refine lv_iload hx hb d61_138 (lv_at hl 6 rfl) ?_
      refine lv_if_eq hx hb d61_140 rfl (fun h9 => ?_) (fun h9 => ?_)
      · have hF := (if_pos h9).symm.trans hF
        exact b175 ls x1 x2 x3 x4 x5 x6 st _ _ hF (hl.sub [0, 1, 2, 3, 4, 5, 6] rfl) I
      · have hF := (if_neg h9).symm.trans hF
        refine lv_aload_n hx hb d61_143 rfl (lv_at hl 0 rfl) ?_
        refine va_get (D := D) (ci := 2) (v := .ref (M 2)) (C := kR2) (T := kT2) (N := 60) hx hb hts ku2 hown hK (hm_one I.1 mm_hr) 0 rfl rfl 2 (by decide) (hts _ ms_k1318) (fun _ h => h) rfl d61_144 ?_
        refine lv_sipush (v := 128) hx hb d61_147 (by decide) ?_
        refine lv_iload_n hx hb d61_150 rfl (lv_at hl 1 rfl) ?_
        refine lv_imul hx hb d61_151 ?_
        refine lv_iload hx hb d61_152 (lv_at hl 5 rfl) ?_
        refine lv_iadd hx hb d61_154 ?_
        refine lv_iconst (v := 1) hx hb d61_155 (by decide) ?_
        refine lv_iadd hx hb d61_156 ?_
        refine lv_iload hx hb d61_157 (lv_at hl 7 rfl) ?_
        refine lv_iadd hx hb d61_159 ?_
        refine lv_aload_n hx hb d61_160 rfl (lv_at hl 0 rfl) ?_
        refine lv_iload_n hx hb d61_161 rfl (lv_at hl 3 rfl) ?_
        refine lv_iload hx hb d61_162 (lv_at hl 7 rfl) ?_
        refine lv_iadd hx hb d61_164 ?_
        obtain ⟨q19, e9, hF⟩ := mm_bd hF
        refine ht_V (C := "MarkupStoreModel") (rest := [.int ((((128 * x1) + x5) + 1) + x7), .ref (M 2)]) (as := [.int (x3 + x7)]) X hl (cm_look l D dA s0 hE h0 r M hM z0 (x3 + x7) st q19 e9) (List.forall_mem_cons.mpr ⟨ms_k1516, List.forall_mem_cons.mpr ⟨ms_k1518, List.forall_mem_cons.mpr ⟨ms_p46, List.forall_mem_cons.mpr ⟨ms_k7, List.forall_mem_cons.mpr ⟨ms_k1519, fun _ h => absurd h List.not_mem_nil⟩⟩⟩⟩⟩) ⟨rfl, by decide +kernel, by decide +kernel, (by decide +kernel : (parseMethodDescriptor "(I)C").map (fun d => d.parameters.length) = some 1)⟩ (hm_recv hK I rfl mm_hr) I ⟨rfl, rfl⟩ ⟨⟨Nat.le_of_ble_eq_true rfl, Nat.le_of_ble_eq_true rfl⟩, Nat.le_of_ble_eq_true rfl, Nat.le_of_ble_eq_true rfl⟩ rfl (Nat.le_of_ble_eq_true rfl) d61_165 (fun vv h1 z1 H locs hR I9 => ?_)
        obtain ⟨e1, e2, e3⟩ := hR
        rw [e2, e3] at I9
        clear I e2 e3 e9
        have I := I9
        clear I9
        subst e1
        refine W.eq (g2 := F0 m 168 ls [.int q19.1, .int ((((128 * x1) + x5) + 1) + x7), .ref (M 2)]) rfl ?_
        obtain ⟨i9, hF⟩ := mm_ix_some hF
        obtain ⟨st20, e9, hF⟩ := mm_lt_some hF
        refine mm_iast (k := 2) X I hM (by decide) 0 (fun _ => rfl) rfl i9 e9 d61_168 (fun H locs I => ?_)
        clear e9 i9
        refine lv_iinc (k := 7) (v := (x7 + 1)) hx hb d61_169 hl rfl (rfl) (by decide) rfl (fun ls hl => ?_)
        have hl : lv_has ls 9 [(7, .int (x7 + 1)), (0, .ref r), (1, .int x1), (2, .int x2), (3, .int x3), (4, .int x4), (5, .int x5), (6, .int x6)] := hl
        refine lv_goto hx hb d61_172 rfl ?_
        exact hk131 ls x1 x2 x3 x4 x5 x6 (x7 + 1) st20 _ _ hF (hl.sub [1, 2, 3, 4, 5, 6, 7, 0] rfl) I
  have b125 : ∀ (ls : Array Slot) (x1 : Int32) (x2 : Int32) (x3 : Int32) (x4 : Int32) (x5 : Int32) (x6 : Int32) (w0 : Int32) (st : mT) (H : Heap) (locs : List Loc), g_attribute_125 x1 x2 x3 x4 x5 x6 w0 st = some q → lv_has ls 9 [(0, .ref r), (1, .int x1), (2, .int x2), (3, .int x3), (4, .int x4), (5, .int x5), (6, .int x6)] → hm_I D s0 s (mm_h dA h0 r M st) z0 H locs → W p l e { frames := 3, cells := 0, slots := 0, locals := 72 } s m ([.ref r, .int y1, .int y2, .int y3] : List Value).toArray below meth c H locs 0 0 (MQ below (ht_Q D s0 (fun vv h1 z1 => vv = some (.int q.1) ∧ h1 = mm_h dA h0 r M q.2 ∧ z1 = z0)) ([.ref r, .int y1, .int y2, .int y3] : List Value).toArray s 0 0 (fun q => s0.heap.size ≤ q)) (F0 m 125 ls [.int w0, .ref r]) := by
    intro ls x1 x2 x3 x4 x5 x6 w0 st H locs hF hl I
    unfold g_attribute_125 at hF
    obtain ⟨hz9, hF⟩ := mm_zc_some hF
    obtain ⟨st9, e9, hF⟩ := mm_lt_some hF
    refine mm_put (k := 11) (ty := .boolean) X I (by decide) ms_k1327 rfl rfl (by decide +kernel) hz9 rfl e9 d61_125 (fun H locs I => ?_)
    clear e9
    refine lv_iconst (v := 0) hx hb d61_128 (by decide) ?_
    refine lv_istore hx hb d61_129 hl (by decide) rfl (fun ls hl => ?_)
    have hl : lv_has ls 9 [(7, .int 0), (0, .ref r), (1, .int x1), (2, .int x2), (3, .int x3), (4, .int x4), (5, .int x5), (6, .int x6)] := hl
    exact b131 mF ls x1 x2 x3 x4 x5 x6 0 st9 _ _ hF (hl.sub [1, 2, 3, 4, 5, 6, 7, 0] rfl) I
  have b120 : ∀ (ls : Array Slot) (x1 : Int32) (x2 : Int32) (x3 : Int32) (x4 : Int32) (x5 : Int32) (x6 : Int32) (st : mT) (H : Heap) (locs : List Loc), g_attribute_120 x1 x2 x3 x4 x5 x6 st = some q → lv_has ls 9 [(0, .ref r), (1, .int x1), (2, .int x2), (3, .int x3), (4, .int x4), (5, .int x5), (6, .int x6)] → hm_I D s0 s (mm_h dA h0 r M st) z0 H locs → W p l e { frames := 3, cells := 0, slots := 0, locals := 72 } s m ([.ref r, .int y1, .int y2, .int y3] : List Value).toArray below meth c H locs 0 0 (MQ below (ht_Q D s0 (fun vv h1 z1 => vv = some (.int q.1) ∧ h1 = mm_h dA h0 r M q.2 ∧ z1 = z0)) ([.ref r, .int y1, .int y2, .int y3] : List Value).toArray s 0 0 (fun q => s0.heap.size ≤ q)) (F0 m 120 ls [.ref r]) := by
    intro ls x1 x2 x3 x4 x5 x6 st H locs hF hl I
    unfold g_attribute_120 at hF
    refine lv_iconst (v := 1) hx hb d61_120 (by decide) ?_
    refine lv_goto hx hb d61_121 rfl ?_
    exact b125 ls x1 x2 x3 x4 x5 x6 1 st _ _ hF (hl.sub [0, 1, 2, 3, 4, 5, 6] rfl) I
  have b105 : ∀ (ls : Array Slot) (x1 : Int32) (x2 : Int32) (x3 : Int32) (x4 : Int32) (x5 : Int32) (w0 : Int32) (st : mT) (H : Heap) (locs : List Loc), g_attribute_105 x1 x2 x3 x4 x5 w0 st = some q → lv_has ls 9 [(0, .ref r), (1, .int x1), (2, .int x2), (3, .int x3), (4, .int x4), (5, .int x5)] → hm_I D s0 s (mm_h dA h0 r M st) z0 H locs → W p l e { frames := 3, cells := 0, slots := 0, locals := 72 } s m ([.ref r, .int y1, .int y2, .int y3] : List Value).toArray below meth c H locs 0 0 (MQ below (ht_Q D s0 (fun vv h1 z1 => vv = some (.int q.1) ∧ h1 = mm_h dA h0 r M q.2 ∧ z1 = z0)) ([.ref r, .int y1, .int y2, .int y3] : List Value).toArray s 0 0 (fun q => s0.heap.size ≤ q)) (F0 m 105 ls [.int w0]) := by
    intro ls x1 x2 x3 x4 x5 w0 st H locs hF hl I
    unfold g_attribute_105 at hF
    refine lv_istore hx hb d61_105 hl (by decide) rfl (fun ls hl => ?_)
    have hl : lv_has ls 9 [(6, .int w0), (0, .ref r), (1, .int x1), (2, .int x2), (3, .int x3), (4, .int x4), (5, .int x5)] := hl
    refine lv_aload_n hx hb d61_107 rfl (lv_at hl 1 rfl) ?_
    refine lv_aload_n hx hb d61_108 rfl (lv_at hl 1 rfl) ?_
    refine va_get (D := D) (ci := 2) (v := .int (st.1 11)) (C := kR2) (T := kT2) (N := 60) hx hb hts ku2 hown hK (hm_one I.1 mm_hr) 0 rfl rfl 11 (by decide) (hts _ ms_k1327) (fun _ h => h) rfl d61_109 ?_
    refine lv_if_ne hx hb d61_112 rfl (fun h9 => ?_) (fun h9 => ?_)
    · have hF := (if_neg h9).symm.trans hF
      exact b120 ls x1 x2 x3 x4 x5 w0 st _ _ hF (hl.sub [1, 2, 3, 4, 5, 6, 0] rfl) I
    · have hF := (if_pos h9).symm.trans hF
      refine lv_iload_n hx hb d61_115 rfl (lv_at hl 3 rfl) ?_
      refine lv_iconst (v := 3) hx hb d61_116 (by decide) ?_
      refine lv_icmp_lt hx hb d61_117 rfl (fun h9 => ?_) (fun h9 => ?_)
      · have hF := (if_pos h9).symm.trans hF
        refine lv_iconst (v := 0) hx hb d61_124 (by decide) ?_
        exact b125 ls x1 x2 x3 x4 x5 w0 0 st _ _ hF (hl.sub [1, 2, 3, 4, 5, 6, 0] rfl) I
      · have hF := (if_neg h9).symm.trans hF
        exact b120 ls x1 x2 x3 x4 x5 w0 st _ _ hF (hl.sub [1, 2, 3, 4, 5, 6, 0] rfl) I
  have b104 : ∀ (ls : Array Slot) (x1 : Int32) (x2 : Int32) (x3 : Int32) (x4 : Int32) (x5 : Int32) (st : mT) (H : Heap) (locs : List Loc), g_attribute_104 x1 x2 x3 x4 x5 st = some q → lv_has ls 9 [(0, .ref r), (1, .int x1), (2, .int x2), (3, .int x3), (4, .int x4), (5, .int x5)] → hm_I D s0 s (mm_h dA h0 r M st) z0 H locs → W p l e { frames := 3, cells := 0, slots := 0, locals := 72 } s m ([.ref r, .int y1, .int y2, .int y3] : List Value).toArray below meth c H locs 0 0 (MQ below (ht_Q D s0 (fun vv h1 z1 => vv = some (.int q.1) ∧ h1 = mm_h dA h0 r M q.2 ∧ z1 = z0)) ([.ref r, .int y1, .int y2, .int y3] : List Value).toArray s 0 0 (fun q => s0.heap.size ≤ q)) (F0 m 104 ls []) := by
    intro ls x1 x2 x3 x4 x5 st H locs hF hl I
    unfold g_attribute_104 at hF
    refine lv_iconst (v := 0) hx hb d61_104 (by decide) ?_
    exact b105 ls x1 x2 x3 x4 x5 0 st _ _ hF (hl.sub [0, 1, 2, 3, 4, 5] rfl) I
  have b28 : ∀ (ls : Array Slot) (x1 : Int32) (x2 : Int32) (x3 : Int32) (x4 : Int32) (st : mT) (H : Heap) (locs : List Loc), g_attribute_28 x1 x2 x3 x4 st = some q → lv_has ls 9 [(0, .ref r), (1, .int x1), (2, .int x2), (3, .int x3), (4, .int x4)] → hm_I D s0 s (mm_h dA h0 r M st) z0 H locs → W p l e { frames := 3, cells := 0, slots := 0, locals := 72 } s m ([.ref r, .int y1, .int y2, .int y3] : List Value).toArray below meth c H locs 0 0 (MQ below (ht_Q D s0 (fun vv h1 z1 => vv = some (.int q.1) ∧ h1 = mm_h dA h0 r M q.2 ∧ z1 = z0)) ([.ref r, .int y1, .int y2, .int y3] : List Value).toArray s 0 0 (fun q => s0.heap.size ≤ q)) (F0 m 28 ls []) := by
    intro ls x1 x2 x3 x4 st H locs hF hl I
    unfold g_attribute_28 at hF
    refine lv_aload_n hx hb d61_28 rfl (lv_at hl 0 rfl) ?_
    refine va_get (D := D) (ci := 2) (v := .int (st.1 9)) (C := kR2) (T := kT2) (N := 60) hx hb hts ku2 hown hK (hm_one I.1 mm_hr) 0 rfl rfl 9 (by decide) (hts _ ms_k1325) (fun _ h => h) rfl d61_29 ?_
    refine lv_if_ge hx hb d61_32 rfl (fun h9 => ?_) (fun h9 => ?_)
    · have hF := (if_pos h9).symm.trans hF
      exact b63 ls x3 st _ _ hF (hl.sub [3] rfl) I
    · have hF := (if_neg h9).symm.trans hF
      refine lv_aload_n hx hb d61_35 rfl (lv_at hl 0 rfl) ?_
      refine lv_iload_n hx hb d61_36 rfl (lv_at hl 3 rfl) ?_
      refine lv_iload hx hb d61_37 (lv_at hl 4 rfl) ?_
      refine lv_iadd hx hb d61_39 ?_
      refine lv_bipush (v := 61) hx hb d61_40 (by decide) ?_
      obtain ⟨q3, e9, hF⟩ := mm_bd hF
      refine ht_V (C := "MarkupStoreModel") (rest := []) (as := [.int (x3 + x4), .int 61]) X hl (cm_must l D dA s0 hE h0 r M hM z0 (x3 + x4) 61 st q3 e9) (List.forall_mem_cons.mpr ⟨ms_k1551, List.forall_mem_cons.mpr ⟨ms_k1553, List.forall_mem_cons.mpr ⟨ms_p54, List.forall_mem_cons.mpr ⟨ms_k7, List.forall_mem_cons.mpr ⟨ms_k1554, fun _ h => absurd h List.not_mem_nil⟩⟩⟩⟩⟩) ⟨rfl, by decide +kernel, by decide +kernel, (by decide +kernel : (parseMethodDescriptor "(IC)Z").map (fun d => d.parameters.length) = some 2)⟩ (hm_recv hK I rfl mm_hr) I ⟨rfl, rfl⟩ ⟨⟨Nat.le_of_ble_eq_true rfl, Nat.le_of_ble_eq_true rfl⟩, Nat.le_of_ble_eq_true rfl, Nat.le_of_ble_eq_true rfl⟩ rfl (Nat.le_of_ble_eq_true rfl) d61_42 (fun vv h1 z1 H locs hR I9 => ?_)
      obtain ⟨e1, e2, e3⟩ := hR
      rw [e2, e3] at I9
      clear I e2 e3 e9
      have I := I9
      clear I9
      subst e1
      refine W.eq (g2 := F0 m 45 ls [.int q3.1]) rfl ?_
      refine lv_if_eq hx hb d61_45 rfl (fun h9 => ?_) (fun h9 => ?_)
      · have hF := (if_pos h9).symm.trans hF
        exact b63 ls x3 q3.2 _ _ hF (hl.sub [3] rfl) I
      · have hF := (if_neg h9).symm.trans hF
        refine lv_aload_n hx hb d61_48 rfl (lv_at hl 0 rfl) ?_
        refine lv_iload_n hx hb d61_49 rfl (lv_at hl 3 rfl) ?_
        refine lv_iload hx hb d61_50 (lv_at hl 4 rfl) ?_
        refine lv_iadd hx hb d61_52 ?_
        refine lv_iconst (v := 1) hx hb d61_53 (by decide) ?_
        refine lv_iadd hx hb d61_54 ?_
        refine lv_bipush (v := 34) hx hb d61_55 (by decide) ?_
        obtain ⟨q4, e9, hF⟩ := mm_bd hF
        refine ht_V (C := "MarkupStoreModel") (rest := []) (as := [.int ((x3 + x4) + 1), .int 34]) X hl (cm_must l D dA s0 hE h0 r M hM z0 ((x3 + x4) + 1) 34 q3.2 q4 e9) (List.forall_mem_cons.mpr ⟨ms_k1551, List.forall_mem_cons.mpr ⟨ms_k1553, List.forall_mem_cons.mpr ⟨ms_p54, List.forall_mem_cons.mpr ⟨ms_k7, List.forall_mem_cons.mpr ⟨ms_k1554, fun _ h => absurd h List.not_mem_nil⟩⟩⟩⟩⟩) ⟨rfl, by decide +kernel, by decide +kernel, (by decide +kernel : (parseMethodDescriptor "(IC)Z").map (fun d => d.parameters.length) = some 2)⟩ (hm_recv hK I rfl mm_hr) I ⟨rfl, rfl⟩ ⟨⟨Nat.le_of_ble_eq_true rfl, Nat.le_of_ble_eq_true rfl⟩, Nat.le_of_ble_eq_true rfl, Nat.le_of_ble_eq_true rfl⟩ rfl (Nat.le_of_ble_eq_true rfl) d61_57 (fun vv h1 z1 H locs hR I9 => ?_)
        obtain ⟨e1, e2, e3⟩ := hR
        rw [e2, e3] at I9
        clear I e2 e3 e9
        have I := I9
        clear I9
        subst e1
        refine W.eq (g2 := F0 m 60 ls [.int q4.1]) rfl ?_
        refine lv_if_ne hx hb d61_60 rfl (fun h9 => ?_) (fun h9 => ?_)
        · have hF := (if_neg h9).symm.trans hF
          refine lv_aload_n hx hb d61_65 rfl (lv_at hl 0 rfl) ?_
          refine va_get (D := D) (ci := 2) (v := .ref (M 20)) (C := kR2) (T := kT2) (N := 60) hx hb hts ku2 hown hK (hm_one I.1 mm_hr) 0 rfl rfl 20 (by decide) (hts _ ms_k1336) (fun _ h => h) rfl d61_66 ?_
          refine lv_iload_n hx hb d61_69 rfl (lv_at hl 2 rfl) ?_
          refine lv_iload_n hx hb d61_70 rfl (lv_at hl 3 rfl) ?_
          obtain ⟨i9, hF⟩ := mm_ix_some hF
          obtain ⟨st5, e9, hF⟩ := mm_lt_some hF
          refine mm_iast (k := 20) X I hM (by decide) 0 (fun _ => rfl) rfl i9 e9 d61_71 (fun H locs I => ?_)
          clear e9 i9
          refine lv_aload_n hx hb d61_72 rfl (lv_at hl 0 rfl) ?_
          refine va_get (D := D) (ci := 2) (v := .ref (M 21)) (C := kR2) (T := kT2) (N := 60) hx hb hts ku2 hown hK (hm_one I.1 mm_hr) 0 rfl rfl 21 (by decide) (hts _ ms_k1337) (fun _ h => h) rfl d61_73 ?_
          refine lv_iload_n hx hb d61_76 rfl (lv_at hl 2 rfl) ?_
          refine lv_iload hx hb d61_77 (lv_at hl 4 rfl) ?_
          obtain ⟨i9, hF⟩ := mm_ix_some hF
          obtain ⟨st7, e9, hF⟩ := mm_lt_some hF
          refine mm_iast (k := 21) X I hM (by decide) 0 (fun _ => rfl) rfl i9 e9 d61_79 (fun H locs I => ?_)
          clear e9 i9
          refine lv_bipush (v := 44) hx hb d61_80 (by decide) ?_
          refine lv_bipush (v := 28) hx hb d61_82 (by decide) ?_
          refine lv_iload_n hx hb d61_84 rfl (lv_at hl 2 rfl) ?_
          refine lv_imul hx hb d61_85 ?_
          refine lv_iadd hx hb d61_86 ?_
          refine lv_istore hx hb d61_87 hl (by decide) rfl (fun ls hl => ?_)
          have hl : lv_has ls 9 [(5, .int (44 + (28 * x2))), (0, .ref r), (1, .int x1), (2, .int x2), (3, .int x3), (4, .int x4)] := hl
          refine lv_iload_n hx hb d61_89 rfl (lv_at hl 3 rfl) ?_
          refine lv_iconst (v := 3) hx hb d61_90 (by decide) ?_
          refine lv_icmp_ge hx hb d61_91 rfl (fun h9 => ?_) (fun h9 => ?_)
          · have hF := (if_pos h9).symm.trans hF
            exact b104 ls x1 x2 x3 x4 (44 + (28 * x2)) st7 _ _ hF (hl.sub [1, 2, 3, 4, 5, 0] rfl) I
          · have hF := (if_neg h9).symm.trans hF
            refine lv_iload_n hx hb d61_94 rfl (lv_at hl 2 rfl) ?_
            refine lv_bipush (v := 40) hx hb d61_95 (by decide) ?_
            refine lv_icmp_ge hx hb d61_97 rfl (fun h9 => ?_) (fun h9 => ?_)
            · have hF := (if_pos h9).symm.trans hF
              exact b104 ls x1 x2 x3 x4 (44 + (28 * x2)) st7 _ _ hF (hl.sub [1, 2, 3, 4, 5, 0] rfl) I
            · have hF := (if_neg h9).symm.trans hF
              refine lv_iconst (v := 1) hx hb d61_100 (by decide) ?_
              refine lv_goto hx hb d61_101 rfl ?_
              exact b105 ls x1 x2 x3 x4 (44 + (28 * x2)) 1 st7 _ _ hF (hl.sub [1, 2, 3, 4, 5, 0] rfl) I
        · have hF := (if_pos h9).symm.trans hF
          exact b63 ls x3 q4.2 _ _ hF (hl.sub [3] rfl) I
  have b23 : ∀ (ls : Array Slot) (x1 : Int32) (x2 : Int32) (x3 : Int32) (x4 : Int32) (st : mT) (H : Heap) (locs : List Loc), g_attribute_23 x1 x2 x3 x4 st = some q → lv_has ls 9 [(0, .ref r), (1, .int x1), (2, .int x2), (3, .int x3), (4, .int x4)] → hm_I D s0 s (mm_h dA h0 r M st) z0 H locs → W p l e { frames := 3, cells := 0, slots := 0, locals := 72 } s m ([.ref r, .int y1, .int y2, .int y3] : List Value).toArray below meth c H locs 0 0 (MQ below (ht_Q D s0 (fun vv h1 z1 => vv = some (.int q.1) ∧ h1 = mm_h dA h0 r M q.2 ∧ z1 = z0)) ([.ref r, .int y1, .int y2, .int y3] : List Value).toArray s 0 0 (fun q => s0.heap.size ≤ q)) (F0 m 23 ls []) := by
    intro ls x1 x2 x3 x4 st H locs hF hl I
    unfold g_attribute_23 at hF
    refine lv_aload_n hx hb d61_23 rfl (lv_at hl 0 rfl) ?_
    refine lv_iload_n hx hb d61_24 rfl (lv_at hl 3 rfl) ?_
    obtain ⟨q2, e9, hF⟩ := mm_bd hF
    refine ht_V (C := "MarkupStoreModel") (rest := []) (as := [.int x3]) X hl (cm_error l D dA s0 hE h0 r M hM z0 x3 st q2 e9) (List.forall_mem_cons.mpr ⟨ms_k1520, List.forall_mem_cons.mpr ⟨ms_k1522, List.forall_mem_cons.mpr ⟨ms_p47, List.forall_mem_cons.mpr ⟨ms_k7, List.forall_mem_cons.mpr ⟨ms_k1523, fun _ h => absurd h List.not_mem_nil⟩⟩⟩⟩⟩) ⟨rfl, by decide +kernel, by decide +kernel, (by decide +kernel : (parseMethodDescriptor "(I)V").map (fun d => d.parameters.length) = some 1)⟩ (hm_recv hK I rfl mm_hr) I ⟨rfl, rfl⟩ ⟨⟨Nat.le_of_ble_eq_true rfl, Nat.le_of_ble_eq_true rfl⟩, Nat.le_of_ble_eq_true rfl, Nat.le_of_ble_eq_true rfl⟩ rfl (Nat.le_of_ble_eq_true rfl) d61_25 (fun vv h1 z1 H locs hR I9 => ?_)
    obtain ⟨e1, e2, e3⟩ := hR
    rw [e2, e3] at I9
    clear I e2 e3 e9
    have I := I9
    clear I9
    subst e1
    refine W.eq (g2 := F0 m 28 ls []) rfl ?_
    exact b28 ls x1 x2 x3 x4 q2 _ _ hF (hl.sub [0, 1, 2, 3, 4] rfl) I
  have hF := hg
  unfold g_attribute at hF
  refine lv_aload_n hx hb d61_0 rfl (lv_at hl 0 rfl) ?_
  refine lv_iload_n hx hb d61_1 rfl (lv_at hl 3 rfl) ?_
  obtain ⟨q1, e9, hF⟩ := mm_bd hF
  refine ht_V (C := "MarkupStoreModel") (rest := []) (as := [.int y3]) X hl (cm_letters l D dA s0 hE h0 r M hM z0 y3 st q1 e9) (List.forall_mem_cons.mpr ⟨ms_k1539, List.forall_mem_cons.mpr ⟨ms_k1541, List.forall_mem_cons.mpr ⟨ms_p51, List.forall_mem_cons.mpr ⟨ms_k7, List.forall_mem_cons.mpr ⟨ms_k1542, fun _ h => absurd h List.not_mem_nil⟩⟩⟩⟩⟩) ⟨rfl, by decide +kernel, by decide +kernel, (by decide +kernel : (parseMethodDescriptor "(I)I").map (fun d => d.parameters.length) = some 1)⟩ (hm_recv hK I rfl mm_hr) I ⟨rfl, rfl⟩ ⟨⟨Nat.le_of_ble_eq_true rfl, Nat.le_of_ble_eq_true rfl⟩, Nat.le_of_ble_eq_true rfl, Nat.le_of_ble_eq_true rfl⟩ rfl (Nat.le_of_ble_eq_true rfl) d61_2 (fun vv h1 z1 H locs hR I9 => ?_)
  obtain ⟨e1, e2, e3⟩ := hR
  rw [e2, e3] at I9
  clear I e2 e3 e9
  have I := I9
  clear I9
  subst e1
  refine W.eq (g2 := F0 m 5 ls [.int q1.1]) rfl ?_
  refine lv_istore hx hb d61_5 hl (by decide) rfl (fun ls hl => ?_)
  have hl : lv_has ls 9 [(4, .int q1.1), (0, .ref r), (1, .int y1), (2, .int y2), (3, .int y3)] := hl
  refine lv_iload hx hb d61_7 (lv_at hl 0 rfl) ?_
  refine lv_if_eq hx hb d61_9 rfl (fun h9 => ?_) (fun h9 => ?_)
  · have hF := (if_pos h9).symm.trans hF
    exact b23 ls y1 y2 y3 q1.1 q1.2 _ _ hF (hl.sub [1, 2, 3, 4, 0] rfl) I
  · have hF := (if_neg h9).symm.trans hF
    refine lv_aload_n hx hb d61_12 rfl (lv_at hl 1 rfl) ?_
    refine lv_iload_n hx hb d61_13 rfl (lv_at hl 3 rfl) ?_
    refine lv_iload_n hx hb d61_14 rfl (lv_at hl 4 rfl) ?_
    refine lv_iload hx hb d61_15 (lv_at hl 0 rfl) ?_
    obtain ⟨q22, e9, hF⟩ := mm_bd hF
    refine ht_V (C := "MarkupStoreModel") (rest := []) (as := [.int y2, .int y3, .int q1.1]) X hl (cm_twice l D dA s0 hE h0 r M hM z0 y2 y3 q1.1 q1.2 q22 e9) (List.forall_mem_cons.mpr ⟨ms_k1547, List.forall_mem_cons.mpr ⟨ms_k1549, List.forall_mem_cons.mpr ⟨ms_p53, List.forall_mem_cons.mpr ⟨ms_k7, List.forall_mem_cons.mpr ⟨ms_k1550, fun _ h => absurd h List.not_mem_nil⟩⟩⟩⟩⟩) ⟨rfl, by decide +kernel, by decide +kernel, (by decide +kernel : (parseMethodDescriptor "(III)Z").map (fun d => d.parameters.length) = some 3)⟩ (hm_recv hK I rfl mm_hr) I ⟨rfl, rfl⟩ ⟨⟨Nat.le_of_ble_eq_true rfl, Nat.le_of_ble_eq_true rfl⟩, Nat.le_of_ble_eq_true rfl, Nat.le_of_ble_eq_true rfl⟩ rfl (Nat.le_of_ble_eq_true rfl) d61_17 (fun vv h1 z1 H locs hR I9 => ?_)
    obtain ⟨e1, e2, e3⟩ := hR
    rw [e2, e3] at I9
    clear I e2 e3 e9
    have I := I9
    clear I9
    subst e1
    refine W.eq (g2 := F0 m 20 ls [.int q22.1]) rfl ?_
    refine lv_if_eq hx hb d61_20 rfl (fun h9 => ?_) (fun h9 => ?_)
    · have hF := (if_pos h9).symm.trans hF
      exact b28 ls y1 y2 y3 q1.1 q22.2 _ _ hF (hl.sub [1, 2, 3, 4, 0] rfl) I
    · have hF := (if_neg h9).symm.trans hF
      exact b23 ls y1 y2 y3 q1.1 q22.2 _ _ hF (hl.sub [1, 2, 3, 4, 0] rfl) I

def g_startTag_128 (x1 : Int32) (x2 : Int32) (x3 : Int32) (st : mT) : Option (mT) := (if (st.1 9) < 0 then ((g_look x3 st).bind (fun q3 => (if q3.1 = 47 then ((g_must (x3 + 1) 62 q3.2).bind (fun q13 => (mm_lt (mm_F q13.2 8 (x3 + 2)) (fun st14 => (some st14))))) else ((g_must x3 62 q3.2).bind (fun q4 => (if q4.1 = 0 then (some q4.2) else (mm_ix 8 (q4.2.1 14) (fun j6 => mm_lt (mm_G q4.2 15 j6 x1) (fun st5 => (mm_ix 8 (st5.1 14) (fun j8 => mm_lt (mm_G st5 16 j8 ((st5.1 8) + 1)) (fun st7 => (mm_ix 8 (st7.1 14) (fun j10 => mm_lt (mm_G st7 17 j10 x2) (fun st9 => (mm_lt (mm_F st9 14 ((st9.1 14) + 1)) (fun st11 => (mm_lt (mm_F st11 8 (x3 + 1)) (fun st12 => (some st12)))))))))))))))))))) else (some st))
def g_startTag_94 : Nat → Int32 → Int32 → Int32 → Int32 → mT → Option (mT)
  | 0, _, _, _, _, _ => none
  | n9 + 1, x1, x2, x3, x4, st => (if 0 ≤ (st.1 9) then (g_startTag_128 x1 x2 x3 st) else ((g_look x3 st).bind (fun q15 => (if q15.1 = 32 then ((g_attribute x1 x4 (x3 + 1) q15.2).bind (fun q16 => ((g_startTag_94 n9) x1 x2 q16.1 (x4 + 1) q16.2))) else (g_startTag_128 x1 x2 x3 q15.2)))))
def g_startTag_82 (x1 : Int32) (x2 : Int32) (st : mT) : Option (mT) := (g_startTag_94 mF x1 x2 (((st.1 8) + 1) + x2) 0 st)
def g_startTag_63 (x1 : Int32) (x2 : Int32) (st : mT) : Option (mT) := (if 40 ≤ x1 then (g_startTag_82 x1 x2 st) else (mm_ix 5120 ((128 * x1) + 3) (fun j18 => mm_lt (mm_G st 2 j18 x2) (fun st17 => (g_startTag_82 x1 x2 st17)))))
def g_startTag_19 : Nat → Int32 → Int32 → Int32 → mT → Option (mT)
  | 0, _, _, _, _ => none
  | n9 + 1, x1, x2, x3, st => (if x2 ≤ x3 then (g_startTag_63 x1 x2 st) else (if 40 ≤ x1 then (g_startTag_63 x1 x2 st) else ((g_look (((st.1 8) + 1) + x3) st).bind (fun q19 => (mm_ix 5120 (((128 * x1) + 8) + x3) (fun j21 => mm_lt (mm_G q19.2 2 j21 q19.1) (fun st20 => ((g_startTag_19 n9) x1 x2 (x3 + 1) st20))))))))
def g_startTag (st : mT) : Option (mT) := ((g_make 1 st).bind (fun q1 => ((g_letters ((q1.2.1 8) + 1) q1.2).bind (fun q2 => (g_startTag_19 mF q1.1 q2.1 0 q2.2)))))
set_option maxRecDepth 100000 in
set_option maxHeartbeats 8000000 in
theorem cm_startTag (l : Launch) (D : va_G) (dA : Nat → ClassId) (s0 : State) (hE : ms_EV D dA s0) (h0 : hm_T) (r : Nat) (M : Nat → Nat) (hM : mm_ok r M) (z0 : hz_T) (st : mT) (q : mT) (hg : g_startTag st = some q) : ht_C l D s0 yM62 bM62 5 (Option.none : Option Jvm.ClassFile.FieldType) 4 100 0 0 [.ref r] (fun h z => h = mm_h dA h0 r M st ∧ z = z0) (fun h z vv h1 z1 => vv = none ∧ h1 = mm_h dA h0 r M q ∧ z1 = z0) := by
  refine ht_C.mk hE.1 (by decide) (Nat.le_of_ble_eq_true rfl) [(0, .ref r)] rfl ?_
  intro p e s m below meth c ls h z X hin hpre I hl
  have hx := X.1
  have hb := X.2.1
  have hml := X.2.2.1
  have hown : s.vm.findClass "MarkupStoreModel" = some m.cls := X.2.2.2.1
  have hts := X.2.2.2.2.2.2.1
  have hK := X.2.2.2.2.2.2.2.2.1
  rw [hpre.1, hpre.2] at I
  clear hpre
  have b128 : ∀ (ls : Array Slot) (x1 : Int32) (x2 : Int32) (x3 : Int32) (st : mT) (H : Heap) (locs : List Loc), g_startTag_128 x1 x2 x3 st = some q → lv_has ls 5 [(0, .ref r), (1, .int x1), (2, .int x2), (3, .int x3)] → hm_I D s0 s (mm_h dA h0 r M st) z0 H locs → W p l e { frames := 4, cells := 0, slots := 0, locals := 100 } s m ([.ref r] : List Value).toArray below meth c H locs 0 0 (MQ below (ht_Q D s0 (fun vv h1 z1 => vv = none ∧ h1 = mm_h dA h0 r M q ∧ z1 = z0)) ([.ref r] : List Value).toArray s 0 0 (fun q => s0.heap.size ≤ q)) (F0 m 128 ls []) := by
    intro ls x1 x2 x3 st H locs hF hl I
    unfold g_startTag_128 at hF
    refine lv_aload_n hx hb d62_128 rfl (lv_at hl 0 rfl) ?_
    refine va_get (D := D) (ci := 2) (v := .int (st.1 9)) (C := kR2) (T := kT2) (N := 60) hx hb hts ku2 hown hK (hm_one I.1 mm_hr) 0 rfl rfl 9 (by decide) (hts _ ms_k1325) (fun _ h => h) rfl d62_129 ?_
    refine lv_if_lt hx hb d62_132 rfl (fun h9 => ?_) (fun h9 => ?_)
    · have hF := (if_pos h9).symm.trans hF
      refine lv_aload_n hx hb d62_136 rfl (lv_at hl 0 rfl) ?_
      refine lv_iload_n hx hb d62_137 rfl (lv_at hl 3 rfl) ?_
      obtain ⟨q3, e9, hF⟩ := mm_bd hF
      refine ht_V (C := "MarkupStoreModel") (rest := []) (as := [.int x3]) X hl (cm_look l D dA s0 hE h0 r M hM z0 x3 st q3 e9) (List.forall_mem_cons.mpr ⟨ms_k1516, List.forall_mem_cons.mpr ⟨ms_k1518, List.forall_mem_cons.mpr ⟨ms_p46, List.forall_mem_cons.mpr ⟨ms_k7, List.forall_mem_cons.mpr ⟨ms_k1519, fun _ h => absurd h List.not_mem_nil⟩⟩⟩⟩⟩) ⟨rfl, by decide +kernel, by decide +kernel, (by decide +kernel : (parseMethodDescriptor "(I)C").map (fun d => d.parameters.length) = some 1)⟩ (hm_recv hK I rfl mm_hr) I ⟨rfl, rfl⟩ ⟨⟨Nat.le_of_ble_eq_true rfl, Nat.le_of_ble_eq_true rfl⟩, Nat.le_of_ble_eq_true rfl, Nat.le_of_ble_eq_true rfl⟩ rfl (Nat.le_of_ble_eq_true rfl) d62_138 (fun vv h1 z1 H locs hR I9 => ?_)
      obtain ⟨e1, e2, e3⟩ := hR
      rw [e2, e3] at I9
      clear I e2 e3 e9
      have I := I9
      clear I9
      subst e1
      refine W.eq (g2 := F0 m 141 ls [.int q3.1]) rfl ?_
      refine lv_bipush (v := 47) hx hb d62_141 (by decide) ?_
      refine lv_icmp_ne hx hb d62_143 rfl (fun h9 => ?_) (fun h9 => ?_)
      · have hF := (if_neg h9).symm.trans hF
        refine lv_aload_n hx hb d62_166 rfl (lv_at hl 0 rfl) ?_
        refine lv_iload_n hx hb d62_167 rfl (lv_at hl 3 rfl) ?_
        refine lv_bipush (v := 62) hx hb d62_168 (by decide) ?_
        obtain ⟨q4, e9, hF⟩ := mm_bd hF
        refine ht_V (C := "MarkupStoreModel") (rest := []) (as := [.int x3, .int 62]) X hl (cm_must l D dA s0 hE h0 r M hM z0 x3 62 q3.2 q4 e9) (List.forall_mem_cons.mpr ⟨ms_k1551, List.forall_mem_cons.mpr ⟨ms_k1553, List.forall_mem_cons.mpr ⟨ms_p54, List.forall_mem_cons.mpr ⟨ms_k7, List.forall_mem_cons.mpr ⟨ms_k1554, fun _ h => absurd h List.not_mem_nil⟩⟩⟩⟩⟩) ⟨rfl, by decide +kernel, by decide +kernel, (by decide +kernel : (parseMethodDescriptor "(IC)Z").map (fun d => d.parameters.length) = some 2)⟩ (hm_recv hK I rfl mm_hr) I ⟨rfl, rfl⟩ ⟨⟨Nat.le_of_ble_eq_true rfl, Nat.le_of_ble_eq_true rfl⟩, Nat.le_of_ble_eq_true rfl, Nat.le_of_ble_eq_true rfl⟩ rfl (Nat.le_of_ble_eq_true rfl) d62_170 (fun vv h1 z1 H locs hR I9 => ?_)
        obtain ⟨e1, e2, e3⟩ := hR
        rw [e2, e3] at I9
        clear I e2 e3 e9
        have I := I9
        clear I9
        subst e1
        refine W.eq (g2 := F0 m 173 ls [.int q4.1]) rfl ?_
        refine lv_if_eq hx hb d62_173 rfl (fun h9 => ?_) (fun h9 => ?_)
        · have hF := (if_pos h9).symm.trans hF
          exact ht_vret X d62_228 I (Nat.le_of_ble_eq_true rfl) (Nat.le_of_ble_eq_true rfl) (mm_finV hF)
        · have hF := (if_neg h9).symm.trans hF
          refine lv_aload_n hx hb d62_176 rfl (lv_at hl 0 rfl) ?_
          refine va_get (D := D) (ci := 2) (v := .ref (M 15)) (C := kR2) (T := kT2) (N := 60) hx hb hts ku2 hown hK (hm_one I.1 mm_hr) 0 rfl rfl 15 (by decide) (hts _ ms_k1331) (fun _ h => h) rfl d62_177 ?_
          refine lv_aload_n hx hb d62_180 rfl (lv_at hl 0 rfl) ?_
          refine va_get (D := D) (ci := 2) (v := .int (q4.2.1 14)) (C := kR2) (T := kT2) (N := 60) hx hb hts ku2 hown hK (hm_one I.1 mm_hr) 0 rfl rfl 14 (by decide) (hts _ ms_k1330) (fun _ h => h) rfl d62_181 ?_
          refine lv_iload_n hx hb d62_184 rfl (lv_at hl 1 rfl) ?_
          obtain ⟨i9, hF⟩ := mm_ix_some hF
          obtain ⟨st5, e9, hF⟩ := mm_lt_some hF
          refine mm_iast (k := 15) X I hM (by decide) 0 (fun _ => rfl) rfl i9 e9 d62_185 (fun H locs I => ?_)
          clear e9 i9
          refine lv_aload_n hx hb d62_186 rfl (lv_at hl 0 rfl) ?_
          refine va_get (D := D) (ci := 2) (v := .ref (M 16)) (C := kR2) (T := kT2) (N := 60) hx hb hts ku2 hown hK (hm_one I.1 mm_hr) 0 rfl rfl 16 (by decide) (hts _ ms_k1332) (fun _ h => h) rfl d62_187 ?_
          refine lv_aload_n hx hb d62_190 rfl (lv_at hl 0 rfl) ?_
          refine va_get (D := D) (ci := 2) (v := .int (st5.1 14)) (C := kR2) (T := kT2) (N := 60) hx hb hts ku2 hown hK (hm_one I.1 mm_hr) 0 rfl rfl 14 (by decide) (hts _ ms_k1330) (fun _ h => h) rfl d62_191 ?_
          refine lv_aload_n hx hb d62_194 rfl (lv_at hl 0 rfl) ?_
          refine va_get (D := D) (ci := 2) (v := .int (st5.1 8)) (C := kR2) (T := kT2) (N := 60) hx hb hts ku2 hown hK (hm_one I.1 mm_hr) 0 rfl rfl 8 (by decide) (hts _ ms_k1324) (fun _ h => h) rfl d62_195 ?_
          refine lv_iconst (v := 1) hx hb d62_198 (by decide) ?_
          refine lv_iadd hx hb d62_199 ?_
          obtain ⟨i9, hF⟩ := mm_ix_some hF
          obtain ⟨st7, e9, hF⟩ := mm_lt_some hF
          refine mm_iast (k := 16) X I hM (by decide) 0 (fun _ => rfl) rfl i9 e9 d62_200 (fun H locs I => ?_)
          clear e9 i9
          refine lv_aload_n hx hb d62_201 rfl (lv_at hl 0 rfl) ?_
          refine va_get (D := D) (ci := 2) (v := .ref (M 17)) (C := kR2) (T := kT2) (N := 60) hx hb hts ku2 hown hK (hm_one I.1 mm_hr) 0 rfl rfl 17 (by decide) (hts _ ms_k1333) (fun _ h => h) rfl d62_202 ?_
          refine lv_aload_n hx hb d62_205 rfl (lv_at hl 0 rfl) ?_
          refine va_get (D := D) (ci := 2) (v := .int (st7.1 14)) (C := kR2) (T := kT2) (N := 60) hx hb hts ku2 hown hK (hm_one I.1 mm_hr) 0 rfl rfl 14 (by decide) (hts _ ms_k1330) (fun _ h => h) rfl d62_206 ?_
          refine lv_iload_n hx hb d62_209 rfl (lv_at hl 2 rfl) ?_
          obtain ⟨i9, hF⟩ := mm_ix_some hF
          obtain ⟨st9, e9, hF⟩ := mm_lt_some hF
          refine mm_iast (k := 17) X I hM (by decide) 0 (fun _ => rfl) rfl i9 e9 d62_210 (fun H locs I => ?_)
          clear e9 i9
          refine lv_aload_n hx hb d62_211 rfl (lv_at hl 0 rfl) ?_
          refine lv_dup hx hb d62_212 rfl ?_
          refine va_get (D := D) (ci := 2) (v := .int (st9.1 14)) (C := kR2) (T := kT2) (N := 60) hx hb hts ku2 hown hK (hm_one I.1 mm_hr) 0 rfl rfl 14 (by decide) (hts _ ms_k1330) (fun _ h => h) rfl d62_213 ?_
          refine lv_iconst (v := 1) hx hb d62_216 (by decide) ?_
          refine lv_iadd hx hb d62_217 ?_
          obtain ⟨st11, e9, hF⟩ := mm_lt_some hF
          refine mm_put (k := 14) (ty := .int) X I (by decide) ms_k1330 rfl rfl (by decide +kernel) ⟨rfl, rfl⟩ rfl e9 d62_218 (fun H locs I => ?_)
          clear e9
          refine lv_aload_n hx hb d62_221 rfl (lv_at hl 0 rfl) ?_
          refine lv_iload_n hx hb d62_222 rfl (lv_at hl 3 rfl) ?_
          refine lv_iconst (v := 1) hx hb d62_223 (by decide) ?_
          refine lv_iadd hx hb d62_224 ?_
          obtain ⟨st12, e9, hF⟩ := mm_lt_some hF
          refine mm_put (k := 8) (ty := .int) X I (by decide) ms_k1324 rfl rfl (by decide +kernel) ⟨rfl, rfl⟩ rfl e9 d62_225 (fun H locs I => ?_)
          clear e9
          exact ht_vret X d62_228 I (Nat.le_of_ble_eq_true rfl) (Nat.le_of_ble_eq_true rfl) (mm_finV hF)
      · have hF := (if_pos h9).symm.trans hF
        refine lv_aload_n hx hb d62_146 rfl (lv_at hl 0 rfl) ?_
        refine lv_iload_n hx hb d62_147 rfl (lv_at hl 3 rfl) ?_
        refine lv_iconst (v := 1) hx hb d62_148 (by decide) ?_
        refine lv_iadd hx hb d62_149 ?_
        refine lv_bipush (v := 62) hx hb d62_150 (by decide) ?_
        obtain ⟨q13, e9, hF⟩ := mm_bd hF
        refine ht_V (C := "MarkupStoreModel") (rest := []) (as := [.int (x3 + 1), .int 62]) X hl (cm_must l D dA s0 hE h0 r M hM z0 (x3 + 1) 62 q3.2 q13 e9) (List.forall_mem_cons.mpr ⟨ms_k1551, List.forall_mem_cons.mpr ⟨ms_k1553, List.forall_mem_cons.mpr ⟨ms_p54, List.forall_mem_cons.mpr ⟨ms_k7, List.forall_mem_cons.mpr ⟨ms_k1554, fun _ h => absurd h List.not_mem_nil⟩⟩⟩⟩⟩) ⟨rfl, by decide +kernel, by decide +kernel, (by decide +kernel : (parseMethodDescriptor "(IC)Z").map (fun d => d.parameters.length) = some 2)⟩ (hm_recv hK I rfl mm_hr) I ⟨rfl, rfl⟩ ⟨⟨Nat.le_of_ble_eq_true rfl, Nat.le_of_ble_eq_true rfl⟩, Nat.le_of_ble_eq_true rfl, Nat.le_of_ble_eq_true rfl⟩ rfl (Nat.le_of_ble_eq_true rfl) d62_152 (fun vv h1 z1 H locs hR I9 => ?_)
        obtain ⟨e1, e2, e3⟩ := hR
        rw [e2, e3] at I9
        clear I e2 e3 e9
        have I := I9
        clear I9
        subst e1
        refine W.eq (g2 := F0 m 155 ls [.int q13.1]) rfl ?_
        refine lv_pop hx hb d62_155 rfl ?_
        refine lv_aload_n hx hb d62_156 rfl (lv_at hl 0 rfl) ?_
        refine lv_iload_n hx hb d62_157 rfl (lv_at hl 3 rfl) ?_
        refine lv_iconst (v := 2) hx hb d62_158 (by decide) ?_
        refine lv_iadd hx hb d62_159 ?_
        obtain ⟨st14, e9, hF⟩ := mm_lt_some hF
        refine mm_put (k := 8) (ty := .int) X I (by decide) ms_k1324 rfl rfl (by decide +kernel) ⟨rfl, rfl⟩ rfl e9 d62_160 (fun H locs I => ?_)
        clear e9
        refine lv_goto hx hb d62_163 rfl ?_
        exact ht_vret X d62_228 I (Nat.le_of_ble_eq_true rfl) (Nat.le_of_ble_eq_true rfl) (mm_finV hF)
    · have hF := (if_neg h9).symm.trans hF
      exact ht_vret X d62_135 I (Nat.le_of_ble_eq_true rfl) (Nat.le_of_ble_eq_true rfl) (mm_finV hF)
  have b94 : ∀ n9 : Nat, ∀ (ls : Array Slot) (x1 : Int32) (x2 : Int32) (x3 : Int32) (x4 : Int32) (st : mT) (H : Heap) (locs : List Loc), g_startTag_94 n9 x1 x2 x3 x4 st = some q → lv_has ls 5 [(0, .ref r), (1, .int x1), (2, .int x2), (3, .int x3), (4, .int x4)] → hm_I D s0 s (mm_h dA h0 r M st) z0 H locs → W p l e { frames := 4, cells := 0, slots := 0, locals := 100 } s m ([.ref r] : List Value).toArray below meth c H locs 0 0 (MQ below (ht_Q D s0 (fun vv h1 z1 => vv = none ∧ h1 = mm_h dA h0 r M q ∧ z1 = z0)) ([.ref r] : List Value).toArray s 0 0 (fun q => s0.heap.size ≤ q)) (F0 m 94 ls []) := by
    intro n9
    induction n9 with
    | zero => intro ls x1 x2 x3 x4 st H locs hF; cases hF
    | succ n9 hk94 =>
    intro ls x1 x2 x3 x4 st H locs hF hl I
    unfold g_startTag_94 at hF
    refine lv_aload_n hx hb d62_94 rfl (lv_at hl 0 rfl) ?_
    refine va_get (D := D) (ci := 2) (v := .int (st.1 9)) (C := kR2) (T := kT2) (N := 60) hx hb hts ku2 hown hK (hm_one I.1 mm_hr) 0 rfl rfl 9 (by decide) (hts _ ms_k1325) (fun _ h => h) rfl d62_95 ?_
    refine lv_if_ge hx hb d62_98 rfl (fun h9 => ?_) (fun h9 => ?_)
    · have hF := (if_pos h9).symm.trans hF
      exact b128 ls x1 x2 x3 st _ _ hF (hl.sub [0, 1, 2, 3] rfl) I
    · have hF := (if_neg h9).symm.trans hF
      refine lv_aload_n hx hb d62_101 rfl (lv_at hl 0 rfl) ?_
      refine lv_iload_n hx hb d62_102 rfl (lv_at hl 3 rfl) ?_
      obtain ⟨q15, e9, hF⟩ := mm_bd hF
      refine ht_V (C := "MarkupStoreModel") (rest := []) (as := [.int x3]) X hl (cm_look l D dA s0 hE h0 r M hM z0 x3 st q15 e9) (List.forall_mem_cons.mpr ⟨ms_k1516, List.forall_mem_cons.mpr ⟨ms_k1518, List.forall_mem_cons.mpr ⟨ms_p46, List.forall_mem_cons.mpr ⟨ms_k7, List.forall_mem_cons.mpr ⟨ms_k1519, fun _ h => absurd h List.not_mem_nil⟩⟩⟩⟩⟩) ⟨rfl, by decide +kernel, by decide +kernel, (by decide +kernel : (parseMethodDescriptor "(I)C").map (fun d => d.parameters.length) = some 1)⟩ (hm_recv hK I rfl mm_hr) I ⟨rfl, rfl⟩ ⟨⟨Nat.le_of_ble_eq_true rfl, Nat.le_of_ble_eq_true rfl⟩, Nat.le_of_ble_eq_true rfl, Nat.le_of_ble_eq_true rfl⟩ rfl (Nat.le_of_ble_eq_true rfl) d62_103 (fun vv h1 z1 H locs hR I9 => ?_)
      obtain ⟨e1, e2, e3⟩ := hR
      rw [e2, e3] at I9
      clear I e2 e3 e9
      have I := I9
      clear I9
      subst e1
      refine W.eq (g2 := F0 m 106 ls [.int q15.1]) rfl ?_
      refine lv_bipush (v := 32) hx hb d62_106 (by decide) ?_
      refine lv_icmp_ne hx hb d62_108 rfl (fun h9 => ?_) (fun h9 => ?_)
      · have hF := (if_neg h9).symm.trans hF
        exact b128 ls x1 x2 x3 q15.2 _ _ hF (hl.sub [0, 1, 2, 3] rfl) I
      · have hF := (if_pos h9).symm.trans hF
        refine lv_aload_n hx hb d62_111 rfl (lv_at hl 0 rfl) ?_
        refine lv_iload_n hx hb d62_112 rfl (lv_at hl 1 rfl) ?_
        refine lv_iload hx hb d62_113 (lv_at hl 4 rfl) ?_
        refine lv_iload_n hx hb d62_115 rfl (lv_at hl 3 rfl) ?_
        refine lv_iconst (v := 1) hx hb d62_116 (by decide) ?_
        refine lv_iadd hx hb d62_117 ?_
        obtain ⟨q16, e9, hF⟩ := mm_bd hF
        refine ht_V (C := "MarkupStoreModel") (rest := []) (as := [.int x1, .int x4, .int (x3 + 1)]) X hl (cm_attribute l D dA s0 hE h0 r M hM z0 x1 x4 (x3 + 1) q15.2 q16 e9) (List.forall_mem_cons.mpr ⟨ms_k1543, List.forall_mem_cons.mpr ⟨ms_k1545, List.forall_mem_cons.mpr ⟨ms_p52, List.forall_mem_cons.mpr ⟨ms_k7, List.forall_mem_cons.mpr ⟨ms_k1546, fun _ h => absurd h List.not_mem_nil⟩⟩⟩⟩⟩) ⟨rfl, by decide +kernel, by decide +kernel, (by decide +kernel : (parseMethodDescriptor "(III)I").map (fun d => d.parameters.length) = some 3)⟩ (hm_recv hK I rfl mm_hr) I ⟨rfl, rfl⟩ ⟨⟨Nat.le_of_ble_eq_true rfl, Nat.le_of_ble_eq_true rfl⟩, Nat.le_of_ble_eq_true rfl, Nat.le_of_ble_eq_true rfl⟩ rfl (Nat.le_of_ble_eq_true rfl) d62_118 (fun vv h1 z1 H locs hR I9 => ?_)
        obtain ⟨e1, e2, e3⟩ := hR
        rw [e2, e3] at I9
        clear I e2 e3 e9
        have I := I9
        clear I9
        subst e1
        refine W.eq (g2 := F0 m 121 ls [.int q16.1]) rfl ?_
        refine lv_istore_n hx hb d62_121 rfl hl (by decide) rfl (fun ls hl => ?_)
        have hl : lv_has ls 5 [(3, .int q16.1), (0, .ref r), (1, .int x1), (2, .int x2), (4, .int x4)] := hl
        refine lv_iinc (k := 4) (v := (x4 + 1)) hx hb d62_122 hl rfl (rfl) (by decide) rfl (fun ls hl => ?_)
        have hl : lv_has ls 5 [(4, .int (x4 + 1)), (3, .int q16.1), (0, .ref r), (1, .int x1), (2, .int x2)] := hl
        refine lv_goto hx hb d62_125 rfl ?_
        exact hk94 ls x1 x2 q16.1 (x4 + 1) q16.2 _ _ hF (hl.sub [2, 3, 4, 1, 0] rfl) I
  have b82 : ∀ (ls : Array Slot) (x1 : Int32) (x2 : Int32) (st : mT) (H : Heap) (locs : List Loc), g_startTag_82 x1 x2 st = some q → lv_has ls 5 [(0, .ref r), (1, .int x1), (2, .int x2)] → hm_I D s0 s (mm_h dA h0 r M st) z0 H locs → W p l e { frames := 4, cells := 0, slots := 0, locals := 100 } s m ([.ref r] : List Value).toArray below meth c H locs 0 0 (MQ below (ht_Q D s0 (fun vv h1 z1 => vv = none ∧ h1 = mm_h dA h0 r M q ∧ z1 = z0)) ([.ref r] : List Value).toArray s 0 0 (fun q => s0.heap.size ≤ q)) (F0 m 82 ls []) := by
    intro ls x1 x2 st H locs hF hl I
    unfold g_startTag_82 at hF
    refine lv_aload_n hx hb d62_82 rfl (lv_at hl 0 rfl) ?_
    refine va_get (D := D) (ci := 2) (v := .int (st.1 8)) (C := kR2) (T := kT2) (N := 60) hx hb hts ku2 hown hK (hm_one I.1 mm_hr) 0 rfl rfl 8 (by decide) (hts _ ms_k1324) (fun _ h => h) rfl d62_83 ?_
    refine lv_iconst (v := 1) hx hb d62_86 (by decide) ?_
    refine lv_iadd hx hb d62_87 ?_
    refine lv_iload_n hx hb d62_88 rfl (lv_at hl 2 rfl) ?_
    refine lv_iadd hx hb d62_89 ?_
    refine lv_istore_n hx hb d62_90 rfl hl (by decide) rfl (fun ls hl => ?_)
    have hl : lv_has ls 5 [(3, .int (((st.1 8) + 1) + x2)), (0, .ref r), (1, .int x1), (2, .int x2)] := hl
    refine lv_iconst (v := 0) hx hb d62_91 (by decide) ?_
    refine lv_istore hx hb d62_92 hl (by decide) rfl (fun ls hl => ?_)
    have hl : lv_has ls 5 [(4, .int 0), (3, .int (((st.1 8) + 1) + x2)), (0, .ref r), (1, .int x1), (2, .int x2)] := hl
    exact b94 mF ls x1 x2 (((st.1 8) + 1) + x2) 0 st _ _ hF (hl.sub [2, 3, 4, 1, 0] rfl) I
  have b63 : ∀ (ls : Array Slot) (x1 : Int32) (x2 : Int32) (st : mT) (H : Heap) (locs : List Loc), g_startTag_63 x1 x2 st = some q → lv_has ls 5 [(0, .ref r), (1, .int x1), (2, .int x2)] → hm_I D s0 s (mm_h dA h0 r M st) z0 H locs → W p l e { frames := 4, cells := 0, slots := 0, locals := 100 } s m ([.ref r] : List Value).toArray below meth c H locs 0 0 (MQ below (ht_Q D s0 (fun vv h1 z1 => vv = none ∧ h1 = mm_h dA h0 r M q ∧ z1 = z0)) ([.ref r] : List Value).toArray s 0 0 (fun q => s0.heap.size ≤ q)) (F0 m 63 ls []) := by
    intro ls x1 x2 st H locs hF hl I
    unfold g_startTag_63 at hF
    refine lv_iload_n hx hb d62_63 rfl (lv_at hl 1 rfl) ?_
    refine lv_bipush (v := 40) hx hb d62_64 (by decide) ?_
    refine lv_icmp_ge hx hb d62_66 rfl (fun h9 => ?_) (fun h9 => ?_)
    · have hF := (if_pos h9).symm.trans hF
      exact b82 ls x1 x2 st _ _ hF (hl.sub [0, 1, 2] rfl) I
    · have hF := (if_neg h9).symm.trans hF
      refine lv_aload_n hx hb d62_69 rfl (lv_at hl 0 rfl) ?_
      refine va_get (D := D) (ci := 2) (v := .ref (M 2)) (C := kR2) (T := kT2) (N := 60) hx hb hts ku2 hown hK (hm_one I.1 mm_hr) 0 rfl rfl 2 (by decide) (hts _ ms_k1318) (fun _ h => h) rfl d62_70 ?_
      refine lv_sipush (v := 128) hx hb d62_73 (by decide) ?_
      refine lv_iload_n hx hb d62_76 rfl (lv_at hl 1 rfl) ?_
      refine lv_imul hx hb d62_77 ?_
      refine lv_iconst (v := 3) hx hb d62_78 (by decide) ?_
      refine lv_iadd hx hb d62_79 ?_
      refine lv_iload_n hx hb d62_80 rfl (lv_at hl 2 rfl) ?_
      obtain ⟨i9, hF⟩ := mm_ix_some hF
      obtain ⟨st17, e9, hF⟩ := mm_lt_some hF
      refine mm_iast (k := 2) X I hM (by decide) 0 (fun _ => rfl) rfl i9 e9 d62_81 (fun H locs I => ?_)
      clear e9 i9
      exact b82 ls x1 x2 st17 _ _ hF (hl.sub [0, 1, 2] rfl) I
  have b19 : ∀ n9 : Nat, ∀ (ls : Array Slot) (x1 : Int32) (x2 : Int32) (x3 : Int32) (st : mT) (H : Heap) (locs : List Loc), g_startTag_19 n9 x1 x2 x3 st = some q → lv_has ls 5 [(0, .ref r), (1, .int x1), (2, .int x2), (3, .int x3)] → hm_I D s0 s (mm_h dA h0 r M st) z0 H locs → W p l e { frames := 4, cells := 0, slots := 0, locals := 100 } s m ([.ref r] : List Value).toArray below meth c H locs 0 0 (MQ below (ht_Q D s0 (fun vv h1 z1 => vv = none ∧ h1 = mm_h dA h0 r M q ∧ z1 = z0)) ([.ref r] : List Value).toArray s 0 0 (fun q => s0.heap.size ≤ q)) (F0 m 19 ls []) := by
    intro n9
    induction n9 with
    | zero => intro ls x1 x2 x3 st H locs hF; cases hF
    | succ n9 hk19 =>
    intro ls x1 x2 x3 st H locs hF hl I
    unfold g_startTag_19 at hF
    refine lv_iload_n hx hb d62_19 rfl (lv_at hl 3 rfl) ?_
    refine lv_iload_n hx hb d62_20 rfl (lv_at hl 2 rfl) ?_
    refine lv_icmp_ge hx hb d62_21 rfl (fun h9 => ?_) (fun h9 => ?_)
    · have hF := (if_pos h9).symm.trans hF
      exact b63 ls x1 x2 st _ _ hF (hl.sub [0, 1, 2] rfl) I
    · have hF := (if_neg h9).symm.trans hF
      refine lv_iload_n hx hb d62_24 rfl (lv_at hl 1 rfl) ?_
      refine lv_bipush (v := 40) hx hb d62_25 (by decide) ?_
      refine lv_icmp_ge hx hb d62_27 rfl (fun h9 => ?_) (fun h9 => ?_)
      · have hF := (if_pos h9).symm.trans hF
        exact b63 ls x1 x2 st _ _ hF (hl.sub [0, 1, 2] rfl) I
      · have hF := (if_neg h9).symm.trans hF
        refine lv_aload_n hx hb d62_30 rfl (lv_at hl 0 rfl) ?_
        refine va_get (D := D) (ci := 2) (v := .ref (M 2)) (C := kR2) (T := kT2) (N := 60) hx hb hts ku2 hown hK (hm_one I.1 mm_hr) 0 rfl rfl 2 (by decide) (hts _ ms_k1318) (fun _ h => h) rfl d62_31 ?_
        refine lv_sipush (v := 128) hx hb d62_34 (by decide) ?_
        refine lv_iload_n hx hb d62_37 rfl (lv_at hl 1 rfl) ?_
        refine lv_imul hx hb d62_38 ?_
        refine lv_bipush (v := 8) hx hb d62_39 (by decide) ?_
        refine lv_iadd hx hb d62_41 ?_
        refine lv_iload_n hx hb d62_42 rfl (lv_at hl 3 rfl) ?_
        refine lv_iadd hx hb d62_43 ?_
        refine lv_aload_n hx hb d62_44 rfl (lv_at hl 0 rfl) ?_
        refine lv_aload_n hx hb d62_45 rfl (lv_at hl 0 rfl) ?_
        refine va_get (D := D) (ci := 2) (v := .int (st.1 8)) (C := kR2) (T := kT2) (N := 60) hx hb hts ku2 hown hK (hm_one I.1 mm_hr) 0 rfl rfl 8 (by decide) (hts _ ms_k1324) (fun _ h => h) rfl d62_46 ?_
        refine lv_iconst (v := 1) hx hb d62_49 (by decide) ?_
        refine lv_iadd hx hb d62_50 ?_
        refine lv_iload_n hx hb d62_51 rfl (lv_at hl 3 rfl) ?_
        refine lv_iadd hx hb d62_52 ?_
        obtain ⟨q19, e9, hF⟩ := mm_bd hF
        refine ht_V (C := "MarkupStoreModel") (rest := [.int (((128 * x1) + 8) + x3), .ref (M 2)]) (as := [.int (((st.1 8) + 1) + x3)]) X hl (cm_look l D dA s0 hE h0 r M hM z0 (((st.1 8) + 1) + x3) st q19 e9) (List.forall_mem_cons.mpr ⟨ms_k1516, List.forall_mem_cons.mpr ⟨ms_k1518, List.forall_mem_cons.mpr ⟨ms_p46, List.forall_mem_cons.mpr ⟨ms_k7, List.forall_mem_cons.mpr ⟨ms_k1519, fun _ h => absurd h List.not_mem_nil⟩⟩⟩⟩⟩) ⟨rfl, by decide +kernel, by decide +kernel, (by decide +kernel : (parseMethodDescriptor "(I)C").map (fun d => d.parameters.length) = some 1)⟩ (hm_recv hK I rfl mm_hr) I ⟨rfl, rfl⟩ ⟨⟨Nat.le_of_ble_eq_true rfl, Nat.le_of_ble_eq_true rfl⟩, Nat.le_of_ble_eq_true rfl, Nat.le_of_ble_eq_true rfl⟩ rfl (Nat.le_of_ble_eq_true rfl) d62_53 (fun vv h1 z1 H locs hR I9 => ?_)
        obtain ⟨e1, e2, e3⟩ := hR
        rw [e2, e3] at I9
        clear I e2 e3 e9
        have I := I9
        clear I9
        subst e1
        refine W.eq (g2 := F0 m 56 ls [.int q19.1, .int (((128 * x1) + 8) + x3), .ref (M 2)]) rfl ?_
        obtain ⟨i9, hF⟩ := mm_ix_some hF
        obtain ⟨st20, e9, hF⟩ := mm_lt_some hF
        refine mm_iast (k := 2) X I hM (by decide) 0 (fun _ => rfl) rfl i9 e9 d62_56 (fun H locs I => ?_)
        clear e9 i9
        refine lv_iinc (k := 3) (v := (x3 + 1)) hx hb d62_57 hl rfl (rfl) (by decide) rfl (fun ls hl => ?_)
        have hl : lv_has ls 5 [(3, .int (x3 + 1)), (0, .ref r), (1, .int x1), (2, .int x2)] := hl
        refine lv_goto hx hb d62_60 rfl ?_
        exact hk19 ls x1 x2 (x3 + 1) st20 _ _ hF (hl.sub [1, 2, 3, 0] rfl) I
  have hF := hg
  unfold g_startTag at hF
  refine lv_aload_n hx hb d62_0 rfl (lv_at hl 0 rfl) ?_
  refine lv_iconst (v := 1) hx hb d62_1 (by decide) ?_
  obtain ⟨q1, e9, hF⟩ := mm_bd hF
  refine ht_V (C := "MarkupStoreModel") (rest := []) (as := [.int 1]) X hl (cm_make l D dA s0 hE h0 r M hM z0 1 st q1 e9) (List.forall_mem_cons.mpr ⟨ms_k1535, List.forall_mem_cons.mpr ⟨ms_k1537, List.forall_mem_cons.mpr ⟨ms_p50, List.forall_mem_cons.mpr ⟨ms_k7, List.forall_mem_cons.mpr ⟨ms_k1538, fun _ h => absurd h List.not_mem_nil⟩⟩⟩⟩⟩) ⟨rfl, by decide +kernel, by decide +kernel, (by decide +kernel : (parseMethodDescriptor "(I)I").map (fun d => d.parameters.length) = some 1)⟩ (hm_recv hK I rfl mm_hr) I ⟨rfl, rfl⟩ ⟨⟨Nat.le_of_ble_eq_true rfl, Nat.le_of_ble_eq_true rfl⟩, Nat.le_of_ble_eq_true rfl, Nat.le_of_ble_eq_true rfl⟩ rfl (Nat.le_of_ble_eq_true rfl) d62_2 (fun vv h1 z1 H locs hR I9 => ?_)
  obtain ⟨e1, e2, e3⟩ := hR
  rw [e2, e3] at I9
  clear I e2 e3 e9
  have I := I9
  clear I9
  subst e1
  refine W.eq (g2 := F0 m 5 ls [.int q1.1]) rfl ?_
  refine lv_istore_n hx hb d62_5 rfl hl (by decide) rfl (fun ls hl => ?_)
  have hl : lv_has ls 5 [(1, .int q1.1), (0, .ref r)] := hl
  refine lv_aload_n hx hb d62_6 rfl (lv_at hl 1 rfl) ?_
  refine lv_aload_n hx hb d62_7 rfl (lv_at hl 1 rfl) ?_
  refine va_get (D := D) (ci := 2) (v := .int (q1.2.1 8)) (C := kR2) (T := kT2) (N := 60) hx hb hts ku2 hown hK (hm_one I.1 mm_hr) 0 rfl rfl 8 (by decide) (hts _ ms_k1324) (fun _ h => h) rfl d62_8 ?_
  refine lv_iconst (v := 1) hx hb d62_11 (by decide) ?_
  refine lv_iadd hx hb d62_12 ?_
  obtain ⟨q2, e9, hF⟩ := mm_bd hF
  refine ht_V (C := "MarkupStoreModel") (rest := []) (as := [.int ((q1.2.1 8) + 1)]) X hl (cm_letters l D dA s0 hE h0 r M hM z0 ((q1.2.1 8) + 1) q1.2 q2 e9) (List.forall_mem_cons.mpr ⟨ms_k1539, List.forall_mem_cons.mpr ⟨ms_k1541, List.forall_mem_cons.mpr ⟨ms_p51, List.forall_mem_cons.mpr ⟨ms_k7, List.forall_mem_cons.mpr ⟨ms_k1542, fun _ h => absurd h List.not_mem_nil⟩⟩⟩⟩⟩) ⟨rfl, by decide +kernel, by decide +kernel, (by decide +kernel : (parseMethodDescriptor "(I)I").map (fun d => d.parameters.length) = some 1)⟩ (hm_recv hK I rfl mm_hr) I ⟨rfl, rfl⟩ ⟨⟨Nat.le_of_ble_eq_true rfl, Nat.le_of_ble_eq_true rfl⟩, Nat.le_of_ble_eq_true rfl, Nat.le_of_ble_eq_true rfl⟩ rfl (Nat.le_of_ble_eq_true rfl) d62_13 (fun vv h1 z1 H locs hR I9 => ?_)
  obtain ⟨e1, e2, e3⟩ := hR
  rw [e2, e3] at I9
  clear I e2 e3 e9
  have I := I9
  clear I9
  subst e1
  refine W.eq (g2 := F0 m 16 ls [.int q2.1]) rfl ?_
  refine lv_istore_n hx hb d62_16 rfl hl (by decide) rfl (fun ls hl => ?_)
  have hl : lv_has ls 5 [(2, .int q2.1), (1, .int q1.1), (0, .ref r)] := hl
  refine lv_iconst (v := 0) hx hb d62_17 (by decide) ?_
  refine lv_istore_n hx hb d62_18 rfl hl (by decide) rfl (fun ls hl => ?_)
  have hl : lv_has ls 5 [(3, .int 0), (2, .int q2.1), (1, .int q1.1), (0, .ref r)] := hl
  exact b19 mF ls q1.1 q2.1 0 q2.2 _ _ hF (hl.sub [3, 2, 1, 0] rfl) I

def g_endTag_26 : Nat → Int32 → Int32 → Int32 → mT → Option (mT)
  | 0, _, _, _, _ => none
  | n9 + 1, x1, x2, x3, st => (if x2 ≤ x3 then ((g_must (((st.1 8) + 2) + x2) 62 st).bind (fun q3 => (mm_lt (mm_F q3.2 14 ((q3.2.1 14) - 1)) (fun st4 => (mm_lt (mm_F st4 12 (-1)) (fun st5 => (mm_lt (mm_F st5 8 (((st5.1 8) + 3) + x2)) (fun st6 => (some st6))))))))) else ((g_look (x1 + x3) st).bind (fun q7 => ((g_must (((st.1 8) + 2) + x3) q7.1 q7.2).bind (fun q8 => ((g_endTag_26 n9) x1 x2 (x3 + 1) q8.2))))))
def g_endTag (st : mT) : Option (mT) := (mm_ld (st.2.1 16) 8 ((st.1 14) - 1) (fun v1 => (mm_ld (st.2.1 17) 8 ((st.1 14) - 1) (fun v2 => (g_endTag_26 mF v1 v2 0 st)))))
set_option maxRecDepth 100000 in
set_option maxHeartbeats 8000000 in
theorem cm_endTag (l : Launch) (D : va_G) (dA : Nat → ClassId) (s0 : State) (hE : ms_EV D dA s0) (h0 : hm_T) (r : Nat) (M : Nat → Nat) (hM : mm_ok r M) (z0 : hz_T) (st : mT) (q : mT) (hg : g_endTag st = some q) : ht_C l D s0 yM63 bM63 4 (Option.none : Option Jvm.ClassFile.FieldType) 2 43 0 0 [.ref r] (fun h z => h = mm_h dA h0 r M st ∧ z = z0) (fun h z vv h1 z1 => vv = none ∧ h1 = mm_h dA h0 r M q ∧ z1 = z0) := by
  refine ht_C.mk hE.1 (by decide) (Nat.le_of_ble_eq_true rfl) [(0, .ref r)] rfl ?_
  intro p e s m below meth c ls h z X hin hpre I hl
  have hx := X.1
  have hb := X.2.1
  have hml := X.2.2.1
  have hown : s.vm.findClass "MarkupStoreModel" = some m.cls := X.2.2.2.1
  have hts := X.2.2.2.2.2.2.1
  have hK := X.2.2.2.2.2.2.2.2.1
  rw [hpre.1, hpre.2] at I
  clear hpre
  have b26 : ∀ n9 : Nat, ∀ (ls : Array Slot) (x1 : Int32) (x2 : Int32) (x3 : Int32) (st : mT) (H : Heap) (locs : List Loc), g_endTag_26 n9 x1 x2 x3 st = some q → lv_has ls 4 [(0, .ref r), (1, .int x1), (2, .int x2), (3, .int x3)] → hm_I D s0 s (mm_h dA h0 r M st) z0 H locs → W p l e { frames := 2, cells := 0, slots := 0, locals := 43 } s m ([.ref r] : List Value).toArray below meth c H locs 0 0 (MQ below (ht_Q D s0 (fun vv h1 z1 => vv = none ∧ h1 = mm_h dA h0 r M q ∧ z1 = z0)) ([.ref r] : List Value).toArray s 0 0 (fun q => s0.heap.size ≤ q)) (F0 m 26 ls []) := by
    intro n9
    induction n9 with
    | zero => intro ls x1 x2 x3 st H locs hF; cases hF
    | succ n9 hk26 =>
    intro ls x1 x2 x3 st H locs hF hl I
    unfold g_endTag_26 at hF
    refine lv_iload_n hx hb d63_26 rfl (lv_at hl 3 rfl) ?_
    refine lv_iload_n hx hb d63_27 rfl (lv_at hl 2 rfl) ?_
    refine lv_icmp_ge hx hb d63_28 rfl (fun h9 => ?_) (fun h9 => ?_)
    · have hF := (if_pos h9).symm.trans hF
      refine lv_aload_n hx hb d63_57 rfl (lv_at hl 0 rfl) ?_
      refine lv_aload_n hx hb d63_58 rfl (lv_at hl 0 rfl) ?_
      refine va_get (D := D) (ci := 2) (v := .int (st.1 8)) (C := kR2) (T := kT2) (N := 60) hx hb hts ku2 hown hK (hm_one I.1 mm_hr) 0 rfl rfl 8 (by decide) (hts _ ms_k1324) (fun _ h => h) rfl d63_59 ?_
      refine lv_iconst (v := 2) hx hb d63_62 (by decide) ?_
      refine lv_iadd hx hb d63_63 ?_
      refine lv_iload_n hx hb d63_64 rfl (lv_at hl 2 rfl) ?_
      refine lv_iadd hx hb d63_65 ?_
      refine lv_bipush (v := 62) hx hb d63_66 (by decide) ?_
      obtain ⟨q3, e9, hF⟩ := mm_bd hF
      refine ht_V (C := "MarkupStoreModel") (rest := []) (as := [.int (((st.1 8) + 2) + x2), .int 62]) X hl (cm_must l D dA s0 hE h0 r M hM z0 (((st.1 8) + 2) + x2) 62 st q3 e9) (List.forall_mem_cons.mpr ⟨ms_k1551, List.forall_mem_cons.mpr ⟨ms_k1553, List.forall_mem_cons.mpr ⟨ms_p54, List.forall_mem_cons.mpr ⟨ms_k7, List.forall_mem_cons.mpr ⟨ms_k1554, fun _ h => absurd h List.not_mem_nil⟩⟩⟩⟩⟩) ⟨rfl, by decide +kernel, by decide +kernel, (by decide +kernel : (parseMethodDescriptor "(IC)Z").map (fun d => d.parameters.length) = some 2)⟩ (hm_recv hK I rfl mm_hr) I ⟨rfl, rfl⟩ ⟨⟨Nat.le_of_ble_eq_true rfl, Nat.le_of_ble_eq_true rfl⟩, Nat.le_of_ble_eq_true rfl, Nat.le_of_ble_eq_true rfl⟩ rfl (Nat.le_of_ble_eq_true rfl) d63_68 (fun vv h1 z1 H locs hR I9 => ?_)
      obtain ⟨e1, e2, e3⟩ := hR
      rw [e2, e3] at I9
      clear I e2 e3 e9
      have I := I9
      clear I9
      subst e1
      refine W.eq (g2 := F0 m 71 ls [.int q3.1]) rfl ?_
      refine lv_pop hx hb d63_71 rfl ?_
      refine lv_aload_n hx hb d63_72 rfl (lv_at hl 0 rfl) ?_
      refine lv_dup hx hb d63_73 rfl ?_
      refine va_get (D := D) (ci := 2) (v := .int (q3.2.1 14)) (C := kR2) (T := kT2) (N := 60) hx hb hts ku2 hown hK (hm_one I.1 mm_hr) 0 rfl rfl 14 (by decide) (hts _ ms_k1330) (fun _ h => h) rfl d63_74 ?_
      refine lv_iconst (v := 1) hx hb d63_77 (by decide) ?_
      refine lv_isub hx hb d63_78 ?_
      obtain ⟨st4, e9, hF⟩ := mm_lt_some hF
      refine mm_put (k := 14) (ty := .int) X I (by decide) ms_k1330 rfl rfl (by decide +kernel) ⟨rfl, rfl⟩ rfl e9 d63_79 (fun H locs I => ?_)
      clear e9
      refine lv_aload_n hx hb d63_82 rfl (lv_at hl 0 rfl) ?_
      refine lv_iconst (v := (-1)) hx hb d63_83 (by decide) ?_
      obtain ⟨st5, e9, hF⟩ := mm_lt_some hF
      refine mm_put (k := 12) (ty := .int) X I (by decide) ms_k1328 rfl rfl (by decide +kernel) ⟨rfl, rfl⟩ rfl e9 d63_84 (fun H locs I => ?_)
      clear e9
      refine lv_aload_n hx hb d63_87 rfl (lv_at hl 0 rfl) ?_
      refine lv_aload_n hx hb d63_88 rfl (lv_at hl 0 rfl) ?_
      refine va_get (D := D) (ci := 2) (v := .int (st5.1 8)) (C := kR2) (T := kT2) (N := 60) hx hb hts ku2 hown hK (hm_one I.1 mm_hr) 0 rfl rfl 8 (by decide) (hts _ ms_k1324) (fun _ h => h) rfl d63_89 ?_
      refine lv_iconst (v := 3) hx hb d63_92 (by decide) ?_
      refine lv_iadd hx hb d63_93 ?_
      refine lv_iload_n hx hb d63_94 rfl (lv_at hl 2 rfl) ?_
      refine lv_iadd hx hb d63_95 ?_
      obtain ⟨st6, e9, hF⟩ := mm_lt_some hF
      refine mm_put (k := 8) (ty := .int) X I (by decide) ms_k1324 rfl rfl (by decide +kernel) ⟨rfl, rfl⟩ rfl e9 d63_96 (fun H locs I => ?_)
      clear e9
      exact ht_vret X d63_99 I (Nat.le_of_ble_eq_true rfl) (Nat.le_of_ble_eq_true rfl) (mm_finV hF)
    · have hF := (if_neg h9).symm.trans hF
      refine lv_aload_n hx hb d63_31 rfl (lv_at hl 0 rfl) ?_
      refine lv_aload_n hx hb d63_32 rfl (lv_at hl 0 rfl) ?_
      refine va_get (D := D) (ci := 2) (v := .int (st.1 8)) (C := kR2) (T := kT2) (N := 60) hx hb hts ku2 hown hK (hm_one I.1 mm_hr) 0 rfl rfl 8 (by decide) (hts _ ms_k1324) (fun _ h => h) rfl d63_33 ?_
      refine lv_iconst (v := 2) hx hb d63_36 (by decide) ?_
      refine lv_iadd hx hb d63_37 ?_
      refine lv_iload_n hx hb d63_38 rfl (lv_at hl 3 rfl) ?_
      refine lv_iadd hx hb d63_39 ?_
      refine lv_aload_n hx hb d63_40 rfl (lv_at hl 0 rfl) ?_
      refine lv_iload_n hx hb d63_41 rfl (lv_at hl 1 rfl) ?_
      refine lv_iload_n hx hb d63_42 rfl (lv_at hl 3 rfl) ?_
      refine lv_iadd hx hb d63_43 ?_
      obtain ⟨q7, e9, hF⟩ := mm_bd hF
      refine ht_V (C := "MarkupStoreModel") (rest := [.int (((st.1 8) + 2) + x3), .ref r]) (as := [.int (x1 + x3)]) X hl (cm_look l D dA s0 hE h0 r M hM z0 (x1 + x3) st q7 e9) (List.forall_mem_cons.mpr ⟨ms_k1516, List.forall_mem_cons.mpr ⟨ms_k1518, List.forall_mem_cons.mpr ⟨ms_p46, List.forall_mem_cons.mpr ⟨ms_k7, List.forall_mem_cons.mpr ⟨ms_k1519, fun _ h => absurd h List.not_mem_nil⟩⟩⟩⟩⟩) ⟨rfl, by decide +kernel, by decide +kernel, (by decide +kernel : (parseMethodDescriptor "(I)C").map (fun d => d.parameters.length) = some 1)⟩ (hm_recv hK I rfl mm_hr) I ⟨rfl, rfl⟩ ⟨⟨Nat.le_of_ble_eq_true rfl, Nat.le_of_ble_eq_true rfl⟩, Nat.le_of_ble_eq_true rfl, Nat.le_of_ble_eq_true rfl⟩ rfl (Nat.le_of_ble_eq_true rfl) d63_44 (fun vv h1 z1 H locs hR I9 => ?_)
      obtain ⟨e1, e2, e3⟩ := hR
      rw [e2, e3] at I9
      clear I e2 e3 e9
      have I := I9
      clear I9
      subst e1
      refine W.eq (g2 := F0 m 47 ls [.int q7.1, .int (((st.1 8) + 2) + x3), .ref r]) rfl ?_
      obtain ⟨q8, e9, hF⟩ := mm_bd hF
      refine ht_V (C := "MarkupStoreModel") (rest := []) (as := [.int (((st.1 8) + 2) + x3), .int q7.1]) X hl (cm_must l D dA s0 hE h0 r M hM z0 (((st.1 8) + 2) + x3) q7.1 q7.2 q8 e9) (List.forall_mem_cons.mpr ⟨ms_k1551, List.forall_mem_cons.mpr ⟨ms_k1553, List.forall_mem_cons.mpr ⟨ms_p54, List.forall_mem_cons.mpr ⟨ms_k7, List.forall_mem_cons.mpr ⟨ms_k1554, fun _ h => absurd h List.not_mem_nil⟩⟩⟩⟩⟩) ⟨rfl, by decide +kernel, by decide +kernel, (by decide +kernel : (parseMethodDescriptor "(IC)Z").map (fun d => d.parameters.length) = some 2)⟩ (hm_recv hK I rfl mm_hr) I ⟨rfl, rfl⟩ ⟨⟨Nat.le_of_ble_eq_true rfl, Nat.le_of_ble_eq_true rfl⟩, Nat.le_of_ble_eq_true rfl, Nat.le_of_ble_eq_true rfl⟩ rfl (Nat.le_of_ble_eq_true rfl) d63_47 (fun vv h1 z1 H locs hR I9 => ?_)
      obtain ⟨e1, e2, e3⟩ := hR
      rw [e2, e3] at I9
      clear I e2 e3 e9
      have I := I9
      clear I9
      subst e1
      refine W.eq (g2 := F0 m 50 ls [.int q8.1]) rfl ?_
      refine lv_pop hx hb d63_50 rfl ?_
      refine lv_iinc (k := 3) (v := (x3 + 1)) hx hb d63_51 hl rfl (rfl) (by decide) rfl (fun ls hl => ?_)
      have hl : lv_has ls 4 [(3, .int (x3 + 1)), (0, .ref r), (1, .int x1), (2, .int x2)] := hl
      refine lv_goto hx hb d63_54 rfl ?_
      exact hk26 ls x1 x2 (x3 + 1) q8.2 _ _ hF (hl.sub [1, 2, 3, 0] rfl) I
  have hF := hg
  unfold g_endTag at hF
  refine lv_aload_n hx hb d63_0 rfl (lv_at hl 0 rfl) ?_
  refine va_get (D := D) (ci := 2) (v := .ref (M 16)) (C := kR2) (T := kT2) (N := 60) hx hb hts ku2 hown hK (hm_one I.1 mm_hr) 0 rfl rfl 16 (by decide) (hts _ ms_k1332) (fun _ h => h) rfl d63_1 ?_
  refine lv_aload_n hx hb d63_4 rfl (lv_at hl 0 rfl) ?_
  refine va_get (D := D) (ci := 2) (v := .int (st.1 14)) (C := kR2) (T := kT2) (N := 60) hx hb hts ku2 hown hK (hm_one I.1 mm_hr) 0 rfl rfl 14 (by decide) (hts _ ms_k1330) (fun _ h => h) rfl d63_5 ?_
  refine lv_iconst (v := 1) hx hb d63_8 (by decide) ?_
  refine lv_isub hx hb d63_9 ?_
  obtain ⟨v1, i9, e9, hF⟩ := mm_ld_some hF
  refine va_iald hx hb hK (hm_one I.1 (mm_a16 hM)) 0 0 rfl rfl i9 d63_10 ?_
  refine ms_top (y := v1) e9 ?_
  clear e9 i9
  refine lv_istore_n hx hb d63_11 rfl hl (by decide) rfl (fun ls hl => ?_)
  have hl : lv_has ls 4 [(1, .int v1), (0, .ref r)] := hl
  refine lv_aload_n hx hb d63_12 rfl (lv_at hl 1 rfl) ?_
  refine va_get (D := D) (ci := 2) (v := .ref (M 17)) (C := kR2) (T := kT2) (N := 60) hx hb hts ku2 hown hK (hm_one I.1 mm_hr) 0 rfl rfl 17 (by decide) (hts _ ms_k1333) (fun _ h => h) rfl d63_13 ?_
  refine lv_aload_n hx hb d63_16 rfl (lv_at hl 1 rfl) ?_
  refine va_get (D := D) (ci := 2) (v := .int (st.1 14)) (C := kR2) (T := kT2) (N := 60) hx hb hts ku2 hown hK (hm_one I.1 mm_hr) 0 rfl rfl 14 (by decide) (hts _ ms_k1330) (fun _ h => h) rfl d63_17 ?_
  refine lv_iconst (v := 1) hx hb d63_20 (by decide) ?_
  refine lv_isub hx hb d63_21 ?_
  obtain ⟨v2, i9, e9, hF⟩ := mm_ld_some hF
  refine va_iald hx hb hK (hm_one I.1 (mm_a17 hM)) 0 0 rfl rfl i9 d63_22 ?_
  refine ms_top (y := v2) e9 ?_
  clear e9 i9
  refine lv_istore_n hx hb d63_23 rfl hl (by decide) rfl (fun ls hl => ?_)
  have hl : lv_has ls 4 [(2, .int v2), (1, .int v1), (0, .ref r)] := hl
  refine lv_iconst (v := 0) hx hb d63_24 (by decide) ?_
  refine lv_istore_n hx hb d63_25 rfl hl (by decide) rfl (fun ls hl => ?_)
  have hl : lv_has ls 4 [(3, .int 0), (2, .int v2), (1, .int v1), (0, .ref r)] := hl
  exact b26 mF ls v1 v2 0 st _ _ hF (hl.sub [3, 2, 1, 0] rfl) I
