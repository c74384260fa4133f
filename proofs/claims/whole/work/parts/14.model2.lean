theorem ms_k1317 : (Jvm.Cond.fieldLink "MarkupStoreModel" (13 : Nat) "MarkupStoreModel" "saved" "[I") ∈ ms_tb := ms_i6 117 (by decide +kernel) (by decide +kernel)
theorem ms_k1319 : (Jvm.Cond.fieldLink "MarkupStoreModel" (19 : Nat) "MarkupStoreModel" "slots" "[I") ∈ ms_tb := ms_i6 119 (by decide +kernel) (by decide +kernel)
theorem ms_k1320 : (Jvm.Cond.fieldLink "MarkupStoreModel" (233 : Nat) "MarkupStoreModel" "made" "I") ∈ ms_tb := ms_i6 120 (by decide +kernel) (by decide +kernel)
theorem ms_k1321 : (Jvm.Cond.fieldLink "MarkupStoreModel" (239 : Nat) "MarkupStoreModel" "changes" "I") ∈ ms_tb := ms_i6 121 (by decide +kernel) (by decide +kernel)
theorem ms_k1329 : (Jvm.Cond.fieldLink "MarkupStoreModel" (204 : Nat) "MarkupStoreModel" "base" "I") ∈ ms_tb := ms_i6 129 (by decide +kernel) (by decide +kernel)
theorem ms_k1338 : (Jvm.Cond.fieldLink "MarkupStoreModel" (41 : Nat) "MarkupStoreModel" "tail" "[I") ∈ ms_tb := ms_i6 138 (by decide +kernel) (by decide +kernel)
theorem ms_k1339 : (Jvm.Cond.fieldLink "MarkupStoreModel" (220 : Nat) "MarkupStoreModel" "tails" "I") ∈ ms_tb := ms_i6 139 (by decide +kernel) (by decide +kernel)
theorem ms_k1512 : (Jvm.Cond.methodLink "MarkupStoreModel" (242 : Nat) ({ cls := "MarkupStoreModel", name := "parse", desc := "(ZI)V" } : Jvm.MethodName)) ∈ ms_tb := ms_i7 72 (by decide +kernel) (by decide +kernel)
theorem ms_k1514 : (Jvm.Cond.instanceMethod ({ cls := "MarkupStoreModel", name := "parse", desc := "(ZI)V" } : Jvm.MethodName)) ∈ ms_tb := ms_i7 74 (by decide +kernel) (by decide +kernel)
theorem ms_k1515 : (Jvm.Cond.code ({ cls := "MarkupStoreModel", name := "parse", desc := "(ZI)V" } : Jvm.MethodName) prog_14_method_28_code (5 : Nat) (Option.none : Option Jvm.ClassFile.FieldType)) ∈ ms_tb := ms_i7 75 (by decide +kernel) (by decide +kernel)
theorem ms_k1524 : (Jvm.Cond.methodLink "MarkupStoreModel" (216 : Nat) ({ cls := "MarkupStoreModel", name := "tag", desc := "(Z)V" } : Jvm.MethodName)) ∈ ms_tb := ms_i7 84 (by decide +kernel) (by decide +kernel)
theorem ms_k1526 : (Jvm.Cond.instanceMethod ({ cls := "MarkupStoreModel", name := "tag", desc := "(Z)V" } : Jvm.MethodName)) ∈ ms_tb := ms_i7 86 (by decide +kernel) (by decide +kernel)
theorem ms_k1527 : (Jvm.Cond.code ({ cls := "MarkupStoreModel", name := "tag", desc := "(Z)V" } : Jvm.MethodName) prog_14_method_27_code (3 : Nat) (Option.none : Option Jvm.ClassFile.FieldType)) ∈ ms_tb := ms_i7 87 (by decide +kernel) (by decide +kernel)
theorem ms_k1531 : (Jvm.Cond.methodLink "MarkupStoreModel" (207 : Nat) ({ cls := "MarkupStoreModel", name := "startTag", desc := "()V" } : Jvm.MethodName)) ∈ ms_tb := ms_i7 91 (by decide +kernel) (by decide +kernel)
theorem ms_k1533 : (Jvm.Cond.instanceMethod ({ cls := "MarkupStoreModel", name := "startTag", desc := "()V" } : Jvm.MethodName)) ∈ ms_tb := ms_i7 93 (by decide +kernel) (by decide +kernel)
theorem ms_k1534 : (Jvm.Cond.code ({ cls := "MarkupStoreModel", name := "startTag", desc := "()V" } : Jvm.MethodName) prog_14_method_24_code (5 : Nat) (Option.none : Option Jvm.ClassFile.FieldType)) ∈ ms_tb := ms_i7 94 (by decide +kernel) (by decide +kernel)
theorem ms_k1567 : (Jvm.Cond.methodLink "MarkupStoreModel" (210 : Nat) ({ cls := "MarkupStoreModel", name := "endTag", desc := "()V" } : Jvm.MethodName)) ∈ ms_tb := ms_i7 127 (by decide +kernel) (by decide +kernel)
theorem ms_k1569 : (Jvm.Cond.instanceMethod ({ cls := "MarkupStoreModel", name := "endTag", desc := "()V" } : Jvm.MethodName)) ∈ ms_tb := ms_i7 129 (by decide +kernel) (by decide +kernel)
theorem ms_k1570 : (Jvm.Cond.code ({ cls := "MarkupStoreModel", name := "endTag", desc := "()V" } : Jvm.MethodName) prog_14_method_25_code (4 : Nat) (Option.none : Option Jvm.ClassFile.FieldType)) ∈ ms_tb := ms_i7 130 (by decide +kernel) (by decide +kernel)
theorem ms_k1571 : (Jvm.Cond.methodLink "MarkupStoreModel" (213 : Nat) ({ cls := "MarkupStoreModel", name := "comment", desc := "()V" } : Jvm.MethodName)) ∈ ms_tb := ms_i7 131 (by decide +kernel) (by decide +kernel)
theorem ms_k1573 : (Jvm.Cond.instanceMethod ({ cls := "MarkupStoreModel", name := "comment", desc := "()V" } : Jvm.MethodName)) ∈ ms_tb := ms_i7 133 (by decide +kernel) (by decide +kernel)
theorem ms_k1574 : (Jvm.Cond.code ({ cls := "MarkupStoreModel", name := "comment", desc := "()V" } : Jvm.MethodName) prog_14_method_26_code (3 : Nat) (Option.none : Option Jvm.ClassFile.FieldType)) ∈ ms_tb := ms_i7 134 (by decide +kernel) (by decide +kernel)
theorem ms_k1575 : (Jvm.Cond.methodLink "MarkupStoreModel" (229 : Nat) ({ cls := "MarkupStoreModel", name := "set", desc := "(III)V" } : Jvm.MethodName)) ∈ ms_tb := ms_i7 135 (by decide +kernel) (by decide +kernel)
theorem ms_k1577 : (Jvm.Cond.instanceMethod ({ cls := "MarkupStoreModel", name := "set", desc := "(III)V" } : Jvm.MethodName)) ∈ ms_tb := ms_i7 137 (by decide +kernel) (by decide +kernel)
theorem ms_k1578 : (Jvm.Cond.code ({ cls := "MarkupStoreModel", name := "set", desc := "(III)V" } : Jvm.MethodName) prog_14_method_3_code (4 : Nat) (Option.none : Option Jvm.ClassFile.FieldType)) ∈ ms_tb := ms_i7 138 (by decide +kernel) (by decide +kernel)
theorem ms_k1579 : (Jvm.Cond.methodLink "MarkupStoreModel" (246 : Nat) ({ cls := "MarkupStoreModel", name := "install", desc := "(II)V" } : Jvm.MethodName)) ∈ ms_tb := ms_i7 139 (by decide +kernel) (by decide +kernel)
theorem ms_k1581 : (Jvm.Cond.instanceMethod ({ cls := "MarkupStoreModel", name := "install", desc := "(II)V" } : Jvm.MethodName)) ∈ ms_tb := ms_i7 141 (by decide +kernel) (by decide +kernel)
theorem ms_k1582 : (Jvm.Cond.code ({ cls := "MarkupStoreModel", name := "install", desc := "(II)V" } : Jvm.MethodName) prog_14_method_34_code (6 : Nat) (Option.none : Option Jvm.ClassFile.FieldType)) ∈ ms_tb := ms_i7 142 (by decide +kernel) (by decide +kernel)
theorem ms_k1591 : (Jvm.Cond.methodLink "MarkupStoreModel" (236 : Nat) ({ cls := "MarkupStoreModel", name := "labelBy", desc := "(III)V" } : Jvm.MethodName)) ∈ ms_tb := ms_i7 151 (by decide +kernel) (by decide +kernel)
theorem ms_k1593 : (Jvm.Cond.instanceMethod ({ cls := "MarkupStoreModel", name := "labelBy", desc := "(III)V" } : Jvm.MethodName)) ∈ ms_tb := ms_i7 153 (by decide +kernel) (by decide +kernel)
theorem ms_k1594 : (Jvm.Cond.code ({ cls := "MarkupStoreModel", name := "labelBy", desc := "(III)V" } : Jvm.MethodName) prog_14_method_33_code (7 : Nat) (Option.none : Option Jvm.ClassFile.FieldType)) ∈ ms_tb := ms_i7 154 (by decide +kernel) (by decide +kernel)
theorem ms_k1595 : (Jvm.Cond.methodLink "MarkupStoreModel" (250 : Nat) ({ cls := "MarkupStoreModel", name := "save", desc := "()V" } : Jvm.MethodName)) ∈ ms_tb := ms_i7 155 (by decide +kernel) (by decide +kernel)
theorem ms_k1597 : (Jvm.Cond.instanceMethod ({ cls := "MarkupStoreModel", name := "save", desc := "()V" } : Jvm.MethodName)) ∈ ms_tb := ms_i7 157 (by decide +kernel) (by decide +kernel)
theorem ms_k1598 : (Jvm.Cond.code ({ cls := "MarkupStoreModel", name := "save", desc := "()V" } : Jvm.MethodName) prog_14_method_35_code (2 : Nat) (Option.none : Option Jvm.ClassFile.FieldType)) ∈ ms_tb := ms_i7 158 (by decide +kernel) (by decide +kernel)
theorem ms_k1639 : (Jvm.Cond.methodLink "MarkupStoreModel" (223 : Nat) ({ cls := "MarkupStoreModel", name := "odd", desc := "(I)Z" } : Jvm.MethodName)) ∈ ms_tb := ms_i7 199 (by decide +kernel) (by decide +kernel)
theorem ms_k1640 : (Jvm.Cond.static ({ cls := "MarkupStoreModel", name := "odd", desc := "(I)Z" } : Jvm.MethodName)) ∈ ms_tb := ms_i7 200 (by decide +kernel) (by decide +kernel)
theorem ms_k1641 : (Jvm.Cond.code ({ cls := "MarkupStoreModel", name := "odd", desc := "(I)Z" } : Jvm.MethodName) prog_14_method_29_code (1 : Nat) (Option.some Jvm.ClassFile.FieldType.boolean)) ∈ ms_tb := ms_i7 201 (by decide +kernel) (by decide +kernel)
theorem ms_k1642 : (Jvm.Cond.methodLink "MarkupStoreModel" (226 : Nat) ({ cls := "MarkupStoreModel", name := "tailBy", desc := "(I)V" } : Jvm.MethodName)) ∈ ms_tb := ms_i7 202 (by decide +kernel) (by decide +kernel)
theorem ms_k1644 : (Jvm.Cond.instanceMethod ({ cls := "MarkupStoreModel", name := "tailBy", desc := "(I)V" } : Jvm.MethodName)) ∈ ms_tb := ms_i7 204 (by decide +kernel) (by decide +kernel)
theorem ms_k1645 : (Jvm.Cond.code ({ cls := "MarkupStoreModel", name := "tailBy", desc := "(I)V" } : Jvm.MethodName) prog_14_method_30_code (2 : Nat) (Option.none : Option Jvm.ClassFile.FieldType)) ∈ ms_tb := ms_i7 205 (by decide +kernel) (by decide +kernel)
theorem ms_p45 : Cond.selects "MarkupStoreModel" (⟨"MarkupStoreModel", "parse", "(ZI)V"⟩ : MethodName) (⟨"MarkupStoreModel", "parse", "(ZI)V"⟩ : MethodName) ∈ ms_tb := ms_inP 45 (by decide +kernel) (by decide +kernel)
theorem ms_p48 : Cond.selects "MarkupStoreModel" (⟨"MarkupStoreModel", "tag", "(Z)V"⟩ : MethodName) (⟨"MarkupStoreModel", "tag", "(Z)V"⟩ : MethodName) ∈ ms_tb := ms_inP 48 (by decide +kernel) (by decide +kernel)
theorem ms_p49 : Cond.selects "MarkupStoreModel" (⟨"MarkupStoreModel", "startTag", "()V"⟩ : MethodName) (⟨"MarkupStoreModel", "startTag", "()V"⟩ : MethodName) ∈ ms_tb := ms_inP 49 (by decide +kernel) (by decide +kernel)
theorem ms_p58 : Cond.selects "MarkupStoreModel" (⟨"MarkupStoreModel", "endTag", "()V"⟩ : MethodName) (⟨"MarkupStoreModel", "endTag", "()V"⟩ : MethodName) ∈ ms_tb := ms_inP 58 (by decide +kernel) (by decide +kernel)
theorem ms_p59 : Cond.selects "MarkupStoreModel" (⟨"MarkupStoreModel", "comment", "()V"⟩ : MethodName) (⟨"MarkupStoreModel", "comment", "()V"⟩ : MethodName) ∈ ms_tb := ms_inP 59 (by decide +kernel) (by decide +kernel)
theorem ms_p60 : Cond.selects "MarkupStoreModel" (⟨"MarkupStoreModel", "set", "(III)V"⟩ : MethodName) (⟨"MarkupStoreModel", "set", "(III)V"⟩ : MethodName) ∈ ms_tb := ms_inP 60 (by decide +kernel) (by decide +kernel)
theorem ms_p61 : Cond.selects "MarkupStoreModel" (⟨"MarkupStoreModel", "install", "(II)V"⟩ : MethodName) (⟨"MarkupStoreModel", "install", "(II)V"⟩ : MethodName) ∈ ms_tb := ms_inP 61 (by decide +kernel) (by decide +kernel)
theorem ms_p64 : Cond.selects "MarkupStoreModel" (⟨"MarkupStoreModel", "labelBy", "(III)V"⟩ : MethodName) (⟨"MarkupStoreModel", "labelBy", "(III)V"⟩ : MethodName) ∈ ms_tb := ms_inP 64 (by decide +kernel) (by decide +kernel)
theorem ms_p65 : Cond.selects "MarkupStoreModel" (⟨"MarkupStoreModel", "save", "()V"⟩ : MethodName) (⟨"MarkupStoreModel", "save", "()V"⟩ : MethodName) ∈ ms_tb := ms_inP 65 (by decide +kernel) (by decide +kernel)
theorem ms_p75 : Cond.selects "MarkupStoreModel" (⟨"MarkupStoreModel", "tailBy", "(I)V"⟩ : MethodName) (⟨"MarkupStoreModel", "tailBy", "(I)V"⟩ : MethodName) ∈ ms_tb := ms_inP 75 (by decide +kernel) (by decide +kernel)
abbrev bM64 : ByteArray := prog_14_method_26_code
def yM64 : MethodName := ⟨"MarkupStoreModel", "comment", "()V"⟩
abbrev bM65 : ByteArray := prog_14_method_27_code
def yM65 : MethodName := ⟨"MarkupStoreModel", "tag", "(Z)V"⟩
abbrev bM66 : ByteArray := prog_14_method_28_code
def yM66 : MethodName := ⟨"MarkupStoreModel", "parse", "(ZI)V"⟩
abbrev bM67 : ByteArray := prog_14_method_29_code
def yM67 : MethodName := ⟨"MarkupStoreModel", "odd", "(I)Z"⟩
abbrev bM68 : ByteArray := prog_14_method_30_code
def yM68 : MethodName := ⟨"MarkupStoreModel", "tailBy", "(I)V"⟩
abbrev bM69 : ByteArray := prog_14_method_31_code
def yM69 : MethodName := ⟨"MarkupStoreModel", "between", "(III)V"⟩
abbrev bM70 : ByteArray := prog_14_method_32_code
def yM70 : MethodName := ⟨"MarkupStoreModel", "below", "()I"⟩
abbrev bM71 : ByteArray := prog_14_method_33_code
def yM71 : MethodName := ⟨"MarkupStoreModel", "labelBy", "(III)V"⟩
abbrev bM72 : ByteArray := prog_14_method_34_code
def yM72 : MethodName := ⟨"MarkupStoreModel", "install", "(II)V"⟩
abbrev bM73 : ByteArray := prog_14_method_35_code
def yM73 : MethodName := ⟨"MarkupStoreModel", "save", "()V"⟩
abbrev bM74 : ByteArray := prog_14_method_36_code
def yM74 : MethodName := ⟨"MarkupStoreModel", "type", "(C)Z"⟩
abbrev bM75 : ByteArray := prog_14_method_37_code
def yM75 : MethodName := ⟨"MarkupStoreModel", "loaded", "()I"⟩
theorem d64_0 : decode bM64 0 = .ok (.aload_n 0, 1) := by decide +kernel
theorem d64_1 : decode bM64 1 = .ok (.aload_n 0, 1) := by decide +kernel
theorem d64_2 : decode bM64 2 = .ok (.getfield 197, 3) := by decide +kernel
theorem d64_5 : decode bM64 5 = .ok (.iconst 2, 1) := by decide +kernel
theorem d64_6 : decode bM64 6 = .ok (.iadd, 1) := by decide +kernel
theorem d64_7 : decode bM64 7 = .ok (.bipush 45, 2) := by decide +kernel
theorem d64_9 : decode bM64 9 = .ok (.invokevirtual 182, 3) := by decide +kernel
theorem d64_12 : decode bM64 12 = .ok (.ifCond .eq 18, 3) := by decide +kernel
theorem d64_15 : decode bM64 15 = .ok (.aload_n 0, 1) := by decide +kernel
theorem d64_16 : decode bM64 16 = .ok (.aload_n 0, 1) := by decide +kernel
theorem d64_17 : decode bM64 17 = .ok (.getfield 197, 3) := by decide +kernel
theorem d64_20 : decode bM64 20 = .ok (.iconst 3, 1) := by decide +kernel
theorem d64_21 : decode bM64 21 = .ok (.iadd, 1) := by decide +kernel
theorem d64_22 : decode bM64 22 = .ok (.bipush 45, 2) := by decide +kernel
theorem d64_24 : decode bM64 24 = .ok (.invokevirtual 182, 3) := by decide +kernel
theorem d64_27 : decode bM64 27 = .ok (.ifCond .ne 4, 3) := by decide +kernel
theorem d64_30 : decode bM64 30 = .ok (.return_, 1) := by decide +kernel
theorem d64_31 : decode bM64 31 = .ok (.aload_n 0, 1) := by decide +kernel
theorem d64_32 : decode bM64 32 = .ok (.iconst 3, 1) := by decide +kernel
theorem d64_33 : decode bM64 33 = .ok (.invokevirtual 194, 3) := by decide +kernel
theorem d64_36 : decode bM64 36 = .ok (.istore_n 1, 1) := by decide +kernel
theorem d64_37 : decode bM64 37 = .ok (.aload_n 0, 1) := by decide +kernel
theorem d64_38 : decode bM64 38 = .ok (.getfield 197, 3) := by decide +kernel
theorem d64_41 : decode bM64 41 = .ok (.iconst 4, 1) := by decide +kernel
theorem d64_42 : decode bM64 42 = .ok (.iadd, 1) := by decide +kernel
theorem d64_43 : decode bM64 43 = .ok (.istore_n 2, 1) := by decide +kernel
theorem d64_44 : decode bM64 44 = .ok (.aload_n 0, 1) := by decide +kernel
theorem d64_45 : decode bM64 45 = .ok (.getfield 137, 3) := by decide +kernel
theorem d64_48 : decode bM64 48 = .ok (.ifCond .ge 60, 3) := by decide +kernel
theorem d64_51 : decode bM64 51 = .ok (.aload_n 0, 1) := by decide +kernel
theorem d64_52 : decode bM64 52 = .ok (.iload_n 2, 1) := by decide +kernel
theorem d64_53 : decode bM64 53 = .ok (.invokevirtual 140, 3) := by decide +kernel
theorem d64_56 : decode bM64 56 = .ok (.bipush 45, 2) := by decide +kernel
theorem d64_58 : decode bM64 58 = .ok (.if_icmp .ne 15, 3) := by decide +kernel
theorem d64_61 : decode bM64 61 = .ok (.aload_n 0, 1) := by decide +kernel
theorem d64_62 : decode bM64 62 = .ok (.iload_n 2, 1) := by decide +kernel
theorem d64_63 : decode bM64 63 = .ok (.iconst 1, 1) := by decide +kernel
theorem d64_64 : decode bM64 64 = .ok (.iadd, 1) := by decide +kernel
theorem d64_65 : decode bM64 65 = .ok (.invokevirtual 140, 3) := by decide +kernel
theorem d64_68 : decode bM64 68 = .ok (.bipush 45, 2) := by decide +kernel
theorem d64_70 : decode bM64 70 = .ok (.if_icmp .eq 38, 3) := by decide +kernel
theorem d64_73 : decode bM64 73 = .ok (.iload_n 2, 1) := by decide +kernel
theorem d64_74 : decode bM64 74 = .ok (.aload_n 0, 1) := by decide +kernel
theorem d64_75 : decode bM64 75 = .ok (.getfield 133, 3) := by decide +kernel
theorem d64_78 : decode bM64 78 = .ok (.if_icmp .lt 11, 3) := by decide +kernel
theorem d64_81 : decode bM64 81 = .ok (.aload_n 0, 1) := by decide +kernel
theorem d64_82 : decode bM64 82 = .ok (.aload_n 0, 1) := by decide +kernel
theorem d64_83 : decode bM64 83 = .ok (.getfield 133, 3) := by decide +kernel
theorem d64_86 : decode bM64 86 = .ok (.invokevirtual 144, 3) := by decide +kernel
theorem d64_89 : decode bM64 89 = .ok (.aload_n 0, 1) := by decide +kernel
theorem d64_90 : decode bM64 90 = .ok (.iload_n 1, 1) := by decide +kernel
theorem d64_91 : decode bM64 91 = .ok (.iconst 3, 1) := by decide +kernel
theorem d64_92 : decode bM64 92 = .ok (.bipush 8, 2) := by decide +kernel
theorem d64_94 : decode bM64 94 = .ok (.aload_n 0, 1) := by decide +kernel
theorem d64_95 : decode bM64 95 = .ok (.iload_n 2, 1) := by decide +kernel
theorem d64_96 : decode bM64 96 = .ok (.invokevirtual 140, 3) := by decide +kernel
theorem d64_99 : decode bM64 99 = .ok (.invokevirtual 190, 3) := by decide +kernel
theorem d64_102 : decode bM64 102 = .ok (.iinc 2 1, 3) := by decide +kernel
theorem d64_105 : decode bM64 105 = .ok (.goto (-61), 3) := by decide +kernel
theorem d64_108 : decode bM64 108 = .ok (.aload_n 0, 1) := by decide +kernel
theorem d64_109 : decode bM64 109 = .ok (.iload_n 2, 1) := by decide +kernel
theorem d64_110 : decode bM64 110 = .ok (.iconst 2, 1) := by decide +kernel
theorem d64_111 : decode bM64 111 = .ok (.iadd, 1) := by decide +kernel
theorem d64_112 : decode bM64 112 = .ok (.bipush 62, 2) := by decide +kernel
theorem d64_114 : decode bM64 114 = .ok (.invokevirtual 182, 3) := by decide +kernel
theorem d64_117 : decode bM64 117 = .ok (.pop, 1) := by decide +kernel
theorem d64_118 : decode bM64 118 = .ok (.aload_n 0, 1) := by decide +kernel
theorem d64_119 : decode bM64 119 = .ok (.iload_n 2, 1) := by decide +kernel
theorem d64_120 : decode bM64 120 = .ok (.iconst 3, 1) := by decide +kernel
theorem d64_121 : decode bM64 121 = .ok (.iadd, 1) := by decide +kernel
theorem d64_122 : decode bM64 122 = .ok (.putfield 197, 3) := by decide +kernel
theorem d64_125 : decode bM64 125 = .ok (.return_, 1) := by decide +kernel
theorem d65_0 : decode bM65 0 = .ok (.aload_n 0, 1) := by decide +kernel
theorem d65_1 : decode bM65 1 = .ok (.aload_n 0, 1) := by decide +kernel
theorem d65_2 : decode bM65 2 = .ok (.getfield 197, 3) := by decide +kernel
theorem d65_5 : decode bM65 5 = .ok (.iconst 1, 1) := by decide +kernel
theorem d65_6 : decode bM65 6 = .ok (.iadd, 1) := by decide +kernel
theorem d65_7 : decode bM65 7 = .ok (.invokevirtual 140, 3) := by decide +kernel
theorem d65_10 : decode bM65 10 = .ok (.istore_n 2, 1) := by decide +kernel
theorem d65_11 : decode bM65 11 = .ok (.iload_n 2, 1) := by decide +kernel
theorem d65_12 : decode bM65 12 = .ok (.invokestatic 148, 3) := by decide +kernel
theorem d65_15 : decode bM65 15 = .ok (.ifCond .eq 34, 3) := by decide +kernel
theorem d65_18 : decode bM65 18 = .ok (.aload_n 0, 1) := by decide +kernel
theorem d65_19 : decode bM65 19 = .ok (.getfield 204, 3) := by decide +kernel
theorem d65_22 : decode bM65 22 = .ok (.aload_n 0, 1) := by decide +kernel
theorem d65_23 : decode bM65 23 = .ok (.getfield 158, 3) := by decide +kernel
theorem d65_26 : decode bM65 26 = .ok (.iadd, 1) := by decide +kernel
theorem d65_27 : decode bM65 27 = .ok (.iconst 5, 1) := by decide +kernel
theorem d65_28 : decode bM65 28 = .ok (.if_icmp .le 14, 3) := by decide +kernel
theorem d65_31 : decode bM65 31 = .ok (.aload_n 0, 1) := by decide +kernel
theorem d65_32 : decode bM65 32 = .ok (.aload_n 0, 1) := by decide +kernel
theorem d65_33 : decode bM65 33 = .ok (.getfield 197, 3) := by decide +kernel
theorem d65_36 : decode bM65 36 = .ok (.invokevirtual 144, 3) := by decide +kernel
theorem d65_39 : decode bM65 39 = .ok (.goto 57, 3) := by decide +kernel
theorem d65_42 : decode bM65 42 = .ok (.aload_n 0, 1) := by decide +kernel
theorem d65_43 : decode bM65 43 = .ok (.invokevirtual 207, 3) := by decide +kernel
theorem d65_46 : decode bM65 46 = .ok (.goto 50, 3) := by decide +kernel
theorem d65_49 : decode bM65 49 = .ok (.iload_n 2, 1) := by decide +kernel
theorem d65_50 : decode bM65 50 = .ok (.bipush 47, 2) := by decide +kernel
theorem d65_52 : decode bM65 52 = .ok (.if_icmp .ne 17, 3) := by decide +kernel
theorem d65_55 : decode bM65 55 = .ok (.aload_n 0, 1) := by decide +kernel
theorem d65_56 : decode bM65 56 = .ok (.getfield 158, 3) := by decide +kernel
theorem d65_59 : decode bM65 59 = .ok (.ifCond .le 10, 3) := by decide +kernel
theorem d65_62 : decode bM65 62 = .ok (.aload_n 0, 1) := by decide +kernel
theorem d65_63 : decode bM65 63 = .ok (.invokevirtual 210, 3) := by decide +kernel
theorem d65_66 : decode bM65 66 = .ok (.goto 30, 3) := by decide +kernel
theorem d65_69 : decode bM65 69 = .ok (.iload_n 2, 1) := by decide +kernel
theorem d65_70 : decode bM65 70 = .ok (.bipush 33, 2) := by decide +kernel
theorem d65_72 : decode bM65 72 = .ok (.if_icmp .ne 14, 3) := by decide +kernel
theorem d65_75 : decode bM65 75 = .ok (.iload_n 1, 1) := by decide +kernel
theorem d65_76 : decode bM65 76 = .ok (.ifCond .ne 10, 3) := by decide +kernel
theorem d65_79 : decode bM65 79 = .ok (.aload_n 0, 1) := by decide +kernel
theorem d65_80 : decode bM65 80 = .ok (.invokevirtual 213, 3) := by decide +kernel
theorem d65_83 : decode bM65 83 = .ok (.goto 13, 3) := by decide +kernel
theorem d65_86 : decode bM65 86 = .ok (.aload_n 0, 1) := by decide +kernel
theorem d65_87 : decode bM65 87 = .ok (.aload_n 0, 1) := by decide +kernel
theorem d65_88 : decode bM65 88 = .ok (.getfield 197, 3) := by decide +kernel
theorem d65_91 : decode bM65 91 = .ok (.iconst 1, 1) := by decide +kernel
theorem d65_92 : decode bM65 92 = .ok (.iadd, 1) := by decide +kernel
theorem d65_93 : decode bM65 93 = .ok (.invokevirtual 144, 3) := by decide +kernel
theorem d65_96 : decode bM65 96 = .ok (.return_, 1) := by decide +kernel
theorem d66_0 : decode bM66 0 = .ok (.aload_n 0, 1) := by decide +kernel
theorem d66_1 : decode bM66 1 = .ok (.iconst 0, 1) := by decide +kernel
theorem d66_2 : decode bM66 2 = .ok (.putfield 197, 3) := by decide +kernel
theorem d66_5 : decode bM66 5 = .ok (.aload_n 0, 1) := by decide +kernel
theorem d66_6 : decode bM66 6 = .ok (.iconst (-1), 1) := by decide +kernel
theorem d66_7 : decode bM66 7 = .ok (.putfield 137, 3) := by decide +kernel
theorem d66_10 : decode bM66 10 = .ok (.aload_n 0, 1) := by decide +kernel
theorem d66_11 : decode bM66 11 = .ok (.iconst 0, 1) := by decide +kernel
theorem d66_12 : decode bM66 12 = .ok (.putfield 152, 3) := by decide +kernel
theorem d66_15 : decode bM66 15 = .ok (.aload_n 0, 1) := by decide +kernel
theorem d66_16 : decode bM66 16 = .ok (.iconst 0, 1) := by decide +kernel
theorem d66_17 : decode bM66 17 = .ok (.putfield 161, 3) := by decide +kernel
theorem d66_20 : decode bM66 20 = .ok (.aload_n 0, 1) := by decide +kernel
theorem d66_21 : decode bM66 21 = .ok (.iconst (-1), 1) := by decide +kernel
theorem d66_22 : decode bM66 22 = .ok (.putfield 155, 3) := by decide +kernel
theorem d66_25 : decode bM66 25 = .ok (.aload_n 0, 1) := by decide +kernel
theorem d66_26 : decode bM66 26 = .ok (.iload_n 2, 1) := by decide +kernel
theorem d66_27 : decode bM66 27 = .ok (.putfield 204, 3) := by decide +kernel
theorem d66_30 : decode bM66 30 = .ok (.aload_n 0, 1) := by decide +kernel
theorem d66_31 : decode bM66 31 = .ok (.iconst 0, 1) := by decide +kernel
theorem d66_32 : decode bM66 32 = .ok (.putfield 158, 3) := by decide +kernel
theorem d66_35 : decode bM66 35 = .ok (.aload_n 0, 1) := by decide +kernel
theorem d66_36 : decode bM66 36 = .ok (.getfield 137, 3) := by decide +kernel
theorem d66_39 : decode bM66 39 = .ok (.ifCond .ge 207, 3) := by decide +kernel
theorem d66_42 : decode bM66 42 = .ok (.aload_n 0, 1) := by decide +kernel
theorem d66_43 : decode bM66 43 = .ok (.getfield 197, 3) := by decide +kernel
theorem d66_46 : decode bM66 46 = .ok (.aload_n 0, 1) := by decide +kernel
theorem d66_47 : decode bM66 47 = .ok (.getfield 133, 3) := by decide +kernel
theorem d66_50 : decode bM66 50 = .ok (.if_icmp .ge 196, 3) := by decide +kernel
theorem d66_53 : decode bM66 53 = .ok (.aload_n 0, 1) := by decide +kernel
theorem d66_54 : decode bM66 54 = .ok (.aload_n 0, 1) := by decide +kernel
theorem d66_55 : decode bM66 55 = .ok (.getfield 197, 3) := by decide +kernel
theorem d66_58 : decode bM66 58 = .ok (.invokevirtual 140, 3) := by decide +kernel
theorem d66_61 : decode bM66 61 = .ok (.istore_n 3, 1) := by decide +kernel
theorem d66_62 : decode bM66 62 = .ok (.aload_n 0, 1) := by decide +kernel
theorem d66_63 : decode bM66 63 = .ok (.getfield 158, 3) := by decide +kernel
theorem d66_66 : decode bM66 66 = .ok (.ifCond .ne 7, 3) := by decide +kernel
theorem d66_69 : decode bM66 69 = .ok (.iconst 1, 1) := by decide +kernel
theorem d66_70 : decode bM66 70 = .ok (.goto 4, 3) := by decide +kernel
theorem d66_73 : decode bM66 73 = .ok (.iconst 0, 1) := by decide +kernel
theorem d66_74 : decode bM66 74 = .ok (.istore 4, 2) := by decide +kernel
theorem d66_76 : decode bM66 76 = .ok (.iload 4, 2) := by decide +kernel
theorem d66_78 : decode bM66 78 = .ok (.ifCond .eq 34, 3) := by decide +kernel
theorem d66_81 : decode bM66 81 = .ok (.aload_n 0, 1) := by decide +kernel
theorem d66_82 : decode bM66 82 = .ok (.getfield 152, 3) := by decide +kernel
theorem d66_85 : decode bM66 85 = .ok (.ifCond .le 27, 3) := by decide +kernel
theorem d66_88 : decode bM66 88 = .ok (.aload_n 0, 1) := by decide +kernel
theorem d66_89 : decode bM66 89 = .ok (.getfield 155, 3) := by decide +kernel
theorem d66_92 : decode bM66 92 = .ok (.ifCond .lt 9, 3) := by decide +kernel
theorem d66_95 : decode bM66 95 = .ok (.iload_n 3, 1) := by decide +kernel
theorem d66_96 : decode bM66 96 = .ok (.bipush 60, 2) := by decide +kernel
theorem d66_98 : decode bM66 98 = .ok (.if_icmp .ne 14, 3) := by decide +kernel
theorem d66_101 : decode bM66 101 = .ok (.aload_n 0, 1) := by decide +kernel
theorem d66_102 : decode bM66 102 = .ok (.aload_n 0, 1) := by decide +kernel
theorem d66_103 : decode bM66 103 = .ok (.getfield 197, 3) := by decide +kernel
theorem d66_106 : decode bM66 106 = .ok (.invokevirtual 144, 3) := by decide +kernel
theorem d66_109 : decode bM66 109 = .ok (.goto 134, 3) := by decide +kernel
theorem d66_112 : decode bM66 112 = .ok (.iload_n 3, 1) := by decide +kernel
theorem d66_113 : decode bM66 113 = .ok (.bipush 60, 2) := by decide +kernel
theorem d66_115 : decode bM66 115 = .ok (.if_icmp .ne 24, 3) := by decide +kernel
theorem d66_118 : decode bM66 118 = .ok (.aload_n 0, 1) := by decide +kernel
theorem d66_119 : decode bM66 119 = .ok (.iload 4, 2) := by decide +kernel
theorem d66_121 : decode bM66 121 = .ok (.ifCond .eq 11, 3) := by decide +kernel
theorem d66_124 : decode bM66 124 = .ok (.iload_n 1, 1) := by decide +kernel
theorem d66_125 : decode bM66 125 = .ok (.ifCond .eq 7, 3) := by decide +kernel
theorem d66_128 : decode bM66 128 = .ok (.iconst 1, 1) := by decide +kernel
theorem d66_129 : decode bM66 129 = .ok (.goto 4, 3) := by decide +kernel
theorem d66_132 : decode bM66 132 = .ok (.iconst 0, 1) := by decide +kernel
theorem d66_133 : decode bM66 133 = .ok (.invokevirtual 216, 3) := by decide +kernel
theorem d66_136 : decode bM66 136 = .ok (.goto 107, 3) := by decide +kernel
theorem d66_139 : decode bM66 139 = .ok (.iload 4, 2) := by decide +kernel
theorem d66_141 : decode bM66 141 = .ok (.ifCond .eq 7, 3) := by decide +kernel
theorem d66_144 : decode bM66 144 = .ok (.iload_n 1, 1) := by decide +kernel
theorem d66_145 : decode bM66 145 = .ok (.ifCond .ne 20, 3) := by decide +kernel
theorem d66_148 : decode bM66 148 = .ok (.iload_n 3, 1) := by decide +kernel
theorem d66_149 : decode bM66 149 = .ok (.bipush 38, 2) := by decide +kernel
theorem d66_151 : decode bM66 151 = .ok (.if_icmp .ne 25, 3) := by decide +kernel
theorem d66_154 : decode bM66 154 = .ok (.aload_n 0, 1) := by decide +kernel
theorem d66_155 : decode bM66 155 = .ok (.aload_n 0, 1) := by decide +kernel
theorem d66_156 : decode bM66 156 = .ok (.getfield 197, 3) := by decide +kernel
theorem d66_159 : decode bM66 159 = .ok (.invokevirtual 186, 3) := by decide +kernel
theorem d66_162 : decode bM66 162 = .ok (.ifCond .ne 14, 3) := by decide +kernel
theorem d66_165 : decode bM66 165 = .ok (.aload_n 0, 1) := by decide +kernel
theorem d66_166 : decode bM66 166 = .ok (.aload_n 0, 1) := by decide +kernel
theorem d66_167 : decode bM66 167 = .ok (.getfield 197, 3) := by decide +kernel
theorem d66_170 : decode bM66 170 = .ok (.invokevirtual 144, 3) := by decide +kernel
theorem d66_173 : decode bM66 173 = .ok (.goto 70, 3) := by decide +kernel
theorem d66_176 : decode bM66 176 = .ok (.aload_n 0, 1) := by decide +kernel
theorem d66_177 : decode bM66 177 = .ok (.getfield 155, 3) := by decide +kernel
theorem d66_180 : decode bM66 180 = .ok (.ifCond .ge 9, 3) := by decide +kernel
theorem d66_183 : decode bM66 183 = .ok (.aload_n 0, 1) := by decide +kernel
theorem d66_184 : decode bM66 184 = .ok (.iconst 2, 1) := by decide +kernel
theorem d66_185 : decode bM66 185 = .ok (.invokevirtual 194, 3) := by decide +kernel
theorem d66_188 : decode bM66 188 = .ok (.pop, 1) := by decide +kernel
theorem d66_189 : decode bM66 189 = .ok (.aload_n 0, 1) := by decide +kernel
theorem d66_190 : decode bM66 190 = .ok (.aload_n 0, 1) := by decide +kernel
theorem d66_191 : decode bM66 191 = .ok (.getfield 155, 3) := by decide +kernel
theorem d66_194 : decode bM66 194 = .ok (.iconst 3, 1) := by decide +kernel
theorem d66_195 : decode bM66 195 = .ok (.bipush 8, 2) := by decide +kernel
theorem d66_197 : decode bM66 197 = .ok (.iload_n 3, 1) := by decide +kernel
theorem d66_198 : decode bM66 198 = .ok (.bipush 38, 2) := by decide +kernel
theorem d66_200 : decode bM66 200 = .ok (.if_icmp .ne 11, 3) := by decide +kernel
theorem d66_203 : decode bM66 203 = .ok (.aload_n 0, 1) := by decide +kernel
theorem d66_204 : decode bM66 204 = .ok (.getfield 169, 3) := by decide +kernel
theorem d66_207 : decode bM66 207 = .ok (.i2c, 1) := by decide +kernel
theorem d66_208 : decode bM66 208 = .ok (.goto 4, 3) := by decide +kernel
theorem d66_211 : decode bM66 211 = .ok (.iload_n 3, 1) := by decide +kernel
theorem d66_212 : decode bM66 212 = .ok (.invokevirtual 190, 3) := by decide +kernel
theorem d66_215 : decode bM66 215 = .ok (.aload_n 0, 1) := by decide +kernel
theorem d66_216 : decode bM66 216 = .ok (.iload_n 3, 1) := by decide +kernel
theorem d66_217 : decode bM66 217 = .ok (.bipush 38, 2) := by decide +kernel
theorem d66_219 : decode bM66 219 = .ok (.if_icmp .ne 15, 3) := by decide +kernel
theorem d66_222 : decode bM66 222 = .ok (.aload_n 0, 1) := by decide +kernel
theorem d66_223 : decode bM66 223 = .ok (.getfield 197, 3) := by decide +kernel
theorem d66_226 : decode bM66 226 = .ok (.aload_n 0, 1) := by decide +kernel
theorem d66_227 : decode bM66 227 = .ok (.getfield 172, 3) := by decide +kernel
theorem d66_230 : decode bM66 230 = .ok (.iadd, 1) := by decide +kernel
theorem d66_231 : decode bM66 231 = .ok (.goto 9, 3) := by decide +kernel
theorem d66_234 : decode bM66 234 = .ok (.aload_n 0, 1) := by decide +kernel
theorem d66_235 : decode bM66 235 = .ok (.getfield 197, 3) := by decide +kernel
theorem d66_238 : decode bM66 238 = .ok (.iconst 1, 1) := by decide +kernel
theorem d66_239 : decode bM66 239 = .ok (.iadd, 1) := by decide +kernel
theorem d66_240 : decode bM66 240 = .ok (.putfield 197, 3) := by decide +kernel
theorem d66_243 : decode bM66 243 = .ok (.goto (-208), 3) := by decide +kernel
theorem d66_246 : decode bM66 246 = .ok (.aload_n 0, 1) := by decide +kernel
theorem d66_247 : decode bM66 247 = .ok (.getfield 158, 3) := by decide +kernel
theorem d66_250 : decode bM66 250 = .ok (.ifCond .gt 10, 3) := by decide +kernel
theorem d66_253 : decode bM66 253 = .ok (.aload_n 0, 1) := by decide +kernel
theorem d66_254 : decode bM66 254 = .ok (.getfield 152, 3) := by decide +kernel
theorem d66_257 : decode bM66 257 = .ok (.ifCond .ne 11, 3) := by decide +kernel
theorem d66_260 : decode bM66 260 = .ok (.aload_n 0, 1) := by decide +kernel
theorem d66_261 : decode bM66 261 = .ok (.aload_n 0, 1) := by decide +kernel
theorem d66_262 : decode bM66 262 = .ok (.getfield 133, 3) := by decide +kernel
theorem d66_265 : decode bM66 265 = .ok (.invokevirtual 144, 3) := by decide +kernel
theorem d66_268 : decode bM66 268 = .ok (.return_, 1) := by decide +kernel
theorem d67_0 : decode bM67 0 = .ok (.iload_n 0, 1) := by decide +kernel
theorem d67_1 : decode bM67 1 = .ok (.iconst 1, 1) := by decide +kernel
theorem d67_2 : decode bM67 2 = .ok (.iand, 1) := by decide +kernel
theorem d67_3 : decode bM67 3 = .ok (.ifCond .eq 7, 3) := by decide +kernel
theorem d67_6 : decode bM67 6 = .ok (.iconst 1, 1) := by decide +kernel
theorem d67_7 : decode bM67 7 = .ok (.goto 4, 3) := by decide +kernel
theorem d67_10 : decode bM67 10 = .ok (.iconst 0, 1) := by decide +kernel
theorem d67_11 : decode bM67 11 = .ok (.ireturn, 1) := by decide +kernel
theorem d68_0 : decode bM68 0 = .ok (.aload_n 0, 1) := by decide +kernel
theorem d68_1 : decode bM68 1 = .ok (.getfield 220, 3) := by decide +kernel
theorem d68_4 : decode bM68 4 = .ok (.bipush 40, 2) := by decide +kernel
theorem d68_6 : decode bM68 6 = .ok (.if_icmp .ge 13, 3) := by decide +kernel
theorem d68_9 : decode bM68 9 = .ok (.aload_n 0, 1) := by decide +kernel
theorem d68_10 : decode bM68 10 = .ok (.getfield 41, 3) := by decide +kernel
theorem d68_13 : decode bM68 13 = .ok (.aload_n 0, 1) := by decide +kernel
theorem d68_14 : decode bM68 14 = .ok (.getfield 220, 3) := by decide +kernel
theorem d68_17 : decode bM68 17 = .ok (.iload_n 1, 1) := by decide +kernel
theorem d68_18 : decode bM68 18 = .ok (.iastore, 1) := by decide +kernel
theorem d68_19 : decode bM68 19 = .ok (.aload_n 0, 1) := by decide +kernel
theorem d68_20 : decode bM68 20 = .ok (.dup, 1) := by decide +kernel
theorem d68_21 : decode bM68 21 = .ok (.getfield 220, 3) := by decide +kernel
theorem d68_24 : decode bM68 24 = .ok (.iconst 1, 1) := by decide +kernel
theorem d68_25 : decode bM68 25 = .ok (.iadd, 1) := by decide +kernel
theorem d68_26 : decode bM68 26 = .ok (.putfield 220, 3) := by decide +kernel
theorem d68_29 : decode bM68 29 = .ok (.return_, 1) := by decide +kernel
theorem d69_0 : decode bM69 0 = .ok (.aload_n 0, 1) := by decide +kernel
theorem d69_1 : decode bM69 1 = .ok (.iconst 0, 1) := by decide +kernel
theorem d69_2 : decode bM69 2 = .ok (.putfield 220, 3) := by decide +kernel
theorem d69_5 : decode bM69 5 = .ok (.iload_n 1, 1) := by decide +kernel
theorem d69_6 : decode bM69 6 = .ok (.ifCond .lt 7, 3) := by decide +kernel
theorem d69_9 : decode bM69 9 = .ok (.iload_n 3, 1) := by decide +kernel
theorem d69_10 : decode bM69 10 = .ok (.goto 4, 3) := by decide +kernel
theorem d69_13 : decode bM69 13 = .ok (.iconst (-1), 1) := by decide +kernel
theorem d69_14 : decode bM69 14 = .ok (.istore 4, 2) := by decide +kernel
theorem d69_16 : decode bM69 16 = .ok (.iload_n 2, 1) := by decide +kernel
theorem d69_17 : decode bM69 17 = .ok (.ifCond .lt 7, 3) := by decide +kernel
theorem d69_20 : decode bM69 20 = .ok (.iload_n 3, 1) := by decide +kernel
theorem d69_21 : decode bM69 21 = .ok (.goto 4, 3) := by decide +kernel
theorem d69_24 : decode bM69 24 = .ok (.iconst (-1), 1) := by decide +kernel
theorem d69_25 : decode bM69 25 = .ok (.istore 5, 2) := by decide +kernel
theorem d69_27 : decode bM69 27 = .ok (.iconst 1, 1) := by decide +kernel
theorem d69_28 : decode bM69 28 = .ok (.istore 6, 2) := by decide +kernel
theorem d69_30 : decode bM69 30 = .ok (.iconst 0, 1) := by decide +kernel
theorem d69_31 : decode bM69 31 = .ok (.istore 7, 2) := by decide +kernel
theorem d69_33 : decode bM69 33 = .ok (.iload 7, 2) := by decide +kernel
theorem d69_35 : decode bM69 35 = .ok (.bipush 20, 2) := by decide +kernel
theorem d69_37 : decode bM69 37 = .ok (.if_icmp .ge 266, 3) := by decide +kernel
theorem d69_40 : decode bM69 40 = .ok (.iload 6, 2) := by decide +kernel
theorem d69_42 : decode bM69 42 = .ok (.ifCond .eq 261, 3) := by decide +kernel
theorem d69_45 : decode bM69 45 = .ok (.iload 4, 2) := by decide +kernel
theorem d69_47 : decode bM69 47 = .ok (.ifCond .lt 16, 3) := by decide +kernel
theorem d69_50 : decode bM69 50 = .ok (.aload_n 0, 1) := by decide +kernel
theorem d69_51 : decode bM69 51 = .ok (.iload_n 1, 1) := by decide +kernel
theorem d69_52 : decode bM69 52 = .ok (.bipush 28, 2) := by decide +kernel
theorem d69_54 : decode bM69 54 = .ok (.iload 4, 2) := by decide +kernel
theorem d69_56 : decode bM69 56 = .ok (.iadd, 1) := by decide +kernel
theorem d69_57 : decode bM69 57 = .ok (.invokevirtual 123, 3) := by decide +kernel
theorem d69_60 : decode bM69 60 = .ok (.goto 4, 3) := by decide +kernel
theorem d69_63 : decode bM69 63 = .ok (.iconst 0, 1) := by decide +kernel
theorem d69_64 : decode bM69 64 = .ok (.istore 8, 2) := by decide +kernel
theorem d69_66 : decode bM69 66 = .ok (.iload 5, 2) := by decide +kernel
theorem d69_68 : decode bM69 68 = .ok (.ifCond .lt 16, 3) := by decide +kernel
theorem d69_71 : decode bM69 71 = .ok (.aload_n 0, 1) := by decide +kernel
theorem d69_72 : decode bM69 72 = .ok (.iload_n 2, 1) := by decide +kernel
theorem d69_73 : decode bM69 73 = .ok (.bipush 28, 2) := by decide +kernel
theorem d69_75 : decode bM69 75 = .ok (.iload 5, 2) := by decide +kernel
theorem d69_77 : decode bM69 77 = .ok (.iadd, 1) := by decide +kernel
theorem d69_78 : decode bM69 78 = .ok (.invokevirtual 123, 3) := by decide +kernel
theorem d69_81 : decode bM69 81 = .ok (.goto 4, 3) := by decide +kernel
theorem d69_84 : decode bM69 84 = .ok (.iconst 0, 1) := by decide +kernel
theorem d69_85 : decode bM69 85 = .ok (.istore 9, 2) := by decide +kernel
theorem d69_87 : decode bM69 87 = .ok (.iload 8, 2) := by decide +kernel
theorem d69_89 : decode bM69 89 = .ok (.invokestatic 223, 3) := by decide +kernel
theorem d69_92 : decode bM69 92 = .ok (.ifCond .eq 10, 3) := by decide +kernel
theorem d69_95 : decode bM69 95 = .ok (.iload 8, 2) := by decide +kernel
theorem d69_97 : decode bM69 97 = .ok (.iconst 2, 1) := by decide +kernel
theorem d69_98 : decode bM69 98 = .ok (.iadd, 1) := by decide +kernel
theorem d69_99 : decode bM69 99 = .ok (.goto 7, 3) := by decide +kernel
theorem d69_102 : decode bM69 102 = .ok (.iload 8, 2) := by decide +kernel
theorem d69_104 : decode bM69 104 = .ok (.iconst 1, 1) := by decide +kernel
theorem d69_105 : decode bM69 105 = .ok (.iadd, 1) := by decide +kernel
theorem d69_106 : decode bM69 106 = .ok (.istore 10, 2) := by decide +kernel
theorem d69_108 : decode bM69 108 = .ok (.iload 4, 2) := by decide +kernel
theorem d69_110 : decode bM69 110 = .ok (.ifCond .lt 35, 3) := by decide +kernel
theorem d69_113 : decode bM69 113 = .ok (.iload 5, 2) := by decide +kernel
theorem d69_115 : decode bM69 115 = .ok (.ifCond .lt 30, 3) := by decide +kernel
theorem d69_118 : decode bM69 118 = .ok (.iload 10, 2) := by decide +kernel
theorem d69_120 : decode bM69 120 = .ok (.iload 9, 2) := by decide +kernel
theorem d69_122 : decode bM69 122 = .ok (.if_icmp .lt 23, 3) := by decide +kernel
theorem d69_125 : decode bM69 125 = .ok (.iload 8, 2) := by decide +kernel
theorem d69_127 : decode bM69 127 = .ok (.invokestatic 223, 3) := by decide +kernel
theorem d69_130 : decode bM69 130 = .ok (.ifCond .eq 11, 3) := by decide +kernel
theorem d69_133 : decode bM69 133 = .ok (.iload 9, 2) := by decide +kernel
theorem d69_135 : decode bM69 135 = .ok (.invokestatic 223, 3) := by decide +kernel
theorem d69_138 : decode bM69 138 = .ok (.ifCond .ne 7, 3) := by decide +kernel
theorem d69_141 : decode bM69 141 = .ok (.iconst 1, 1) := by decide +kernel
theorem d69_142 : decode bM69 142 = .ok (.goto 4, 3) := by decide +kernel
theorem d69_145 : decode bM69 145 = .ok (.iconst 0, 1) := by decide +kernel
theorem d69_146 : decode bM69 146 = .ok (.istore 6, 2) := by decide +kernel
theorem d69_148 : decode bM69 148 = .ok (.iload 6, 2) := by decide +kernel
theorem d69_150 : decode bM69 150 = .ok (.ifCond .eq 72, 3) := by decide +kernel
theorem d69_153 : decode bM69 153 = .ok (.aload_n 0, 1) := by decide +kernel
theorem d69_154 : decode bM69 154 = .ok (.iload 8, 2) := by decide +kernel
theorem d69_156 : decode bM69 156 = .ok (.invokestatic 223, 3) := by decide +kernel
theorem d69_159 : decode bM69 159 = .ok (.ifCond .eq 8, 3) := by decide +kernel
theorem d69_162 : decode bM69 162 = .ok (.iload 9, 2) := by decide +kernel
theorem d69_164 : decode bM69 164 = .ok (.goto 5, 3) := by decide +kernel
theorem d69_167 : decode bM69 167 = .ok (.iload 8, 2) := by decide +kernel
theorem d69_169 : decode bM69 169 = .ok (.invokevirtual 226, 3) := by decide +kernel
theorem d69_172 : decode bM69 172 = .ok (.iload 4, 2) := by decide +kernel
theorem d69_174 : decode bM69 174 = .ok (.iconst 1, 1) := by decide +kernel
theorem d69_175 : decode bM69 175 = .ok (.iadd, 1) := by decide +kernel
theorem d69_176 : decode bM69 176 = .ok (.istore 11, 2) := by decide +kernel
theorem d69_178 : decode bM69 178 = .ok (.iload 8, 2) := by decide +kernel
theorem d69_180 : decode bM69 180 = .ok (.invokestatic 223, 3) := by decide +kernel
theorem d69_183 : decode bM69 183 = .ok (.ifCond .eq 7, 3) := by decide +kernel
theorem d69_186 : decode bM69 186 = .ok (.iconst (-1), 1) := by decide +kernel
theorem d69_187 : decode bM69 187 = .ok (.goto 5, 3) := by decide +kernel
theorem d69_190 : decode bM69 190 = .ok (.iload 11, 2) := by decide +kernel
theorem d69_192 : decode bM69 192 = .ok (.istore 4, 2) := by decide +kernel
theorem d69_194 : decode bM69 194 = .ok (.iload 8, 2) := by decide +kernel
theorem d69_196 : decode bM69 196 = .ok (.iload 9, 2) := by decide +kernel
theorem d69_198 : decode bM69 198 = .ok (.if_icmp .eq 11, 3) := by decide +kernel
theorem d69_201 : decode bM69 201 = .ok (.iload 8, 2) := by decide +kernel
theorem d69_203 : decode bM69 203 = .ok (.invokestatic 223, 3) := by decide +kernel
theorem d69_206 : decode bM69 206 = .ok (.ifCond .eq 10, 3) := by decide +kernel
theorem d69_209 : decode bM69 209 = .ok (.iload 5, 2) := by decide +kernel
theorem d69_211 : decode bM69 211 = .ok (.iconst 1, 1) := by decide +kernel
theorem d69_212 : decode bM69 212 = .ok (.iadd, 1) := by decide +kernel
theorem d69_213 : decode bM69 213 = .ok (.goto 4, 3) := by decide +kernel
theorem d69_216 : decode bM69 216 = .ok (.iconst (-1), 1) := by decide +kernel
theorem d69_217 : decode bM69 217 = .ok (.istore 5, 2) := by decide +kernel
theorem d69_219 : decode bM69 219 = .ok (.goto 78, 3) := by decide +kernel
theorem d69_222 : decode bM69 222 = .ok (.iload 4, 2) := by decide +kernel
theorem d69_224 : decode bM69 224 = .ok (.ifCond .lt 31, 3) := by decide +kernel
theorem d69_227 : decode bM69 227 = .ok (.iload 5, 2) := by decide +kernel
theorem d69_229 : decode bM69 229 = .ok (.ifCond .lt 26, 3) := by decide +kernel
theorem d69_232 : decode bM69 232 = .ok (.iload 10, 2) := by decide +kernel
theorem d69_234 : decode bM69 234 = .ok (.iload 9, 2) := by decide +kernel
theorem d69_236 : decode bM69 236 = .ok (.if_icmp .lt 19, 3) := by decide +kernel
theorem d69_239 : decode bM69 239 = .ok (.aload_n 0, 1) := by decide +kernel
theorem d69_240 : decode bM69 240 = .ok (.iload 8, 2) := by decide +kernel
theorem d69_242 : decode bM69 242 = .ok (.iconst 1, 1) := by decide +kernel
theorem d69_243 : decode bM69 243 = .ok (.iadd, 1) := by decide +kernel
theorem d69_244 : decode bM69 244 = .ok (.invokevirtual 226, 3) := by decide +kernel
theorem d69_247 : decode bM69 247 = .ok (.aload_n 0, 1) := by decide +kernel
theorem d69_248 : decode bM69 248 = .ok (.iconst 1, 1) := by decide +kernel
theorem d69_249 : decode bM69 249 = .ok (.invokevirtual 226, 3) := by decide +kernel
theorem d69_252 : decode bM69 252 = .ok (.goto 45, 3) := by decide +kernel
theorem d69_255 : decode bM69 255 = .ok (.aload_n 0, 1) := by decide +kernel
theorem d69_256 : decode bM69 256 = .ok (.iload 4, 2) := by decide +kernel
theorem d69_258 : decode bM69 258 = .ok (.ifCond .lt 8, 3) := by decide +kernel
theorem d69_261 : decode bM69 261 = .ok (.iload 10, 2) := by decide +kernel
theorem d69_263 : decode bM69 263 = .ok (.goto 31, 3) := by decide +kernel
theorem d69_266 : decode bM69 266 = .ok (.iload 5, 2) := by decide +kernel
theorem d69_268 : decode bM69 268 = .ok (.ifCond .ge 7, 3) := by decide +kernel
theorem d69_271 : decode bM69 271 = .ok (.iconst 1, 1) := by decide +kernel
theorem d69_272 : decode bM69 272 = .ok (.goto 22, 3) := by decide +kernel
theorem d69_275 : decode bM69 275 = .ok (.iload 9, 2) := by decide +kernel
theorem d69_277 : decode bM69 277 = .ok (.invokestatic 223, 3) := by decide +kernel
theorem d69_280 : decode bM69 280 = .ok (.ifCond .eq 10, 3) := by decide +kernel
theorem d69_283 : decode bM69 283 = .ok (.iload 9, 2) := by decide +kernel
theorem d69_285 : decode bM69 285 = .ok (.iconst 2, 1) := by decide +kernel
theorem d69_286 : decode bM69 286 = .ok (.isub, 1) := by decide +kernel
theorem d69_287 : decode bM69 287 = .ok (.goto 7, 3) := by decide +kernel
theorem d69_290 : decode bM69 290 = .ok (.iload 9, 2) := by decide +kernel
theorem d69_292 : decode bM69 292 = .ok (.iconst 1, 1) := by decide +kernel
theorem d69_293 : decode bM69 293 = .ok (.isub, 1) := by decide +kernel
theorem d69_294 : decode bM69 294 = .ok (.invokevirtual 226, 3) := by decide +kernel
theorem d69_297 : decode bM69 297 = .ok (.iinc 7 1, 3) := by decide +kernel
theorem d69_300 : decode bM69 300 = .ok (.goto (-267), 3) := by decide +kernel
theorem d69_303 : decode bM69 303 = .ok (.return_, 1) := by decide +kernel
theorem d70_0 : decode bM70 0 = .ok (.iconst 0, 1) := by decide +kernel
theorem d70_1 : decode bM70 1 = .ok (.istore_n 1, 1) := by decide +kernel
theorem d70_2 : decode bM70 2 = .ok (.iconst 0, 1) := by decide +kernel
theorem d70_3 : decode bM70 3 = .ok (.istore_n 2, 1) := by decide +kernel
theorem d70_4 : decode bM70 4 = .ok (.iload_n 2, 1) := by decide +kernel
theorem d70_5 : decode bM70 5 = .ok (.aload_n 0, 1) := by decide +kernel
theorem d70_6 : decode bM70 6 = .ok (.getfield 152, 3) := by decide +kernel
theorem d70_9 : decode bM70 9 = .ok (.if_icmp .ge 62, 3) := by decide +kernel
theorem d70_12 : decode bM70 12 = .ok (.iconst 0, 1) := by decide +kernel
theorem d70_13 : decode bM70 13 = .ok (.istore_n 3, 1) := by decide +kernel
theorem d70_14 : decode bM70 14 = .ok (.aload_n 0, 1) := by decide +kernel
theorem d70_15 : decode bM70 15 = .ok (.getfield 16, 3) := by decide +kernel
theorem d70_18 : decode bM70 18 = .ok (.sipush 128, 3) := by decide +kernel
theorem d70_21 : decode bM70 21 = .ok (.iload_n 2, 1) := by decide +kernel
theorem d70_22 : decode bM70 22 = .ok (.imul, 1) := by decide +kernel
theorem d70_23 : decode bM70 23 = .ok (.iconst 2, 1) := by decide +kernel
theorem d70_24 : decode bM70 24 = .ok (.iadd, 1) := by decide +kernel
theorem d70_25 : decode bM70 25 = .ok (.iaload, 1) := by decide +kernel
theorem d70_26 : decode bM70 26 = .ok (.istore 4, 2) := by decide +kernel
theorem d70_28 : decode bM70 28 = .ok (.iload 4, 2) := by decide +kernel
theorem d70_30 : decode bM70 30 = .ok (.ifCond .lt 24, 3) := by decide +kernel
theorem d70_33 : decode bM70 33 = .ok (.iinc 3 1, 3) := by decide +kernel
theorem d70_36 : decode bM70 36 = .ok (.aload_n 0, 1) := by decide +kernel
theorem d70_37 : decode bM70 37 = .ok (.getfield 16, 3) := by decide +kernel
theorem d70_40 : decode bM70 40 = .ok (.sipush 128, 3) := by decide +kernel
theorem d70_43 : decode bM70 43 = .ok (.iload 4, 2) := by decide +kernel
theorem d70_45 : decode bM70 45 = .ok (.imul, 1) := by decide +kernel
theorem d70_46 : decode bM70 46 = .ok (.iconst 2, 1) := by decide +kernel
theorem d70_47 : decode bM70 47 = .ok (.iadd, 1) := by decide +kernel
theorem d70_48 : decode bM70 48 = .ok (.iaload, 1) := by decide +kernel
theorem d70_49 : decode bM70 49 = .ok (.istore 4, 2) := by decide +kernel
theorem d70_51 : decode bM70 51 = .ok (.goto (-23), 3) := by decide +kernel
theorem d70_54 : decode bM70 54 = .ok (.iload_n 3, 1) := by decide +kernel
theorem d70_55 : decode bM70 55 = .ok (.iload_n 1, 1) := by decide +kernel
theorem d70_56 : decode bM70 56 = .ok (.if_icmp .le 7, 3) := by decide +kernel
theorem d70_59 : decode bM70 59 = .ok (.iload_n 3, 1) := by decide +kernel
theorem d70_60 : decode bM70 60 = .ok (.goto 4, 3) := by decide +kernel
theorem d70_63 : decode bM70 63 = .ok (.iload_n 1, 1) := by decide +kernel
theorem d70_64 : decode bM70 64 = .ok (.istore_n 1, 1) := by decide +kernel
theorem d70_65 : decode bM70 65 = .ok (.iinc 2 1, 3) := by decide +kernel
theorem d70_68 : decode bM70 68 = .ok (.goto (-64), 3) := by decide +kernel
theorem d70_71 : decode bM70 71 = .ok (.iload_n 1, 1) := by decide +kernel
theorem d70_72 : decode bM70 72 = .ok (.ireturn, 1) := by decide +kernel
theorem d71_0 : decode bM71 0 = .ok (.iload_n 2, 1) := by decide +kernel
theorem d71_1 : decode bM71 1 = .ok (.ifCond .ge 7, 3) := by decide +kernel
theorem d71_4 : decode bM71 4 = .ok (.iconst 0, 1) := by decide +kernel
theorem d71_5 : decode bM71 5 = .ok (.goto 9, 3) := by decide +kernel
theorem d71_8 : decode bM71 8 = .ok (.aload_n 0, 1) := by decide +kernel
theorem d71_9 : decode bM71 9 = .ok (.iload_n 2, 1) := by decide +kernel
theorem d71_10 : decode bM71 10 = .ok (.iconst 4, 1) := by decide +kernel
theorem d71_11 : decode bM71 11 = .ok (.invokevirtual 123, 3) := by decide +kernel
theorem d71_14 : decode bM71 14 = .ok (.istore 4, 2) := by decide +kernel
theorem d71_16 : decode bM71 16 = .ok (.iconst 0, 1) := by decide +kernel
theorem d71_17 : decode bM71 17 = .ok (.istore 5, 2) := by decide +kernel
theorem d71_19 : decode bM71 19 = .ok (.iload 5, 2) := by decide +kernel
theorem d71_21 : decode bM71 21 = .ok (.iload 4, 2) := by decide +kernel
theorem d71_23 : decode bM71 23 = .ok (.if_icmp .ge 29, 3) := by decide +kernel
theorem d71_26 : decode bM71 26 = .ok (.aload_n 0, 1) := by decide +kernel
theorem d71_27 : decode bM71 27 = .ok (.iload_n 1, 1) := by decide +kernel
theorem d71_28 : decode bM71 28 = .ok (.bipush 28, 2) := by decide +kernel
theorem d71_30 : decode bM71 30 = .ok (.iload 5, 2) := by decide +kernel
theorem d71_32 : decode bM71 32 = .ok (.iadd, 1) := by decide +kernel
theorem d71_33 : decode bM71 33 = .ok (.aload_n 0, 1) := by decide +kernel
theorem d71_34 : decode bM71 34 = .ok (.iload_n 2, 1) := by decide +kernel
theorem d71_35 : decode bM71 35 = .ok (.bipush 28, 2) := by decide +kernel
theorem d71_37 : decode bM71 37 = .ok (.iload 5, 2) := by decide +kernel
theorem d71_39 : decode bM71 39 = .ok (.iadd, 1) := by decide +kernel
theorem d71_40 : decode bM71 40 = .ok (.invokevirtual 123, 3) := by decide +kernel
theorem d71_43 : decode bM71 43 = .ok (.invokevirtual 229, 3) := by decide +kernel
theorem d71_46 : decode bM71 46 = .ok (.iinc 5 1, 3) := by decide +kernel
theorem d71_49 : decode bM71 49 = .ok (.goto (-30), 3) := by decide +kernel
theorem d71_52 : decode bM71 52 = .ok (.iload_n 3, 1) := by decide +kernel
theorem d71_53 : decode bM71 53 = .ok (.ifCond .ne 55, 3) := by decide +kernel
theorem d71_56 : decode bM71 56 = .ok (.iconst 0, 1) := by decide +kernel
theorem d71_57 : decode bM71 57 = .ok (.istore 5, 2) := by decide +kernel
theorem d71_59 : decode bM71 59 = .ok (.iload 5, 2) := by decide +kernel
theorem d71_61 : decode bM71 61 = .ok (.aload_n 0, 1) := by decide +kernel
theorem d71_62 : decode bM71 62 = .ok (.getfield 220, 3) := by decide +kernel
theorem d71_65 : decode bM71 65 = .ok (.if_icmp .ge 29, 3) := by decide +kernel
theorem d71_68 : decode bM71 68 = .ok (.aload_n 0, 1) := by decide +kernel
theorem d71_69 : decode bM71 69 = .ok (.iload_n 1, 1) := by decide +kernel
theorem d71_70 : decode bM71 70 = .ok (.bipush 28, 2) := by decide +kernel
theorem d71_72 : decode bM71 72 = .ok (.iload 4, 2) := by decide +kernel
theorem d71_74 : decode bM71 74 = .ok (.iadd, 1) := by decide +kernel
theorem d71_75 : decode bM71 75 = .ok (.iload 5, 2) := by decide +kernel
theorem d71_77 : decode bM71 77 = .ok (.iadd, 1) := by decide +kernel
theorem d71_78 : decode bM71 78 = .ok (.aload_n 0, 1) := by decide +kernel
theorem d71_79 : decode bM71 79 = .ok (.getfield 41, 3) := by decide +kernel
theorem d71_82 : decode bM71 82 = .ok (.iload 5, 2) := by decide +kernel
theorem d71_84 : decode bM71 84 = .ok (.iaload, 1) := by decide +kernel
theorem d71_85 : decode bM71 85 = .ok (.invokevirtual 229, 3) := by decide +kernel
theorem d71_88 : decode bM71 88 = .ok (.iinc 5 1, 3) := by decide +kernel
theorem d71_91 : decode bM71 91 = .ok (.goto (-32), 3) := by decide +kernel
theorem d71_94 : decode bM71 94 = .ok (.aload_n 0, 1) := by decide +kernel
theorem d71_95 : decode bM71 95 = .ok (.iload_n 1, 1) := by decide +kernel
theorem d71_96 : decode bM71 96 = .ok (.iconst 4, 1) := by decide +kernel
theorem d71_97 : decode bM71 97 = .ok (.iload 4, 2) := by decide +kernel
theorem d71_99 : decode bM71 99 = .ok (.aload_n 0, 1) := by decide +kernel
theorem d71_100 : decode bM71 100 = .ok (.getfield 220, 3) := by decide +kernel
theorem d71_103 : decode bM71 103 = .ok (.iadd, 1) := by decide +kernel
theorem d71_104 : decode bM71 104 = .ok (.invokevirtual 229, 3) := by decide +kernel
theorem d71_107 : decode bM71 107 = .ok (.return_, 1) := by decide +kernel
theorem d71_108 : decode bM71 108 = .ok (.iconst 0, 1) := by decide +kernel
theorem d71_109 : decode bM71 109 = .ok (.istore 5, 2) := by decide +kernel
theorem d71_111 : decode bM71 111 = .ok (.iconst 0, 1) := by decide +kernel
theorem d71_112 : decode bM71 112 = .ok (.istore 6, 2) := by decide +kernel
theorem d71_114 : decode bM71 114 = .ok (.iload 6, 2) := by decide +kernel
theorem d71_116 : decode bM71 116 = .ok (.iload_n 3, 1) := by decide +kernel
theorem d71_117 : decode bM71 117 = .ok (.if_icmp .ge 48, 3) := by decide +kernel
theorem d71_120 : decode bM71 120 = .ok (.aload_n 0, 1) := by decide +kernel
theorem d71_121 : decode bM71 121 = .ok (.getfield 16, 3) := by decide +kernel
theorem d71_124 : decode bM71 124 = .ok (.sipush 128, 3) := by decide +kernel
theorem d71_127 : decode bM71 127 = .ok (.iload 6, 2) := by decide +kernel
theorem d71_129 : decode bM71 129 = .ok (.imul, 1) := by decide +kernel
theorem d71_130 : decode bM71 130 = .ok (.iconst 2, 1) := by decide +kernel
theorem d71_131 : decode bM71 131 = .ok (.iadd, 1) := by decide +kernel
theorem d71_132 : decode bM71 132 = .ok (.iaload, 1) := by decide +kernel
theorem d71_133 : decode bM71 133 = .ok (.aload_n 0, 1) := by decide +kernel
theorem d71_134 : decode bM71 134 = .ok (.getfield 16, 3) := by decide +kernel
theorem d71_137 : decode bM71 137 = .ok (.sipush 128, 3) := by decide +kernel
theorem d71_140 : decode bM71 140 = .ok (.iload_n 3, 1) := by decide +kernel
theorem d71_141 : decode bM71 141 = .ok (.imul, 1) := by decide +kernel
theorem d71_142 : decode bM71 142 = .ok (.iconst 2, 1) := by decide +kernel
theorem d71_143 : decode bM71 143 = .ok (.iadd, 1) := by decide +kernel
theorem d71_144 : decode bM71 144 = .ok (.iaload, 1) := by decide +kernel
theorem d71_145 : decode bM71 145 = .ok (.if_icmp .ne 10, 3) := by decide +kernel
theorem d71_148 : decode bM71 148 = .ok (.iload 5, 2) := by decide +kernel
theorem d71_150 : decode bM71 150 = .ok (.iconst 1, 1) := by decide +kernel
theorem d71_151 : decode bM71 151 = .ok (.iadd, 1) := by decide +kernel
theorem d71_152 : decode bM71 152 = .ok (.goto 5, 3) := by decide +kernel
theorem d71_155 : decode bM71 155 = .ok (.iload 5, 2) := by decide +kernel
theorem d71_157 : decode bM71 157 = .ok (.istore 5, 2) := by decide +kernel
theorem d71_159 : decode bM71 159 = .ok (.iinc 6 1, 3) := by decide +kernel
theorem d71_162 : decode bM71 162 = .ok (.goto (-48), 3) := by decide +kernel
theorem d71_165 : decode bM71 165 = .ok (.aload_n 0, 1) := by decide +kernel
theorem d71_166 : decode bM71 166 = .ok (.iload_n 1, 1) := by decide +kernel
theorem d71_167 : decode bM71 167 = .ok (.bipush 28, 2) := by decide +kernel
theorem d71_169 : decode bM71 169 = .ok (.iload 4, 2) := by decide +kernel
theorem d71_171 : decode bM71 171 = .ok (.iadd, 1) := by decide +kernel
theorem d71_172 : decode bM71 172 = .ok (.iconst 2, 1) := by decide +kernel
theorem d71_173 : decode bM71 173 = .ok (.iload 5, 2) := by decide +kernel
theorem d71_175 : decode bM71 175 = .ok (.imul, 1) := by decide +kernel
theorem d71_176 : decode bM71 176 = .ok (.iconst 1, 1) := by decide +kernel
theorem d71_177 : decode bM71 177 = .ok (.iadd, 1) := by decide +kernel
theorem d71_178 : decode bM71 178 = .ok (.invokevirtual 229, 3) := by decide +kernel
theorem d71_181 : decode bM71 181 = .ok (.aload_n 0, 1) := by decide +kernel
theorem d71_182 : decode bM71 182 = .ok (.iload_n 1, 1) := by decide +kernel
theorem d71_183 : decode bM71 183 = .ok (.iconst 4, 1) := by decide +kernel
theorem d71_184 : decode bM71 184 = .ok (.iload 4, 2) := by decide +kernel
theorem d71_186 : decode bM71 186 = .ok (.iconst 1, 1) := by decide +kernel
theorem d71_187 : decode bM71 187 = .ok (.iadd, 1) := by decide +kernel
theorem d71_188 : decode bM71 188 = .ok (.invokevirtual 229, 3) := by decide +kernel
theorem d71_191 : decode bM71 191 = .ok (.return_, 1) := by decide +kernel
theorem d72_0 : decode bM72 0 = .ok (.aload_n 0, 1) := by decide +kernel
theorem d72_1 : decode bM72 1 = .ok (.invokevirtual 115, 3) := by decide +kernel
theorem d72_4 : decode bM72 4 = .ok (.iconst 1, 1) := by decide +kernel
theorem d72_5 : decode bM72 5 = .ok (.isub, 1) := by decide +kernel
theorem d72_6 : decode bM72 6 = .ok (.istore_n 3, 1) := by decide +kernel
theorem d72_7 : decode bM72 7 = .ok (.iload_n 3, 1) := by decide +kernel
theorem d72_8 : decode bM72 8 = .ok (.iload_n 2, 1) := by decide +kernel
theorem d72_9 : decode bM72 9 = .ok (.if_icmp .lt 34, 3) := by decide +kernel
theorem d72_12 : decode bM72 12 = .ok (.aload_n 0, 1) := by decide +kernel
theorem d72_13 : decode bM72 13 = .ok (.getfield 7, 3) := by decide +kernel
theorem d72_16 : decode bM72 16 = .ok (.sipush 5120, 3) := by decide +kernel
theorem d72_19 : decode bM72 19 = .ok (.iload_n 3, 1) := by decide +kernel
theorem d72_20 : decode bM72 20 = .ok (.iadd, 1) := by decide +kernel
theorem d72_21 : decode bM72 21 = .ok (.aload_n 0, 1) := by decide +kernel
theorem d72_22 : decode bM72 22 = .ok (.getfield 152, 3) := by decide +kernel
theorem d72_25 : decode bM72 25 = .ok (.iadd, 1) := by decide +kernel
theorem d72_26 : decode bM72 26 = .ok (.aload_n 0, 1) := by decide +kernel
theorem d72_27 : decode bM72 27 = .ok (.getfield 7, 3) := by decide +kernel
theorem d72_30 : decode bM72 30 = .ok (.sipush 5120, 3) := by decide +kernel
theorem d72_33 : decode bM72 33 = .ok (.iload_n 3, 1) := by decide +kernel
theorem d72_34 : decode bM72 34 = .ok (.iadd, 1) := by decide +kernel
theorem d72_35 : decode bM72 35 = .ok (.iaload, 1) := by decide +kernel
theorem d72_36 : decode bM72 36 = .ok (.iastore, 1) := by decide +kernel
theorem d72_37 : decode bM72 37 = .ok (.iinc 3 (-1), 3) := by decide +kernel
theorem d72_40 : decode bM72 40 = .ok (.goto (-33), 3) := by decide +kernel
theorem d72_43 : decode bM72 43 = .ok (.iconst 0, 1) := by decide +kernel
theorem d72_44 : decode bM72 44 = .ok (.istore_n 3, 1) := by decide +kernel
theorem d72_45 : decode bM72 45 = .ok (.iload_n 3, 1) := by decide +kernel
theorem d72_46 : decode bM72 46 = .ok (.aload_n 0, 1) := by decide +kernel
theorem d72_47 : decode bM72 47 = .ok (.getfield 152, 3) := by decide +kernel
theorem d72_50 : decode bM72 50 = .ok (.if_icmp .ge 159, 3) := by decide +kernel
theorem d72_53 : decode bM72 53 = .ok (.iconst 0, 1) := by decide +kernel
theorem d72_54 : decode bM72 54 = .ok (.istore 4, 2) := by decide +kernel
theorem d72_56 : decode bM72 56 = .ok (.aload_n 0, 1) := by decide +kernel
theorem d72_57 : decode bM72 57 = .ok (.iload 4, 2) := by decide +kernel
theorem d72_59 : decode bM72 59 = .ok (.iconst 0, 1) := by decide +kernel
theorem d72_60 : decode bM72 60 = .ok (.invokevirtual 123, 3) := by decide +kernel
theorem d72_63 : decode bM72 63 = .ok (.ifCond .eq 9, 3) := by decide +kernel
theorem d72_66 : decode bM72 66 = .ok (.iinc 4 1, 3) := by decide +kernel
theorem d72_69 : decode bM72 69 = .ok (.goto (-13), 3) := by decide +kernel
theorem d72_72 : decode bM72 72 = .ok (.iconst 0, 1) := by decide +kernel
theorem d72_73 : decode bM72 73 = .ok (.istore 5, 2) := by decide +kernel
theorem d72_75 : decode bM72 75 = .ok (.iload 5, 2) := by decide +kernel
theorem d72_77 : decode bM72 77 = .ok (.sipush 128, 3) := by decide +kernel
theorem d72_80 : decode bM72 80 = .ok (.if_icmp .ge 30, 3) := by decide +kernel
theorem d72_83 : decode bM72 83 = .ok (.aload_n 0, 1) := by decide +kernel
theorem d72_84 : decode bM72 84 = .ok (.iload 4, 2) := by decide +kernel
theorem d72_86 : decode bM72 86 = .ok (.iload 5, 2) := by decide +kernel
theorem d72_88 : decode bM72 88 = .ok (.aload_n 0, 1) := by decide +kernel
theorem d72_89 : decode bM72 89 = .ok (.getfield 16, 3) := by decide +kernel
theorem d72_92 : decode bM72 92 = .ok (.sipush 128, 3) := by decide +kernel
theorem d72_95 : decode bM72 95 = .ok (.iload_n 3, 1) := by decide +kernel
theorem d72_96 : decode bM72 96 = .ok (.imul, 1) := by decide +kernel
theorem d72_97 : decode bM72 97 = .ok (.iload 5, 2) := by decide +kernel
theorem d72_99 : decode bM72 99 = .ok (.iadd, 1) := by decide +kernel
theorem d72_100 : decode bM72 100 = .ok (.iaload, 1) := by decide +kernel
theorem d72_101 : decode bM72 101 = .ok (.invokevirtual 229, 3) := by decide +kernel
theorem d72_104 : decode bM72 104 = .ok (.iinc 5 1, 3) := by decide +kernel
theorem d72_107 : decode bM72 107 = .ok (.goto (-32), 3) := by decide +kernel
theorem d72_110 : decode bM72 110 = .ok (.aload_n 0, 1) := by decide +kernel
theorem d72_111 : decode bM72 111 = .ok (.getfield 16, 3) := by decide +kernel
theorem d72_114 : decode bM72 114 = .ok (.sipush 128, 3) := by decide +kernel
theorem d72_117 : decode bM72 117 = .ok (.iload_n 3, 1) := by decide +kernel
theorem d72_118 : decode bM72 118 = .ok (.imul, 1) := by decide +kernel
theorem d72_119 : decode bM72 119 = .ok (.iconst 2, 1) := by decide +kernel
theorem d72_120 : decode bM72 120 = .ok (.iadd, 1) := by decide +kernel
theorem d72_121 : decode bM72 121 = .ok (.iaload, 1) := by decide +kernel
theorem d72_122 : decode bM72 122 = .ok (.ifCond .ge 7, 3) := by decide +kernel
theorem d72_125 : decode bM72 125 = .ok (.iload_n 1, 1) := by decide +kernel
theorem d72_126 : decode bM72 126 = .ok (.goto 20, 3) := by decide +kernel
theorem d72_129 : decode bM72 129 = .ok (.aload_n 0, 1) := by decide +kernel
theorem d72_130 : decode bM72 130 = .ok (.getfield 19, 3) := by decide +kernel
theorem d72_133 : decode bM72 133 = .ok (.aload_n 0, 1) := by decide +kernel
theorem d72_134 : decode bM72 134 = .ok (.getfield 16, 3) := by decide +kernel
theorem d72_137 : decode bM72 137 = .ok (.sipush 128, 3) := by decide +kernel
theorem d72_140 : decode bM72 140 = .ok (.iload_n 3, 1) := by decide +kernel
theorem d72_141 : decode bM72 141 = .ok (.imul, 1) := by decide +kernel
theorem d72_142 : decode bM72 142 = .ok (.iconst 2, 1) := by decide +kernel
theorem d72_143 : decode bM72 143 = .ok (.iadd, 1) := by decide +kernel
theorem d72_144 : decode bM72 144 = .ok (.iaload, 1) := by decide +kernel
theorem d72_145 : decode bM72 145 = .ok (.iaload, 1) := by decide +kernel
theorem d72_146 : decode bM72 146 = .ok (.istore 5, 2) := by decide +kernel
theorem d72_148 : decode bM72 148 = .ok (.aload_n 0, 1) := by decide +kernel
theorem d72_149 : decode bM72 149 = .ok (.iload 4, 2) := by decide +kernel
theorem d72_151 : decode bM72 151 = .ok (.iconst 0, 1) := by decide +kernel
theorem d72_152 : decode bM72 152 = .ok (.aload_n 0, 1) := by decide +kernel
theorem d72_153 : decode bM72 153 = .ok (.getfield 233, 3) := by decide +kernel
theorem d72_156 : decode bM72 156 = .ok (.iload_n 3, 1) := by decide +kernel
theorem d72_157 : decode bM72 157 = .ok (.iadd, 1) := by decide +kernel
theorem d72_158 : decode bM72 158 = .ok (.iconst 1, 1) := by decide +kernel
theorem d72_159 : decode bM72 159 = .ok (.iadd, 1) := by decide +kernel
theorem d72_160 : decode bM72 160 = .ok (.invokevirtual 229, 3) := by decide +kernel
theorem d72_163 : decode bM72 163 = .ok (.aload_n 0, 1) := by decide +kernel
theorem d72_164 : decode bM72 164 = .ok (.iload 4, 2) := by decide +kernel
theorem d72_166 : decode bM72 166 = .ok (.iconst 2, 1) := by decide +kernel
theorem d72_167 : decode bM72 167 = .ok (.iload 5, 2) := by decide +kernel
theorem d72_169 : decode bM72 169 = .ok (.invokevirtual 229, 3) := by decide +kernel
theorem d72_172 : decode bM72 172 = .ok (.aload_n 0, 1) := by decide +kernel
theorem d72_173 : decode bM72 173 = .ok (.getfield 19, 3) := by decide +kernel
theorem d72_176 : decode bM72 176 = .ok (.iload_n 3, 1) := by decide +kernel
theorem d72_177 : decode bM72 177 = .ok (.iload 4, 2) := by decide +kernel
theorem d72_179 : decode bM72 179 = .ok (.iastore, 1) := by decide +kernel
theorem d72_180 : decode bM72 180 = .ok (.aload_n 0, 1) := by decide +kernel
theorem d72_181 : decode bM72 181 = .ok (.getfield 7, 3) := by decide +kernel
theorem d72_184 : decode bM72 184 = .ok (.sipush 5120, 3) := by decide +kernel
theorem d72_187 : decode bM72 187 = .ok (.iload_n 2, 1) := by decide +kernel
theorem d72_188 : decode bM72 188 = .ok (.iadd, 1) := by decide +kernel
theorem d72_189 : decode bM72 189 = .ok (.iload_n 3, 1) := by decide +kernel
theorem d72_190 : decode bM72 190 = .ok (.iadd, 1) := by decide +kernel
theorem d72_191 : decode bM72 191 = .ok (.iload 4, 2) := by decide +kernel
theorem d72_193 : decode bM72 193 = .ok (.iastore, 1) := by decide +kernel
theorem d72_194 : decode bM72 194 = .ok (.aload_n 0, 1) := by decide +kernel
theorem d72_195 : decode bM72 195 = .ok (.iload 4, 2) := by decide +kernel
theorem d72_197 : decode bM72 197 = .ok (.iload 5, 2) := by decide +kernel
theorem d72_199 : decode bM72 199 = .ok (.iload_n 3, 1) := by decide +kernel
theorem d72_200 : decode bM72 200 = .ok (.invokevirtual 236, 3) := by decide +kernel
theorem d72_203 : decode bM72 203 = .ok (.iinc 3 1, 3) := by decide +kernel
theorem d72_206 : decode bM72 206 = .ok (.goto (-161), 3) := by decide +kernel
theorem d72_209 : decode bM72 209 = .ok (.aload_n 0, 1) := by decide +kernel
theorem d72_210 : decode bM72 210 = .ok (.getfield 7, 3) := by decide +kernel
theorem d72_213 : decode bM72 213 = .ok (.sipush 5160, 3) := by decide +kernel
theorem d72_216 : decode bM72 216 = .ok (.aload_n 0, 1) := by decide +kernel
theorem d72_217 : decode bM72 217 = .ok (.invokevirtual 115, 3) := by decide +kernel
theorem d72_220 : decode bM72 220 = .ok (.aload_n 0, 1) := by decide +kernel
theorem d72_221 : decode bM72 221 = .ok (.getfield 152, 3) := by decide +kernel
theorem d72_224 : decode bM72 224 = .ok (.iadd, 1) := by decide +kernel
theorem d72_225 : decode bM72 225 = .ok (.iastore, 1) := by decide +kernel
theorem d72_226 : decode bM72 226 = .ok (.aload_n 0, 1) := by decide +kernel
theorem d72_227 : decode bM72 227 = .ok (.dup, 1) := by decide +kernel
theorem d72_228 : decode bM72 228 = .ok (.getfield 233, 3) := by decide +kernel
theorem d72_231 : decode bM72 231 = .ok (.aload_n 0, 1) := by decide +kernel
theorem d72_232 : decode bM72 232 = .ok (.getfield 152, 3) := by decide +kernel
theorem d72_235 : decode bM72 235 = .ok (.iadd, 1) := by decide +kernel
theorem d72_236 : decode bM72 236 = .ok (.putfield 233, 3) := by decide +kernel
theorem d72_239 : decode bM72 239 = .ok (.return_, 1) := by decide +kernel
theorem d73_0 : decode bM73 0 = .ok (.iconst 0, 1) := by decide +kernel
theorem d73_1 : decode bM73 1 = .ok (.istore_n 1, 1) := by decide +kernel
theorem d73_2 : decode bM73 2 = .ok (.iload_n 1, 1) := by decide +kernel
theorem d73_3 : decode bM73 3 = .ok (.sipush 5161, 3) := by decide +kernel
theorem d73_6 : decode bM73 6 = .ok (.if_icmp .ge 21, 3) := by decide +kernel
theorem d73_9 : decode bM73 9 = .ok (.aload_n 0, 1) := by decide +kernel
theorem d73_10 : decode bM73 10 = .ok (.getfield 13, 3) := by decide +kernel
theorem d73_13 : decode bM73 13 = .ok (.iload_n 1, 1) := by decide +kernel
theorem d73_14 : decode bM73 14 = .ok (.aload_n 0, 1) := by decide +kernel
theorem d73_15 : decode bM73 15 = .ok (.getfield 7, 3) := by decide +kernel
theorem d73_18 : decode bM73 18 = .ok (.iload_n 1, 1) := by decide +kernel
theorem d73_19 : decode bM73 19 = .ok (.iaload, 1) := by decide +kernel
theorem d73_20 : decode bM73 20 = .ok (.iastore, 1) := by decide +kernel
theorem d73_21 : decode bM73 21 = .ok (.iinc 1 1, 3) := by decide +kernel
theorem d73_24 : decode bM73 24 = .ok (.goto (-22), 3) := by decide +kernel
theorem d73_27 : decode bM73 27 = .ok (.aload_n 0, 1) := by decide +kernel
theorem d73_28 : decode bM73 28 = .ok (.iconst 0, 1) := by decide +kernel
theorem d73_29 : decode bM73 29 = .ok (.putfield 239, 3) := by decide +kernel
theorem d73_32 : decode bM73 32 = .ok (.return_, 1) := by decide +kernel
theorem d74_0 : decode bM74 0 = .ok (.iload_n 1, 1) := by decide +kernel
theorem d74_1 : decode bM74 1 = .ok (.bipush 32, 2) := by decide +kernel
theorem d74_3 : decode bM74 3 = .ok (.if_icmp .lt 18, 3) := by decide +kernel
theorem d74_6 : decode bM74 6 = .ok (.iload_n 1, 1) := by decide +kernel
theorem d74_7 : decode bM74 7 = .ok (.bipush 126, 2) := by decide +kernel
theorem d74_9 : decode bM74 9 = .ok (.if_icmp .gt 12, 3) := by decide +kernel
theorem d74_12 : decode bM74 12 = .ok (.aload_n 0, 1) := by decide +kernel
theorem d74_13 : decode bM74 13 = .ok (.getfield 133, 3) := by decide +kernel
theorem d74_16 : decode bM74 16 = .ok (.bipush 120, 2) := by decide +kernel
theorem d74_18 : decode bM74 18 = .ok (.if_icmp .lt 5, 3) := by decide +kernel
theorem d74_21 : decode bM74 21 = .ok (.iconst 0, 1) := by decide +kernel
theorem d74_22 : decode bM74 22 = .ok (.ireturn, 1) := by decide +kernel
theorem d74_23 : decode bM74 23 = .ok (.aload_n 0, 1) := by decide +kernel
theorem d74_24 : decode bM74 24 = .ok (.getfield 22, 3) := by decide +kernel
theorem d74_27 : decode bM74 27 = .ok (.aload_n 0, 1) := by decide +kernel
theorem d74_28 : decode bM74 28 = .ok (.getfield 133, 3) := by decide +kernel
theorem d74_31 : decode bM74 31 = .ok (.iload_n 1, 1) := by decide +kernel
theorem d74_32 : decode bM74 32 = .ok (.castore, 1) := by decide +kernel
theorem d74_33 : decode bM74 33 = .ok (.aload_n 0, 1) := by decide +kernel
theorem d74_34 : decode bM74 34 = .ok (.dup, 1) := by decide +kernel
theorem d74_35 : decode bM74 35 = .ok (.getfield 133, 3) := by decide +kernel
theorem d74_38 : decode bM74 38 = .ok (.iconst 1, 1) := by decide +kernel
theorem d74_39 : decode bM74 39 = .ok (.iadd, 1) := by decide +kernel
theorem d74_40 : decode bM74 40 = .ok (.putfield 133, 3) := by decide +kernel
theorem d74_43 : decode bM74 43 = .ok (.iconst 1, 1) := by decide +kernel
theorem d74_44 : decode bM74 44 = .ok (.ireturn, 1) := by decide +kernel
theorem d75_0 : decode bM75 0 = .ok (.aload_n 0, 1) := by decide +kernel
theorem d75_1 : decode bM75 1 = .ok (.iconst 1, 1) := by decide +kernel
theorem d75_2 : decode bM75 2 = .ok (.iconst 0, 1) := by decide +kernel
theorem d75_3 : decode bM75 3 = .ok (.invokevirtual 242, 3) := by decide +kernel
theorem d75_6 : decode bM75 6 = .ok (.aload_n 0, 1) := by decide +kernel
theorem d75_7 : decode bM75 7 = .ok (.getfield 137, 3) := by decide +kernel
theorem d75_10 : decode bM75 10 = .ok (.ifCond .lt 10, 3) := by decide +kernel
theorem d75_13 : decode bM75 13 = .ok (.iconst (-1), 1) := by decide +kernel
theorem d75_14 : decode bM75 14 = .ok (.aload_n 0, 1) := by decide +kernel
theorem d75_15 : decode bM75 15 = .ok (.getfield 137, 3) := by decide +kernel
theorem d75_18 : decode bM75 18 = .ok (.isub, 1) := by decide +kernel
theorem d75_19 : decode bM75 19 = .ok (.ireturn, 1) := by decide +kernel
theorem d75_20 : decode bM75 20 = .ok (.aload_n 0, 1) := by decide +kernel
theorem d75_21 : decode bM75 21 = .ok (.getfield 161, 3) := by decide +kernel
theorem d75_24 : decode bM75 24 = .ok (.ifCond .ne 27, 3) := by decide +kernel
theorem d75_27 : decode bM75 27 = .ok (.aload_n 0, 1) := by decide +kernel
theorem d75_28 : decode bM75 28 = .ok (.getfield 152, 3) := by decide +kernel
theorem d75_31 : decode bM75 31 = .ok (.bipush 40, 2) := by decide +kernel
theorem d75_33 : decode bM75 33 = .ok (.if_icmp .gt 18, 3) := by decide +kernel
theorem d75_36 : decode bM75 36 = .ok (.aload_n 0, 1) := by decide +kernel
theorem d75_37 : decode bM75 37 = .ok (.getfield 233, 3) := by decide +kernel
theorem d75_40 : decode bM75 40 = .ok (.aload_n 0, 1) := by decide +kernel
theorem d75_41 : decode bM75 41 = .ok (.getfield 152, 3) := by decide +kernel
theorem d75_44 : decode bM75 44 = .ok (.iadd, 1) := by decide +kernel
theorem d75_45 : decode bM75 45 = .ok (.sipush 200, 3) := by decide +kernel
theorem d75_48 : decode bM75 48 = .ok (.if_icmp .le 7, 3) := by decide +kernel
theorem d75_51 : decode bM75 51 = .ok (.sipush (-2000), 3) := by decide +kernel
theorem d75_54 : decode bM75 54 = .ok (.ireturn, 1) := by decide +kernel
theorem d75_55 : decode bM75 55 = .ok (.iconst 0, 1) := by decide +kernel
theorem d75_56 : decode bM75 56 = .ok (.istore_n 1, 1) := by decide +kernel
theorem d75_57 : decode bM75 57 = .ok (.iload_n 1, 1) := by decide +kernel
theorem d75_58 : decode bM75 58 = .ok (.bipush 40, 2) := by decide +kernel
theorem d75_60 : decode bM75 60 = .ok (.if_icmp .ge 16, 3) := by decide +kernel
theorem d75_63 : decode bM75 63 = .ok (.aload_n 0, 1) := by decide +kernel
theorem d75_64 : decode bM75 64 = .ok (.iload_n 1, 1) := by decide +kernel
theorem d75_65 : decode bM75 65 = .ok (.iconst 0, 1) := by decide +kernel
theorem d75_66 : decode bM75 66 = .ok (.iconst 0, 1) := by decide +kernel
theorem d75_67 : decode bM75 67 = .ok (.invokevirtual 229, 3) := by decide +kernel
theorem d75_70 : decode bM75 70 = .ok (.iinc 1 1, 3) := by decide +kernel
theorem d75_73 : decode bM75 73 = .ok (.goto (-16), 3) := by decide +kernel
theorem d75_76 : decode bM75 76 = .ok (.aload_n 0, 1) := by decide +kernel
theorem d75_77 : decode bM75 77 = .ok (.getfield 7, 3) := by decide +kernel
theorem d75_80 : decode bM75 80 = .ok (.sipush 5160, 3) := by decide +kernel
theorem d75_83 : decode bM75 83 = .ok (.iconst 0, 1) := by decide +kernel
theorem d75_84 : decode bM75 84 = .ok (.iastore, 1) := by decide +kernel
theorem d75_85 : decode bM75 85 = .ok (.aload_n 0, 1) := by decide +kernel
theorem d75_86 : decode bM75 86 = .ok (.getfield 41, 3) := by decide +kernel
theorem d75_89 : decode bM75 89 = .ok (.iconst 0, 1) := by decide +kernel
theorem d75_90 : decode bM75 90 = .ok (.iconst 1, 1) := by decide +kernel
theorem d75_91 : decode bM75 91 = .ok (.iastore, 1) := by decide +kernel
theorem d75_92 : decode bM75 92 = .ok (.aload_n 0, 1) := by decide +kernel
theorem d75_93 : decode bM75 93 = .ok (.iconst 1, 1) := by decide +kernel
theorem d75_94 : decode bM75 94 = .ok (.putfield 220, 3) := by decide +kernel
theorem d75_97 : decode bM75 97 = .ok (.aload_n 0, 1) := by decide +kernel
theorem d75_98 : decode bM75 98 = .ok (.iconst (-1), 1) := by decide +kernel
theorem d75_99 : decode bM75 99 = .ok (.iconst 0, 1) := by decide +kernel
theorem d75_100 : decode bM75 100 = .ok (.invokevirtual 246, 3) := by decide +kernel
theorem d75_103 : decode bM75 103 = .ok (.aload_n 0, 1) := by decide +kernel
theorem d75_104 : decode bM75 104 = .ok (.invokevirtual 250, 3) := by decide +kernel
theorem d75_107 : decode bM75 107 = .ok (.aload_n 0, 1) := by decide +kernel
theorem d75_108 : decode bM75 108 = .ok (.getfield 152, 3) := by decide +kernel
theorem d75_111 : decode bM75 111 = .ok (.ireturn, 1) := by decide +kernel
def g_comment_108 (x2 : Int32) (st : mT) : Option (mT) := ((g_must (x2 + 2) 62 st).bind (fun q4 => (mm_lt (mm_F q4.2 8 (x2 + 3)) (fun st5 => (some st5)))))
def g_comment_89 (k44 : Int32 → Int32 → mT → Option (mT)) (x1 : Int32) (x2 : Int32) (st : mT) : Option (mT) := ((g_look x2 st).bind (fun q7 => ((g_append x1 3 8 q7.1 q7.2).bind (fun q8 => (k44 x1 (x2 + 1) q8)))))
def g_comment_73 (k44 : Int32 → Int32 → mT → Option (mT)) (x1 : Int32) (x2 : Int32) (st : mT) : Option (mT) := (if x2 < (st.1 7) then (g_comment_89 k44 x1 x2 st) else ((g_error (st.1 7) st).bind (fun q9 => (g_comment_89 k44 x1 x2 q9))))
def g_comment_44 : Nat → Int32 → Int32 → mT → Option (mT)
  | 0, _, _, _ => none
  | n9 + 1, x1, x2, st => (if 0 ≤ (st.1 9) then (g_comment_108 x2 st) else ((g_look x2 st).bind (fun q6 => (if q6.1 = 45 then ((g_look (x2 + 1) q6.2).bind (fun q10 => (if q10.1 = 45 then (g_comment_108 x2 q10.2) else (g_comment_73 (g_comment_44 n9) x1 x2 q10.2)))) else (g_comment_73 (g_comment_44 n9) x1 x2 q6.2)))))
def g_comment (st : mT) : Option (mT) := ((g_must ((st.1 8) + 2) 45 st).bind (fun q1 => (if q1.1 = 0 then (some q1.2) else ((g_must ((q1.2.1 8) + 3) 45 q1.2).bind (fun q2 => (if q2.1 = 0 then (some q2.2) else ((g_make 3 q2.2).bind (fun q3 => (g_comment_44 mF q3.1 ((q3.2.1 8) + 4) q3.2)))))))))
set_option maxRecDepth 100000 in
set_option maxHeartbeats 8000000 in
theorem cm_comment (l : Launch) (D : va_G) (dA : Nat → ClassId) (s0 : State) (hE : ms_EV D dA s0) (h0 : hm_T) (r : Nat) (M : Nat → Nat) (hM : mm_ok r M) (z0 : hz_T) (st : mT) (q : mT) (hg : g_comment st = some q) : ht_C l D s0 yM64 bM64 3 (Option.none : Option Jvm.ClassFile.FieldType) 2 43 0 0 [.ref r] (fun h z => h = mm_h dA h0 r M st ∧ z = z0) (fun h z vv h1 z1 => vv = none ∧ h1 = mm_h dA h0 r M q ∧ z1 = z0) := by
  refine ht_C.mk hE.1 (by decide) (Nat.le_of_ble_eq_true rfl) [(0, .ref r)] rfl ?_
  intro p e s m below meth c ls h z X hin hpre I hl
  have hx := X.1
  have hb := X.2.1
  have hml := X.2.2.1
  have hown : s.vm.findClass "MarkupStoreModel" = some m.cls := X.2.2.2.1
  have hts := X.2.2.2.2.2.2.1
  have hK := X.2.2.2.2.2.2.2.2.1
  rw [hpre.1, hpre.2] at I
  clear hpre
  have b108 : ∀ (ls : Array Slot) (x2 : Int32) (st : mT) (H : Heap) (locs : List Loc), g_comment_108 x2 st = some q → lv_has ls 3 [(0, .ref r), (2, .int x2)] → hm_I D s0 s (mm_h dA h0 r M st) z0 H locs → W p l e { frames := 2, cells := 0, slots := 0, locals := 43 } s m ([.ref r] : List Value).toArray below meth c H locs 0 0 (MQ below (ht_Q D s0 (fun vv h1 z1 => vv = none ∧ h1 = mm_h dA h0 r M q ∧ z1 = z0)) ([.ref r] : List Value).toArray s 0 0 (fun q => s0.heap.size ≤ q)) (F0 m 108 ls []) := by
    intro ls x2 st H locs hF hl I
    unfold g_comment_108 at hF
    refine lv_aload_n hx hb d64_108 rfl (lv_at hl 0 rfl) ?_
    refine lv_iload_n hx hb d64_109 rfl (lv_at hl 1 rfl) ?_
    refine lv_iconst (v := 2) hx hb d64_110 (by decide) ?_
    refine lv_iadd hx hb d64_111 ?_
    refine lv_bipush (v := 62) hx hb d64_112 (by decide) ?_
    obtain ⟨q4, e9, hF⟩ := mm_bd hF
    refine ht_V (C := "MarkupStoreModel") (rest := []) (as := [.int (x2 + 2), .int 62]) X hl (cm_must l D dA s0 hE h0 r M hM z0 (x2 + 2) 62 st q4 e9) (List.forall_mem_cons.mpr ⟨ms_k1551, List.forall_mem_cons.mpr ⟨ms_k1553, List.forall_mem_cons.mpr ⟨ms_p54, List.forall_mem_cons.mpr ⟨ms_k7, List.forall_mem_cons.mpr ⟨ms_k1554, fun _ h => absurd h List.not_mem_nil⟩⟩⟩⟩⟩) ⟨rfl, by decide +kernel, by decide +kernel, (by decide +kernel : (parseMethodDescriptor "(IC)Z").map (fun d => d.parameters.length) = some 2)⟩ (hm_recv hK I rfl mm_hr) I ⟨rfl, rfl⟩ ⟨⟨Nat.le_of_ble_eq_true rfl, Nat.le_of_ble_eq_true rfl⟩, Nat.le_of_ble_eq_true rfl, Nat.le_of_ble_eq_true rfl⟩ rfl (Nat.le_of_ble_eq_true rfl) d64_114 (fun vv h1 z1 H locs hR I9 => ?_)
    obtain ⟨e1, e2, e3⟩ := hR
    rw [e2, e3] at I9
    clear I e2 e3 e9
    have I := I9
    clear I9
    subst e1
    refine W.eq (g2 := F0 m 117 ls [.int q4.1]) rfl ?_
    refine lv_pop hx hb d64_117 rfl ?_
    refine lv_aload_n hx hb d64_118 rfl (lv_at hl 0 rfl) ?_
    refine lv_iload_n hx hb d64_119 rfl (lv_at hl 1 rfl) ?_
    refine lv_iconst (v := 3) hx hb d64_120 (by decide) ?_
    refine lv_iadd hx hb d64_121 ?_
    obtain ⟨st5, e9, hF⟩ := mm_lt_some hF
    refine mm_put (k := 8) (ty := .int) X I (by decide) ms_k1324 rfl rfl (by decide +kernel) ⟨rfl, rfl⟩ rfl e9 d64_122 (fun H locs I => ?_)
    clear e9
    exact ht_vret X d64_125 I (Nat.le_of_ble_eq_true rfl) (Nat.le_of_ble_eq_true rfl) (mm_finV hF)
  have b89 : ∀ (k44 : Int32 → Int32 → mT → Option (mT)), (∀ (ls : Array Slot) (x1 : Int32) (x2 : Int32) (st : mT) (H : Heap) (locs : List Loc), k44 x1 x2 st = some q → lv_has ls 3 [(0, .ref r), (1, .int x1), (2, .int x2)] → hm_I D s0 s (mm_h dA h0 r M st) z0 H locs → W p l e { frames := 2, cells := 0, slots := 0, locals := 43 } s m ([.ref r] : List Value).toArray below meth c H locs 0 0 (MQ below (ht_Q D s0 (fun vv h1 z1 => vv = none ∧ h1 = mm_h dA h0 r M q ∧ z1 = z0)) ([.ref r] : List Value).toArray s 0 0 (fun q => s0.heap.size ≤ q)) (F0 m 44 ls [])) → ∀ (ls : Array Slot) (x1 : Int32) (x2 : Int32) (st : mT) (H : Heap) (locs : List Loc), g_comment_89 k44 x1 x2 st = some q → lv_has ls 3 [(0, .ref r), (1, .int x1), (2, .int x2)] → hm_I D s0 s (mm_h dA h0 r M st) z0 H locs → W p l e { frames := 2, cells := 0, slots := 0, locals := 43 } s m ([.ref r] : List Value).toArray below meth c H locs 0 0 (MQ below (ht_Q D s0 (fun vv h1 z1 => vv = none ∧ h1 = mm_h dA h0 r M q ∧ z1 = z0)) ([.ref r] : List Value).toArray s 0 0 (fun q => s0.heap.size ≤ q)) (F0 m 89 ls []) := by
    intro k44 hk44 ls x1 x2 st H locs hF hl I
    unfold g_comment_89 at hF
    refine lv_aload_n hx hb d64_89 rfl (lv_at hl 0 rfl) ?_
    refine lv_iload_n hx hb d64_90 rfl (lv_at hl 1 rfl) ?_
    refine lv_iconst (v := 3) hx hb d64_91 (by decide) ?_
    refine lv_bipush (v := 8) hx hb d64_92 (by decide) ?_
    refine lv_aload_n hx hb d64_94 rfl (lv_at hl 0 rfl) ?_
    refine lv_iload_n hx hb d64_95 rfl (lv_at hl 2 rfl) ?_
    obtain ⟨q7, e9, hF⟩ := mm_bd hF
    refine ht_V (C := "MarkupStoreModel") (rest := [.int 8, .int 3, .int x1, .ref r]) (as := [.int x2]) X hl (cm_look l D dA s0 hE h0 r M hM z0 x2 st q7 e9) (List.forall_mem_cons.mpr ⟨ms_k1516, List.forall_mem_cons.mpr ⟨ms_k1518, List.forall_mem_cons.mpr ⟨ms_p46, List.forall_mem_cons.mpr ⟨ms_k7, List.forall_mem_cons.mpr ⟨ms_k1519, fun _ h => absurd h List.not_mem_nil⟩⟩⟩⟩⟩) ⟨rfl, by decide +kernel, by decide +kernel, (by decide +kernel : (parseMethodDescriptor "(I)C").map (fun d => d.parameters.length) = some 1)⟩ (hm_recv hK I rfl mm_hr) I ⟨rfl, rfl⟩ ⟨⟨Nat.le_of_ble_eq_true rfl, Nat.le_of_ble_eq_true rfl⟩, Nat.le_of_ble_eq_true rfl, Nat.le_of_ble_eq_true rfl⟩ rfl (Nat.le_of_ble_eq_true rfl) d64_96 (fun vv h1 z1 H locs hR I9 => ?_)
    obtain ⟨e1, e2, e3⟩ := hR
    rw [e2, e3] at I9
    clear I e2 e3 e9
    have I := I9
    clear I9
    subst e1
    refine W.eq (g2 := F0 m 99 ls [.int q7.1, .int 8, .int 3, .int x1, .ref r]) rfl ?_
    obtain ⟨q8, e9, hF⟩ := mm_bd hF
    refine ht_V (C := "MarkupStoreModel") (rest := []) (as := [.int x1, .int 3, .int 8, .int q7.1]) X hl (cm_append l D dA s0 hE h0 r M hM z0 x1 3 8 q7.1 q7.2 q8 e9) (List.forall_mem_cons.mpr ⟨ms_k1563, List.forall_mem_cons.mpr ⟨ms_k1565, List.forall_mem_cons.mpr ⟨ms_p57, List.forall_mem_cons.mpr ⟨ms_k7, List.forall_mem_cons.mpr ⟨ms_k1566, fun _ h => absurd h List.not_mem_nil⟩⟩⟩⟩⟩) ⟨rfl, by decide +kernel, by decide +kernel, (by decide +kernel : (parseMethodDescriptor "(IIIC)V").map (fun d => d.parameters.length) = some 4)⟩ (hm_recv hK I rfl mm_hr) I ⟨rfl, rfl⟩ ⟨⟨Nat.le_of_ble_eq_true rfl, Nat.le_of_ble_eq_true rfl⟩, Nat.le_of_ble_eq_true rfl, Nat.le_of_ble_eq_true rfl⟩ rfl (Nat.le_of_ble_eq_true rfl) d64_99 (fun vv h1 z1 H locs hR I9 => ?_)
    obtain ⟨e1, e2, e3⟩ := hR
    rw [e2, e3] at I9
    clear I e2 e3 e9
    have I := I9
    clear I9
    subst e1
    refine W.eq (g2 := F0 m 102 ls []) rfl ?_
    refine lv_iinc (k := 2) (v := (x2 + 1)) hx hb d64_102 hl rfl (rfl) (by decide) rfl (fun ls hl => ?_)
    have hl : lv_has ls 3 [(2, .int (x2 + 1)), (0, .ref r), (1, .int x1)] := hl
    refine lv_goto hx hb d64_105 rfl ?_
    exact hk44 ls x1 (x2 + 1) q8 _ _ hF (hl.sub [1, 2, 0] rfl) I
  have b73 : ∀ (k44 : Int32 → Int32 → mT → Option (mT)), (∀ (ls : Array Slot) (x1 : Int32) (x2 : Int32) (st : mT) (H : Heap) (locs : List Loc), k44 x1 x2 st = some q → lv_has ls 3 [(0, .ref r), (1, .int x1), (2, .int x2)] → hm_I D s0 s (mm_h dA h0 r M st) z0 H locs → W p l e { frames := 2, cells := 0, slots := 0, locals := 43 } s m ([.ref r] : List Value).toArray below meth c H locs 0 0 (MQ below (ht_Q D s0 (fun vv h1 z1 => vv = none ∧ h1 = mm_h dA h0 r M q ∧ z1 = z0)) ([.ref r] : List Value).toArray s 0 0 (fun q => s0.heap.size ≤ q)) (F0 m 44 ls [])) → ∀ (ls : Array Slot) (x1 : Int32) (x2 : Int32) (st : mT) (H : Heap) (locs : List Loc), g_comment_73 k44 x1 x2 st = some q → lv_has ls 3 [(0, .ref r), (1, .int x1), (2, .int x2)] → hm_I D s0 s (mm_h dA h0 r M st) z0 H locs → W p l e { frames := 2, cells := 0, slots := 0, locals := 43 } s m ([.ref r] : List Value).toArray below meth c H locs 0 0 (MQ below (ht_Q D s0 (fun vv h1 z1 => vv = none ∧ h1 = mm_h dA h0 r M q ∧ z1 = z0)) ([.ref r] : List Value).toArray s 0 0 (fun q => s0.heap.size ≤ q)) (F0 m 73 ls []) := by
    intro k44 hk44 ls x1 x2 st H locs hF hl I
    unfold g_comment_73 at hF
    refine lv_iload_n hx hb d64_73 rfl (lv_at hl 2 rfl) ?_
    refine lv_aload_n hx hb d64_74 rfl (lv_at hl 0 rfl) ?_
    refine va_get (D := D) (ci := 2) (v := .int (st.1 7)) (C := kR2) (T := kT2) (N := 60) hx hb hts ku2 hown hK (hm_one I.1 mm_hr) 0 rfl rfl 7 (by decide) (hts _ ms_k1323) (fun _ h => h) rfl d64_75 ?_
    refine lv_icmp_lt hx hb d64_78 rfl (fun h9 => ?_) (fun h9 => ?_)
    · have hF := (if_pos h9).symm.trans hF
      exact b89 k44 hk44 ls x1 x2 st _ _ hF (hl.sub [0, 1, 2] rfl) I
    · have hF := (if_neg h9).symm.trans hF
      refine lv_aload_n hx hb d64_81 rfl (lv_at hl 0 rfl) ?_
      refine lv_aload_n hx hb d64_82 rfl (lv_at hl 0 rfl) ?_
      refine va_get (D := D) (ci := 2) (v := .int (st.1 7)) (C := kR2) (T := kT2) (N := 60) hx hb hts ku2 hown hK (hm_one I.1 mm_hr) 0 rfl rfl 7 (by decide) (hts _ ms_k1323) (fun _ h => h) rfl d64_83 ?_
      obtain ⟨q9, e9, hF⟩ := mm_bd hF
      refine ht_V (C := "MarkupStoreModel") (rest := []) (as := [.int (st.1 7)]) X hl (cm_error l D dA s0 hE h0 r M hM z0 (st.1 7) st q9 e9) (List.forall_mem_cons.mpr ⟨ms_k1520, List.forall_mem_cons.mpr ⟨ms_k1522, List.forall_mem_cons.mpr ⟨ms_p47, List.forall_mem_cons.mpr ⟨ms_k7, List.forall_mem_cons.mpr ⟨ms_k1523, fun _ h => absurd h List.not_mem_nil⟩⟩⟩⟩⟩) ⟨rfl, by decide +kernel, by decide +kernel, (by decide +kernel : (parseMethodDescriptor "(I)V").map (fun d => d.parameters.length) = some 1)⟩ (hm_recv hK I rfl mm_hr) I ⟨rfl, rfl⟩ ⟨⟨Nat.le_of_ble_eq_true rfl, Nat.le_of_ble_eq_true rfl⟩, Nat.le_of_ble_eq_true rfl, Nat.le_of_ble_eq_true rfl⟩ rfl (Nat.le_of_ble_eq_true rfl) d64_86 (fun vv h1 z1 H locs hR I9 => ?_)
      obtain ⟨e1, e2, e3⟩ := hR
      rw [e2, e3] at I9
      clear I e2 e3 e9
      have I := I9
      clear I9
      subst e1
      refine W.eq (g2 := F0 m 89 ls []) rfl ?_
      exact b89 k44 hk44 ls x1 x2 q9 _ _ hF (hl.sub [0, 1, 2] rfl) I
  have b44 : ∀ n9 : Nat, ∀ (ls : Array Slot) (x1 : Int32) (x2 : Int32) (st : mT) (H : Heap) (locs : List Loc), g_comment_44 n9 x1 x2 st = some q → lv_has ls 3 [(0, .ref r), (1, .int x1), (2, .int x2)] → hm_I D s0 s (mm_h dA h0 r M st) z0 H locs → W p l e { frames := 2, cells := 0, slots := 0, locals := 43 } s m ([.ref r] : List Value).toArray below meth c H locs 0 0 (MQ below (ht_Q D s0 (fun vv h1 z1 => vv = none ∧ h1 = mm_h dA h0 r M q ∧ z1 = z0)) ([.ref r] : List Value).toArray s 0 0 (fun q => s0.heap.size ≤ q)) (F0 m 44 ls []) := by
    intro n9
    induction n9 with
    | zero => intro ls x1 x2 st H locs hF; cases hF
    | succ n9 hk44 =>
    intro ls x1 x2 st H locs hF hl I
    unfold g_comment_44 at hF
    refine lv_aload_n hx hb d64_44 rfl (lv_at hl 0 rfl) ?_
    refine va_get (D := D) (ci := 2) (v := .int (st.1 9)) (C := kR2) (T := kT2) (N := 60) hx hb hts ku2 hown hK (hm_one I.1 mm_hr) 0 rfl rfl 9 (by decide) (hts _ ms_k1325) (fun _ h => h) rfl d64_45 ?_
    refine lv_if_ge hx hb d64_48 rfl (fun h9 => ?_) (fun h9 => ?_)
    · have hF := (if_pos h9).symm.trans hF
      exact b108 ls x2 st _ _ hF (hl.sub [0, 2] rfl) I
    · have hF := (if_neg h9).symm.trans hF
      refine lv_aload_n hx hb d64_51 rfl (lv_at hl 0 rfl) ?_
      refine lv_iload_n hx hb d64_52 rfl (lv_at hl 2 rfl) ?_
      obtain ⟨q6, e9, hF⟩ := mm_bd hF
      refine ht_V (C := "MarkupStoreModel") (rest := []) (as := [.int x2]) X hl (cm_look l D dA s0 hE h0 r M hM z0 x2 st q6 e9) (List.forall_mem_cons.mpr ⟨ms_k1516, List.forall_mem_cons.mpr ⟨ms_k1518, List.forall_mem_cons.mpr ⟨ms_p46, List.forall_mem_cons.mpr ⟨ms_k7, List.forall_mem_cons.mpr ⟨ms_k1519, fun _ h => absurd h List.not_mem_nil⟩⟩⟩⟩⟩) ⟨rfl, by decide +kernel, by decide +kernel, (by decide +kernel : (parseMethodDescriptor "(I)C").map (fun d => d.parameters.length) = some 1)⟩ (hm_recv hK I rfl mm_hr) I ⟨rfl, rfl⟩ ⟨⟨Nat.le_of_ble_eq_true rfl, Nat.le_of_ble_eq_true rfl⟩, Nat.le_of_ble_eq_true rfl, Nat.le_of_ble_eq_true rfl⟩ rfl (Nat.le_of_ble_eq_true rfl) d64_53 (fun vv h1 z1 H locs hR I9 => ?_)
      obtain ⟨e1, e2, e3⟩ := hR
      rw [e2, e3] at I9
      clear I e2 e3 e9
      have I := I9
      clear I9
      subst e1
      refine W.eq (g2 := F0 m 56 ls [.int q6.1]) rfl ?_
      refine lv_bipush (v := 45) hx hb d64_56 (by decide) ?_
      refine lv_icmp_ne hx hb d64_58 rfl (fun h9 => ?_) (fun h9 => ?_)
      · have hF := (if_neg h9).symm.trans hF
        exact b73 (g_comment_44 n9) hk44 ls x1 x2 q6.2 _ _ hF (hl.sub [0, 1, 2] rfl) I
      · have hF := (if_pos h9).symm.trans hF
        refine lv_aload_n hx hb d64_61 rfl (lv_at hl 0 rfl) ?_
        refine lv_iload_n hx hb d64_62 rfl (lv_at hl 2 rfl) ?_
        refine lv_iconst (v := 1) hx hb d64_63 (by decide) ?_
        refine lv_iadd hx hb d64_64 ?_
        obtain ⟨q10, e9, hF⟩ := mm_bd hF
        refine ht_V (C := "MarkupStoreModel") (rest := []) (as := [.int (x2 + 1)]) X hl (cm_look l D dA s0 hE h0 r M hM z0 (x2 + 1) q6.2 q10 e9) (List.forall_mem_cons.mpr ⟨ms_k1516, List.forall_mem_cons.mpr ⟨ms_k1518, List.forall_mem_cons.mpr ⟨ms_p46, List.forall_mem_cons.mpr ⟨ms_k7, List.forall_mem_cons.mpr ⟨ms_k1519, fun _ h => absurd h List.not_mem_nil⟩⟩⟩⟩⟩) ⟨rfl, by decide +kernel, by decide +kernel, (by decide +kernel : (parseMethodDescriptor "(I)C").map (fun d => d.parameters.length) = some 1)⟩ (hm_recv hK I rfl mm_hr) I ⟨rfl, rfl⟩ ⟨⟨Nat.le_of_ble_eq_true rfl, Nat.le_of_ble_eq_true rfl⟩, Nat.le_of_ble_eq_true rfl, Nat.le_of_ble_eq_true rfl⟩ rfl (Nat.le_of_ble_eq_true rfl) d64_65 (fun vv h1 z1 H locs hR I9 => ?_)
        obtain ⟨e1, e2, e3⟩ := hR
        rw [e2, e3] at I9
        clear I e2 e3 e9
        have I := I9
        clear I9
        subst e1
        refine W.eq (g2 := F0 m 68 ls [.int q10.1]) rfl ?_
        refine lv_bipush (v := 45) hx hb d64_68 (by decide) ?_
        refine lv_icmp_eq hx hb d64_70 rfl (fun h9 => ?_) (fun h9 => ?_)
        · have hF := (if_pos h9).symm.trans hF
          exact b108 ls x2 q10.2 _ _ hF (hl.sub [0, 2] rfl) I
        · have hF := (if_neg h9).symm.trans hF
          exact b73 (g_comment_44 n9) hk44 ls x1 x2 q10.2 _ _ hF (hl.sub [0, 1, 2] rfl) I
  have hF := hg
  unfold g_comment at hF
  refine lv_aload_n hx hb d64_0 rfl (lv_at hl 0 rfl) ?_
  refine lv_aload_n hx hb d64_1 rfl (lv_at hl 0 rfl) ?_
  refine va_get (D := D) (ci := 2) (v := .int (st.1 8)) (C := kR2) (T := kT2) (N := 60) hx hb hts ku2 hown hK (hm_one I.1 mm_hr) 0 rfl rfl 8 (by decide) (hts _ ms_k1324) (fun _ h => h) rfl d64_2 ?_
  refine lv_iconst (v := 2) hx hb d64_5 (by decide) ?_
  refine lv_iadd hx hb d64_6 ?_
  refine lv_bipush (v := 45) hx hb d64_7 (by decide) ?_
  obtain ⟨q1, e9, hF⟩ := mm_bd hF
  refine ht_V (C := "MarkupStoreModel") (rest := []) (as := [.int ((st.1 8) + 2), .int 45]) X hl (cm_must l D dA s0 hE h0 r M hM z0 ((st.1 8) + 2) 45 st q1 e9) (List.forall_mem_cons.mpr ⟨ms_k1551, List.forall_mem_cons.mpr ⟨ms_k1553, List.forall_mem_cons.mpr ⟨ms_p54, List.forall_mem_cons.mpr ⟨ms_k7, List.forall_mem_cons.mpr ⟨ms_k1554, fun _ h => absurd h List.not_mem_nil⟩⟩⟩⟩⟩) ⟨rfl, by decide +kernel, by decide +kernel, (by decide +kernel : (parseMethodDescriptor "(IC)Z").map (fun d => d.parameters.length) = some 2)⟩ (hm_recv hK I rfl mm_hr) I ⟨rfl, rfl⟩ ⟨⟨Nat.le_of_ble_eq_true rfl, Nat.le_of_ble_eq_true rfl⟩, Nat.le_of_ble_eq_true rfl, Nat.le_of_ble_eq_true rfl⟩ rfl (Nat.le_of_ble_eq_true rfl) d64_9 (fun vv h1 z1 H locs hR I9 => ?_)
  obtain ⟨e1, e2, e3⟩ := hR
  rw [e2, e3] at I9
  clear I e2 e3 e9
  have I := I9
  clear I9
  subst e1
  refine W.eq (g2 := F0 m 12 ls [.int q1.1]) rfl ?_
  refine lv_if_eq hx hb d64_12 rfl (fun h9 => ?_) (fun h9 => ?_)
  · have hF := (if_pos h9).symm.trans hF
    exact ht_vret X d64_30 I (Nat.le_of_ble_eq_true rfl) (Nat.le_of_ble_eq_true rfl) (mm_finV hF)
  · have hF := (if_neg h9).symm.trans hF
    refine lv_aload_n hx hb d64_15 rfl (lv_at hl 0 rfl) ?_
    refine lv_aload_n hx hb d64_16 rfl (lv_at hl 0 rfl) ?_
    refine va_get (D := D) (ci := 2) (v := .int (q1.2.1 8)) (C := kR2) (T := kT2) (N := 60) hx hb hts ku2 hown hK (hm_one I.1 mm_hr) 0 rfl rfl 8 (by decide) (hts _ ms_k1324) (fun _ h => h) rfl d64_17 ?_
    refine lv_iconst (v := 3) hx hb d64_20 (by decide) ?_
    refine lv_iadd hx hb d64_21 ?_
    refine lv_bipush (v := 45) hx hb d64_22 (by decide) ?_
    obtain ⟨q2, e9, hF⟩ := mm_bd hF
    refine ht_V (C := "MarkupStoreModel") (rest := []) (as := [.int ((q1.2.1 8) + 3), .int 45]) X hl (cm_must l D dA s0 hE h0 r M hM z0 ((q1.2.1 8) + 3) 45 q1.2 q2 e9) (List.forall_mem_cons.mpr ⟨ms_k1551, List.forall_mem_cons.mpr ⟨ms_k1553, List.forall_mem_cons.mpr ⟨ms_p54, List.forall_mem_cons.mpr ⟨ms_k7, List.forall_mem_cons.mpr ⟨ms_k1554, fun _ h => absurd h List.not_mem_nil⟩⟩⟩⟩⟩) ⟨rfl, by decide +kernel, by decide +kernel, (by decide +kernel : (parseMethodDescriptor "(IC)Z").map (fun d => d.parameters.length) = some 2)⟩ (hm_recv hK I rfl mm_hr) I ⟨rfl, rfl⟩ ⟨⟨Nat.le_of_ble_eq_true rfl, Nat.le_of_ble_eq_true rfl⟩, Nat.le_of_ble_eq_true rfl, Nat.le_of_ble_eq_true rfl⟩ rfl (Nat.le_of_ble_eq_true rfl) d64_24 (fun vv h1 z1 H locs hR I9 => ?_)
    obtain ⟨e1, e2, e3⟩ := hR
    rw [e2, e3] at I9
    clear I e2 e3 e9
    have I := I9
    clear I9
    subst e1
    refine W.eq (g2 := F0 m 27 ls [.int q2.1]) rfl ?_
    refine lv_if_ne hx hb d64_27 rfl (fun h9 => ?_) (fun h9 => ?_)
    · have hF := (if_neg h9).symm.trans hF
      refine lv_aload_n hx hb d64_31 rfl (lv_at hl 0 rfl) ?_
      refine lv_iconst (v := 3) hx hb d64_32 (by decide) ?_
      obtain ⟨q3, e9, hF⟩ := mm_bd hF
      refine ht_V (C := "MarkupStoreModel") (rest := []) (as := [.int 3]) X hl (cm_make l D dA s0 hE h0 r M hM z0 3 q2.2 q3 e9) (List.forall_mem_cons.mpr ⟨ms_k1535, List.forall_mem_cons.mpr ⟨ms_k1537, List.forall_mem_cons.mpr ⟨ms_p50, List.forall_mem_cons.mpr ⟨ms_k7, List.forall_mem_cons.mpr ⟨ms_k1538, fun _ h => absurd h List.not_mem_nil⟩⟩⟩⟩⟩) ⟨rfl, by decide +kernel, by decide +kernel, (by decide +kernel : (parseMethodDescriptor "(I)I").map (fun d => d.parameters.length) = some 1)⟩ (hm_recv hK I rfl mm_hr) I ⟨rfl, rfl⟩ ⟨⟨Nat.le_of_ble_eq_true rfl, Nat.le_of_ble_eq_true rfl⟩, Nat.le_of_ble_eq_true rfl, Nat.le_of_ble_eq_true rfl⟩ rfl (Nat.le_of_ble_eq_true rfl) d64_33 (fun vv h1 z1 H locs hR I9 => ?_)
      obtain ⟨e1, e2, e3⟩ := hR
      rw [e2, e3] at I9
      clear I e2 e3 e9
      have I := I9
      clear I9
      subst e1
      refine W.eq (g2 := F0 m 36 ls [.int q3.1]) rfl ?_
      refine lv_istore_n hx hb d64_36 rfl hl (by decide) rfl (fun ls hl => ?_)
      have hl : lv_has ls 3 [(1, .int q3.1), (0, .ref r)] := hl
      refine lv_aload_n hx hb d64_37 rfl (lv_at hl 1 rfl) ?_
      refine va_get (D := D) (ci := 2) (v := .int (q3.2.1 8)) (C := kR2) (T := kT2) (N := 60) hx hb hts ku2 hown hK (hm_one I.1 mm_hr) 0 rfl rfl 8 (by decide) (hts _ ms_k1324) (fun _ h => h) rfl d64_38 ?_
      refine lv_iconst (v := 4) hx hb d64_41 (by decide) ?_
      refine lv_iadd hx hb d64_42 ?_
      refine lv_istore_n hx hb d64_43 rfl hl (by decide) rfl (fun ls hl => ?_)
      have hl : lv_has ls 3 [(2, .int ((q3.2.1 8) + 4)), (1, .int q3.1), (0, .ref r)] := hl
      exact b44 mF ls q3.1 ((q3.2.1 8) + 4) q3.2 _ _ hF (hl.sub [2, 1, 0] rfl) I
    · have hF := (if_pos h9).symm.trans hF
      exact ht_vret X d64_30 I (Nat.le_of_ble_eq_true rfl) (Nat.le_of_ble_eq_true rfl) (mm_finV hF)

def g_tag_86 (st : mT) : Option (mT) := ((g_error ((st.1 8) + 1) st).bind (fun q3 => (some q3)))
def g_tag_69 (x1 : Int32) (x2 : Int32) (st : mT) : Option (mT) := (if x2 = 33 then (if x1 = 0 then ((g_comment st).bind (fun q4 => (some q4))) else (g_tag_86 st)) else (g_tag_86 st))
def g_tag (y1 : Int32) (st : mT) : Option (mT) := ((g_look ((st.1 8) + 1) st).bind (fun q1 => ((g_small q1.1 q1.2).bind (fun q2 => (if q2.1 = 0 then (if q1.1 = 47 then (if (q2.2.1 14) ≤ 0 then (g_tag_69 y1 q1.1 q2.2) else ((g_endTag q2.2).bind (fun q5 => (some q5)))) else (g_tag_69 y1 q1.1 q2.2)) else (if ((q2.2.1 13) + (q2.2.1 14)) ≤ 5 then ((g_startTag q2.2).bind (fun q6 => (some q6))) else ((g_error (q2.2.1 8) q2.2).bind (fun q7 => (some q7)))))))))
set_option maxRecDepth 100000 in
set_option maxHeartbeats 8000000 in
theorem cm_tag (l : Launch) (D : va_G) (dA : Nat → ClassId) (s0 : State) (hE : ms_EV D dA s0) (h0 : hm_T) (r : Nat) (M : Nat → Nat) (hM : mm_ok r M) (z0 : hz_T) (y1 : Int32) (st : mT) (q : mT) (hg : g_tag y1 st = some q) : ht_C l D s0 yM65 bM65 3 (Option.none : Option Jvm.ClassFile.FieldType) 5 124 0 0 [.ref r, .int y1] (fun h z => h = mm_h dA h0 r M st ∧ z = z0) (fun h z vv h1 z1 => vv = none ∧ h1 = mm_h dA h0 r M q ∧ z1 = z0) := by
  refine ht_C.mk hE.1 (by decide) (Nat.le_of_ble_eq_true rfl) [(0, .ref r), (1, .int y1)] rfl ?_
  intro p e s m below meth c ls h z X hin hpre I hl
  have hx := X.1
  have hb := X.2.1
  have hml := X.2.2.1
  have hown : s.vm.findClass "MarkupStoreModel" = some m.cls := X.2.2.2.1
  have hts := X.2.2.2.2.2.2.1
  have hK := X.2.2.2.2.2.2.2.2.1
  rw [hpre.1, hpre.2] at I
  clear hpre
  have b86 : ∀ (ls : Array Slot) (st : mT) (H : Heap) (locs : List Loc), g_tag_86 st = some q → lv_has ls 3 [(0, .ref r)] → hm_I D s0 s (mm_h dA h0 r M st) z0 H locs → W p l e { frames := 5, cells := 0, slots := 0, locals := 124 } s m ([.ref r, .int y1] : List Value).toArray below meth c H locs 0 0 (MQ below (ht_Q D s0 (fun vv h1 z1 => vv = none ∧ h1 = mm_h dA h0 r M q ∧ z1 = z0)) ([.ref r, .int y1] : List Value).toArray s 0 0 (fun q => s0.heap.size ≤ q)) (F0 m 86 ls []) := by
    intro ls st H locs hF hl I
    unfold g_tag_86 at hF
    refine lv_aload_n hx hb d65_86 rfl (lv_at hl 0 rfl) ?_
    refine lv_aload_n hx hb d65_87 rfl (lv_at hl 0 rfl) ?_
    refine va_get (D := D) (ci := 2) (v := .int (st.1 8)) (C := kR2) (T := kT2) (N := 60) hx hb hts ku2 hown hK (hm_one I.1 mm_hr) 0 rfl rfl 8 (by decide) (hts _ ms_k1324) (fun _ h => h) rfl d65_88 ?_
    refine lv_iconst (v := 1) hx hb d65_91 (by decide) ?_
    refine lv_iadd hx hb d65_92 ?_
    obtain ⟨q3, e9, hF⟩ := mm_bd hF
    refine ht_V (C := "MarkupStoreModel") (rest := []) (as := [.int ((st.1 8) + 1)]) X hl (cm_error l D dA s0 hE h0 r M hM z0 ((st.1 8) + 1) st q3 e9) (List.forall_mem_cons.mpr ⟨ms_k1520, List.forall_mem_cons.mpr ⟨ms_k1522, List.forall_mem_cons.mpr ⟨ms_p47, List.forall_mem_cons.mpr ⟨ms_k7, List.forall_mem_cons.mpr ⟨ms_k1523, fun _ h => absurd h List.not_mem_nil⟩⟩⟩⟩⟩) ⟨rfl, by decide +kernel, by decide +kernel, (by decide +kernel : (parseMethodDescriptor "(I)V").map (fun d => d.parameters.length) = some 1)⟩ (hm_recv hK I rfl mm_hr) I ⟨rfl, rfl⟩ ⟨⟨Nat.le_of_ble_eq_true rfl, Nat.le_of_ble_eq_true rfl⟩, Nat.le_of_ble_eq_true rfl, Nat.le_of_ble_eq_true rfl⟩ rfl (Nat.le_of_ble_eq_true rfl) d65_93 (fun vv h1 z1 H locs hR I9 => ?_)
    obtain ⟨e1, e2, e3⟩ := hR
    rw [e2, e3] at I9
    clear I e2 e3 e9
    have I := I9
    clear I9
    subst e1
    refine W.eq (g2 := F0 m 96 ls []) rfl ?_
    exact ht_vret X d65_96 I (Nat.le_of_ble_eq_true rfl) (Nat.le_of_ble_eq_true rfl) (mm_finV hF)
  have b69 : ∀ (ls : Array Slot) (x1 : Int32) (x2 : Int32) (st : mT) (H : Heap) (locs : List Loc), g_tag_69 x1 x2 st = some q → lv_has ls 3 [(0, .ref r), (1, .int x1), (2, .int x2)] → hm_I D s0 s (mm_h dA h0 r M st) z0 H locs → W p l e { frames := 5, cells := 0, slots := 0, locals := 124 } s m ([.ref r, .int y1] : List Value).toArray below meth c H locs 0 0 (MQ below (ht_Q D s0 (fun vv h1 z1 => vv = none ∧ h1 = mm_h dA h0 r M q ∧ z1 = z0)) ([.ref r, .int y1] : List Value).toArray s 0 0 (fun q => s0.heap.size ≤ q)) (F0 m 69 ls []) := by
    intro ls x1 x2 st H locs hF hl I
    unfold g_tag_69 at hF
    refine lv_iload_n hx hb d65_69 rfl (lv_at hl 2 rfl) ?_
    refine lv_bipush (v := 33) hx hb d65_70 (by decide) ?_
    refine lv_icmp_ne hx hb d65_72 rfl (fun h9 => ?_) (fun h9 => ?_)
    · have hF := (if_neg h9).symm.trans hF
      exact b86 ls st _ _ hF (hl.sub [0] rfl) I
    · have hF := (if_pos h9).symm.trans hF
      refine lv_iload_n hx hb d65_75 rfl (lv_at hl 1 rfl) ?_
      refine lv_if_ne hx hb d65_76 rfl (fun h9 => ?_) (fun h9 => ?_)
      · have hF := (if_neg h9).symm.trans hF
        exact b86 ls st _ _ hF (hl.sub [0] rfl) I
      · have hF := (if_pos h9).symm.trans hF
        refine lv_aload_n hx hb d65_79 rfl (lv_at hl 0 rfl) ?_
        obtain ⟨q4, e9, hF⟩ := mm_bd hF
        refine ht_V (C := "MarkupStoreModel") (rest := []) (as := []) X hl (cm_comment l D dA s0 hE h0 r M hM z0 st q4 e9) (List.forall_mem_cons.mpr ⟨ms_k1571, List.forall_mem_cons.mpr ⟨ms_k1573, List.forall_mem_cons.mpr ⟨ms_p59, List.forall_mem_cons.mpr ⟨ms_k7, List.forall_mem_cons.mpr ⟨ms_k1574, fun _ h => absurd h List.not_mem_nil⟩⟩⟩⟩⟩) ⟨rfl, by decide +kernel, by decide +kernel, (by decide +kernel : (parseMethodDescriptor "()V").map (fun d => d.parameters.length) = some 0)⟩ (hm_recv hK I rfl mm_hr) I ⟨rfl, rfl⟩ ⟨⟨Nat.le_of_ble_eq_true rfl, Nat.le_of_ble_eq_true rfl⟩, Nat.le_of_ble_eq_true rfl, Nat.le_of_ble_eq_true rfl⟩ rfl (Nat.le_of_ble_eq_true rfl) d65_80 (fun vv h1 z1 H locs hR I9 => ?_)
        obtain ⟨e1, e2, e3⟩ := hR
        rw [e2, e3] at I9
        clear I e2 e3 e9
        have I := I9
        clear I9
        subst e1
        refine W.eq (g2 := F0 m 83 ls []) rfl ?_
        refine lv_goto hx hb d65_83 rfl ?_
        exact ht_vret X d65_96 I (Nat.le_of_ble_eq_true rfl) (Nat.le_of_ble_eq_true rfl) (mm_finV hF)
  have hF := hg
  unfold g_tag at hF
  refine lv_aload_n hx hb d65_0 rfl (lv_at hl 0 rfl) ?_
  refine lv_aload_n hx hb d65_1 rfl (lv_at hl 0 rfl) ?_
  refine va_get (D := D) (ci := 2) (v := .int (st.1 8)) (C := kR2) (T := kT2) (N := 60) hx hb hts ku2 hown hK (hm_one I.1 mm_hr) 0 rfl rfl 8 (by decide) (hts _ ms_k1324) (fun _ h => h) rfl d65_2 ?_
  refine lv_iconst (v := 1) hx hb d65_5 (by decide) ?_
  refine lv_iadd hx hb d65_6 ?_
  obtain ⟨q1, e9, hF⟩ := mm_bd hF
  refine ht_V (C := "MarkupStoreModel") (rest := []) (as := [.int ((st.1 8) + 1)]) X hl (cm_look l D dA s0 hE h0 r M hM z0 ((st.1 8) + 1) st q1 e9) (List.forall_mem_cons.mpr ⟨ms_k1516, List.forall_mem_cons.mpr ⟨ms_k1518, List.forall_mem_cons.mpr ⟨ms_p46, List.forall_mem_cons.mpr ⟨ms_k7, List.forall_mem_cons.mpr ⟨ms_k1519, fun _ h => absurd h List.not_mem_nil⟩⟩⟩⟩⟩) ⟨rfl, by decide +kernel, by decide +kernel, (by decide +kernel : (parseMethodDescriptor "(I)C").map (fun d => d.parameters.length) = some 1)⟩ (hm_recv hK I rfl mm_hr) I ⟨rfl, rfl⟩ ⟨⟨Nat.le_of_ble_eq_true rfl, Nat.le_of_ble_eq_true rfl⟩, Nat.le_of_ble_eq_true rfl, Nat.le_of_ble_eq_true rfl⟩ rfl (Nat.le_of_ble_eq_true rfl) d65_7 (fun vv h1 z1 H locs hR I9 => ?_)
  obtain ⟨e1, e2, e3⟩ := hR
  rw [e2, e3] at I9
  clear I e2 e3 e9
  have I := I9
  clear I9
  subst e1
  refine W.eq (g2 := F0 m 10 ls [.int q1.1]) rfl ?_
  refine lv_istore_n hx hb d65_10 rfl hl (by decide) rfl (fun ls hl => ?_)
  have hl : lv_has ls 3 [(2, .int q1.1), (0, .ref r), (1, .int y1)] := hl
  refine lv_iload_n hx hb d65_11 rfl (lv_at hl 0 rfl) ?_
  obtain ⟨q2, e9, hF⟩ := mm_bd hF
  refine ht_S (rest := []) (as := [.int q1.1]) X hl (cm_small l D dA s0 hE h0 r M hM z0 q1.1 q1.2 q2 e9) (List.forall_mem_cons.mpr ⟨ms_k1528, List.forall_mem_cons.mpr ⟨ms_k1529, List.forall_mem_cons.mpr ⟨ms_k7, List.forall_mem_cons.mpr ⟨ms_k1530, fun _ h => absurd h List.not_mem_nil⟩⟩⟩⟩) ⟨by decide +kernel, by decide +kernel, (by decide +kernel : (parseMethodDescriptor "(C)Z").map (fun d => d.parameters.length) = some 1)⟩ I ⟨rfl, rfl⟩ ⟨⟨Nat.le_of_ble_eq_true rfl, Nat.le_of_ble_eq_true rfl⟩, Nat.le_of_ble_eq_true rfl, Nat.le_of_ble_eq_true rfl⟩ rfl (Nat.le_of_ble_eq_true rfl) d65_12 (fun vv h1 z1 H locs hR I9 => ?_)
  obtain ⟨e1, e2, e3⟩ := hR
  rw [e2, e3] at I9
  clear I e2 e3 e9
  have I := I9
  clear I9
  subst e1
  refine W.eq (g2 := F0 m 15 ls [.int q2.1]) rfl ?_
  refine lv_if_eq hx hb d65_15 rfl (fun h9 => ?_) (fun h9 => ?_)
  · have hF := (if_pos h9).symm.trans hF
    refine lv_iload_n hx hb d65_49 rfl (lv_at hl 0 rfl) ?_
    refine lv_bipush (v := 47) hx hb d65_50 (by decide) ?_
    refine lv_icmp_ne hx hb d65_52 rfl (fun h9 => ?_) (fun h9 => ?_)
    · have hF := (if_neg h9).symm.trans hF
      exact b69 ls y1 q1.1 q2.2 _ _ hF (hl.sub [1, 2, 0] rfl) I
    · have hF := (if_pos h9).symm.trans hF
      refine lv_aload_n hx hb d65_55 rfl (lv_at hl 1 rfl) ?_
      refine va_get (D := D) (ci := 2) (v := .int (q2.2.1 14)) (C := kR2) (T := kT2) (N := 60) hx hb hts ku2 hown hK (hm_one I.1 mm_hr) 0 rfl rfl 14 (by decide) (hts _ ms_k1330) (fun _ h => h) rfl d65_56 ?_
      refine lv_if_le hx hb d65_59 rfl (fun h9 => ?_) (fun h9 => ?_)
      · have hF := (if_pos h9).symm.trans hF
        exact b69 ls y1 q1.1 q2.2 _ _ hF (hl.sub [1, 2, 0] rfl) I
      · have hF := (if_neg h9).symm.trans hF
        refine lv_aload_n hx hb d65_62 rfl (lv_at hl 1 rfl) ?_
        obtain ⟨q5, e9, hF⟩ := mm_bd hF
        refine ht_V (C := "MarkupStoreModel") (rest := []) (as := []) X hl (cm_endTag l D dA s0 hE h0 r M hM z0 q2.2 q5 e9) (List.forall_mem_cons.mpr ⟨ms_k1567, List.forall_mem_cons.mpr ⟨ms_k1569, List.forall_mem_cons.mpr ⟨ms_p58, List.forall_mem_cons.mpr ⟨ms_k7, List.forall_mem_cons.mpr ⟨ms_k1570, fun _ h => absurd h List.not_mem_nil⟩⟩⟩⟩⟩) ⟨rfl, by decide +kernel, by decide +kernel, (by decide +kernel : (parseMethodDescriptor "()V").map (fun d => d.parameters.length) = some 0)⟩ (hm_recv hK I rfl mm_hr) I ⟨rfl, rfl⟩ ⟨⟨Nat.le_of_ble_eq_true rfl, Nat.le_of_ble_eq_true rfl⟩, Nat.le_of_ble_eq_true rfl, Nat.le_of_ble_eq_true rfl⟩ rfl (Nat.le_of_ble_eq_true rfl) d65_63 (fun vv h1 z1 H locs hR I9 => ?_)
        obtain ⟨e1, e2, e3⟩ := hR
        rw [e2, e3] at I9
        clear I e2 e3 e9
        have I := I9
        clear I9
        subst e1
        refine W.eq (g2 := F0 m 66 ls []) rfl ?_
        refine lv_goto hx hb d65_66 rfl ?_
        exact ht_vret X d65_96 I (Nat.le_of_ble_eq_true rfl) (Nat.le_of_ble_eq_true rfl) (mm_finV hF)
  · have hF := (if_neg h9).symm.trans hF
    refine lv_aload_n hx hb d65_18 rfl (lv_at hl 1 rfl) ?_
    refine va_get (D := D) (ci := 2) (v := .int (q2.2.1 13)) (C := kR2) (T := kT2) (N := 60) hx hb hts ku2 hown hK (hm_one I.1 mm_hr) 0 rfl rfl 13 (by decide) (hts _ ms_k1329) (fun _ h => h) rfl d65_19 ?_
    refine lv_aload_n hx hb d65_22 rfl (lv_at hl 1 rfl) ?_
    refine va_get (D := D) (ci := 2) (v := .int (q2.2.1 14)) (C := kR2) (T := kT2) (N := 60) hx hb hts ku2 hown hK (hm_one I.1 mm_hr) 0 rfl rfl 14 (by decide) (hts _ ms_k1330) (fun _ h => h) rfl d65_23 ?_
    refine lv_iadd hx hb d65_26 ?_
    refine lv_iconst (v := 5) hx hb d65_27 (by decide) ?_
    refine lv_icmp_le hx hb d65_28 rfl (fun h9 => ?_) (fun h9 => ?_)
    · have hF := (if_pos h9).symm.trans hF
      refine lv_aload_n hx hb d65_42 rfl (lv_at hl 1 rfl) ?_
      obtain ⟨q6, e9, hF⟩ := mm_bd hF
      refine ht_V (C := "MarkupStoreModel") (rest := []) (as := []) X hl (cm_startTag l D dA s0 hE h0 r M hM z0 q2.2 q6 e9) (List.forall_mem_cons.mpr ⟨ms_k1531, List.forall_mem_cons.mpr ⟨ms_k1533, List.forall_mem_cons.mpr ⟨ms_p49, List.forall_mem_cons.mpr ⟨ms_k7, List.forall_mem_cons.mpr ⟨ms_k1534, fun _ h => absurd h List.not_mem_nil⟩⟩⟩⟩⟩) ⟨rfl, by decide +kernel, by decide +kernel, (by decide +kernel : (parseMethodDescriptor "()V").map (fun d => d.parameters.length) = some 0)⟩ (hm_recv hK I rfl mm_hr) I ⟨rfl, rfl⟩ ⟨⟨Nat.le_of_ble_eq_true rfl, Nat.le_of_ble_eq_true rfl⟩, Nat.le_of_ble_eq_true rfl, Nat.le_of_ble_eq_true rfl⟩ rfl (Nat.le_of_ble_eq_true rfl) d65_43 (fun vv h1 z1 H locs hR I9 => ?_)
      obtain ⟨e1, e2, e3⟩ := hR
      rw [e2, e3] at I9
      clear I e2 e3 e9
      have I := I9
      clear I9
      subst e1
      refine W.eq (g2 := F0 m 46 ls []) rfl ?_
      refine lv_goto hx hb d65_46 rfl ?_
      exact ht_vret X d65_96 I (Nat.le_of_ble_eq_true rfl) (Nat.le_of_ble_eq_true rfl) (mm_finV hF)
    · have hF := (if_neg h9).symm.trans hF
      refine lv_aload_n hx hb d65_31 rfl (lv_at hl 1 rfl) ?_
      refine lv_aload_n hx hb d65_32 rfl (lv_at hl 1 rfl) ?_
      refine va_get (D := D) (ci := 2) (v := .int (q2.2.1 8)) (C := kR2) (T := kT2) (N := 60) hx hb hts ku2 hown hK (hm_one I.1 mm_hr) 0 rfl rfl 8 (by decide) (hts _ ms_k1324) (fun _ h => h) rfl d65_33 ?_
      obtain ⟨q7, e9, hF⟩ := mm_bd hF
      refine ht_V (C := "MarkupStoreModel") (rest := []) (as := [.int (q2.2.1 8)]) X hl (cm_error l D dA s0 hE h0 r M hM z0 (q2.2.1 8) q2.2 q7 e9) (List.forall_mem_cons.mpr ⟨ms_k1520, List.forall_mem_cons.mpr ⟨ms_k1522, List.forall_mem_cons.mpr ⟨ms_p47, List.forall_mem_cons.mpr ⟨ms_k7, List.forall_mem_cons.mpr ⟨ms_k1523, fun _ h => absurd h List.not_mem_nil⟩⟩⟩⟩⟩) ⟨rfl, by decide +kernel, by decide +kernel, (by decide +kernel : (parseMethodDescriptor "(I)V").map (fun d => d.parameters.length) = some 1)⟩ (hm_recv hK I rfl mm_hr) I ⟨rfl, rfl⟩ ⟨⟨Nat.le_of_ble_eq_true rfl, Nat.le_of_ble_eq_true rfl⟩, Nat.le_of_ble_eq_true rfl, Nat.le_of_ble_eq_true rfl⟩ rfl (Nat.le_of_ble_eq_true rfl) d65_36 (fun vv h1 z1 H locs hR I9 => ?_)
      obtain ⟨e1, e2, e3⟩ := hR
      rw [e2, e3] at I9
      clear I e2 e3 e9
      have I := I9
      clear I9
      subst e1
      refine W.eq (g2 := F0 m 39 ls []) rfl ?_
      refine lv_goto hx hb d65_39 rfl ?_
      exact ht_vret X d65_96 I (Nat.le_of_ble_eq_true rfl) (Nat.le_of_ble_eq_true rfl) (mm_finV hF)

def g_parse_260 (st : mT) : Option (mT) := ((g_error (st.1 7) st).bind (fun q8 => (some q8)))
def g_parse_246 (st : mT) : Option (mT) := (if 0 < (st.1 14) then (g_parse_260 st) else (if (st.1 10) = 0 then (g_parse_260 st) else (some st)))
def g_parse_243 (k35 : Int32 → mT → Option (mT)) (x1 : Int32) (st : mT) : Option (mT) := (k35 x1 st)
def g_parse_240 (k35 : Int32 → mT → Option (mT)) (x1 : Int32) (w0 : Int32) (st : mT) : Option (mT) := (mm_lt (mm_F st 8 w0) (fun st11 => (g_parse_243 k35 x1 st11)))
def g_parse_212 (k35 : Int32 → mT → Option (mT)) (x1 : Int32) (x3 : Int32) (w0 : Int32) (w1 : Int32) (w2 : Int32) (w3 : Int32) (st : mT) : Option (mT) := ((g_append w3 w2 w1 w0 st).bind (fun q10 => (if x3 = 38 then (g_parse_240 k35 x1 ((q10.1 8) + (q10.1 19)) q10) else (g_parse_240 k35 x1 ((q10.1 8) + 1) q10))))
def g_parse_189 (k35 : Int32 → mT → Option (mT)) (x1 : Int32) (x3 : Int32) (st : mT) : Option (mT) := (if x3 = 38 then (g_parse_212 k35 x1 x3 (((st.1 18).toUInt32 % 65536).toInt32) 8 3 (st.1 12) st) else (g_parse_212 k35 x1 x3 x3 8 3 (st.1 12) st))
def g_parse_176 (k35 : Int32 → mT → Option (mT)) (x1 : Int32) (x3 : Int32) (st : mT) : Option (mT) := (if 0 ≤ (st.1 12) then (g_parse_189 k35 x1 x3 st) else ((g_make 2 st).bind (fun q12 => (g_parse_189 k35 x1 x3 q12.2))))
def g_parse_165 (k35 : Int32 → mT → Option (mT)) (x1 : Int32) (st : mT) : Option (mT) := ((g_error (st.1 8) st).bind (fun q14 => (g_parse_243 k35 x1 q14)))
def g_parse_148 (k35 : Int32 → mT → Option (mT)) (x1 : Int32) (x3 : Int32) (st : mT) : Option (mT) := (if x3 = 38 then ((g_isEntity (st.1 8) st).bind (fun q13 => (if q13.1 = 0 then (g_parse_165 k35 x1 q13.2) else (g_parse_176 k35 x1 x3 q13.2)))) else (g_parse_176 k35 x1 x3 st))
def g_parse_133 (k35 : Int32 → mT → Option (mT)) (x1 : Int32) (w0 : Int32) (st : mT) : Option (mT) := ((g_tag w0 st).bind (fun q15 => (g_parse_243 k35 x1 q15)))
def g_parse_132 (k35 : Int32 → mT → Option (mT)) (x1 : Int32) (st : mT) : Option (mT) := (g_parse_133 k35 x1 0 st)
def g_parse_112 (k35 : Int32 → mT → Option (mT)) (x1 : Int32) (x3 : Int32) (x4 : Int32) (st : mT) : Option (mT) := (if x3 = 60 then (if x4 = 0 then (g_parse_132 k35 x1 st) else (if x1 = 0 then (g_parse_132 k35 x1 st) else (g_parse_133 k35 x1 1 st))) else (if x4 = 0 then (g_parse_148 k35 x1 x3 st) else (if x1 = 0 then (g_parse_148 k35 x1 x3 st) else (g_parse_165 k35 x1 st))))
def g_parse_101 (k35 : Int32 → mT → Option (mT)) (x1 : Int32) (st : mT) : Option (mT) := ((g_error (st.1 8) st).bind (fun q16 => (g_parse_243 k35 x1 q16)))
def g_parse_74 (k35 : Int32 → mT → Option (mT)) (x1 : Int32) (x3 : Int32) (w0 : Int32) (st : mT) : Option (mT) := (if w0 = 0 then (g_parse_112 k35 x1 x3 w0 st) else (if (st.1 10) ≤ 0 then (g_parse_112 k35 x1 x3 w0 st) else (if (st.1 12) < 0 then (g_parse_101 k35 x1 st) else (if x3 = 60 then (g_parse_101 k35 x1 st) else (g_parse_112 k35 x1 x3 w0 st)))))
def g_parse_35 : Nat → Int32 → mT → Option (mT)
  | 0, _, _ => none
  | n9 + 1, x1, st => (if 0 ≤ (st.1 9) then (g_parse_246 st) else (if (st.1 7) ≤ (st.1 8) then (g_parse_246 st) else ((g_look (st.1 8) st).bind (fun q9 => (if (q9.2.1 14) = 0 then (g_parse_74 (g_parse_35 n9) x1 q9.1 1 q9.2) else (g_parse_74 (g_parse_35 n9) x1 q9.1 0 q9.2))))))
def g_parse (y1 : Int32) (y2 : Int32) (st : mT) : Option (mT) := (mm_lt (mm_F st 8 0) (fun st1 => (mm_lt (mm_F st1 9 (-1)) (fun st2 => (mm_lt (mm_F st2 10 0) (fun st3 => (mm_lt (mm_F st3 11 0) (fun st4 => (mm_lt (mm_F st4 12 (-1)) (fun st5 => (mm_lt (mm_F st5 13 y2) (fun st6 => (mm_lt (mm_F st6 14 0) (fun st7 => (g_parse_35 mF y1 st7)))))))))))))))
set_option maxRecDepth 100000 in
set_option maxHeartbeats 8000000 in
theorem cm_parse (l : Launch) (D : va_G) (dA : Nat → ClassId) (s0 : State) (hE : ms_EV D dA s0) (h0 : hm_T) (r : Nat) (M : Nat → Nat) (hM : mm_ok r M) (z0 : hz_T) (y1 : Int32) (y2 : Int32) (st : mT) (q : mT) (hg : g_parse y1 y2 st = some q) : ht_C l D s0 yM66 bM66 5 (Option.none : Option Jvm.ClassFile.FieldType) 6 146 0 0 [.ref r, .int y1, .int y2] (fun h z => h = mm_h dA h0 r M st ∧ z = z0) (fun h z vv h1 z1 => vv = none ∧ h1 = mm_h dA h0 r M q ∧ z1 = z0) := by
  refine ht_C.mk hE.1 (by decide) (Nat.le_of_ble_eq_true rfl) [(0, .ref r), (1, .int y1), (2, .int y2)] rfl ?_
  intro p e s m below meth c ls h z X hin hpre I hl
  have hx := X.1
  have hb := X.2.1
  have hml := X.2.2.1
  have hown : s.vm.findClass "MarkupStoreModel" = some m.cls := X.2.2.2.1
  have hts := X.2.2.2.2.2.2.1
  have hK := X.2.2.2.2.2.2.2.2.1
  rw [hpre.1, hpre.2] at I
  clear hpre
  have b260 : ∀ (ls : Array Slot) (st : mT) (H : Heap) (locs : List Loc), g_parse_260 st = some q → lv_has ls 5 [(0, .ref r)] → hm_I D s0 s (mm_h dA h0 r M st) z0 H locs → W p l e { frames := 6, cells := 0, slots := 0, locals := 146 } s m ([.ref r, .int y1, .int y2] : List Value).toArray below meth c H locs 0 0 (MQ below (ht_Q D s0 (fun vv h1 z1 => vv = none ∧ h1 = mm_h dA h0 r M q ∧ z1 = z0)) ([.ref r, .int y1, .int y2] : List Value).toArray s 0 0 (fun q => s0.heap.size ≤ q)) (F0 m 260 ls []) := by
    intro ls st H locs hF hl I
    unfold g_parse_260 at hF
    refine lv_aload_n hx hb d66_260 rfl (lv_at hl 0 rfl) ?_
    refine lv_aload_n hx hb d66_261 rfl (lv_at hl 0 rfl) ?_
    refine va_get (D := D) (ci := 2) (v := .int (st.1 7)) (C := kR2) (T := kT2) (N := 60) hx hb hts ku2 hown hK (hm_one I.1 mm_hr) 0 rfl rfl 7 (by decide) (hts _ ms_k1323) (fun _ h => h) rfl d66_262 ?_
    obtain ⟨q8, e9, hF⟩ := mm_bd hF
    refine ht_V (C := "MarkupStoreModel") (rest := []) (as := [.int (st.1 7)]) X hl (cm_error l D dA s0 hE h0 r M hM z0 (st.1 7) st q8 e9) (List.forall_mem_cons.mpr ⟨ms_k1520, List.forall_mem_cons.mpr ⟨ms_k1522, List.forall_mem_cons.mpr ⟨ms_p47, List.forall_mem_cons.mpr ⟨ms_k7, List.forall_mem_cons.mpr ⟨ms_k1523, fun _ h => absurd h List.not_mem_nil⟩⟩⟩⟩⟩) ⟨rfl, by decide +kernel, by decide +kernel, (by decide +kernel : (parseMethodDescriptor "(I)V").map (fun d => d.parameters.length) = some 1)⟩ (hm_recv hK I rfl mm_hr) I ⟨rfl, rfl⟩ ⟨⟨Nat.le_of_ble_eq_true rfl, Nat.le_of_ble_eq_true rfl⟩, Nat.le_of_ble_eq_true rfl, Nat.le_of_ble_eq_true rfl⟩ rfl (Nat.le_of_ble_eq_true rfl) d66_265 (fun vv h1 z1 H locs hR I9 => ?_)
    obtain ⟨e1, e2, e3⟩ := hR
    rw [e2, e3] at I9
    clear I e2 e3 e9
    have I := I9
    clear I9
    subst e1
    refine W.eq (g2 := F0 m 268 ls []) rfl ?_
    exact ht_vret X d66_268 I (Nat.le_of_ble_eq_true rfl) (Nat.le_of_ble_eq_true rfl) (mm_finV hF)
  have b246 : ∀ (ls : Array Slot) (st : mT) (H : Heap) (locs : List Loc), g_parse_246 st = some q → lv_has ls 5 [(0, .ref r)] → hm_I D s0 s (mm_h dA h0 r M st) z0 H locs → W p l e { frames := 6, cells := 0, slots := 0, locals := 146 } s m ([.ref r, .int y1, .int y2] : List Value).toArray below meth c H locs 0 0 (MQ below (ht_Q D s0 (fun vv h1 z1 => vv = none ∧ h1 = mm_h dA h0 r M q ∧ z1 = z0)) ([.ref r, .int y1, .int y2] : List Value).toArray s 0 0 (fun q => s0.heap.size ≤ q)) (F0 m 246 ls []) := by
    intro ls st H locs hF hl I
    unfold g_parse_246 at hF
    refine lv_aload_n hx hb d66_246 rfl (lv_at hl 0 rfl) ?_
    refine va_get (D := D) (ci := 2) (v := .int (st.1 14)) (C := kR2) (T := kT2) (N := 60) hx hb hts ku2 hown hK (hm_one I.1 mm_hr) 0 rfl rfl 14 (by decide) (hts _ ms_k1330) (fun _ h => h) rfl d66_247 ?_
    refine lv_if_gt hx hb d66_250 rfl (fun h9 => ?_) (fun h9 => ?_)
    · have hF := (if_pos h9).symm.trans hF
      exact b260 ls st _ _ hF (hl.sub [0] rfl) I
    · have hF := (if_neg h9).symm.trans hF
      refine lv_aload_n hx hb d66_253 rfl (lv_at hl 0 rfl) ?_
      refine va_get (D := D) (ci := 2) (v := .int (st.1 10)) (C := kR2) (T := kT2) (N := 60) hx hb hts ku2 hown hK (hm_one I.1 mm_hr) 0 rfl rfl 10 (by decide) (hts _ ms_k1326) (fun _ h => h) rfl d66_254 ?_
      refine lv_if_ne hx hb d66_257 rfl (fun h9 => ?_) (fun h9 => ?_)
      · have hF := (if_neg h9).symm.trans hF
        exact ht_vret X d66_268 I (Nat.le_of_ble_eq_true rfl) (Nat.le_of_ble_eq_true rfl) (mm_finV hF)
      · have hF := (if_pos h9).symm.trans hF
        exact b260 ls st _ _ hF (hl.sub [0] rfl) I
  have b243 : ∀ (k35 : Int32 → mT → Option (mT)), (∀ (ls : Array Slot) (x1 : Int32) (st : mT) (H : Heap) (locs : List Loc), k35 x1 st = some q → lv_has ls 5 [(0, .ref r), (1, .int x1)] → hm_I D s0 s (mm_h dA h0 r M st) z0 H locs → W p l e { frames := 6, cells := 0, slots := 0, locals := 146 } s m ([.ref r, .int y1, .int y2] : List Value).toArray below meth c H locs 0 0 (MQ below (ht_Q D s0 (fun vv h1 z1 => vv = none ∧ h1 = mm_h dA h0 r M q ∧ z1 = z0)) ([.ref r, .int y1, .int y2] : List Value).toArray s 0 0 (fun q => s0.heap.size ≤ q)) (F0 m 35 ls [])) → ∀ (ls : Array Slot) (x1 : Int32) (st : mT) (H : Heap) (locs : List Loc), g_parse_243 k35 x1 st = some q → lv_has ls 5 [(0, .ref r), (1, .int x1)] → hm_I D s0 s (mm_h dA h0 r M st) z0 H locs → W p l e { frames := 6, cells := 0, slots := 0, locals := 146 } s m ([.ref r, .int y1, .int y2] : List Value).toArray below meth c H locs 0 0 (MQ below (ht_Q D s0 (fun vv h1 z1 => vv = none ∧ h1 = mm_h dA h0 r M q ∧ z1 = z0)) ([.ref r, .int y1, .int y2] : List Value).toArray s 0 0 (fun q => s0.heap.size ≤ q)) (F0 m 243 ls []) := by
    intro k35 hk35 ls x1 st H locs hF hl I
    unfold g_parse_243 at hF
    refine lv_goto hx hb d66_243 rfl ?_
    exact hk35 ls x1 st _ _ hF (hl.sub [0, 1] rfl) I
  have b240 : ∀ (k35 : Int32 → mT → Option (mT)), (∀ (ls : Array Slot) (x1 : Int32) (st : mT) (H : Heap) (locs : List Loc), k35 x1 st = some q → lv_has ls 5 [(0, .ref r), (1, .int x1)] → hm_I D s0 s (mm_h dA h0 r M st) z0 H locs → W p l e { frames := 6, cells := 0, slots := 0, locals := 146 } s m ([.ref r, .int y1, .int y2] : List Value).toArray below meth c H locs 0 0 (MQ below (ht_Q D s0 (fun vv h1 z1 => vv = none ∧ h1 = mm_h dA h0 r M q ∧ z1 = z0)) ([.ref r, .int y1, .int y2] : List Value).toArray s 0 0 (fun q => s0.heap.size ≤ q)) (F0 m 35 ls [])) → ∀ (ls : Array Slot) (x1 : Int32) (w0 : Int32) (st : mT) (H : Heap) (locs : List Loc), g_parse_240 k35 x1 w0 st = some q → lv_has ls 5 [(0, .ref r), (1, .int x1)] → hm_I D s0 s (mm_h dA h0 r M st) z0 H locs → W p l e { frames := 6, cells := 0, slots := 0, locals := 146 } s m ([.ref r, .int y1, .int y2] : List Value).toArray below meth c H locs 0 0 (MQ below (ht_Q D s0 (fun vv h1 z1 => vv = none ∧ h1 = mm_h dA h0 r M q ∧ z1 = z0)) ([.ref r, .int y1, .int y2] : List Value).toArray s 0 0 (fun q => s0.heap.size ≤ q)) (F0 m 240 ls [.int w0, .ref r]) := by
    intro k35 hk35 ls x1 w0 st H locs hF hl I
    unfold g_parse_240 at hF
    obtain ⟨st11, e9, hF⟩ := mm_lt_some hF
    refine mm_put (k := 8) (ty := .int) X I (by decide) ms_k1324 rfl rfl (by decide +kernel) ⟨rfl, rfl⟩ rfl e9 d66_240 (fun H locs I => ?_)
    clear e9
    exact b243 k35 hk35 ls x1 st11 _ _ hF (hl.sub [0, 1] rfl) I
  have b212 : ∀ (k35 : Int32 → mT → Option (mT)), (∀ (ls : Array Slot) (x1 : Int32) (st : mT) (H : Heap) (locs : List Loc), k35 x1 st = some q → lv_has ls 5 [(0, .ref r), (1, .int x1)] → hm_I D s0 s (mm_h dA h0 r M st) z0 H locs → W p l e { frames := 6, cells := 0, slots := 0, locals := 146 } s m ([.ref r, .int y1, .int y2] : List Value).toArray below meth c H locs 0 0 (MQ below (ht_Q D s0 (fun vv h1 z1 => vv = none ∧ h1 = mm_h dA h0 r M q ∧ z1 = z0)) ([.ref r, .int y1, .int y2] : List Value).toArray s 0 0 (fun q => s0.heap.size ≤ q)) (F0 m 35 ls [])) → ∀ (ls : Array Slot) (x1 : Int32) (x3 : Int32) (w0 : Int32) (w1 : Int32) (w2 : Int32) (w3 : Int32) (st : mT) (H : Heap) (locs : List Loc), g_parse_212 k35 x1 x3 w0 w1 w2 w3 st = some q → lv_has ls 5 [(0, .ref r), (1, .int x1), (3, .int x3)] → hm_I D s0 s (mm_h dA h0 r M st) z0 H locs → W p l e { frames := 6, cells := 0, slots := 0, locals := 146 } s m ([.ref r, .int y1, .int y2] : List Value).toArray below meth c H locs 0 0 (MQ below (ht_Q D s0 (fun vv h1 z1 => vv = none ∧ h1 = mm_h dA h0 r M q ∧ z1 = z0)) ([.ref r, .int y1, .int y2] : List Value).toArray s 0 0 (fun q => s0.heap.size ≤ q)) (F0 m 212 ls [.int w0, .int w1, .int w2, .int w3, .ref r]) := by
    intro k35 hk35 ls x1 x3 w0 w1 w2 w3 st H locs hF hl I
    unfold g_parse_212 at hF
    obtain ⟨q10, e9, hF⟩ := mm_bd hF
    refine ht_V (C := "MarkupStoreModel") (rest := []) (as := [.int w3, .int w2, .int w1, .int w0]) X hl (cm_append l D dA s0 hE h0 r M hM z0 w3 w2 w1 w0 st q10 e9) (List.forall_mem_cons.mpr ⟨ms_k1563, List.forall_mem_cons.mpr ⟨ms_k1565, List.forall_mem_cons.mpr ⟨ms_p57, List.forall_mem_cons.mpr ⟨ms_k7, List.forall_mem_cons.mpr ⟨ms_k1566, fun _ h => absurd h List.not_mem_nil⟩⟩⟩⟩⟩) ⟨rfl, by decide +kernel, by decide +kernel, (by decide +kernel : (parseMethodDescriptor "(IIIC)V").map (fun d => d.parameters.length) = some 4)⟩ (hm_recv hK I rfl mm_hr) I ⟨rfl, rfl⟩ ⟨⟨Nat.le_of_ble_eq_true rfl, Nat.le_of_ble_eq_true rfl⟩, Nat.le_of_ble_eq_true rfl, Nat.le_of_ble_eq_true rfl⟩ rfl (Nat.le_of_ble_eq_true rfl) d66_212 (fun vv h1 z1 H locs hR I9 => ?_)
    obtain ⟨e1, e2, e3⟩ := hR
    rw [e2, e3] at I9
    clear I e2 e3 e9
    have I := I9
    clear I9
    subst e1
    refine W.eq (g2 := F0 m 215 ls []) rfl ?_
    refine lv_aload_n hx hb d66_215 rfl (lv_at hl 0 rfl) ?_
    refine lv_iload_n hx hb d66_216 rfl (lv_at hl 2 rfl) ?_
    refine lv_bipush (v := 38) hx hb d66_217 (by decide) ?_
    refine lv_icmp_ne hx hb d66_219 rfl (fun h9 => ?_) (fun h9 => ?_)
    · have hF := (if_neg h9).symm.trans hF
      refine lv_aload_n hx hb d66_234 rfl (lv_at hl 0 rfl) ?_
      refine va_get (D := D) (ci := 2) (v := .int (q10.1 8)) (C := kR2) (T := kT2) (N := 60) hx hb hts ku2 hown hK (hm_one I.1 mm_hr) 0 rfl rfl 8 (by decide) (hts _ ms_k1324) (fun _ h => h) rfl d66_235 ?_
      refine lv_iconst (v := 1) hx hb d66_238 (by decide) ?_
      refine lv_iadd hx hb d66_239 ?_
      exact b240 k35 hk35 ls x1 ((q10.1 8) + 1) q10 _ _ hF (hl.sub [0, 1] rfl) I
    · have hF := (if_pos h9).symm.trans hF
      refine lv_aload_n hx hb d66_222 rfl (lv_at hl 0 rfl) ?_
      refine va_get (D := D) (ci := 2) (v := .int (q10.1 8)) (C := kR2) (T := kT2) (N := 60) hx hb hts ku2 hown hK (hm_one I.1 mm_hr) 0 rfl rfl 8 (by decide) (hts _ ms_k1324) (fun _ h => h) rfl d66_223 ?_
      refine lv_aload_n hx hb d66_226 rfl (lv_at hl 0 rfl) ?_
      refine va_get (D := D) (ci := 2) (v := .int (q10.1 19)) (C := kR2) (T := kT2) (N := 60) hx hb hts ku2 hown hK (hm_one I.1 mm_hr) 0 rfl rfl 19 (by decide) (hts _ ms_k1335) (fun _ h => h) rfl d66_227 ?_
      refine lv_iadd hx hb d66_230 ?_
      refine lv_goto hx hb d66_231 rfl ?_
      exact b240 k35 hk35 ls x1 ((q10.1 8) + (q10.1 19)) q10 _ _ hF (hl.sub [0, 1] rfl) I
  have b189 : ∀ (k35 : Int32 → mT → Option (mT)), (∀ (ls : Array Slot) (x1 : Int32) (st : mT) (H : Heap) (locs : List Loc), k35 x1 st = some q → lv_has ls 5 [(0, .ref r), (1, .int x1)] → hm_I D s0 s (mm_h dA h0 r M st) z0 H locs → W p l e { frames := 6, cells := 0, slots := 0, locals := 146 } s m ([.ref r, .int y1, .int y2] : List Value).toArray below meth c H locs 0 0 (MQ below (ht_Q D s0 (fun vv h1 z1 => vv = none ∧ h1 = mm_h dA h0 r M q ∧ z1 = z0)) ([.ref r, .int y1, .int y2] : List Value).toArray s 0 0 (fun q => s0.heap.size ≤ q)) (F0 m 35 ls [])) → ∀ (ls : Array Slot) (x1 : Int32) (x3 : Int32) (st : mT) (H : Heap) (locs : List Loc), g_parse_189 k35 x1 x3 st = some q → lv_has ls 5 [(0, .ref r), (1, .int x1), (3, .int x3)] → hm_I D s0 s (mm_h dA h0 r M st) z0 H locs → W p l e { frames := 6, cells := 0, slots := 0, locals := 146 } s m ([.ref r, .int y1, .int y2] : List Value).toArray below meth c H locs 0 0 (MQ below (ht_Q D s0 (fun vv h1 z1 => vv = none ∧ h1 = mm_h dA h0 r M q ∧ z1 = z0)) ([.ref r, .int y1, .int y2] : List Value).toArray s 0 0 (fun q => s0.heap.size ≤ q)) (F0 m 189 ls []) := by
    intro k35 hk35 ls x1 x3 st H locs hF hl I
    unfold g_parse_189 at hF
    refine lv_aload_n hx hb d66_189 rfl (lv_at hl 0 rfl) ?_
    refine lv_aload_n hx hb d66_190 rfl (lv_at hl 0 rfl) ?_
    refine va_get (D := D) (ci := 2) (v := .int (st.1 12)) (C := kR2) (T := kT2) (N := 60) hx hb hts ku2 hown hK (hm_one I.1 mm_hr) 0 rfl rfl 12 (by decide) (hts _ ms_k1328) (fun _ h => h) rfl d66_191 ?_
    refine lv_iconst (v := 3) hx hb d66_194 (by decide) ?_
    refine lv_bipush (v := 8) hx hb d66_195 (by decide) ?_
    refine lv_iload_n hx hb d66_197 rfl (lv_at hl 2 rfl) ?_
    refine lv_bipush (v := 38) hx hb d66_198 (by decide) ?_
    refine lv_icmp_ne hx hb d66_200 rfl (fun h9 => ?_) (fun h9 => ?_)
    · have hF := (if_neg h9).symm.trans hF
      refine lv_iload_n hx hb d66_211 rfl (lv_at hl 2 rfl) ?_
      exact b212 k35 hk35 ls x1 x3 x3 8 3 (st.1 12) st _ _ hF (hl.sub [0, 1, 2] rfl) I
    · have hF := (if_pos h9).symm.trans hF
      refine lv_aload_n hx hb d66_203 rfl (lv_at hl 0 rfl) ?_
      refine va_get (D := D) (ci := 2) (v := .int (st.1 18)) (C := kR2) (T := kT2) (N := 60) hx hb hts ku2 hown hK (hm_one I.1 mm_hr) 0 rfl rfl 18 (by decide) (hts _ ms_k1334) (fun _ h => h) rfl d66_204 ?_
      refine lv_i2c (v := ((st.1 18).toUInt32 % 65536).toInt32) hx hb d66_207 (rfl) ?_
      refine lv_goto hx hb d66_208 rfl ?_
      exact b212 k35 hk35 ls x1 x3 (((st.1 18).toUInt32 % 65536).toInt32) 8 3 (st.1 12) st _ _ hF (hl.sub [0, 1, 2] rfl) I
  have b176 : ∀ (k35 : Int32 → mT → Option (mT)), (∀ (ls : Array Slot) (x1 : Int32) (st : mT) (H : Heap) (locs : List Loc), k35 x1 st = some q → lv_has ls 5 [(0, .ref r), (1, .int x1)] → hm_I D s0 s (mm_h dA h0 r M st) z0 H locs → W p l e { frames := 6, cells := 0, slots := 0, locals := 146 } s m ([.ref r, .int y1, .int y2] : List Value).toArray below meth c H locs 0 0 (MQ below (ht_Q D s0 (fun vv h1 z1 => vv = none ∧ h1 = mm_h dA h0 r M q ∧ z1 = z0)) ([.ref r, .int y1, .int y2] : List Value).toArray s 0 0 (fun q => s0.heap.size ≤ q)) (F0 m 35 ls [])) → ∀ (ls : Array Slot) (x1 : Int32) (x3 : Int32) (st : mT) (H : Heap) (locs : List Loc), g_parse_176 k35 x1 x3 st = some q → lv_has ls 5 [(0, .ref r), (1, .int x1), (3, .int x3)] → hm_I D s0 s (mm_h dA h0 r M st) z0 H locs → W p l e { frames := 6, cells := 0, slots := 0, locals := 146 } s m ([.ref r, .int y1, .int y2] : List Value).toArray below meth c H locs 0 0 (MQ below (ht_Q D s0 (fun vv h1 z1 => vv = none ∧ h1 = mm_h dA h0 r M q ∧ z1 = z0)) ([.ref r, .int y1, .int y2] : List Value).toArray s 0 0 (fun q => s0.heap.size ≤ q)) (F0 m 176 ls []) := by
    intro k35 hk35 ls x1 x3 st H locs hF hl I
    unfold g_parse_176 at hF
    refine lv_aload_n hx hb d66_176 rfl (lv_at hl 0 rfl) ?_
    refine va_get (D := D) (ci := 2) (v := .int (st.1 12)) (C := kR2) (T := kT2) (N := 60) hx hb hts ku2 hown hK (hm_one I.1 mm_hr) 0 rfl rfl 12 (by decide) (hts _ ms_k1328) (fun _ h => h) rfl d66_177 ?_
    refine lv_if_ge hx hb d66_180 rfl (fun h9 => ?_) (fun h9 => ?_)
    · have hF := (if_pos h9).symm.trans hF
      exact b189 k35 hk35 ls x1 x3 st _ _ hF (hl.sub [0, 1, 2] rfl) I
    · have hF := (if_neg h9).symm.trans hF
      refine lv_aload_n hx hb d66_183 rfl (lv_at hl 0 rfl) ?_
      refine lv_iconst (v := 2) hx hb d66_184 (by decide) ?_
      obtain ⟨q12, e9, hF⟩ := mm_bd hF
      refine ht_V (C := "MarkupStoreModel") (rest := []) (as := [.int 2]) X hl (cm_make l D dA s0 hE h0 r M hM z0 2 st q12 e9) (List.forall_mem_cons.mpr ⟨ms_k1535, List.forall_mem_cons.mpr ⟨ms_k1537, List.forall_mem_cons.mpr ⟨ms_p50, List.forall_mem_cons.mpr ⟨ms_k7, List.forall_mem_cons.mpr ⟨ms_k1538, fun _ h => absurd h List.not_mem_nil⟩⟩⟩⟩⟩) ⟨rfl, by decide +kernel, by decide +kernel, (by decide +kernel : (parseMethodDescriptor "(I)I").map (fun d => d.parameters.length) = some 1)⟩ (hm_recv hK I rfl mm_hr) I ⟨rfl, rfl⟩ ⟨⟨Nat.le_of_ble_eq_true rfl, Nat.le_of_ble_eq_true rfl⟩, Nat.le_of_ble_eq_true rfl, Nat.le_of_ble_eq_true rfl⟩ rfl (Nat.le_of_ble_eq_true rfl) d66_185 (fun vv h1 z1 H locs hR I9 => ?_)
      obtain ⟨e1, e2, e3⟩ := hR
      rw [e2, e3] at I9
      clear I e2 e3 e9
      have I := I9
      clear I9
      subst e1
      refine W.eq (g2 := F0 m 188 ls [.int q12.1]) rfl ?_
      refine lv_pop hx hb d66_188 rfl ?_
      exact b189 k35 hk35 ls x1 x3 q12.2 _ _ hF (hl.sub [0, 1, 2] rfl) I
  have b165 : ∀ (k35 : Int32 → mT → Option (mT)), (∀ (ls : Array Slot) (x1 : Int32) (st : mT) (H : Heap) (locs : List Loc), k35 x1 st = some q → lv_has ls 5 [(0, .ref r), (1, .int x1)] → hm_I D s0 s (mm_h dA h0 r M st) z0 H locs → W p l e { frames := 6, cells := 0, slots := 0, locals := 146 } s m ([.ref r, .int y1, .int y2] : List Value).toArray below meth c H locs 0 0 (MQ below (ht_Q D s0 (fun vv h1 z1 => vv = none ∧ h1 = mm_h dA h0 r M q ∧ z1 = z0)) ([.ref r, .int y1, .int y2] : List Value).toArray s 0 0 (fun q => s0.heap.size ≤ q)) (F0 m 35 ls [])) → ∀ (ls : Array Slot) (x1 : Int32) (st : mT) (H : Heap) (locs : List Loc), g_parse_165 k35 x1 st = some q → lv_has ls 5 [(0, .ref r), (1, .int x1)] → hm_I D s0 s (mm_h dA h0 r M st) z0 H locs → W p l e { frames := 6, cells := 0, slots := 0, locals := 146 } s m ([.ref r, .int y1, .int y2] : List Value).toArray below meth c H locs 0 0 (MQ below (ht_Q D s0 (fun vv h1 z1 => vv = none ∧ h1 = mm_h dA h0 r M q ∧ z1 = z0)) ([.ref r, .int y1, .int y2] : List Value).toArray s 0 0 (fun q => s0.heap.size ≤ q)) (F0 m 165 ls []) := by
    intro k35 hk35 ls x1 st H locs hF hl I
    unfold g_parse_165 at hF
    refine lv_aload_n hx hb d66_165 rfl (lv_at hl 0 rfl) ?_
    refine lv_aload_n hx hb d66_166 rfl (lv_at hl 0 rfl) ?_
    refine va_get (D := D) (ci := 2) (v := .int (st.1 8)) (C := kR2) (T := kT2) (N := 60) hx hb hts ku2 hown hK (hm_one I.1 mm_hr) 0 rfl rfl 8 (by decide) (hts _ ms_k1324) (fun _ h => h) rfl d66_167 ?_
    obtain ⟨q14, e9, hF⟩ := mm_bd hF
    refine ht_V (C := "MarkupStoreModel") (rest := []) (as := [.int (st.1 8)]) X hl (cm_error l D dA s0 hE h0 r M hM z0 (st.1 8) st q14 e9) (List.forall_mem_cons.mpr ⟨ms_k1520, List.forall_mem_cons.mpr ⟨ms_k1522, List.forall_mem_cons.mpr ⟨ms_p47, List.forall_mem_cons.mpr ⟨ms_k7, List.forall_mem_cons.mpr ⟨ms_k1523, fun _ h => absurd h List.not_mem_nil⟩⟩⟩⟩⟩) ⟨rfl, by decide +kernel, by decide +kernel, (by decide +kernel : (parseMethodDescriptor "(I)V").map (fun d => d.parameters.length) = some 1)⟩ (hm_recv hK I rfl mm_hr) I ⟨rfl, rfl⟩ ⟨⟨Nat.le_of_ble_eq_true rfl, Nat.le_of_ble_eq_true rfl⟩, Nat.le_of_ble_eq_true rfl, Nat.le_of_ble_eq_true rfl⟩ rfl (Nat.le_of_ble_eq_true rfl) d66_170 (fun vv h1 z1 H locs hR I9 => ?_)
    obtain ⟨e1, e2, e3⟩ := hR
    rw [e2, e3] at I9
    clear I e2 e3 e9
    have I := I9
    clear I9
    subst e1
    refine W.eq (g2 := F0 m 173 ls []) rfl ?_
    refine lv_goto hx hb d66_173 rfl ?_
    exact b243 k35 hk35 ls x1 q14 _ _ hF (hl.sub [0, 1] rfl) I
  have b148 : ∀ (k35 : Int32 → mT → Option (mT)), (∀ (ls : Array Slot) (x1 : Int32) (st : mT) (H : Heap) (locs : List Loc), k35 x1 st = some q → lv_has ls 5 [(0, .ref r), (1, .int x1)] → hm_I D s0 s (mm_h dA h0 r M st) z0 H locs → W p l e { frames := 6, cells := 0, slots := 0, locals := 146 } s m ([.ref r, .int y1, .int y2] : List Value).toArray below meth c H locs 0 0 (MQ below (ht_Q D s0 (fun vv h1 z1 => vv = none ∧ h1 = mm_h dA h0 r M q ∧ z1 = z0)) ([.ref r, .int y1, .int y2] : List Value).toArray s 0 0 (fun q => s0.heap.size ≤ q)) (F0 m 35 ls [])) → ∀ (ls : Array Slot) (x1 : Int32) (x3 : Int32) (st : mT) (H : Heap) (locs : List Loc), g_parse_148 k35 x1 x3 st = some q → lv_has ls 5 [(0, .ref r), (1, .int x1), (3, .int x3)] → hm_I D s0 s (mm_h dA h0 r M st) z0 H locs → W p l e { frames := 6, cells := 0, slots := 0, locals := 146 } s m ([.ref r, .int y1, .int y2] : List Value).toArray below meth c H locs 0 0 (MQ below (ht_Q D s0 (fun vv h1 z1 => vv = none ∧ h1 = mm_h dA h0 r M q ∧ z1 = z0)) ([.ref r, .int y1, .int y2] : List Value).toArray s 0 0 (fun q => s0.heap.size ≤ q)) (F0 m 148 ls []) := by
    intro k35 hk35 ls x1 x3 st H locs hF hl I
    unfold g_parse_148 at hF
    refine lv_iload_n hx hb d66_148 rfl (lv_at hl 2 rfl) ?_
    refine lv_bipush (v := 38) hx hb d66_149 (by decide) ?_
    refine lv_icmp_ne hx hb d66_151 rfl (fun h9 => ?_) (fun h9 => ?_)
    · have hF := (if_neg h9).symm.trans hF
      exact b176 k35 hk35 ls x1 x3 st _ _ hF (hl.sub [0, 1, 2] rfl) I
    · have hF := (if_pos h9).symm.trans hF
      refine lv_aload_n hx hb d66_154 rfl (lv_at hl 0 rfl) ?_
      refine lv_aload_n hx hb d66_155 rfl (lv_at hl 0 rfl) ?_
      refine va_get (D := D) (ci := 2) (v := .int (st.1 8)) (C := kR2) (T := kT2) (N := 60) hx hb hts ku2 hown hK (hm_one I.1 mm_hr) 0 rfl rfl 8 (by decide) (hts _ ms_k1324) (fun _ h => h) rfl d66_156 ?_
      obtain ⟨q13, e9, hF⟩ := mm_bd hF
      refine ht_V (C := "MarkupStoreModel") (rest := []) (as := [.int (st.1 8)]) X hl (cm_isEntity l D dA s0 hE h0 r M hM z0 (st.1 8) st q13 e9) (List.forall_mem_cons.mpr ⟨ms_k1555, List.forall_mem_cons.mpr ⟨ms_k1557, List.forall_mem_cons.mpr ⟨ms_p55, List.forall_mem_cons.mpr ⟨ms_k7, List.forall_mem_cons.mpr ⟨ms_k1558, fun _ h => absurd h List.not_mem_nil⟩⟩⟩⟩⟩) ⟨rfl, by decide +kernel, by decide +kernel, (by decide +kernel : (parseMethodDescriptor "(I)Z").map (fun d => d.parameters.length) = some 1)⟩ (hm_recv hK I rfl mm_hr) I ⟨rfl, rfl⟩ ⟨⟨Nat.le_of_ble_eq_true rfl, Nat.le_of_ble_eq_true rfl⟩, Nat.le_of_ble_eq_true rfl, Nat.le_of_ble_eq_true rfl⟩ rfl (Nat.le_of_ble_eq_true rfl) d66_159 (fun vv h1 z1 H locs hR I9 => ?_)
      obtain ⟨e1, e2, e3⟩ := hR
      rw [e2, e3] at I9
      clear I e2 e3 e9
      have I := I9
      clear I9
      subst e1
      refine W.eq (g2 := F0 m 162 ls [.int q13.1]) rfl ?_
      refine lv_if_ne hx hb d66_162 rfl (fun h9 => ?_) (fun h9 => ?_)
      · have hF := (if_neg h9).symm.trans hF
        exact b176 k35 hk35 ls x1 x3 q13.2 _ _ hF (hl.sub [0, 1, 2] rfl) I
      · have hF := (if_pos h9).symm.trans hF
        exact b165 k35 hk35 ls x1 q13.2 _ _ hF (hl.sub [0, 1] rfl) I
  have b133 : ∀ (k35 : Int32 → mT → Option (mT)), (∀ (ls : Array Slot) (x1 : Int32) (st : mT) (H : Heap) (locs : List Loc), k35 x1 st = some q → lv_has ls 5 [(0, .ref r), (1, .int x1)] → hm_I D s0 s (mm_h dA h0 r M st) z0 H locs → W p l e { frames := 6, cells := 0, slots := 0, locals := 146 } s m ([.ref r, .int y1, .int y2] : List Value).toArray below meth c H locs 0 0 (MQ below (ht_Q D s0 (fun vv h1 z1 => vv = none ∧ h1 = mm_h dA h0 r M q ∧ z1 = z0)) ([.ref r, .int y1, .int y2] : List Value).toArray s 0 0 (fun q => s0.heap.size ≤ q)) (F0 m 35 ls [])) → ∀ (ls : Array Slot) (x1 : Int32) (w0 : Int32) (st : mT) (H : Heap) (locs : List Loc), g_parse_133 k35 x1 w0 st = some q → lv_has ls 5 [(0, .ref r), (1, .int x1)] → hm_I D s0 s (mm_h dA h0 r M st) z0 H locs → W p l e { frames := 6, cells := 0, slots := 0, locals := 146 } s m ([.ref r, .int y1, .int y2] : List Value).toArray below meth c H locs 0 0 (MQ below (ht_Q D s0 (fun vv h1 z1 => vv = none ∧ h1 = mm_h dA h0 r M q ∧ z1 = z0)) ([.ref r, .int y1, .int y2] : List Value).toArray s 0 0 (fun q => s0.heap.size ≤ q)) (F0 m 133 ls [.int w0, .ref r]) := by
    intro k35 hk35 ls x1 w0 st H locs hF hl I
    unfold g_parse_133 at hF
    obtain ⟨q15, e9, hF⟩ := mm_bd hF
    refine ht_V (C := "MarkupStoreModel") (rest := []) (as := [.int w0]) X hl (cm_tag l D dA s0 hE h0 r M hM z0 w0 st q15 e9) (List.forall_mem_cons.mpr ⟨ms_k1524, List.forall_mem_cons.mpr ⟨ms_k1526, List.forall_mem_cons.mpr ⟨ms_p48, List.forall_mem_cons.mpr ⟨ms_k7, List.forall_mem_cons.mpr ⟨ms_k1527, fun _ h => absurd h List.not_mem_nil⟩⟩⟩⟩⟩) ⟨rfl, by decide +kernel, by decide +kernel, (by decide +kernel : (parseMethodDescriptor "(Z)V").map (fun d => d.parameters.length) = some 1)⟩ (hm_recv hK I rfl mm_hr) I ⟨rfl, rfl⟩ ⟨⟨Nat.le_of_ble_eq_true rfl, Nat.le_of_ble_eq_true rfl⟩, Nat.le_of_ble_eq_true rfl, Nat.le_of_ble_eq_true rfl⟩ rfl (Nat.le_of_ble_eq_true rfl) d66_133 (fun vv h1 z1 H locs hR I9 => ?_)
    obtain ⟨e1, e2, e3⟩ := hR
    rw [e2, e3] at I9
    clear I e2 e3 e9
    have I := I9
    clear I9
    subst e1
    refine W.eq (g2 := F0 m 136 ls []) rfl ?_
    refine lv_goto hx hb d66_136 rfl ?_
    exact b243 k35 hk35 ls x1 q15 _ _ hF (hl.sub [0, 1] rfl) I
  have b132 : ∀ (k35 : Int32 → mT → Option (mT)), (∀ (ls : Array Slot) (x1 : Int32) (st : mT) (H : Heap) (locs : List Loc), k35 x1 st = some q → lv_has ls 5 [(0, .ref r), (1, .int x1)] → hm_I D s0 s (mm_h dA h0 r M st) z0 H locs → W p l e { frames := 6, cells := 0, slots := 0, locals := 146 } s m ([.ref r, .int y1, .int y2] : List Value).toArray below meth c H locs 0 0 (MQ below (ht_Q D s0 (fun vv h1 z1 => vv = none ∧ h1 = mm_h dA h0 r M q ∧ z1 = z0)) ([.ref r, .int y1, .int y2] : List Value).toArray s 0 0 (fun q => s0.heap.size ≤ q)) (F0 m 35 ls [])) → ∀ (ls : Array Slot) (x1 : Int32) (st : mT) (H : Heap) (locs : List Loc), g_parse_132 k35 x1 st = some q → lv_has ls 5 [(0, .ref r), (1, .int x1)] → hm_I D s0 s (mm_h dA h0 r M st) z0 H locs → W p l e { frames := 6, cells := 0, slots := 0, locals := 146 } s m ([.ref r, .int y1, .int y2] : List Value).toArray below meth c H locs 0 0 (MQ below (ht_Q D s0 (fun vv h1 z1 => vv = none ∧ h1 = mm_h dA h0 r M q ∧ z1 = z0)) ([.ref r, .int y1, .int y2] : List Value).toArray s 0 0 (fun q => s0.heap.size ≤ q)) (F0 m 132 ls [.ref r]) := by
    intro k35 hk35 ls x1 st H locs hF hl I
    unfold g_parse_132 at hF
    refine lv_iconst (v := 0) hx hb d66_132 (by decide) ?_
    exact b133 k35 hk35 ls x1 0 st _ _ hF (hl.sub [0, 1] rfl) I
  have b112 : ∀ (k35 : Int32 → mT → Option (mT)), (∀ (ls : Array Slot) (x1 : Int32) (st : mT) (H : Heap) (locs : List Loc), k35 x1 st = some q → lv_has ls 5 [(0, .ref r), (1, .int x1)] → hm_I D s0 s (mm_h dA h0 r M st) z0 H locs → W p l e { frames := 6, cells := 0, slots := 0, locals := 146 } s m ([.ref r, .int y1, .int y2] : List Value).toArray below meth c H locs 0 0 (MQ below (ht_Q D s0 (fun vv h1 z1 => vv = none ∧ h1 = mm_h dA h0 r M q ∧ z1 = z0)) ([.ref r, .int y1, .int y2] : List Value).toArray s 0 0 (fun q => s0.heap.size ≤ q)) (F0 m 35 ls [])) → ∀ (ls : Array Slot) (x1 : Int32) (x3 : Int32) (x4 : Int32) (st : mT) (H : Heap) (locs : List Loc), g_parse_112 k35 x1 x3 x4 st = some q → lv_has ls 5 [(0, .ref r), (1, .int x1), (3, .int x3), (4, .int x4)] → hm_I D s0 s (mm_h dA h0 r M st) z0 H locs → W p l e { frames := 6, cells := 0, slots := 0, locals := 146 } s m ([.ref r, .int y1, .int y2] : List Value).toArray below meth c H locs 0 0 (MQ below (ht_Q D s0 (fun vv h1 z1 => vv = none ∧ h1 = mm_h dA h0 r M q ∧ z1 = z0)) ([.ref r, .int y1, .int y2] : List Value).toArray s 0 0 (fun q => s0.heap.size ≤ q)) (F0 m 112 ls []) := by
    intro k35 hk35 ls x1 x3 x4 st H locs hF hl I
    unfold g_parse_112 at hF
    refine lv_iload_n hx hb d66_112 rfl (lv_at hl 2 rfl) ?_
    refine lv_bipush (v := 60) hx hb d66_113 (by decide) ?_
    refine lv_icmp_ne hx hb d66_115 rfl (fun h9 => ?_) (fun h9 => ?_)
    · have hF := (if_neg h9).symm.trans hF
      refine lv_iload hx hb d66_139 (lv_at hl 3 rfl) ?_
      refine lv_if_eq hx hb d66_141 rfl (fun h9 => ?_) (fun h9 => ?_)
      · have hF := (if_pos h9).symm.trans hF
        exact b148 k35 hk35 ls x1 x3 st _ _ hF (hl.sub [0, 1, 2] rfl) I
      · have hF := (if_neg h9).symm.trans hF
        refine lv_iload_n hx hb d66_144 rfl (lv_at hl 1 rfl) ?_
        refine lv_if_ne hx hb d66_145 rfl (fun h9 => ?_) (fun h9 => ?_)
        · have hF := (if_neg h9).symm.trans hF
          exact b165 k35 hk35 ls x1 st _ _ hF (hl.sub [0, 1] rfl) I
        · have hF := (if_pos h9).symm.trans hF
          exact b148 k35 hk35 ls x1 x3 st _ _ hF (hl.sub [0, 1, 2] rfl) I
    · have hF := (if_pos h9).symm.trans hF
      refine lv_aload_n hx hb d66_118 rfl (lv_at hl 0 rfl) ?_
      refine lv_iload hx hb d66_119 (lv_at hl 3 rfl) ?_
      refine lv_if_eq hx hb d66_121 rfl (fun h9 => ?_) (fun h9 => ?_)
      · have hF := (if_pos h9).symm.trans hF
        exact b132 k35 hk35 ls x1 st _ _ hF (hl.sub [0, 1] rfl) I
      · have hF := (if_neg h9).symm.trans hF
        refine lv_iload_n hx hb d66_124 rfl (lv_at hl 1 rfl) ?_
        refine lv_if_eq hx hb d66_125 rfl (fun h9 => ?_) (fun h9 => ?_)
        · have hF := (if_pos h9).symm.trans hF
          exact b132 k35 hk35 ls x1 st _ _ hF (hl.sub [0, 1] rfl) I
        · have hF := (if_neg h9).symm.trans hF
          refine lv_iconst (v := 1) hx hb d66_128 (by decide) ?_
          refine lv_goto hx hb d66_129 rfl ?_
          exact b133 k35 hk35 ls x1 1 st _ _ hF (hl.sub [0, 1] rfl) I
  have b101 : ∀ (k35 : Int32 → mT → Option (mT)), (∀ (ls : Array Slot) (x1 : Int32) (st : mT) (H : Heap) (locs : List Loc), k35 x1 st = some q → lv_has ls 5 [(0, .ref r), (1, .int x1)] → hm_I D s0 s (mm_h dA h0 r M st) z0 H locs → W p l e { frames := 6, cells := 0, slots := 0, locals := 146 } s m ([.ref r, .int y1, .int y2] : List Value).toArray below meth c H locs 0 0 (MQ below (ht_Q D s0 (fun vv h1 z1 => vv = none ∧ h1 = mm_h dA h0 r M q ∧ z1 = z0)) ([.ref r, .int y1, .int y2] : List Value).toArray s 0 0 (fun q => s0.heap.size ≤ q)) (F0 m 35 ls [])) → ∀ (ls : Array Slot) (x1 : Int32) (st : mT) (H : Heap) (locs : List Loc), g_parse_101 k35 x1 st = some q → lv_has ls 5 [(0, .ref r), (1, .int x1)] → hm_I D s0 s (mm_h dA h0 r M st) z0 H locs → W p l e { frames := 6, cells := 0, slots := 0, locals := 146 } s m ([.ref r, .int y1, .int y2] : List Value).toArray below meth c H locs 0 0 (MQ below (ht_Q D s0 (fun vv h1 z1 => vv = none ∧ h1 = mm_h dA h0 r M q ∧ z1 = z0)) ([.ref r, .int y1, .int y2] : List Value).toArray s 0 0 (fun q => s0.heap.size ≤ q)) (F0 m 101 ls []) := by
    intro k35 hk35 ls x1 st H locs hF hl I
    unfold g_parse_101 at hF
    refine lv_aload_n hx hb d66_101 rfl (lv_at hl 0 rfl) ?_
    refine lv_aload_n hx hb d66_102 rfl (lv_at hl 0 rfl) ?_
    refine va_get (D := D) (ci := 2) (v := .int (st.1 8)) (C := kR2) (T := kT2) (N := 60) hx hb hts ku2 hown hK (hm_one I.1 mm_hr) 0 rfl rfl 8 (by decide) (hts _ ms_k1324) (fun _ h => h) rfl d66_103 ?_
    obtain ⟨q16, e9, hF⟩ := mm_bd hF
    refine ht_V (C := "MarkupStoreModel") (rest := []) (as := [.int (st.1 8)]) X hl (cm_error l D dA s0 hE h0 r M hM z0 (st.1 8) st q16 e9) (List.forall_mem_cons.mpr ⟨ms_k1520, List.forall_mem_cons.mpr ⟨ms_k1522, List.forall_mem_cons.mpr ⟨ms_p47, List.forall_mem_cons.mpr ⟨ms_k7, List.forall_mem_cons.mpr ⟨ms_k1523, fun _ h => absurd h List.not_mem_nil⟩⟩⟩⟩⟩) ⟨rfl, by decide +kernel, by decide +kernel, (by decide +kernel : (parseMethodDescriptor "(I)V").map (fun d => d.parameters.length) = some 1)⟩ (hm_recv hK I rfl mm_hr) I ⟨rfl, rfl⟩ ⟨⟨Nat.le_of_ble_eq_true rfl, Nat.le_of_ble_eq_true rfl⟩, Nat.le_of_ble_eq_true rfl, Nat.le_of_ble_eq_true rfl⟩ rfl (Nat.le_of_ble_eq_true rfl) d66_106 (fun vv h1 z1 H locs hR I9 => ?_)
    obtain ⟨e1, e2, e3⟩ := hR
    rw [e2, e3] at I9
    clear I e2 e3 e9
    have I := I9
    clear I9
    subst e1
    refine W.eq (g2 := F0 m 109 ls []) rfl ?_
    refine lv_goto hx hb d66_109 rfl ?_
    exact b243 k35 hk35 ls x1 q16 _ _ hF (hl.sub [0, 1] rfl) I
  have b74 : ∀ (k35 : Int32 → mT → Option (mT)), (∀ (ls : Array Slot) (x1 : Int32) (st : mT) (H : Heap) (locs : List Loc), k35 x1 st = some q → lv_has ls 5 [(0, .ref r), (1, .int x1)] → hm_I D s0 s (mm_h dA h0 r M st) z0 H locs → W p l e { frames := 6, cells := 0, slots := 0, locals := 146 } s m ([.ref r, .int y1, .int y2] : List Value).toArray below meth c H locs 0 0 (MQ below (ht_Q D s0 (fun vv h1 z1 => vv = none ∧ h1 = mm_h dA h0 r M q ∧ z1 = z0)) ([.ref r, .int y1, .int y2] : List Value).toArray s 0 0 (fun q => s0.heap.size ≤ q)) (F0 m 35 ls [])) → ∀ (ls : Array Slot) (x1 : Int32) (x3 : Int32) (w0 : Int32) (st : mT) (H : Heap) (locs : List Loc), g_parse_74 k35 x1 x3 w0 st = some q → lv_has ls 5 [(0, .ref r), (1, .int x1), (3, .int x3)] → hm_I D s0 s (mm_h dA h0 r M st) z0 H locs → W p l e { frames := 6, cells := 0, slots := 0, locals := 146 } s m ([.ref r, .int y1, .int y2] : List Value).toArray below meth c H locs 0 0 (MQ below (ht_Q D s0 (fun vv h1 z1 => vv = none ∧ h1 = mm_h dA h0 r M q ∧ z1 = z0)) ([.ref r, .int y1, .int y2] : List Value).toArray s 0 0 (fun q => s0.heap.size ≤ q)) (F0 m 74 ls [.int w0]) := by
    intro k35 hk35 ls x1 x3 w0 st H locs hF hl I
    unfold g_parse_74 at hF
    refine lv_istore hx hb d66_74 hl (by decide) rfl (fun ls hl => ?_)
    have hl : lv_has ls 5 [(4, .int w0), (0, .ref r), (1, .int x1), (3, .int x3)] := hl
    refine lv_iload hx hb d66_76 (lv_at hl 0 rfl) ?_
    refine lv_if_eq hx hb d66_78 rfl (fun h9 => ?_) (fun h9 => ?_)
    · have hF := (if_pos h9).symm.trans hF
      exact b112 k35 hk35 ls x1 x3 w0 st _ _ hF (hl.sub [1, 2, 3, 0] rfl) I
    · have hF := (if_neg h9).symm.trans hF
      refine lv_aload_n hx hb d66_81 rfl (lv_at hl 1 rfl) ?_
      refine va_get (D := D) (ci := 2) (v := .int (st.1 10)) (C := kR2) (T := kT2) (N := 60) hx hb hts ku2 hown hK (hm_one I.1 mm_hr) 0 rfl rfl 10 (by decide) (hts _ ms_k1326) (fun _ h => h) rfl d66_82 ?_
      refine lv_if_le hx hb d66_85 rfl (fun h9 => ?_) (fun h9 => ?_)
      · have hF := (if_pos h9).symm.trans hF
        exact b112 k35 hk35 ls x1 x3 w0 st _ _ hF (hl.sub [1, 2, 3, 0] rfl) I
      · have hF := (if_neg h9).symm.trans hF
        refine lv_aload_n hx hb d66_88 rfl (lv_at hl 1 rfl) ?_
        refine va_get (D := D) (ci := 2) (v := .int (st.1 12)) (C := kR2) (T := kT2) (N := 60) hx hb hts ku2 hown hK (hm_one I.1 mm_hr) 0 rfl rfl 12 (by decide) (hts _ ms_k1328) (fun _ h => h) rfl d66_89 ?_
        refine lv_if_lt hx hb d66_92 rfl (fun h9 => ?_) (fun h9 => ?_)
        · have hF := (if_pos h9).symm.trans hF
          exact b101 k35 hk35 ls x1 st _ _ hF (hl.sub [1, 2] rfl) I
        · have hF := (if_neg h9).symm.trans hF
          refine lv_iload_n hx hb d66_95 rfl (lv_at hl 3 rfl) ?_
          refine lv_bipush (v := 60) hx hb d66_96 (by decide) ?_
          refine lv_icmp_ne hx hb d66_98 rfl (fun h9 => ?_) (fun h9 => ?_)
          · have hF := (if_neg h9).symm.trans hF
            exact b112 k35 hk35 ls x1 x3 w0 st _ _ hF (hl.sub [1, 2, 3, 0] rfl) I
          · have hF := (if_pos h9).symm.trans hF
            exact b101 k35 hk35 ls x1 st _ _ hF (hl.sub [1, 2] rfl) I
  have b35 : ∀ n9 : Nat, ∀ (ls : Array Slot) (x1 : Int32) (st : mT) (H : Heap) (locs : List Loc), g_parse_35 n9 x1 st = some q → lv_has ls 5 [(0, .ref r), (1, .int x1)] → hm_I D s0 s (mm_h dA h0 r M st) z0 H locs → W p l e { frames := 6, cells := 0, slots := 0, locals := 146 } s m ([.ref r, .int y1, .int y2] : List Value).toArray below meth c H locs 0 0 (MQ below (ht_Q D s0 (fun vv h1 z1 => vv = none ∧ h1 = mm_h dA h0 r M q ∧ z1 = z0)) ([.ref r, .int y1, .int y2] : List Value).toArray s 0 0 (fun q => s0.heap.size ≤ q)) (F0 m 35 ls []) := by
    intro n9
    induction n9 with
    | zero => intro ls x1 st H locs hF; cases hF
    | succ n9 hk35 =>
    intro ls x1 st H locs hF hl I
    unfold g_parse_35 at hF
    refine lv_aload_n hx hb d66_35 rfl (lv_at hl 0 rfl) ?_
    refine va_get (D := D) (ci := 2) (v := .int (st.1 9)) (C := kR2) (T := kT2) (N := 60) hx hb hts ku2 hown hK (hm_one I.1 mm_hr) 0 rfl rfl 9 (by decide) (hts _ ms_k1325) (fun _ h => h) rfl d66_36 ?_
    refine lv_if_ge hx hb d66_39 rfl (fun h9 => ?_) (fun h9 => ?_)
    · have hF := (if_pos h9).symm.trans hF
      exact b246 ls st _ _ hF (hl.sub [0] rfl) I
    · have hF := (if_neg h9).symm.trans hF
      refine lv_aload_n hx hb d66_42 rfl (lv_at hl 0 rfl) ?_
      refine va_get (D := D) (ci := 2) (v := .int (st.1 8)) (C := kR2) (T := kT2) (N := 60) hx hb hts ku2 hown hK (hm_one I.1 mm_hr) 0 rfl rfl 8 (by decide) (hts _ ms_k1324) (fun _ h => h) rfl d66_43 ?_
      refine lv_aload_n hx hb d66_46 rfl (lv_at hl 0 rfl) ?_
      refine va_get (D := D) (ci := 2) (v := .int (st.1 7)) (C := kR2) (T := kT2) (N := 60) hx hb hts ku2 hown hK (hm_one I.1 mm_hr) 0 rfl rfl 7 (by decide) (hts _ ms_k1323) (fun _ h => h) rfl d66_47 ?_
      refine lv_icmp_ge hx hb d66_50 rfl (fun h9 => ?_) (fun h9 => ?_)
      · have hF := (if_pos h9).symm.trans hF
        exact b246 ls st _ _ hF (hl.sub [0] rfl) I
      · have hF := (if_neg h9).symm.trans hF
        refine lv_aload_n hx hb d66_53 rfl (lv_at hl 0 rfl) ?_
        refine lv_aload_n hx hb d66_54 rfl (lv_at hl 0 rfl) ?_
        refine va_get (D := D) (ci := 2) (v := .int (st.1 8)) (C := kR2) (T := kT2) (N := 60) hx hb hts ku2 hown hK (hm_one I.1 mm_hr) 0 rfl rfl 8 (by decide) (hts _ ms_k1324) (fun _ h => h) rfl d66_55 ?_
        obtain ⟨q9, e9, hF⟩ := mm_bd hF
        refine ht_V (C := "MarkupStoreModel") (rest := []) (as := [.int (st.1 8)]) X hl (cm_look l D dA s0 hE h0 r M hM z0 (st.1 8) st q9 e9) (List.forall_mem_cons.mpr ⟨ms_k1516, List.forall_mem_cons.mpr ⟨ms_k1518, List.forall_mem_cons.mpr ⟨ms_p46, List.forall_mem_cons.mpr ⟨ms_k7, List.forall_mem_cons.mpr ⟨ms_k1519, fun _ h => absurd h List.not_mem_nil⟩⟩⟩⟩⟩) ⟨rfl, by decide +kernel, by decide +kernel, (by decide +kernel : (parseMethodDescriptor "(I)C").map (fun d => d.parameters.length) = some 1)⟩ (hm_recv hK I rfl mm_hr) I ⟨rfl, rfl⟩ ⟨⟨Nat.le_of_ble_eq_true rfl, Nat.le_of_ble_eq_true rfl⟩, Nat.le_of_ble_eq_true rfl, Nat.le_of_ble_eq_true rfl⟩ rfl (Nat.le_of_ble_eq_true rfl) d66_58 (fun vv h1 z1 H locs hR I9 => ?_)
        obtain ⟨e1, e2, e3⟩ := hR
        rw [e2, e3] at I9
        clear I e2 e3 e9
        have I := I9
        clear I9
        subst e1
        refine W.eq (g2 := F0 m 61 ls [.int q9.1]) rfl ?_
        refine lv_istore_n hx hb d66_61 rfl hl (by decide) rfl (fun ls hl => ?_)
        have hl : lv_has ls 5 [(3, .int q9.1), (0, .ref r), (1, .int x1)] := hl
        refine lv_aload_n hx hb d66_62 rfl (lv_at hl 1 rfl) ?_
        refine va_get (D := D) (ci := 2) (v := .int (q9.2.1 14)) (C := kR2) (T := kT2) (N := 60) hx hb hts ku2 hown hK (hm_one I.1 mm_hr) 0 rfl rfl 14 (by decide) (hts _ ms_k1330) (fun _ h => h) rfl d66_63 ?_
        refine lv_if_ne hx hb d66_66 rfl (fun h9 => ?_) (fun h9 => ?_)
        · have hF := (if_neg h9).symm.trans hF
          refine lv_iconst (v := 0) hx hb d66_73 (by decide) ?_
          exact b74 (g_parse_35 n9) hk35 ls x1 q9.1 0 q9.2 _ _ hF (hl.sub [1, 2, 0] rfl) I
        · have hF := (if_pos h9).symm.trans hF
          refine lv_iconst (v := 1) hx hb d66_69 (by decide) ?_
          refine lv_goto hx hb d66_70 rfl ?_
          exact b74 (g_parse_35 n9) hk35 ls x1 q9.1 1 q9.2 _ _ hF (hl.sub [1, 2, 0] rfl) I
  have hF := hg
  unfold g_parse at hF
  refine lv_aload_n hx hb d66_0 rfl (lv_at hl 0 rfl) ?_
  refine lv_iconst (v := 0) hx hb d66_1 (by decide) ?_
  obtain ⟨st1, e9, hF⟩ := mm_lt_some hF
  refine mm_put (k := 8) (ty := .int) X I (by decide) ms_k1324 rfl rfl (by decide +kernel) ⟨rfl, rfl⟩ rfl e9 d66_2 (fun H locs I => ?_)
  clear e9
  refine lv_aload_n hx hb d66_5 rfl (lv_at hl 0 rfl) ?_
  refine lv_iconst (v := (-1)) hx hb d66_6 (by decide) ?_
  obtain ⟨st2, e9, hF⟩ := mm_lt_some hF
  refine mm_put (k := 9) (ty := .int) X I (by decide) ms_k1325 rfl rfl (by decide +kernel) ⟨rfl, rfl⟩ rfl e9 d66_7 (fun H locs I => ?_)
  clear e9
  refine lv_aload_n hx hb d66_10 rfl (lv_at hl 0 rfl) ?_
  refine lv_iconst (v := 0) hx hb d66_11 (by decide) ?_
  obtain ⟨st3, e9, hF⟩ := mm_lt_some hF
  refine mm_put (k := 10) (ty := .int) X I (by decide) ms_k1326 rfl rfl (by decide +kernel) ⟨rfl, rfl⟩ rfl e9 d66_12 (fun H locs I => ?_)
  clear e9
  refine lv_aload_n hx hb d66_15 rfl (lv_at hl 0 rfl) ?_
  refine lv_iconst (v := 0) hx hb d66_16 (by decide) ?_
  obtain ⟨st4, e9, hF⟩ := mm_lt_some hF
  refine mm_put (k := 11) (ty := .boolean) X I (by decide) ms_k1327 rfl rfl (by decide +kernel) ⟨rfl, rfl⟩ rfl e9 d66_17 (fun H locs I => ?_)
  clear e9
  refine lv_aload_n hx hb d66_20 rfl (lv_at hl 0 rfl) ?_
  refine lv_iconst (v := (-1)) hx hb d66_21 (by decide) ?_
  obtain ⟨st5, e9, hF⟩ := mm_lt_some hF
  refine mm_put (k := 12) (ty := .int) X I (by decide) ms_k1328 rfl rfl (by decide +kernel) ⟨rfl, rfl⟩ rfl e9 d66_22 (fun H locs I => ?_)
  clear e9
  refine lv_aload_n hx hb d66_25 rfl (lv_at hl 0 rfl) ?_
  refine lv_iload_n hx hb d66_26 rfl (lv_at hl 2 rfl) ?_
  obtain ⟨st6, e9, hF⟩ := mm_lt_some hF
  refine mm_put (k := 13) (ty := .int) X I (by decide) ms_k1329 rfl rfl (by decide +kernel) ⟨rfl, rfl⟩ rfl e9 d66_27 (fun H locs I => ?_)
  clear e9
  refine lv_aload_n hx hb d66_30 rfl (lv_at hl 0 rfl) ?_
  refine lv_iconst (v := 0) hx hb d66_31 (by decide) ?_
  obtain ⟨st7, e9, hF⟩ := mm_lt_some hF
  refine mm_put (k := 14) (ty := .int) X I (by decide) ms_k1330 rfl rfl (by decide +kernel) ⟨rfl, rfl⟩ rfl e9 d66_32 (fun H locs I => ?_)
  clear e9
  exact b35 mF ls y1 st7 _ _ hF (hl.sub [0, 1] rfl) I

def g_odd (y0 : Int32) (st : mT) : Option (Int32 × mT) := (if (y0 &&& 1) = 0 then (some (0, st)) else (some (1, st)))
set_option maxRecDepth 100000 in
set_option maxHeartbeats 8000000 in
theorem cm_odd (l : Launch) (D : va_G) (dA : Nat → ClassId) (s0 : State) (hE : ms_EV D dA s0) (h0 : hm_T) (r : Nat) (M : Nat → Nat) (hM : mm_ok r M) (z0 : hz_T) (y0 : Int32) (st : mT) (q : Int32 × mT) (hg : g_odd y0 st = some q) : ht_C l D s0 yM67 bM67 1 (Option.some Jvm.ClassFile.FieldType.boolean) 0 0 0 0 [.int y0] (fun h z => h = mm_h dA h0 r M st ∧ z = z0) (fun h z vv h1 z1 => vv = some (.int q.1) ∧ h1 = mm_h dA h0 r M q.2 ∧ z1 = z0) := by
  refine ht_C.mk hE.1 (by decide) (Nat.le_of_ble_eq_true rfl) [(0, .int y0)] rfl ?_
  intro p e s m below meth c ls h z X hin hpre I hl
  have hx := X.1
  have hb := X.2.1
  have hml := X.2.2.1
  have hown : s.vm.findClass "MarkupStoreModel" = some m.cls := X.2.2.2.1
  have hts := X.2.2.2.2.2.2.1
  have hK := X.2.2.2.2.2.2.2.2.1
  rw [hpre.1, hpre.2] at I
  clear hpre
  have hF := hg
  unfold g_odd at hF
  refine lv_iload_n hx hb d67_0 rfl (lv_at hl 0 rfl) ?_
  refine lv_iconst (v := 1) hx hb d67_1 (by decide) ?_
  refine lv_iand hx hb d67_2 ?_
  refine lv_if_eq hx hb d67_3 rfl (fun h9 => ?_) (fun h9 => ?_)
  · have hF := (if_pos h9).symm.trans hF
    refine lv_iconst (v := 0) hx hb d67_10 (by decide) ?_
    exact ht_zret X d67_11 I (Nat.le_of_ble_eq_true rfl) (Nat.le_of_ble_eq_true rfl) (mm_fin hF) rfl
  · have hF := (if_neg h9).symm.trans hF
    refine lv_iconst (v := 1) hx hb d67_6 (by decide) ?_
    refine lv_goto hx hb d67_7 rfl ?_
    exact ht_zret X d67_11 I (Nat.le_of_ble_eq_true rfl) (Nat.le_of_ble_eq_true rfl) (mm_fin hF) rfl

def g_tailBy_19 (st : mT) : Option (mT) := (mm_lt (mm_F st 23 ((st.1 23) + 1)) (fun st1 => (some st1)))
def g_tailBy (y1 : Int32) (st : mT) : Option (mT) := (if 40 ≤ (st.1 23) then (g_tailBy_19 st) else (mm_ix 40 (st.1 23) (fun j3 => mm_lt (mm_G st 22 j3 y1) (fun st2 => (g_tailBy_19 st2)))))
set_option maxRecDepth 100000 in
set_option maxHeartbeats 8000000 in
theorem cm_tailBy (l : Launch) (D : va_G) (dA : Nat → ClassId) (s0 : State) (hE : ms_EV D dA s0) (h0 : hm_T) (r : Nat) (M : Nat → Nat) (hM : mm_ok r M) (z0 : hz_T) (y1 : Int32) (st : mT) (q : mT) (hg : g_tailBy y1 st = some q) : ht_C l D s0 yM68 bM68 2 (Option.none : Option Jvm.ClassFile.FieldType) 0 0 0 0 [.ref r, .int y1] (fun h z => h = mm_h dA h0 r M st ∧ z = z0) (fun h z vv h1 z1 => vv = none ∧ h1 = mm_h dA h0 r M q ∧ z1 = z0) := by
  refine ht_C.mk hE.1 (by decide) (Nat.le_of_ble_eq_true rfl) [(0, .ref r), (1, .int y1)] rfl ?_
  intro p e s m below meth c ls h z X hin hpre I hl
  have hx := X.1
  have hb := X.2.1
  have hml := X.2.2.1
  have hown : s.vm.findClass "MarkupStoreModel" = some m.cls := X.2.2.2.1
  have hts := X.2.2.2.2.2.2.1
  have hK := X.2.2.2.2.2.2.2.2.1
  rw [hpre.1, hpre.2] at I
  clear hpre
  have b19 : ∀ (ls : Array Slot) (st : mT) (H : Heap) (locs : List Loc), g_tailBy_19 st = some q → lv_has ls 2 [(0, .ref r)] → hm_I D s0 s (mm_h dA h0 r M st) z0 H locs → W p l e { frames := 0, cells := 0, slots := 0, locals := 0 } s m ([.ref r, .int y1] : List Value).toArray below meth c H locs 0 0 (MQ below (ht_Q D s0 (fun vv h1 z1 => vv = none ∧ h1 = mm_h dA h0 r M q ∧ z1 = z0)) ([.ref r, .int y1] : List Value).toArray s 0 0 (fun q => s0.heap.size ≤ q)) (F0 m 19 ls []) := by
    intro ls st H locs hF hl I
    unfold g_tailBy_19 at hF
    refine lv_aload_n hx hb d68_19 rfl (lv_at hl 0 rfl) ?_
    refine lv_dup hx hb d68_20 rfl ?_
    refine va_get (D := D) (ci := 2) (v := .int (st.1 23)) (C := kR2) (T := kT2) (N := 60) hx hb hts ku2 hown hK (hm_one I.1 mm_hr) 0 rfl rfl 23 (by decide) (hts _ ms_k1339) (fun _ h => h) rfl d68_21 ?_
    refine lv_iconst (v := 1) hx hb d68_24 (by decide) ?_
    refine lv_iadd hx hb d68_25 ?_
    obtain ⟨st1, e9, hF⟩ := mm_lt_some hF
    refine mm_put (k := 23) (ty := .int) X I (by decide) ms_k1339 rfl rfl (by decide +kernel) ⟨rfl, rfl⟩ rfl e9 d68_26 (fun H locs I => ?_)
    clear e9
    exact ht_vret X d68_29 I (Nat.le_of_ble_eq_true rfl) (Nat.le_of_ble_eq_true rfl) (mm_finV hF)
  have hF := hg
  unfold g_tailBy at hF
  refine lv_aload_n hx hb d68_0 rfl (lv_at hl 0 rfl) ?_
  refine va_get (D := D) (ci := 2) (v := .int (st.1 23)) (C := kR2) (T := kT2) (N := 60) hx hb hts ku2 hown hK (hm_one I.1 mm_hr) 0 rfl rfl 23 (by decide) (hts _ ms_k1339) (fun _ h => h) rfl d68_1 ?_
  refine lv_bipush (v := 40) hx hb d68_4 (by decide) ?_
  refine lv_icmp_ge hx hb d68_6 rfl (fun h9 => ?_) (fun h9 => ?_)
  · have hF := (if_pos h9).symm.trans hF
    exact b19 ls st _ _ hF (hl.sub [0] rfl) I
  · have hF := (if_neg h9).symm.trans hF
    refine lv_aload_n hx hb d68_9 rfl (lv_at hl 0 rfl) ?_
    refine va_get (D := D) (ci := 2) (v := .ref (M 22)) (C := kR2) (T := kT2) (N := 60) hx hb hts ku2 hown hK (hm_one I.1 mm_hr) 0 rfl rfl 22 (by decide) (hts _ ms_k1338) (fun _ h => h) rfl d68_10 ?_
    refine lv_aload_n hx hb d68_13 rfl (lv_at hl 0 rfl) ?_
    refine va_get (D := D) (ci := 2) (v := .int (st.1 23)) (C := kR2) (T := kT2) (N := 60) hx hb hts ku2 hown hK (hm_one I.1 mm_hr) 0 rfl rfl 23 (by decide) (hts _ ms_k1339) (fun _ h => h) rfl d68_14 ?_
    refine lv_iload_n hx hb d68_17 rfl (lv_at hl 1 rfl) ?_
    obtain ⟨i9, hF⟩ := mm_ix_some hF
    obtain ⟨st2, e9, hF⟩ := mm_lt_some hF
    refine mm_iast (k := 22) X I hM (by decide) 0 (fun _ => rfl) rfl i9 e9 d68_18 (fun H locs I => ?_)
    clear e9 i9
    exact b19 ls st2 _ _ hF (hl.sub [0] rfl) I

def g_between_297 (k33 : Int32 → Int32 → Int32 → Int32 → Int32 → Int32 → mT → Option (mT)) (x1 : Int32) (x2 : Int32) (x4 : Int32) (x5 : Int32) (x6 : Int32) (x7 : Int32) (st : mT) : Option (mT) := (k33 x1 x2 x4 x5 x6 (x7 + 1) st)
def g_between_294 (k33 : Int32 → Int32 → Int32 → Int32 → Int32 → Int32 → mT → Option (mT)) (x1 : Int32) (x2 : Int32) (x4 : Int32) (x5 : Int32) (x6 : Int32) (x7 : Int32) (w0 : Int32) (st : mT) : Option (mT) := ((g_tailBy w0 st).bind (fun q4 => (g_between_297 k33 x1 x2 x4 x5 x6 x7 q4)))
def g_between_255 (k33 : Int32 → Int32 → Int32 → Int32 → Int32 → Int32 → mT → Option (mT)) (x1 : Int32) (x2 : Int32) (x4 : Int32) (x5 : Int32) (x6 : Int32) (x7 : Int32) (x9 : Int32) (x10 : Int32) (st : mT) : Option (mT) := (if x4 < 0 then (if 0 ≤ x5 then ((g_odd x9 st).bind (fun q3 => (if q3.1 = 0 then (g_between_294 k33 x1 x2 x4 x5 x6 x7 (x9 - 1) q3.2) else (g_between_294 k33 x1 x2 x4 x5 x6 x7 (x9 - 2) q3.2)))) else (g_between_294 k33 x1 x2 x4 x5 x6 x7 1 st)) else (g_between_294 k33 x1 x2 x4 x5 x6 x7 x10 st))
def g_between_217 (k33 : Int32 → Int32 → Int32 → Int32 → Int32 → Int32 → mT → Option (mT)) (x1 : Int32) (x2 : Int32) (x4 : Int32) (x6 : Int32) (x7 : Int32) (w0 : Int32) (st : mT) : Option (mT) := (g_between_297 k33 x1 x2 x4 w0 x6 x7 st)
def g_between_209 (k33 : Int32 → Int32 → Int32 → Int32 → Int32 → Int32 → mT → Option (mT)) (x1 : Int32) (x2 : Int32) (x4 : Int32) (x5 : Int32) (x6 : Int32) (x7 : Int32) (st : mT) : Option (mT) := (g_between_217 k33 x1 x2 x4 x6 x7 (x5 + 1) st)
def g_between_192 (k33 : Int32 → Int32 → Int32 → Int32 → Int32 → Int32 → mT → Option (mT)) (x1 : Int32) (x2 : Int32) (x5 : Int32) (x6 : Int32) (x7 : Int32) (x8 : Int32) (x9 : Int32) (w0 : Int32) (st : mT) : Option (mT) := (if x8 = x9 then (g_between_209 k33 x1 x2 w0 x5 x6 x7 st) else ((g_odd x8 st).bind (fun q10 => (if q10.1 = 0 then (g_between_217 k33 x1 x2 w0 x6 x7 (-1) q10.2) else (g_between_209 k33 x1 x2 w0 x5 x6 x7 q10.2)))))
def g_between_169 (k33 : Int32 → Int32 → Int32 → Int32 → Int32 → Int32 → mT → Option (mT)) (x1 : Int32) (x2 : Int32) (x4 : Int32) (x5 : Int32) (x6 : Int32) (x7 : Int32) (x8 : Int32) (x9 : Int32) (w0 : Int32) (st : mT) : Option (mT) := ((g_tailBy w0 st).bind (fun q8 => ((g_odd x8 q8).bind (fun q9 => (if q9.1 = 0 then (g_between_192 k33 x1 x2 x5 x6 x7 x8 x9 (x4 + 1) q9.2) else (g_between_192 k33 x1 x2 x5 x6 x7 x8 x9 (-1) q9.2))))))
def g_between_146 (k33 : Int32 → Int32 → Int32 → Int32 → Int32 → Int32 → mT → Option (mT)) (x1 : Int32) (x2 : Int32) (x4 : Int32) (x5 : Int32) (x7 : Int32) (x8 : Int32) (x9 : Int32) (x10 : Int32) (w0 : Int32) (st : mT) : Option (mT) := (if w0 = 0 then (if x4 < 0 then (g_between_255 k33 x1 x2 x4 x5 w0 x7 x9 x10 st) else (if x5 < 0 then (g_between_255 k33 x1 x2 x4 x5 w0 x7 x9 x10 st) else (if x10 < x9 then (g_between_255 k33 x1 x2 x4 x5 w0 x7 x9 x10 st) else ((g_tailBy (x8 + 1) st).bind (fun q5 => ((g_tailBy 1 q5).bind (fun q6 => (g_between_297 k33 x1 x2 x4 x5 w0 x7 q6)))))))) else ((g_odd x8 st).bind (fun q7 => (if q7.1 = 0 then (g_between_169 k33 x1 x2 x4 x5 w0 x7 x8 x9 x8 q7.2) else (g_between_169 k33 x1 x2 x4 x5 w0 x7 x8 x9 x9 q7.2)))))
def g_between_145 (k33 : Int32 → Int32 → Int32 → Int32 → Int32 → Int32 → mT → Option (mT)) (x1 : Int32) (x2 : Int32) (x4 : Int32) (x5 : Int32) (x7 : Int32) (x8 : Int32) (x9 : Int32) (x10 : Int32) (st : mT) : Option (mT) := (g_between_146 k33 x1 x2 x4 x5 x7 x8 x9 x10 0 st)
def g_between_141 (k33 : Int32 → Int32 → Int32 → Int32 → Int32 → Int32 → mT → Option (mT)) (x1 : Int32) (x2 : Int32) (x4 : Int32) (x5 : Int32) (x7 : Int32) (x8 : Int32) (x9 : Int32) (x10 : Int32) (st : mT) : Option (mT) := (g_between_146 k33 x1 x2 x4 x5 x7 x8 x9 x10 1 st)
def g_between_106 (k33 : Int32 → Int32 → Int32 → Int32 → Int32 → Int32 → mT → Option (mT)) (x1 : Int32) (x2 : Int32) (x4 : Int32) (x5 : Int32) (x7 : Int32) (x8 : Int32) (x9 : Int32) (w0 : Int32) (st : mT) : Option (mT) := (if x4 < 0 then (g_between_145 k33 x1 x2 x4 x5 x7 x8 x9 w0 st) else (if x5 < 0 then (g_between_145 k33 x1 x2 x4 x5 x7 x8 x9 w0 st) else (if w0 < x9 then (g_between_145 k33 x1 x2 x4 x5 x7 x8 x9 w0 st) else ((g_odd x8 st).bind (fun q11 => (if q11.1 = 0 then (g_between_141 k33 x1 x2 x4 x5 x7 x8 x9 w0 q11.2) else ((g_odd x9 q11.2).bind (fun q12 => (if q12.1 = 0 then (g_between_141 k33 x1 x2 x4 x5 x7 x8 x9 w0 q12.2) else (g_between_145 k33 x1 x2 x4 x5 x7 x8 x9 w0 q12.2))))))))))
def g_between_85 (k33 : Int32 → Int32 → Int32 → Int32 → Int32 → Int32 → mT → Option (mT)) (x1 : Int32) (x2 : Int32) (x4 : Int32) (x5 : Int32) (x7 : Int32) (x8 : Int32) (w0 : Int32) (st : mT) : Option (mT) := ((g_odd x8 st).bind (fun q2 => (if q2.1 = 0 then (g_between_106 k33 x1 x2 x4 x5 x7 x8 w0 (x8 + 1) q2.2) else (g_between_106 k33 x1 x2 x4 x5 x7 x8 w0 (x8 + 2) q2.2))))
def g_between_64 (k33 : Int32 → Int32 → Int32 → Int32 → Int32 → Int32 → mT → Option (mT)) (x1 : Int32) (x2 : Int32) (x4 : Int32) (x5 : Int32) (x7 : Int32) (w0 : Int32) (st : mT) : Option (mT) := (if x5 < 0 then (g_between_85 k33 x1 x2 x4 x5 x7 w0 0 st) else ((g_f x2 (28 + x5) st).bind (fun q13 => (g_between_85 k33 x1 x2 x4 x5 x7 w0 q13.1 q13.2))))
def g_between_33 : Nat → Int32 → Int32 → Int32 → Int32 → Int32 → Int32 → mT → Option (mT)
  | 0, _, _, _, _, _, _, _ => none
  | n9 + 1, x1, x2, x4, x5, x6, x7, st => (if 20 ≤ x7 then (some st) else (if x6 = 0 then (some st) else (if x4 < 0 then (g_between_64 (g_between_33 n9) x1 x2 x4 x5 x7 0 st) else ((g_f x1 (28 + x4) st).bind (fun q14 => (g_between_64 (g_between_33 n9) x1 x2 x4 x5 x7 q14.1 q14.2))))))
def g_between_25 (x1 : Int32) (x2 : Int32) (x4 : Int32) (w0 : Int32) (st : mT) : Option (mT) := (g_between_33 mF x1 x2 x4 w0 1 0 st)
def g_between_14 (x1 : Int32) (x2 : Int32) (x3 : Int32) (w0 : Int32) (st : mT) : Option (mT) := (if x2 < 0 then (g_between_25 x1 x2 w0 (-1) st) else (g_between_25 x1 x2 w0 x3 st))
def g_between (y1 : Int32) (y2 : Int32) (y3 : Int32) (st : mT) : Option (mT) := (mm_lt (mm_F st 23 0) (fun st1 => (if y1 < 0 then (g_between_14 y1 y2 y3 (-1) st1) else (g_between_14 y1 y2 y3 y3 st1))))
set_option maxRecDepth 100000 in
set_option maxHeartbeats 8000000 in
theorem cm_between (l : Launch) (D : va_G) (dA : Nat → ClassId) (s0 : State) (hE : ms_EV D dA s0) (h0 : hm_T) (r : Nat) (M : Nat → Nat) (hM : mm_ok r M) (z0 : hz_T) (y1 : Int32) (y2 : Int32) (y3 : Int32) (st : mT) (q : mT) (hg : g_between y1 y2 y3 st = some q) : ht_C l D s0 yM69 bM69 12 (Option.none : Option Jvm.ClassFile.FieldType) 1 22 0 0 [.ref r, .int y1, .int y2, .int y3] (fun h z => h = mm_h dA h0 r M st ∧ z = z0) (fun h z vv h1 z1 => vv = none ∧ h1 = mm_h dA h0 r M q ∧ z1 = z0) := by
  refine ht_C.mk hE.1 (by decide) (Nat.le_of_ble_eq_true rfl) [(0, .ref r), (1, .int y1), (2, .int y2), (3, .int y3)] rfl ?_
  intro p e s m below meth c ls h z X hin hpre I hl
  have hx := X.1
  have hb := X.2.1
  have hml := X.2.2.1
  have hown : s.vm.findClass "MarkupStoreModel" = some m.cls := X.2.2.2.1
  have hts := X.2.2.2.2.2.2.1
  have hK := X.2.2.2.2.2.2.2.2.1
  rw [hpre.1, hpre.2] at I
  clear hpre
  have b297 : ∀ (k33 : Int32 → Int32 → Int32 → Int32 → Int32 → Int32 → mT → Option (mT)), (∀ (ls : Array Slot) (x1 : Int32) (x2 : Int32) (x4 : Int32) (x5 : Int32) (x6 : Int32) (x7 : Int32) (st : mT) (H : Heap) (locs : List Loc), k33 x1 x2 x4 x5 x6 x7 st = some q → lv_has ls 12 [(0, .ref r), (1, .int x1), (2, .int x2), (4, .int x4), (5, .int x5), (6, .int x6), (7, .int x7)] → hm_I D s0 s (mm_h dA h0 r M st) z0 H locs → W p l e { frames := 1, cells := 0, slots := 0, locals := 22 } s m ([.ref r, .int y1, .int y2, .int y3] : List Value).toArray below meth c H locs 0 0 (MQ below (ht_Q D s0 (fun vv h1 z1 => vv = none ∧ h1 = mm_h dA h0 r M q ∧ z1 = z0)) ([.ref r, .int y1, .int y2, .int y3] : List Value).toArray s 0 0 (fun q => s0.heap.size ≤ q)) (F0 m 33 ls [])) → ∀ (ls : Array Slot) (x1 : Int32) (x2 : Int32) (x4 : Int32) (x5 : Int32) (x6 : Int32) (x7 : Int32) (st : mT) (H : Heap) (locs : List Loc), g_between_297 k33 x1 x2 x4 x5 x6 x7 st = some q → lv_has ls 12 [(0, .ref r), (1, .int x1), (2, .int x2), (4, .int x4), (5, .int x5), (6, .int x6), (7, .int x7)] → hm_I D s0 s (mm_h dA h0 r M st) z0 H locs → W p l e { frames := 1, cells := 0, slots := 0, locals := 22 } s m ([.ref r, .int y1, .int y2, .int y3] : List Value).toArray below meth c H locs 0 0 (MQ below (ht_Q D s0 (fun vv h1 z1 => vv = none ∧ h1 = mm_h dA h0 r M q ∧ z1 = z0)) ([.ref r, .int y1, .int y2, .int y3] : List Value).toArray s 0 0 (fun q => s0.heap.size ≤ q)) (F0 m 297 ls []) := by
    intro k33 hk33 ls x1 x2 x4 x5 x6 x7 st H locs hF hl I
    unfold g_between_297 at hF
    refine lv_iinc (k := 6) (v := (x7 + 1)) hx hb d69_297 hl rfl (rfl) (by decide) rfl (fun ls hl => ?_)
    have hl : lv_has ls 12 [(7, .int (x7 + 1)), (0, .ref r), (1, .int x1), (2, .int x2), (4, .int x4), (5, .int x5), (6, .int x6)] := hl
    refine lv_goto hx hb d69_300 rfl ?_
    exact hk33 ls x1 x2 x4 x5 x6 (x7 + 1) st _ _ hF (hl.sub [1, 2, 3, 4, 5, 6, 0] rfl) I
  have b294 : ∀ (k33 : Int32 → Int32 → Int32 → Int32 → Int32 → Int32 → mT → Option (mT)), (∀ (ls : Array Slot) (x1 : Int32) (x2 : Int32) (x4 : Int32) (x5 : Int32) (x6 : Int32) (x7 : Int32) (st : mT) (H : Heap) (locs : List Loc), k33 x1 x2 x4 x5 x6 x7 st = some q → lv_has ls 12 [(0, .ref r), (1, .int x1), (2, .int x2), (4, .int x4), (5, .int x5), (6, .int x6), (7, .int x7)] → hm_I D s0 s (mm_h dA h0 r M st) z0 H locs → W p l e { frames := 1, cells := 0, slots := 0, locals := 22 } s m ([.ref r, .int y1, .int y2, .int y3] : List Value).toArray below meth c H locs 0 0 (MQ below (ht_Q D s0 (fun vv h1 z1 => vv = none ∧ h1 = mm_h dA h0 r M q ∧ z1 = z0)) ([.ref r, .int y1, .int y2, .int y3] : List Value).toArray s 0 0 (fun q => s0.heap.size ≤ q)) (F0 m 33 ls [])) → ∀ (ls : Array Slot) (x1 : Int32) (x2 : Int32) (x4 : Int32) (x5 : Int32) (x6 : Int32) (x7 : Int32) (w0 : Int32) (st : mT) (H : Heap) (locs : List Loc), g_between_294 k33 x1 x2 x4 x5 x6 x7 w0 st = some q → lv_has ls 12 [(0, .ref r), (1, .int x1), (2, .int x2), (4, .int x4), (5, .int x5), (6, .int x6), (7, .int x7)] → hm_I D s0 s (mm_h dA h0 r M st) z0 H locs → W p l e { frames := 1, cells := 0, slots := 0, locals := 22 } s m ([.ref r, .int y1, .int y2, .int y3] : List Value).toArray below meth c H locs 0 0 (MQ below (ht_Q D s0 (fun vv h1 z1 => vv = none ∧ h1 = mm_h dA h0 r M q ∧ z1 = z0)) ([.ref r, .int y1, .int y2, .int y3] : List Value).toArray s 0 0 (fun q => s0.heap.size ≤ q)) (F0 m 294 ls [.int w0, .ref r]) := by
    intro k33 hk33 ls x1 x2 x4 x5 x6 x7 w0 st H locs hF hl I
    unfold g_between_294 at hF
    obtain ⟨q4, e9, hF⟩ := mm_bd hF
    refine ht_V (C := "MarkupStoreModel") (rest := []) (as := [.int w0]) X hl (cm_tailBy l D dA s0 hE h0 r M hM z0 w0 st q4 e9) (List.forall_mem_cons.mpr ⟨ms_k1642, List.forall_mem_cons.mpr ⟨ms_k1644, List.forall_mem_cons.mpr ⟨ms_p75, List.forall_mem_cons.mpr ⟨ms_k7, List.forall_mem_cons.mpr ⟨ms_k1645, fun _ h => absurd h List.not_mem_nil⟩⟩⟩⟩⟩) ⟨rfl, by decide +kernel, by decide +kernel, (by decide +kernel : (parseMethodDescriptor "(I)V").map (fun d => d.parameters.length) = some 1)⟩ (hm_recv hK I rfl mm_hr) I ⟨rfl, rfl⟩ ⟨⟨Nat.le_of_ble_eq_true rfl, Nat.le_of_ble_eq_true rfl⟩, Nat.le_of_ble_eq_true rfl, Nat.le_of_ble_eq_true rfl⟩ rfl (Nat.le_of_ble_eq_true rfl) d69_294 (fun vv h1 z1 H locs hR I9 => ?_)
    obtain ⟨e1, e2, e3⟩ := hR
    rw [e2, e3] at I9
    clear I e2 e3 e9
    have I := I9
    clear I9
    subst e1
    refine W.eq (g2 := F0 m 297 ls []) rfl ?_
    exact b297 k33 hk33 ls x1 x2 x4 x5 x6 x7 q4 _ _ hF (hl.sub [0, 1, 2, 3, 4, 5, 6] rfl) I
  have b255 : ∀ (k33 : Int32 → Int32 → Int32 → Int32 → Int32 → Int32 → mT → Option (mT)), (∀ (ls : Array Slot) (x1 : Int32) (x2 : Int32) (x4 : Int32) (x5 : Int32) (x6 : Int32) (x7 : Int32) (st : mT) (H : Heap) (locs : List Loc), k33 x1 x2 x4 x5 x6 x7 st = some q → lv_has ls 12 [(0, .ref r), (1, .int x1), (2, .int x2), (4, .int x4), (5, .int x5), (6, .int x6), (7, .int x7)] → hm_I D s0 s (mm_h dA h0 r M st) z0 H locs → W p l e { frames := 1, cells := 0, slots := 0, locals := 22 } s m ([.ref r, .int y1, .int y2, .int y3] : List Value).toArray below meth c H locs 0 0 (MQ below (ht_Q D s0 (fun vv h1 z1 => vv = none ∧ h1 = mm_h dA h0 r M q ∧ z1 = z0)) ([.ref r, .int y1, .int y2, .int y3] : List Value).toArray s 0 0 (fun q => s0.heap.size ≤ q)) (F0 m 33 ls [])) → ∀ (ls : Array Slot) (x1 : Int32) (x2 : Int32) (x4 : Int32) (x5 : Int32) (x6 : Int32) (x7 : Int32) (x9 : Int32) (x10 : Int32) (st : mT) (H : Heap) (locs : List Loc), g_between_255 k33 x1 x2 x4 x5 x6 x7 x9 x10 st = some q → lv_has ls 12 [(0, .ref r), (1, .int x1), (2, .int x2), (4, .int x4), (5, .int x5), (6, .int x6), (7, .int x7), (9, .int x9), (10, .int x10)] → hm_I D s0 s (mm_h dA h0 r M st) z0 H locs → W p l e { frames := 1, cells := 0, slots := 0, locals := 22 } s m ([.ref r, .int y1, .int y2, .int y3] : List Value).toArray below meth c H locs 0 0 (MQ below (ht_Q D s0 (fun vv h1 z1 => vv = none ∧ h1 = mm_h dA h0 r M q ∧ z1 = z0)) ([.ref r, .int y1, .int y2, .int y3] : List Value).toArray s 0 0 (fun q => s0.heap.size ≤ q)) (F0 m 255 ls []) := by
    intro k33 hk33 ls x1 x2 x4 x5 x6 x7 x9 x10 st H locs hF hl I
    unfold g_between_255 at hF
    refine lv_aload_n hx hb d69_255 rfl (lv_at hl 0 rfl) ?_
    refine lv_iload hx hb d69_256 (lv_at hl 3 rfl) ?_
    refine lv_if_lt hx hb d69_258 rfl (fun h9 => ?_) (fun h9 => ?_)
    · have hF := (if_pos h9).symm.trans hF
      refine lv_iload hx hb d69_266 (lv_at hl 4 rfl) ?_
      refine lv_if_ge hx hb d69_268 rfl (fun h9 => ?_) (fun h9 => ?_)
      · have hF := (if_pos h9).symm.trans hF
        refine lv_iload hx hb d69_275 (lv_at hl 7 rfl) ?_
        obtain ⟨q3, e9, hF⟩ := mm_bd hF
        refine ht_S (rest := [.ref r]) (as := [.int x9]) X hl (cm_odd l D dA s0 hE h0 r M hM z0 x9 st q3 e9) (List.forall_mem_cons.mpr ⟨ms_k1639, List.forall_mem_cons.mpr ⟨ms_k1640, List.forall_mem_cons.mpr ⟨ms_k7, List.forall_mem_cons.mpr ⟨ms_k1641, fun _ h => absurd h List.not_mem_nil⟩⟩⟩⟩) ⟨by decide +kernel, by decide +kernel, (by decide +kernel : (parseMethodDescriptor "(I)Z").map (fun d => d.parameters.length) = some 1)⟩ I ⟨rfl, rfl⟩ ⟨⟨Nat.le_of_ble_eq_true rfl, Nat.le_of_ble_eq_true rfl⟩, Nat.le_of_ble_eq_true rfl, Nat.le_of_ble_eq_true rfl⟩ rfl (Nat.le_of_ble_eq_true rfl) d69_277 (fun vv h1 z1 H locs hR I9 => ?_)
        obtain ⟨e1, e2, e3⟩ := hR
        rw [e2, e3] at I9
        clear I e2 e3 e9
        have I := I9
        clear I9
        subst e1
        refine W.eq (g2 := F0 m 280 ls [.int q3.1, .ref r]) rfl ?_
        refine lv_if_eq hx hb d69_280 rfl (fun h9 => ?_) (fun h9 => ?_)
        · have hF := (if_pos h9).symm.trans hF
          refine lv_iload hx hb d69_290 (lv_at hl 7 rfl) ?_
          refine lv_iconst (v := 1) hx hb d69_292 (by decide) ?_
          refine lv_isub hx hb d69_293 ?_
          exact b294 k33 hk33 ls x1 x2 x4 x5 x6 x7 (x9 - 1) q3.2 _ _ hF (hl.sub [0, 1, 2, 3, 4, 5, 6] rfl) I
        · have hF := (if_neg h9).symm.trans hF
          refine lv_iload hx hb d69_283 (lv_at hl 7 rfl) ?_
          refine lv_iconst (v := 2) hx hb d69_285 (by decide) ?_
          refine lv_isub hx hb d69_286 ?_
          refine lv_goto hx hb d69_287 rfl ?_
          exact b294 k33 hk33 ls x1 x2 x4 x5 x6 x7 (x9 - 2) q3.2 _ _ hF (hl.sub [0, 1, 2, 3, 4, 5, 6] rfl) I
      · have hF := (if_neg h9).symm.trans hF
        refine lv_iconst (v := 1) hx hb d69_271 (by decide) ?_
        refine lv_goto hx hb d69_272 rfl ?_
        exact b294 k33 hk33 ls x1 x2 x4 x5 x6 x7 1 st _ _ hF (hl.sub [0, 1, 2, 3, 4, 5, 6] rfl) I
    · have hF := (if_neg h9).symm.trans hF
      refine lv_iload hx hb d69_261 (lv_at hl 8 rfl) ?_
      refine lv_goto hx hb d69_263 rfl ?_
      exact b294 k33 hk33 ls x1 x2 x4 x5 x6 x7 x10 st _ _ hF (hl.sub [0, 1, 2, 3, 4, 5, 6] rfl) I
  have b217 : ∀ (k33 : Int32 → Int32 → Int32 → Int32 → Int32 → Int32 → mT → Option (mT)), (∀ (ls : Array Slot) (x1 : Int32) (x2 : Int32) (x4 : Int32) (x5 : Int32) (x6 : Int32) (x7 : Int32) (st : mT) (H : Heap) (locs : List Loc), k33 x1 x2 x4 x5 x6 x7 st = some q → lv_has ls 12 [(0, .ref r), (1, .int x1), (2, .int x2), (4, .int x4), (5, .int x5), (6, .int x6), (7, .int x7)] → hm_I D s0 s (mm_h dA h0 r M st) z0 H locs → W p l e { frames := 1, cells := 0, slots := 0, locals := 22 } s m ([.ref r, .int y1, .int y2, .int y3] : List Value).toArray below meth c H locs 0 0 (MQ below (ht_Q D s0 (fun vv h1 z1 => vv = none ∧ h1 = mm_h dA h0 r M q ∧ z1 = z0)) ([.ref r, .int y1, .int y2, .int y3] : List Value).toArray s 0 0 (fun q => s0.heap.size ≤ q)) (F0 m 33 ls [])) → ∀ (ls : Array Slot) (x1 : Int32) (x2 : Int32) (x4 : Int32) (x6 : Int32) (x7 : Int32) (w0 : Int32) (st : mT) (H : Heap) (locs : List Loc), g_between_217 k33 x1 x2 x4 x6 x7 w0 st = some q → lv_has ls 12 [(0, .ref r), (1, .int x1), (2, .int x2), (4, .int x4), (6, .int x6), (7, .int x7)] → hm_I D s0 s (mm_h dA h0 r M st) z0 H locs → W p l e { frames := 1, cells := 0, slots := 0, locals := 22 } s m ([.ref r, .int y1, .int y2, .int y3] : List Value).toArray below meth c H locs 0 0 (MQ below (ht_Q D s0 (fun vv h1 z1 => vv = none ∧ h1 = mm_h dA h0 r M q ∧ z1 = z0)) ([.ref r, .int y1, .int y2, .int y3] : List Value).toArray s 0 0 (fun q => s0.heap.size ≤ q)) (F0 m 217 ls [.int w0]) := by
    intro k33 hk33 ls x1 x2 x4 x6 x7 w0 st H locs hF hl I
    unfold g_between_217 at hF
    refine lv_istore hx hb d69_217 hl (by decide) rfl (fun ls hl => ?_)
    have hl : lv_has ls 12 [(5, .int w0), (0, .ref r), (1, .int x1), (2, .int x2), (4, .int x4), (6, .int x6), (7, .int x7)] := hl
    refine lv_goto hx hb d69_219 rfl ?_
    exact b297 k33 hk33 ls x1 x2 x4 w0 x6 x7 st _ _ hF (hl.sub [1, 2, 3, 4, 0, 5, 6] rfl) I
  have b209 : ∀ (k33 : Int32 → Int32 → Int32 → Int32 → Int32 → Int32 → mT → Option (mT)), (∀ (ls : Array Slot) (x1 : Int32) (x2 : Int32) (x4 : Int32) (x5 : Int32) (x6 : Int32) (x7 : Int32) (st : mT) (H : Heap) (locs : List Loc), k33 x1 x2 x4 x5 x6 x7 st = some q → lv_has ls 12 [(0, .ref r), (1, .int x1), (2, .int x2), (4, .int x4), (5, .int x5), (6, .int x6), (7, .int x7)] → hm_I D s0 s (mm_h dA h0 r M st) z0 H locs → W p l e { frames := 1, cells := 0, slots := 0, locals := 22 } s m ([.ref r, .int y1, .int y2, .int y3] : List Value).toArray below meth c H locs 0 0 (MQ below (ht_Q D s0 (fun vv h1 z1 => vv = none ∧ h1 = mm_h dA h0 r M q ∧ z1 = z0)) ([.ref r, .int y1, .int y2, .int y3] : List Value).toArray s 0 0 (fun q => s0.heap.size ≤ q)) (F0 m 33 ls [])) → ∀ (ls : Array Slot) (x1 : Int32) (x2 : Int32) (x4 : Int32) (x5 : Int32) (x6 : Int32) (x7 : Int32) (st : mT) (H : Heap) (locs : List Loc), g_between_209 k33 x1 x2 x4 x5 x6 x7 st = some q → lv_has ls 12 [(0, .ref r), (1, .int x1), (2, .int x2), (4, .int x4), (5, .int x5), (6, .int x6), (7, .int x7)] → hm_I D s0 s (mm_h dA h0 r M st) z0 H locs → W p l e { frames := 1, cells := 0, slots := 0, locals := 22 } s m ([.ref r, .int y1, .int y2, .int y3] : List Value).toArray below meth c H locs 0 0 (MQ below (ht_Q D s0 (fun vv h1 z1 => vv = none ∧ h1 = mm_h dA h0 r M q ∧ z1 = z0)) ([.ref r, .int y1, .int y2, .int y3] : List Value).toArray s 0 0 (fun q => s0.heap.size ≤ q)) (F0 m 209 ls []) := by
    intro k33 hk33 ls x1 x2 x4 x5 x6 x7 st H locs hF hl I
    unfold g_between_209 at hF
    refine lv_iload hx hb d69_209 (lv_at hl 4 rfl) ?_
    refine lv_iconst (v := 1) hx hb d69_211 (by decide) ?_
    refine lv_iadd hx hb d69_212 ?_
    refine lv_goto hx hb d69_213 rfl ?_
    exact b217 k33 hk33 ls x1 x2 x4 x6 x7 (x5 + 1) st _ _ hF (hl.sub [0, 1, 2, 3, 5, 6] rfl) I
  have b192 : ∀ (k33 : Int32 → Int32 → Int32 → Int32 → Int32 → Int32 → mT → Option (mT)), (∀ (ls : Array Slot) (x1 : Int32) (x2 : Int32) (x4 : Int32) (x5 : Int32) (x6 : Int32) (x7 : Int32) (st : mT) (H : Heap) (locs : List Loc), k33 x1 x2 x4 x5 x6 x7 st = some q → lv_has ls 12 [(0, .ref r), (1, .int x1), (2, .int x2), (4, .int x4), (5, .int x5), (6, .int x6), (7, .int x7)] → hm_I D s0 s (mm_h dA h0 r M st) z0 H locs → W p l e { frames := 1, cells := 0, slots := 0, locals := 22 } s m ([.ref r, .int y1, .int y2, .int y3] : List Value).toArray below meth c H locs 0 0 (MQ below (ht_Q D s0 (fun vv h1 z1 => vv = none ∧ h1 = mm_h dA h0 r M q ∧ z1 = z0)) ([.ref r, .int y1, .int y2, .int y3] : List Value).toArray s 0 0 (fun q => s0.heap.size ≤ q)) (F0 m 33 ls [])) → ∀ (ls : Array Slot) (x1 : Int32) (x2 : Int32) (x5 : Int32) (x6 : Int32) (x7 : Int32) (x8 : Int32) (x9 : Int32) (w0 : Int32) (st : mT) (H : Heap) (locs : List Loc), g_between_192 k33 x1 x2 x5 x6 x7 x8 x9 w0 st = some q → lv_has ls 12 [(0, .ref r), (1, .int x1), (2, .int x2), (5, .int x5), (6, .int x6), (7, .int x7), (8, .int x8), (9, .int x9)] → hm_I D s0 s (mm_h dA h0 r M st) z0 H locs → W p l e { frames := 1, cells := 0, slots := 0, locals := 22 } s m ([.ref r, .int y1, .int y2, .int y3] : List Value).toArray below meth c H locs 0 0 (MQ below (ht_Q D s0 (fun vv h1 z1 => vv = none ∧ h1 = mm_h dA h0 r M q ∧ z1 = z0)) ([.ref r, .int y1, .int y2, .int y3] : List Value).toArray s 0 0 (fun q => s0.heap.size ≤ q)) (F0 m 192 ls [.int w0]) := by
    intro k33 hk33 ls x1 x2 x5 x6 x7 x8 x9 w0 st H locs hF hl I
    unfold g_between_192 at hF
    refine lv_istore hx hb d69_192 hl (by decide) rfl (fun ls hl => ?_)
    have hl : lv_has ls 12 [(4, .int w0), (0, .ref r), (1, .int x1), (2, .int x2), (5, .int x5), (6, .int x6), (7, .int x7), (8, .int x8), (9, .int x9)] := hl
    refine lv_iload hx hb d69_194 (lv_at hl 7 rfl) ?_
    refine lv_iload hx hb d69_196 (lv_at hl 8 rfl) ?_
    refine lv_icmp_eq hx hb d69_198 rfl (fun h9 => ?_) (fun h9 => ?_)
    · have hF := (if_pos h9).symm.trans hF
      exact b209 k33 hk33 ls x1 x2 w0 x5 x6 x7 st _ _ hF (hl.sub [1, 2, 3, 0, 4, 5, 6] rfl) I
    · have hF := (if_neg h9).symm.trans hF
      refine lv_iload hx hb d69_201 (lv_at hl 7 rfl) ?_
      obtain ⟨q10, e9, hF⟩ := mm_bd hF
      refine ht_S (rest := []) (as := [.int x8]) X hl (cm_odd l D dA s0 hE h0 r M hM z0 x8 st q10 e9) (List.forall_mem_cons.mpr ⟨ms_k1639, List.forall_mem_cons.mpr ⟨ms_k1640, List.forall_mem_cons.mpr ⟨ms_k7, List.forall_mem_cons.mpr ⟨ms_k1641, fun _ h => absurd h List.not_mem_nil⟩⟩⟩⟩) ⟨by decide +kernel, by decide +kernel, (by decide +kernel : (parseMethodDescriptor "(I)Z").map (fun d => d.parameters.length) = some 1)⟩ I ⟨rfl, rfl⟩ ⟨⟨Nat.le_of_ble_eq_true rfl, Nat.le_of_ble_eq_true rfl⟩, Nat.le_of_ble_eq_true rfl, Nat.le_of_ble_eq_true rfl⟩ rfl (Nat.le_of_ble_eq_true rfl) d69_203 (fun vv h1 z1 H locs hR I9 => ?_)
      obtain ⟨e1, e2, e3⟩ := hR
      rw [e2, e3] at I9
      clear I e2 e3 e9
      have I := I9
      clear I9
      subst e1
      refine W.eq (g2 := F0 m 206 ls [.int q10.1]) rfl ?_
      refine lv_if_eq hx hb d69_206 rfl (fun h9 => ?_) (fun h9 => ?_)
      · have hF := (if_pos h9).symm.trans hF
        refine lv_iconst (v := (-1)) hx hb d69_216 (by decide) ?_
        exact b217 k33 hk33 ls x1 x2 w0 x6 x7 (-1) q10.2 _ _ hF (hl.sub [1, 2, 3, 0, 5, 6] rfl) I
      · have hF := (if_neg h9).symm.trans hF
        exact b209 k33 hk33 ls x1 x2 w0 x5 x6 x7 q10.2 _ _ hF (hl.sub [1, 2, 3, 0, 4, 5, 6] rfl) I
  have b169 : ∀ (k33 : Int32 → Int32 → Int32 → Int32 → Int32 → Int32 → mT → Option (mT)), (∀ (ls : Array Slot) (x1 : Int32) (x2 : Int32) (x4 : Int32) (x5 : Int32) (x6 : Int32) (x7 : Int32) (st : mT) (H : Heap) (locs : List Loc), k33 x1 x2 x4 x5 x6 x7 st = some q → lv_has ls 12 [(0, .ref r), (1, .int x1), (2, .int x2), (4, .int x4), (5, .int x5), (6, .int x6), (7, .int x7)] → hm_I D s0 s (mm_h dA h0 r M st) z0 H locs → W p l e { frames := 1, cells := 0, slots := 0, locals := 22 } s m ([.ref r, .int y1, .int y2, .int y3] : List Value).toArray below meth c H locs 0 0 (MQ below (ht_Q D s0 (fun vv h1 z1 => vv = none ∧ h1 = mm_h dA h0 r M q ∧ z1 = z0)) ([.ref r, .int y1, .int y2, .int y3] : List Value).toArray s 0 0 (fun q => s0.heap.size ≤ q)) (F0 m 33 ls [])) → ∀ (ls : Array Slot) (x1 : Int32) (x2 : Int32) (x4 : Int32) (x5 : Int32) (x6 : Int32) (x7 : Int32) (x8 : Int32) (x9 : Int32) (w0 : Int32) (st : mT) (H : Heap) (locs : List Loc), g_between_169 k33 x1 x2 x4 x5 x6 x7 x8 x9 w0 st = some q → lv_has ls 12 [(0, .ref r), (1, .int x1), (2, .int x2), (4, .int x4), (5, .int x5), (6, .int x6), (7, .int x7), (8, .int x8), (9, .int x9)] → hm_I D s0 s (mm_h dA h0 r M st) z0 H locs → W p l e { frames := 1, cells := 0, slots := 0, locals := 22 } s m ([.ref r, .int y1, .int y2, .int y3] : List Value).toArray below meth c H locs 0 0 (MQ below (ht_Q D s0 (fun vv h1 z1 => vv = none ∧ h1 = mm_h dA h0 r M q ∧ z1 = z0)) ([.ref r, .int y1, .int y2, .int y3] : List Value).toArray s 0 0 (fun q => s0.heap.size ≤ q)) (F0 m 169 ls [.int w0, .ref r]) := by
    intro k33 hk33 ls x1 x2 x4 x5 x6 x7 x8 x9 w0 st H locs hF hl I
    unfold g_between_169 at hF
    obtain ⟨q8, e9, hF⟩ := mm_bd hF
    refine ht_V (C := "MarkupStoreModel") (rest := []) (as := [.int w0]) X hl (cm_tailBy l D dA s0 hE h0 r M hM z0 w0 st q8 e9) (List.forall_mem_cons.mpr ⟨ms_k1642, List.forall_mem_cons.mpr ⟨ms_k1644, List.forall_mem_cons.mpr ⟨ms_p75, List.forall_mem_cons.mpr ⟨ms_k7, List.forall_mem_cons.mpr ⟨ms_k1645, fun _ h => absurd h List.not_mem_nil⟩⟩⟩⟩⟩) ⟨rfl, by decide +kernel, by decide +kernel, (by decide +kernel : (parseMethodDescriptor "(I)V").map (fun d => d.parameters.length) = some 1)⟩ (hm_recv hK I rfl mm_hr) I ⟨rfl, rfl⟩ ⟨⟨Nat.le_of_ble_eq_true rfl, Nat.le_of_ble_eq_true rfl⟩, Nat.le_of_ble_eq_true rfl, Nat.le_of_ble_eq_true rfl⟩ rfl (Nat.le_of_ble_eq_true rfl) d69_169 (fun vv h1 z1 H locs hR I9 => ?_)
    obtain ⟨e1, e2, e3⟩ := hR
    rw [e2, e3] at I9
    clear I e2 e3 e9
    have I := I9
    clear I9
    subst e1
    refine W.eq (g2 := F0 m 172 ls []) rfl ?_
    refine lv_iload hx hb d69_172 (lv_at hl 3 rfl) ?_
    refine lv_iconst (v := 1) hx hb d69_174 (by decide) ?_
    refine lv_iadd hx hb d69_175 ?_
    refine lv_istore hx hb d69_176 hl (by decide) rfl (fun ls hl => ?_)
    have hl : lv_has ls 12 [(11, .int (x4 + 1)), (0, .ref r), (1, .int x1), (2, .int x2), (4, .int x4), (5, .int x5), (6, .int x6), (7, .int x7), (8, .int x8), (9, .int x9)] := hl
    refine lv_iload hx hb d69_178 (lv_at hl 8 rfl) ?_
    obtain ⟨q9, e9, hF⟩ := mm_bd hF
    refine ht_S (rest := []) (as := [.int x8]) X hl (cm_odd l D dA s0 hE h0 r M hM z0 x8 q8 q9 e9) (List.forall_mem_cons.mpr ⟨ms_k1639, List.forall_mem_cons.mpr ⟨ms_k1640, List.forall_mem_cons.mpr ⟨ms_k7, List.forall_mem_cons.mpr ⟨ms_k1641, fun _ h => absurd h List.not_mem_nil⟩⟩⟩⟩) ⟨by decide +kernel, by decide +kernel, (by decide +kernel : (parseMethodDescriptor "(I)Z").map (fun d => d.parameters.length) = some 1)⟩ I ⟨rfl, rfl⟩ ⟨⟨Nat.le_of_ble_eq_true rfl, Nat.le_of_ble_eq_true rfl⟩, Nat.le_of_ble_eq_true rfl, Nat.le_of_ble_eq_true rfl⟩ rfl (Nat.le_of_ble_eq_true rfl) d69_180 (fun vv h1 z1 H locs hR I9 => ?_)
    obtain ⟨e1, e2, e3⟩ := hR
    rw [e2, e3] at I9
    clear I e2 e3 e9
    have I := I9
    clear I9
    subst e1
    refine W.eq (g2 := F0 m 183 ls [.int q9.1]) rfl ?_
    refine lv_if_eq hx hb d69_183 rfl (fun h9 => ?_) (fun h9 => ?_)
    · have hF := (if_pos h9).symm.trans hF
      refine lv_iload hx hb d69_190 (lv_at hl 0 rfl) ?_
      exact b192 k33 hk33 ls x1 x2 x5 x6 x7 x8 x9 (x4 + 1) q9.2 _ _ hF (hl.sub [1, 2, 3, 5, 6, 7, 8, 9] rfl) I
    · have hF := (if_neg h9).symm.trans hF
      refine lv_iconst (v := (-1)) hx hb d69_186 (by decide) ?_
      refine lv_goto hx hb d69_187 rfl ?_
      exact b192 k33 hk33 ls x1 x2 x5 x6 x7 x8 x9 (-1) q9.2 _ _ hF (hl.sub [1, 2, 3, 5, 6, 7, 8, 9] rfl) I
  have b146 : ∀ (k33 : Int32 → Int32 → Int32 → Int32 → Int32 → Int32 → mT → Option (mT)), (∀ (ls : Array Slot) (x1 : Int32) (x2 : Int32) (x4 : Int32) (x5 : Int32) (x6 : Int32) (x7 : Int32) (st : mT) (H : Heap) (locs : List Loc), k33 x1 x2 x4 x5 x6 x7 st = some q → lv_has ls 12 [(0, .ref r), (1, .int x1), (2, .int x2), (4, .int x4), (5, .int x5), (6, .int x6), (7, .int x7)] → hm_I D s0 s (mm_h dA h0 r M st) z0 H locs → W p l e { frames := 1, cells := 0, slots := 0, locals := 22 } s m ([.ref r, .int y1, .int y2, .int y3] : List Value).toArray below meth c H locs 0 0 (MQ below (ht_Q D s0 (fun vv h1 z1 => vv = none ∧ h1 = mm_h dA h0 r M q ∧ z1 = z0)) ([.ref r, .int y1, .int y2, .int y3] : List Value).toArray s 0 0 (fun q => s0.heap.size ≤ q)) (F0 m 33 ls [])) → ∀ (ls : Array Slot) (x1 : Int32) (x2 : Int32) (x4 : Int32) (x5 : Int32) (x7 : Int32) (x8 : Int32) (x9 : Int32) (x10 : Int32) (w0 : Int32) (st : mT) (H : Heap) (locs : List Loc), g_between_146 k33 x1 x2 x4 x5 x7 x8 x9 x10 w0 st = some q → lv_has ls 12 [(0, .ref r), (1, .int x1), (2, .int x2), (4, .int x4), (5, .int x5), (7, .int x7), (8, .int x8), (9, .int x9), (10, .int x10)] → hm_I D s0 s (mm_h dA h0 r M st) z0 H locs → W p l e { frames := 1, cells := 0, slots := 0, locals := 22 } s m ([.ref r, .int y1, .int y2, .int y3] : List Value).toArray below meth c H locs 0 0 (MQ below (ht_Q D s0 (fun vv h1 z1 => vv = none ∧ h1 = mm_h dA h0 r M q ∧ z1 = z0)) ([.ref r, .int y1, .int y2, .int y3] : List Value).toArray s 0 0 (fun q => s0.heap.size ≤ q)) (F0 m 146 ls [.int w0]) := by
    intro k33 hk33 ls x1 x2 x4 x5 x7 x8 x9 x10 w0 st H locs hF hl I
    unfold g_between_146 at hF
    refine lv_istore hx hb d69_146 hl (by decide) rfl (fun ls hl => ?_)
    have hl : lv_has ls 12 [(6, .int w0), (0, .ref r), (1, .int x1), (2, .int x2), (4, .int x4), (5, .int x5), (7, .int x7), (8, .int x8), (9, .int x9), (10, .int x10)] := hl
    refine lv_iload hx hb d69_148 (lv_at hl 0 rfl) ?_
    refine lv_if_eq hx hb d69_150 rfl (fun h9 => ?_) (fun h9 => ?_)
    · have hF := (if_pos h9).symm.trans hF
      refine lv_iload hx hb d69_222 (lv_at hl 4 rfl) ?_
      refine lv_if_lt hx hb d69_224 rfl (fun h9 => ?_) (fun h9 => ?_)
      · have hF := (if_pos h9).symm.trans hF
        exact b255 k33 hk33 ls x1 x2 x4 x5 w0 x7 x9 x10 st _ _ hF (hl.sub [1, 2, 3, 4, 5, 0, 6, 8, 9] rfl) I
      · have hF := (if_neg h9).symm.trans hF
        refine lv_iload hx hb d69_227 (lv_at hl 5 rfl) ?_
        refine lv_if_lt hx hb d69_229 rfl (fun h9 => ?_) (fun h9 => ?_)
        · have hF := (if_pos h9).symm.trans hF
          exact b255 k33 hk33 ls x1 x2 x4 x5 w0 x7 x9 x10 st _ _ hF (hl.sub [1, 2, 3, 4, 5, 0, 6, 8, 9] rfl) I
        · have hF := (if_neg h9).symm.trans hF
          refine lv_iload hx hb d69_232 (lv_at hl 9 rfl) ?_
          refine lv_iload hx hb d69_234 (lv_at hl 8 rfl) ?_
          refine lv_icmp_lt hx hb d69_236 rfl (fun h9 => ?_) (fun h9 => ?_)
          · have hF := (if_pos h9).symm.trans hF
            exact b255 k33 hk33 ls x1 x2 x4 x5 w0 x7 x9 x10 st _ _ hF (hl.sub [1, 2, 3, 4, 5, 0, 6, 8, 9] rfl) I
          · have hF := (if_neg h9).symm.trans hF
            refine lv_aload_n hx hb d69_239 rfl (lv_at hl 1 rfl) ?_
            refine lv_iload hx hb d69_240 (lv_at hl 7 rfl) ?_
            refine lv_iconst (v := 1) hx hb d69_242 (by decide) ?_
            refine lv_iadd hx hb d69_243 ?_
            obtain ⟨q5, e9, hF⟩ := mm_bd hF
            refine ht_V (C := "MarkupStoreModel") (rest := []) (as := [.int (x8 + 1)]) X hl (cm_tailBy l D dA s0 hE h0 r M hM z0 (x8 + 1) st q5 e9) (List.forall_mem_cons.mpr ⟨ms_k1642, List.forall_mem_cons.mpr ⟨ms_k1644, List.forall_mem_cons.mpr ⟨ms_p75, List.forall_mem_cons.mpr ⟨ms_k7, List.forall_mem_cons.mpr ⟨ms_k1645, fun _ h => absurd h List.not_mem_nil⟩⟩⟩⟩⟩) ⟨rfl, by decide +kernel, by decide +kernel, (by decide +kernel : (parseMethodDescriptor "(I)V").map (fun d => d.parameters.length) = some 1)⟩ (hm_recv hK I rfl mm_hr) I ⟨rfl, rfl⟩ ⟨⟨Nat.le_of_ble_eq_true rfl, Nat.le_of_ble_eq_true rfl⟩, Nat.le_of_ble_eq_true rfl, Nat.le_of_ble_eq_true rfl⟩ rfl (Nat.le_of_ble_eq_true rfl) d69_244 (fun vv h1 z1 H locs hR I9 => ?_)
            obtain ⟨e1, e2, e3⟩ := hR
            rw [e2, e3] at I9
            clear I e2 e3 e9
            have I := I9
            clear I9
            subst e1
            refine W.eq (g2 := F0 m 247 ls []) rfl ?_
            refine lv_aload_n hx hb d69_247 rfl (lv_at hl 1 rfl) ?_
            refine lv_iconst (v := 1) hx hb d69_248 (by decide) ?_
            obtain ⟨q6, e9, hF⟩ := mm_bd hF
            refine ht_V (C := "MarkupStoreModel") (rest := []) (as := [.int 1]) X hl (cm_tailBy l D dA s0 hE h0 r M hM z0 1 q5 q6 e9) (List.forall_mem_cons.mpr ⟨ms_k1642, List.forall_mem_cons.mpr ⟨ms_k1644, List.forall_mem_cons.mpr ⟨ms_p75, List.forall_mem_cons.mpr ⟨ms_k7, List.forall_mem_cons.mpr ⟨ms_k1645, fun _ h => absurd h List.not_mem_nil⟩⟩⟩⟩⟩) ⟨rfl, by decide +kernel, by decide +kernel, (by decide +kernel : (parseMethodDescriptor "(I)V").map (fun d => d.parameters.length) = some 1)⟩ (hm_recv hK I rfl mm_hr) I ⟨rfl, rfl⟩ ⟨⟨Nat.le_of_ble_eq_true rfl, Nat.le_of_ble_eq_true rfl⟩, Nat.le_of_ble_eq_true rfl, Nat.le_of_ble_eq_true rfl⟩ rfl (Nat.le_of_ble_eq_true rfl) d69_249 (fun vv h1 z1 H locs hR I9 => ?_)
            obtain ⟨e1, e2, e3⟩ := hR
            rw [e2, e3] at I9
            clear I e2 e3 e9
            have I := I9
            clear I9
            subst e1
            refine W.eq (g2 := F0 m 252 ls []) rfl ?_
            refine lv_goto hx hb d69_252 rfl ?_
            exact b297 k33 hk33 ls x1 x2 x4 x5 w0 x7 q6 _ _ hF (hl.sub [1, 2, 3, 4, 5, 0, 6] rfl) I
    · have hF := (if_neg h9).symm.trans hF
      refine lv_aload_n hx hb d69_153 rfl (lv_at hl 1 rfl) ?_
      refine lv_iload hx hb d69_154 (lv_at hl 7 rfl) ?_
      obtain ⟨q7, e9, hF⟩ := mm_bd hF
      refine ht_S (rest := [.ref r]) (as := [.int x8]) X hl (cm_odd l D dA s0 hE h0 r M hM z0 x8 st q7 e9) (List.forall_mem_cons.mpr ⟨ms_k1639, List.forall_mem_cons.mpr ⟨ms_k1640, List.forall_mem_cons.mpr ⟨ms_k7, List.forall_mem_cons.mpr ⟨ms_k1641, fun _ h => absurd h List.not_mem_nil⟩⟩⟩⟩) ⟨by decide +kernel, by decide +kernel, (by decide +kernel : (parseMethodDescriptor "(I)Z").map (fun d => d.parameters.length) = some 1)⟩ I ⟨rfl, rfl⟩ ⟨⟨Nat.le_of_ble_eq_true rfl, Nat.le_of_ble_eq_true rfl⟩, Nat.le_of_ble_eq_true rfl, Nat.le_of_ble_eq_true rfl⟩ rfl (Nat.le_of_ble_eq_true rfl) d69_156 (fun vv h1 z1 H locs hR I9 => ?_)
      obtain ⟨e1, e2, e3⟩ := hR
      rw [e2, e3] at I9
      clear I e2 e3 e9
      have I := I9
      clear I9
      subst e1
      refine W.eq (g2 := F0 m 159 ls [.int q7.1, .ref r]) rfl ?_
      refine lv_if_eq hx hb d69_159 rfl (fun h9 => ?_) (fun h9 => ?_)
      · have hF := (if_pos h9).symm.trans hF
        refine lv_iload hx hb d69_167 (lv_at hl 7 rfl) ?_
        exact b169 k33 hk33 ls x1 x2 x4 x5 w0 x7 x8 x9 x8 q7.2 _ _ hF (hl.sub [1, 2, 3, 4, 5, 0, 6, 7, 8] rfl) I
      · have hF := (if_neg h9).symm.trans hF
        refine lv_iload hx hb d69_162 (lv_at hl 8 rfl) ?_
        refine lv_goto hx hb d69_164 rfl ?_
        exact b169 k33 hk33 ls x1 x2 x4 x5 w0 x7 x8 x9 x9 q7.2 _ _ hF (hl.sub [1, 2, 3, 4, 5, 0, 6, 7, 8] rfl) I
  have b145 : ∀ (k33 : Int32 → Int32 → Int32 → Int32 → Int32 → Int32 → mT → Option (mT)), (∀ (ls : Array Slot) (x1 : Int32) (x2 : Int32) (x4 : Int32) (x5 : Int32) (x6 : Int32) (x7 : Int32) (st : mT) (H : Heap) (locs : List Loc), k33 x1 x2 x4 x5 x6 x7 st = some q → lv_has ls 12 [(0, .ref r), (1, .int x1), (2, .int x2), (4, .int x4), (5, .int x5), (6, .int x6), (7, .int x7)] → hm_I D s0 s (mm_h dA h0 r M st) z0 H locs → W p l e { frames := 1, cells := 0, slots := 0, locals := 22 } s m ([.ref r, .int y1, .int y2, .int y3] : List Value).toArray below meth c H locs 0 0 (MQ below (ht_Q D s0 (fun vv h1 z1 => vv = none ∧ h1 = mm_h dA h0 r M q ∧ z1 = z0)) ([.ref r, .int y1, .int y2, .int y3] : List Value).toArray s 0 0 (fun q => s0.heap.size ≤ q)) (F0 m 33 ls [])) → ∀ (ls : Array Slot) (x1 : Int32) (x2 : Int32) (x4 : Int32) (x5 : Int32) (x7 : Int32) (x8 : Int32) (x9 : Int32) (x10 : Int32) (st : mT) (H : Heap) (locs : List Loc), g_between_145 k33 x1 x2 x4 x5 x7 x8 x9 x10 st = some q → lv_has ls 12 [(0, .ref r), (1, .int x1), (2, .int x2), (4, .int x4), (5, .int x5), (7, .int x7), (8, .int x8), (9, .int x9), (10, .int x10)] → hm_I D s0 s (mm_h dA h0 r M st) z0 H locs → W p l e { frames := 1, cells := 0, slots := 0, locals := 22 } s m ([.ref r, .int y1, .int y2, .int y3] : List Value).toArray below meth c H locs 0 0 (MQ below (ht_Q D s0 (fun vv h1 z1 => vv = none ∧ h1 = mm_h dA h0 r M q ∧ z1 = z0)) ([.ref r, .int y1, .int y2, .int y3] : List Value).toArray s 0 0 (fun q => s0.heap.size ≤ q)) (F0 m 145 ls []) := by
    intro k33 hk33 ls x1 x2 x4 x5 x7 x8 x9 x10 st H locs hF hl I
    unfold g_between_145 at hF
    refine lv_iconst (v := 0) hx hb d69_145 (by decide) ?_
    exact b146 k33 hk33 ls x1 x2 x4 x5 x7 x8 x9 x10 0 st _ _ hF (hl.sub [0, 1, 2, 3, 4, 5, 6, 7, 8] rfl) I
  have b141 : ∀ (k33 : Int32 → Int32 → Int32 → Int32 → Int32 → Int32 → mT → Option (mT)), (∀ (ls : Array Slot) (x1 : Int32) (x2 : Int32) (x4 : Int32) (x5 : Int32) (x6 : Int32) (x7 : Int32) (st : mT) (H : Heap) (locs : List Loc), k33 x1 x2 x4 x5 x6 x7 st = some q → lv_has ls 12 [(0, .ref r), (1, .int x1), (2, .int x2), (4, .int x4), (5, .int x5), (6, .int x6), (7, .int x7)] → hm_I D s0 s (mm_h dA h0 r M st) z0 H locs → W p l e { frames := 1, cells := 0, slots := 0, locals := 22 } s m ([.ref r, .int y1, .int y2, .int y3] : List Value).toArray below meth c H locs 0 0 (MQ below (ht_Q D s0 (fun vv h1 z1 => vv = none ∧ h1 = mm_h dA h0 r M q ∧ z1 = z0)) ([.ref r, .int y1, .int y2, .int y3] : List Value).toArray s 0 0 (fun q => s0.heap.size ≤ q)) (F0 m 33 ls [])) → ∀ (ls : Array Slot) (x1 : Int32) (x2 : Int32) (x4 : Int32) (x5 : Int32) (x7 : Int32) (x8 : Int32) (x9 : Int32) (x10 : Int32) (st : mT) (H : Heap) (locs : List Loc), g_between_141 k33 x1 x2 x4 x5 x7 x8 x9 x10 st = some q → lv_has ls 12 [(0, .ref r), (1, .int x1), (2, .int x2), (4, .int x4), (5, .int x5), (7, .int x7), (8, .int x8), (9, .int x9), (10, .int x10)] → hm_I D s0 s (mm_h dA h0 r M st) z0 H locs → W p l e { frames := 1, cells := 0, slots := 0, locals := 22 } s m ([.ref r, .int y1, .int y2, .int y3] : List Value).toArray below meth c H locs 0 0 (MQ below (ht_Q D s0 (fun vv h1 z1 => vv = none ∧ h1 = mm_h dA h0 r M q ∧ z1 = z0)) ([.ref r, .int y1, .int y2, .int y3] : List Value).toArray s 0 0 (fun q => s0.heap.size ≤ q)) (F0 m 141 ls []) := by
    intro k33 hk33 ls x1 x2 x4 x5 x7 x8 x9 x10 st H locs hF hl I
    unfold g_between_141 at hF
    refine lv_iconst (v := 1) hx hb d69_141 (by decide) ?_
    refine lv_goto hx hb d69_142 rfl ?_
    exact b146 k33 hk33 ls x1 x2 x4 x5 x7 x8 x9 x10 1 st _ _ hF (hl.sub [0, 1, 2, 3, 4, 5, 6, 7, 8] rfl) I
  have b106 : ∀ (k33 : Int32 → Int32 → Int32 → Int32 → Int32 → Int32 → mT → Option (mT)), (∀ (ls : Array Slot) (x1 : Int32) (x2 : Int32) (x4 : Int32) (x5 : Int32) (x6 : Int32) (x7 : Int32) (st : mT) (H : Heap) (locs : List Loc), k33 x1 x2 x4 x5 x6 x7 st = some q → lv_has ls 12 [(0, .ref r), (1, .int x1), (2, .int x2), (4, .int x4), (5, .int x5), (6, .int x6), (7, .int x7)] → hm_I D s0 s (mm_h dA h0 r M st) z0 H locs → W p l e { frames := 1, cells := 0, slots := 0, locals := 22 } s m ([.ref r, .int y1, .int y2, .int y3] : List Value).toArray below meth c H locs 0 0 (MQ below (ht_Q D s0 (fun vv h1 z1 => vv = none ∧ h1 = mm_h dA h0 r M q ∧ z1 = z0)) ([.ref r, .int y1, .int y2, .int y3] : List Value).toArray s 0 0 (fun q => s0.heap.size ≤ q)) (F0 m 33 ls [])) → ∀ (ls : Array Slot) (x1 : Int32) (x2 : Int32) (x4 : Int32) (x5 : Int32) (x7 : Int32) (x8 : Int32) (x9 : Int32) (w0 : Int32) (st : mT) (H : Heap) (locs : List Loc), g_between_106 k33 x1 x2 x4 x5 x7 x8 x9 w0 st = some q → lv_has ls 12 [(0, .ref r), (1, .int x1), (2, .int x2), (4, .int x4), (5, .int x5), (7, .int x7), (8, .int x8), (9, .int x9)] → hm_I D s0 s (mm_h dA h0 r M st) z0 H locs → W p l e { frames := 1, cells := 0, slots := 0, locals := 22 } s m ([.ref r, .int y1, .int y2, .int y3] : List Value).toArray below meth c H locs 0 0 (MQ below (ht_Q D s0 (fun vv h1 z1 => vv = none ∧ h1 = mm_h dA h0 r M q ∧ z1 = z0)) ([.ref r, .int y1, .int y2, .int y3] : List Value).toArray s 0 0 (fun q => s0.heap.size ≤ q)) (F0 m 106 ls [.int w0]) := by
    intro k33 hk33 ls x1 x2 x4 x5 x7 x8 x9 w0 st H locs hF hl I
    unfold g_between_106 at hF
    refine lv_istore hx hb d69_106 hl (by decide) rfl (fun ls hl => ?_)
    have hl : lv_has ls 12 [(10, .int w0), (0, .ref r), (1, .int x1), (2, .int x2), (4, .int x4), (5, .int x5), (7, .int x7), (8, .int x8), (9, .int x9)] := hl
    refine lv_iload hx hb d69_108 (lv_at hl 4 rfl) ?_
    refine lv_if_lt hx hb d69_110 rfl (fun h9 => ?_) (fun h9 => ?_)
    · have hF := (if_pos h9).symm.trans hF
      exact b145 k33 hk33 ls x1 x2 x4 x5 x7 x8 x9 w0 st _ _ hF (hl.sub [1, 2, 3, 4, 5, 6, 7, 8, 0] rfl) I
    · have hF := (if_neg h9).symm.trans hF
      refine lv_iload hx hb d69_113 (lv_at hl 5 rfl) ?_
      refine lv_if_lt hx hb d69_115 rfl (fun h9 => ?_) (fun h9 => ?_)
      · have hF := (if_pos h9).symm.trans hF
        exact b145 k33 hk33 ls x1 x2 x4 x5 x7 x8 x9 w0 st _ _ hF (hl.sub [1, 2, 3, 4, 5, 6, 7, 8, 0] rfl) I
      · have hF := (if_neg h9).symm.trans hF
        refine lv_iload hx hb d69_118 (lv_at hl 0 rfl) ?_
        refine lv_iload hx hb d69_120 (lv_at hl 8 rfl) ?_
        refine lv_icmp_lt hx hb d69_122 rfl (fun h9 => ?_) (fun h9 => ?_)
        · have hF := (if_pos h9).symm.trans hF
          exact b145 k33 hk33 ls x1 x2 x4 x5 x7 x8 x9 w0 st _ _ hF (hl.sub [1, 2, 3, 4, 5, 6, 7, 8, 0] rfl) I
        · have hF := (if_neg h9).symm.trans hF
          refine lv_iload hx hb d69_125 (lv_at hl 7 rfl) ?_
          obtain ⟨q11, e9, hF⟩ := mm_bd hF
          refine ht_S (rest := []) (as := [.int x8]) X hl (cm_odd l D dA s0 hE h0 r M hM z0 x8 st q11 e9) (List.forall_mem_cons.mpr ⟨ms_k1639, List.forall_mem_cons.mpr ⟨ms_k1640, List.forall_mem_cons.mpr ⟨ms_k7, List.forall_mem_cons.mpr ⟨ms_k1641, fun _ h => absurd h List.not_mem_nil⟩⟩⟩⟩) ⟨by decide +kernel, by decide +kernel, (by decide +kernel : (parseMethodDescriptor "(I)Z").map (fun d => d.parameters.length) = some 1)⟩ I ⟨rfl, rfl⟩ ⟨⟨Nat.le_of_ble_eq_true rfl, Nat.le_of_ble_eq_true rfl⟩, Nat.le_of_ble_eq_true rfl, Nat.le_of_ble_eq_true rfl⟩ rfl (Nat.le_of_ble_eq_true rfl) d69_127 (fun vv h1 z1 H locs hR I9 => ?_)
          obtain ⟨e1, e2, e3⟩ := hR
          rw [e2, e3] at I9
          clear I e2 e3 e9
          have I := I9
          clear I9
          subst e1
          refine W.eq (g2 := F0 m 130 ls [.int q11.1]) rfl ?_
          refine lv_if_eq hx hb d69_130 rfl (fun h9 => ?_) (fun h9 => ?_)
          · have hF := (if_pos h9).symm.trans hF
            exact b141 k33 hk33 ls x1 x2 x4 x5 x7 x8 x9 w0 q11.2 _ _ hF (hl.sub [1, 2, 3, 4, 5, 6, 7, 8, 0] rfl) I
          · have hF := (if_neg h9).symm.trans hF
            refine lv_iload hx hb d69_133 (lv_at hl 8 rfl) ?_
            obtain ⟨q12, e9, hF⟩ := mm_bd hF
            refine ht_S (rest := []) (as := [.int x9]) X hl (cm_odd l D dA s0 hE h0 r M hM z0 x9 q11.2 q12 e9) (List.forall_mem_cons.mpr ⟨ms_k1639, List.forall_mem_cons.mpr ⟨ms_k1640, List.forall_mem_cons.mpr ⟨ms_k7, List.forall_mem_cons.mpr ⟨ms_k1641, fun _ h => absurd h List.not_mem_nil⟩⟩⟩⟩) ⟨by decide +kernel, by decide +kernel, (by decide +kernel : (parseMethodDescriptor "(I)Z").map (fun d => d.parameters.length) = some 1)⟩ I ⟨rfl, rfl⟩ ⟨⟨Nat.le_of_ble_eq_true rfl, Nat.le_of_ble_eq_true rfl⟩, Nat.le_of_ble_eq_true rfl, Nat.le_of_ble_eq_true rfl⟩ rfl (Nat.le_of_ble_eq_true rfl) d69_135 (fun vv h1 z1 H locs hR I9 => ?_)
            obtain ⟨e1, e2, e3⟩ := hR
            rw [e2, e3] at I9
            clear I e2 e3 e9
            have I := I9
            clear I9
            subst e1
            refine W.eq (g2 := F0 m 138 ls [.int q12.1]) rfl ?_
            refine lv_if_ne hx hb d69_138 rfl (fun h9 => ?_) (fun h9 => ?_)
            · have hF := (if_neg h9).symm.trans hF
              exact b145 k33 hk33 ls x1 x2 x4 x5 x7 x8 x9 w0 q12.2 _ _ hF (hl.sub [1, 2, 3, 4, 5, 6, 7, 8, 0] rfl) I
            · have hF := (if_pos h9).symm.trans hF
              exact b141 k33 hk33 ls x1 x2 x4 x5 x7 x8 x9 w0 q12.2 _ _ hF (hl.sub [1, 2, 3, 4, 5, 6, 7, 8, 0] rfl) I
  have b85 : ∀ (k33 : Int32 → Int32 → Int32 → Int32 → Int32 → Int32 → mT → Option (mT)), (∀ (ls : Array Slot) (x1 : Int32) (x2 : Int32) (x4 : Int32) (x5 : Int32) (x6 : Int32) (x7 : Int32) (st : mT) (H : Heap) (locs : List Loc), k33 x1 x2 x4 x5 x6 x7 st = some q → lv_has ls 12 [(0, .ref r), (1, .int x1), (2, .int x2), (4, .int x4), (5, .int x5), (6, .int x6), (7, .int x7)] → hm_I D s0 s (mm_h dA h0 r M st) z0 H locs → W p l e { frames := 1, cells := 0, slots := 0, locals := 22 } s m ([.ref r, .int y1, .int y2, .int y3] : List Value).toArray below meth c H locs 0 0 (MQ below (ht_Q D s0 (fun vv h1 z1 => vv = none ∧ h1 = mm_h dA h0 r M q ∧ z1 = z0)) ([.ref r, .int y1, .int y2, .int y3] : List Value).toArray s 0 0 (fun q => s0.heap.size ≤ q)) (F0 m 33 ls [])) → ∀ (ls : Array Slot) (x1 : Int32) (x2 : Int32) (x4 : Int32) (x5 : Int32) (x7 : Int32) (x8 : Int32) (w0 : Int32) (st : mT) (H : Heap) (locs : List Loc), g_between_85 k33 x1 x2 x4 x5 x7 x8 w0 st = some q → lv_has ls 12 [(0, .ref r), (1, .int x1), (2, .int x2), (4, .int x4), (5, .int x5), (7, .int x7), (8, .int x8)] → hm_I D s0 s (mm_h dA h0 r M st) z0 H locs → W p l e { frames := 1, cells := 0, slots := 0, locals := 22 } s m ([.ref r, .int y1, .int y2, .int y3] : List Value).toArray below meth c H locs 0 0 (MQ below (ht_Q D s0 (fun vv h1 z1 => vv = none ∧ h1 = mm_h dA h0 r M q ∧ z1 = z0)) ([.ref r, .int y1, .int y2, .int y3] : List Value).toArray s 0 0 (fun q => s0.heap.size ≤ q)) (F0 m 85 ls [.int w0]) := by
    intro k33 hk33 ls x1 x2 x4 x5 x7 x8 w0 st H locs hF hl I
    unfold g_between_85 at hF
    refine lv_istore hx hb d69_85 hl (by decide) rfl (fun ls hl => ?_)
    have hl : lv_has ls 12 [(9, .int w0), (0, .ref r), (1, .int x1), (2, .int x2), (4, .int x4), (5, .int x5), (7, .int x7), (8, .int x8)] := hl
    refine lv_iload hx hb d69_87 (lv_at hl 7 rfl) ?_
    obtain ⟨q2, e9, hF⟩ := mm_bd hF
    refine ht_S (rest := []) (as := [.int x8]) X hl (cm_odd l D dA s0 hE h0 r M hM z0 x8 st q2 e9) (List.forall_mem_cons.mpr ⟨ms_k1639, List.forall_mem_cons.mpr ⟨ms_k1640, List.forall_mem_cons.mpr ⟨ms_k7, List.forall_mem_cons.mpr ⟨ms_k1641, fun _ h => absurd h List.not_mem_nil⟩⟩⟩⟩) ⟨by decide +kernel, by decide +kernel, (by decide +kernel : (parseMethodDescriptor "(I)Z").map (fun d => d.parameters.length) = some 1)⟩ I ⟨rfl, rfl⟩ ⟨⟨Nat.le_of_ble_eq_true rfl, Nat.le_of_ble_eq_true rfl⟩, Nat.le_of_ble_eq_true rfl, Nat.le_of_ble_eq_true rfl⟩ rfl (Nat.le_of_ble_eq_true rfl) d69_89 (fun vv h1 z1 H locs hR I9 => ?_)
    obtain ⟨e1, e2, e3⟩ := hR
    rw [e2, e3] at I9
    clear I e2 e3 e9
    have I := I9
    clear I9
    subst e1
    refine W.eq (g2 := F0 m 92 ls [.int q2.1]) rfl ?_
    refine lv_if_eq hx hb d69_92 rfl (fun h9 => ?_) (fun h9 => ?_)
    · have hF := (if_pos h9).symm.trans hF
      refine lv_iload hx hb d69_102 (lv_at hl 7 rfl) ?_
      refine lv_iconst (v := 1) hx hb d69_104 (by decide) ?_
      refine lv_iadd hx hb d69_105 ?_
      exact b106 k33 hk33 ls x1 x2 x4 x5 x7 x8 w0 (x8 + 1) q2.2 _ _ hF (hl.sub [1, 2, 3, 4, 5, 6, 7, 0] rfl) I
    · have hF := (if_neg h9).symm.trans hF
      refine lv_iload hx hb d69_95 (lv_at hl 7 rfl) ?_
      refine lv_iconst (v := 2) hx hb d69_97 (by decide) ?_
      refine lv_iadd hx hb d69_98 ?_
      refine lv_goto hx hb d69_99 rfl ?_
      exact b106 k33 hk33 ls x1 x2 x4 x5 x7 x8 w0 (x8 + 2) q2.2 _ _ hF (hl.sub [1, 2, 3, 4, 5, 6, 7, 0] rfl) I
  have b64 : ∀ (k33 : Int32 → Int32 → Int32 → Int32 → Int32 → Int32 → mT → Option (mT)), (∀ (ls : Array Slot) (x1 : Int32) (x2 : Int32) (x4 : Int32) (x5 : Int32) (x6 : Int32) (x7 : Int32) (st : mT) (H : Heap) (locs : List Loc), k33 x1 x2 x4 x5 x6 x7 st = some q → lv_has ls 12 [(0, .ref r), (1, .int x1), (2, .int x2), (4, .int x4), (5, .int x5), (6, .int x6), (7, .int x7)] → hm_I D s0 s (mm_h dA h0 r M st) z0 H locs → W p l e { frames := 1, cells := 0, slots := 0, locals := 22 } s m ([.ref r, .int y1, .int y2, .int y3] : List Value).toArray below meth c H locs 0 0 (MQ below (ht_Q D s0 (fun vv h1 z1 => vv = none ∧ h1 = mm_h dA h0 r M q ∧ z1 = z0)) ([.ref r, .int y1, .int y2, .int y3] : List Value).toArray s 0 0 (fun q => s0.heap.size ≤ q)) (F0 m 33 ls [])) → ∀ (ls : Array Slot) (x1 : Int32) (x2 : Int32) (x4 : Int32) (x5 : Int32) (x7 : Int32) (w0 : Int32) (st : mT) (H : Heap) (locs : List Loc), g_between_64 k33 x1 x2 x4 x5 x7 w0 st = some q → lv_has ls 12 [(0, .ref r), (1, .int x1), (2, .int x2), (4, .int x4), (5, .int x5), (7, .int x7)] → hm_I D s0 s (mm_h dA h0 r M st) z0 H locs → W p l e { frames := 1, cells := 0, slots := 0, locals := 22 } s m ([.ref r, .int y1, .int y2, .int y3] : List Value).toArray below meth c H locs 0 0 (MQ below (ht_Q D s0 (fun vv h1 z1 => vv = none ∧ h1 = mm_h dA h0 r M q ∧ z1 = z0)) ([.ref r, .int y1, .int y2, .int y3] : List Value).toArray s 0 0 (fun q => s0.heap.size ≤ q)) (F0 m 64 ls [.int w0]) := by
    intro k33 hk33 ls x1 x2 x4 x5 x7 w0 st H locs hF hl I
    unfold g_between_64 at hF
    refine lv_istore hx hb d69_64 hl (by decide) rfl (fun ls hl => ?_)
    have hl : lv_has ls 12 [(8, .int w0), (0, .ref r), (1, .int x1), (2, .int x2), (4, .int x4), (5, .int x5), (7, .int x7)] := hl
    refine lv_iload hx hb d69_66 (lv_at hl 5 rfl) ?_
    refine lv_if_lt hx hb d69_68 rfl (fun h9 => ?_) (fun h9 => ?_)
    · have hF := (if_pos h9).symm.trans hF
      refine lv_iconst (v := 0) hx hb d69_84 (by decide) ?_
      exact b85 k33 hk33 ls x1 x2 x4 x5 x7 w0 0 st _ _ hF (hl.sub [1, 2, 3, 4, 5, 6, 0] rfl) I
    · have hF := (if_neg h9).symm.trans hF
      refine lv_aload_n hx hb d69_71 rfl (lv_at hl 1 rfl) ?_
      refine lv_iload_n hx hb d69_72 rfl (lv_at hl 3 rfl) ?_
      refine lv_bipush (v := 28) hx hb d69_73 (by decide) ?_
      refine lv_iload hx hb d69_75 (lv_at hl 5 rfl) ?_
      refine lv_iadd hx hb d69_77 ?_
      obtain ⟨q13, e9, hF⟩ := mm_bd hF
      refine ht_V (C := "MarkupStoreModel") (rest := []) (as := [.int x2, .int (28 + x5)]) X hl (cm_f l D dA s0 hE h0 r M hM z0 x2 (28 + x5) st q13 e9) (List.forall_mem_cons.mpr ⟨ms_k1587, List.forall_mem_cons.mpr ⟨ms_k1589, List.forall_mem_cons.mpr ⟨ms_p63, List.forall_mem_cons.mpr ⟨ms_k7, List.forall_mem_cons.mpr ⟨ms_k1590, fun _ h => absurd h List.not_mem_nil⟩⟩⟩⟩⟩) ⟨rfl, by decide +kernel, by decide +kernel, (by decide +kernel : (parseMethodDescriptor "(II)I").map (fun d => d.parameters.length) = some 2)⟩ (hm_recv hK I rfl mm_hr) I ⟨rfl, rfl⟩ ⟨⟨Nat.le_of_ble_eq_true rfl, Nat.le_of_ble_eq_true rfl⟩, Nat.le_of_ble_eq_true rfl, Nat.le_of_ble_eq_true rfl⟩ rfl (Nat.le_of_ble_eq_true rfl) d69_78 (fun vv h1 z1 H locs hR I9 => ?_)
      obtain ⟨e1, e2, e3⟩ := hR
      rw [e2, e3] at I9
      clear I e2 e3 e9
      have I := I9
      clear I9
      subst e1
      refine W.eq (g2 := F0 m 81 ls [.int q13.1]) rfl ?_
      refine lv_goto hx hb d69_81 rfl ?_
      exact b85 k33 hk33 ls x1 x2 x4 x5 x7 w0 q13.1 q13.2 _ _ hF (hl.sub [1, 2, 3, 4, 5, 6, 0] rfl) I
  have b33 : ∀ n9 : Nat, ∀ (ls : Array Slot) (x1 : Int32) (x2 : Int32) (x4 : Int32) (x5 : Int32) (x6 : Int32) (x7 : Int32) (st : mT) (H : Heap) (locs : List Loc), g_between_33 n9 x1 x2 x4 x5 x6 x7 st = some q → lv_has ls 12 [(0, .ref r), (1, .int x1), (2, .int x2), (4, .int x4), (5, .int x5), (6, .int x6), (7, .int x7)] → hm_I D s0 s (mm_h dA h0 r M st) z0 H locs → W p l e { frames := 1, cells := 0, slots := 0, locals := 22 } s m ([.ref r, .int y1, .int y2, .int y3] : List Value).toArray below meth c H locs 0 0 (MQ below (ht_Q D s0 (fun vv h1 z1 => vv = none ∧ h1 = mm_h dA h0 r M q ∧ z1 = z0)) ([.ref r, .int y1, .int y2, .int y3] : List Value).toArray s 0 0 (fun q => s0.heap.size ≤ q)) (F0 m 33 ls []) := by
    intro n9
    induction n9 with
    | zero => intro ls x1 x2 x4 x5 x6 x7 st H locs hF; cases hF
    | succ n9 hk33 =>
    intro ls x1 x2 x4 x5 x6 x7 st H locs hF hl I
    unfold g_between_33 at hF
    refine lv_iload hx hb d69_33 (lv_at hl 6 rfl) ?_
    refine lv_bipush (v := 20) hx hb d69_35 (by decide) ?_
    refine lv_icmp_ge hx hb d69_37 rfl (fun h9 => ?_) (fun h9 => ?_)
    · have hF := (if_pos h9).symm.trans hF
      exact ht_vret X d69_303 I (Nat.le_of_ble_eq_true rfl) (Nat.le_of_ble_eq_true rfl) (mm_finV hF)
    · have hF := (if_neg h9).symm.trans hF
      refine lv_iload hx hb d69_40 (lv_at hl 5 rfl) ?_
      refine lv_if_eq hx hb d69_42 rfl (fun h9 => ?_) (fun h9 => ?_)
      · have hF := (if_pos h9).symm.trans hF
        exact ht_vret X d69_303 I (Nat.le_of_ble_eq_true rfl) (Nat.le_of_ble_eq_true rfl) (mm_finV hF)
      · have hF := (if_neg h9).symm.trans hF
        refine lv_iload hx hb d69_45 (lv_at hl 3 rfl) ?_
        refine lv_if_lt hx hb d69_47 rfl (fun h9 => ?_) (fun h9 => ?_)
        · have hF := (if_pos h9).symm.trans hF
          refine lv_iconst (v := 0) hx hb d69_63 (by decide) ?_
          exact b64 (g_between_33 n9) hk33 ls x1 x2 x4 x5 x7 0 st _ _ hF (hl.sub [0, 1, 2, 3, 4, 6] rfl) I
        · have hF := (if_neg h9).symm.trans hF
          refine lv_aload_n hx hb d69_50 rfl (lv_at hl 0 rfl) ?_
          refine lv_iload_n hx hb d69_51 rfl (lv_at hl 1 rfl) ?_
          refine lv_bipush (v := 28) hx hb d69_52 (by decide) ?_
          refine lv_iload hx hb d69_54 (lv_at hl 3 rfl) ?_
          refine lv_iadd hx hb d69_56 ?_
          obtain ⟨q14, e9, hF⟩ := mm_bd hF
          refine ht_V (C := "MarkupStoreModel") (rest := []) (as := [.int x1, .int (28 + x4)]) X hl (cm_f l D dA s0 hE h0 r M hM z0 x1 (28 + x4) st q14 e9) (List.forall_mem_cons.mpr ⟨ms_k1587, List.forall_mem_cons.mpr ⟨ms_k1589, List.forall_mem_cons.mpr ⟨ms_p63, List.forall_mem_cons.mpr ⟨ms_k7, List.forall_mem_cons.mpr ⟨ms_k1590, fun _ h => absurd h List.not_mem_nil⟩⟩⟩⟩⟩) ⟨rfl, by decide +kernel, by decide +kernel, (by decide +kernel : (parseMethodDescriptor "(II)I").map (fun d => d.parameters.length) = some 2)⟩ (hm_recv hK I rfl mm_hr) I ⟨rfl, rfl⟩ ⟨⟨Nat.le_of_ble_eq_true rfl, Nat.le_of_ble_eq_true rfl⟩, Nat.le_of_ble_eq_true rfl, Nat.le_of_ble_eq_true rfl⟩ rfl (Nat.le_of_ble_eq_true rfl) d69_57 (fun vv h1 z1 H locs hR I9 => ?_)
          obtain ⟨e1, e2, e3⟩ := hR
          rw [e2, e3] at I9
          clear I e2 e3 e9
          have I := I9
          clear I9
          subst e1
          refine W.eq (g2 := F0 m 60 ls [.int q14.1]) rfl ?_
          refine lv_goto hx hb d69_60 rfl ?_
          exact b64 (g_between_33 n9) hk33 ls x1 x2 x4 x5 x7 q14.1 q14.2 _ _ hF (hl.sub [0, 1, 2, 3, 4, 6] rfl) I
  have b25 : ∀ (ls : Array Slot) (x1 : Int32) (x2 : Int32) (x4 : Int32) (w0 : Int32) (st : mT) (H : Heap) (locs : List Loc), g_between_25 x1 x2 x4 w0 st = some q → lv_has ls 12 [(0, .ref r), (1, .int x1), (2, .int x2), (4, .int x4)] → hm_I D s0 s (mm_h dA h0 r M st) z0 H locs → W p l e { frames := 1, cells := 0, slots := 0, locals := 22 } s m ([.ref r, .int y1, .int y2, .int y3] : List Value).toArray below meth c H locs 0 0 (MQ below (ht_Q D s0 (fun vv h1 z1 => vv = none ∧ h1 = mm_h dA h0 r M q ∧ z1 = z0)) ([.ref r, .int y1, .int y2, .int y3] : List Value).toArray s 0 0 (fun q => s0.heap.size ≤ q)) (F0 m 25 ls [.int w0]) := by
    intro ls x1 x2 x4 w0 st H locs hF hl I
    unfold g_between_25 at hF
    refine lv_istore hx hb d69_25 hl (by decide) rfl (fun ls hl => ?_)
    have hl : lv_has ls 12 [(5, .int w0), (0, .ref r), (1, .int x1), (2, .int x2), (4, .int x4)] := hl
    refine lv_iconst (v := 1) hx hb d69_27 (by decide) ?_
    refine lv_istore hx hb d69_28 hl (by decide) rfl (fun ls hl => ?_)
    have hl : lv_has ls 12 [(6, .int 1), (5, .int w0), (0, .ref r), (1, .int x1), (2, .int x2), (4, .int x4)] := hl
    refine lv_iconst (v := 0) hx hb d69_30 (by decide) ?_
    refine lv_istore hx hb d69_31 hl (by decide) rfl (fun ls hl => ?_)
    have hl : lv_has ls 12 [(7, .int 0), (6, .int 1), (5, .int w0), (0, .ref r), (1, .int x1), (2, .int x2), (4, .int x4)] := hl
    exact b33 mF ls x1 x2 x4 w0 1 0 st _ _ hF (hl.sub [3, 4, 5, 6, 2, 1, 0] rfl) I
  have b14 : ∀ (ls : Array Slot) (x1 : Int32) (x2 : Int32) (x3 : Int32) (w0 : Int32) (st : mT) (H : Heap) (locs : List Loc), g_between_14 x1 x2 x3 w0 st = some q → lv_has ls 12 [(0, .ref r), (1, .int x1), (2, .int x2), (3, .int x3)] → hm_I D s0 s (mm_h dA h0 r M st) z0 H locs → W p l e { frames := 1, cells := 0, slots := 0, locals := 22 } s m ([.ref r, .int y1, .int y2, .int y3] : List Value).toArray below meth c H locs 0 0 (MQ below (ht_Q D s0 (fun vv h1 z1 => vv = none ∧ h1 = mm_h dA h0 r M q ∧ z1 = z0)) ([.ref r, .int y1, .int y2, .int y3] : List Value).toArray s 0 0 (fun q => s0.heap.size ≤ q)) (F0 m 14 ls [.int w0]) := by
    intro ls x1 x2 x3 w0 st H locs hF hl I
    unfold g_between_14 at hF
    refine lv_istore hx hb d69_14 hl (by decide) rfl (fun ls hl => ?_)
    have hl : lv_has ls 12 [(4, .int w0), (0, .ref r), (1, .int x1), (2, .int x2), (3, .int x3)] := hl
    refine lv_iload_n hx hb d69_16 rfl (lv_at hl 3 rfl) ?_
    refine lv_if_lt hx hb d69_17 rfl (fun h9 => ?_) (fun h9 => ?_)
    · have hF := (if_pos h9).symm.trans hF
      refine lv_iconst (v := (-1)) hx hb d69_24 (by decide) ?_
      exact b25 ls x1 x2 w0 (-1) st _ _ hF (hl.sub [1, 2, 3, 0] rfl) I
    · have hF := (if_neg h9).symm.trans hF
      refine lv_iload_n hx hb d69_20 rfl (lv_at hl 4 rfl) ?_
      refine lv_goto hx hb d69_21 rfl ?_
      exact b25 ls x1 x2 w0 x3 st _ _ hF (hl.sub [1, 2, 3, 0] rfl) I
  have hF := hg
  unfold g_between at hF
  refine lv_aload_n hx hb d69_0 rfl (lv_at hl 0 rfl) ?_
  refine lv_iconst (v := 0) hx hb d69_1 (by decide) ?_
  obtain ⟨st1, e9, hF⟩ := mm_lt_some hF
  refine mm_put (k := 23) (ty := .int) X I (by decide) ms_k1339 rfl rfl (by decide +kernel) ⟨rfl, rfl⟩ rfl e9 d69_2 (fun H locs I => ?_)
  clear e9
  refine lv_iload_n hx hb d69_5 rfl (lv_at hl 1 rfl) ?_
  refine lv_if_lt hx hb d69_6 rfl (fun h9 => ?_) (fun h9 => ?_)
  · have hF := (if_pos h9).symm.trans hF
    refine lv_iconst (v := (-1)) hx hb d69_13 (by decide) ?_
    exact b14 ls y1 y2 y3 (-1) st1 _ _ hF (hl.sub [0, 1, 2, 3] rfl) I
  · have hF := (if_neg h9).symm.trans hF
    refine lv_iload_n hx hb d69_9 rfl (lv_at hl 3 rfl) ?_
    refine lv_goto hx hb d69_10 rfl ?_
    exact b14 ls y1 y2 y3 y3 st1 _ _ hF (hl.sub [0, 1, 2, 3] rfl) I

def g_below_64 (k4 : Int32 → Int32 → mT → Option (Int32 × mT)) (x2 : Int32) (w0 : Int32) (st : mT) : Option (Int32 × mT) := (k4 w0 (x2 + 1) st)
def g_below_28 (k4 : Int32 → Int32 → mT → Option (Int32 × mT)) : Nat → Int32 → Int32 → Int32 → Int32 → mT → Option (Int32 × mT)
  | 0, _, _, _, _, _ => none
  | n9 + 1, x1, x2, x3, x4, st => (if x4 < 0 then (if x3 ≤ x1 then (g_below_64 k4 x2 x1 st) else (g_below_64 k4 x2 x3 st)) else (mm_ld (st.2.1 2) 5120 ((128 * x4) + 2) (fun v2 => ((g_below_28 k4 n9) x1 x2 (x3 + 1) v2 st))))
def g_below_4 : Nat → Int32 → Int32 → mT → Option (Int32 × mT)
  | 0, _, _, _ => none
  | n9 + 1, x1, x2, st => (if (st.1 10) ≤ x2 then (some (x1, st)) else (mm_ld (st.2.1 2) 5120 ((128 * x2) + 2) (fun v1 => (g_below_28 (g_below_4 n9) mF x1 x2 0 v1 st))))
def g_below (st : mT) : Option (Int32 × mT) := (g_below_4 mF 0 0 st)
set_option maxRecDepth 100000 in
set_option maxHeartbeats 8000000 in
theorem cm_below (l : Launch) (D : va_G) (dA : Nat → ClassId) (s0 : State) (hE : ms_EV D dA s0) (h0 : hm_T) (r : Nat) (M : Nat → Nat) (hM : mm_ok r M) (z0 : hz_T) (st : mT) (q : Int32 × mT) (hg : g_below st = some q) : ht_C l D s0 yM70 bM70 5 (Option.some Jvm.ClassFile.FieldType.int) 0 0 0 0 [.ref r] (fun h z => h = mm_h dA h0 r M st ∧ z = z0) (fun h z vv h1 z1 => vv = some (.int q.1) ∧ h1 = mm_h dA h0 r M q.2 ∧ z1 = z0) := by
  refine ht_C.mk hE.1 (by decide) (Nat.le_of_ble_eq_true rfl) [(0, .ref r)] rfl ?_
  intro p e s m below meth c ls h z X hin hpre I hl
  have hx := X.1
  have hb := X.2.1
  have hml := X.2.2.1
  have hown : s.vm.findClass "MarkupStoreModel" = some m.cls := X.2.2.2.1
  have hts := X.2.2.2.2.2.2.1
  have hK := X.2.2.2.2.2.2.2.2.1
  rw [hpre.1, hpre.2] at I
  clear hpre
  have b64 : ∀ (k4 : Int32 → Int32 → mT → Option (Int32 × mT)), (∀ (ls : Array Slot) (x1 : Int32) (x2 : Int32) (st : mT) (H : Heap) (locs : List Loc), k4 x1 x2 st = some q → lv_has ls 5 [(0, .ref r), (1, .int x1), (2, .int x2)] → hm_I D s0 s (mm_h dA h0 r M st) z0 H locs → W p l e { frames := 0, cells := 0, slots := 0, locals := 0 } s m ([.ref r] : List Value).toArray below meth c H locs 0 0 (MQ below (ht_Q D s0 (fun vv h1 z1 => vv = some (.int q.1) ∧ h1 = mm_h dA h0 r M q.2 ∧ z1 = z0)) ([.ref r] : List Value).toArray s 0 0 (fun q => s0.heap.size ≤ q)) (F0 m 4 ls [])) → ∀ (ls : Array Slot) (x2 : Int32) (w0 : Int32) (st : mT) (H : Heap) (locs : List Loc), g_below_64 k4 x2 w0 st = some q → lv_has ls 5 [(0, .ref r), (2, .int x2)] → hm_I D s0 s (mm_h dA h0 r M st) z0 H locs → W p l e { frames := 0, cells := 0, slots := 0, locals := 0 } s m ([.ref r] : List Value).toArray below meth c H locs 0 0 (MQ below (ht_Q D s0 (fun vv h1 z1 => vv = some (.int q.1) ∧ h1 = mm_h dA h0 r M q.2 ∧ z1 = z0)) ([.ref r] : List Value).toArray s 0 0 (fun q => s0.heap.size ≤ q)) (F0 m 64 ls [.int w0]) := by
    intro k4 hk4 ls x2 w0 st H locs hF hl I
    unfold g_below_64 at hF
    refine lv_istore_n hx hb d70_64 rfl hl (by decide) rfl (fun ls hl => ?_)
    have hl : lv_has ls 5 [(1, .int w0), (0, .ref r), (2, .int x2)] := hl
    refine lv_iinc (k := 2) (v := (x2 + 1)) hx hb d70_65 hl rfl (rfl) (by decide) rfl (fun ls hl => ?_)
    have hl : lv_has ls 5 [(2, .int (x2 + 1)), (1, .int w0), (0, .ref r)] := hl
    refine lv_goto hx hb d70_68 rfl ?_
    exact hk4 ls w0 (x2 + 1) st _ _ hF (hl.sub [2, 1, 0] rfl) I
  have b28 : ∀ (k4 : Int32 → Int32 → mT → Option (Int32 × mT)), (∀ (ls : Array Slot) (x1 : Int32) (x2 : Int32) (st : mT) (H : Heap) (locs : List Loc), k4 x1 x2 st = some q → lv_has ls 5 [(0, .ref r), (1, .int x1), (2, .int x2)] → hm_I D s0 s (mm_h dA h0 r M st) z0 H locs → W p l e { frames := 0, cells := 0, slots := 0, locals := 0 } s m ([.ref r] : List Value).toArray below meth c H locs 0 0 (MQ below (ht_Q D s0 (fun vv h1 z1 => vv = some (.int q.1) ∧ h1 = mm_h dA h0 r M q.2 ∧ z1 = z0)) ([.ref r] : List Value).toArray s 0 0 (fun q => s0.heap.size ≤ q)) (F0 m 4 ls [])) → ∀ n9 : Nat, ∀ (ls : Array Slot) (x1 : Int32) (x2 : Int32) (x3 : Int32) (x4 : Int32) (st : mT) (H : Heap) (locs : List Loc), g_below_28 k4 n9 x1 x2 x3 x4 st = some q → lv_has ls 5 [(0, .ref r), (1, .int x1), (2, .int x2), (3, .int x3), (4, .int x4)] → hm_I D s0 s (mm_h dA h0 r M st) z0 H locs → W p l e { frames := 0, cells := 0, slots := 0, locals := 0 } s m ([.ref r] : List Value).toArray below meth c H locs 0 0 (MQ below (ht_Q D s0 (fun vv h1 z1 => vv = some (.int q.1) ∧ h1 = mm_h dA h0 r M q.2 ∧ z1 = z0)) ([.ref r] : List Value).toArray s 0 0 (fun q => s0.heap.size ≤ q)) (F0 m 28 ls []) := by
    intro k4 hk4 n9
    induction n9 with
    | zero => intro ls x1 x2 x3 x4 st H locs hF; cases hF
    | succ n9 hk28 =>
    intro ls x1 x2 x3 x4 st H locs hF hl I
    unfold g_below_28 at hF
    refine lv_iload hx hb d70_28 (lv_at hl 4 rfl) ?_
    refine lv_if_lt hx hb d70_30 rfl (fun h9 => ?_) (fun h9 => ?_)
    · have hF := (if_pos h9).symm.trans hF
      refine lv_iload_n hx hb d70_54 rfl (lv_at hl 3 rfl) ?_
      refine lv_iload_n hx hb d70_55 rfl (lv_at hl 1 rfl) ?_
      refine lv_icmp_le hx hb d70_56 rfl (fun h9 => ?_) (fun h9 => ?_)
      · have hF := (if_pos h9).symm.trans hF
        refine lv_iload_n hx hb d70_63 rfl (lv_at hl 1 rfl) ?_
        exact b64 k4 hk4 ls x2 x1 st _ _ hF (hl.sub [0, 2] rfl) I
      · have hF := (if_neg h9).symm.trans hF
        refine lv_iload_n hx hb d70_59 rfl (lv_at hl 3 rfl) ?_
        refine lv_goto hx hb d70_60 rfl ?_
        exact b64 k4 hk4 ls x2 x3 st _ _ hF (hl.sub [0, 2] rfl) I
    · have hF := (if_neg h9).symm.trans hF
      refine lv_iinc (k := 3) (v := (x3 + 1)) hx hb d70_33 hl rfl (rfl) (by decide) rfl (fun ls hl => ?_)
      have hl : lv_has ls 5 [(3, .int (x3 + 1)), (0, .ref r), (1, .int x1), (2, .int x2), (4, .int x4)] := hl
      refine lv_aload_n hx hb d70_36 rfl (lv_at hl 1 rfl) ?_
      refine va_get (D := D) (ci := 2) (v := .ref (M 2)) (C := kR2) (T := kT2) (N := 60) hx hb hts ku2 hown hK (hm_one I.1 mm_hr) 0 rfl rfl 2 (by decide) (hts _ ms_k1318) (fun _ h => h) rfl d70_37 ?_
      refine lv_sipush (v := 128) hx hb d70_40 (by decide) ?_
      refine lv_iload hx hb d70_43 (lv_at hl 4 rfl) ?_
      refine lv_imul hx hb d70_45 ?_
      refine lv_iconst (v := 2) hx hb d70_46 (by decide) ?_
      refine lv_iadd hx hb d70_47 ?_
      obtain ⟨v2, i9, e9, hF⟩ := mm_ld_some hF
      refine va_iald hx hb hK (hm_one I.1 (mm_a2 hM)) 0 0 rfl rfl i9 d70_48 ?_
      refine ms_top (y := v2) e9 ?_
      clear e9 i9
      refine lv_istore hx hb d70_49 hl (by decide) rfl (fun ls hl => ?_)
      have hl : lv_has ls 5 [(4, .int v2), (3, .int (x3 + 1)), (0, .ref r), (1, .int x1), (2, .int x2)] := hl
      refine lv_goto hx hb d70_51 rfl ?_
      exact hk28 ls x1 x2 (x3 + 1) v2 st _ _ hF (hl.sub [2, 3, 4, 1, 0] rfl) I
  have b4 : ∀ n9 : Nat, ∀ (ls : Array Slot) (x1 : Int32) (x2 : Int32) (st : mT) (H : Heap) (locs : List Loc), g_below_4 n9 x1 x2 st = some q → lv_has ls 5 [(0, .ref r), (1, .int x1), (2, .int x2)] → hm_I D s0 s (mm_h dA h0 r M st) z0 H locs → W p l e { frames := 0, cells := 0, slots := 0, locals := 0 } s m ([.ref r] : List Value).toArray below meth c H locs 0 0 (MQ below (ht_Q D s0 (fun vv h1 z1 => vv = some (.int q.1) ∧ h1 = mm_h dA h0 r M q.2 ∧ z1 = z0)) ([.ref r] : List Value).toArray s 0 0 (fun q => s0.heap.size ≤ q)) (F0 m 4 ls []) := by
    intro n9
    induction n9 with
    | zero => intro ls x1 x2 st H locs hF; cases hF
    | succ n9 hk4 =>
    intro ls x1 x2 st H locs hF hl I
    unfold g_below_4 at hF
    refine lv_iload_n hx hb d70_4 rfl (lv_at hl 2 rfl) ?_
    refine lv_aload_n hx hb d70_5 rfl (lv_at hl 0 rfl) ?_
    refine va_get (D := D) (ci := 2) (v := .int (st.1 10)) (C := kR2) (T := kT2) (N := 60) hx hb hts ku2 hown hK (hm_one I.1 mm_hr) 0 rfl rfl 10 (by decide) (hts _ ms_k1326) (fun _ h => h) rfl d70_6 ?_
    refine lv_icmp_ge hx hb d70_9 rfl (fun h9 => ?_) (fun h9 => ?_)
    · have hF := (if_pos h9).symm.trans hF
      refine lv_iload_n hx hb d70_71 rfl (lv_at hl 1 rfl) ?_
      exact ht_iret X d70_72 I (Nat.le_of_ble_eq_true rfl) (Nat.le_of_ble_eq_true rfl) (mm_fin hF)
    · have hF := (if_neg h9).symm.trans hF
      refine lv_iconst (v := 0) hx hb d70_12 (by decide) ?_
      refine lv_istore_n hx hb d70_13 rfl hl (by decide) rfl (fun ls hl => ?_)
      have hl : lv_has ls 5 [(3, .int 0), (0, .ref r), (1, .int x1), (2, .int x2)] := hl
      refine lv_aload_n hx hb d70_14 rfl (lv_at hl 1 rfl) ?_
      refine va_get (D := D) (ci := 2) (v := .ref (M 2)) (C := kR2) (T := kT2) (N := 60) hx hb hts ku2 hown hK (hm_one I.1 mm_hr) 0 rfl rfl 2 (by decide) (hts _ ms_k1318) (fun _ h => h) rfl d70_15 ?_
      refine lv_sipush (v := 128) hx hb d70_18 (by decide) ?_
      refine lv_iload_n hx hb d70_21 rfl (lv_at hl 3 rfl) ?_
      refine lv_imul hx hb d70_22 ?_
      refine lv_iconst (v := 2) hx hb d70_23 (by decide) ?_
      refine lv_iadd hx hb d70_24 ?_
      obtain ⟨v1, i9, e9, hF⟩ := mm_ld_some hF
      refine va_iald hx hb hK (hm_one I.1 (mm_a2 hM)) 0 0 rfl rfl i9 d70_25 ?_
      refine ms_top (y := v1) e9 ?_
      clear e9 i9
      refine lv_istore hx hb d70_26 hl (by decide) rfl (fun ls hl => ?_)
      have hl : lv_has ls 5 [(4, .int v1), (3, .int 0), (0, .ref r), (1, .int x1), (2, .int x2)] := hl
      exact b28 (g_below_4 n9) hk4 mF ls x1 x2 0 v1 st _ _ hF (hl.sub [2, 3, 4, 1, 0] rfl) I
  have hF := hg
  unfold g_below at hF
  refine lv_iconst (v := 0) hx hb d70_0 (by decide) ?_
  refine lv_istore_n hx hb d70_1 rfl hl (by decide) rfl (fun ls hl => ?_)
  have hl : lv_has ls 5 [(1, .int 0), (0, .ref r)] := hl
  refine lv_iconst (v := 0) hx hb d70_2 (by decide) ?_
  refine lv_istore_n hx hb d70_3 rfl hl (by decide) rfl (fun ls hl => ?_)
  have hl : lv_has ls 5 [(2, .int 0), (1, .int 0), (0, .ref r)] := hl
  exact b4 mF ls 0 0 st _ _ hF (hl.sub [2, 1, 0] rfl) I

def g_labelBy_157 (k114 : Int32 → Int32 → Int32 → Int32 → Int32 → mT → Option (mT)) (x1 : Int32) (x3 : Int32) (x4 : Int32) (x6 : Int32) (w0 : Int32) (st : mT) : Option (mT) := (k114 x1 x3 x4 w0 (x6 + 1) st)
def g_labelBy_114 : Nat → Int32 → Int32 → Int32 → Int32 → Int32 → mT → Option (mT)
  | 0, _, _, _, _, _, _ => none
  | n9 + 1, x1, x3, x4, x5, x6, st => (if x3 ≤ x6 then ((g_set x1 (28 + x4) ((2 * x5) + 1) st).bind (fun q2 => ((g_set x1 4 (x4 + 1) q2).bind (fun q3 => (some q3))))) else (mm_ld (st.2.1 2) 5120 ((128 * x6) + 2) (fun v4 => (mm_ld (st.2.1 2) 5120 ((128 * x3) + 2) (fun v5 => (if v4 = v5 then (g_labelBy_157 (g_labelBy_114 n9) x1 x3 x4 x6 (x5 + 1) st) else (g_labelBy_157 (g_labelBy_114 n9) x1 x3 x4 x6 x5 st)))))))
def g_labelBy_59 : Nat → Int32 → Int32 → Int32 → mT → Option (mT)
  | 0, _, _, _, _ => none
  | n9 + 1, x1, x4, x5, st => (if (st.1 23) ≤ x5 then ((g_set x1 4 (x4 + (st.1 23)) st).bind (fun q6 => (some q6))) else (mm_ld (st.2.1 22) 40 x5 (fun v7 => ((g_set x1 ((28 + x4) + x5) v7 st).bind (fun q8 => ((g_labelBy_59 n9) x1 x4 (x5 + 1) q8))))))
def g_labelBy_19 : Nat → Int32 → Int32 → Int32 → Int32 → Int32 → mT → Option (mT)
  | 0, _, _, _, _, _, _ => none
  | n9 + 1, x1, x2, x3, x4, x5, st => (if x4 ≤ x5 then (if x3 = 0 then (g_labelBy_59 mF x1 x4 0 st) else (g_labelBy_114 mF x1 x3 x4 0 0 st)) else ((g_f x2 (28 + x5) st).bind (fun q9 => ((g_set x1 (28 + x5) q9.1 q9.2).bind (fun q10 => ((g_labelBy_19 n9) x1 x2 x3 x4 (x5 + 1) q10))))))
def g_labelBy_14 (x1 : Int32) (x2 : Int32) (x3 : Int32) (w0 : Int32) (st : mT) : Option (mT) := (g_labelBy_19 mF x1 x2 x3 w0 0 st)
def g_labelBy (y1 : Int32) (y2 : Int32) (y3 : Int32) (st : mT) : Option (mT) := (if 0 ≤ y2 then ((g_f y2 4 st).bind (fun q1 => (g_labelBy_14 y1 y2 y3 q1.1 q1.2))) else (g_labelBy_14 y1 y2 y3 0 st))
set_option maxRecDepth 100000 in
set_option maxHeartbeats 8000000 in
theorem cm_labelBy (l : Launch) (D : va_G) (dA : Nat → ClassId) (s0 : State) (hE : ms_EV D dA s0) (h0 : hm_T) (r : Nat) (M : Nat → Nat) (hM : mm_ok r M) (z0 : hz_T) (y1 : Int32) (y2 : Int32) (y3 : Int32) (st : mT) (q : mT) (hg : g_labelBy y1 y2 y3 st = some q) : ht_C l D s0 yM71 bM71 7 (Option.none : Option Jvm.ClassFile.FieldType) 1 23 0 0 [.ref r, .int y1, .int y2, .int y3] (fun h z => h = mm_h dA h0 r M st ∧ z = z0) (fun h z vv h1 z1 => vv = none ∧ h1 = mm_h dA h0 r M q ∧ z1 = z0) := by
  refine ht_C.mk hE.1 (by decide) (Nat.le_of_ble_eq_true rfl) [(0, .ref r), (1, .int y1), (2, .int y2), (3, .int y3)] rfl ?_
  intro p e s m below meth c ls h z X hin hpre I hl
  have hx := X.1
  have hb := X.2.1
  have hml := X.2.2.1
  have hown : s.vm.findClass "MarkupStoreModel" = some m.cls := X.2.2.2.1
  have hts := X.2.2.2.2.2.2.1
  have hK := X.2.2.2.2.2.2.2.2.1
  rw [hpre.1, hpre.2] at I
  clear hpre
  have b157 : ∀ (k114 : Int32 → Int32 → Int32 → Int32 → Int32 → mT → Option (mT)), (∀ (ls : Array Slot) (x1 : Int32) (x3 : Int32) (x4 : Int32) (x5 : Int32) (x6 : Int32) (st : mT) (H : Heap) (locs : List Loc), k114 x1 x3 x4 x5 x6 st = some q → lv_has ls 7 [(0, .ref r), (1, .int x1), (3, .int x3), (4, .int x4), (5, .int x5), (6, .int x6)] → hm_I D s0 s (mm_h dA h0 r M st) z0 H locs → W p l e { frames := 1, cells := 0, slots := 0, locals := 23 } s m ([.ref r, .int y1, .int y2, .int y3] : List Value).toArray below meth c H locs 0 0 (MQ below (ht_Q D s0 (fun vv h1 z1 => vv = none ∧ h1 = mm_h dA h0 r M q ∧ z1 = z0)) ([.ref r, .int y1, .int y2, .int y3] : List Value).toArray s 0 0 (fun q => s0.heap.size ≤ q)) (F0 m 114 ls [])) → ∀ (ls : Array Slot) (x1 : Int32) (x3 : Int32) (x4 : Int32) (x6 : Int32) (w0 : Int32) (st : mT) (H : Heap) (locs : List Loc), g_labelBy_157 k114 x1 x3 x4 x6 w0 st = some q → lv_has ls 7 [(0, .ref r), (1, .int x1), (3, .int x3), (4, .int x4), (6, .int x6)] → hm_I D s0 s (mm_h dA h0 r M st) z0 H locs → W p l e { frames := 1, cells := 0, slots := 0, locals := 23 } s m ([.ref r, .int y1, .int y2, .int y3] : List Value).toArray below meth c H locs 0 0 (MQ below (ht_Q D s0 (fun vv h1 z1 => vv = none ∧ h1 = mm_h dA h0 r M q ∧ z1 = z0)) ([.ref r, .int y1, .int y2, .int y3] : List Value).toArray s 0 0 (fun q => s0.heap.size ≤ q)) (F0 m 157 ls [.int w0]) := by
    intro k114 hk114 ls x1 x3 x4 x6 w0 st H locs hF hl I
    unfold g_labelBy_157 at hF
    refine lv_istore hx hb d71_157 hl (by decide) rfl (fun ls hl => ?_)
    have hl : lv_has ls 7 [(5, .int w0), (0, .ref r), (1, .int x1), (3, .int x3), (4, .int x4), (6, .int x6)] := hl
    refine lv_iinc (k := 5) (v := (x6 + 1)) hx hb d71_159 hl rfl (rfl) (by decide) rfl (fun ls hl => ?_)
    have hl : lv_has ls 7 [(6, .int (x6 + 1)), (5, .int w0), (0, .ref r), (1, .int x1), (3, .int x3), (4, .int x4)] := hl
    refine lv_goto hx hb d71_162 rfl ?_
    exact hk114 ls x1 x3 x4 w0 (x6 + 1) st _ _ hF (hl.sub [2, 3, 4, 5, 1, 0] rfl) I
  have b114 : ∀ n9 : Nat, ∀ (ls : Array Slot) (x1 : Int32) (x3 : Int32) (x4 : Int32) (x5 : Int32) (x6 : Int32) (st : mT) (H : Heap) (locs : List Loc), g_labelBy_114 n9 x1 x3 x4 x5 x6 st = some q → lv_has ls 7 [(0, .ref r), (1, .int x1), (3, .int x3), (4, .int x4), (5, .int x5), (6, .int x6)] → hm_I D s0 s (mm_h dA h0 r M st) z0 H locs → W p l e { frames := 1, cells := 0, slots := 0, locals := 23 } s m ([.ref r, .int y1, .int y2, .int y3] : List Value).toArray below meth c H locs 0 0 (MQ below (ht_Q D s0 (fun vv h1 z1 => vv = none ∧ h1 = mm_h dA h0 r M q ∧ z1 = z0)) ([.ref r, .int y1, .int y2, .int y3] : List Value).toArray s 0 0 (fun q => s0.heap.size ≤ q)) (F0 m 114 ls []) := by
    intro n9
    induction n9 with
    | zero => intro ls x1 x3 x4 x5 x6 st H locs hF; cases hF
    | succ n9 hk114 =>
    intro ls x1 x3 x4 x5 x6 st H locs hF hl I
    unfold g_labelBy_114 at hF
    refine lv_iload hx hb d71_114 (lv_at hl 5 rfl) ?_
    refine lv_iload_n hx hb d71_116 rfl (lv_at hl 2 rfl) ?_
    refine lv_icmp_ge hx hb d71_117 rfl (fun h9 => ?_) (fun h9 => ?_)
    · have hF := (if_pos h9).symm.trans hF
      refine lv_aload_n hx hb d71_165 rfl (lv_at hl 0 rfl) ?_
      refine lv_iload_n hx hb d71_166 rfl (lv_at hl 1 rfl) ?_
      refine lv_bipush (v := 28) hx hb d71_167 (by decide) ?_
      refine lv_iload hx hb d71_169 (lv_at hl 3 rfl) ?_
      refine lv_iadd hx hb d71_171 ?_
      refine lv_iconst (v := 2) hx hb d71_172 (by decide) ?_
      refine lv_iload hx hb d71_173 (lv_at hl 4 rfl) ?_
      refine lv_imul hx hb d71_175 ?_
      refine lv_iconst (v := 1) hx hb d71_176 (by decide) ?_
      refine lv_iadd hx hb d71_177 ?_
      obtain ⟨q2, e9, hF⟩ := mm_bd hF
      refine ht_V (C := "MarkupStoreModel") (rest := []) (as := [.int x1, .int (28 + x4), .int ((2 * x5) + 1)]) X hl (cm_set l D dA s0 hE h0 r M hM z0 x1 (28 + x4) ((2 * x5) + 1) st q2 e9) (List.forall_mem_cons.mpr ⟨ms_k1575, List.forall_mem_cons.mpr ⟨ms_k1577, List.forall_mem_cons.mpr ⟨ms_p60, List.forall_mem_cons.mpr ⟨ms_k7, List.forall_mem_cons.mpr ⟨ms_k1578, fun _ h => absurd h List.not_mem_nil⟩⟩⟩⟩⟩) ⟨rfl, by decide +kernel, by decide +kernel, (by decide +kernel : (parseMethodDescriptor "(III)V").map (fun d => d.parameters.length) = some 3)⟩ (hm_recv hK I rfl mm_hr) I ⟨rfl, rfl⟩ ⟨⟨Nat.le_of_ble_eq_true rfl, Nat.le_of_ble_eq_true rfl⟩, Nat.le_of_ble_eq_true rfl, Nat.le_of_ble_eq_true rfl⟩ rfl (Nat.le_of_ble_eq_true rfl) d71_178 (fun vv h1 z1 H locs hR I9 => ?_)
      obtain ⟨e1, e2, e3⟩ := hR
      rw [e2, e3] at I9
      clear I e2 e3 e9
      have I := I9
      clear I9
      subst e1
      refine W.eq (g2 := F0 m 181 ls []) rfl ?_
      refine lv_aload_n hx hb d71_181 rfl (lv_at hl 0 rfl) ?_
      refine lv_iload_n hx hb d71_182 rfl (lv_at hl 1 rfl) ?_
      refine lv_iconst (v := 4) hx hb d71_183 (by decide) ?_
      refine lv_iload hx hb d71_184 (lv_at hl 3 rfl) ?_
      refine lv_iconst (v := 1) hx hb d71_186 (by decide) ?_
      refine lv_iadd hx hb d71_187 ?_
      obtain ⟨q3, e9, hF⟩ := mm_bd hF
      refine ht_V (C := "MarkupStoreModel") (rest := []) (as := [.int x1, .int 4, .int (x4 + 1)]) X hl (cm_set l D dA s0 hE h0 r M hM z0 x1 4 (x4 + 1) q2 q3 e9) (List.forall_mem_cons.mpr ⟨ms_k1575, List.forall_mem_cons.mpr ⟨ms_k1577, List.forall_mem_cons.mpr ⟨ms_p60, List.forall_mem_cons.mpr ⟨ms_k7, List.forall_mem_cons.mpr ⟨ms_k1578, fun _ h => absurd h List.not_mem_nil⟩⟩⟩⟩⟩) ⟨rfl, by decide +kernel, by decide +kernel, (by decide +kernel : (parseMethodDescriptor "(III)V").map (fun d => d.parameters.length) = some 3)⟩ (hm_recv hK I rfl mm_hr) I ⟨rfl, rfl⟩ ⟨⟨Nat.le_of_ble_eq_true rfl, Nat.le_of_ble_eq_true rfl⟩, Nat.le_of_ble_eq_true rfl, Nat.le_of_ble_eq_true rfl⟩ rfl (Nat.le_of_ble_eq_true rfl) d71_188 (fun vv h1 z1 H locs hR I9 => ?_)
      obtain ⟨e1, e2, e3⟩ := hR
      rw [e2, e3] at I9
      clear I e2 e3 e9
      have I := I9
      clear I9
      subst e1
      refine W.eq (g2 := F0 m 191 ls []) rfl ?_
      exact ht_vret X d71_191 I (Nat.le_of_ble_eq_true rfl) (Nat.le_of_ble_eq_true rfl) (mm_finV hF)
    · have hF := (if_neg h9).symm.trans hF
      refine lv_aload_n hx hb d71_120 rfl (lv_at hl 0 rfl) ?_
      refine va_get (D := D) (ci := 2) (v := .ref (M 2)) (C := kR2) (T := kT2) (N := 60) hx hb hts ku2 hown hK (hm_one I.1 mm_hr) 0 rfl rfl 2 (by decide) (hts _ ms_k1318) (fun _ h => h) rfl d71_121 ?_
      refine lv_sipush (v := 128) hx hb d71_124 (by decide) ?_
      refine lv_iload hx hb d71_127 (lv_at hl 5 rfl) ?_
      refine lv_imul hx hb d71_129 ?_
      refine lv_iconst (v := 2) hx hb d71_130 (by decide) ?_
      refine lv_iadd hx hb d71_131 ?_
      obtain ⟨v4, i9, e9, hF⟩ := mm_ld_some hF
      refine va_iald hx hb hK (hm_one I.1 (mm_a2 hM)) 0 0 rfl rfl i9 d71_132 ?_
      refine ms_top (y := v4) e9 ?_
      clear e9 i9
      refine lv_aload_n hx hb d71_133 rfl (lv_at hl 0 rfl) ?_
      refine va_get (D := D) (ci := 2) (v := .ref (M 2)) (C := kR2) (T := kT2) (N := 60) hx hb hts ku2 hown hK (hm_one I.1 mm_hr) 0 rfl rfl 2 (by decide) (hts _ ms_k1318) (fun _ h => h) rfl d71_134 ?_
      refine lv_sipush (v := 128) hx hb d71_137 (by decide) ?_
      refine lv_iload_n hx hb d71_140 rfl (lv_at hl 2 rfl) ?_
      refine lv_imul hx hb d71_141 ?_
      refine lv_iconst (v := 2) hx hb d71_142 (by decide) ?_
      refine lv_iadd hx hb d71_143 ?_
      obtain ⟨v5, i9, e9, hF⟩ := mm_ld_some hF
      refine va_iald hx hb hK (hm_one I.1 (mm_a2 hM)) 0 0 rfl rfl i9 d71_144 ?_
      refine ms_top (y := v5) e9 ?_
      clear e9 i9
      refine lv_icmp_ne hx hb d71_145 rfl (fun h9 => ?_) (fun h9 => ?_)
      · have hF := (if_neg h9).symm.trans hF
        refine lv_iload hx hb d71_155 (lv_at hl 4 rfl) ?_
        exact b157 (g_labelBy_114 n9) hk114 ls x1 x3 x4 x6 x5 st _ _ hF (hl.sub [0, 1, 2, 3, 5] rfl) I
      · have hF := (if_pos h9).symm.trans hF
        refine lv_iload hx hb d71_148 (lv_at hl 4 rfl) ?_
        refine lv_iconst (v := 1) hx hb d71_150 (by decide) ?_
        refine lv_iadd hx hb d71_151 ?_
        refine lv_goto hx hb d71_152 rfl ?_
        exact b157 (g_labelBy_114 n9) hk114 ls x1 x3 x4 x6 (x5 + 1) st _ _ hF (hl.sub [0, 1, 2, 3, 5] rfl) I
  have b59 : ∀ n9 : Nat, ∀ (ls : Array Slot) (x1 : Int32) (x4 : Int32) (x5 : Int32) (st : mT) (H : Heap) (locs : List Loc), g_labelBy_59 n9 x1 x4 x5 st = some q → lv_has ls 7 [(0, .ref r), (1, .int x1), (4, .int x4), (5, .int x5)] → hm_I D s0 s (mm_h dA h0 r M st) z0 H locs → W p l e { frames := 1, cells := 0, slots := 0, locals := 23 } s m ([.ref r, .int y1, .int y2, .int y3] : List Value).toArray below meth c H locs 0 0 (MQ below (ht_Q D s0 (fun vv h1 z1 => vv = none ∧ h1 = mm_h dA h0 r M q ∧ z1 = z0)) ([.ref r, .int y1, .int y2, .int y3] : List Value).toArray s 0 0 (fun q => s0.heap.size ≤ q)) (F0 m 59 ls []) := by
    intro n9
    induction n9 with
    | zero => intro ls x1 x4 x5 st H locs hF; cases hF
    | succ n9 hk59 =>
    intro ls x1 x4 x5 st H locs hF hl I
    unfold g_labelBy_59 at hF
    refine lv_iload hx hb d71_59 (lv_at hl 3 rfl) ?_
    refine lv_aload_n hx hb d71_61 rfl (lv_at hl 0 rfl) ?_
    refine va_get (D := D) (ci := 2) (v := .int (st.1 23)) (C := kR2) (T := kT2) (N := 60) hx hb hts ku2 hown hK (hm_one I.1 mm_hr) 0 rfl rfl 23 (by decide) (hts _ ms_k1339) (fun _ h => h) rfl d71_62 ?_
    refine lv_icmp_ge hx hb d71_65 rfl (fun h9 => ?_) (fun h9 => ?_)
    · have hF := (if_pos h9).symm.trans hF
      refine lv_aload_n hx hb d71_94 rfl (lv_at hl 0 rfl) ?_
      refine lv_iload_n hx hb d71_95 rfl (lv_at hl 1 rfl) ?_
      refine lv_iconst (v := 4) hx hb d71_96 (by decide) ?_
      refine lv_iload hx hb d71_97 (lv_at hl 2 rfl) ?_
      refine lv_aload_n hx hb d71_99 rfl (lv_at hl 0 rfl) ?_
      refine va_get (D := D) (ci := 2) (v := .int (st.1 23)) (C := kR2) (T := kT2) (N := 60) hx hb hts ku2 hown hK (hm_one I.1 mm_hr) 0 rfl rfl 23 (by decide) (hts _ ms_k1339) (fun _ h => h) rfl d71_100 ?_
      refine lv_iadd hx hb d71_103 ?_
      obtain ⟨q6, e9, hF⟩ := mm_bd hF
      refine ht_V (C := "MarkupStoreModel") (rest := []) (as := [.int x1, .int 4, .int (x4 + (st.1 23))]) X hl (cm_set l D dA s0 hE h0 r M hM z0 x1 4 (x4 + (st.1 23)) st q6 e9) (List.forall_mem_cons.mpr ⟨ms_k1575, List.forall_mem_cons.mpr ⟨ms_k1577, List.forall_mem_cons.mpr ⟨ms_p60, List.forall_mem_cons.mpr ⟨ms_k7, List.forall_mem_cons.mpr ⟨ms_k1578, fun _ h => absurd h List.not_mem_nil⟩⟩⟩⟩⟩) ⟨rfl, by decide +kernel, by decide +kernel, (by decide +kernel : (parseMethodDescriptor "(III)V").map (fun d => d.parameters.length) = some 3)⟩ (hm_recv hK I rfl mm_hr) I ⟨rfl, rfl⟩ ⟨⟨Nat.le_of_ble_eq_true rfl, Nat.le_of_ble_eq_true rfl⟩, Nat.le_of_ble_eq_true rfl, Nat.le_of_ble_eq_true rfl⟩ rfl (Nat.le_of_ble_eq_true rfl) d71_104 (fun vv h1 z1 H locs hR I9 => ?_)
      obtain ⟨e1, e2, e3⟩ := hR
      rw [e2, e3] at I9
      clear I e2 e3 e9
      have I := I9
      clear I9
      subst e1
      refine W.eq (g2 := F0 m 107 ls []) rfl ?_
      exact ht_vret X d71_107 I (Nat.le_of_ble_eq_true rfl) (Nat.le_of_ble_eq_true rfl) (mm_finV hF)
    · have hF := (if_neg h9).symm.trans hF
      refine lv_aload_n hx hb d71_68 rfl (lv_at hl 0 rfl) ?_
      refine lv_iload_n hx hb d71_69 rfl (lv_at hl 1 rfl) ?_
      refine lv_bipush (v := 28) hx hb d71_70 (by decide) ?_
      refine lv_iload hx hb d71_72 (lv_at hl 2 rfl) ?_
      refine lv_iadd hx hb d71_74 ?_
      refine lv_iload hx hb d71_75 (lv_at hl 3 rfl) ?_
      refine lv_iadd hx hb d71_77 ?_
      refine lv_aload_n hx hb d71_78 rfl (lv_at hl 0 rfl) ?_
      refine va_get (D := D) (ci := 2) (v := .ref (M 22)) (C := kR2) (T := kT2) (N := 60) hx hb hts ku2 hown hK (hm_one I.1 mm_hr) 0 rfl rfl 22 (by decide) (hts _ ms_k1338) (fun _ h => h) rfl d71_79 ?_
      refine lv_iload hx hb d71_82 (lv_at hl 3 rfl) ?_
      obtain ⟨v7, i9, e9, hF⟩ := mm_ld_some hF
      refine va_iald hx hb hK (hm_one I.1 (mm_a22 hM)) 0 0 rfl rfl i9 d71_84 ?_
      refine ms_top (y := v7) e9 ?_
      clear e9 i9
      obtain ⟨q8, e9, hF⟩ := mm_bd hF
      refine ht_V (C := "MarkupStoreModel") (rest := []) (as := [.int x1, .int ((28 + x4) + x5), .int v7]) X hl (cm_set l D dA s0 hE h0 r M hM z0 x1 ((28 + x4) + x5) v7 st q8 e9) (List.forall_mem_cons.mpr ⟨ms_k1575, List.forall_mem_cons.mpr ⟨ms_k1577, List.forall_mem_cons.mpr ⟨ms_p60, List.forall_mem_cons.mpr ⟨ms_k7, List.forall_mem_cons.mpr ⟨ms_k1578, fun _ h => absurd h List.not_mem_nil⟩⟩⟩⟩⟩) ⟨rfl, by decide +kernel, by decide +kernel, (by decide +kernel : (parseMethodDescriptor "(III)V").map (fun d => d.parameters.length) = some 3)⟩ (hm_recv hK I rfl mm_hr) I ⟨rfl, rfl⟩ ⟨⟨Nat.le_of_ble_eq_true rfl, Nat.le_of_ble_eq_true rfl⟩, Nat.le_of_ble_eq_true rfl, Nat.le_of_ble_eq_true rfl⟩ rfl (Nat.le_of_ble_eq_true rfl) d71_85 (fun vv h1 z1 H locs hR I9 => ?_)
      obtain ⟨e1, e2, e3⟩ := hR
      rw [e2, e3] at I9
      clear I e2 e3 e9
      have I := I9
      clear I9
      subst e1
      refine W.eq (g2 := F0 m 88 ls []) rfl ?_
      refine lv_iinc (k := 3) (v := (x5 + 1)) hx hb d71_88 hl rfl (rfl) (by decide) rfl (fun ls hl => ?_)
      have hl : lv_has ls 7 [(5, .int (x5 + 1)), (0, .ref r), (1, .int x1), (4, .int x4)] := hl
      refine lv_goto hx hb d71_91 rfl ?_
      exact hk59 ls x1 x4 (x5 + 1) q8 _ _ hF (hl.sub [1, 2, 3, 0] rfl) I
  have b19 : ∀ n9 : Nat, ∀ (ls : Array Slot) (x1 : Int32) (x2 : Int32) (x3 : Int32) (x4 : Int32) (x5 : Int32) (st : mT) (H : Heap) (locs : List Loc), g_labelBy_19 n9 x1 x2 x3 x4 x5 st = some q → lv_has ls 7 [(0, .ref r), (1, .int x1), (2, .int x2), (3, .int x3), (4, .int x4), (5, .int x5)] → hm_I D s0 s (mm_h dA h0 r M st) z0 H locs → W p l e { frames := 1, cells := 0, slots := 0, locals := 23 } s m ([.ref r, .int y1, .int y2, .int y3] : List Value).toArray below meth c H locs 0 0 (MQ below (ht_Q D s0 (fun vv h1 z1 => vv = none ∧ h1 = mm_h dA h0 r M q ∧ z1 = z0)) ([.ref r, .int y1, .int y2, .int y3] : List Value).toArray s 0 0 (fun q => s0.heap.size ≤ q)) (F0 m 19 ls []) := by
    intro n9
    induction n9 with
    | zero => intro ls x1 x2 x3 x4 x5 st H locs hF; cases hF
    | succ n9 hk19 =>
    intro ls x1 x2 x3 x4 x5 st H locs hF hl I
    unfold g_labelBy_19 at hF
    refine lv_iload hx hb d71_19 (lv_at hl 5 rfl) ?_
    refine lv_iload hx hb d71_21 (lv_at hl 4 rfl) ?_
    refine lv_icmp_ge hx hb d71_23 rfl (fun h9 => ?_) (fun h9 => ?_)
    · have hF := (if_pos h9).symm.trans hF
      refine lv_iload_n hx hb d71_52 rfl (lv_at hl 3 rfl) ?_
      refine lv_if_ne hx hb d71_53 rfl (fun h9 => ?_) (fun h9 => ?_)
      · have hF := (if_neg h9).symm.trans hF
        refine lv_iconst (v := 0) hx hb d71_108 (by decide) ?_
        refine lv_istore hx hb d71_109 hl (by decide) rfl (fun ls hl => ?_)
        have hl : lv_has ls 7 [(5, .int 0), (0, .ref r), (1, .int x1), (2, .int x2), (3, .int x3), (4, .int x4)] := hl
        refine lv_iconst (v := 0) hx hb d71_111 (by decide) ?_
        refine lv_istore hx hb d71_112 hl (by decide) rfl (fun ls hl => ?_)
        have hl : lv_has ls 7 [(6, .int 0), (5, .int 0), (0, .ref r), (1, .int x1), (2, .int x2), (3, .int x3), (4, .int x4)] := hl
        exact b114 mF ls x1 x3 x4 0 0 st _ _ hF (hl.sub [2, 3, 5, 6, 1, 0] rfl) I
      · have hF := (if_pos h9).symm.trans hF
        refine lv_iconst (v := 0) hx hb d71_56 (by decide) ?_
        refine lv_istore hx hb d71_57 hl (by decide) rfl (fun ls hl => ?_)
        have hl : lv_has ls 7 [(5, .int 0), (0, .ref r), (1, .int x1), (2, .int x2), (3, .int x3), (4, .int x4)] := hl
        exact b59 mF ls x1 x4 0 st _ _ hF (hl.sub [1, 2, 5, 0] rfl) I
    · have hF := (if_neg h9).symm.trans hF
      refine lv_aload_n hx hb d71_26 rfl (lv_at hl 0 rfl) ?_
      refine lv_iload_n hx hb d71_27 rfl (lv_at hl 1 rfl) ?_
      refine lv_bipush (v := 28) hx hb d71_28 (by decide) ?_
      refine lv_iload hx hb d71_30 (lv_at hl 5 rfl) ?_
      refine lv_iadd hx hb d71_32 ?_
      refine lv_aload_n hx hb d71_33 rfl (lv_at hl 0 rfl) ?_
      refine lv_iload_n hx hb d71_34 rfl (lv_at hl 2 rfl) ?_
      refine lv_bipush (v := 28) hx hb d71_35 (by decide) ?_
      refine lv_iload hx hb d71_37 (lv_at hl 5 rfl) ?_
      refine lv_iadd hx hb d71_39 ?_
      obtain ⟨q9, e9, hF⟩ := mm_bd hF
      refine ht_V (C := "MarkupStoreModel") (rest := [.int (28 + x5), .int x1, .ref r]) (as := [.int x2, .int (28 + x5)]) X hl (cm_f l D dA s0 hE h0 r M hM z0 x2 (28 + x5) st q9 e9) (List.forall_mem_cons.mpr ⟨ms_k1587, List.forall_mem_cons.mpr ⟨ms_k1589, List.forall_mem_cons.mpr ⟨ms_p63, List.forall_mem_cons.mpr ⟨ms_k7, List.forall_mem_cons.mpr ⟨ms_k1590, fun _ h => absurd h List.not_mem_nil⟩⟩⟩⟩⟩) ⟨rfl, by decide +kernel, by decide +kernel, (by decide +kernel : (parseMethodDescriptor "(II)I").map (fun d => d.parameters.length) = some 2)⟩ (hm_recv hK I rfl mm_hr) I ⟨rfl, rfl⟩ ⟨⟨Nat.le_of_ble_eq_true rfl, Nat.le_of_ble_eq_true rfl⟩, Nat.le_of_ble_eq_true rfl, Nat.le_of_ble_eq_true rfl⟩ rfl (Nat.le_of_ble_eq_true rfl) d71_40 (fun vv h1 z1 H locs hR I9 => ?_)
      obtain ⟨e1, e2, e3⟩ := hR
      rw [e2, e3] at I9
      clear I e2 e3 e9
      have I := I9
      clear I9
      subst e1
      refine W.eq (g2 := F0 m 43 ls [.int q9.1, .int (28 + x5), .int x1, .ref r]) rfl ?_
      obtain ⟨q10, e9, hF⟩ := mm_bd hF
      refine ht_V (C := "MarkupStoreModel") (rest := []) (as := [.int x1, .int (28 + x5), .int q9.1]) X hl (cm_set l D dA s0 hE h0 r M hM z0 x1 (28 + x5) q9.1 q9.2 q10 e9) (List.forall_mem_cons.mpr ⟨ms_k1575, List.forall_mem_cons.mpr ⟨ms_k1577, List.forall_mem_cons.mpr ⟨ms_p60, List.forall_mem_cons.mpr ⟨ms_k7, List.forall_mem_cons.mpr ⟨ms_k1578, fun _ h => absurd h List.not_mem_nil⟩⟩⟩⟩⟩) ⟨rfl, by decide +kernel, by decide +kernel, (by decide +kernel : (parseMethodDescriptor "(III)V").map (fun d => d.parameters.length) = some 3)⟩ (hm_recv hK I rfl mm_hr) I ⟨rfl, rfl⟩ ⟨⟨Nat.le_of_ble_eq_true rfl, Nat.le_of_ble_eq_true rfl⟩, Nat.le_of_ble_eq_true rfl, Nat.le_of_ble_eq_true rfl⟩ rfl (Nat.le_of_ble_eq_true rfl) d71_43 (fun vv h1 z1 H locs hR I9 => ?_)
      obtain ⟨e1, e2, e3⟩ := hR
      rw [e2, e3] at I9
      clear I e2 e3 e9
      have I := I9
      clear I9
      subst e1
      refine W.eq (g2 := F0 m 46 ls []) rfl ?_
      refine lv_iinc (k := 5) (v := (x5 + 1)) hx hb d71_46 hl rfl (rfl) (by decide) rfl (fun ls hl => ?_)
      have hl : lv_has ls 7 [(5, .int (x5 + 1)), (0, .ref r), (1, .int x1), (2, .int x2), (3, .int x3), (4, .int x4)] := hl
      refine lv_goto hx hb d71_49 rfl ?_
      exact hk19 ls x1 x2 x3 x4 (x5 + 1) q10 _ _ hF (hl.sub [1, 2, 3, 4, 5, 0] rfl) I
  have b14 : ∀ (ls : Array Slot) (x1 : Int32) (x2 : Int32) (x3 : Int32) (w0 : Int32) (st : mT) (H : Heap) (locs : List Loc), g_labelBy_14 x1 x2 x3 w0 st = some q → lv_has ls 7 [(0, .ref r), (1, .int x1), (2, .int x2), (3, .int x3)] → hm_I D s0 s (mm_h dA h0 r M st) z0 H locs → W p l e { frames := 1, cells := 0, slots := 0, locals := 23 } s m ([.ref r, .int y1, .int y2, .int y3] : List Value).toArray below meth c H locs 0 0 (MQ below (ht_Q D s0 (fun vv h1 z1 => vv = none ∧ h1 = mm_h dA h0 r M q ∧ z1 = z0)) ([.ref r, .int y1, .int y2, .int y3] : List Value).toArray s 0 0 (fun q => s0.heap.size ≤ q)) (F0 m 14 ls [.int w0]) := by
    intro ls x1 x2 x3 w0 st H locs hF hl I
    unfold g_labelBy_14 at hF
    refine lv_istore hx hb d71_14 hl (by decide) rfl (fun ls hl => ?_)
    have hl : lv_has ls 7 [(4, .int w0), (0, .ref r), (1, .int x1), (2, .int x2), (3, .int x3)] := hl
    refine lv_iconst (v := 0) hx hb d71_16 (by decide) ?_
    refine lv_istore hx hb d71_17 hl (by decide) rfl (fun ls hl => ?_)
    have hl : lv_has ls 7 [(5, .int 0), (4, .int w0), (0, .ref r), (1, .int x1), (2, .int x2), (3, .int x3)] := hl
    exact b19 mF ls x1 x2 x3 w0 0 st _ _ hF (hl.sub [2, 3, 4, 5, 1, 0] rfl) I
  have hF := hg
  unfold g_labelBy at hF
  refine lv_iload_n hx hb d71_0 rfl (lv_at hl 2 rfl) ?_
  refine lv_if_ge hx hb d71_1 rfl (fun h9 => ?_) (fun h9 => ?_)
  · have hF := (if_pos h9).symm.trans hF
    refine lv_aload_n hx hb d71_8 rfl (lv_at hl 0 rfl) ?_
    refine lv_iload_n hx hb d71_9 rfl (lv_at hl 2 rfl) ?_
    refine lv_iconst (v := 4) hx hb d71_10 (by decide) ?_
    obtain ⟨q1, e9, hF⟩ := mm_bd hF
    refine ht_V (C := "MarkupStoreModel") (rest := []) (as := [.int y2, .int 4]) X hl (cm_f l D dA s0 hE h0 r M hM z0 y2 4 st q1 e9) (List.forall_mem_cons.mpr ⟨ms_k1587, List.forall_mem_cons.mpr ⟨ms_k1589, List.forall_mem_cons.mpr ⟨ms_p63, List.forall_mem_cons.mpr ⟨ms_k7, List.forall_mem_cons.mpr ⟨ms_k1590, fun _ h => absurd h List.not_mem_nil⟩⟩⟩⟩⟩) ⟨rfl, by decide +kernel, by decide +kernel, (by decide +kernel : (parseMethodDescriptor "(II)I").map (fun d => d.parameters.length) = some 2)⟩ (hm_recv hK I rfl mm_hr) I ⟨rfl, rfl⟩ ⟨⟨Nat.le_of_ble_eq_true rfl, Nat.le_of_ble_eq_true rfl⟩, Nat.le_of_ble_eq_true rfl, Nat.le_of_ble_eq_true rfl⟩ rfl (Nat.le_of_ble_eq_true rfl) d71_11 (fun vv h1 z1 H locs hR I9 => ?_)
    obtain ⟨e1, e2, e3⟩ := hR
    rw [e2, e3] at I9
    clear I e2 e3 e9
    have I := I9
    clear I9
    subst e1
    refine W.eq (g2 := F0 m 14 ls [.int q1.1]) rfl ?_
    exact b14 ls y1 y2 y3 q1.1 q1.2 _ _ hF (hl.sub [0, 1, 2, 3] rfl) I
  · have hF := (if_neg h9).symm.trans hF
    refine lv_iconst (v := 0) hx hb d71_4 (by decide) ?_
    refine lv_goto hx hb d71_5 rfl ?_
    exact b14 ls y1 y2 y3 0 st _ _ hF (hl.sub [0, 1, 2, 3] rfl) I

def g_install_146 (k45 : Int32 → Int32 → Int32 → mT → Option (mT)) (x1 : Int32) (x2 : Int32) (x3 : Int32) (x4 : Int32) (w0 : Int32) (st : mT) : Option (mT) := ((g_set x4 0 (((st.1 4) + x3) + 1) st).bind (fun q10 => ((g_set x4 2 w0 q10).bind (fun q11 => (mm_ix 40 x3 (fun j13 => mm_lt (mm_G q11 3 j13 x4) (fun st12 => (mm_ix 5161 ((5120 + x2) + x3) (fun j15 => mm_lt (mm_G st12 0 j15 x4) (fun st14 => ((g_labelBy x4 w0 x3 st14).bind (fun q16 => (k45 x1 x2 (x3 + 1) q16)))))))))))))
def g_install_75 (k45 : Int32 → Int32 → Int32 → mT → Option (mT)) : Nat → Int32 → Int32 → Int32 → Int32 → Int32 → mT → Option (mT)
  | 0, _, _, _, _, _, _ => none
  | n9 + 1, x1, x2, x3, x4, x5, st => (if 128 ≤ x5 then (mm_ld (st.2.1 2) 5120 ((128 * x3) + 2) (fun v7 => (if 0 ≤ v7 then (mm_ld (st.2.1 2) 5120 ((128 * x3) + 2) (fun v8 => (mm_ld (st.2.1 3) 40 v8 (fun v9 => (g_install_146 k45 x1 x2 x3 x4 v9 st))))) else (g_install_146 k45 x1 x2 x3 x4 x1 st)))) else (mm_ld (st.2.1 2) 5120 ((128 * x3) + x5) (fun v17 => ((g_set x4 x5 v17 st).bind (fun q18 => ((g_install_75 k45 n9) x1 x2 x3 x4 (x5 + 1) q18))))))
def g_install_56 (k45 : Int32 → Int32 → Int32 → mT → Option (mT)) : Nat → Int32 → Int32 → Int32 → Int32 → mT → Option (mT)
  | 0, _, _, _, _, _ => none
  | n9 + 1, x1, x2, x3, x4, st => ((g_f x4 0 st).bind (fun q6 => (if q6.1 = 0 then (g_install_75 k45 mF x1 x2 x3 x4 0 q6.2) else ((g_install_56 k45 n9) x1 x2 x3 (x4 + 1) q6.2))))
def g_install_45 : Nat → Int32 → Int32 → Int32 → mT → Option (mT)
  | 0, _, _, _, _ => none
  | n9 + 1, x1, x2, x3, st => (if (st.1 10) ≤ x3 then ((g_count st).bind (fun q2 => (mm_ix 5161 5160 (fun j4 => mm_lt (mm_G q2.2 0 j4 (q2.1 + (q2.2.1 10))) (fun st3 => (mm_lt (mm_F st3 4 ((st3.1 4) + (st3.1 10))) (fun st5 => (some st5)))))))) else (g_install_56 (g_install_45 n9) mF x1 x2 x3 0 st))
def g_install_7 : Nat → Int32 → Int32 → Int32 → mT → Option (mT)
  | 0, _, _, _, _ => none
  | n9 + 1, x1, x2, x3, st => (if x3 < x2 then (g_install_45 mF x1 x2 0 st) else (mm_ld (st.2.1 0) 5161 (5120 + x3) (fun v19 => (mm_ix 5161 ((5120 + x3) + (st.1 10)) (fun j21 => mm_lt (mm_G st 0 j21 v19) (fun st20 => ((g_install_7 n9) x1 x2 (x3 + (-1)) st20)))))))
def g_install (y1 : Int32) (y2 : Int32) (st : mT) : Option (mT) := ((g_count st).bind (fun q1 => (g_install_7 mF y1 y2 (q1.1 - 1) q1.2)))
set_option maxRecDepth 100000 in
set_option maxHeartbeats 8000000 in
theorem cm_install (l : Launch) (D : va_G) (dA : Nat → ClassId) (s0 : State) (hE : ms_EV D dA s0) (h0 : hm_T) (r : Nat) (M : Nat → Nat) (hM : mm_ok r M) (z0 : hz_T) (y1 : Int32) (y2 : Int32) (st : mT) (q : mT) (hg : g_install y1 y2 st = some q) : ht_C l D s0 yM72 bM72 6 (Option.none : Option Jvm.ClassFile.FieldType) 2 49 0 0 [.ref r, .int y1, .int y2] (fun h z => h = mm_h dA h0 r M st ∧ z = z0) (fun h z vv h1 z1 => vv = none ∧ h1 = mm_h dA h0 r M q ∧ z1 = z0) := by
  refine ht_C.mk hE.1 (by decide) (Nat.le_of_ble_eq_true rfl) [(0, .ref r), (1, .int y1), (2, .int y2)] rfl ?_
  intro p e s m below meth c ls h z X hin hpre I hl
  have hx := X.1
  have hb := X.2.1
  have hml := X.2.2.1
  have hown : s.vm.findClass "MarkupStoreModel" = some m.cls := X.2.2.2.1
  have hts := X.2.2.2.2.2.2.1
  have hK := X.2.2.2.2.2.2.2.2.1
  rw [hpre.1, hpre.2] at I
  clear hpre
  have b146 : ∀ (k45 : Int32 → Int32 → Int32 → mT → Option (mT)), (∀ (ls : Array Slot) (x1 : Int32) (x2 : Int32) (x3 : Int32) (st : mT) (H : Heap) (locs : List Loc), k45 x1 x2 x3 st = some q → lv_has ls 6 [(0, .ref r), (1, .int x1), (2, .int x2), (3, .int x3)] → hm_I D s0 s (mm_h dA h0 r M st) z0 H locs → W p l e { frames := 2, cells := 0, slots := 0, locals := 49 } s m ([.ref r, .int y1, .int y2] : List Value).toArray below meth c H locs 0 0 (MQ below (ht_Q D s0 (fun vv h1 z1 => vv = none ∧ h1 = mm_h dA h0 r M q ∧ z1 = z0)) ([.ref r, .int y1, .int y2] : List Value).toArray s 0 0 (fun q => s0.heap.size ≤ q)) (F0 m 45 ls [])) → ∀ (ls : Array Slot) (x1 : Int32) (x2 : Int32) (x3 : Int32) (x4 : Int32) (w0 : Int32) (st : mT) (H : Heap) (locs : List Loc), g_install_146 k45 x1 x2 x3 x4 w0 st = some q → lv_has ls 6 [(0, .ref r), (1, .int x1), (2, .int x2), (3, .int x3), (4, .int x4)] → hm_I D s0 s (mm_h dA h0 r M st) z0 H locs → W p l e { frames := 2, cells := 0, slots := 0, locals := 49 } s m ([.ref r, .int y1, .int y2] : List Value).toArray below meth c H locs 0 0 (MQ below (ht_Q D s0 (fun vv h1 z1 => vv = none ∧ h1 = mm_h dA h0 r M q ∧ z1 = z0)) ([.ref r, .int y1, .int y2] : List Value).toArray s 0 0 (fun q => s0.heap.size ≤ q)) (F0 m 146 ls [.int w0]) := by
    intro k45 hk45 ls x1 x2 x3 x4 w0 st H locs hF hl I
    unfold g_install_146 at hF
    refine lv_istore hx hb d72_146 hl (by decide) rfl (fun ls hl => ?_)
    have hl : lv_has ls 6 [(5, .int w0), (0, .ref r), (1, .int x1), (2, .int x2), (3, .int x3), (4, .int x4)] := hl
    refine lv_aload_n hx hb d72_148 rfl (lv_at hl 1 rfl) ?_
    refine lv_iload hx hb d72_149 (lv_at hl 5 rfl) ?_
    refine lv_iconst (v := 0) hx hb d72_151 (by decide) ?_
    refine lv_aload_n hx hb d72_152 rfl (lv_at hl 1 rfl) ?_
    refine va_get (D := D) (ci := 2) (v := .int (st.1 4)) (C := kR2) (T := kT2) (N := 60) hx hb hts ku2 hown hK (hm_one I.1 mm_hr) 0 rfl rfl 4 (by decide) (hts _ ms_k1320) (fun _ h => h) rfl d72_153 ?_
    refine lv_iload_n hx hb d72_156 rfl (lv_at hl 4 rfl) ?_
    refine lv_iadd hx hb d72_157 ?_
    refine lv_iconst (v := 1) hx hb d72_158 (by decide) ?_
    refine lv_iadd hx hb d72_159 ?_
    obtain ⟨q10, e9, hF⟩ := mm_bd hF
    refine ht_V (C := "MarkupStoreModel") (rest := []) (as := [.int x4, .int 0, .int (((st.1 4) + x3) + 1)]) X hl (cm_set l D dA s0 hE h0 r M hM z0 x4 0 (((st.1 4) + x3) + 1) st q10 e9) (List.forall_mem_cons.mpr ⟨ms_k1575, List.forall_mem_cons.mpr ⟨ms_k1577, List.forall_mem_cons.mpr ⟨ms_p60, List.forall_mem_cons.mpr ⟨ms_k7, List.forall_mem_cons.mpr ⟨ms_k1578, fun _ h => absurd h List.not_mem_nil⟩⟩⟩⟩⟩) ⟨rfl, by decide +kernel, by decide +kernel, (by decide +kernel : (parseMethodDescriptor "(III)V").map (fun d => d.parameters.length) = some 3)⟩ (hm_recv hK I rfl mm_hr) I ⟨rfl, rfl⟩ ⟨⟨Nat.le_of_ble_eq_true rfl, Nat.le_of_ble_eq_true rfl⟩, Nat.le_of_ble_eq_true rfl, Nat.le_of_ble_eq_true rfl⟩ rfl (Nat.le_of_ble_eq_true rfl) d72_160 (fun vv h1 z1 H locs hR I9 => ?_)
    obtain ⟨e1, e2, e3⟩ := hR
    rw [e2, e3] at I9
    clear I e2 e3 e9
    have I := I9
    clear I9
    subst e1
    refine W.eq (g2 := F0 m 163 ls []) rfl ?_
    refine lv_aload_n hx hb d72_163 rfl (lv_at hl 1 rfl) ?_
    refine lv_iload hx hb d72_164 (lv_at hl 5 rfl) ?_
    refine lv_iconst (v := 2) hx hb d72_166 (by decide) ?_
    refine lv_iload hx hb d72_167 (lv_at hl 0 rfl) ?_
    obtain ⟨q11, e9, hF⟩ := mm_bd hF
    refine ht_V (C := "MarkupStoreModel") (rest := []) (as := [.int x4, .int 2, .int w0]) X hl (cm_set l D dA s0 hE h0 r M hM z0 x4 2 w0 q10 q11 e9) (List.forall_mem_cons.mpr ⟨ms_k1575, List.forall_mem_cons.mpr ⟨ms_k1577, List.forall_mem_cons.mpr ⟨ms_p60, List.forall_mem_cons.mpr ⟨ms_k7, List.forall_mem_cons.mpr ⟨ms_k1578, fun _ h => absurd h List.not_mem_nil⟩⟩⟩⟩⟩) ⟨rfl, by decide +kernel, by decide +kernel, (by decide +kernel : (parseMethodDescriptor "(III)V").map (fun d => d.parameters.length) = some 3)⟩ (hm_recv hK I rfl mm_hr) I ⟨rfl, rfl⟩ ⟨⟨Nat.le_of_ble_eq_true rfl, Nat.le_of_ble_eq_true rfl⟩, Nat.le_of_ble_eq_true rfl, Nat.le_of_ble_eq_true rfl⟩ rfl (Nat.le_of_ble_eq_true rfl) d72_169 (fun vv h1 z1 H locs hR I9 => ?_)
    obtain ⟨e1, e2, e3⟩ := hR
    rw [e2, e3] at I9
    clear I e2 e3 e9
    have I := I9
    clear I9
    subst e1
    refine W.eq (g2 := F0 m 172 ls []) rfl ?_
    refine lv_aload_n hx hb d72_172 rfl (lv_at hl 1 rfl) ?_
    refine va_get (D := D) (ci := 2) (v := .ref (M 3)) (C := kR2) (T := kT2) (N := 60) hx hb hts ku2 hown hK (hm_one I.1 mm_hr) 0 rfl rfl 3 (by decide) (hts _ ms_k1319) (fun _ h => h) rfl d72_173 ?_
    refine lv_iload_n hx hb d72_176 rfl (lv_at hl 4 rfl) ?_
    refine lv_iload hx hb d72_177 (lv_at hl 5 rfl) ?_
    obtain ⟨i9, hF⟩ := mm_ix_some hF
    obtain ⟨st12, e9, hF⟩ := mm_lt_some hF
    refine mm_iast (k := 3) X I hM (by decide) 0 (fun _ => rfl) rfl i9 e9 d72_179 (fun H locs I => ?_)
    clear e9 i9
    refine lv_aload_n hx hb d72_180 rfl (lv_at hl 1 rfl) ?_
    refine va_get (D := D) (ci := 2) (v := .ref (M 0)) (C := kR2) (T := kT2) (N := 60) hx hb hts ku2 hown hK (hm_one I.1 mm_hr) 0 rfl rfl 0 (by decide) (hts _ ms_k1316) (fun _ h => h) rfl d72_181 ?_
    refine lv_sipush (v := 5120) hx hb d72_184 (by decide) ?_
    refine lv_iload_n hx hb d72_187 rfl (lv_at hl 3 rfl) ?_
    refine lv_iadd hx hb d72_188 ?_
    refine lv_iload_n hx hb d72_189 rfl (lv_at hl 4 rfl) ?_
    refine lv_iadd hx hb d72_190 ?_
    refine lv_iload hx hb d72_191 (lv_at hl 5 rfl) ?_
    obtain ⟨i9, hF⟩ := mm_ix_some hF
    obtain ⟨st14, e9, hF⟩ := mm_lt_some hF
    refine mm_iast (k := 0) X I hM (by decide) 0 (fun _ => rfl) rfl i9 e9 d72_193 (fun H locs I => ?_)
    clear e9 i9
    refine lv_aload_n hx hb d72_194 rfl (lv_at hl 1 rfl) ?_
    refine lv_iload hx hb d72_195 (lv_at hl 5 rfl) ?_
    refine lv_iload hx hb d72_197 (lv_at hl 0 rfl) ?_
    refine lv_iload_n hx hb d72_199 rfl (lv_at hl 4 rfl) ?_
    obtain ⟨q16, e9, hF⟩ := mm_bd hF
    refine ht_V (C := "MarkupStoreModel") (rest := []) (as := [.int x4, .int w0, .int x3]) X hl (cm_labelBy l D dA s0 hE h0 r M hM z0 x4 w0 x3 st14 q16 e9) (List.forall_mem_cons.mpr ⟨ms_k1591, List.forall_mem_cons.mpr ⟨ms_k1593, List.forall_mem_cons.mpr ⟨ms_p64, List.forall_mem_cons.mpr ⟨ms_k7, List.forall_mem_cons.mpr ⟨ms_k1594, fun _ h => absurd h List.not_mem_nil⟩⟩⟩⟩⟩) ⟨rfl, by decide +kernel, by decide +kernel, (by decide +kernel : (parseMethodDescriptor "(III)V").map (fun d => d.parameters.length) = some 3)⟩ (hm_recv hK I rfl mm_hr) I ⟨rfl, rfl⟩ ⟨⟨Nat.le_of_ble_eq_true rfl, Nat.le_of_ble_eq_true rfl⟩, Nat.le_of_ble_eq_true rfl, Nat.le_of_ble_eq_true rfl⟩ rfl (Nat.le_of_ble_eq_true rfl) d72_200 (fun vv h1 z1 H locs hR I9 => ?_)
    obtain ⟨e1, e2, e3⟩ := hR
    rw [e2, e3] at I9
    clear I e2 e3 e9
    have I := I9
    clear I9
    subst e1
    refine W.eq (g2 := F0 m 203 ls []) rfl ?_
    refine lv_iinc (k := 4) (v := (x3 + 1)) hx hb d72_203 hl rfl (rfl) (by decide) rfl (fun ls hl => ?_)
    have hl : lv_has ls 6 [(3, .int (x3 + 1)), (5, .int w0), (0, .ref r), (1, .int x1), (2, .int x2), (4, .int x4)] := hl
    refine lv_goto hx hb d72_206 rfl ?_
    exact hk45 ls x1 x2 (x3 + 1) q16 _ _ hF (hl.sub [2, 3, 4, 0] rfl) I
  have b75 : ∀ (k45 : Int32 → Int32 → Int32 → mT → Option (mT)), (∀ (ls : Array Slot) (x1 : Int32) (x2 : Int32) (x3 : Int32) (st : mT) (H : Heap) (locs : List Loc), k45 x1 x2 x3 st = some q → lv_has ls 6 [(0, .ref r), (1, .int x1), (2, .int x2), (3, .int x3)] → hm_I D s0 s (mm_h dA h0 r M st) z0 H locs → W p l e { frames := 2, cells := 0, slots := 0, locals := 49 } s m ([.ref r, .int y1, .int y2] : List Value).toArray below meth c H locs 0 0 (MQ below (ht_Q D s0 (fun vv h1 z1 => vv = none ∧ h1 = mm_h dA h0 r M q ∧ z1 = z0)) ([.ref r, .int y1, .int y2] : List Value).toArray s 0 0 (fun q => s0.heap.size ≤ q)) (F0 m 45 ls [])) → ∀ n9 : Nat, ∀ (ls : Array Slot) (x1 : Int32) (x2 : Int32) (x3 : Int32) (x4 : Int32) (x5 : Int32) (st : mT) (H : Heap) (locs : List Loc), g_install_75 k45 n9 x1 x2 x3 x4 x5 st = some q → lv_has ls 6 [(0, .ref r), (1, .int x1), (2, .int x2), (3, .int x3), (4, .int x4), (5, .int x5)] → hm_I D s0 s (mm_h dA h0 r M st) z0 H locs → W p l e { frames := 2, cells := 0, slots := 0, locals := 49 } s m ([.ref r, .int y1, .int y2] : List Value).toArray below meth c H locs 0 0 (MQ below (ht_Q D s0 (fun vv h1 z1 => vv = none ∧ h1 = mm_h dA h0 r M q ∧ z1 = z0)) ([.ref r, .int y1, .int y2] : List Value).toArray s 0 0 (fun q => s0.heap.size ≤ q)) (F0 m 75 ls []) := by
    intro k45 hk45 n9
    induction n9 with
    | zero => intro ls x1 x2 x3 x4 x5 st H locs hF; cases hF
    | succ n9 hk75 =>
    intro ls x1 x2 x3 x4 x5 st H locs hF hl I
    unfold g_install_75 at hF
    refine lv_iload hx hb d72_75 (lv_at hl 5 rfl) ?_
    refine lv_sipush (v := 128) hx hb d72_77 (by decide) ?_
    refine lv_icmp_ge hx hb d72_80 rfl (fun h9 => ?_) (fun h9 => ?_)
    · have hF := (if_pos h9).symm.trans hF
      refine lv_aload_n hx hb d72_110 rfl (lv_at hl 0 rfl) ?_
      refine va_get (D := D) (ci := 2) (v := .ref (M 2)) (C := kR2) (T := kT2) (N := 60) hx hb hts ku2 hown hK (hm_one I.1 mm_hr) 0 rfl rfl 2 (by decide) (hts _ ms_k1318) (fun _ h => h) rfl d72_111 ?_
      refine lv_sipush (v := 128) hx hb d72_114 (by decide) ?_
      refine lv_iload_n hx hb d72_117 rfl (lv_at hl 3 rfl) ?_
      refine lv_imul hx hb d72_118 ?_
      refine lv_iconst (v := 2) hx hb d72_119 (by decide) ?_
      refine lv_iadd hx hb d72_120 ?_
      obtain ⟨v7, i9, e9, hF⟩ := mm_ld_some hF
      refine va_iald hx hb hK (hm_one I.1 (mm_a2 hM)) 0 0 rfl rfl i9 d72_121 ?_
      refine ms_top (y := v7) e9 ?_
      clear e9 i9
      refine lv_if_ge hx hb d72_122 rfl (fun h9 => ?_) (fun h9 => ?_)
      · have hF := (if_pos h9).symm.trans hF
        refine lv_aload_n hx hb d72_129 rfl (lv_at hl 0 rfl) ?_
        refine va_get (D := D) (ci := 2) (v := .ref (M 3)) (C := kR2) (T := kT2) (N := 60) hx hb hts ku2 hown hK (hm_one I.1 mm_hr) 0 rfl rfl 3 (by decide) (hts _ ms_k1319) (fun _ h => h) rfl d72_130 ?_
        refine lv_aload_n hx hb d72_133 rfl (lv_at hl 0 rfl) ?_
        refine va_get (D := D) (ci := 2) (v := .ref (M 2)) (C := kR2) (T := kT2) (N := 60) hx hb hts ku2 hown hK (hm_one I.1 mm_hr) 0 rfl rfl 2 (by decide) (hts _ ms_k1318) (fun _ h => h) rfl d72_134 ?_
        refine lv_sipush (v := 128) hx hb d72_137 (by decide) ?_
        refine lv_iload_n hx hb d72_140 rfl (lv_at hl 3 rfl) ?_
        refine lv_imul hx hb d72_141 ?_
        refine lv_iconst (v := 2) hx hb d72_142 (by decide) ?_
        refine lv_iadd hx hb d72_143 ?_
        obtain ⟨v8, i9, e9, hF⟩ := mm_ld_some hF
        refine va_iald hx hb hK (hm_one I.1 (mm_a2 hM)) 0 0 rfl rfl i9 d72_144 ?_
        refine ms_top (y := v8) e9 ?_
        clear e9 i9
        obtain ⟨v9, i9, e9, hF⟩ := mm_ld_some hF
        refine va_iald hx hb hK (hm_one I.1 (mm_a3 hM)) 0 0 rfl rfl i9 d72_145 ?_
        refine ms_top (y := v9) e9 ?_
        clear e9 i9
        exact b146 k45 hk45 ls x1 x2 x3 x4 v9 st _ _ hF (hl.sub [0, 1, 2, 3, 4] rfl) I
      · have hF := (if_neg h9).symm.trans hF
        refine lv_iload_n hx hb d72_125 rfl (lv_at hl 1 rfl) ?_
        refine lv_goto hx hb d72_126 rfl ?_
        exact b146 k45 hk45 ls x1 x2 x3 x4 x1 st _ _ hF (hl.sub [0, 1, 2, 3, 4] rfl) I
    · have hF := (if_neg h9).symm.trans hF
      refine lv_aload_n hx hb d72_83 rfl (lv_at hl 0 rfl) ?_
      refine lv_iload hx hb d72_84 (lv_at hl 4 rfl) ?_
      refine lv_iload hx hb d72_86 (lv_at hl 5 rfl) ?_
      refine lv_aload_n hx hb d72_88 rfl (lv_at hl 0 rfl) ?_
      refine va_get (D := D) (ci := 2) (v := .ref (M 2)) (C := kR2) (T := kT2) (N := 60) hx hb hts ku2 hown hK (hm_one I.1 mm_hr) 0 rfl rfl 2 (by decide) (hts _ ms_k1318) (fun _ h => h) rfl d72_89 ?_
      refine lv_sipush (v := 128) hx hb d72_92 (by decide) ?_
      refine lv_iload_n hx hb d72_95 rfl (lv_at hl 3 rfl) ?_
      refine lv_imul hx hb d72_96 ?_
      refine lv_iload hx hb d72_97 (lv_at hl 5 rfl) ?_
      refine lv_iadd hx hb d72_99 ?_
      obtain ⟨v17, i9, e9, hF⟩ := mm_ld_some hF
      refine va_iald hx hb hK (hm_one I.1 (mm_a2 hM)) 0 0 rfl rfl i9 d72_100 ?_
      refine ms_top (y := v17) e9 ?_
      clear e9 i9
      obtain ⟨q18, e9, hF⟩ := mm_bd hF
      refine ht_V (C := "MarkupStoreModel") (rest := []) (as := [.int x4, .int x5, .int v17]) X hl (cm_set l D dA s0 hE h0 r M hM z0 x4 x5 v17 st q18 e9) (List.forall_mem_cons.mpr ⟨ms_k1575, List.forall_mem_cons.mpr ⟨ms_k1577, List.forall_mem_cons.mpr ⟨ms_p60, List.forall_mem_cons.mpr ⟨ms_k7, List.forall_mem_cons.mpr ⟨ms_k1578, fun _ h => absurd h List.not_mem_nil⟩⟩⟩⟩⟩) ⟨rfl, by decide +kernel, by decide +kernel, (by decide +kernel : (parseMethodDescriptor "(III)V").map (fun d => d.parameters.length) = some 3)⟩ (hm_recv hK I rfl mm_hr) I ⟨rfl, rfl⟩ ⟨⟨Nat.le_of_ble_eq_true rfl, Nat.le_of_ble_eq_true rfl⟩, Nat.le_of_ble_eq_true rfl, Nat.le_of_ble_eq_true rfl⟩ rfl (Nat.le_of_ble_eq_true rfl) d72_101 (fun vv h1 z1 H locs hR I9 => ?_)
      obtain ⟨e1, e2, e3⟩ := hR
      rw [e2, e3] at I9
      clear I e2 e3 e9
      have I := I9
      clear I9
      subst e1
      refine W.eq (g2 := F0 m 104 ls []) rfl ?_
      refine lv_iinc (k := 5) (v := (x5 + 1)) hx hb d72_104 hl rfl (rfl) (by decide) rfl (fun ls hl => ?_)
      have hl : lv_has ls 6 [(5, .int (x5 + 1)), (0, .ref r), (1, .int x1), (2, .int x2), (3, .int x3), (4, .int x4)] := hl
      refine lv_goto hx hb d72_107 rfl ?_
      exact hk75 ls x1 x2 x3 x4 (x5 + 1) q18 _ _ hF (hl.sub [1, 2, 3, 4, 5, 0] rfl) I
  have b56 : ∀ (k45 : Int32 → Int32 → Int32 → mT → Option (mT)), (∀ (ls : Array Slot) (x1 : Int32) (x2 : Int32) (x3 : Int32) (st : mT) (H : Heap) (locs : List Loc), k45 x1 x2 x3 st = some q → lv_has ls 6 [(0, .ref r), (1, .int x1), (2, .int x2), (3, .int x3)] → hm_I D s0 s (mm_h dA h0 r M st) z0 H locs → W p l e { frames := 2, cells := 0, slots := 0, locals := 49 } s m ([.ref r, .int y1, .int y2] : List Value).toArray below meth c H locs 0 0 (MQ below (ht_Q D s0 (fun vv h1 z1 => vv = none ∧ h1 = mm_h dA h0 r M q ∧ z1 = z0)) ([.ref r, .int y1, .int y2] : List Value).toArray s 0 0 (fun q => s0.heap.size ≤ q)) (F0 m 45 ls [])) → ∀ n9 : Nat, ∀ (ls : Array Slot) (x1 : Int32) (x2 : Int32) (x3 : Int32) (x4 : Int32) (st : mT) (H : Heap) (locs : List Loc), g_install_56 k45 n9 x1 x2 x3 x4 st = some q → lv_has ls 6 [(0, .ref r), (1, .int x1), (2, .int x2), (3, .int x3), (4, .int x4)] → hm_I D s0 s (mm_h dA h0 r M st) z0 H locs → W p l e { frames := 2, cells := 0, slots := 0, locals := 49 } s m ([.ref r, .int y1, .int y2] : List Value).toArray below meth c H locs 0 0 (MQ below (ht_Q D s0 (fun vv h1 z1 => vv = none ∧ h1 = mm_h dA h0 r M q ∧ z1 = z0)) ([.ref r, .int y1, .int y2] : List Value).toArray s 0 0 (fun q => s0.heap.size ≤ q)) (F0 m 56 ls []) := by
    intro k45 hk45 n9
    induction n9 with
    | zero => intro ls x1 x2 x3 x4 st H locs hF; cases hF
    | succ n9 hk56 =>
    intro ls x1 x2 x3 x4 st H locs hF hl I
    unfold g_install_56 at hF
    refine lv_aload_n hx hb d72_56 rfl (lv_at hl 0 rfl) ?_
    refine lv_iload hx hb d72_57 (lv_at hl 4 rfl) ?_
    refine lv_iconst (v := 0) hx hb d72_59 (by decide) ?_
    obtain ⟨q6, e9, hF⟩ := mm_bd hF
    refine ht_V (C := "MarkupStoreModel") (rest := []) (as := [.int x4, .int 0]) X hl (cm_f l D dA s0 hE h0 r M hM z0 x4 0 st q6 e9) (List.forall_mem_cons.mpr ⟨ms_k1587, List.forall_mem_cons.mpr ⟨ms_k1589, List.forall_mem_cons.mpr ⟨ms_p63, List.forall_mem_cons.mpr ⟨ms_k7, List.forall_mem_cons.mpr ⟨ms_k1590, fun _ h => absurd h List.not_mem_nil⟩⟩⟩⟩⟩) ⟨rfl, by decide +kernel, by decide +kernel, (by decide +kernel : (parseMethodDescriptor "(II)I").map (fun d => d.parameters.length) = some 2)⟩ (hm_recv hK I rfl mm_hr) I ⟨rfl, rfl⟩ ⟨⟨Nat.le_of_ble_eq_true rfl, Nat.le_of_ble_eq_true rfl⟩, Nat.le_of_ble_eq_true rfl, Nat.le_of_ble_eq_true rfl⟩ rfl (Nat.le_of_ble_eq_true rfl) d72_60 (fun vv h1 z1 H locs hR I9 => ?_)
    obtain ⟨e1, e2, e3⟩ := hR
    rw [e2, e3] at I9
    clear I e2 e3 e9
    have I := I9
    clear I9
    subst e1
    refine W.eq (g2 := F0 m 63 ls [.int q6.1]) rfl ?_
    refine lv_if_eq hx hb d72_63 rfl (fun h9 => ?_) (fun h9 => ?_)
    · have hF := (if_pos h9).symm.trans hF
      refine lv_iconst (v := 0) hx hb d72_72 (by decide) ?_
      refine lv_istore hx hb d72_73 hl (by decide) rfl (fun ls hl => ?_)
      have hl : lv_has ls 6 [(5, .int 0), (0, .ref r), (1, .int x1), (2, .int x2), (3, .int x3), (4, .int x4)] := hl
      exact b75 k45 hk45 mF ls x1 x2 x3 x4 0 q6.2 _ _ hF (hl.sub [1, 2, 3, 4, 5, 0] rfl) I
    · have hF := (if_neg h9).symm.trans hF
      refine lv_iinc (k := 4) (v := (x4 + 1)) hx hb d72_66 hl rfl (rfl) (by decide) rfl (fun ls hl => ?_)
      have hl : lv_has ls 6 [(4, .int (x4 + 1)), (0, .ref r), (1, .int x1), (2, .int x2), (3, .int x3)] := hl
      refine lv_goto hx hb d72_69 rfl ?_
      exact hk56 ls x1 x2 x3 (x4 + 1) q6.2 _ _ hF (hl.sub [1, 2, 3, 4, 0] rfl) I
  have b45 : ∀ n9 : Nat, ∀ (ls : Array Slot) (x1 : Int32) (x2 : Int32) (x3 : Int32) (st : mT) (H : Heap) (locs : List Loc), g_install_45 n9 x1 x2 x3 st = some q → lv_has ls 6 [(0, .ref r), (1, .int x1), (2, .int x2), (3, .int x3)] → hm_I D s0 s (mm_h dA h0 r M st) z0 H locs → W p l e { frames := 2, cells := 0, slots := 0, locals := 49 } s m ([.ref r, .int y1, .int y2] : List Value).toArray below meth c H locs 0 0 (MQ below (ht_Q D s0 (fun vv h1 z1 => vv = none ∧ h1 = mm_h dA h0 r M q ∧ z1 = z0)) ([.ref r, .int y1, .int y2] : List Value).toArray s 0 0 (fun q => s0.heap.size ≤ q)) (F0 m 45 ls []) := by
    intro n9
    induction n9 with
    | zero => intro ls x1 x2 x3 st H locs hF; cases hF
    | succ n9 hk45 =>
    intro ls x1 x2 x3 st H locs hF hl I
    unfold g_install_45 at hF
    refine lv_iload_n hx hb d72_45 rfl (lv_at hl 3 rfl) ?_
    refine lv_aload_n hx hb d72_46 rfl (lv_at hl 0 rfl) ?_
    refine va_get (D := D) (ci := 2) (v := .int (st.1 10)) (C := kR2) (T := kT2) (N := 60) hx hb hts ku2 hown hK (hm_one I.1 mm_hr) 0 rfl rfl 10 (by decide) (hts _ ms_k1326) (fun _ h => h) rfl d72_47 ?_
    refine lv_icmp_ge hx hb d72_50 rfl (fun h9 => ?_) (fun h9 => ?_)
    · have hF := (if_pos h9).symm.trans hF
      refine lv_aload_n hx hb d72_209 rfl (lv_at hl 0 rfl) ?_
      refine va_get (D := D) (ci := 2) (v := .ref (M 0)) (C := kR2) (T := kT2) (N := 60) hx hb hts ku2 hown hK (hm_one I.1 mm_hr) 0 rfl rfl 0 (by decide) (hts _ ms_k1316) (fun _ h => h) rfl d72_210 ?_
      refine lv_sipush (v := 5160) hx hb d72_213 (by decide) ?_
      refine lv_aload_n hx hb d72_216 rfl (lv_at hl 0 rfl) ?_
      obtain ⟨q2, e9, hF⟩ := mm_bd hF
      refine ht_V (C := "MarkupStoreModel") (rest := [.int 5160, .ref (M 0)]) (as := []) X hl (cm_count l D dA s0 hE h0 r M hM z0 st q2 e9) (List.forall_mem_cons.mpr ⟨ms_k1583, List.forall_mem_cons.mpr ⟨ms_k1585, List.forall_mem_cons.mpr ⟨ms_p62, List.forall_mem_cons.mpr ⟨ms_k7, List.forall_mem_cons.mpr ⟨ms_k1586, fun _ h => absurd h List.not_mem_nil⟩⟩⟩⟩⟩) ⟨rfl, by decide +kernel, by decide +kernel, (by decide +kernel : (parseMethodDescriptor "()I").map (fun d => d.parameters.length) = some 0)⟩ (hm_recv hK I rfl mm_hr) I ⟨rfl, rfl⟩ ⟨⟨Nat.le_of_ble_eq_true rfl, Nat.le_of_ble_eq_true rfl⟩, Nat.le_of_ble_eq_true rfl, Nat.le_of_ble_eq_true rfl⟩ rfl (Nat.le_of_ble_eq_true rfl) d72_217 (fun vv h1 z1 H locs hR I9 => ?_)
      obtain ⟨e1, e2, e3⟩ := hR
      rw [e2, e3] at I9
      clear I e2 e3 e9
      have I := I9
      clear I9
      subst e1
      refine W.eq (g2 := F0 m 220 ls [.int q2.1, .int 5160, .ref (M 0)]) rfl ?_
      refine lv_aload_n hx hb d72_220 rfl (lv_at hl 0 rfl) ?_
      refine va_get (D := D) (ci := 2) (v := .int (q2.2.1 10)) (C := kR2) (T := kT2) (N := 60) hx hb hts ku2 hown hK (hm_one I.1 mm_hr) 0 rfl rfl 10 (by decide) (hts _ ms_k1326) (fun _ h => h) rfl d72_221 ?_
      refine lv_iadd hx hb d72_224 ?_
      obtain ⟨i9, hF⟩ := mm_ix_some hF
      obtain ⟨st3, e9, hF⟩ := mm_lt_some hF
      refine mm_iast (k := 0) X I hM (by decide) 0 (fun _ => rfl) rfl i9 e9 d72_225 (fun H locs I => ?_)
      clear e9 i9
      refine lv_aload_n hx hb d72_226 rfl (lv_at hl 0 rfl) ?_
      refine lv_dup hx hb d72_227 rfl ?_
      refine va_get (D := D) (ci := 2) (v := .int (st3.1 4)) (C := kR2) (T := kT2) (N := 60) hx hb hts ku2 hown hK (hm_one I.1 mm_hr) 0 rfl rfl 4 (by decide) (hts _ ms_k1320) (fun _ h => h) rfl d72_228 ?_
      refine lv_aload_n hx hb d72_231 rfl (lv_at hl 0 rfl) ?_
      refine va_get (D := D) (ci := 2) (v := .int (st3.1 10)) (C := kR2) (T := kT2) (N := 60) hx hb hts ku2 hown hK (hm_one I.1 mm_hr) 0 rfl rfl 10 (by decide) (hts _ ms_k1326) (fun _ h => h) rfl d72_232 ?_
      refine lv_iadd hx hb d72_235 ?_
      obtain ⟨st5, e9, hF⟩ := mm_lt_some hF
      refine mm_put (k := 4) (ty := .int) X I (by decide) ms_k1320 rfl rfl (by decide +kernel) ⟨rfl, rfl⟩ rfl e9 d72_236 (fun H locs I => ?_)
      clear e9
      exact ht_vret X d72_239 I (Nat.le_of_ble_eq_true rfl) (Nat.le_of_ble_eq_true rfl) (mm_finV hF)
    · have hF := (if_neg h9).symm.trans hF
      refine lv_iconst (v := 0) hx hb d72_53 (by decide) ?_
      refine lv_istore hx hb d72_54 hl (by decide) rfl (fun ls hl => ?_)
      have hl : lv_has ls 6 [(4, .int 0), (0, .ref r), (1, .int x1), (2, .int x2), (3, .int x3)] := hl
      exact b56 (g_install_45 n9) hk45 mF ls x1 x2 x3 0 st _ _ hF (hl.sub [1, 2, 3, 4, 0] rfl) I
  have b7 : ∀ n9 : Nat, ∀ (ls : Array Slot) (x1 : Int32) (x2 : Int32) (x3 : Int32) (st : mT) (H : Heap) (locs : List Loc), g_install_7 n9 x1 x2 x3 st = some q → lv_has ls 6 [(0, .ref r), (1, .int x1), (2, .int x2), (3, .int x3)] → hm_I D s0 s (mm_h dA h0 r M st) z0 H locs → W p l e { frames := 2, cells := 0, slots := 0, locals := 49 } s m ([.ref r, .int y1, .int y2] : List Value).toArray below meth c H locs 0 0 (MQ below (ht_Q D s0 (fun vv h1 z1 => vv = none ∧ h1 = mm_h dA h0 r M q ∧ z1 = z0)) ([.ref r, .int y1, .int y2] : List Value).toArray s 0 0 (fun q => s0.heap.size ≤ q)) (F0 m 7 ls []) := by
    intro n9
    induction n9 with
    | zero => intro ls x1 x2 x3 st H locs hF; cases hF
    | succ n9 hk7 =>
    intro ls x1 x2 x3 st H locs hF hl I
    unfold g_install_7 at hF
    refine lv_iload_n hx hb d72_7 rfl (lv_at hl 3 rfl) ?_
    refine lv_iload_n hx hb d72_8 rfl (lv_at hl 2 rfl) ?_
    refine lv_icmp_lt hx hb d72_9 rfl (fun h9 => ?_) (fun h9 => ?_)
    · have hF := (if_pos h9).symm.trans hF
      refine lv_iconst (v := 0) hx hb d72_43 (by decide) ?_
      refine lv_istore_n hx hb d72_44 rfl hl (by decide) rfl (fun ls hl => ?_)
      have hl : lv_has ls 6 [(3, .int 0), (0, .ref r), (1, .int x1), (2, .int x2)] := hl
      exact b45 mF ls x1 x2 0 st _ _ hF (hl.sub [1, 2, 3, 0] rfl) I
    · have hF := (if_neg h9).symm.trans hF
      refine lv_aload_n hx hb d72_12 rfl (lv_at hl 0 rfl) ?_
      refine va_get (D := D) (ci := 2) (v := .ref (M 0)) (C := kR2) (T := kT2) (N := 60) hx hb hts ku2 hown hK (hm_one I.1 mm_hr) 0 rfl rfl 0 (by decide) (hts _ ms_k1316) (fun _ h => h) rfl d72_13 ?_
      refine lv_sipush (v := 5120) hx hb d72_16 (by decide) ?_
      refine lv_iload_n hx hb d72_19 rfl (lv_at hl 3 rfl) ?_
      refine lv_iadd hx hb d72_20 ?_
      refine lv_aload_n hx hb d72_21 rfl (lv_at hl 0 rfl) ?_
      refine va_get (D := D) (ci := 2) (v := .int (st.1 10)) (C := kR2) (T := kT2) (N := 60) hx hb hts ku2 hown hK (hm_one I.1 mm_hr) 0 rfl rfl 10 (by decide) (hts _ ms_k1326) (fun _ h => h) rfl d72_22 ?_
      refine lv_iadd hx hb d72_25 ?_
      refine lv_aload_n hx hb d72_26 rfl (lv_at hl 0 rfl) ?_
      refine va_get (D := D) (ci := 2) (v := .ref (M 0)) (C := kR2) (T := kT2) (N := 60) hx hb hts ku2 hown hK (hm_one I.1 mm_hr) 0 rfl rfl 0 (by decide) (hts _ ms_k1316) (fun _ h => h) rfl d72_27 ?_
      refine lv_sipush (v := 5120) hx hb d72_30 (by decide) ?_
      refine lv_iload_n hx hb d72_33 rfl (lv_at hl 3 rfl) ?_
      refine lv_iadd hx hb d72_34 ?_
      obtain ⟨v19, i9, e9, hF⟩ := mm_ld_some hF
      refine va_iald hx hb hK (hm_one I.1 (mm_a0 hM)) 0 0 rfl rfl i9 d72_35 ?_
      refine ms_top (y := v19) e9 ?_
      clear e9 i9
      obtain ⟨i9, hF⟩ := mm_ix_some hF
      obtain ⟨st20, e9, hF⟩ := mm_lt_some hF
      refine mm_iast (k := 0) X I hM (by decide) 0 (fun _ => rfl) rfl i9 e9 d72_36 (fun H locs I => ?_)
      clear e9 i9
      refine lv_iinc (k := 3) (v := (x3 + (-1))) hx hb d72_37 hl rfl (rfl) (by decide) rfl (fun ls hl => ?_)
      have hl : lv_has ls 6 [(3, .int (x3 + (-1))), (0, .ref r), (1, .int x1), (2, .int x2)] := hl
      refine lv_goto hx hb d72_40 rfl ?_
      exact hk7 ls x1 x2 (x3 + (-1)) st20 _ _ hF (hl.sub [1, 2, 3, 0] rfl) I
  have hF := hg
  unfold g_install at hF
  refine lv_aload_n hx hb d72_0 rfl (lv_at hl 0 rfl) ?_
  obtain ⟨q1, e9, hF⟩ := mm_bd hF
  refine ht_V (C := "MarkupStoreModel") (rest := []) (as := []) X hl (cm_count l D dA s0 hE h0 r M hM z0 st q1 e9) (List.forall_mem_cons.mpr ⟨ms_k1583, List.forall_mem_cons.mpr ⟨ms_k1585, List.forall_mem_cons.mpr ⟨ms_p62, List.forall_mem_cons.mpr ⟨ms_k7, List.forall_mem_cons.mpr ⟨ms_k1586, fun _ h => absurd h List.not_mem_nil⟩⟩⟩⟩⟩) ⟨rfl, by decide +kernel, by decide +kernel, (by decide +kernel : (parseMethodDescriptor "()I").map (fun d => d.parameters.length) = some 0)⟩ (hm_recv hK I rfl mm_hr) I ⟨rfl, rfl⟩ ⟨⟨Nat.le_of_ble_eq_true rfl, Nat.le_of_ble_eq_true rfl⟩, Nat.le_of_ble_eq_true rfl, Nat.le_of_ble_eq_true rfl⟩ rfl (Nat.le_of_ble_eq_true rfl) d72_1 (fun vv h1 z1 H locs hR I9 => ?_)
  obtain ⟨e1, e2, e3⟩ := hR
  rw [e2, e3] at I9
  clear I e2 e3 e9
  have I := I9
  clear I9
  subst e1
  refine W.eq (g2 := F0 m 4 ls [.int q1.1]) rfl ?_
  refine lv_iconst (v := 1) hx hb d72_4 (by decide) ?_
  refine lv_isub hx hb d72_5 ?_
  refine lv_istore_n hx hb d72_6 rfl hl (by decide) rfl (fun ls hl => ?_)
  have hl : lv_has ls 6 [(3, .int (q1.1 - 1)), (0, .ref r), (1, .int y1), (2, .int y2)] := hl
  exact b7 mF ls y1 y2 (q1.1 - 1) q1.2 _ _ hF (hl.sub [1, 2, 3, 0] rfl) I

def g_save_2 : Nat → Int32 → mT → Option (mT)
  | 0, _, _ => none
  | n9 + 1, x1, st => (if 5161 ≤ x1 then (mm_lt (mm_F st 5 0) (fun st1 => (some st1))) else (mm_ld (st.2.1 0) 5161 x1 (fun v2 => (mm_ix 5161 x1 (fun j4 => mm_lt (mm_G st 1 j4 v2) (fun st3 => ((g_save_2 n9) (x1 + 1) st3)))))))
def g_save (st : mT) : Option (mT) := (g_save_2 mF 0 st)
set_option maxRecDepth 100000 in
set_option maxHeartbeats 8000000 in
theorem cm_save (l : Launch) (D : va_G) (dA : Nat → ClassId) (s0 : State) (hE : ms_EV D dA s0) (h0 : hm_T) (r : Nat) (M : Nat → Nat) (hM : mm_ok r M) (z0 : hz_T) (st : mT) (q : mT) (hg : g_save st = some q) : ht_C l D s0 yM73 bM73 2 (Option.none : Option Jvm.ClassFile.FieldType) 0 0 0 0 [.ref r] (fun h z => h = mm_h dA h0 r M st ∧ z = z0) (fun h z vv h1 z1 => vv = none ∧ h1 = mm_h dA h0 r M q ∧ z1 = z0) := by
  refine ht_C.mk hE.1 (by decide) (Nat.le_of_ble_eq_true rfl) [(0, .ref r)] rfl ?_
  intro p e s m below meth c ls h z X hin hpre I hl
  have hx := X.1
  have hb := X.2.1
  have hml := X.2.2.1
  have hown : s.vm.findClass "MarkupStoreModel" = some m.cls := X.2.2.2.1
  have hts := X.2.2.2.2.2.2.1
  have hK := X.2.2.2.2.2.2.2.2.1
  rw [hpre.1, hpre.2] at I
  clear hpre
  have b2 : ∀ n9 : Nat, ∀ (ls : Array Slot) (x1 : Int32) (st : mT) (H : Heap) (locs : List Loc), g_save_2 n9 x1 st = some q → lv_has ls 2 [(0, .ref r), (1, .int x1)] → hm_I D s0 s (mm_h dA h0 r M st) z0 H locs → W p l e { frames := 0, cells := 0, slots := 0, locals := 0 } s m ([.ref r] : List Value).toArray below meth c H locs 0 0 (MQ below (ht_Q D s0 (fun vv h1 z1 => vv = none ∧ h1 = mm_h dA h0 r M q ∧ z1 = z0)) ([.ref r] : List Value).toArray s 0 0 (fun q => s0.heap.size ≤ q)) (F0 m 2 ls []) := by
    intro n9
    induction n9 with
    | zero => intro ls x1 st H locs hF; cases hF
    | succ n9 hk2 =>
    intro ls x1 st H locs hF hl I
    unfold g_save_2 at hF
    refine lv_iload_n hx hb d73_2 rfl (lv_at hl 1 rfl) ?_
    refine lv_sipush (v := 5161) hx hb d73_3 (by decide) ?_
    refine lv_icmp_ge hx hb d73_6 rfl (fun h9 => ?_) (fun h9 => ?_)
    · have hF := (if_pos h9).symm.trans hF
      refine lv_aload_n hx hb d73_27 rfl (lv_at hl 0 rfl) ?_
      refine lv_iconst (v := 0) hx hb d73_28 (by decide) ?_
      obtain ⟨st1, e9, hF⟩ := mm_lt_some hF
      refine mm_put (k := 5) (ty := .int) X I (by decide) ms_k1321 rfl rfl (by decide +kernel) ⟨rfl, rfl⟩ rfl e9 d73_29 (fun H locs I => ?_)
      clear e9
      exact ht_vret X d73_32 I (Nat.le_of_ble_eq_true rfl) (Nat.le_of_ble_eq_true rfl) (mm_finV hF)
    · have hF := (if_neg h9).symm.trans hF
      refine lv_aload_n hx hb d73_9 rfl (lv_at hl 0 rfl) ?_
      refine va_get (D := D) (ci := 2) (v := .ref (M 1)) (C := kR2) (T := kT2) (N := 60) hx hb hts ku2 hown hK (hm_one I.1 mm_hr) 0 rfl rfl 1 (by decide) (hts _ ms_k1317) (fun _ h => h) rfl d73_10 ?_
      refine lv_iload_n hx hb d73_13 rfl (lv_at hl 1 rfl) ?_
      refine lv_aload_n hx hb d73_14 rfl (lv_at hl 0 rfl) ?_
      refine va_get (D := D) (ci := 2) (v := .ref (M 0)) (C := kR2) (T := kT2) (N := 60) hx hb hts ku2 hown hK (hm_one I.1 mm_hr) 0 rfl rfl 0 (by decide) (hts _ ms_k1316) (fun _ h => h) rfl d73_15 ?_
      refine lv_iload_n hx hb d73_18 rfl (lv_at hl 1 rfl) ?_
      obtain ⟨v2, i9, e9, hF⟩ := mm_ld_some hF
      refine va_iald hx hb hK (hm_one I.1 (mm_a0 hM)) 0 0 rfl rfl i9 d73_19 ?_
      refine ms_top (y := v2) e9 ?_
      clear e9 i9
      obtain ⟨i9, hF⟩ := mm_ix_some hF
      obtain ⟨st3, e9, hF⟩ := mm_lt_some hF
      refine mm_iast (k := 1) X I hM (by decide) 0 (fun _ => rfl) rfl i9 e9 d73_20 (fun H locs I => ?_)
      clear e9 i9
      refine lv_iinc (k := 1) (v := (x1 + 1)) hx hb d73_21 hl rfl (rfl) (by decide) rfl (fun ls hl => ?_)
      have hl : lv_has ls 2 [(1, .int (x1 + 1)), (0, .ref r)] := hl
      refine lv_goto hx hb d73_24 rfl ?_
      exact hk2 ls (x1 + 1) st3 _ _ hF (hl.sub [1, 0] rfl) I
  have hF := hg
  unfold g_save at hF
  refine lv_iconst (v := 0) hx hb d73_0 (by decide) ?_
  refine lv_istore_n hx hb d73_1 rfl hl (by decide) rfl (fun ls hl => ?_)
  have hl : lv_has ls 2 [(1, .int 0), (0, .ref r)] := hl
  exact b2 mF ls 0 st _ _ hF (hl.sub [1, 0] rfl) I

def g_type_21 (st : mT) : Option (Int32 × mT) := (some (0, st))
def g_type (y1 : Int32) (st : mT) : Option (Int32 × mT) := (if y1 < 32 then (g_type_21 st) else (if 126 < y1 then (g_type_21 st) else (if (st.1 7) < 120 then (mm_ix 120 (st.1 7) (fun j2 => mm_lt (mm_G st 6 j2 (vp_nar .char y1)) (fun st1 => (mm_lt (mm_F st1 7 ((st1.1 7) + 1)) (fun st3 => (some (1, st3))))))) else (g_type_21 st))))
set_option maxRecDepth 100000 in
set_option maxHeartbeats 8000000 in
theorem cm_type (l : Launch) (D : va_G) (dA : Nat → ClassId) (s0 : State) (hE : ms_EV D dA s0) (h0 : hm_T) (r : Nat) (M : Nat → Nat) (hM : mm_ok r M) (z0 : hz_T) (y1 : Int32) (st : mT) (q : Int32 × mT) (hg : g_type y1 st = some q) : ht_C l D s0 yM74 bM74 2 (Option.some Jvm.ClassFile.FieldType.boolean) 0 0 0 0 [.ref r, .int y1] (fun h z => h = mm_h dA h0 r M st ∧ z = z0) (fun h z vv h1 z1 => vv = some (.int q.1) ∧ h1 = mm_h dA h0 r M q.2 ∧ z1 = z0) := by
  refine ht_C.mk hE.1 (by decide) (Nat.le_of_ble_eq_true rfl) [(0, .ref r), (1, .int y1)] rfl ?_
  intro p e s m below meth c ls h z X hin hpre I hl
  have hx := X.1
  have hb := X.2.1
  have hml := X.2.2.1
  have hown : s.vm.findClass "MarkupStoreModel" = some m.cls := X.2.2.2.1
  have hts := X.2.2.2.2.2.2.1
  have hK := X.2.2.2.2.2.2.2.2.1
  rw [hpre.1, hpre.2] at I
  clear hpre
  have b21 : ∀ (ls : Array Slot) (st : mT) (H : Heap) (locs : List Loc), g_type_21 st = some q → lv_has ls 2 [] → hm_I D s0 s (mm_h dA h0 r M st) z0 H locs → W p l e { frames := 0, cells := 0, slots := 0, locals := 0 } s m ([.ref r, .int y1] : List Value).toArray below meth c H locs 0 0 (MQ below (ht_Q D s0 (fun vv h1 z1 => vv = some (.int q.1) ∧ h1 = mm_h dA h0 r M q.2 ∧ z1 = z0)) ([.ref r, .int y1] : List Value).toArray s 0 0 (fun q => s0.heap.size ≤ q)) (F0 m 21 ls []) := by
    intro ls st H locs hF hl I
    unfold g_type_21 at hF
    refine lv_iconst (v := 0) hx hb d74_21 (by decide) ?_
    exact ht_zret X d74_22 I (Nat.le_of_ble_eq_true rfl) (Nat.le_of_ble_eq_true rfl) (mm_fin hF) rfl
  have hF := hg
  unfold g_type at hF
  refine lv_iload_n hx hb d74_0 rfl (lv_at hl 1 rfl) ?_
  refine lv_bipush (v := 32) hx hb d74_1 (by decide) ?_
  refine lv_icmp_lt hx hb d74_3 rfl (fun h9 => ?_) (fun h9 => ?_)
  · have hF := (if_pos h9).symm.trans hF
    exact b21 ls st _ _ hF (hl.sub [] rfl) I
  · have hF := (if_neg h9).symm.trans hF
    refine lv_iload_n hx hb d74_6 rfl (lv_at hl 1 rfl) ?_
    refine lv_bipush (v := 126) hx hb d74_7 (by decide) ?_
    refine lv_icmp_gt hx hb d74_9 rfl (fun h9 => ?_) (fun h9 => ?_)
    · have hF := (if_pos h9).symm.trans hF
      exact b21 ls st _ _ hF (hl.sub [] rfl) I
    · have hF := (if_neg h9).symm.trans hF
      refine lv_aload_n hx hb d74_12 rfl (lv_at hl 0 rfl) ?_
      refine va_get (D := D) (ci := 2) (v := .int (st.1 7)) (C := kR2) (T := kT2) (N := 60) hx hb hts ku2 hown hK (hm_one I.1 mm_hr) 0 rfl rfl 7 (by decide) (hts _ ms_k1323) (fun _ h => h) rfl d74_13 ?_
      refine lv_bipush (v := 120) hx hb d74_16 (by decide) ?_
      refine lv_icmp_lt hx hb d74_18 rfl (fun h9 => ?_) (fun h9 => ?_)
      · have hF := (if_pos h9).symm.trans hF
        refine lv_aload_n hx hb d74_23 rfl (lv_at hl 0 rfl) ?_
        refine va_get (D := D) (ci := 2) (v := .ref (M 6)) (C := kR2) (T := kT2) (N := 60) hx hb hts ku2 hown hK (hm_one I.1 mm_hr) 0 rfl rfl 6 (by decide) (hts _ ms_k1322) (fun _ h => h) rfl d74_24 ?_
        refine lv_aload_n hx hb d74_27 rfl (lv_at hl 0 rfl) ?_
        refine va_get (D := D) (ci := 2) (v := .int (st.1 7)) (C := kR2) (T := kT2) (N := 60) hx hb hts ku2 hown hK (hm_one I.1 mm_hr) 0 rfl rfl 7 (by decide) (hts _ ms_k1323) (fun _ h => h) rfl d74_28 ?_
        refine lv_iload_n hx hb d74_31 rfl (lv_at hl 1 rfl) ?_
        obtain ⟨i9, hF⟩ := mm_ix_some hF
        obtain ⟨st1, e9, hF⟩ := mm_lt_some hF
        refine mm_cast (k := 6) X I hM (by decide) 1 (fun _ => rfl) rfl i9 e9 d74_32 (fun H locs I => ?_)
        clear e9 i9
        refine lv_aload_n hx hb d74_33 rfl (lv_at hl 0 rfl) ?_
        refine lv_dup hx hb d74_34 rfl ?_
        refine va_get (D := D) (ci := 2) (v := .int (st1.1 7)) (C := kR2) (T := kT2) (N := 60) hx hb hts ku2 hown hK (hm_one I.1 mm_hr) 0 rfl rfl 7 (by decide) (hts _ ms_k1323) (fun _ h => h) rfl d74_35 ?_
        refine lv_iconst (v := 1) hx hb d74_38 (by decide) ?_
        refine lv_iadd hx hb d74_39 ?_
        obtain ⟨st3, e9, hF⟩ := mm_lt_some hF
        refine mm_put (k := 7) (ty := .int) X I (by decide) ms_k1323 rfl rfl (by decide +kernel) ⟨rfl, rfl⟩ rfl e9 d74_40 (fun H locs I => ?_)
        clear e9
        refine lv_iconst (v := 1) hx hb d74_43 (by decide) ?_
        exact ht_zret X d74_44 I (Nat.le_of_ble_eq_true rfl) (Nat.le_of_ble_eq_true rfl) (mm_fin hF) rfl
      · have hF := (if_neg h9).symm.trans hF
        exact b21 ls st _ _ hF (hl.sub [] rfl) I

def g_loaded_51 (st : mT) : Option (Int32 × mT) := (some ((-2000), st))
def g_loaded_57 : Nat → Int32 → mT → Option (Int32 × mT)
  | 0, _, _ => none
  | n9 + 1, x1, st => (if 40 ≤ x1 then (mm_ix 5161 5160 (fun j3 => mm_lt (mm_G st 0 j3 0) (fun st2 => (mm_ix 40 0 (fun j5 => mm_lt (mm_G st2 22 j5 1) (fun st4 => (mm_lt (mm_F st4 23 1) (fun st6 => ((g_install (-1) 0 st6).bind (fun q7 => ((g_save q7).bind (fun q8 => (some ((q8.1 10), q8)))))))))))))) else ((g_set x1 0 0 st).bind (fun q9 => ((g_loaded_57 n9) (x1 + 1) q9))))
def g_loaded (st : mT) : Option (Int32 × mT) := ((g_parse 1 0 st).bind (fun q1 => (if (q1.1 9) < 0 then (if (q1.1 11) = 0 then (if 40 < (q1.1 10) then (g_loaded_51 q1) else (if ((q1.1 4) + (q1.1 10)) ≤ 200 then (g_loaded_57 mF 0 q1) else (g_loaded_51 q1))) else (g_loaded_51 q1)) else (some (((-1) - (q1.1 9)), q1)))))
set_option maxRecDepth 100000 in
set_option maxHeartbeats 8000000 in
theorem cm_loaded (l : Launch) (D : va_G) (dA : Nat → ClassId) (s0 : State) (hE : ms_EV D dA s0) (h0 : hm_T) (r : Nat) (M : Nat → Nat) (hM : mm_ok r M) (z0 : hz_T) (st : mT) (q : Int32 × mT) (hg : g_loaded st = some q) : ht_C l D s0 yM75 bM75 2 (Option.some Jvm.ClassFile.FieldType.int) 7 170 0 0 [.ref r] (fun h z => h = mm_h dA h0 r M st ∧ z = z0) (fun h z vv h1 z1 => vv = some (.int q.1) ∧ h1 = mm_h dA h0 r M q.2 ∧ z1 = z0) := by
  refine ht_C.mk hE.1 (by decide) (Nat.le_of_ble_eq_true rfl) [(0, .ref r)] rfl ?_
  intro p e s m below meth c ls h z X hin hpre I hl
  have hx := X.1
  have hb := X.2.1
  have hml := X.2.2.1
  have hown : s.vm.findClass "MarkupStoreModel" = some m.cls := X.2.2.2.1
  have hts := X.2.2.2.2.2.2.1
  have hK := X.2.2.2.2.2.2.2.2.1
  rw [hpre.1, hpre.2] at I
  clear hpre
  have b51 : ∀ (ls : Array Slot) (st : mT) (H : Heap) (locs : List Loc), g_loaded_51 st = some q → lv_has ls 2 [] → hm_I D s0 s (mm_h dA h0 r M st) z0 H locs → W p l e { frames := 7, cells := 0, slots := 0, locals := 170 } s m ([.ref r] : List Value).toArray below meth c H locs 0 0 (MQ below (ht_Q D s0 (fun vv h1 z1 => vv = some (.int q.1) ∧ h1 = mm_h dA h0 r M q.2 ∧ z1 = z0)) ([.ref r] : List Value).toArray s 0 0 (fun q => s0.heap.size ≤ q)) (F0 m 51 ls []) := by
    intro ls st H locs hF hl I
    unfold g_loaded_51 at hF
    refine lv_sipush (v := (-2000)) hx hb d75_51 (by decide) ?_
    exact ht_iret X d75_54 I (Nat.le_of_ble_eq_true rfl) (Nat.le_of_ble_eq_true rfl) (mm_fin hF)
  have b57 : ∀ n9 : Nat, ∀ (ls : Array Slot) (x1 : Int32) (st : mT) (H : Heap) (locs : List Loc), g_loaded_57 n9 x1 st = some q → lv_has ls 2 [(0, .ref r), (1, .int x1)] → hm_I D s0 s (mm_h dA h0 r M st) z0 H locs → W p l e { frames := 7, cells := 0, slots := 0, locals := 170 } s m ([.ref r] : List Value).toArray below meth c H locs 0 0 (MQ below (ht_Q D s0 (fun vv h1 z1 => vv = some (.int q.1) ∧ h1 = mm_h dA h0 r M q.2 ∧ z1 = z0)) ([.ref r] : List Value).toArray s 0 0 (fun q => s0.heap.size ≤ q)) (F0 m 57 ls []) := by
    intro n9
    induction n9 with
    | zero => intro ls x1 st H locs hF; cases hF
    | succ n9 hk57 =>
    intro ls x1 st H locs hF hl I
    unfold g_loaded_57 at hF
    refine lv_iload_n hx hb d75_57 rfl (lv_at hl 1 rfl) ?_
    refine lv_bipush (v := 40) hx hb d75_58 (by decide) ?_
    refine lv_icmp_ge hx hb d75_60 rfl (fun h9 => ?_) (fun h9 => ?_)
    · have hF := (if_pos h9).symm.trans hF
      refine lv_aload_n hx hb d75_76 rfl (lv_at hl 0 rfl) ?_
      refine va_get (D := D) (ci := 2) (v := .ref (M 0)) (C := kR2) (T := kT2) (N := 60) hx hb hts ku2 hown hK (hm_one I.1 mm_hr) 0 rfl rfl 0 (by decide) (hts _ ms_k1316) (fun _ h => h) rfl d75_77 ?_
      refine lv_sipush (v := 5160) hx hb d75_80 (by decide) ?_
      refine lv_iconst (v := 0) hx hb d75_83 (by decide) ?_
      obtain ⟨i9, hF⟩ := mm_ix_some hF
      obtain ⟨st2, e9, hF⟩ := mm_lt_some hF
      refine mm_iast (k := 0) X I hM (by decide) 0 (fun _ => rfl) rfl i9 e9 d75_84 (fun H locs I => ?_)
      clear e9 i9
      refine lv_aload_n hx hb d75_85 rfl (lv_at hl 0 rfl) ?_
      refine va_get (D := D) (ci := 2) (v := .ref (M 22)) (C := kR2) (T := kT2) (N := 60) hx hb hts ku2 hown hK (hm_one I.1 mm_hr) 0 rfl rfl 22 (by decide) (hts _ ms_k1338) (fun _ h => h) rfl d75_86 ?_
      refine lv_iconst (v := 0) hx hb d75_89 (by decide) ?_
      refine lv_iconst (v := 1) hx hb d75_90 (by decide) ?_
      obtain ⟨i9, hF⟩ := mm_ix_some hF
      obtain ⟨st4, e9, hF⟩ := mm_lt_some hF
      refine mm_iast (k := 22) X I hM (by decide) 0 (fun _ => rfl) rfl i9 e9 d75_91 (fun H locs I => ?_)
      clear e9 i9
      refine lv_aload_n hx hb d75_92 rfl (lv_at hl 0 rfl) ?_
      refine lv_iconst (v := 1) hx hb d75_93 (by decide) ?_
      obtain ⟨st6, e9, hF⟩ := mm_lt_some hF
      refine mm_put (k := 23) (ty := .int) X I (by decide) ms_k1339 rfl rfl (by decide +kernel) ⟨rfl, rfl⟩ rfl e9 d75_94 (fun H locs I => ?_)
      clear e9
      refine lv_aload_n hx hb d75_97 rfl (lv_at hl 0 rfl) ?_
      refine lv_iconst (v := (-1)) hx hb d75_98 (by decide) ?_
      refine lv_iconst (v := 0) hx hb d75_99 (by decide) ?_
      obtain ⟨q7, e9, hF⟩ := mm_bd hF
      refine ht_V (C := "MarkupStoreModel") (rest := []) (as := [.int (-1), .int 0]) X hl (cm_install l D dA s0 hE h0 r M hM z0 (-1) 0 st6 q7 e9) (List.forall_mem_cons.mpr ⟨ms_k1579, List.forall_mem_cons.mpr ⟨ms_k1581, List.forall_mem_cons.mpr ⟨ms_p61, List.forall_mem_cons.mpr ⟨ms_k7, List.forall_mem_cons.mpr ⟨ms_k1582, fun _ h => absurd h List.not_mem_nil⟩⟩⟩⟩⟩) ⟨rfl, by decide +kernel, by decide +kernel, (by decide +kernel : (parseMethodDescriptor "(II)V").map (fun d => d.parameters.length) = some 2)⟩ (hm_recv hK I rfl mm_hr) I ⟨rfl, rfl⟩ ⟨⟨Nat.le_of_ble_eq_true rfl, Nat.le_of_ble_eq_true rfl⟩, Nat.le_of_ble_eq_true rfl, Nat.le_of_ble_eq_true rfl⟩ rfl (Nat.le_of_ble_eq_true rfl) d75_100 (fun vv h1 z1 H locs hR I9 => ?_)
      obtain ⟨e1, e2, e3⟩ := hR
      rw [e2, e3] at I9
      clear I e2 e3 e9
      have I := I9
      clear I9
      subst e1
      refine W.eq (g2 := F0 m 103 ls []) rfl ?_
      refine lv_aload_n hx hb d75_103 rfl (lv_at hl 0 rfl) ?_
      obtain ⟨q8, e9, hF⟩ := mm_bd hF
      refine ht_V (C := "MarkupStoreModel") (rest := []) (as := []) X hl (cm_save l D dA s0 hE h0 r M hM z0 q7 q8 e9) (List.forall_mem_cons.mpr ⟨ms_k1595, List.forall_mem_cons.mpr ⟨ms_k1597, List.forall_mem_cons.mpr ⟨ms_p65, List.forall_mem_cons.mpr ⟨ms_k7, List.forall_mem_cons.mpr ⟨ms_k1598, fun _ h => absurd h List.not_mem_nil⟩⟩⟩⟩⟩) ⟨rfl, by decide +kernel, by decide +kernel, (by decide +kernel : (parseMethodDescriptor "()V").map (fun d => d.parameters.length) = some 0)⟩ (hm_recv hK I rfl mm_hr) I ⟨rfl, rfl⟩ ⟨⟨Nat.le_of_ble_eq_true rfl, Nat.le_of_ble_eq_true rfl⟩, Nat.le_of_ble_eq_true rfl, Nat.le_of_ble_eq_true rfl⟩ rfl (Nat.le_of_ble_eq_true rfl) d75_104 (fun vv h1 z1 H locs hR I9 => ?_)
      obtain ⟨e1, e2, e3⟩ := hR
      rw [e2, e3] at I9
      clear I e2 e3 e9
      have I := I9
      clear I9
      subst e1
      refine W.eq (g2 := F0 m 107 ls []) rfl ?_
      refine lv_aload_n hx hb d75_107 rfl (lv_at hl 0 rfl) ?_
      refine va_get (D := D) (ci := 2) (v := .int (q8.1 10)) (C := kR2) (T := kT2) (N := 60) hx hb hts ku2 hown hK (hm_one I.1 mm_hr) 0 rfl rfl 10 (by decide) (hts _ ms_k1326) (fun _ h => h) rfl d75_108 ?_
      exact ht_iret X d75_111 I (Nat.le_of_ble_eq_true rfl) (Nat.le_of_ble_eq_true rfl) (mm_fin hF)
    · have hF := (if_neg h9).symm.trans hF
      refine lv_aload_n hx hb d75_63 rfl (lv_at hl 0 rfl) ?_
      refine lv_iload_n hx hb d75_64 rfl (lv_at hl 1 rfl) ?_
      refine lv_iconst (v := 0) hx hb d75_65 (by decide) ?_
      refine lv_iconst (v := 0) hx hb d75_66 (by decide) ?_
      obtain ⟨q9, e9, hF⟩ := mm_bd hF
      refine ht_V (C := "MarkupStoreModel") (rest := []) (as := [.int x1, .int 0, .int 0]) X hl (cm_set l D dA s0 hE h0 r M hM z0 x1 0 0 st q9 e9) (List.forall_mem_cons.mpr ⟨ms_k1575, List.forall_mem_cons.mpr ⟨ms_k1577, List.forall_mem_cons.mpr ⟨ms_p60, List.forall_mem_cons.mpr ⟨ms_k7, List.forall_mem_cons.mpr ⟨ms_k1578, fun _ h => absurd h List.not_mem_nil⟩⟩⟩⟩⟩) ⟨rfl, by decide +kernel, by decide +kernel, (by decide +kernel : (parseMethodDescriptor "(III)V").map (fun d => d.parameters.length) = some 3)⟩ (hm_recv hK I rfl mm_hr) I ⟨rfl, rfl⟩ ⟨⟨Nat.le_of_ble_eq_true rfl, Nat.le_of_ble_eq_true rfl⟩, Nat.le_of_ble_eq_true rfl, Nat.le_of_ble_eq_true rfl⟩ rfl (Nat.le_of_ble_eq_true rfl) d75_67 (fun vv h1 z1 H locs hR I9 => ?_)
      obtain ⟨e1, e2, e3⟩ := hR
      rw [e2, e3] at I9
      clear I e2 e3 e9
      have I := I9
      clear I9
      subst e1
      refine W.eq (g2 := F0 m 70 ls []) rfl ?_
      refine lv_iinc (k := 1) (v := (x1 + 1)) hx hb d75_70 hl rfl (rfl) (by decide) rfl (fun ls hl => ?_)
      have hl : lv_has ls 2 [(1, .int (x1 + 1)), (0, .ref r)] := hl
      refine lv_goto hx hb d75_73 rfl ?_
      exact hk57 ls (x1 + 1) q9 _ _ hF (hl.sub [1, 0] rfl) I
  have hF := hg
  unfold g_loaded at hF
  refine lv_aload_n hx hb d75_0 rfl (lv_at hl 0 rfl) ?_
  refine lv_iconst (v := 1) hx hb d75_1 (by decide) ?_
  refine lv_iconst (v := 0) hx hb d75_2 (by decide) ?_
  obtain ⟨q1, e9, hF⟩ := mm_bd hF
  refine ht_V (C := "MarkupStoreModel") (rest := []) (as := [.int 1, .int 0]) X hl (cm_parse l D dA s0 hE h0 r M hM z0 1 0 st q1 e9) (List.forall_mem_cons.mpr ⟨ms_k1512, List.forall_mem_cons.mpr ⟨ms_k1514, List.forall_mem_cons.mpr ⟨ms_p45, List.forall_mem_cons.mpr ⟨ms_k7, List.forall_mem_cons.mpr ⟨ms_k1515, fun _ h => absurd h List.not_mem_nil⟩⟩⟩⟩⟩) ⟨rfl, by decide +kernel, by decide +kernel, (by decide +kernel : (parseMethodDescriptor "(ZI)V").map (fun d => d.parameters.length) = some 2)⟩ (hm_recv hK I rfl mm_hr) I ⟨rfl, rfl⟩ ⟨⟨Nat.le_of_ble_eq_true rfl, Nat.le_of_ble_eq_true rfl⟩, Nat.le_of_ble_eq_true rfl, Nat.le_of_ble_eq_true rfl⟩ rfl (Nat.le_of_ble_eq_true rfl) d75_3 (fun vv h1 z1 H locs hR I9 => ?_)
  obtain ⟨e1, e2, e3⟩ := hR
  rw [e2, e3] at I9
  clear I e2 e3 e9
  have I := I9
  clear I9
  subst e1
  refine W.eq (g2 := F0 m 6 ls []) rfl ?_
  refine lv_aload_n hx hb d75_6 rfl (lv_at hl 0 rfl) ?_
  refine va_get (D := D) (ci := 2) (v := .int (q1.1 9)) (C := kR2) (T := kT2) (N := 60) hx hb hts ku2 hown hK (hm_one I.1 mm_hr) 0 rfl rfl 9 (by decide) (hts _ ms_k1325) (fun _ h => h) rfl d75_7 ?_
  refine lv_if_lt hx hb d75_10 rfl (fun h9 => ?_) (fun h9 => ?_)
  · have hF := (if_pos h9).symm.trans hF
    refine lv_aload_n hx hb d75_20 rfl (lv_at hl 0 rfl) ?_
    refine va_get (D := D) (ci := 2) (v := .int (q1.1 11)) (C := kR2) (T := kT2) (N := 60) hx hb hts ku2 hown hK (hm_one I.1 mm_hr) 0 rfl rfl 11 (by decide) (hts _ ms_k1327) (fun _ h => h) rfl d75_21 ?_
    refine lv_if_ne hx hb d75_24 rfl (fun h9 => ?_) (fun h9 => ?_)
    · have hF := (if_neg h9).symm.trans hF
      exact b51 ls q1 _ _ hF (hl.sub [] rfl) I
    · have hF := (if_pos h9).symm.trans hF
      refine lv_aload_n hx hb d75_27 rfl (lv_at hl 0 rfl) ?_
      refine va_get (D := D) (ci := 2) (v := .int (q1.1 10)) (C := kR2) (T := kT2) (N := 60) hx hb hts ku2 hown hK (hm_one I.1 mm_hr) 0 rfl rfl 10 (by decide) (hts _ ms_k1326) (fun _ h => h) rfl d75_28 ?_
      refine lv_bipush (v := 40) hx hb d75_31 (by decide) ?_
      refine lv_icmp_gt hx hb d75_33 rfl (fun h9 => ?_) (fun h9 => ?_)
      · have hF := (if_pos h9).symm.trans hF
        exact b51 ls q1 _ _ hF (hl.sub [] rfl) I
      · have hF := (if_neg h9).symm.trans hF
        refine lv_aload_n hx hb d75_36 rfl (lv_at hl 0 rfl) ?_
        refine va_get (D := D) (ci := 2) (v := .int (q1.1 4)) (C := kR2) (T := kT2) (N := 60) hx hb hts ku2 hown hK (hm_one I.1 mm_hr) 0 rfl rfl 4 (by decide) (hts _ ms_k1320) (fun _ h => h) rfl d75_37 ?_
        refine lv_aload_n hx hb d75_40 rfl (lv_at hl 0 rfl) ?_
        refine va_get (D := D) (ci := 2) (v := .int (q1.1 10)) (C := kR2) (T := kT2) (N := 60) hx hb hts ku2 hown hK (hm_one I.1 mm_hr) 0 rfl rfl 10 (by decide) (hts _ ms_k1326) (fun _ h => h) rfl d75_41 ?_
        refine lv_iadd hx hb d75_44 ?_
        refine lv_sipush (v := 200) hx hb d75_45 (by decide) ?_
        refine lv_icmp_le hx hb d75_48 rfl (fun h9 => ?_) (fun h9 => ?_)
        · have hF := (if_pos h9).symm.trans hF
          refine lv_iconst (v := 0) hx hb d75_55 (by decide) ?_
          refine lv_istore_n hx hb d75_56 rfl hl (by decide) rfl (fun ls hl => ?_)
          have hl : lv_has ls 2 [(1, .int 0), (0, .ref r)] := hl
          exact b57 mF ls 0 q1 _ _ hF (hl.sub [1, 0] rfl) I
        · have hF := (if_neg h9).symm.trans hF
          exact b51 ls q1 _ _ hF (hl.sub [] rfl) I
  · have hF := (if_neg h9).symm.trans hF
    refine lv_iconst (v := (-1)) hx hb d75_13 (by decide) ?_
    refine lv_aload_n hx hb d75_14 rfl (lv_at hl 0 rfl) ?_
    refine va_get (D := D) (ci := 2) (v := .int (q1.1 9)) (C := kR2) (T := kT2) (N := 60) hx hb hts ku2 hown hK (hm_one I.1 mm_hr) 0 rfl rfl 9 (by decide) (hts _ ms_k1325) (fun _ h => h) rfl d75_15 ?_
    refine lv_isub hx hb d75_18 ?_
    exact ht_iret X d75_19 I (Nat.le_of_ble_eq_true rfl) (Nat.le_of_ble_eq_true rfl) (mm_fin hF)
