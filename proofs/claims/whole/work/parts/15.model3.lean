theorem ms_k1340 : (Jvm.Cond.fieldLink "MarkupStoreModel" (297 : Nat) "MarkupStoreModel" "steps" "I") ∈ ms_tb := ms_i6 140 (by decide +kernel) (by decide +kernel)
theorem ms_k1341 : (Jvm.Cond.fieldLink "MarkupStoreModel" (44 : Nat) "MarkupStoreModel" "axis" "[I") ∈ ms_tb := ms_i6 141 (by decide +kernel) (by decide +kernel)
theorem ms_k1342 : (Jvm.Cond.fieldLink "MarkupStoreModel" (47 : Nat) "MarkupStoreModel" "stepKind" "[I") ∈ ms_tb := ms_i6 142 (by decide +kernel) (by decide +kernel)
theorem ms_k1343 : (Jvm.Cond.fieldLink "MarkupStoreModel" (50 : Nat) "MarkupStoreModel" "stepFrom" "[I") ∈ ms_tb := ms_i6 143 (by decide +kernel) (by decide +kernel)
theorem ms_k1344 : (Jvm.Cond.fieldLink "MarkupStoreModel" (53 : Nat) "MarkupStoreModel" "stepSize" "[I") ∈ ms_tb := ms_i6 144 (by decide +kernel) (by decide +kernel)
theorem ms_k1345 : (Jvm.Cond.fieldLink "MarkupStoreModel" (56 : Nat) "MarkupStoreModel" "stepPredicate" "[I") ∈ ms_tb := ms_i6 145 (by decide +kernel) (by decide +kernel)
theorem ms_k1346 : (Jvm.Cond.fieldLink "MarkupStoreModel" (59 : Nat) "MarkupStoreModel" "stepNext" "[I") ∈ ms_tb := ms_i6 146 (by decide +kernel) (by decide +kernel)
theorem ms_k1352 : (Jvm.Cond.fieldLink "MarkupStoreModel" (74 : Nat) "MarkupStoreModel" "textFrom" "[I") ∈ ms_tb := ms_i6 152 (by decide +kernel) (by decide +kernel)
theorem ms_k1353 : (Jvm.Cond.fieldLink "MarkupStoreModel" (77 : Nat) "MarkupStoreModel" "textSize" "[I") ∈ ms_tb := ms_i6 153 (by decide +kernel) (by decide +kernel)
theorem ms_k1354 : (Jvm.Cond.fieldLink "MarkupStoreModel" (80 : Nat) "MarkupStoreModel" "pathStep" "[I") ∈ ms_tb := ms_i6 154 (by decide +kernel) (by decide +kernel)
theorem ms_k1357 : (Jvm.Cond.fieldLink "MarkupStoreModel" (90 : Nat) "MarkupStoreModel" "pathAbsolute" "[Z") ∈ ms_tb := ms_i6 157 (by decide +kernel) (by decide +kernel)
theorem ms_k1361 : (Jvm.Cond.fieldLink "MarkupStoreModel" (284 : Nat) "MarkupStoreModel" "level" "I") ∈ ms_tb := ms_i6 161 (by decide +kernel) (by decide +kernel)
theorem ms_k1363 : (Jvm.Cond.fieldLink "MarkupStoreModel" (290 : Nat) "MarkupStoreModel" "state" "I") ∈ ms_tb := ms_i6 163 (by decide +kernel) (by decide +kernel)
theorem ms_k1364 : (Jvm.Cond.fieldLink "MarkupStoreModel" (300 : Nat) "MarkupStoreModel" "topStep" "I") ∈ ms_tb := ms_i6 164 (by decide +kernel) (by decide +kernel)
theorem ms_k1365 : (Jvm.Cond.fieldLink "MarkupStoreModel" (287 : Nat) "MarkupStoreModel" "topAbsolute" "Z") ∈ ms_tb := ms_i6 165 (by decide +kernel) (by decide +kernel)
theorem ms_k1366 : (Jvm.Cond.fieldLink "MarkupStoreModel" (100 : Nat) "MarkupStoreModel" "owner" "[I") ∈ ms_tb := ms_i6 166 (by decide +kernel) (by decide +kernel)
theorem ms_k1367 : (Jvm.Cond.fieldLink "MarkupStoreModel" (103 : Nat) "MarkupStoreModel" "lastStep" "[I") ∈ ms_tb := ms_i6 167 (by decide +kernel) (by decide +kernel)
theorem ms_k1368 : (Jvm.Cond.fieldLink "MarkupStoreModel" (106 : Nat) "MarkupStoreModel" "lastPredicate" "[I") ∈ ms_tb := ms_i6 168 (by decide +kernel) (by decide +kernel)
theorem ms_k1508 : (Jvm.Cond.methodLink "MarkupStoreModel" (253 : Nat) ({ cls := "MarkupStoreModel", name := "loaded", desc := "()I" } : Jvm.MethodName)) ∈ ms_tb := ms_i7 68 (by decide +kernel) (by decide +kernel)
theorem ms_k1510 : (Jvm.Cond.instanceMethod ({ cls := "MarkupStoreModel", name := "loaded", desc := "()I" } : Jvm.MethodName)) ∈ ms_tb := ms_i7 70 (by decide +kernel) (by decide +kernel)
theorem ms_k1511 : (Jvm.Cond.code ({ cls := "MarkupStoreModel", name := "loaded", desc := "()I" } : Jvm.MethodName) prog_14_method_37_code (2 : Nat) (Option.some Jvm.ClassFile.FieldType.int)) ∈ ms_tb := ms_i7 71 (by decide +kernel) (by decide +kernel)
theorem ms_k1603 : (Jvm.Cond.methodLink "MarkupStoreModel" (275 : Nat) ({ cls := "MarkupStoreModel", name := "place", desc := "(I)I" } : Jvm.MethodName)) ∈ ms_tb := ms_i7 163 (by decide +kernel) (by decide +kernel)
theorem ms_k1605 : (Jvm.Cond.instanceMethod ({ cls := "MarkupStoreModel", name := "place", desc := "(I)I" } : Jvm.MethodName)) ∈ ms_tb := ms_i7 165 (by decide +kernel) (by decide +kernel)
theorem ms_k1606 : (Jvm.Cond.code ({ cls := "MarkupStoreModel", name := "place", desc := "(I)I" } : Jvm.MethodName) prog_14_method_6_code (3 : Nat) (Option.some Jvm.ClassFile.FieldType.int)) ∈ ms_tb := ms_i7 166 (by decide +kernel) (by decide +kernel)
theorem ms_k1611 : (Jvm.Cond.methodLink "MarkupStoreModel" (278 : Nat) ({ cls := "MarkupStoreModel", name := "inserted", desc := "(II)I" } : Jvm.MethodName)) ∈ ms_tb := ms_i7 171 (by decide +kernel) (by decide +kernel)
theorem ms_k1613 : (Jvm.Cond.instanceMethod ({ cls := "MarkupStoreModel", name := "inserted", desc := "(II)I" } : Jvm.MethodName)) ∈ ms_tb := ms_i7 173 (by decide +kernel) (by decide +kernel)
theorem ms_k1614 : (Jvm.Cond.code ({ cls := "MarkupStoreModel", name := "inserted", desc := "(II)I" } : Jvm.MethodName) prog_14_method_40_code (7 : Nat) (Option.some Jvm.ClassFile.FieldType.int)) ∈ ms_tb := ms_i7 174 (by decide +kernel) (by decide +kernel)
theorem ms_k1619 : (Jvm.Cond.methodLink "MarkupStoreModel" (256 : Nat) ({ cls := "MarkupStoreModel", name := "sibling", desc := "(II)I" } : Jvm.MethodName)) ∈ ms_tb := ms_i7 179 (by decide +kernel) (by decide +kernel)
theorem ms_k1621 : (Jvm.Cond.instanceMethod ({ cls := "MarkupStoreModel", name := "sibling", desc := "(II)I" } : Jvm.MethodName)) ∈ ms_tb := ms_i7 181 (by decide +kernel) (by decide +kernel)
theorem ms_k1622 : (Jvm.Cond.code ({ cls := "MarkupStoreModel", name := "sibling", desc := "(II)I" } : Jvm.MethodName) prog_14_method_10_code (4 : Nat) (Option.some Jvm.ClassFile.FieldType.int)) ∈ ms_tb := ms_i7 182 (by decide +kernel) (by decide +kernel)
theorem ms_k1627 : (Jvm.Cond.methodLink "MarkupStoreModel" (259 : Nat) ({ cls := "MarkupStoreModel", name := "child", desc := "(II)I" } : Jvm.MethodName)) ∈ ms_tb := ms_i7 187 (by decide +kernel) (by decide +kernel)
theorem ms_k1629 : (Jvm.Cond.instanceMethod ({ cls := "MarkupStoreModel", name := "child", desc := "(II)I" } : Jvm.MethodName)) ∈ ms_tb := ms_i7 189 (by decide +kernel) (by decide +kernel)
theorem ms_k1630 : (Jvm.Cond.code ({ cls := "MarkupStoreModel", name := "child", desc := "(II)I" } : Jvm.MethodName) prog_14_method_11_code (5 : Nat) (Option.some Jvm.ClassFile.FieldType.int)) ∈ ms_tb := ms_i7 190 (by decide +kernel) (by decide +kernel)
theorem ms_k1631 : (Jvm.Cond.methodLink "MarkupStoreModel" (262 : Nat) ({ cls := "MarkupStoreModel", name := "joined", desc := "(IZ)I" } : Jvm.MethodName)) ∈ ms_tb := ms_i7 191 (by decide +kernel) (by decide +kernel)
theorem ms_k1633 : (Jvm.Cond.instanceMethod ({ cls := "MarkupStoreModel", name := "joined", desc := "(IZ)I" } : Jvm.MethodName)) ∈ ms_tb := ms_i7 193 (by decide +kernel) (by decide +kernel)
theorem ms_k1634 : (Jvm.Cond.code ({ cls := "MarkupStoreModel", name := "joined", desc := "(IZ)I" } : Jvm.MethodName) prog_14_method_39_code (6 : Nat) (Option.some Jvm.ClassFile.FieldType.int)) ∈ ms_tb := ms_i7 194 (by decide +kernel) (by decide +kernel)
theorem ms_k1635 : (Jvm.Cond.methodLink "MarkupStoreModel" (266 : Nat) ({ cls := "MarkupStoreModel", name := "between", desc := "(III)V" } : Jvm.MethodName)) ∈ ms_tb := ms_i7 195 (by decide +kernel) (by decide +kernel)
theorem ms_k1637 : (Jvm.Cond.instanceMethod ({ cls := "MarkupStoreModel", name := "between", desc := "(III)V" } : Jvm.MethodName)) ∈ ms_tb := ms_i7 197 (by decide +kernel) (by decide +kernel)
theorem ms_k1638 : (Jvm.Cond.code ({ cls := "MarkupStoreModel", name := "between", desc := "(III)V" } : Jvm.MethodName) prog_14_method_31_code (12 : Nat) (Option.none : Option Jvm.ClassFile.FieldType)) ∈ ms_tb := ms_i7 198 (by decide +kernel) (by decide +kernel)
theorem ms_k1646 : (Jvm.Cond.methodLink "MarkupStoreModel" (269 : Nat) ({ cls := "MarkupStoreModel", name := "below", desc := "()I" } : Jvm.MethodName)) ∈ ms_tb := ms_i7 206 (by decide +kernel) (by decide +kernel)
theorem ms_k1648 : (Jvm.Cond.instanceMethod ({ cls := "MarkupStoreModel", name := "below", desc := "()I" } : Jvm.MethodName)) ∈ ms_tb := ms_i7 208 (by decide +kernel) (by decide +kernel)
theorem ms_k1649 : (Jvm.Cond.code ({ cls := "MarkupStoreModel", name := "below", desc := "()I" } : Jvm.MethodName) prog_14_method_32_code (5 : Nat) (Option.some Jvm.ClassFile.FieldType.int)) ∈ ms_tb := ms_i7 209 (by decide +kernel) (by decide +kernel)
theorem ms_k1650 : (Jvm.Cond.methodLink "MarkupStoreModel" (272 : Nat) ({ cls := "MarkupStoreModel", name := "end", desc := "(I)I" } : Jvm.MethodName)) ∈ ms_tb := ms_i7 210 (by decide +kernel) (by decide +kernel)
theorem ms_k1652 : (Jvm.Cond.instanceMethod ({ cls := "MarkupStoreModel", name := "end", desc := "(I)I" } : Jvm.MethodName)) ∈ ms_tb := ms_i7 212 (by decide +kernel) (by decide +kernel)
theorem ms_k1653 : (Jvm.Cond.code ({ cls := "MarkupStoreModel", name := "end", desc := "(I)I" } : Jvm.MethodName) prog_14_method_9_code (4 : Nat) (Option.some Jvm.ClassFile.FieldType.int)) ∈ ms_tb := ms_i7 213 (by decide +kernel) (by decide +kernel)
theorem ms_k1658 : (Jvm.Cond.methodLink "MarkupStoreModel" (281 : Nat) ({ cls := "MarkupStoreModel", name := "drop", desc := "(II)V" } : Jvm.MethodName)) ∈ ms_tb := ms_i7 218 (by decide +kernel) (by decide +kernel)
theorem ms_k1660 : (Jvm.Cond.instanceMethod ({ cls := "MarkupStoreModel", name := "drop", desc := "(II)V" } : Jvm.MethodName)) ∈ ms_tb := ms_i7 220 (by decide +kernel) (by decide +kernel)
theorem ms_k1661 : (Jvm.Cond.code ({ cls := "MarkupStoreModel", name := "drop", desc := "(II)V" } : Jvm.MethodName) prog_14_method_42_code (4 : Nat) (Option.none : Option Jvm.ClassFile.FieldType)) ∈ ms_tb := ms_i7 221 (by decide +kernel) (by decide +kernel)
theorem ms_k1686 : (Jvm.Cond.methodLink "MarkupStoreModel" (293 : Nat) ({ cls := "MarkupStoreModel", name := "axisOf", desc := "(C)I" } : Jvm.MethodName)) ∈ ms_tb := ms_i8 6 (by decide +kernel) (by decide +kernel)
theorem ms_k1687 : (Jvm.Cond.static ({ cls := "MarkupStoreModel", name := "axisOf", desc := "(C)I" } : Jvm.MethodName)) ∈ ms_tb := ms_i8 7 (by decide +kernel) (by decide +kernel)
theorem ms_k1688 : (Jvm.Cond.code ({ cls := "MarkupStoreModel", name := "axisOf", desc := "(C)I" } : Jvm.MethodName) prog_14_method_46_code (3 : Nat) (Option.some Jvm.ClassFile.FieldType.int)) ∈ ms_tb := ms_i8 8 (by decide +kernel) (by decide +kernel)
theorem ms_p44 : Cond.selects "MarkupStoreModel" (⟨"MarkupStoreModel", "loaded", "()I"⟩ : MethodName) (⟨"MarkupStoreModel", "loaded", "()I"⟩ : MethodName) ∈ ms_tb := ms_inP 44 (by decide +kernel) (by decide +kernel)
theorem ms_p66 : Cond.selects "MarkupStoreModel" (⟨"MarkupStoreModel", "place", "(I)I"⟩ : MethodName) (⟨"MarkupStoreModel", "place", "(I)I"⟩ : MethodName) ∈ ms_tb := ms_inP 66 (by decide +kernel) (by decide +kernel)
theorem ms_p68 : Cond.selects "MarkupStoreModel" (⟨"MarkupStoreModel", "inserted", "(II)I"⟩ : MethodName) (⟨"MarkupStoreModel", "inserted", "(II)I"⟩ : MethodName) ∈ ms_tb := ms_inP 68 (by decide +kernel) (by decide +kernel)
theorem ms_p70 : Cond.selects "MarkupStoreModel" (⟨"MarkupStoreModel", "sibling", "(II)I"⟩ : MethodName) (⟨"MarkupStoreModel", "sibling", "(II)I"⟩ : MethodName) ∈ ms_tb := ms_inP 70 (by decide +kernel) (by decide +kernel)
theorem ms_p72 : Cond.selects "MarkupStoreModel" (⟨"MarkupStoreModel", "child", "(II)I"⟩ : MethodName) (⟨"MarkupStoreModel", "child", "(II)I"⟩ : MethodName) ∈ ms_tb := ms_inP 72 (by decide +kernel) (by decide +kernel)
theorem ms_p73 : Cond.selects "MarkupStoreModel" (⟨"MarkupStoreModel", "joined", "(IZ)I"⟩ : MethodName) (⟨"MarkupStoreModel", "joined", "(IZ)I"⟩ : MethodName) ∈ ms_tb := ms_inP 73 (by decide +kernel) (by decide +kernel)
theorem ms_p74 : Cond.selects "MarkupStoreModel" (⟨"MarkupStoreModel", "between", "(III)V"⟩ : MethodName) (⟨"MarkupStoreModel", "between", "(III)V"⟩ : MethodName) ∈ ms_tb := ms_inP 74 (by decide +kernel) (by decide +kernel)
theorem ms_p76 : Cond.selects "MarkupStoreModel" (⟨"MarkupStoreModel", "below", "()I"⟩ : MethodName) (⟨"MarkupStoreModel", "below", "()I"⟩ : MethodName) ∈ ms_tb := ms_inP 76 (by decide +kernel) (by decide +kernel)
theorem ms_p77 : Cond.selects "MarkupStoreModel" (⟨"MarkupStoreModel", "end", "(I)I"⟩ : MethodName) (⟨"MarkupStoreModel", "end", "(I)I"⟩ : MethodName) ∈ ms_tb := ms_inP 77 (by decide +kernel) (by decide +kernel)
theorem ms_p78 : Cond.selects "MarkupStoreModel" (⟨"MarkupStoreModel", "drop", "(II)V"⟩ : MethodName) (⟨"MarkupStoreModel", "drop", "(II)V"⟩ : MethodName) ∈ ms_tb := ms_inP 78 (by decide +kernel) (by decide +kernel)
abbrev bM76 : ByteArray := prog_14_method_38_code
def yM76 : MethodName := ⟨"MarkupStoreModel", "load", "()I"⟩
abbrev bM77 : ByteArray := prog_14_method_39_code
def yM77 : MethodName := ⟨"MarkupStoreModel", "joined", "(IZ)I"⟩
abbrev bM78 : ByteArray := prog_14_method_40_code
def yM78 : MethodName := ⟨"MarkupStoreModel", "inserted", "(II)I"⟩
abbrev bM79 : ByteArray := prog_14_method_41_code
def yM79 : MethodName := ⟨"MarkupStoreModel", "insert", "(II)I"⟩
abbrev bM80 : ByteArray := prog_14_method_42_code
def yM80 : MethodName := ⟨"MarkupStoreModel", "drop", "(II)V"⟩
abbrev bM81 : ByteArray := prog_14_method_43_code
def yM81 : MethodName := ⟨"MarkupStoreModel", "remove", "(I)I"⟩
abbrev bM82 : ByteArray := prog_14_method_44_code
def yM82 : MethodName := ⟨"MarkupStoreModel", "replace", "(I)Z"⟩
abbrev bM83 : ByteArray := prog_14_method_45_code
def yM83 : MethodName := ⟨"MarkupStoreModel", "attributeOf", "(III)I"⟩
abbrev bM84 : ByteArray := prog_14_method_46_code
def yM84 : MethodName := ⟨"MarkupStoreModel", "axisOf", "(C)I"⟩
abbrev bM85 : ByteArray := prog_14_method_47_code
def yM85 : MethodName := ⟨"MarkupStoreModel", "beginPath", "()V"⟩
abbrev bM86 : ByteArray := prog_14_method_48_code
def yM86 : MethodName := ⟨"MarkupStoreModel", "beginStep", "()V"⟩
abbrev bM87 : ByteArray := prog_14_method_49_code
def yM87 : MethodName := ⟨"MarkupStoreModel", "string", "(I)V"⟩
theorem d76_0 : decode bM76 0 = .ok (.aload_n 0, 1) := by decide +kernel
theorem d76_1 : decode bM76 1 = .ok (.invokevirtual 253, 3) := by decide +kernel
theorem d76_4 : decode bM76 4 = .ok (.istore_n 1, 1) := by decide +kernel
theorem d76_5 : decode bM76 5 = .ok (.aload_n 0, 1) := by decide +kernel
theorem d76_6 : decode bM76 6 = .ok (.iconst 0, 1) := by decide +kernel
theorem d76_7 : decode bM76 7 = .ok (.putfield 133, 3) := by decide +kernel
theorem d76_10 : decode bM76 10 = .ok (.iload_n 1, 1) := by decide +kernel
theorem d76_11 : decode bM76 11 = .ok (.ireturn, 1) := by decide +kernel
theorem d77_0 : decode bM77 0 = .ok (.aload_n 0, 1) := by decide +kernel
theorem d77_1 : decode bM77 1 = .ok (.iload_n 1, 1) := by decide +kernel
theorem d77_2 : decode bM77 2 = .ok (.iconst 3, 1) := by decide +kernel
theorem d77_3 : decode bM77 3 = .ok (.invokevirtual 123, 3) := by decide +kernel
theorem d77_6 : decode bM77 6 = .ok (.istore_n 3, 1) := by decide +kernel
theorem d77_7 : decode bM77 7 = .ok (.aload_n 0, 1) := by decide +kernel
theorem d77_8 : decode bM77 8 = .ok (.getfield 16, 3) := by decide +kernel
theorem d77_11 : decode bM77 11 = .ok (.iconst 3, 1) := by decide +kernel
theorem d77_12 : decode bM77 12 = .ok (.iaload, 1) := by decide +kernel
theorem d77_13 : decode bM77 13 = .ok (.istore 4, 2) := by decide +kernel
theorem d77_15 : decode bM77 15 = .ok (.aload_n 0, 1) := by decide +kernel
theorem d77_16 : decode bM77 16 = .ok (.getfield 161, 3) := by decide +kernel
theorem d77_19 : decode bM77 19 = .ok (.ifCond .ne 12, 3) := by decide +kernel
theorem d77_22 : decode bM77 22 = .ok (.iload_n 3, 1) := by decide +kernel
theorem d77_23 : decode bM77 23 = .ok (.iload 4, 2) := by decide +kernel
theorem d77_25 : decode bM77 25 = .ok (.iadd, 1) := by decide +kernel
theorem d77_26 : decode bM77 26 = .ok (.bipush 20, 2) := by decide +kernel
theorem d77_28 : decode bM77 28 = .ok (.if_icmp .le 7, 3) := by decide +kernel
theorem d77_31 : decode bM77 31 = .ok (.sipush (-2000), 3) := by decide +kernel
theorem d77_34 : decode bM77 34 = .ok (.ireturn, 1) := by decide +kernel
theorem d77_35 : decode bM77 35 = .ok (.iload_n 3, 1) := by decide +kernel
theorem d77_36 : decode bM77 36 = .ok (.iconst 1, 1) := by decide +kernel
theorem d77_37 : decode bM77 37 = .ok (.isub, 1) := by decide +kernel
theorem d77_38 : decode bM77 38 = .ok (.istore 5, 2) := by decide +kernel
theorem d77_40 : decode bM77 40 = .ok (.iload 5, 2) := by decide +kernel
theorem d77_42 : decode bM77 42 = .ok (.ifCond .lt 36, 3) := by decide +kernel
theorem d77_45 : decode bM77 45 = .ok (.iload_n 2, 1) := by decide +kernel
theorem d77_46 : decode bM77 46 = .ok (.ifCond .ne 32, 3) := by decide +kernel
theorem d77_49 : decode bM77 49 = .ok (.aload_n 0, 1) := by decide +kernel
theorem d77_50 : decode bM77 50 = .ok (.iload_n 1, 1) := by decide +kernel
theorem d77_51 : decode bM77 51 = .ok (.bipush 8, 2) := by decide +kernel
theorem d77_53 : decode bM77 53 = .ok (.iload 4, 2) := by decide +kernel
theorem d77_55 : decode bM77 55 = .ok (.iadd, 1) := by decide +kernel
theorem d77_56 : decode bM77 56 = .ok (.iload 5, 2) := by decide +kernel
theorem d77_58 : decode bM77 58 = .ok (.iadd, 1) := by decide +kernel
theorem d77_59 : decode bM77 59 = .ok (.aload_n 0, 1) := by decide +kernel
theorem d77_60 : decode bM77 60 = .ok (.iload_n 1, 1) := by decide +kernel
theorem d77_61 : decode bM77 61 = .ok (.bipush 8, 2) := by decide +kernel
theorem d77_63 : decode bM77 63 = .ok (.iload 5, 2) := by decide +kernel
theorem d77_65 : decode bM77 65 = .ok (.iadd, 1) := by decide +kernel
theorem d77_66 : decode bM77 66 = .ok (.invokevirtual 123, 3) := by decide +kernel
theorem d77_69 : decode bM77 69 = .ok (.invokevirtual 229, 3) := by decide +kernel
theorem d77_72 : decode bM77 72 = .ok (.iinc 5 (-1), 3) := by decide +kernel
theorem d77_75 : decode bM77 75 = .ok (.goto (-35), 3) := by decide +kernel
theorem d77_78 : decode bM77 78 = .ok (.iconst 0, 1) := by decide +kernel
theorem d77_79 : decode bM77 79 = .ok (.istore 5, 2) := by decide +kernel
theorem d77_81 : decode bM77 81 = .ok (.iload 5, 2) := by decide +kernel
theorem d77_83 : decode bM77 83 = .ok (.iload 4, 2) := by decide +kernel
theorem d77_85 : decode bM77 85 = .ok (.if_icmp .ge 40, 3) := by decide +kernel
theorem d77_88 : decode bM77 88 = .ok (.aload_n 0, 1) := by decide +kernel
theorem d77_89 : decode bM77 89 = .ok (.iload_n 1, 1) := by decide +kernel
theorem d77_90 : decode bM77 90 = .ok (.bipush 8, 2) := by decide +kernel
theorem d77_92 : decode bM77 92 = .ok (.iload_n 2, 1) := by decide +kernel
theorem d77_93 : decode bM77 93 = .ok (.ifCond .eq 10, 3) := by decide +kernel
theorem d77_96 : decode bM77 96 = .ok (.iload_n 3, 1) := by decide +kernel
theorem d77_97 : decode bM77 97 = .ok (.iload 5, 2) := by decide +kernel
theorem d77_99 : decode bM77 99 = .ok (.iadd, 1) := by decide +kernel
theorem d77_100 : decode bM77 100 = .ok (.goto 5, 3) := by decide +kernel
theorem d77_103 : decode bM77 103 = .ok (.iload 5, 2) := by decide +kernel
theorem d77_105 : decode bM77 105 = .ok (.iadd, 1) := by decide +kernel
theorem d77_106 : decode bM77 106 = .ok (.aload_n 0, 1) := by decide +kernel
theorem d77_107 : decode bM77 107 = .ok (.getfield 16, 3) := by decide +kernel
theorem d77_110 : decode bM77 110 = .ok (.bipush 8, 2) := by decide +kernel
theorem d77_112 : decode bM77 112 = .ok (.iload 5, 2) := by decide +kernel
theorem d77_114 : decode bM77 114 = .ok (.iadd, 1) := by decide +kernel
theorem d77_115 : decode bM77 115 = .ok (.iaload, 1) := by decide +kernel
theorem d77_116 : decode bM77 116 = .ok (.invokevirtual 229, 3) := by decide +kernel
theorem d77_119 : decode bM77 119 = .ok (.iinc 5 1, 3) := by decide +kernel
theorem d77_122 : decode bM77 122 = .ok (.goto (-41), 3) := by decide +kernel
theorem d77_125 : decode bM77 125 = .ok (.aload_n 0, 1) := by decide +kernel
theorem d77_126 : decode bM77 126 = .ok (.iload_n 1, 1) := by decide +kernel
theorem d77_127 : decode bM77 127 = .ok (.iconst 3, 1) := by decide +kernel
theorem d77_128 : decode bM77 128 = .ok (.iload_n 3, 1) := by decide +kernel
theorem d77_129 : decode bM77 129 = .ok (.iload 4, 2) := by decide +kernel
theorem d77_131 : decode bM77 131 = .ok (.iadd, 1) := by decide +kernel
theorem d77_132 : decode bM77 132 = .ok (.invokevirtual 229, 3) := by decide +kernel
theorem d77_135 : decode bM77 135 = .ok (.aload_n 0, 1) := by decide +kernel
theorem d77_136 : decode bM77 136 = .ok (.dup, 1) := by decide +kernel
theorem d77_137 : decode bM77 137 = .ok (.getfield 239, 3) := by decide +kernel
theorem d77_140 : decode bM77 140 = .ok (.iconst 1, 1) := by decide +kernel
theorem d77_141 : decode bM77 141 = .ok (.iadd, 1) := by decide +kernel
theorem d77_142 : decode bM77 142 = .ok (.putfield 239, 3) := by decide +kernel
theorem d77_145 : decode bM77 145 = .ok (.aload_n 0, 1) := by decide +kernel
theorem d77_146 : decode bM77 146 = .ok (.iload_n 1, 1) := by decide +kernel
theorem d77_147 : decode bM77 147 = .ok (.iconst 0, 1) := by decide +kernel
theorem d77_148 : decode bM77 148 = .ok (.invokevirtual 123, 3) := by decide +kernel
theorem d77_151 : decode bM77 151 = .ok (.iconst 1, 1) := by decide +kernel
theorem d77_152 : decode bM77 152 = .ok (.isub, 1) := by decide +kernel
theorem d77_153 : decode bM77 153 = .ok (.ireturn, 1) := by decide +kernel
theorem d78_0 : decode bM78 0 = .ok (.iload_n 2, 1) := by decide +kernel
theorem d78_1 : decode bM78 1 = .ok (.ifCond .lt 37, 3) := by decide +kernel
theorem d78_4 : decode bM78 4 = .ok (.iload_n 2, 1) := by decide +kernel
theorem d78_5 : decode bM78 5 = .ok (.iconst 3, 1) := by decide +kernel
theorem d78_6 : decode bM78 6 = .ok (.if_icmp .gt 32, 3) := by decide +kernel
theorem d78_9 : decode bM78 9 = .ok (.iload_n 2, 1) := by decide +kernel
theorem d78_10 : decode bM78 10 = .ok (.iconst 2, 1) := by decide +kernel
theorem d78_11 : decode bM78 11 = .ok (.if_icmp .ge 12, 3) := by decide +kernel
theorem d78_14 : decode bM78 14 = .ok (.aload_n 0, 1) := by decide +kernel
theorem d78_15 : decode bM78 15 = .ok (.iload_n 1, 1) := by decide +kernel
theorem d78_16 : decode bM78 16 = .ok (.iconst 2, 1) := by decide +kernel
theorem d78_17 : decode bM78 17 = .ok (.invokevirtual 123, 3) := by decide +kernel
theorem d78_20 : decode bM78 20 = .ok (.ifCond .lt 18, 3) := by decide +kernel
theorem d78_23 : decode bM78 23 = .ok (.iload_n 2, 1) := by decide +kernel
theorem d78_24 : decode bM78 24 = .ok (.iconst 1, 1) := by decide +kernel
theorem d78_25 : decode bM78 25 = .ok (.if_icmp .le 17, 3) := by decide +kernel
theorem d78_28 : decode bM78 28 = .ok (.aload_n 0, 1) := by decide +kernel
theorem d78_29 : decode bM78 29 = .ok (.iload_n 1, 1) := by decide +kernel
theorem d78_30 : decode bM78 30 = .ok (.iconst 1, 1) := by decide +kernel
theorem d78_31 : decode bM78 31 = .ok (.invokevirtual 123, 3) := by decide +kernel
theorem d78_34 : decode bM78 34 = .ok (.iconst 1, 1) := by decide +kernel
theorem d78_35 : decode bM78 35 = .ok (.if_icmp .eq 7, 3) := by decide +kernel
theorem d78_38 : decode bM78 38 = .ok (.sipush (-2000), 3) := by decide +kernel
theorem d78_41 : decode bM78 41 = .ok (.ireturn, 1) := by decide +kernel
theorem d78_42 : decode bM78 42 = .ok (.iload_n 2, 1) := by decide +kernel
theorem d78_43 : decode bM78 43 = .ok (.iconst 2, 1) := by decide +kernel
theorem d78_44 : decode bM78 44 = .ok (.if_icmp .ge 12, 3) := by decide +kernel
theorem d78_47 : decode bM78 47 = .ok (.aload_n 0, 1) := by decide +kernel
theorem d78_48 : decode bM78 48 = .ok (.iload_n 1, 1) := by decide +kernel
theorem d78_49 : decode bM78 49 = .ok (.iconst 2, 1) := by decide +kernel
theorem d78_50 : decode bM78 50 = .ok (.invokevirtual 123, 3) := by decide +kernel
theorem d78_53 : decode bM78 53 = .ok (.goto 4, 3) := by decide +kernel
theorem d78_56 : decode bM78 56 = .ok (.iload_n 1, 1) := by decide +kernel
theorem d78_57 : decode bM78 57 = .ok (.istore_n 3, 1) := by decide +kernel
theorem d78_58 : decode bM78 58 = .ok (.aload_n 0, 1) := by decide +kernel
theorem d78_59 : decode bM78 59 = .ok (.iconst 0, 1) := by decide +kernel
theorem d78_60 : decode bM78 60 = .ok (.aload_n 0, 1) := by decide +kernel
theorem d78_61 : decode bM78 61 = .ok (.iload_n 3, 1) := by decide +kernel
theorem d78_62 : decode bM78 62 = .ok (.invokevirtual 127, 3) := by decide +kernel
theorem d78_65 : decode bM78 65 = .ok (.iconst 1, 1) := by decide +kernel
theorem d78_66 : decode bM78 66 = .ok (.iadd, 1) := by decide +kernel
theorem d78_67 : decode bM78 67 = .ok (.invokevirtual 242, 3) := by decide +kernel
theorem d78_70 : decode bM78 70 = .ok (.aload_n 0, 1) := by decide +kernel
theorem d78_71 : decode bM78 71 = .ok (.getfield 137, 3) := by decide +kernel
theorem d78_74 : decode bM78 74 = .ok (.ifCond .lt 10, 3) := by decide +kernel
theorem d78_77 : decode bM78 77 = .ok (.iconst (-1), 1) := by decide +kernel
theorem d78_78 : decode bM78 78 = .ok (.aload_n 0, 1) := by decide +kernel
theorem d78_79 : decode bM78 79 = .ok (.getfield 137, 3) := by decide +kernel
theorem d78_82 : decode bM78 82 = .ok (.isub, 1) := by decide +kernel
theorem d78_83 : decode bM78 83 = .ok (.ireturn, 1) := by decide +kernel
theorem d78_84 : decode bM78 84 = .ok (.iload_n 2, 1) := by decide +kernel
theorem d78_85 : decode bM78 85 = .ok (.ifCond .ne 12, 3) := by decide +kernel
theorem d78_88 : decode bM78 88 = .ok (.aload_n 0, 1) := by decide +kernel
theorem d78_89 : decode bM78 89 = .ok (.iload_n 1, 1) := by decide +kernel
theorem d78_90 : decode bM78 90 = .ok (.iconst (-1), 1) := by decide +kernel
theorem d78_91 : decode bM78 91 = .ok (.invokevirtual 256, 3) := by decide +kernel
theorem d78_94 : decode bM78 94 = .ok (.goto 27, 3) := by decide +kernel
theorem d78_97 : decode bM78 97 = .ok (.iload_n 2, 1) := by decide +kernel
theorem d78_98 : decode bM78 98 = .ok (.iconst 1, 1) := by decide +kernel
theorem d78_99 : decode bM78 99 = .ok (.if_icmp .ne 7, 3) := by decide +kernel
theorem d78_102 : decode bM78 102 = .ok (.iload_n 1, 1) := by decide +kernel
theorem d78_103 : decode bM78 103 = .ok (.goto 18, 3) := by decide +kernel
theorem d78_106 : decode bM78 106 = .ok (.iload_n 2, 1) := by decide +kernel
theorem d78_107 : decode bM78 107 = .ok (.iconst 2, 1) := by decide +kernel
theorem d78_108 : decode bM78 108 = .ok (.if_icmp .ne 7, 3) := by decide +kernel
theorem d78_111 : decode bM78 111 = .ok (.iconst (-1), 1) := by decide +kernel
theorem d78_112 : decode bM78 112 = .ok (.goto 9, 3) := by decide +kernel
theorem d78_115 : decode bM78 115 = .ok (.aload_n 0, 1) := by decide +kernel
theorem d78_116 : decode bM78 116 = .ok (.iload_n 1, 1) := by decide +kernel
theorem d78_117 : decode bM78 117 = .ok (.iconst (-1), 1) := by decide +kernel
theorem d78_118 : decode bM78 118 = .ok (.invokevirtual 259, 3) := by decide +kernel
theorem d78_121 : decode bM78 121 = .ok (.istore 4, 2) := by decide +kernel
theorem d78_123 : decode bM78 123 = .ok (.iload_n 2, 1) := by decide +kernel
theorem d78_124 : decode bM78 124 = .ok (.ifCond .ne 7, 3) := by decide +kernel
theorem d78_127 : decode bM78 127 = .ok (.iload_n 1, 1) := by decide +kernel
theorem d78_128 : decode bM78 128 = .ok (.goto 32, 3) := by decide +kernel
theorem d78_131 : decode bM78 131 = .ok (.iload_n 2, 1) := by decide +kernel
theorem d78_132 : decode bM78 132 = .ok (.iconst 1, 1) := by decide +kernel
theorem d78_133 : decode bM78 133 = .ok (.if_icmp .ne 12, 3) := by decide +kernel
theorem d78_136 : decode bM78 136 = .ok (.aload_n 0, 1) := by decide +kernel
theorem d78_137 : decode bM78 137 = .ok (.iload_n 1, 1) := by decide +kernel
theorem d78_138 : decode bM78 138 = .ok (.iconst 1, 1) := by decide +kernel
theorem d78_139 : decode bM78 139 = .ok (.invokevirtual 256, 3) := by decide +kernel
theorem d78_142 : decode bM78 142 = .ok (.goto 18, 3) := by decide +kernel
theorem d78_145 : decode bM78 145 = .ok (.iload_n 2, 1) := by decide +kernel
theorem d78_146 : decode bM78 146 = .ok (.iconst 2, 1) := by decide +kernel
theorem d78_147 : decode bM78 147 = .ok (.if_icmp .ne 12, 3) := by decide +kernel
theorem d78_150 : decode bM78 150 = .ok (.aload_n 0, 1) := by decide +kernel
theorem d78_151 : decode bM78 151 = .ok (.iload_n 1, 1) := by decide +kernel
theorem d78_152 : decode bM78 152 = .ok (.iconst 1, 1) := by decide +kernel
theorem d78_153 : decode bM78 153 = .ok (.invokevirtual 259, 3) := by decide +kernel
theorem d78_156 : decode bM78 156 = .ok (.goto 4, 3) := by decide +kernel
theorem d78_159 : decode bM78 159 = .ok (.iconst (-1), 1) := by decide +kernel
theorem d78_160 : decode bM78 160 = .ok (.istore 5, 2) := by decide +kernel
theorem d78_162 : decode bM78 162 = .ok (.aload_n 0, 1) := by decide +kernel
theorem d78_163 : decode bM78 163 = .ok (.getfield 16, 3) := by decide +kernel
theorem d78_166 : decode bM78 166 = .ok (.iconst 1, 1) := by decide +kernel
theorem d78_167 : decode bM78 167 = .ok (.iaload, 1) := by decide +kernel
theorem d78_168 : decode bM78 168 = .ok (.iconst 2, 1) := by decide +kernel
theorem d78_169 : decode bM78 169 = .ok (.if_icmp .ne 27, 3) := by decide +kernel
theorem d78_172 : decode bM78 172 = .ok (.iload 4, 2) := by decide +kernel
theorem d78_174 : decode bM78 174 = .ok (.ifCond .lt 22, 3) := by decide +kernel
theorem d78_177 : decode bM78 177 = .ok (.aload_n 0, 1) := by decide +kernel
theorem d78_178 : decode bM78 178 = .ok (.iload 4, 2) := by decide +kernel
theorem d78_180 : decode bM78 180 = .ok (.iconst 1, 1) := by decide +kernel
theorem d78_181 : decode bM78 181 = .ok (.invokevirtual 123, 3) := by decide +kernel
theorem d78_184 : decode bM78 184 = .ok (.iconst 2, 1) := by decide +kernel
theorem d78_185 : decode bM78 185 = .ok (.if_icmp .ne 11, 3) := by decide +kernel
theorem d78_188 : decode bM78 188 = .ok (.aload_n 0, 1) := by decide +kernel
theorem d78_189 : decode bM78 189 = .ok (.iload 4, 2) := by decide +kernel
theorem d78_191 : decode bM78 191 = .ok (.iconst 1, 1) := by decide +kernel
theorem d78_192 : decode bM78 192 = .ok (.invokevirtual 262, 3) := by decide +kernel
theorem d78_195 : decode bM78 195 = .ok (.ireturn, 1) := by decide +kernel
theorem d78_196 : decode bM78 196 = .ok (.aload_n 0, 1) := by decide +kernel
theorem d78_197 : decode bM78 197 = .ok (.getfield 16, 3) := by decide +kernel
theorem d78_200 : decode bM78 200 = .ok (.iconst 1, 1) := by decide +kernel
theorem d78_201 : decode bM78 201 = .ok (.iaload, 1) := by decide +kernel
theorem d78_202 : decode bM78 202 = .ok (.iconst 2, 1) := by decide +kernel
theorem d78_203 : decode bM78 203 = .ok (.if_icmp .ne 27, 3) := by decide +kernel
theorem d78_206 : decode bM78 206 = .ok (.iload 5, 2) := by decide +kernel
theorem d78_208 : decode bM78 208 = .ok (.ifCond .lt 22, 3) := by decide +kernel
theorem d78_211 : decode bM78 211 = .ok (.aload_n 0, 1) := by decide +kernel
theorem d78_212 : decode bM78 212 = .ok (.iload 5, 2) := by decide +kernel
theorem d78_214 : decode bM78 214 = .ok (.iconst 1, 1) := by decide +kernel
theorem d78_215 : decode bM78 215 = .ok (.invokevirtual 123, 3) := by decide +kernel
theorem d78_218 : decode bM78 218 = .ok (.iconst 2, 1) := by decide +kernel
theorem d78_219 : decode bM78 219 = .ok (.if_icmp .ne 11, 3) := by decide +kernel
theorem d78_222 : decode bM78 222 = .ok (.aload_n 0, 1) := by decide +kernel
theorem d78_223 : decode bM78 223 = .ok (.iload 5, 2) := by decide +kernel
theorem d78_225 : decode bM78 225 = .ok (.iconst 0, 1) := by decide +kernel
theorem d78_226 : decode bM78 226 = .ok (.invokevirtual 262, 3) := by decide +kernel
theorem d78_229 : decode bM78 229 = .ok (.ireturn, 1) := by decide +kernel
theorem d78_230 : decode bM78 230 = .ok (.aload_n 0, 1) := by decide +kernel
theorem d78_231 : decode bM78 231 = .ok (.getfield 161, 3) := by decide +kernel
theorem d78_234 : decode bM78 234 = .ok (.ifCond .ne 32, 3) := by decide +kernel
theorem d78_237 : decode bM78 237 = .ok (.aload_n 0, 1) := by decide +kernel
theorem d78_238 : decode bM78 238 = .ok (.invokevirtual 115, 3) := by decide +kernel
theorem d78_241 : decode bM78 241 = .ok (.aload_n 0, 1) := by decide +kernel
theorem d78_242 : decode bM78 242 = .ok (.getfield 152, 3) := by decide +kernel
theorem d78_245 : decode bM78 245 = .ok (.iadd, 1) := by decide +kernel
theorem d78_246 : decode bM78 246 = .ok (.bipush 40, 2) := by decide +kernel
theorem d78_248 : decode bM78 248 = .ok (.if_icmp .gt 18, 3) := by decide +kernel
theorem d78_251 : decode bM78 251 = .ok (.aload_n 0, 1) := by decide +kernel
theorem d78_252 : decode bM78 252 = .ok (.getfield 233, 3) := by decide +kernel
theorem d78_255 : decode bM78 255 = .ok (.aload_n 0, 1) := by decide +kernel
theorem d78_256 : decode bM78 256 = .ok (.getfield 152, 3) := by decide +kernel
theorem d78_259 : decode bM78 259 = .ok (.iadd, 1) := by decide +kernel
theorem d78_260 : decode bM78 260 = .ok (.sipush 200, 3) := by decide +kernel
theorem d78_263 : decode bM78 263 = .ok (.if_icmp .le 7, 3) := by decide +kernel
theorem d78_266 : decode bM78 266 = .ok (.sipush (-2000), 3) := by decide +kernel
theorem d78_269 : decode bM78 269 = .ok (.ireturn, 1) := by decide +kernel
theorem d78_270 : decode bM78 270 = .ok (.aload_n 0, 1) := by decide +kernel
theorem d78_271 : decode bM78 271 = .ok (.iload 4, 2) := by decide +kernel
theorem d78_273 : decode bM78 273 = .ok (.iload 5, 2) := by decide +kernel
theorem d78_275 : decode bM78 275 = .ok (.aload_n 0, 1) := by decide +kernel
theorem d78_276 : decode bM78 276 = .ok (.iload_n 3, 1) := by decide +kernel
theorem d78_277 : decode bM78 277 = .ok (.iconst 4, 1) := by decide +kernel
theorem d78_278 : decode bM78 278 = .ok (.invokevirtual 123, 3) := by decide +kernel
theorem d78_281 : decode bM78 281 = .ok (.invokevirtual 266, 3) := by decide +kernel
theorem d78_284 : decode bM78 284 = .ok (.aload_n 0, 1) := by decide +kernel
theorem d78_285 : decode bM78 285 = .ok (.iload_n 3, 1) := by decide +kernel
theorem d78_286 : decode bM78 286 = .ok (.iconst 4, 1) := by decide +kernel
theorem d78_287 : decode bM78 287 = .ok (.invokevirtual 123, 3) := by decide +kernel
theorem d78_290 : decode bM78 290 = .ok (.aload_n 0, 1) := by decide +kernel
theorem d78_291 : decode bM78 291 = .ok (.getfield 220, 3) := by decide +kernel
theorem d78_294 : decode bM78 294 = .ok (.iadd, 1) := by decide +kernel
theorem d78_295 : decode bM78 295 = .ok (.aload_n 0, 1) := by decide +kernel
theorem d78_296 : decode bM78 296 = .ok (.invokevirtual 269, 3) := by decide +kernel
theorem d78_299 : decode bM78 299 = .ok (.iadd, 1) := by decide +kernel
theorem d78_300 : decode bM78 300 = .ok (.bipush 16, 2) := by decide +kernel
theorem d78_302 : decode bM78 302 = .ok (.if_icmp .le 7, 3) := by decide +kernel
theorem d78_305 : decode bM78 305 = .ok (.sipush (-2000), 3) := by decide +kernel
theorem d78_308 : decode bM78 308 = .ok (.ireturn, 1) := by decide +kernel
theorem d78_309 : decode bM78 309 = .ok (.aload_n 0, 1) := by decide +kernel
theorem d78_310 : decode bM78 310 = .ok (.iload_n 1, 1) := by decide +kernel
theorem d78_311 : decode bM78 311 = .ok (.invokevirtual 130, 3) := by decide +kernel
theorem d78_314 : decode bM78 314 = .ok (.istore 6, 2) := by decide +kernel
theorem d78_316 : decode bM78 316 = .ok (.aload_n 0, 1) := by decide +kernel
theorem d78_317 : decode bM78 317 = .ok (.iload_n 3, 1) := by decide +kernel
theorem d78_318 : decode bM78 318 = .ok (.iload_n 2, 1) := by decide +kernel
theorem d78_319 : decode bM78 319 = .ok (.ifCond .ne 8, 3) := by decide +kernel
theorem d78_322 : decode bM78 322 = .ok (.iload 6, 2) := by decide +kernel
theorem d78_324 : decode bM78 324 = .ok (.goto 21, 3) := by decide +kernel
theorem d78_327 : decode bM78 327 = .ok (.iload_n 2, 1) := by decide +kernel
theorem d78_328 : decode bM78 328 = .ok (.iconst 2, 1) := by decide +kernel
theorem d78_329 : decode bM78 329 = .ok (.if_icmp .ne 10, 3) := by decide +kernel
theorem d78_332 : decode bM78 332 = .ok (.iload 6, 2) := by decide +kernel
theorem d78_334 : decode bM78 334 = .ok (.iconst 1, 1) := by decide +kernel
theorem d78_335 : decode bM78 335 = .ok (.iadd, 1) := by decide +kernel
theorem d78_336 : decode bM78 336 = .ok (.goto 9, 3) := by decide +kernel
theorem d78_339 : decode bM78 339 = .ok (.aload_n 0, 1) := by decide +kernel
theorem d78_340 : decode bM78 340 = .ok (.iload 6, 2) := by decide +kernel
theorem d78_342 : decode bM78 342 = .ok (.invokevirtual 272, 3) := by decide +kernel
theorem d78_345 : decode bM78 345 = .ok (.invokevirtual 246, 3) := by decide +kernel
theorem d78_348 : decode bM78 348 = .ok (.aload_n 0, 1) := by decide +kernel
theorem d78_349 : decode bM78 349 = .ok (.dup, 1) := by decide +kernel
theorem d78_350 : decode bM78 350 = .ok (.getfield 239, 3) := by decide +kernel
theorem d78_353 : decode bM78 353 = .ok (.iconst 1, 1) := by decide +kernel
theorem d78_354 : decode bM78 354 = .ok (.iadd, 1) := by decide +kernel
theorem d78_355 : decode bM78 355 = .ok (.putfield 239, 3) := by decide +kernel
theorem d78_358 : decode bM78 358 = .ok (.aload_n 0, 1) := by decide +kernel
theorem d78_359 : decode bM78 359 = .ok (.aload_n 0, 1) := by decide +kernel
theorem d78_360 : decode bM78 360 = .ok (.getfield 19, 3) := by decide +kernel
theorem d78_363 : decode bM78 363 = .ok (.iconst 0, 1) := by decide +kernel
theorem d78_364 : decode bM78 364 = .ok (.iaload, 1) := by decide +kernel
theorem d78_365 : decode bM78 365 = .ok (.iconst 0, 1) := by decide +kernel
theorem d78_366 : decode bM78 366 = .ok (.invokevirtual 123, 3) := by decide +kernel
theorem d78_369 : decode bM78 369 = .ok (.iconst 1, 1) := by decide +kernel
theorem d78_370 : decode bM78 370 = .ok (.isub, 1) := by decide +kernel
theorem d78_371 : decode bM78 371 = .ok (.ireturn, 1) := by decide +kernel
theorem d79_0 : decode bM79 0 = .ok (.aload_n 0, 1) := by decide +kernel
theorem d79_1 : decode bM79 1 = .ok (.iload_n 1, 1) := by decide +kernel
theorem d79_2 : decode bM79 2 = .ok (.invokevirtual 275, 3) := by decide +kernel
theorem d79_5 : decode bM79 5 = .ok (.istore_n 3, 1) := by decide +kernel
theorem d79_6 : decode bM79 6 = .ok (.iload_n 3, 1) := by decide +kernel
theorem d79_7 : decode bM79 7 = .ok (.ifCond .ge 9, 3) := by decide +kernel
theorem d79_10 : decode bM79 10 = .ok (.sipush (-1000), 3) := by decide +kernel
theorem d79_13 : decode bM79 13 = .ok (.goto 9, 3) := by decide +kernel
theorem d79_16 : decode bM79 16 = .ok (.aload_n 0, 1) := by decide +kernel
theorem d79_17 : decode bM79 17 = .ok (.iload_n 3, 1) := by decide +kernel
theorem d79_18 : decode bM79 18 = .ok (.iload_n 2, 1) := by decide +kernel
theorem d79_19 : decode bM79 19 = .ok (.invokevirtual 278, 3) := by decide +kernel
theorem d79_22 : decode bM79 22 = .ok (.istore 4, 2) := by decide +kernel
theorem d79_24 : decode bM79 24 = .ok (.aload_n 0, 1) := by decide +kernel
theorem d79_25 : decode bM79 25 = .ok (.iconst 0, 1) := by decide +kernel
theorem d79_26 : decode bM79 26 = .ok (.putfield 133, 3) := by decide +kernel
theorem d79_29 : decode bM79 29 = .ok (.iload 4, 2) := by decide +kernel
theorem d79_31 : decode bM79 31 = .ok (.ireturn, 1) := by decide +kernel
theorem d80_0 : decode bM80 0 = .ok (.iload_n 1, 1) := by decide +kernel
theorem d80_1 : decode bM80 1 = .ok (.istore_n 3, 1) := by decide +kernel
theorem d80_2 : decode bM80 2 = .ok (.iload_n 3, 1) := by decide +kernel
theorem d80_3 : decode bM80 3 = .ok (.iload_n 2, 1) := by decide +kernel
theorem d80_4 : decode bM80 4 = .ok (.if_icmp .ge 20, 3) := by decide +kernel
theorem d80_7 : decode bM80 7 = .ok (.aload_n 0, 1) := by decide +kernel
theorem d80_8 : decode bM80 8 = .ok (.aload_n 0, 1) := by decide +kernel
theorem d80_9 : decode bM80 9 = .ok (.iload_n 3, 1) := by decide +kernel
theorem d80_10 : decode bM80 10 = .ok (.invokevirtual 119, 3) := by decide +kernel
theorem d80_13 : decode bM80 13 = .ok (.iconst 0, 1) := by decide +kernel
theorem d80_14 : decode bM80 14 = .ok (.iconst 0, 1) := by decide +kernel
theorem d80_15 : decode bM80 15 = .ok (.invokevirtual 229, 3) := by decide +kernel
theorem d80_18 : decode bM80 18 = .ok (.iinc 3 1, 3) := by decide +kernel
theorem d80_21 : decode bM80 21 = .ok (.goto (-19), 3) := by decide +kernel
theorem d80_24 : decode bM80 24 = .ok (.iload_n 2, 1) := by decide +kernel
theorem d80_25 : decode bM80 25 = .ok (.istore_n 3, 1) := by decide +kernel
theorem d80_26 : decode bM80 26 = .ok (.iload_n 3, 1) := by decide +kernel
theorem d80_27 : decode bM80 27 = .ok (.aload_n 0, 1) := by decide +kernel
theorem d80_28 : decode bM80 28 = .ok (.invokevirtual 115, 3) := by decide +kernel
theorem d80_31 : decode bM80 31 = .ok (.if_icmp .ge 28, 3) := by decide +kernel
theorem d80_34 : decode bM80 34 = .ok (.aload_n 0, 1) := by decide +kernel
theorem d80_35 : decode bM80 35 = .ok (.getfield 7, 3) := by decide +kernel
theorem d80_38 : decode bM80 38 = .ok (.sipush 5120, 3) := by decide +kernel
theorem d80_41 : decode bM80 41 = .ok (.iload_n 1, 1) := by decide +kernel
theorem d80_42 : decode bM80 42 = .ok (.iadd, 1) := by decide +kernel
theorem d80_43 : decode bM80 43 = .ok (.iload_n 3, 1) := by decide +kernel
theorem d80_44 : decode bM80 44 = .ok (.iadd, 1) := by decide +kernel
theorem d80_45 : decode bM80 45 = .ok (.iload_n 2, 1) := by decide +kernel
theorem d80_46 : decode bM80 46 = .ok (.isub, 1) := by decide +kernel
theorem d80_47 : decode bM80 47 = .ok (.aload_n 0, 1) := by decide +kernel
theorem d80_48 : decode bM80 48 = .ok (.iload_n 3, 1) := by decide +kernel
theorem d80_49 : decode bM80 49 = .ok (.invokevirtual 119, 3) := by decide +kernel
theorem d80_52 : decode bM80 52 = .ok (.iastore, 1) := by decide +kernel
theorem d80_53 : decode bM80 53 = .ok (.iinc 3 1, 3) := by decide +kernel
theorem d80_56 : decode bM80 56 = .ok (.goto (-30), 3) := by decide +kernel
theorem d80_59 : decode bM80 59 = .ok (.aload_n 0, 1) := by decide +kernel
theorem d80_60 : decode bM80 60 = .ok (.getfield 7, 3) := by decide +kernel
theorem d80_63 : decode bM80 63 = .ok (.sipush 5160, 3) := by decide +kernel
theorem d80_66 : decode bM80 66 = .ok (.aload_n 0, 1) := by decide +kernel
theorem d80_67 : decode bM80 67 = .ok (.invokevirtual 115, 3) := by decide +kernel
theorem d80_70 : decode bM80 70 = .ok (.iload_n 2, 1) := by decide +kernel
theorem d80_71 : decode bM80 71 = .ok (.iload_n 1, 1) := by decide +kernel
theorem d80_72 : decode bM80 72 = .ok (.isub, 1) := by decide +kernel
theorem d80_73 : decode bM80 73 = .ok (.isub, 1) := by decide +kernel
theorem d80_74 : decode bM80 74 = .ok (.iastore, 1) := by decide +kernel
theorem d80_75 : decode bM80 75 = .ok (.return_, 1) := by decide +kernel
theorem d81_0 : decode bM81 0 = .ok (.aload_n 0, 1) := by decide +kernel
theorem d81_1 : decode bM81 1 = .ok (.iload_n 1, 1) := by decide +kernel
theorem d81_2 : decode bM81 2 = .ok (.invokevirtual 275, 3) := by decide +kernel
theorem d81_5 : decode bM81 5 = .ok (.istore_n 2, 1) := by decide +kernel
theorem d81_6 : decode bM81 6 = .ok (.iload_n 2, 1) := by decide +kernel
theorem d81_7 : decode bM81 7 = .ok (.ifCond .lt 12, 3) := by decide +kernel
theorem d81_10 : decode bM81 10 = .ok (.aload_n 0, 1) := by decide +kernel
theorem d81_11 : decode bM81 11 = .ok (.iload_n 2, 1) := by decide +kernel
theorem d81_12 : decode bM81 12 = .ok (.iconst 2, 1) := by decide +kernel
theorem d81_13 : decode bM81 13 = .ok (.invokevirtual 123, 3) := by decide +kernel
theorem d81_16 : decode bM81 16 = .ok (.ifCond .ge 17, 3) := by decide +kernel
theorem d81_19 : decode bM81 19 = .ok (.iload_n 2, 1) := by decide +kernel
theorem d81_20 : decode bM81 20 = .ok (.ifCond .ge 9, 3) := by decide +kernel
theorem d81_23 : decode bM81 23 = .ok (.sipush (-1000), 3) := by decide +kernel
theorem d81_26 : decode bM81 26 = .ok (.goto 6, 3) := by decide +kernel
theorem d81_29 : decode bM81 29 = .ok (.sipush (-2000), 3) := by decide +kernel
theorem d81_32 : decode bM81 32 = .ok (.ireturn, 1) := by decide +kernel
theorem d81_33 : decode bM81 33 = .ok (.aload_n 0, 1) := by decide +kernel
theorem d81_34 : decode bM81 34 = .ok (.iload_n 2, 1) := by decide +kernel
theorem d81_35 : decode bM81 35 = .ok (.iconst (-1), 1) := by decide +kernel
theorem d81_36 : decode bM81 36 = .ok (.invokevirtual 256, 3) := by decide +kernel
theorem d81_39 : decode bM81 39 = .ok (.istore_n 3, 1) := by decide +kernel
theorem d81_40 : decode bM81 40 = .ok (.aload_n 0, 1) := by decide +kernel
theorem d81_41 : decode bM81 41 = .ok (.iload_n 2, 1) := by decide +kernel
theorem d81_42 : decode bM81 42 = .ok (.iconst 1, 1) := by decide +kernel
theorem d81_43 : decode bM81 43 = .ok (.invokevirtual 256, 3) := by decide +kernel
theorem d81_46 : decode bM81 46 = .ok (.istore 4, 2) := by decide +kernel
theorem d81_48 : decode bM81 48 = .ok (.iload_n 3, 1) := by decide +kernel
theorem d81_49 : decode bM81 49 = .ok (.ifCond .lt 33, 3) := by decide +kernel
theorem d81_52 : decode bM81 52 = .ok (.iload 4, 2) := by decide +kernel
theorem d81_54 : decode bM81 54 = .ok (.ifCond .lt 28, 3) := by decide +kernel
theorem d81_57 : decode bM81 57 = .ok (.aload_n 0, 1) := by decide +kernel
theorem d81_58 : decode bM81 58 = .ok (.iload_n 3, 1) := by decide +kernel
theorem d81_59 : decode bM81 59 = .ok (.iconst 1, 1) := by decide +kernel
theorem d81_60 : decode bM81 60 = .ok (.invokevirtual 123, 3) := by decide +kernel
theorem d81_63 : decode bM81 63 = .ok (.iconst 2, 1) := by decide +kernel
theorem d81_64 : decode bM81 64 = .ok (.if_icmp .ne 18, 3) := by decide +kernel
theorem d81_67 : decode bM81 67 = .ok (.aload_n 0, 1) := by decide +kernel
theorem d81_68 : decode bM81 68 = .ok (.iload 4, 2) := by decide +kernel
theorem d81_70 : decode bM81 70 = .ok (.iconst 1, 1) := by decide +kernel
theorem d81_71 : decode bM81 71 = .ok (.invokevirtual 123, 3) := by decide +kernel
theorem d81_74 : decode bM81 74 = .ok (.iconst 2, 1) := by decide +kernel
theorem d81_75 : decode bM81 75 = .ok (.if_icmp .ne 7, 3) := by decide +kernel
theorem d81_78 : decode bM81 78 = .ok (.iconst 1, 1) := by decide +kernel
theorem d81_79 : decode bM81 79 = .ok (.goto 4, 3) := by decide +kernel
theorem d81_82 : decode bM81 82 = .ok (.iconst 0, 1) := by decide +kernel
theorem d81_83 : decode bM81 83 = .ok (.istore 5, 2) := by decide +kernel
theorem d81_85 : decode bM81 85 = .ok (.iload 5, 2) := by decide +kernel
theorem d81_87 : decode bM81 87 = .ok (.ifCond .eq 12, 3) := by decide +kernel
theorem d81_90 : decode bM81 90 = .ok (.aload_n 0, 1) := by decide +kernel
theorem d81_91 : decode bM81 91 = .ok (.iload_n 3, 1) := by decide +kernel
theorem d81_92 : decode bM81 92 = .ok (.iconst 3, 1) := by decide +kernel
theorem d81_93 : decode bM81 93 = .ok (.invokevirtual 123, 3) := by decide +kernel
theorem d81_96 : decode bM81 96 = .ok (.goto 4, 3) := by decide +kernel
theorem d81_99 : decode bM81 99 = .ok (.iconst 0, 1) := by decide +kernel
theorem d81_100 : decode bM81 100 = .ok (.istore 6, 2) := by decide +kernel
theorem d81_102 : decode bM81 102 = .ok (.iload 5, 2) := by decide +kernel
theorem d81_104 : decode bM81 104 = .ok (.ifCond .eq 13, 3) := by decide +kernel
theorem d81_107 : decode bM81 107 = .ok (.aload_n 0, 1) := by decide +kernel
theorem d81_108 : decode bM81 108 = .ok (.iload 4, 2) := by decide +kernel
theorem d81_110 : decode bM81 110 = .ok (.iconst 3, 1) := by decide +kernel
theorem d81_111 : decode bM81 111 = .ok (.invokevirtual 123, 3) := by decide +kernel
theorem d81_114 : decode bM81 114 = .ok (.goto 4, 3) := by decide +kernel
theorem d81_117 : decode bM81 117 = .ok (.iconst 0, 1) := by decide +kernel
theorem d81_118 : decode bM81 118 = .ok (.istore 7, 2) := by decide +kernel
theorem d81_120 : decode bM81 120 = .ok (.iload 6, 2) := by decide +kernel
theorem d81_122 : decode bM81 122 = .ok (.iload 7, 2) := by decide +kernel
theorem d81_124 : decode bM81 124 = .ok (.iadd, 1) := by decide +kernel
theorem d81_125 : decode bM81 125 = .ok (.bipush 20, 2) := by decide +kernel
theorem d81_127 : decode bM81 127 = .ok (.if_icmp .le 7, 3) := by decide +kernel
theorem d81_130 : decode bM81 130 = .ok (.sipush (-2000), 3) := by decide +kernel
theorem d81_133 : decode bM81 133 = .ok (.ireturn, 1) := by decide +kernel
theorem d81_134 : decode bM81 134 = .ok (.aload_n 0, 1) := by decide +kernel
theorem d81_135 : decode bM81 135 = .ok (.iload_n 2, 1) := by decide +kernel
theorem d81_136 : decode bM81 136 = .ok (.invokevirtual 130, 3) := by decide +kernel
theorem d81_139 : decode bM81 139 = .ok (.istore 8, 2) := by decide +kernel
theorem d81_141 : decode bM81 141 = .ok (.aload_n 0, 1) := by decide +kernel
theorem d81_142 : decode bM81 142 = .ok (.iload 8, 2) := by decide +kernel
theorem d81_144 : decode bM81 144 = .ok (.invokevirtual 272, 3) := by decide +kernel
theorem d81_147 : decode bM81 147 = .ok (.iload 5, 2) := by decide +kernel
theorem d81_149 : decode bM81 149 = .ok (.ifCond .eq 7, 3) := by decide +kernel
theorem d81_152 : decode bM81 152 = .ok (.iconst 1, 1) := by decide +kernel
theorem d81_153 : decode bM81 153 = .ok (.goto 4, 3) := by decide +kernel
theorem d81_156 : decode bM81 156 = .ok (.iconst 0, 1) := by decide +kernel
theorem d81_157 : decode bM81 157 = .ok (.iadd, 1) := by decide +kernel
theorem d81_158 : decode bM81 158 = .ok (.istore 9, 2) := by decide +kernel
theorem d81_160 : decode bM81 160 = .ok (.iconst 0, 1) := by decide +kernel
theorem d81_161 : decode bM81 161 = .ok (.istore 10, 2) := by decide +kernel
theorem d81_163 : decode bM81 163 = .ok (.iload 10, 2) := by decide +kernel
theorem d81_165 : decode bM81 165 = .ok (.iload 7, 2) := by decide +kernel
theorem d81_167 : decode bM81 167 = .ok (.if_icmp .ge 33, 3) := by decide +kernel
theorem d81_170 : decode bM81 170 = .ok (.aload_n 0, 1) := by decide +kernel
theorem d81_171 : decode bM81 171 = .ok (.iload_n 3, 1) := by decide +kernel
theorem d81_172 : decode bM81 172 = .ok (.bipush 8, 2) := by decide +kernel
theorem d81_174 : decode bM81 174 = .ok (.iload 6, 2) := by decide +kernel
theorem d81_176 : decode bM81 176 = .ok (.iadd, 1) := by decide +kernel
theorem d81_177 : decode bM81 177 = .ok (.iload 10, 2) := by decide +kernel
theorem d81_179 : decode bM81 179 = .ok (.iadd, 1) := by decide +kernel
theorem d81_180 : decode bM81 180 = .ok (.aload_n 0, 1) := by decide +kernel
theorem d81_181 : decode bM81 181 = .ok (.iload 4, 2) := by decide +kernel
theorem d81_183 : decode bM81 183 = .ok (.bipush 8, 2) := by decide +kernel
theorem d81_185 : decode bM81 185 = .ok (.iload 10, 2) := by decide +kernel
theorem d81_187 : decode bM81 187 = .ok (.iadd, 1) := by decide +kernel
theorem d81_188 : decode bM81 188 = .ok (.invokevirtual 123, 3) := by decide +kernel
theorem d81_191 : decode bM81 191 = .ok (.invokevirtual 229, 3) := by decide +kernel
theorem d81_194 : decode bM81 194 = .ok (.iinc 10 1, 3) := by decide +kernel
theorem d81_197 : decode bM81 197 = .ok (.goto (-34), 3) := by decide +kernel
theorem d81_200 : decode bM81 200 = .ok (.iload 5, 2) := by decide +kernel
theorem d81_202 : decode bM81 202 = .ok (.ifCond .eq 14, 3) := by decide +kernel
theorem d81_205 : decode bM81 205 = .ok (.aload_n 0, 1) := by decide +kernel
theorem d81_206 : decode bM81 206 = .ok (.iload_n 3, 1) := by decide +kernel
theorem d81_207 : decode bM81 207 = .ok (.iconst 3, 1) := by decide +kernel
theorem d81_208 : decode bM81 208 = .ok (.iload 6, 2) := by decide +kernel
theorem d81_210 : decode bM81 210 = .ok (.iload 7, 2) := by decide +kernel
theorem d81_212 : decode bM81 212 = .ok (.iadd, 1) := by decide +kernel
theorem d81_213 : decode bM81 213 = .ok (.invokevirtual 229, 3) := by decide +kernel
theorem d81_216 : decode bM81 216 = .ok (.aload_n 0, 1) := by decide +kernel
theorem d81_217 : decode bM81 217 = .ok (.iload 8, 2) := by decide +kernel
theorem d81_219 : decode bM81 219 = .ok (.iload 9, 2) := by decide +kernel
theorem d81_221 : decode bM81 221 = .ok (.invokevirtual 281, 3) := by decide +kernel
theorem d81_224 : decode bM81 224 = .ok (.aload_n 0, 1) := by decide +kernel
theorem d81_225 : decode bM81 225 = .ok (.dup, 1) := by decide +kernel
theorem d81_226 : decode bM81 226 = .ok (.getfield 239, 3) := by decide +kernel
theorem d81_229 : decode bM81 229 = .ok (.iconst 1, 1) := by decide +kernel
theorem d81_230 : decode bM81 230 = .ok (.iadd, 1) := by decide +kernel
theorem d81_231 : decode bM81 231 = .ok (.putfield 239, 3) := by decide +kernel
theorem d81_234 : decode bM81 234 = .ok (.iload 9, 2) := by decide +kernel
theorem d81_236 : decode bM81 236 = .ok (.iload 8, 2) := by decide +kernel
theorem d81_238 : decode bM81 238 = .ok (.isub, 1) := by decide +kernel
theorem d81_239 : decode bM81 239 = .ok (.ireturn, 1) := by decide +kernel
theorem d82_0 : decode bM82 0 = .ok (.aload_n 0, 1) := by decide +kernel
theorem d82_1 : decode bM82 1 = .ok (.iload_n 1, 1) := by decide +kernel
theorem d82_2 : decode bM82 2 = .ok (.invokevirtual 275, 3) := by decide +kernel
theorem d82_5 : decode bM82 5 = .ok (.istore_n 2, 1) := by decide +kernel
theorem d82_6 : decode bM82 6 = .ok (.iload_n 2, 1) := by decide +kernel
theorem d82_7 : decode bM82 7 = .ok (.ifCond .lt 23, 3) := by decide +kernel
theorem d82_10 : decode bM82 10 = .ok (.aload_n 0, 1) := by decide +kernel
theorem d82_11 : decode bM82 11 = .ok (.getfield 133, 3) := by decide +kernel
theorem d82_14 : decode bM82 14 = .ok (.ifCond .le 16, 3) := by decide +kernel
theorem d82_17 : decode bM82 17 = .ok (.aload_n 0, 1) := by decide +kernel
theorem d82_18 : decode bM82 18 = .ok (.getfield 133, 3) := by decide +kernel
theorem d82_21 : decode bM82 21 = .ok (.bipush 20, 2) := by decide +kernel
theorem d82_23 : decode bM82 23 = .ok (.if_icmp .gt 7, 3) := by decide +kernel
theorem d82_26 : decode bM82 26 = .ok (.iconst 1, 1) := by decide +kernel
theorem d82_27 : decode bM82 27 = .ok (.goto 4, 3) := by decide +kernel
theorem d82_30 : decode bM82 30 = .ok (.iconst 0, 1) := by decide +kernel
theorem d82_31 : decode bM82 31 = .ok (.istore_n 3, 1) := by decide +kernel
theorem d82_32 : decode bM82 32 = .ok (.iload_n 3, 1) := by decide +kernel
theorem d82_33 : decode bM82 33 = .ok (.ifCond .eq 31, 3) := by decide +kernel
theorem d82_36 : decode bM82 36 = .ok (.aload_n 0, 1) := by decide +kernel
theorem d82_37 : decode bM82 37 = .ok (.iload_n 2, 1) := by decide +kernel
theorem d82_38 : decode bM82 38 = .ok (.iconst 1, 1) := by decide +kernel
theorem d82_39 : decode bM82 39 = .ok (.invokevirtual 123, 3) := by decide +kernel
theorem d82_42 : decode bM82 42 = .ok (.iconst 1, 1) := by decide +kernel
theorem d82_43 : decode bM82 43 = .ok (.if_icmp .ne 21, 3) := by decide +kernel
theorem d82_46 : decode bM82 46 = .ok (.aload_n 0, 1) := by decide +kernel
theorem d82_47 : decode bM82 47 = .ok (.iconst 0, 1) := by decide +kernel
theorem d82_48 : decode bM82 48 = .ok (.invokevirtual 175, 3) := by decide +kernel
theorem d82_51 : decode bM82 51 = .ok (.aload_n 0, 1) := by decide +kernel
theorem d82_52 : decode bM82 52 = .ok (.getfield 133, 3) := by decide +kernel
theorem d82_55 : decode bM82 55 = .ok (.if_icmp .ne 7, 3) := by decide +kernel
theorem d82_58 : decode bM82 58 = .ok (.iconst 1, 1) := by decide +kernel
theorem d82_59 : decode bM82 59 = .ok (.goto 4, 3) := by decide +kernel
theorem d82_62 : decode bM82 62 = .ok (.iconst 0, 1) := by decide +kernel
theorem d82_63 : decode bM82 63 = .ok (.istore_n 3, 1) := by decide +kernel
theorem d82_64 : decode bM82 64 = .ok (.iconst 0, 1) := by decide +kernel
theorem d82_65 : decode bM82 65 = .ok (.istore 4, 2) := by decide +kernel
theorem d82_67 : decode bM82 67 = .ok (.iload 4, 2) := by decide +kernel
theorem d82_69 : decode bM82 69 = .ok (.aload_n 0, 1) := by decide +kernel
theorem d82_70 : decode bM82 70 = .ok (.getfield 133, 3) := by decide +kernel
theorem d82_73 : decode bM82 73 = .ok (.if_icmp .ge 64, 3) := by decide +kernel
theorem d82_76 : decode bM82 76 = .ok (.iload_n 3, 1) := by decide +kernel
theorem d82_77 : decode bM82 77 = .ok (.ifCond .eq 60, 3) := by decide +kernel
theorem d82_80 : decode bM82 80 = .ok (.aload_n 0, 1) := by decide +kernel
theorem d82_81 : decode bM82 81 = .ok (.iload_n 2, 1) := by decide +kernel
theorem d82_82 : decode bM82 82 = .ok (.iconst 1, 1) := by decide +kernel
theorem d82_83 : decode bM82 83 = .ok (.invokevirtual 123, 3) := by decide +kernel
theorem d82_86 : decode bM82 86 = .ok (.iconst 3, 1) := by decide +kernel
theorem d82_87 : decode bM82 87 = .ok (.if_icmp .ne 50, 3) := by decide +kernel
theorem d82_90 : decode bM82 90 = .ok (.aload_n 0, 1) := by decide +kernel
theorem d82_91 : decode bM82 91 = .ok (.iload 4, 2) := by decide +kernel
theorem d82_93 : decode bM82 93 = .ok (.invokevirtual 140, 3) := by decide +kernel
theorem d82_96 : decode bM82 96 = .ok (.bipush 45, 2) := by decide +kernel
theorem d82_98 : decode bM82 98 = .ok (.if_icmp .ne 27, 3) := by decide +kernel
theorem d82_101 : decode bM82 101 = .ok (.iload 4, 2) := by decide +kernel
theorem d82_103 : decode bM82 103 = .ok (.iconst 1, 1) := by decide +kernel
theorem d82_104 : decode bM82 104 = .ok (.iadd, 1) := by decide +kernel
theorem d82_105 : decode bM82 105 = .ok (.aload_n 0, 1) := by decide +kernel
theorem d82_106 : decode bM82 106 = .ok (.getfield 133, 3) := by decide +kernel
theorem d82_109 : decode bM82 109 = .ok (.if_icmp .ge 20, 3) := by decide +kernel
theorem d82_112 : decode bM82 112 = .ok (.aload_n 0, 1) := by decide +kernel
theorem d82_113 : decode bM82 113 = .ok (.iload 4, 2) := by decide +kernel
theorem d82_115 : decode bM82 115 = .ok (.iconst 1, 1) := by decide +kernel
theorem d82_116 : decode bM82 116 = .ok (.iadd, 1) := by decide +kernel
theorem d82_117 : decode bM82 117 = .ok (.invokevirtual 140, 3) := by decide +kernel
theorem d82_120 : decode bM82 120 = .ok (.bipush 45, 2) := by decide +kernel
theorem d82_122 : decode bM82 122 = .ok (.if_icmp .eq 7, 3) := by decide +kernel
theorem d82_125 : decode bM82 125 = .ok (.iconst 1, 1) := by decide +kernel
theorem d82_126 : decode bM82 126 = .ok (.goto 4, 3) := by decide +kernel
theorem d82_129 : decode bM82 129 = .ok (.iconst 0, 1) := by decide +kernel
theorem d82_130 : decode bM82 130 = .ok (.istore_n 3, 1) := by decide +kernel
theorem d82_131 : decode bM82 131 = .ok (.iinc 4 1, 3) := by decide +kernel
theorem d82_134 : decode bM82 134 = .ok (.goto (-67), 3) := by decide +kernel
theorem d82_137 : decode bM82 137 = .ok (.iconst 0, 1) := by decide +kernel
theorem d82_138 : decode bM82 138 = .ok (.istore 4, 2) := by decide +kernel
theorem d82_140 : decode bM82 140 = .ok (.iload 4, 2) := by decide +kernel
theorem d82_142 : decode bM82 142 = .ok (.aload_n 0, 1) := by decide +kernel
theorem d82_143 : decode bM82 143 = .ok (.getfield 133, 3) := by decide +kernel
theorem d82_146 : decode bM82 146 = .ok (.if_icmp .ge 29, 3) := by decide +kernel
theorem d82_149 : decode bM82 149 = .ok (.iload_n 3, 1) := by decide +kernel
theorem d82_150 : decode bM82 150 = .ok (.ifCond .eq 25, 3) := by decide +kernel
theorem d82_153 : decode bM82 153 = .ok (.aload_n 0, 1) := by decide +kernel
theorem d82_154 : decode bM82 154 = .ok (.iload_n 2, 1) := by decide +kernel
theorem d82_155 : decode bM82 155 = .ok (.bipush 8, 2) := by decide +kernel
theorem d82_157 : decode bM82 157 = .ok (.iload 4, 2) := by decide +kernel
theorem d82_159 : decode bM82 159 = .ok (.iadd, 1) := by decide +kernel
theorem d82_160 : decode bM82 160 = .ok (.aload_n 0, 1) := by decide +kernel
theorem d82_161 : decode bM82 161 = .ok (.iload 4, 2) := by decide +kernel
theorem d82_163 : decode bM82 163 = .ok (.invokevirtual 140, 3) := by decide +kernel
theorem d82_166 : decode bM82 166 = .ok (.invokevirtual 229, 3) := by decide +kernel
theorem d82_169 : decode bM82 169 = .ok (.iinc 4 1, 3) := by decide +kernel
theorem d82_172 : decode bM82 172 = .ok (.goto (-32), 3) := by decide +kernel
theorem d82_175 : decode bM82 175 = .ok (.iload_n 3, 1) := by decide +kernel
theorem d82_176 : decode bM82 176 = .ok (.ifCond .eq 23, 3) := by decide +kernel
theorem d82_179 : decode bM82 179 = .ok (.aload_n 0, 1) := by decide +kernel
theorem d82_180 : decode bM82 180 = .ok (.iload_n 2, 1) := by decide +kernel
theorem d82_181 : decode bM82 181 = .ok (.iconst 3, 1) := by decide +kernel
theorem d82_182 : decode bM82 182 = .ok (.aload_n 0, 1) := by decide +kernel
theorem d82_183 : decode bM82 183 = .ok (.getfield 133, 3) := by decide +kernel
theorem d82_186 : decode bM82 186 = .ok (.invokevirtual 229, 3) := by decide +kernel
theorem d82_189 : decode bM82 189 = .ok (.aload_n 0, 1) := by decide +kernel
theorem d82_190 : decode bM82 190 = .ok (.dup, 1) := by decide +kernel
theorem d82_191 : decode bM82 191 = .ok (.getfield 239, 3) := by decide +kernel
theorem d82_194 : decode bM82 194 = .ok (.iconst 1, 1) := by decide +kernel
theorem d82_195 : decode bM82 195 = .ok (.iadd, 1) := by decide +kernel
theorem d82_196 : decode bM82 196 = .ok (.putfield 239, 3) := by decide +kernel
theorem d82_199 : decode bM82 199 = .ok (.aload_n 0, 1) := by decide +kernel
theorem d82_200 : decode bM82 200 = .ok (.iconst 0, 1) := by decide +kernel
theorem d82_201 : decode bM82 201 = .ok (.putfield 133, 3) := by decide +kernel
theorem d82_204 : decode bM82 204 = .ok (.iload_n 3, 1) := by decide +kernel
theorem d82_205 : decode bM82 205 = .ok (.ireturn, 1) := by decide +kernel
theorem d83_0 : decode bM83 0 = .ok (.iconst 0, 1) := by decide +kernel
theorem d83_1 : decode bM83 1 = .ok (.istore 4, 2) := by decide +kernel
theorem d83_3 : decode bM83 3 = .ok (.iconst 0, 1) := by decide +kernel
theorem d83_4 : decode bM83 4 = .ok (.istore 5, 2) := by decide +kernel
theorem d83_6 : decode bM83 6 = .ok (.iload 4, 2) := by decide +kernel
theorem d83_8 : decode bM83 8 = .ok (.aload_n 0, 1) := by decide +kernel
theorem d83_9 : decode bM83 9 = .ok (.iload_n 1, 1) := by decide +kernel
theorem d83_10 : decode bM83 10 = .ok (.iconst 5, 1) := by decide +kernel
theorem d83_11 : decode bM83 11 = .ok (.invokevirtual 123, 3) := by decide +kernel
theorem d83_14 : decode bM83 14 = .ok (.if_icmp .ge 105, 3) := by decide +kernel
theorem d83_17 : decode bM83 17 = .ok (.iload 5, 2) := by decide +kernel
theorem d83_19 : decode bM83 19 = .ok (.ifCond .ne 100, 3) := by decide +kernel
theorem d83_22 : decode bM83 22 = .ok (.aload_n 0, 1) := by decide +kernel
theorem d83_23 : decode bM83 23 = .ok (.iload_n 1, 1) := by decide +kernel
theorem d83_24 : decode bM83 24 = .ok (.bipush 44, 2) := by decide +kernel
theorem d83_26 : decode bM83 26 = .ok (.bipush 28, 2) := by decide +kernel
theorem d83_28 : decode bM83 28 = .ok (.iload 4, 2) := by decide +kernel
theorem d83_30 : decode bM83 30 = .ok (.imul, 1) := by decide +kernel
theorem d83_31 : decode bM83 31 = .ok (.iadd, 1) := by decide +kernel
theorem d83_32 : decode bM83 32 = .ok (.invokevirtual 123, 3) := by decide +kernel
theorem d83_35 : decode bM83 35 = .ok (.iload_n 3, 1) := by decide +kernel
theorem d83_36 : decode bM83 36 = .ok (.if_icmp .ne 7, 3) := by decide +kernel
theorem d83_39 : decode bM83 39 = .ok (.iconst 1, 1) := by decide +kernel
theorem d83_40 : decode bM83 40 = .ok (.goto 4, 3) := by decide +kernel
theorem d83_43 : decode bM83 43 = .ok (.iconst 0, 1) := by decide +kernel
theorem d83_44 : decode bM83 44 = .ok (.istore 5, 2) := by decide +kernel
theorem d83_46 : decode bM83 46 = .ok (.iconst 0, 1) := by decide +kernel
theorem d83_47 : decode bM83 47 = .ok (.istore 6, 2) := by decide +kernel
theorem d83_49 : decode bM83 49 = .ok (.iload 6, 2) := by decide +kernel
theorem d83_51 : decode bM83 51 = .ok (.iload_n 3, 1) := by decide +kernel
theorem d83_52 : decode bM83 52 = .ok (.if_icmp .ge 48, 3) := by decide +kernel
theorem d83_55 : decode bM83 55 = .ok (.iload 5, 2) := by decide +kernel
theorem d83_57 : decode bM83 57 = .ok (.ifCond .eq 43, 3) := by decide +kernel
theorem d83_60 : decode bM83 60 = .ok (.aload_n 0, 1) := by decide +kernel
theorem d83_61 : decode bM83 61 = .ok (.iload_n 1, 1) := by decide +kernel
theorem d83_62 : decode bM83 62 = .ok (.bipush 45, 2) := by decide +kernel
theorem d83_64 : decode bM83 64 = .ok (.bipush 28, 2) := by decide +kernel
theorem d83_66 : decode bM83 66 = .ok (.iload 4, 2) := by decide +kernel
theorem d83_68 : decode bM83 68 = .ok (.imul, 1) := by decide +kernel
theorem d83_69 : decode bM83 69 = .ok (.iadd, 1) := by decide +kernel
theorem d83_70 : decode bM83 70 = .ok (.iload 6, 2) := by decide +kernel
theorem d83_72 : decode bM83 72 = .ok (.iadd, 1) := by decide +kernel
theorem d83_73 : decode bM83 73 = .ok (.invokevirtual 123, 3) := by decide +kernel
theorem d83_76 : decode bM83 76 = .ok (.aload_n 0, 1) := by decide +kernel
theorem d83_77 : decode bM83 77 = .ok (.iload_n 2, 1) := by decide +kernel
theorem d83_78 : decode bM83 78 = .ok (.iload 6, 2) := by decide +kernel
theorem d83_80 : decode bM83 80 = .ok (.iadd, 1) := by decide +kernel
theorem d83_81 : decode bM83 81 = .ok (.invokevirtual 140, 3) := by decide +kernel
theorem d83_84 : decode bM83 84 = .ok (.if_icmp .ne 7, 3) := by decide +kernel
theorem d83_87 : decode bM83 87 = .ok (.iconst 1, 1) := by decide +kernel
theorem d83_88 : decode bM83 88 = .ok (.goto 4, 3) := by decide +kernel
theorem d83_91 : decode bM83 91 = .ok (.iconst 0, 1) := by decide +kernel
theorem d83_92 : decode bM83 92 = .ok (.istore 5, 2) := by decide +kernel
theorem d83_94 : decode bM83 94 = .ok (.iinc 6 1, 3) := by decide +kernel
theorem d83_97 : decode bM83 97 = .ok (.goto (-48), 3) := by decide +kernel
theorem d83_100 : decode bM83 100 = .ok (.iload 5, 2) := by decide +kernel
theorem d83_102 : decode bM83 102 = .ok (.ifCond .eq 8, 3) := by decide +kernel
theorem d83_105 : decode bM83 105 = .ok (.iload 4, 2) := by decide +kernel
theorem d83_107 : decode bM83 107 = .ok (.goto 7, 3) := by decide +kernel
theorem d83_110 : decode bM83 110 = .ok (.iload 4, 2) := by decide +kernel
theorem d83_112 : decode bM83 112 = .ok (.iconst 1, 1) := by decide +kernel
theorem d83_113 : decode bM83 113 = .ok (.iadd, 1) := by decide +kernel
theorem d83_114 : decode bM83 114 = .ok (.istore 4, 2) := by decide +kernel
theorem d83_116 : decode bM83 116 = .ok (.goto (-110), 3) := by decide +kernel
theorem d83_119 : decode bM83 119 = .ok (.iload 4, 2) := by decide +kernel
theorem d83_121 : decode bM83 121 = .ok (.ireturn, 1) := by decide +kernel
theorem d84_0 : decode bM84 0 = .ok (.iload_n 0, 1) := by decide +kernel
theorem d84_1 : decode bM84 1 = .ok (.bipush 68, 2) := by decide +kernel
theorem d84_3 : decode bM84 3 = .ok (.if_icmp .ne 7, 3) := by decide +kernel
theorem d84_6 : decode bM84 6 = .ok (.iconst 1, 1) := by decide +kernel
theorem d84_7 : decode bM84 7 = .ok (.goto 36, 3) := by decide +kernel
theorem d84_10 : decode bM84 10 = .ok (.iload_n 0, 1) := by decide +kernel
theorem d84_11 : decode bM84 11 = .ok (.bipush 69, 2) := by decide +kernel
theorem d84_13 : decode bM84 13 = .ok (.if_icmp .ne 7, 3) := by decide +kernel
theorem d84_16 : decode bM84 16 = .ok (.iconst 2, 1) := by decide +kernel
theorem d84_17 : decode bM84 17 = .ok (.goto 26, 3) := by decide +kernel
theorem d84_20 : decode bM84 20 = .ok (.iload_n 0, 1) := by decide +kernel
theorem d84_21 : decode bM84 21 = .ok (.bipush 83, 2) := by decide +kernel
theorem d84_23 : decode bM84 23 = .ok (.if_icmp .ne 8, 3) := by decide +kernel
theorem d84_26 : decode bM84 26 = .ok (.bipush 6, 2) := by decide +kernel
theorem d84_28 : decode bM84 28 = .ok (.goto 15, 3) := by decide +kernel
theorem d84_31 : decode bM84 31 = .ok (.iload_n 0, 1) := by decide +kernel
theorem d84_32 : decode bM84 32 = .ok (.bipush 70, 2) := by decide +kernel
theorem d84_34 : decode bM84 34 = .ok (.if_icmp .ne 8, 3) := by decide +kernel
theorem d84_37 : decode bM84 37 = .ok (.bipush 9, 2) := by decide +kernel
theorem d84_39 : decode bM84 39 = .ok (.goto 4, 3) := by decide +kernel
theorem d84_42 : decode bM84 42 = .ok (.iconst 0, 1) := by decide +kernel
theorem d84_43 : decode bM84 43 = .ok (.istore_n 1, 1) := by decide +kernel
theorem d84_44 : decode bM84 44 = .ok (.iload_n 0, 1) := by decide +kernel
theorem d84_45 : decode bM84 45 = .ok (.bipush 80, 2) := by decide +kernel
theorem d84_47 : decode bM84 47 = .ok (.if_icmp .ne 7, 3) := by decide +kernel
theorem d84_50 : decode bM84 50 = .ok (.iconst 3, 1) := by decide +kernel
theorem d84_51 : decode bM84 51 = .ok (.goto 35, 3) := by decide +kernel
theorem d84_54 : decode bM84 54 = .ok (.iload_n 0, 1) := by decide +kernel
theorem d84_55 : decode bM84 55 = .ok (.bipush 65, 2) := by decide +kernel
theorem d84_57 : decode bM84 57 = .ok (.if_icmp .ne 7, 3) := by decide +kernel
theorem d84_60 : decode bM84 60 = .ok (.iconst 4, 1) := by decide +kernel
theorem d84_61 : decode bM84 61 = .ok (.goto 25, 3) := by decide +kernel
theorem d84_64 : decode bM84 64 = .ok (.iload_n 0, 1) := by decide +kernel
theorem d84_65 : decode bM84 65 = .ok (.bipush 66, 2) := by decide +kernel
theorem d84_67 : decode bM84 67 = .ok (.if_icmp .ne 7, 3) := by decide +kernel
theorem d84_70 : decode bM84 70 = .ok (.iconst 5, 1) := by decide +kernel
theorem d84_71 : decode bM84 71 = .ok (.goto 15, 3) := by decide +kernel
theorem d84_74 : decode bM84 74 = .ok (.iload_n 0, 1) := by decide +kernel
theorem d84_75 : decode bM84 75 = .ok (.bipush 82, 2) := by decide +kernel
theorem d84_77 : decode bM84 77 = .ok (.if_icmp .ne 8, 3) := by decide +kernel
theorem d84_80 : decode bM84 80 = .ok (.bipush 10, 2) := by decide +kernel
theorem d84_82 : decode bM84 82 = .ok (.goto 4, 3) := by decide +kernel
theorem d84_85 : decode bM84 85 = .ok (.iconst 0, 1) := by decide +kernel
theorem d84_86 : decode bM84 86 = .ok (.istore_n 2, 1) := by decide +kernel
theorem d84_87 : decode bM84 87 = .ok (.iload_n 1, 1) := by decide +kernel
theorem d84_88 : decode bM84 88 = .ok (.iload_n 2, 1) := by decide +kernel
theorem d84_89 : decode bM84 89 = .ok (.iadd, 1) := by decide +kernel
theorem d84_90 : decode bM84 90 = .ok (.iload_n 0, 1) := by decide +kernel
theorem d84_91 : decode bM84 91 = .ok (.bipush 78, 2) := by decide +kernel
theorem d84_93 : decode bM84 93 = .ok (.if_icmp .ne 8, 3) := by decide +kernel
theorem d84_96 : decode bM84 96 = .ok (.bipush 7, 2) := by decide +kernel
theorem d84_98 : decode bM84 98 = .ok (.goto 15, 3) := by decide +kernel
theorem d84_101 : decode bM84 101 = .ok (.iload_n 0, 1) := by decide +kernel
theorem d84_102 : decode bM84 102 = .ok (.bipush 76, 2) := by decide +kernel
theorem d84_104 : decode bM84 104 = .ok (.if_icmp .ne 8, 3) := by decide +kernel
theorem d84_107 : decode bM84 107 = .ok (.bipush 8, 2) := by decide +kernel
theorem d84_109 : decode bM84 109 = .ok (.goto 4, 3) := by decide +kernel
theorem d84_112 : decode bM84 112 = .ok (.iconst 0, 1) := by decide +kernel
theorem d84_113 : decode bM84 113 = .ok (.iadd, 1) := by decide +kernel
theorem d84_114 : decode bM84 114 = .ok (.ireturn, 1) := by decide +kernel
theorem d85_0 : decode bM85 0 = .ok (.aload_n 0, 1) := by decide +kernel
theorem d85_1 : decode bM85 1 = .ok (.aload_n 0, 1) := by decide +kernel
theorem d85_2 : decode bM85 2 = .ok (.getfield 197, 3) := by decide +kernel
theorem d85_5 : decode bM85 5 = .ok (.invokevirtual 140, 3) := by decide +kernel
theorem d85_8 : decode bM85 8 = .ok (.bipush 47, 2) := by decide +kernel
theorem d85_10 : decode bM85 10 = .ok (.if_icmp .ne 7, 3) := by decide +kernel
theorem d85_13 : decode bM85 13 = .ok (.iconst 1, 1) := by decide +kernel
theorem d85_14 : decode bM85 14 = .ok (.goto 4, 3) := by decide +kernel
theorem d85_17 : decode bM85 17 = .ok (.iconst 0, 1) := by decide +kernel
theorem d85_18 : decode bM85 18 = .ok (.istore_n 1, 1) := by decide +kernel
theorem d85_19 : decode bM85 19 = .ok (.iload_n 1, 1) := by decide +kernel
theorem d85_20 : decode bM85 20 = .ok (.ifCond .eq 13, 3) := by decide +kernel
theorem d85_23 : decode bM85 23 = .ok (.aload_n 0, 1) := by decide +kernel
theorem d85_24 : decode bM85 24 = .ok (.dup, 1) := by decide +kernel
theorem d85_25 : decode bM85 25 = .ok (.getfield 197, 3) := by decide +kernel
theorem d85_28 : decode bM85 28 = .ok (.iconst 1, 1) := by decide +kernel
theorem d85_29 : decode bM85 29 = .ok (.iadd, 1) := by decide +kernel
theorem d85_30 : decode bM85 30 = .ok (.putfield 197, 3) := by decide +kernel
theorem d85_33 : decode bM85 33 = .ok (.aload_n 0, 1) := by decide +kernel
theorem d85_34 : decode bM85 34 = .ok (.getfield 284, 3) := by decide +kernel
theorem d85_37 : decode bM85 37 = .ok (.ifCond .ne 11, 3) := by decide +kernel
theorem d85_40 : decode bM85 40 = .ok (.aload_n 0, 1) := by decide +kernel
theorem d85_41 : decode bM85 41 = .ok (.iload_n 1, 1) := by decide +kernel
theorem d85_42 : decode bM85 42 = .ok (.putfield 287, 3) := by decide +kernel
theorem d85_45 : decode bM85 45 = .ok (.goto 18, 3) := by decide +kernel
theorem d85_48 : decode bM85 48 = .ok (.aload_n 0, 1) := by decide +kernel
theorem d85_49 : decode bM85 49 = .ok (.getfield 90, 3) := by decide +kernel
theorem d85_52 : decode bM85 52 = .ok (.aload_n 0, 1) := by decide +kernel
theorem d85_53 : decode bM85 53 = .ok (.getfield 100, 3) := by decide +kernel
theorem d85_56 : decode bM85 56 = .ok (.aload_n 0, 1) := by decide +kernel
theorem d85_57 : decode bM85 57 = .ok (.getfield 284, 3) := by decide +kernel
theorem d85_60 : decode bM85 60 = .ok (.iaload, 1) := by decide +kernel
theorem d85_61 : decode bM85 61 = .ok (.iload_n 1, 1) := by decide +kernel
theorem d85_62 : decode bM85 62 = .ok (.bastore, 1) := by decide +kernel
theorem d85_63 : decode bM85 63 = .ok (.aload_n 0, 1) := by decide +kernel
theorem d85_64 : decode bM85 64 = .ok (.iconst 1, 1) := by decide +kernel
theorem d85_65 : decode bM85 65 = .ok (.putfield 290, 3) := by decide +kernel
theorem d85_68 : decode bM85 68 = .ok (.return_, 1) := by decide +kernel
theorem d86_0 : decode bM86 0 = .ok (.aload_n 0, 1) := by decide +kernel
theorem d86_1 : decode bM86 1 = .ok (.aload_n 0, 1) := by decide +kernel
theorem d86_2 : decode bM86 2 = .ok (.getfield 197, 3) := by decide +kernel
theorem d86_5 : decode bM86 5 = .ok (.invokevirtual 140, 3) := by decide +kernel
theorem d86_8 : decode bM86 8 = .ok (.invokestatic 293, 3) := by decide +kernel
theorem d86_11 : decode bM86 11 = .ok (.istore_n 1, 1) := by decide +kernel
theorem d86_12 : decode bM86 12 = .ok (.iload_n 1, 1) := by decide +kernel
theorem d86_13 : decode bM86 13 = .ok (.ifCond .le 13, 3) := by decide +kernel
theorem d86_16 : decode bM86 16 = .ok (.aload_n 0, 1) := by decide +kernel
theorem d86_17 : decode bM86 17 = .ok (.dup, 1) := by decide +kernel
theorem d86_18 : decode bM86 18 = .ok (.getfield 197, 3) := by decide +kernel
theorem d86_21 : decode bM86 21 = .ok (.iconst 1, 1) := by decide +kernel
theorem d86_22 : decode bM86 22 = .ok (.iadd, 1) := by decide +kernel
theorem d86_23 : decode bM86 23 = .ok (.putfield 197, 3) := by decide +kernel
theorem d86_26 : decode bM86 26 = .ok (.aload_n 0, 1) := by decide +kernel
theorem d86_27 : decode bM86 27 = .ok (.aload_n 0, 1) := by decide +kernel
theorem d86_28 : decode bM86 28 = .ok (.getfield 197, 3) := by decide +kernel
theorem d86_31 : decode bM86 31 = .ok (.invokevirtual 140, 3) := by decide +kernel
theorem d86_34 : decode bM86 34 = .ok (.istore_n 2, 1) := by decide +kernel
theorem d86_35 : decode bM86 35 = .ok (.aload_n 0, 1) := by decide +kernel
theorem d86_36 : decode bM86 36 = .ok (.aload_n 0, 1) := by decide +kernel
theorem d86_37 : decode bM86 37 = .ok (.getfield 197, 3) := by decide +kernel
theorem d86_40 : decode bM86 40 = .ok (.invokevirtual 175, 3) := by decide +kernel
theorem d86_43 : decode bM86 43 = .ok (.istore_n 3, 1) := by decide +kernel
theorem d86_44 : decode bM86 44 = .ok (.iload_n 3, 1) := by decide +kernel
theorem d86_45 : decode bM86 45 = .ok (.ifCond .le 7, 3) := by decide +kernel
theorem d86_48 : decode bM86 48 = .ok (.iconst 0, 1) := by decide +kernel
theorem d86_49 : decode bM86 49 = .ok (.goto 44, 3) := by decide +kernel
theorem d86_52 : decode bM86 52 = .ok (.iload_n 2, 1) := by decide +kernel
theorem d86_53 : decode bM86 53 = .ok (.bipush 42, 2) := by decide +kernel
theorem d86_55 : decode bM86 55 = .ok (.if_icmp .ne 7, 3) := by decide +kernel
theorem d86_58 : decode bM86 58 = .ok (.iconst 1, 1) := by decide +kernel
theorem d86_59 : decode bM86 59 = .ok (.goto 34, 3) := by decide +kernel
theorem d86_62 : decode bM86 62 = .ok (.iload_n 2, 1) := by decide +kernel
theorem d86_63 : decode bM86 63 = .ok (.bipush 35, 2) := by decide +kernel
theorem d86_65 : decode bM86 65 = .ok (.if_icmp .ne 7, 3) := by decide +kernel
theorem d86_68 : decode bM86 68 = .ok (.iconst 2, 1) := by decide +kernel
theorem d86_69 : decode bM86 69 = .ok (.goto 24, 3) := by decide +kernel
theorem d86_72 : decode bM86 72 = .ok (.iload_n 2, 1) := by decide +kernel
theorem d86_73 : decode bM86 73 = .ok (.bipush 37, 2) := by decide +kernel
theorem d86_75 : decode bM86 75 = .ok (.if_icmp .ne 7, 3) := by decide +kernel
theorem d86_78 : decode bM86 78 = .ok (.iconst 3, 1) := by decide +kernel
theorem d86_79 : decode bM86 79 = .ok (.goto 14, 3) := by decide +kernel
theorem d86_82 : decode bM86 82 = .ok (.iload_n 2, 1) := by decide +kernel
theorem d86_83 : decode bM86 83 = .ok (.bipush 46, 2) := by decide +kernel
theorem d86_85 : decode bM86 85 = .ok (.if_icmp .ne 7, 3) := by decide +kernel
theorem d86_88 : decode bM86 88 = .ok (.iconst 4, 1) := by decide +kernel
theorem d86_89 : decode bM86 89 = .ok (.goto 4, 3) := by decide +kernel
theorem d86_92 : decode bM86 92 = .ok (.iconst (-1), 1) := by decide +kernel
theorem d86_93 : decode bM86 93 = .ok (.istore 4, 2) := by decide +kernel
theorem d86_95 : decode bM86 95 = .ok (.iload 4, 2) := by decide +kernel
theorem d86_97 : decode bM86 97 = .ok (.ifCond .ge 12, 3) := by decide +kernel
theorem d86_100 : decode bM86 100 = .ok (.aload_n 0, 1) := by decide +kernel
theorem d86_101 : decode bM86 101 = .ok (.aload_n 0, 1) := by decide +kernel
theorem d86_102 : decode bM86 102 = .ok (.getfield 197, 3) := by decide +kernel
theorem d86_105 : decode bM86 105 = .ok (.invokevirtual 144, 3) := by decide +kernel
theorem d86_108 : decode bM86 108 = .ok (.return_, 1) := by decide +kernel
theorem d86_109 : decode bM86 109 = .ok (.aload_n 0, 1) := by decide +kernel
theorem d86_110 : decode bM86 110 = .ok (.getfield 44, 3) := by decide +kernel
theorem d86_113 : decode bM86 113 = .ok (.aload_n 0, 1) := by decide +kernel
theorem d86_114 : decode bM86 114 = .ok (.getfield 297, 3) := by decide +kernel
theorem d86_117 : decode bM86 117 = .ok (.iload_n 1, 1) := by decide +kernel
theorem d86_118 : decode bM86 118 = .ok (.iastore, 1) := by decide +kernel
theorem d86_119 : decode bM86 119 = .ok (.aload_n 0, 1) := by decide +kernel
theorem d86_120 : decode bM86 120 = .ok (.getfield 47, 3) := by decide +kernel
theorem d86_123 : decode bM86 123 = .ok (.aload_n 0, 1) := by decide +kernel
theorem d86_124 : decode bM86 124 = .ok (.getfield 297, 3) := by decide +kernel
theorem d86_127 : decode bM86 127 = .ok (.iload 4, 2) := by decide +kernel
theorem d86_129 : decode bM86 129 = .ok (.iastore, 1) := by decide +kernel
theorem d86_130 : decode bM86 130 = .ok (.aload_n 0, 1) := by decide +kernel
theorem d86_131 : decode bM86 131 = .ok (.getfield 50, 3) := by decide +kernel
theorem d86_134 : decode bM86 134 = .ok (.aload_n 0, 1) := by decide +kernel
theorem d86_135 : decode bM86 135 = .ok (.getfield 297, 3) := by decide +kernel
theorem d86_138 : decode bM86 138 = .ok (.aload_n 0, 1) := by decide +kernel
theorem d86_139 : decode bM86 139 = .ok (.getfield 197, 3) := by decide +kernel
theorem d86_142 : decode bM86 142 = .ok (.iastore, 1) := by decide +kernel
theorem d86_143 : decode bM86 143 = .ok (.aload_n 0, 1) := by decide +kernel
theorem d86_144 : decode bM86 144 = .ok (.getfield 53, 3) := by decide +kernel
theorem d86_147 : decode bM86 147 = .ok (.aload_n 0, 1) := by decide +kernel
theorem d86_148 : decode bM86 148 = .ok (.getfield 297, 3) := by decide +kernel
theorem d86_151 : decode bM86 151 = .ok (.iload_n 3, 1) := by decide +kernel
theorem d86_152 : decode bM86 152 = .ok (.iastore, 1) := by decide +kernel
theorem d86_153 : decode bM86 153 = .ok (.aload_n 0, 1) := by decide +kernel
theorem d86_154 : decode bM86 154 = .ok (.getfield 56, 3) := by decide +kernel
theorem d86_157 : decode bM86 157 = .ok (.aload_n 0, 1) := by decide +kernel
theorem d86_158 : decode bM86 158 = .ok (.getfield 297, 3) := by decide +kernel
theorem d86_161 : decode bM86 161 = .ok (.iconst (-1), 1) := by decide +kernel
theorem d86_162 : decode bM86 162 = .ok (.iastore, 1) := by decide +kernel
theorem d86_163 : decode bM86 163 = .ok (.aload_n 0, 1) := by decide +kernel
theorem d86_164 : decode bM86 164 = .ok (.getfield 59, 3) := by decide +kernel
theorem d86_167 : decode bM86 167 = .ok (.aload_n 0, 1) := by decide +kernel
theorem d86_168 : decode bM86 168 = .ok (.getfield 297, 3) := by decide +kernel
theorem d86_171 : decode bM86 171 = .ok (.iconst (-1), 1) := by decide +kernel
theorem d86_172 : decode bM86 172 = .ok (.iastore, 1) := by decide +kernel
theorem d86_173 : decode bM86 173 = .ok (.aload_n 0, 1) := by decide +kernel
theorem d86_174 : decode bM86 174 = .ok (.getfield 103, 3) := by decide +kernel
theorem d86_177 : decode bM86 177 = .ok (.aload_n 0, 1) := by decide +kernel
theorem d86_178 : decode bM86 178 = .ok (.getfield 284, 3) := by decide +kernel
theorem d86_181 : decode bM86 181 = .ok (.iaload, 1) := by decide +kernel
theorem d86_182 : decode bM86 182 = .ok (.istore 5, 2) := by decide +kernel
theorem d86_184 : decode bM86 184 = .ok (.iload 5, 2) := by decide +kernel
theorem d86_186 : decode bM86 186 = .ok (.ifCond .lt 17, 3) := by decide +kernel
theorem d86_189 : decode bM86 189 = .ok (.aload_n 0, 1) := by decide +kernel
theorem d86_190 : decode bM86 190 = .ok (.getfield 59, 3) := by decide +kernel
theorem d86_193 : decode bM86 193 = .ok (.iload 5, 2) := by decide +kernel
theorem d86_195 : decode bM86 195 = .ok (.aload_n 0, 1) := by decide +kernel
theorem d86_196 : decode bM86 196 = .ok (.getfield 297, 3) := by decide +kernel
theorem d86_199 : decode bM86 199 = .ok (.iastore, 1) := by decide +kernel
theorem d86_200 : decode bM86 200 = .ok (.goto 39, 3) := by decide +kernel
theorem d86_203 : decode bM86 203 = .ok (.aload_n 0, 1) := by decide +kernel
theorem d86_204 : decode bM86 204 = .ok (.getfield 284, 3) := by decide +kernel
theorem d86_207 : decode bM86 207 = .ok (.ifCond .ne 14, 3) := by decide +kernel
theorem d86_210 : decode bM86 210 = .ok (.aload_n 0, 1) := by decide +kernel
theorem d86_211 : decode bM86 211 = .ok (.aload_n 0, 1) := by decide +kernel
theorem d86_212 : decode bM86 212 = .ok (.getfield 297, 3) := by decide +kernel
theorem d86_215 : decode bM86 215 = .ok (.putfield 300, 3) := by decide +kernel
theorem d86_218 : decode bM86 218 = .ok (.goto 21, 3) := by decide +kernel
theorem d86_221 : decode bM86 221 = .ok (.aload_n 0, 1) := by decide +kernel
theorem d86_222 : decode bM86 222 = .ok (.getfield 80, 3) := by decide +kernel
theorem d86_225 : decode bM86 225 = .ok (.aload_n 0, 1) := by decide +kernel
theorem d86_226 : decode bM86 226 = .ok (.getfield 100, 3) := by decide +kernel
theorem d86_229 : decode bM86 229 = .ok (.aload_n 0, 1) := by decide +kernel
theorem d86_230 : decode bM86 230 = .ok (.getfield 284, 3) := by decide +kernel
theorem d86_233 : decode bM86 233 = .ok (.iaload, 1) := by decide +kernel
theorem d86_234 : decode bM86 234 = .ok (.aload_n 0, 1) := by decide +kernel
theorem d86_235 : decode bM86 235 = .ok (.getfield 297, 3) := by decide +kernel
theorem d86_238 : decode bM86 238 = .ok (.iastore, 1) := by decide +kernel
theorem d86_239 : decode bM86 239 = .ok (.aload_n 0, 1) := by decide +kernel
theorem d86_240 : decode bM86 240 = .ok (.getfield 103, 3) := by decide +kernel
theorem d86_243 : decode bM86 243 = .ok (.aload_n 0, 1) := by decide +kernel
theorem d86_244 : decode bM86 244 = .ok (.getfield 284, 3) := by decide +kernel
theorem d86_247 : decode bM86 247 = .ok (.aload_n 0, 1) := by decide +kernel
theorem d86_248 : decode bM86 248 = .ok (.getfield 297, 3) := by decide +kernel
theorem d86_251 : decode bM86 251 = .ok (.iastore, 1) := by decide +kernel
theorem d86_252 : decode bM86 252 = .ok (.aload_n 0, 1) := by decide +kernel
theorem d86_253 : decode bM86 253 = .ok (.getfield 106, 3) := by decide +kernel
theorem d86_256 : decode bM86 256 = .ok (.aload_n 0, 1) := by decide +kernel
theorem d86_257 : decode bM86 257 = .ok (.getfield 284, 3) := by decide +kernel
theorem d86_260 : decode bM86 260 = .ok (.iconst (-1), 1) := by decide +kernel
theorem d86_261 : decode bM86 261 = .ok (.iastore, 1) := by decide +kernel
theorem d86_262 : decode bM86 262 = .ok (.aload_n 0, 1) := by decide +kernel
theorem d86_263 : decode bM86 263 = .ok (.dup, 1) := by decide +kernel
theorem d86_264 : decode bM86 264 = .ok (.getfield 297, 3) := by decide +kernel
theorem d86_267 : decode bM86 267 = .ok (.iconst 1, 1) := by decide +kernel
theorem d86_268 : decode bM86 268 = .ok (.iadd, 1) := by decide +kernel
theorem d86_269 : decode bM86 269 = .ok (.putfield 297, 3) := by decide +kernel
theorem d86_272 : decode bM86 272 = .ok (.aload_n 0, 1) := by decide +kernel
theorem d86_273 : decode bM86 273 = .ok (.dup, 1) := by decide +kernel
theorem d86_274 : decode bM86 274 = .ok (.getfield 197, 3) := by decide +kernel
theorem d86_277 : decode bM86 277 = .ok (.iload_n 3, 1) := by decide +kernel
theorem d86_278 : decode bM86 278 = .ok (.ifCond .le 7, 3) := by decide +kernel
theorem d86_281 : decode bM86 281 = .ok (.iload_n 3, 1) := by decide +kernel
theorem d86_282 : decode bM86 282 = .ok (.goto 4, 3) := by decide +kernel
theorem d86_285 : decode bM86 285 = .ok (.iconst 1, 1) := by decide +kernel
theorem d86_286 : decode bM86 286 = .ok (.iadd, 1) := by decide +kernel
theorem d86_287 : decode bM86 287 = .ok (.putfield 197, 3) := by decide +kernel
theorem d86_290 : decode bM86 290 = .ok (.aload_n 0, 1) := by decide +kernel
theorem d86_291 : decode bM86 291 = .ok (.iconst 2, 1) := by decide +kernel
theorem d86_292 : decode bM86 292 = .ok (.putfield 290, 3) := by decide +kernel
theorem d86_295 : decode bM86 295 = .ok (.return_, 1) := by decide +kernel
theorem d87_0 : decode bM87 0 = .ok (.aload_n 0, 1) := by decide +kernel
theorem d87_1 : decode bM87 1 = .ok (.aload_n 0, 1) := by decide +kernel
theorem d87_2 : decode bM87 2 = .ok (.getfield 197, 3) := by decide +kernel
theorem d87_5 : decode bM87 5 = .ok (.bipush 39, 2) := by decide +kernel
theorem d87_7 : decode bM87 7 = .ok (.invokevirtual 182, 3) := by decide +kernel
theorem d87_10 : decode bM87 10 = .ok (.ifCond .ne 4, 3) := by decide +kernel
theorem d87_13 : decode bM87 13 = .ok (.return_, 1) := by decide +kernel
theorem d87_14 : decode bM87 14 = .ok (.aload_n 0, 1) := by decide +kernel
theorem d87_15 : decode bM87 15 = .ok (.getfield 197, 3) := by decide +kernel
theorem d87_18 : decode bM87 18 = .ok (.iconst 1, 1) := by decide +kernel
theorem d87_19 : decode bM87 19 = .ok (.iadd, 1) := by decide +kernel
theorem d87_20 : decode bM87 20 = .ok (.istore_n 2, 1) := by decide +kernel
theorem d87_21 : decode bM87 21 = .ok (.iload_n 2, 1) := by decide +kernel
theorem d87_22 : decode bM87 22 = .ok (.aload_n 0, 1) := by decide +kernel
theorem d87_23 : decode bM87 23 = .ok (.getfield 133, 3) := by decide +kernel
theorem d87_26 : decode bM87 26 = .ok (.if_icmp .ge 19, 3) := by decide +kernel
theorem d87_29 : decode bM87 29 = .ok (.aload_n 0, 1) := by decide +kernel
theorem d87_30 : decode bM87 30 = .ok (.iload_n 2, 1) := by decide +kernel
theorem d87_31 : decode bM87 31 = .ok (.invokevirtual 140, 3) := by decide +kernel
theorem d87_34 : decode bM87 34 = .ok (.bipush 39, 2) := by decide +kernel
theorem d87_36 : decode bM87 36 = .ok (.if_icmp .eq 9, 3) := by decide +kernel
theorem d87_39 : decode bM87 39 = .ok (.iinc 2 1, 3) := by decide +kernel
theorem d87_42 : decode bM87 42 = .ok (.goto (-21), 3) := by decide +kernel
theorem d87_45 : decode bM87 45 = .ok (.iload_n 2, 1) := by decide +kernel
theorem d87_46 : decode bM87 46 = .ok (.aload_n 0, 1) := by decide +kernel
theorem d87_47 : decode bM87 47 = .ok (.getfield 133, 3) := by decide +kernel
theorem d87_50 : decode bM87 50 = .ok (.if_icmp .lt 11, 3) := by decide +kernel
theorem d87_53 : decode bM87 53 = .ok (.aload_n 0, 1) := by decide +kernel
theorem d87_54 : decode bM87 54 = .ok (.aload_n 0, 1) := by decide +kernel
theorem d87_55 : decode bM87 55 = .ok (.getfield 133, 3) := by decide +kernel
theorem d87_58 : decode bM87 58 = .ok (.invokevirtual 144, 3) := by decide +kernel
theorem d87_61 : decode bM87 61 = .ok (.aload_n 0, 1) := by decide +kernel
theorem d87_62 : decode bM87 62 = .ok (.getfield 74, 3) := by decide +kernel
theorem d87_65 : decode bM87 65 = .ok (.iload_n 1, 1) := by decide +kernel
theorem d87_66 : decode bM87 66 = .ok (.aload_n 0, 1) := by decide +kernel
theorem d87_67 : decode bM87 67 = .ok (.getfield 197, 3) := by decide +kernel
theorem d87_70 : decode bM87 70 = .ok (.iconst 1, 1) := by decide +kernel
theorem d87_71 : decode bM87 71 = .ok (.iadd, 1) := by decide +kernel
theorem d87_72 : decode bM87 72 = .ok (.iastore, 1) := by decide +kernel
theorem d87_73 : decode bM87 73 = .ok (.aload_n 0, 1) := by decide +kernel
theorem d87_74 : decode bM87 74 = .ok (.getfield 77, 3) := by decide +kernel
theorem d87_77 : decode bM87 77 = .ok (.iload_n 1, 1) := by decide +kernel
theorem d87_78 : decode bM87 78 = .ok (.iload_n 2, 1) := by decide +kernel
theorem d87_79 : decode bM87 79 = .ok (.aload_n 0, 1) := by decide +kernel
theorem d87_80 : decode bM87 80 = .ok (.getfield 197, 3) := by decide +kernel
theorem d87_83 : decode bM87 83 = .ok (.isub, 1) := by decide +kernel
theorem d87_84 : decode bM87 84 = .ok (.iconst 1, 1) := by decide +kernel
theorem d87_85 : decode bM87 85 = .ok (.isub, 1) := by decide +kernel
theorem d87_86 : decode bM87 86 = .ok (.iastore, 1) := by decide +kernel
theorem d87_87 : decode bM87 87 = .ok (.aload_n 0, 1) := by decide +kernel
theorem d87_88 : decode bM87 88 = .ok (.iload_n 2, 1) := by decide +kernel
theorem d87_89 : decode bM87 89 = .ok (.iconst 1, 1) := by decide +kernel
theorem d87_90 : decode bM87 90 = .ok (.iadd, 1) := by decide +kernel
theorem d87_91 : decode bM87 91 = .ok (.putfield 197, 3) := by decide +kernel
theorem d87_94 : decode bM87 94 = .ok (.return_, 1) := by decide +kernel
def g_load (st : mT) : Option (Int32 × mT) := ((g_loaded st).bind (fun q1 => (mm_lt (mm_F q1.2 7 0) (fun st2 => (some (q1.1, st2))))))
set_option maxRecDepth 100000 in
set_option maxHeartbeats 8000000 in
theorem cm_load (l : Launch) (D : va_G) (dA : Nat → ClassId) (s0 : State) (hE : ms_EV D dA s0) (h0 : hm_T) (r : Nat) (M : Nat → Nat) (hM : mm_ok r M) (z0 : hz_T) (st : mT) (q : Int32 × mT) (hg : g_load st = some q) : ht_C l D s0 yM76 bM76 2 (Option.some Jvm.ClassFile.FieldType.int) 8 191 0 0 [.ref r] (fun h z => h = mm_h dA h0 r M st ∧ z = z0) (fun h z vv h1 z1 => vv = some (.int q.1) ∧ h1 = mm_h dA h0 r M q.2 ∧ z1 = z0) := by
  refine ht_C.mk hE.1 (by decide) (Nat.le_of_ble_eq_true rfl) [(0, .ref r)] rfl ?_
  intro p e s m below meth c ls h z X hin hpre I hl
  have hx := X.1
  have hb := X.2.1
  have hml := X.2.2.1
  have hown : s.vm.findClass "MarkupStoreModel" = some m.cls := X.2.2.2.1
  have hts := X.2.2.2.2.2.2.1
  have hK := X.2.2.2.2.2.2.2.2.1
  rw [hpre.1, hpre.2] at I
  clear hpre
  have hF := hg
  unfold g_load at hF
  refine lv_aload_n hx hb d76_0 rfl (lv_at hl 0 rfl) ?_
  obtain ⟨q1, e9, hF⟩ := mm_bd hF
  refine ht_V (C := "MarkupStoreModel") (rest := []) (as := []) X hl (cm_loaded l D dA s0 hE h0 r M hM z0 st q1 e9) (List.forall_mem_cons.mpr ⟨ms_k1508, List.forall_mem_cons.mpr ⟨ms_k1510, List.forall_mem_cons.mpr ⟨ms_p44, List.forall_mem_cons.mpr ⟨ms_k7, List.forall_mem_cons.mpr ⟨ms_k1511, fun _ h => absurd h List.not_mem_nil⟩⟩⟩⟩⟩) ⟨rfl, by decide +kernel, by decide +kernel, (by decide +kernel : (parseMethodDescriptor "()I").map (fun d => d.parameters.length) = some 0)⟩ (hm_recv hK I rfl mm_hr) I ⟨rfl, rfl⟩ ⟨⟨Nat.le_of_ble_eq_true rfl, Nat.le_of_ble_eq_true rfl⟩, Nat.le_of_ble_eq_true rfl, Nat.le_of_ble_eq_true rfl⟩ rfl (Nat.le_of_ble_eq_true rfl) d76_1 (fun vv h1 z1 H locs hR I9 => ?_)
  obtain ⟨e1, e2, e3⟩ := hR
  rw [e2, e3] at I9
  clear I e2 e3 e9
  have I := I9
  clear I9
  subst e1
  refine W.eq (g2 := F0 m 4 ls [.int q1.1]) rfl ?_
  refine lv_istore_n hx hb d76_4 rfl hl (by decide) rfl (fun ls hl => ?_)
  have hl : lv_has ls 2 [(1, .int q1.1), (0, .ref r)] := hl
  refine lv_aload_n hx hb d76_5 rfl (lv_at hl 1 rfl) ?_
  refine lv_iconst (v := 0) hx hb d76_6 (by decide) ?_
  obtain ⟨st2, e9, hF⟩ := mm_lt_some hF
  refine mm_put (k := 7) (ty := .int) X I (by decide) ms_k1323 rfl rfl (by decide +kernel) ⟨rfl, rfl⟩ rfl e9 d76_7 (fun H locs I => ?_)
  clear e9
  refine lv_iload_n hx hb d76_10 rfl (lv_at hl 0 rfl) ?_
  exact ht_iret X d76_11 I (Nat.le_of_ble_eq_true rfl) (Nat.le_of_ble_eq_true rfl) (mm_fin hF)

def g_joined_31 (st : mT) : Option (Int32 × mT) := (some ((-2000), st))
def g_joined_105 (k81 : Int32 → Int32 → Int32 → Int32 → Int32 → mT → Option (Int32 × mT)) (x1 : Int32) (x2 : Int32) (x3 : Int32) (x4 : Int32) (x5 : Int32) (w0 : Int32) (w1 : Int32) (w2 : Int32) (st : mT) : Option (Int32 × mT) := (mm_ld (st.2.1 2) 5120 (8 + x5) (fun v6 => ((g_set w2 (w1 + w0) v6 st).bind (fun q7 => (k81 x1 x2 x3 x4 (x5 + 1) q7)))))
def g_joined_81 : Nat → Int32 → Int32 → Int32 → Int32 → Int32 → mT → Option (Int32 × mT)
  | 0, _, _, _, _, _, _ => none
  | n9 + 1, x1, x2, x3, x4, x5, st => (if x4 ≤ x5 then ((g_set x1 3 (x3 + x4) st).bind (fun q3 => (mm_lt (mm_F q3 5 ((q3.1 5) + 1)) (fun st4 => ((g_f x1 0 st4).bind (fun q5 => (some ((q5.1 - 1), q5.2)))))))) else (if x2 = 0 then (g_joined_105 (g_joined_81 n9) x1 x2 x3 x4 x5 x5 8 x1 st) else (g_joined_105 (g_joined_81 n9) x1 x2 x3 x4 x5 (x3 + x5) 8 x1 st)))
def g_joined_78 (x1 : Int32) (x2 : Int32) (x3 : Int32) (x4 : Int32) (st : mT) : Option (Int32 × mT) := (g_joined_81 mF x1 x2 x3 x4 0 st)
def g_joined_40 : Nat → Int32 → Int32 → Int32 → Int32 → Int32 → mT → Option (Int32 × mT)
  | 0, _, _, _, _, _, _ => none
  | n9 + 1, x1, x2, x3, x4, x5, st => (if x5 < 0 then (g_joined_78 x1 x2 x3 x4 st) else (if x2 = 0 then ((g_f x1 (8 + x5) st).bind (fun q8 => ((g_set x1 ((8 + x4) + x5) q8.1 q8.2).bind (fun q9 => ((g_joined_40 n9) x1 x2 x3 x4 (x5 + (-1)) q9))))) else (g_joined_78 x1 x2 x3 x4 st)))
def g_joined (y1 : Int32) (y2 : Int32) (st : mT) : Option (Int32 × mT) := ((g_f y1 3 st).bind (fun q1 => (mm_ld (q1.2.2.1 2) 5120 3 (fun v2 => (if (q1.2.1 11) = 0 then (if (q1.1 + v2) ≤ 20 then (g_joined_40 mF y1 y2 q1.1 v2 (q1.1 - 1) q1.2) else (g_joined_31 q1.2)) else (g_joined_31 q1.2))))))
set_option maxRecDepth 100000 in
set_option maxHeartbeats 8000000 in
theorem cm_joined (l : Launch) (D : va_G) (dA : Nat → ClassId) (s0 : State) (hE : ms_EV D dA s0) (h0 : hm_T) (r : Nat) (M : Nat → Nat) (hM : mm_ok r M) (z0 : hz_T) (y1 : Int32) (y2 : Int32) (st : mT) (q : Int32 × mT) (hg : g_joined y1 y2 st = some q) : ht_C l D s0 yM77 bM77 6 (Option.some Jvm.ClassFile.FieldType.int) 1 23 0 0 [.ref r, .int y1, .int y2] (fun h z => h = mm_h dA h0 r M st ∧ z = z0) (fun h z vv h1 z1 => vv = some (.int q.1) ∧ h1 = mm_h dA h0 r M q.2 ∧ z1 = z0) := by
  refine ht_C.mk hE.1 (by decide) (Nat.le_of_ble_eq_true rfl) [(0, .ref r), (1, .int y1), (2, .int y2)] rfl ?_
  intro p e s m below meth c ls h z X hin hpre I hl
  have hx := X.1
  have hb := X.2.1
  have hml := X.2.2.1
  have hown : s.vm.findClass "MarkupStoreModel" = some m.cls := X.2.2.2.1
  have hts := X.2.2.2.2.2.2.1
  have hK := X.2.2.2.2.2.2.2.2.1
  rw [hpre.1, hpre.2] at I
  clear hpre
  have b31 : ∀ (ls : Array Slot) (st : mT) (H : Heap) (locs : List Loc), g_joined_31 st = some q → lv_has ls 6 [] → hm_I D s0 s (mm_h dA h0 r M st) z0 H locs → W p l e { frames := 1, cells := 0, slots := 0, locals := 23 } s m ([.ref r, .int y1, .int y2] : List Value).toArray below meth c H locs 0 0 (MQ below (ht_Q D s0 (fun vv h1 z1 => vv = some (.int q.1) ∧ h1 = mm_h dA h0 r M q.2 ∧ z1 = z0)) ([.ref r, .int y1, .int y2] : List Value).toArray s 0 0 (fun q => s0.heap.size ≤ q)) (F0 m 31 ls []) := by
    intro ls st H locs hF hl I
    unfold g_joined_31 at hF
    refine lv_sipush (v := (-2000)) hx hb d77_31 (by decide) ?_
    exact ht_iret X d77_34 I (Nat.le_of_ble_eq_true rfl) (Nat.le_of_ble_eq_true rfl) (mm_fin hF)
  have b105 : ∀ (k81 : Int32 → Int32 → Int32 → Int32 → Int32 → mT → Option (Int32 × mT)), (∀ (ls : Array Slot) (x1 : Int32) (x2 : Int32) (x3 : Int32) (x4 : Int32) (x5 : Int32) (st : mT) (H : Heap) (locs : List Loc), k81 x1 x2 x3 x4 x5 st = some q → lv_has ls 6 [(0, .ref r), (1, .int x1), (2, .int x2), (3, .int x3), (4, .int x4), (5, .int x5)] → hm_I D s0 s (mm_h dA h0 r M st) z0 H locs → W p l e { frames := 1, cells := 0, slots := 0, locals := 23 } s m ([.ref r, .int y1, .int y2] : List Value).toArray below meth c H locs 0 0 (MQ below (ht_Q D s0 (fun vv h1 z1 => vv = some (.int q.1) ∧ h1 = mm_h dA h0 r M q.2 ∧ z1 = z0)) ([.ref r, .int y1, .int y2] : List Value).toArray s 0 0 (fun q => s0.heap.size ≤ q)) (F0 m 81 ls [])) → ∀ (ls : Array Slot) (x1 : Int32) (x2 : Int32) (x3 : Int32) (x4 : Int32) (x5 : Int32) (w0 : Int32) (w1 : Int32) (w2 : Int32) (st : mT) (H : Heap) (locs : List Loc), g_joined_105 k81 x1 x2 x3 x4 x5 w0 w1 w2 st = some q → lv_has ls 6 [(0, .ref r), (1, .int x1), (2, .int x2), (3, .int x3), (4, .int x4), (5, .int x5)] → hm_I D s0 s (mm_h dA h0 r M st) z0 H locs → W p l e { frames := 1, cells := 0, slots := 0, locals := 23 } s m ([.ref r, .int y1, .int y2] : List Value).toArray below meth c H locs 0 0 (MQ below (ht_Q D s0 (fun vv h1 z1 => vv = some (.int q.1) ∧ h1 = mm_h dA h0 r M q.2 ∧ z1 = z0)) ([.ref r, .int y1, .int y2] : List Value).toArray s 0 0 (fun q => s0.heap.size ≤ q)) (F0 m 105 ls [.int w0, .int w1, .int w2, .ref r]) := by
    intro k81 hk81 ls x1 x2 x3 x4 x5 w0 w1 w2 st H locs hF hl I
    unfold g_joined_105 at hF
    refine lv_iadd hx hb d77_105 ?_
    refine lv_aload_n hx hb d77_106 rfl (lv_at hl 0 rfl) ?_
    refine va_get (D := D) (ci := 2) (v := .ref (M 2)) (C := kR2) (T := kT2) (N := 60) hx hb hts ku2 hown hK (hm_one I.1 mm_hr) 0 rfl rfl 2 (by decide) (hts _ ms_k1318) (fun _ h => h) rfl d77_107 ?_
    refine lv_bipush (v := 8) hx hb d77_110 (by decide) ?_
    refine lv_iload hx hb d77_112 (lv_at hl 5 rfl) ?_
    refine lv_iadd hx hb d77_114 ?_
    obtain ⟨v6, i9, e9, hF⟩ := mm_ld_some hF
    refine va_iald hx hb hK (hm_one I.1 (mm_a2 hM)) 0 0 rfl rfl i9 d77_115 ?_
    refine ms_top (y := v6) e9 ?_
    clear e9 i9
    obtain ⟨q7, e9, hF⟩ := mm_bd hF
    refine ht_V (C := "MarkupStoreModel") (rest := []) (as := [.int w2, .int (w1 + w0), .int v6]) X hl (cm_set l D dA s0 hE h0 r M hM z0 w2 (w1 + w0) v6 st q7 e9) (List.forall_mem_cons.mpr ⟨ms_k1575, List.forall_mem_cons.mpr ⟨ms_k1577, List.forall_mem_cons.mpr ⟨ms_p60, List.forall_mem_cons.mpr ⟨ms_k7, List.forall_mem_cons.mpr ⟨ms_k1578, fun _ h => absurd h List.not_mem_nil⟩⟩⟩⟩⟩) ⟨rfl, by decide +kernel, by decide +kernel, (by decide +kernel : (parseMethodDescriptor "(III)V").map (fun d => d.parameters.length) = some 3)⟩ (hm_recv hK I rfl mm_hr) I ⟨rfl, rfl⟩ ⟨⟨Nat.le_of_ble_eq_true rfl, Nat.le_of_ble_eq_true rfl⟩, Nat.le_of_ble_eq_true rfl, Nat.le_of_ble_eq_true rfl⟩ rfl (Nat.le_of_ble_eq_true rfl) d77_116 (fun vv h1 z1 H locs hR I9 => ?_)
    obtain ⟨e1, e2, e3⟩ := hR
    rw [e2, e3] at I9
    clear I e2 e3 e9
    have I := I9
    clear I9
    subst e1
    refine W.eq (g2 := F0 m 119 ls []) rfl ?_
    refine lv_iinc (k := 5) (v := (x5 + 1)) hx hb d77_119 hl rfl (rfl) (by decide) rfl (fun ls hl => ?_)
    have hl : lv_has ls 6 [(5, .int (x5 + 1)), (0, .ref r), (1, .int x1), (2, .int x2), (3, .int x3), (4, .int x4)] := hl
    refine lv_goto hx hb d77_122 rfl ?_
    exact hk81 ls x1 x2 x3 x4 (x5 + 1) q7 _ _ hF (hl.sub [1, 2, 3, 4, 5, 0] rfl) I
  have b81 : ∀ n9 : Nat, ∀ (ls : Array Slot) (x1 : Int32) (x2 : Int32) (x3 : Int32) (x4 : Int32) (x5 : Int32) (st : mT) (H : Heap) (locs : List Loc), g_joined_81 n9 x1 x2 x3 x4 x5 st = some q → lv_has ls 6 [(0, .ref r), (1, .int x1), (2, .int x2), (3, .int x3), (4, .int x4), (5, .int x5)] → hm_I D s0 s (mm_h dA h0 r M st) z0 H locs → W p l e { frames := 1, cells := 0, slots := 0, locals := 23 } s m ([.ref r, .int y1, .int y2] : List Value).toArray below meth c H locs 0 0 (MQ below (ht_Q D s0 (fun vv h1 z1 => vv = some (.int q.1) ∧ h1 = mm_h dA h0 r M q.2 ∧ z1 = z0)) ([.ref r, .int y1, .int y2] : List Value).toArray s 0 0 (fun q => s0.heap.size ≤ q)) (F0 m 81 ls []) := by
    intro n9
    induction n9 with
    | zero => intro ls x1 x2 x3 x4 x5 st H locs hF; cases hF
    | succ n9 hk81 =>
    intro ls x1 x2 x3 x4 x5 st H locs hF hl I
    unfold g_joined_81 at hF
    refine lv_iload hx hb d77_81 (lv_at hl 5 rfl) ?_
    refine lv_iload hx hb d77_83 (lv_at hl 4 rfl) ?_
    refine lv_icmp_ge hx hb d77_85 rfl (fun h9 => ?_) (fun h9 => ?_)
    · have hF := (if_pos h9).symm.trans hF
      refine lv_aload_n hx hb d77_125 rfl (lv_at hl 0 rfl) ?_
      refine lv_iload_n hx hb d77_126 rfl (lv_at hl 1 rfl) ?_
      refine lv_iconst (v := 3) hx hb d77_127 (by decide) ?_
      refine lv_iload_n hx hb d77_128 rfl (lv_at hl 3 rfl) ?_
      refine lv_iload hx hb d77_129 (lv_at hl 4 rfl) ?_
      refine lv_iadd hx hb d77_131 ?_
      obtain ⟨q3, e9, hF⟩ := mm_bd hF
      refine ht_V (C := "MarkupStoreModel") (rest := []) (as := [.int x1, .int 3, .int (x3 + x4)]) X hl (cm_set l D dA s0 hE h0 r M hM z0 x1 3 (x3 + x4) st q3 e9) (List.forall_mem_cons.mpr ⟨ms_k1575, List.forall_mem_cons.mpr ⟨ms_k1577, List.forall_mem_cons.mpr ⟨ms_p60, List.forall_mem_cons.mpr ⟨ms_k7, List.forall_mem_cons.mpr ⟨ms_k1578, fun _ h => absurd h List.not_mem_nil⟩⟩⟩⟩⟩) ⟨rfl, by decide +kernel, by decide +kernel, (by decide +kernel : (parseMethodDescriptor "(III)V").map (fun d => d.parameters.length) = some 3)⟩ (hm_recv hK I rfl mm_hr) I ⟨rfl, rfl⟩ ⟨⟨Nat.le_of_ble_eq_true rfl, Nat.le_of_ble_eq_true rfl⟩, Nat.le_of_ble_eq_true rfl, Nat.le_of_ble_eq_true rfl⟩ rfl (Nat.le_of_ble_eq_true rfl) d77_132 (fun vv h1 z1 H locs hR I9 => ?_)
      obtain ⟨e1, e2, e3⟩ := hR
      rw [e2, e3] at I9
      clear I e2 e3 e9
      have I := I9
      clear I9
      subst e1
      refine W.eq (g2 := F0 m 135 ls []) rfl ?_
      refine lv_aload_n hx hb d77_135 rfl (lv_at hl 0 rfl) ?_
      refine lv_dup hx hb d77_136 rfl ?_
      refine va_get (D := D) (ci := 2) (v := .int (q3.1 5)) (C := kR2) (T := kT2) (N := 60) hx hb hts ku2 hown hK (hm_one I.1 mm_hr) 0 rfl rfl 5 (by decide) (hts _ ms_k1321) (fun _ h => h) rfl d77_137 ?_
      refine lv_iconst (v := 1) hx hb d77_140 (by decide) ?_
      refine lv_iadd hx hb d77_141 ?_
      obtain ⟨st4, e9, hF⟩ := mm_lt_some hF
      refine mm_put (k := 5) (ty := .int) X I (by decide) ms_k1321 rfl rfl (by decide +kernel) ⟨rfl, rfl⟩ rfl e9 d77_142 (fun H locs I => ?_)
      clear e9
      refine lv_aload_n hx hb d77_145 rfl (lv_at hl 0 rfl) ?_
      refine lv_iload_n hx hb d77_146 rfl (lv_at hl 1 rfl) ?_
      refine lv_iconst (v := 0) hx hb d77_147 (by decide) ?_
      obtain ⟨q5, e9, hF⟩ := mm_bd hF
      refine ht_V (C := "MarkupStoreModel") (rest := []) (as := [.int x1, .int 0]) X hl (cm_f l D dA s0 hE h0 r M hM z0 x1 0 st4 q5 e9) (List.forall_mem_cons.mpr ⟨ms_k1587, List.forall_mem_cons.mpr ⟨ms_k1589, List.forall_mem_cons.mpr ⟨ms_p63, List.forall_mem_cons.mpr ⟨ms_k7, List.forall_mem_cons.mpr ⟨ms_k1590, fun _ h => absurd h List.not_mem_nil⟩⟩⟩⟩⟩) ⟨rfl, by decide +kernel, by decide +kernel, (by decide +kernel : (parseMethodDescriptor "(II)I").map (fun d => d.parameters.length) = some 2)⟩ (hm_recv hK I rfl mm_hr) I ⟨rfl, rfl⟩ ⟨⟨Nat.le_of_ble_eq_true rfl, Nat.le_of_ble_eq_true rfl⟩, Nat.le_of_ble_eq_true rfl, Nat.le_of_ble_eq_true rfl⟩ rfl (Nat.le_of_ble_eq_true rfl) d77_148 (fun vv h1 z1 H locs hR I9 => ?_)
      obtain ⟨e1, e2, e3⟩ := hR
      rw [e2, e3] at I9
      clear I e2 e3 e9
      have I := I9
      clear I9
      subst e1
      refine W.eq (g2 := F0 m 151 ls [.int q5.1]) rfl ?_
      refine lv_iconst (v := 1) hx hb d77_151 (by decide) ?_
      refine lv_isub hx hb d77_152 ?_
      exact ht_iret X d77_153 I (Nat.le_of_ble_eq_true rfl) (Nat.le_of_ble_eq_true rfl) (mm_fin hF)
    · have hF := (if_neg h9).symm.trans hF
      refine lv_aload_n hx hb d77_88 rfl (lv_at hl 0 rfl) ?_
      refine lv_iload_n hx hb d77_89 rfl (lv_at hl 1 rfl) ?_
      refine lv_bipush (v := 8) hx hb d77_90 (by decide) ?_
      refine lv_iload_n hx hb d77_92 rfl (lv_at hl 2 rfl) ?_
      refine lv_if_eq hx hb d77_93 rfl (fun h9 => ?_) (fun h9 => ?_)
      · have hF := (if_pos h9).symm.trans hF
        refine lv_iload hx hb d77_103 (lv_at hl 5 rfl) ?_
        exact b105 (g_joined_81 n9) hk81 ls x1 x2 x3 x4 x5 x5 8 x1 st _ _ hF (hl.sub [0, 1, 2, 3, 4, 5] rfl) I
      · have hF := (if_neg h9).symm.trans hF
        refine lv_iload_n hx hb d77_96 rfl (lv_at hl 3 rfl) ?_
        refine lv_iload hx hb d77_97 (lv_at hl 5 rfl) ?_
        refine lv_iadd hx hb d77_99 ?_
        refine lv_goto hx hb d77_100 rfl ?_
        exact b105 (g_joined_81 n9) hk81 ls x1 x2 x3 x4 x5 (x3 + x5) 8 x1 st _ _ hF (hl.sub [0, 1, 2, 3, 4, 5] rfl) I
  have b78 : ∀ (ls : Array Slot) (x1 : Int32) (x2 : Int32) (x3 : Int32) (x4 : Int32) (st : mT) (H : Heap) (locs : List Loc), g_joined_78 x1 x2 x3 x4 st = some q → lv_has ls 6 [(0, .ref r), (1, .int x1), (2, .int x2), (3, .int x3), (4, .int x4)] → hm_I D s0 s (mm_h dA h0 r M st) z0 H locs → W p l e { frames := 1, cells := 0, slots := 0, locals := 23 } s m ([.ref r, .int y1, .int y2] : List Value).toArray below meth c H locs 0 0 (MQ below (ht_Q D s0 (fun vv h1 z1 => vv = some (.int q.1) ∧ h1 = mm_h dA h0 r M q.2 ∧ z1 = z0)) ([.ref r, .int y1, .int y2] : List Value).toArray s 0 0 (fun q => s0.heap.size ≤ q)) (F0 m 78 ls []) := by
    intro ls x1 x2 x3 x4 st H locs hF hl I
    unfold g_joined_78 at hF
    refine lv_iconst (v := 0) hx hb d77_78 (by decide) ?_
    refine lv_istore hx hb d77_79 hl (by decide) rfl (fun ls hl => ?_)
    have hl : lv_has ls 6 [(5, .int 0), (0, .ref r), (1, .int x1), (2, .int x2), (3, .int x3), (4, .int x4)] := hl
    exact b81 mF ls x1 x2 x3 x4 0 st _ _ hF (hl.sub [1, 2, 3, 4, 5, 0] rfl) I
  have b40 : ∀ n9 : Nat, ∀ (ls : Array Slot) (x1 : Int32) (x2 : Int32) (x3 : Int32) (x4 : Int32) (x5 : Int32) (st : mT) (H : Heap) (locs : List Loc), g_joined_40 n9 x1 x2 x3 x4 x5 st = some q → lv_has ls 6 [(0, .ref r), (1, .int x1), (2, .int x2), (3, .int x3), (4, .int x4), (5, .int x5)] → hm_I D s0 s (mm_h dA h0 r M st) z0 H locs → W p l e { frames := 1, cells := 0, slots := 0, locals := 23 } s m ([.ref r, .int y1, .int y2] : List Value).toArray below meth c H locs 0 0 (MQ below (ht_Q D s0 (fun vv h1 z1 => vv = some (.int q.1) ∧ h1 = mm_h dA h0 r M q.2 ∧ z1 = z0)) ([.ref r, .int y1, .int y2] : List Value).toArray s 0 0 (fun q => s0.heap.size ≤ q)) (F0 m 40 ls []) := by
    intro n9
    induction n9 with
    | zero => intro ls x1 x2 x3 x4 x5 st H locs hF; cases hF
    | succ n9 hk40 =>
    intro ls x1 x2 x3 x4 x5 st H locs hF hl I
    unfold g_joined_40 at hF
    refine lv_iload hx hb d77_40 (lv_at hl 5 rfl) ?_
    refine lv_if_lt hx hb d77_42 rfl (fun h9 => ?_) (fun h9 => ?_)
    · have hF := (if_pos h9).symm.trans hF
      exact b78 ls x1 x2 x3 x4 st _ _ hF (hl.sub [0, 1, 2, 3, 4] rfl) I
    · have hF := (if_neg h9).symm.trans hF
      refine lv_iload_n hx hb d77_45 rfl (lv_at hl 2 rfl) ?_
      refine lv_if_ne hx hb d77_46 rfl (fun h9 => ?_) (fun h9 => ?_)
      · have hF := (if_neg h9).symm.trans hF
        exact b78 ls x1 x2 x3 x4 st _ _ hF (hl.sub [0, 1, 2, 3, 4] rfl) I
      · have hF := (if_pos h9).symm.trans hF
        refine lv_aload_n hx hb d77_49 rfl (lv_at hl 0 rfl) ?_
        refine lv_iload_n hx hb d77_50 rfl (lv_at hl 1 rfl) ?_
        refine lv_bipush (v := 8) hx hb d77_51 (by decide) ?_
        refine lv_iload hx hb d77_53 (lv_at hl 4 rfl) ?_
        refine lv_iadd hx hb d77_55 ?_
        refine lv_iload hx hb d77_56 (lv_at hl 5 rfl) ?_
        refine lv_iadd hx hb d77_58 ?_
        refine lv_aload_n hx hb d77_59 rfl (lv_at hl 0 rfl) ?_
        refine lv_iload_n hx hb d77_60 rfl (lv_at hl 1 rfl) ?_
        refine lv_bipush (v := 8) hx hb d77_61 (by decide) ?_
        refine lv_iload hx hb d77_63 (lv_at hl 5 rfl) ?_
        refine lv_iadd hx hb d77_65 ?_
        obtain ⟨q8, e9, hF⟩ := mm_bd hF
        refine ht_V (C := "MarkupStoreModel") (rest := [.int ((8 + x4) + x5), .int x1, .ref r]) (as := [.int x1, .int (8 + x5)]) X hl (cm_f l D dA s0 hE h0 r M hM z0 x1 (8 + x5) st q8 e9) (List.forall_mem_cons.mpr ⟨ms_k1587, List.forall_mem_cons.mpr ⟨ms_k1589, List.forall_mem_cons.mpr ⟨ms_p63, List.forall_mem_cons.mpr ⟨ms_k7, List.forall_mem_cons.mpr ⟨ms_k1590, fun _ h => absurd h List.not_mem_nil⟩⟩⟩⟩⟩) ⟨rfl, by decide +kernel, by decide +kernel, (by decide +kernel : (parseMethodDescriptor "(II)I").map (fun d => d.parameters.length) = some 2)⟩ (hm_recv hK I rfl mm_hr) I ⟨rfl, rfl⟩ ⟨⟨Nat.le_of_ble_eq_true rfl, Nat.le_of_ble_eq_true rfl⟩, Nat.le_of_ble_eq_true rfl, Nat.le_of_ble_eq_true rfl⟩ rfl (Nat.le_of_ble_eq_true rfl) d77_66 (fun vv h1 z1 H locs hR I9 => ?_)
        obtain ⟨e1, e2, e3⟩ := hR
        rw [e2, e3] at I9
        clear I e2 e3 e9
        have I := I9
        clear I9
        subst e1
        refine W.eq (g2 := F0 m 69 ls [.int q8.1, .int ((8 + x4) + x5), .int x1, .ref r]) rfl ?_
        obtain ⟨q9, e9, hF⟩ := mm_bd hF
        refine ht_V (C := "MarkupStoreModel") (rest := []) (as := [.int x1, .int ((8 + x4) + x5), .int q8.1]) X hl (cm_set l D dA s0 hE h0 r M hM z0 x1 ((8 + x4) + x5) q8.1 q8.2 q9 e9) (List.forall_mem_cons.mpr ⟨ms_k1575, List.forall_mem_cons.mpr ⟨ms_k1577, List.forall_mem_cons.mpr ⟨ms_p60, List.forall_mem_cons.mpr ⟨ms_k7, List.forall_mem_cons.mpr ⟨ms_k1578, fun _ h => absurd h List.not_mem_nil⟩⟩⟩⟩⟩) ⟨rfl, by decide +kernel, by decide +kernel, (by decide +kernel : (parseMethodDescriptor "(III)V").map (fun d => d.parameters.length) = some 3)⟩ (hm_recv hK I rfl mm_hr) I ⟨rfl, rfl⟩ ⟨⟨Nat.le_of_ble_eq_true rfl, Nat.le_of_ble_eq_true rfl⟩, Nat.le_of_ble_eq_true rfl, Nat.le_of_ble_eq_true rfl⟩ rfl (Nat.le_of_ble_eq_true rfl) d77_69 (fun vv h1 z1 H locs hR I9 => ?_)
        obtain ⟨e1, e2, e3⟩ := hR
        rw [e2, e3] at I9
        clear I e2 e3 e9
        have I := I9
        clear I9
        subst e1
        refine W.eq (g2 := F0 m 72 ls []) rfl ?_
        refine lv_iinc (k := 5) (v := (x5 + (-1))) hx hb d77_72 hl rfl (rfl) (by decide) rfl (fun ls hl => ?_)
        have hl : lv_has ls 6 [(5, .int (x5 + (-1))), (0, .ref r), (1, .int x1), (2, .int x2), (3, .int x3), (4, .int x4)] := hl
        refine lv_goto hx hb d77_75 rfl ?_
        exact hk40 ls x1 x2 x3 x4 (x5 + (-1)) q9 _ _ hF (hl.sub [1, 2, 3, 4, 5, 0] rfl) I
  have hF := hg
  unfold g_joined at hF
  refine lv_aload_n hx hb d77_0 rfl (lv_at hl 0 rfl) ?_
  refine lv_iload_n hx hb d77_1 rfl (lv_at hl 1 rfl) ?_
  refine lv_iconst (v := 3) hx hb d77_2 (by decide) ?_
  obtain ⟨q1, e9, hF⟩ := mm_bd hF
  refine ht_V (C := "MarkupStoreModel") (rest := []) (as := [.int y1, .int 3]) X hl (cm_f l D dA s0 hE h0 r M hM z0 y1 3 st q1 e9) (List.forall_mem_cons.mpr ⟨ms_k1587, List.forall_mem_cons.mpr ⟨ms_k1589, List.forall_mem_cons.mpr ⟨ms_p63, List.forall_mem_cons.mpr ⟨ms_k7, List.forall_mem_cons.mpr ⟨ms_k1590, fun _ h => absurd h List.not_mem_nil⟩⟩⟩⟩⟩) ⟨rfl, by decide +kernel, by decide +kernel, (by decide +kernel : (parseMethodDescriptor "(II)I").map (fun d => d.parameters.length) = some 2)⟩ (hm_recv hK I rfl mm_hr) I ⟨rfl, rfl⟩ ⟨⟨Nat.le_of_ble_eq_true rfl, Nat.le_of_ble_eq_true rfl⟩, Nat.le_of_ble_eq_true rfl, Nat.le_of_ble_eq_true rfl⟩ rfl (Nat.le_of_ble_eq_true rfl) d77_3 (fun vv h1 z1 H locs hR I9 => ?_)
  obtain ⟨e1, e2, e3⟩ := hR
  rw [e2, e3] at I9
  clear I e2 e3 e9
  have I := I9
  clear I9
  subst e1
  refine W.eq (g2 := F0 m 6 ls [.int q1.1]) rfl ?_
  refine lv_istore_n hx hb d77_6 rfl hl (by decide) rfl (fun ls hl => ?_)
  have hl : lv_has ls 6 [(3, .int q1.1), (0, .ref r), (1, .int y1), (2, .int y2)] := hl
  refine lv_aload_n hx hb d77_7 rfl (lv_at hl 1 rfl) ?_
  refine va_get (D := D) (ci := 2) (v := .ref (M 2)) (C := kR2) (T := kT2) (N := 60) hx hb hts ku2 hown hK (hm_one I.1 mm_hr) 0 rfl rfl 2 (by decide) (hts _ ms_k1318) (fun _ h => h) rfl d77_8 ?_
  refine lv_iconst (v := 3) hx hb d77_11 (by decide) ?_
  obtain ⟨v2, i9, e9, hF⟩ := mm_ld_some hF
  refine va_iald hx hb hK (hm_one I.1 (mm_a2 hM)) 0 0 rfl rfl i9 d77_12 ?_
  refine ms_top (y := v2) e9 ?_
  clear e9 i9
  refine lv_istore hx hb d77_13 hl (by decide) rfl (fun ls hl => ?_)
  have hl : lv_has ls 6 [(4, .int v2), (3, .int q1.1), (0, .ref r), (1, .int y1), (2, .int y2)] := hl
  refine lv_aload_n hx hb d77_15 rfl (lv_at hl 2 rfl) ?_
  refine va_get (D := D) (ci := 2) (v := .int (q1.2.1 11)) (C := kR2) (T := kT2) (N := 60) hx hb hts ku2 hown hK (hm_one I.1 mm_hr) 0 rfl rfl 11 (by decide) (hts _ ms_k1327) (fun _ h => h) rfl d77_16 ?_
  refine lv_if_ne hx hb d77_19 rfl (fun h9 => ?_) (fun h9 => ?_)
  · have hF := (if_neg h9).symm.trans hF
    exact b31 ls q1.2 _ _ hF (hl.sub [] rfl) I
  · have hF := (if_pos h9).symm.trans hF
    refine lv_iload_n hx hb d77_22 rfl (lv_at hl 1 rfl) ?_
    refine lv_iload hx hb d77_23 (lv_at hl 0 rfl) ?_
    refine lv_iadd hx hb d77_25 ?_
    refine lv_bipush (v := 20) hx hb d77_26 (by decide) ?_
    refine lv_icmp_le hx hb d77_28 rfl (fun h9 => ?_) (fun h9 => ?_)
    · have hF := (if_pos h9).symm.trans hF
      refine lv_iload_n hx hb d77_35 rfl (lv_at hl 1 rfl) ?_
      refine lv_iconst (v := 1) hx hb d77_36 (by decide) ?_
      refine lv_isub hx hb d77_37 ?_
      refine lv_istore hx hb d77_38 hl (by decide) rfl (fun ls hl => ?_)
      have hl : lv_has ls 6 [(5, .int (q1.1 - 1)), (4, .int v2), (3, .int q1.1), (0, .ref r), (1, .int y1), (2, .int y2)] := hl
      exact b40 mF ls y1 y2 q1.1 v2 (q1.1 - 1) q1.2 _ _ hF (hl.sub [3, 4, 5, 2, 1, 0] rfl) I
    · have hF := (if_neg h9).symm.trans hF
      exact b31 ls q1.2 _ _ hF (hl.sub [] rfl) I

def g_inserted_38 (st : mT) : Option (Int32 × mT) := (some ((-2000), st))
def g_inserted_266 (st : mT) : Option (Int32 × mT) := (some ((-2000), st))
def g_inserted_345 (w0 : Int32) (w1 : Int32) (st : mT) : Option (Int32 × mT) := ((g_install w1 w0 st).bind (fun q13 => (mm_lt (mm_F q13 5 ((q13.1 5) + 1)) (fun st14 => (mm_ld (st14.2.1 3) 40 0 (fun v15 => ((g_f v15 0 st14).bind (fun q16 => (some ((q16.1 - 1), q16.2))))))))))
def g_inserted_230 (x1 : Int32) (x2 : Int32) (x3 : Int32) (x4 : Int32) (x5 : Int32) (st : mT) : Option (Int32 × mT) := (if (st.1 11) = 0 then ((g_count st).bind (fun q6 => (if 40 < (q6.1 + (q6.2.1 10)) then (g_inserted_266 q6.2) else (if ((q6.2.1 4) + (q6.2.1 10)) ≤ 200 then ((g_f x3 4 q6.2).bind (fun q7 => ((g_between x4 x5 q7.1 q7.2).bind (fun q8 => ((g_f x3 4 q8).bind (fun q9 => ((g_below q9.2).bind (fun q10 => (if ((q9.1 + (q9.2.1 23)) + q10.1) ≤ 16 then ((g_order x1 q10.2).bind (fun q11 => (if x2 = 0 then (g_inserted_345 q11.1 x3 q11.2) else (if x2 = 2 then (g_inserted_345 (q11.1 + 1) x3 q11.2) else ((g_end q11.1 q11.2).bind (fun q12 => (g_inserted_345 q12.1 x3 q12.2))))))) else (some ((-2000), q10.2))))))))))) else (g_inserted_266 q6.2))))) else (g_inserted_266 st))
def g_inserted_196 (x1 : Int32) (x2 : Int32) (x3 : Int32) (x4 : Int32) (x5 : Int32) (st : mT) : Option (Int32 × mT) := (mm_ld (st.2.1 2) 5120 1 (fun v5 => (if v5 = 2 then (if x5 < 0 then (g_inserted_230 x1 x2 x3 x4 x5 st) else ((g_f x5 1 st).bind (fun q17 => (if q17.1 = 2 then ((g_joined x5 0 q17.2).bind (fun q18 => (some (q18.1, q18.2)))) else (g_inserted_230 x1 x2 x3 x4 x5 q17.2))))) else (g_inserted_230 x1 x2 x3 x4 x5 st))))
def g_inserted_160 (x1 : Int32) (x2 : Int32) (x3 : Int32) (x4 : Int32) (w0 : Int32) (st : mT) : Option (Int32 × mT) := (mm_ld (st.2.1 2) 5120 1 (fun v4 => (if v4 = 2 then (if x4 < 0 then (g_inserted_196 x1 x2 x3 x4 w0 st) else ((g_f x4 1 st).bind (fun q19 => (if q19.1 = 2 then ((g_joined x4 1 q19.2).bind (fun q20 => (some (q20.1, q20.2)))) else (g_inserted_196 x1 x2 x3 x4 w0 q19.2))))) else (g_inserted_196 x1 x2 x3 x4 w0 st))))
def g_inserted_121 (x1 : Int32) (x2 : Int32) (x3 : Int32) (w0 : Int32) (st : mT) : Option (Int32 × mT) := (if x2 = 0 then (g_inserted_160 x1 x2 x3 w0 x1 st) else (if x2 = 1 then ((g_sibling x1 1 st).bind (fun q22 => (g_inserted_160 x1 x2 x3 w0 q22.1 q22.2))) else (if x2 = 2 then ((g_child x1 1 st).bind (fun q21 => (g_inserted_160 x1 x2 x3 w0 q21.1 q21.2))) else (g_inserted_160 x1 x2 x3 w0 (-1) st))))
def g_inserted_57 (x1 : Int32) (x2 : Int32) (w0 : Int32) (st : mT) : Option (Int32 × mT) := ((g_depth w0 st).bind (fun q1 => ((g_parse 0 (q1.1 + 1) q1.2).bind (fun q2 => (if (q2.1 9) < 0 then (if x2 = 0 then ((g_sibling x1 (-1) q2).bind (fun q23 => (g_inserted_121 x1 x2 w0 q23.1 q23.2))) else (if x2 = 1 then (g_inserted_121 x1 x2 w0 x1 q2) else (if x2 = 2 then (g_inserted_121 x1 x2 w0 (-1) q2) else ((g_child x1 (-1) q2).bind (fun q3 => (g_inserted_121 x1 x2 w0 q3.1 q3.2)))))) else (some (((-1) - (q2.1 9)), q2)))))))
def g_inserted_42 (x1 : Int32) (x2 : Int32) (st : mT) : Option (Int32 × mT) := (if 2 ≤ x2 then (g_inserted_57 x1 x2 x1 st) else ((g_f x1 2 st).bind (fun q24 => (g_inserted_57 x1 x2 q24.1 q24.2))))
def g_inserted_23 (x1 : Int32) (x2 : Int32) (st : mT) : Option (Int32 × mT) := (if x2 ≤ 1 then (g_inserted_42 x1 x2 st) else ((g_f x1 1 st).bind (fun q25 => (if q25.1 = 1 then (g_inserted_42 x1 x2 q25.2) else (g_inserted_38 q25.2)))))
def g_inserted (y1 : Int32) (y2 : Int32) (st : mT) : Option (Int32 × mT) := (if y2 < 0 then (g_inserted_38 st) else (if 3 < y2 then (g_inserted_38 st) else (if 2 ≤ y2 then (g_inserted_23 y1 y2 st) else ((g_f y1 2 st).bind (fun q26 => (if q26.1 < 0 then (g_inserted_38 q26.2) else (g_inserted_23 y1 y2 q26.2)))))))
set_option maxRecDepth 100000 in
set_option maxHeartbeats 8000000 in
theorem cm_inserted (l : Launch) (D : va_G) (dA : Nat → ClassId) (s0 : State) (hE : ms_EV D dA s0) (h0 : hm_T) (r : Nat) (M : Nat → Nat) (hM : mm_ok r M) (z0 : hz_T) (y1 : Int32) (y2 : Int32) (st : mT) (q : Int32 × mT) (hg : g_inserted y1 y2 st = some q) : ht_C l D s0 yM78 bM78 7 (Option.some Jvm.ClassFile.FieldType.int) 7 170 0 0 [.ref r, .int y1, .int y2] (fun h z => h = mm_h dA h0 r M st ∧ z = z0) (fun h z vv h1 z1 => vv = some (.int q.1) ∧ h1 = mm_h dA h0 r M q.2 ∧ z1 = z0) := by
  refine ht_C.mk hE.1 (by decide) (Nat.le_of_ble_eq_true rfl) [(0, .ref r), (1, .int y1), (2, .int y2)] rfl ?_
  intro p e s m below meth c ls h z X hin hpre I hl
  have hx := X.1
  have hb := X.2.1
  have hml := X.2.2.1
  have hown : s.vm.findClass "MarkupStoreModel" = some m.cls := X.2.2.2.1
  have hts := X.2.2.2.2.2.2.1
  have hK := X.2.2.2.2.2.2.2.2.1
  rw [hpre.1, hpre.2] at I
  clear hpre
  have b38 : ∀ (ls : Array Slot) (st : mT) (H : Heap) (locs : List Loc), g_inserted_38 st = some q → lv_has ls 7 [] → hm_I D s0 s (mm_h dA h0 r M st) z0 H locs → W p l e { frames := 7, cells := 0, slots := 0, locals := 170 } s m ([.ref r, .int y1, .int y2] : List Value).toArray below meth c H locs 0 0 (MQ below (ht_Q D s0 (fun vv h1 z1 => vv = some (.int q.1) ∧ h1 = mm_h dA h0 r M q.2 ∧ z1 = z0)) ([.ref r, .int y1, .int y2] : List Value).toArray s 0 0 (fun q => s0.heap.size ≤ q)) (F0 m 38 ls []) := by
    intro ls st H locs hF hl I
    unfold g_inserted_38 at hF
    refine lv_sipush (v := (-2000)) hx hb d78_38 (by decide) ?_
    exact ht_iret X d78_41 I (Nat.le_of_ble_eq_true rfl) (Nat.le_of_ble_eq_true rfl) (mm_fin hF)
  have b266 : ∀ (ls : Array Slot) (st : mT) (H : Heap) (locs : List Loc), g_inserted_266 st = some q → lv_has ls 7 [] → hm_I D s0 s (mm_h dA h0 r M st) z0 H locs → W p l e { frames := 7, cells := 0, slots := 0, locals := 170 } s m ([.ref r, .int y1, .int y2] : List Value).toArray below meth c H locs 0 0 (MQ below (ht_Q D s0 (fun vv h1 z1 => vv = some (.int q.1) ∧ h1 = mm_h dA h0 r M q.2 ∧ z1 = z0)) ([.ref r, .int y1, .int y2] : List Value).toArray s 0 0 (fun q => s0.heap.size ≤ q)) (F0 m 266 ls []) := by
    intro ls st H locs hF hl I
    unfold g_inserted_266 at hF
    refine lv_sipush (v := (-2000)) hx hb d78_266 (by decide) ?_
    exact ht_iret X d78_269 I (Nat.le_of_ble_eq_true rfl) (Nat.le_of_ble_eq_true rfl) (mm_fin hF)
  have b345 : ∀ (ls : Array Slot) (w0 : Int32) (w1 : Int32) (st : mT) (H : Heap) (locs : List Loc), g_inserted_345 w0 w1 st = some q → lv_has ls 7 [(0, .ref r)] → hm_I D s0 s (mm_h dA h0 r M st) z0 H locs → W p l e { frames := 7, cells := 0, slots := 0, locals := 170 } s m ([.ref r, .int y1, .int y2] : List Value).toArray below meth c H locs 0 0 (MQ below (ht_Q D s0 (fun vv h1 z1 => vv = some (.int q.1) ∧ h1 = mm_h dA h0 r M q.2 ∧ z1 = z0)) ([.ref r, .int y1, .int y2] : List Value).toArray s 0 0 (fun q => s0.heap.size ≤ q)) (F0 m 345 ls [.int w0, .int w1, .ref r]) := by
    intro ls w0 w1 st H locs hF hl I
    unfold g_inserted_345 at hF
    obtain ⟨q13, e9, hF⟩ := mm_bd hF
    refine ht_V (C := "MarkupStoreModel") (rest := []) (as := [.int w1, .int w0]) X hl (cm_install l D dA s0 hE h0 r M hM z0 w1 w0 st q13 e9) (List.forall_mem_cons.mpr ⟨ms_k1579, List.forall_mem_cons.mpr ⟨ms_k1581, List.forall_mem_cons.mpr ⟨ms_p61, List.forall_mem_cons.mpr ⟨ms_k7, List.forall_mem_cons.mpr ⟨ms_k1582, fun _ h => absurd h List.not_mem_nil⟩⟩⟩⟩⟩) ⟨rfl, by decide +kernel, by decide +kernel, (by decide +kernel : (parseMethodDescriptor "(II)V").map (fun d => d.parameters.length) = some 2)⟩ (hm_recv hK I rfl mm_hr) I ⟨rfl, rfl⟩ ⟨⟨Nat.le_of_ble_eq_true rfl, Nat.le_of_ble_eq_true rfl⟩, Nat.le_of_ble_eq_true rfl, Nat.le_of_ble_eq_true rfl⟩ rfl (Nat.le_of_ble_eq_true rfl) d78_345 (fun vv h1 z1 H locs hR I9 => ?_)
    obtain ⟨e1, e2, e3⟩ := hR
    rw [e2, e3] at I9
    clear I e2 e3 e9
    have I := I9
    clear I9
    subst e1
    refine W.eq (g2 := F0 m 348 ls []) rfl ?_
    refine lv_aload_n hx hb d78_348 rfl (lv_at hl 0 rfl) ?_
    refine lv_dup hx hb d78_349 rfl ?_
    refine va_get (D := D) (ci := 2) (v := .int (q13.1 5)) (C := kR2) (T := kT2) (N := 60) hx hb hts ku2 hown hK (hm_one I.1 mm_hr) 0 rfl rfl 5 (by decide) (hts _ ms_k1321) (fun _ h => h) rfl d78_350 ?_
    refine lv_iconst (v := 1) hx hb d78_353 (by decide) ?_
    refine lv_iadd hx hb d78_354 ?_
    obtain ⟨st14, e9, hF⟩ := mm_lt_some hF
    refine mm_put (k := 5) (ty := .int) X I (by decide) ms_k1321 rfl rfl (by decide +kernel) ⟨rfl, rfl⟩ rfl e9 d78_355 (fun H locs I => ?_)
    clear e9
    refine lv_aload_n hx hb d78_358 rfl (lv_at hl 0 rfl) ?_
    refine lv_aload_n hx hb d78_359 rfl (lv_at hl 0 rfl) ?_
    refine va_get (D := D) (ci := 2) (v := .ref (M 3)) (C := kR2) (T := kT2) (N := 60) hx hb hts ku2 hown hK (hm_one I.1 mm_hr) 0 rfl rfl 3 (by decide) (hts _ ms_k1319) (fun _ h => h) rfl d78_360 ?_
    refine lv_iconst (v := 0) hx hb d78_363 (by decide) ?_
    obtain ⟨v15, i9, e9, hF⟩ := mm_ld_some hF
    refine va_iald hx hb hK (hm_one I.1 (mm_a3 hM)) 0 0 rfl rfl i9 d78_364 ?_
    refine ms_top (y := v15) e9 ?_
    clear e9 i9
    refine lv_iconst (v := 0) hx hb d78_365 (by decide) ?_
    obtain ⟨q16, e9, hF⟩ := mm_bd hF
    refine ht_V (C := "MarkupStoreModel") (rest := []) (as := [.int v15, .int 0]) X hl (cm_f l D dA s0 hE h0 r M hM z0 v15 0 st14 q16 e9) (List.forall_mem_cons.mpr ⟨ms_k1587, List.forall_mem_cons.mpr ⟨ms_k1589, List.forall_mem_cons.mpr ⟨ms_p63, List.forall_mem_cons.mpr ⟨ms_k7, List.forall_mem_cons.mpr ⟨ms_k1590, fun _ h => absurd h List.not_mem_nil⟩⟩⟩⟩⟩) ⟨rfl, by decide +kernel, by decide +kernel, (by decide +kernel : (parseMethodDescriptor "(II)I").map (fun d => d.parameters.length) = some 2)⟩ (hm_recv hK I rfl mm_hr) I ⟨rfl, rfl⟩ ⟨⟨Nat.le_of_ble_eq_true rfl, Nat.le_of_ble_eq_true rfl⟩, Nat.le_of_ble_eq_true rfl, Nat.le_of_ble_eq_true rfl⟩ rfl (Nat.le_of_ble_eq_true rfl) d78_366 (fun vv h1 z1 H locs hR I9 => ?_)
    obtain ⟨e1, e2, e3⟩ := hR
    rw [e2, e3] at I9
    clear I e2 e3 e9
    have I := I9
    clear I9
    subst e1
    refine W.eq (g2 := F0 m 369 ls [.int q16.1]) rfl ?_
    refine lv_iconst (v := 1) hx hb d78_369 (by decide) ?_
    refine lv_isub hx hb d78_370 ?_
    exact ht_iret X d78_371 I (Nat.le_of_ble_eq_true rfl) (Nat.le_of_ble_eq_true rfl) (mm_fin hF)
  have b230 : ∀ (ls : Array Slot) (x1 : Int32) (x2 : Int32) (x3 : Int32) (x4 : Int32) (x5 : Int32) (st : mT) (H : Heap) (locs : List Loc), g_inserted_230 x1 x2 x3 x4 x5 st = some q → lv_has ls 7 [(0, .ref r), (1, .int x1), (2, .int x2), (3, .int x3), (4, .int x4), (5, .int x5)] → hm_I D s0 s (mm_h dA h0 r M st) z0 H locs → W p l e { frames := 7, cells := 0, slots := 0, locals := 170 } s m ([.ref r, .int y1, .int y2] : List Value).toArray below meth c H locs 0 0 (MQ below (ht_Q D s0 (fun vv h1 z1 => vv = some (.int q.1) ∧ h1 = mm_h dA h0 r M q.2 ∧ z1 = z0)) ([.ref r, .int y1, .int y2] : List Value).toArray s 0 0 (fun q => s0.heap.size ≤ q)) (F0 m 230 ls []) := by
    intro ls x1 x2 x3 x4 x5 st H locs hF hl I
    unfold g_inserted_230 at hF
    refine lv_aload_n hx hb d78_230 rfl (lv_at hl 0 rfl) ?_
    refine va_get (D := D) (ci := 2) (v := .int (st.1 11)) (C := kR2) (T := kT2) (N := 60) hx hb hts ku2 hown hK (hm_one I.1 mm_hr) 0 rfl rfl 11 (by decide) (hts _ ms_k1327) (fun _ h => h) rfl d78_231 ?_
    refine lv_if_ne hx hb d78_234 rfl (fun h9 => ?_) (fun h9 => ?_)
    · have hF := (if_neg h9).symm.trans hF
      exact b266 ls st _ _ hF (hl.sub [] rfl) I
    · have hF := (if_pos h9).symm.trans hF
      refine lv_aload_n hx hb d78_237 rfl (lv_at hl 0 rfl) ?_
      obtain ⟨q6, e9, hF⟩ := mm_bd hF
      refine ht_V (C := "MarkupStoreModel") (rest := []) (as := []) X hl (cm_count l D dA s0 hE h0 r M hM z0 st q6 e9) (List.forall_mem_cons.mpr ⟨ms_k1583, List.forall_mem_cons.mpr ⟨ms_k1585, List.forall_mem_cons.mpr ⟨ms_p62, List.forall_mem_cons.mpr ⟨ms_k7, List.forall_mem_cons.mpr ⟨ms_k1586, fun _ h => absurd h List.not_mem_nil⟩⟩⟩⟩⟩) ⟨rfl, by decide +kernel, by decide +kernel, (by decide +kernel : (parseMethodDescriptor "()I").map (fun d => d.parameters.length) = some 0)⟩ (hm_recv hK I rfl mm_hr) I ⟨rfl, rfl⟩ ⟨⟨Nat.le_of_ble_eq_true rfl, Nat.le_of_ble_eq_true rfl⟩, Nat.le_of_ble_eq_true rfl, Nat.le_of_ble_eq_true rfl⟩ rfl (Nat.le_of_ble_eq_true rfl) d78_238 (fun vv h1 z1 H locs hR I9 => ?_)
      obtain ⟨e1, e2, e3⟩ := hR
      rw [e2, e3] at I9
      clear I e2 e3 e9
      have I := I9
      clear I9
      subst e1
      refine W.eq (g2 := F0 m 241 ls [.int q6.1]) rfl ?_
      refine lv_aload_n hx hb d78_241 rfl (lv_at hl 0 rfl) ?_
      refine va_get (D := D) (ci := 2) (v := .int (q6.2.1 10)) (C := kR2) (T := kT2) (N := 60) hx hb hts ku2 hown hK (hm_one I.1 mm_hr) 0 rfl rfl 10 (by decide) (hts _ ms_k1326) (fun _ h => h) rfl d78_242 ?_
      refine lv_iadd hx hb d78_245 ?_
      refine lv_bipush (v := 40) hx hb d78_246 (by decide) ?_
      refine lv_icmp_gt hx hb d78_248 rfl (fun h9 => ?_) (fun h9 => ?_)
      · have hF := (if_pos h9).symm.trans hF
        exact b266 ls q6.2 _ _ hF (hl.sub [] rfl) I
      · have hF := (if_neg h9).symm.trans hF
        refine lv_aload_n hx hb d78_251 rfl (lv_at hl 0 rfl) ?_
        refine va_get (D := D) (ci := 2) (v := .int (q6.2.1 4)) (C := kR2) (T := kT2) (N := 60) hx hb hts ku2 hown hK (hm_one I.1 mm_hr) 0 rfl rfl 4 (by decide) (hts _ ms_k1320) (fun _ h => h) rfl d78_252 ?_
        refine lv_aload_n hx hb d78_255 rfl (lv_at hl 0 rfl) ?_
        refine va_get (D := D) (ci := 2) (v := .int (q6.2.1 10)) (C := kR2) (T := kT2) (N := 60) hx hb hts ku2 hown hK (hm_one I.1 mm_hr) 0 rfl rfl 10 (by decide) (hts _ ms_k1326) (fun _ h => h) rfl d78_256 ?_
        refine lv_iadd hx hb d78_259 ?_
        refine lv_sipush (v := 200) hx hb d78_260 (by decide) ?_
        refine lv_icmp_le hx hb d78_263 rfl (fun h9 => ?_) (fun h9 => ?_)
        · have hF := (if_pos h9).symm.trans hF
          refine lv_aload_n hx hb d78_270 rfl (lv_at hl 0 rfl) ?_
          refine lv_iload hx hb d78_271 (lv_at hl 4 rfl) ?_
          refine lv_iload hx hb d78_273 (lv_at hl 5 rfl) ?_
          refine lv_aload_n hx hb d78_275 rfl (lv_at hl 0 rfl) ?_
          refine lv_iload_n hx hb d78_276 rfl (lv_at hl 3 rfl) ?_
          refine lv_iconst (v := 4) hx hb d78_277 (by decide) ?_
          obtain ⟨q7, e9, hF⟩ := mm_bd hF
          refine ht_V (C := "MarkupStoreModel") (rest := [.int x5, .int x4, .ref r]) (as := [.int x3, .int 4]) X hl (cm_f l D dA s0 hE h0 r M hM z0 x3 4 q6.2 q7 e9) (List.forall_mem_cons.mpr ⟨ms_k1587, List.forall_mem_cons.mpr ⟨ms_k1589, List.forall_mem_cons.mpr ⟨ms_p63, List.forall_mem_cons.mpr ⟨ms_k7, List.forall_mem_cons.mpr ⟨ms_k1590, fun _ h => absurd h List.not_mem_nil⟩⟩⟩⟩⟩) ⟨rfl, by decide +kernel, by decide +kernel, (by decide +kernel : (parseMethodDescriptor "(II)I").map (fun d => d.parameters.length) = some 2)⟩ (hm_recv hK I rfl mm_hr) I ⟨rfl, rfl⟩ ⟨⟨Nat.le_of_ble_eq_true rfl, Nat.le_of_ble_eq_true rfl⟩, Nat.le_of_ble_eq_true rfl, Nat.le_of_ble_eq_true rfl⟩ rfl (Nat.le_of_ble_eq_true rfl) d78_278 (fun vv h1 z1 H locs hR I9 => ?_)
          obtain ⟨e1, e2, e3⟩ := hR
          rw [e2, e3] at I9
          clear I e2 e3 e9
          have I := I9
          clear I9
          subst e1
          refine W.eq (g2 := F0 m 281 ls [.int q7.1, .int x5, .int x4, .ref r]) rfl ?_
          obtain ⟨q8, e9, hF⟩ := mm_bd hF
          refine ht_V (C := "MarkupStoreModel") (rest := []) (as := [.int x4, .int x5, .int q7.1]) X hl (cm_between l D dA s0 hE h0 r M hM z0 x4 x5 q7.1 q7.2 q8 e9) (List.forall_mem_cons.mpr ⟨ms_k1635, List.forall_mem_cons.mpr ⟨ms_k1637, List.forall_mem_cons.mpr ⟨ms_p74, List.forall_mem_cons.mpr ⟨ms_k7, List.forall_mem_cons.mpr ⟨ms_k1638, fun _ h => absurd h List.not_mem_nil⟩⟩⟩⟩⟩) ⟨rfl, by decide +kernel, by decide +kernel, (by decide +kernel : (parseMethodDescriptor "(III)V").map (fun d => d.parameters.length) = some 3)⟩ (hm_recv hK I rfl mm_hr) I ⟨rfl, rfl⟩ ⟨⟨Nat.le_of_ble_eq_true rfl, Nat.le_of_ble_eq_true rfl⟩, Nat.le_of_ble_eq_true rfl, Nat.le_of_ble_eq_true rfl⟩ rfl (Nat.le_of_ble_eq_true rfl) d78_281 (fun vv h1 z1 H locs hR I9 => ?_)
          obtain ⟨e1, e2, e3⟩ := hR
          rw [e2, e3] at I9
          clear I e2 e3 e9
          have I := I9
          clear I9
          subst e1
          refine W.eq (g2 := F0 m 284 ls []) rfl ?_
          refine lv_aload_n hx hb d78_284 rfl (lv_at hl 0 rfl) ?_
          refine lv_iload_n hx hb d78_285 rfl (lv_at hl 3 rfl) ?_
          refine lv_iconst (v := 4) hx hb d78_286 (by decide) ?_
          obtain ⟨q9, e9, hF⟩ := mm_bd hF
          refine ht_V (C := "MarkupStoreModel") (rest := []) (as := [.int x3, .int 4]) X hl (cm_f l D dA s0 hE h0 r M hM z0 x3 4 q8 q9 e9) (List.forall_mem_cons.mpr ⟨ms_k1587, List.forall_mem_cons.mpr ⟨ms_k1589, List.forall_mem_cons.mpr ⟨ms_p63, List.forall_mem_cons.mpr ⟨ms_k7, List.forall_mem_cons.mpr ⟨ms_k1590, fun _ h => absurd h List.not_mem_nil⟩⟩⟩⟩⟩) ⟨rfl, by decide +kernel, by decide +kernel, (by decide +kernel : (parseMethodDescriptor "(II)I").map (fun d => d.parameters.length) = some 2)⟩ (hm_recv hK I rfl mm_hr) I ⟨rfl, rfl⟩ ⟨⟨Nat.le_of_ble_eq_true rfl, Nat.le_of_ble_eq_true rfl⟩, Nat.le_of_ble_eq_true rfl, Nat.le_of_ble_eq_true rfl⟩ rfl (Nat.le_of_ble_eq_true rfl) d78_287 (fun vv h1 z1 H locs hR I9 => ?_)
          obtain ⟨e1, e2, e3⟩ := hR
          rw [e2, e3] at I9
          clear I e2 e3 e9
          have I := I9
          clear I9
          subst e1
          refine W.eq (g2 := F0 m 290 ls [.int q9.1]) rfl ?_
          refine lv_aload_n hx hb d78_290 rfl (lv_at hl 0 rfl) ?_
          refine va_get (D := D) (ci := 2) (v := .int (q9.2.1 23)) (C := kR2) (T := kT2) (N := 60) hx hb hts ku2 hown hK (hm_one I.1 mm_hr) 0 rfl rfl 23 (by decide) (hts _ ms_k1339) (fun _ h => h) rfl d78_291 ?_
          refine lv_iadd hx hb d78_294 ?_
          refine lv_aload_n hx hb d78_295 rfl (lv_at hl 0 rfl) ?_
          obtain ⟨q10, e9, hF⟩ := mm_bd hF
          refine ht_V (C := "MarkupStoreModel") (rest := [.int (q9.1 + (q9.2.1 23))]) (as := []) X hl (cm_below l D dA s0 hE h0 r M hM z0 q9.2 q10 e9) (List.forall_mem_cons.mpr ⟨ms_k1646, List.forall_mem_cons.mpr ⟨ms_k1648, List.forall_mem_cons.mpr ⟨ms_p76, List.forall_mem_cons.mpr ⟨ms_k7, List.forall_mem_cons.mpr ⟨ms_k1649, fun _ h => absurd h List.not_mem_nil⟩⟩⟩⟩⟩) ⟨rfl, by decide +kernel, by decide +kernel, (by decide +kernel : (parseMethodDescriptor "()I").map (fun d => d.parameters.length) = some 0)⟩ (hm_recv hK I rfl mm_hr) I ⟨rfl, rfl⟩ ⟨⟨Nat.le_of_ble_eq_true rfl, Nat.le_of_ble_eq_true rfl⟩, Nat.le_of_ble_eq_true rfl, Nat.le_of_ble_eq_true rfl⟩ rfl (Nat.le_of_ble_eq_true rfl) d78_296 (fun vv h1 z1 H locs hR I9 => ?_)
          obtain ⟨e1, e2, e3⟩ := hR
          rw [e2, e3] at I9
          clear I e2 e3 e9
          have I := I9
          clear I9
          subst e1
          refine W.eq (g2 := F0 m 299 ls [.int q10.1, .int (q9.1 + (q9.2.1 23))]) rfl ?_
          refine lv_iadd hx hb d78_299 ?_
          refine lv_bipush (v := 16) hx hb d78_300 (by decide) ?_
          refine lv_icmp_le hx hb d78_302 rfl (fun h9 => ?_) (fun h9 => ?_)
          · have hF := (if_pos h9).symm.trans hF
            refine lv_aload_n hx hb d78_309 rfl (lv_at hl 0 rfl) ?_
            refine lv_iload_n hx hb d78_310 rfl (lv_at hl 1 rfl) ?_
            obtain ⟨q11, e9, hF⟩ := mm_bd hF
            refine ht_V (C := "MarkupStoreModel") (rest := []) (as := [.int x1]) X hl (cm_order l D dA s0 hE h0 r M hM z0 x1 q10.2 q11 e9) (List.forall_mem_cons.mpr ⟨ms_k1623, List.forall_mem_cons.mpr ⟨ms_k1625, List.forall_mem_cons.mpr ⟨ms_p71, List.forall_mem_cons.mpr ⟨ms_k7, List.forall_mem_cons.mpr ⟨ms_k1626, fun _ h => absurd h List.not_mem_nil⟩⟩⟩⟩⟩) ⟨rfl, by decide +kernel, by decide +kernel, (by decide +kernel : (parseMethodDescriptor "(I)I").map (fun d => d.parameters.length) = some 1)⟩ (hm_recv hK I rfl mm_hr) I ⟨rfl, rfl⟩ ⟨⟨Nat.le_of_ble_eq_true rfl, Nat.le_of_ble_eq_true rfl⟩, Nat.le_of_ble_eq_true rfl, Nat.le_of_ble_eq_true rfl⟩ rfl (Nat.le_of_ble_eq_true rfl) d78_311 (fun vv h1 z1 H locs hR I9 => ?_)
            obtain ⟨e1, e2, e3⟩ := hR
            rw [e2, e3] at I9
            clear I e2 e3 e9
            have I := I9
            clear I9
            subst e1
            refine W.eq (g2 := F0 m 314 ls [.int q11.1]) rfl ?_
            refine lv_istore hx hb d78_314 hl (by decide) rfl (fun ls hl => ?_)
            have hl : lv_has ls 7 [(6, .int q11.1), (0, .ref r), (1, .int x1), (2, .int x2), (3, .int x3), (4, .int x4), (5, .int x5)] := hl
            refine lv_aload_n hx hb d78_316 rfl (lv_at hl 1 rfl) ?_
            refine lv_iload_n hx hb d78_317 rfl (lv_at hl 4 rfl) ?_
            refine lv_iload_n hx hb d78_318 rfl (lv_at hl 3 rfl) ?_
            refine lv_if_ne hx hb d78_319 rfl (fun h9 => ?_) (fun h9 => ?_)
            · have hF := (if_neg h9).symm.trans hF
              refine lv_iload_n hx hb d78_327 rfl (lv_at hl 3 rfl) ?_
              refine lv_iconst (v := 2) hx hb d78_328 (by decide) ?_
              refine lv_icmp_ne hx hb d78_329 rfl (fun h9 => ?_) (fun h9 => ?_)
              · have hF := (if_neg h9).symm.trans hF
                refine lv_aload_n hx hb d78_339 rfl (lv_at hl 1 rfl) ?_
                refine lv_iload hx hb d78_340 (lv_at hl 0 rfl) ?_
                obtain ⟨q12, e9, hF⟩ := mm_bd hF
                refine ht_V (C := "MarkupStoreModel") (rest := [.int x3, .ref r]) (as := [.int q11.1]) X hl (cm_end l D dA s0 hE h0 r M hM z0 q11.1 q11.2 q12 e9) (List.forall_mem_cons.mpr ⟨ms_k1650, List.forall_mem_cons.mpr ⟨ms_k1652, List.forall_mem_cons.mpr ⟨ms_p77, List.forall_mem_cons.mpr ⟨ms_k7, List.forall_mem_cons.mpr ⟨ms_k1653, fun _ h => absurd h List.not_mem_nil⟩⟩⟩⟩⟩) ⟨rfl, by decide +kernel, by decide +kernel, (by decide +kernel : (parseMethodDescriptor "(I)I").map (fun d => d.parameters.length) = some 1)⟩ (hm_recv hK I rfl mm_hr) I ⟨rfl, rfl⟩ ⟨⟨Nat.le_of_ble_eq_true rfl, Nat.le_of_ble_eq_true rfl⟩, Nat.le_of_ble_eq_true rfl, Nat.le_of_ble_eq_true rfl⟩ rfl (Nat.le_of_ble_eq_true rfl) d78_342 (fun vv h1 z1 H locs hR I9 => ?_)
                obtain ⟨e1, e2, e3⟩ := hR
                rw [e2, e3] at I9
                clear I e2 e3 e9
                have I := I9
                clear I9
                subst e1
                refine W.eq (g2 := F0 m 345 ls [.int q12.1, .int x3, .ref r]) rfl ?_
                exact b345 ls q12.1 x3 q12.2 _ _ hF (hl.sub [1] rfl) I
              · have hF := (if_pos h9).symm.trans hF
                refine lv_iload hx hb d78_332 (lv_at hl 0 rfl) ?_
                refine lv_iconst (v := 1) hx hb d78_334 (by decide) ?_
                refine lv_iadd hx hb d78_335 ?_
                refine lv_goto hx hb d78_336 rfl ?_
                exact b345 ls (q11.1 + 1) x3 q11.2 _ _ hF (hl.sub [1] rfl) I
            · have hF := (if_pos h9).symm.trans hF
              refine lv_iload hx hb d78_322 (lv_at hl 0 rfl) ?_
              refine lv_goto hx hb d78_324 rfl ?_
              exact b345 ls q11.1 x3 q11.2 _ _ hF (hl.sub [1] rfl) I
          · have hF := (if_neg h9).symm.trans hF
            refine lv_sipush (v := (-2000)) hx hb d78_305 (by decide) ?_
            exact ht_iret X d78_308 I (Nat.le_of_ble_eq_true rfl) (Nat.le_of_ble_eq_true rfl) (mm_fin hF)
        · have hF := (if_neg h9).symm.trans hF
          exact b266 ls q6.2 _ _ hF (hl.sub [] rfl) I
  have b196 : ∀ (ls : Array Slot) (x1 : Int32) (x2 : Int32) (x3 : Int32) (x4 : Int32) (x5 : Int32) (st : mT) (H : Heap) (locs : List Loc), g_inserted_196 x1 x2 x3 x4 x5 st = some q → lv_has ls 7 [(0, .ref r), (1, .int x1), (2, .int x2), (3, .int x3), (4, .int x4), (5, .int x5)] → hm_I D s0 s (mm_h dA h0 r M st) z0 H locs → W p l e { frames := 7, cells := 0, slots := 0, locals := 170 } s m ([.ref r, .int y1, .int y2] : List Value).toArray below meth c H locs 0 0 (MQ below (ht_Q D s0 (fun vv h1 z1 => vv = some (.int q.1) ∧ h1 = mm_h dA h0 r M q.2 ∧ z1 = z0)) ([.ref r, .int y1, .int y2] : List Value).toArray s 0 0 (fun q => s0.heap.size ≤ q)) (F0 m 196 ls []) := by
    intro ls x1 x2 x3 x4 x5 st H locs hF hl I
    unfold g_inserted_196 at hF
    refine lv_aload_n hx hb d78_196 rfl (lv_at hl 0 rfl) ?_
    refine va_get (D := D) (ci := 2) (v := .ref (M 2)) (C := kR2) (T := kT2) (N := 60) hx hb hts ku2 hown hK (hm_one I.1 mm_hr) 0 rfl rfl 2 (by decide) (hts _ ms_k1318) (fun _ h => h) rfl d78_197 ?_
    refine lv_iconst (v := 1) hx hb d78_200 (by decide) ?_
    obtain ⟨v5, i9, e9, hF⟩ := mm_ld_some hF
    refine va_iald hx hb hK (hm_one I.1 (mm_a2 hM)) 0 0 rfl rfl i9 d78_201 ?_
    refine ms_top (y := v5) e9 ?_
    clear e9 i9
    refine lv_iconst (v := 2) hx hb d78_202 (by decide) ?_
    refine lv_icmp_ne hx hb d78_203 rfl (fun h9 => ?_) (fun h9 => ?_)
    · have hF := (if_neg h9).symm.trans hF
      exact b230 ls x1 x2 x3 x4 x5 st _ _ hF (hl.sub [0, 1, 2, 3, 4, 5] rfl) I
    · have hF := (if_pos h9).symm.trans hF
      refine lv_iload hx hb d78_206 (lv_at hl 5 rfl) ?_
      refine lv_if_lt hx hb d78_208 rfl (fun h9 => ?_) (fun h9 => ?_)
      · have hF := (if_pos h9).symm.trans hF
        exact b230 ls x1 x2 x3 x4 x5 st _ _ hF (hl.sub [0, 1, 2, 3, 4, 5] rfl) I
      · have hF := (if_neg h9).symm.trans hF
        refine lv_aload_n hx hb d78_211 rfl (lv_at hl 0 rfl) ?_
        refine lv_iload hx hb d78_212 (lv_at hl 5 rfl) ?_
        refine lv_iconst (v := 1) hx hb d78_214 (by decide) ?_
        obtain ⟨q17, e9, hF⟩ := mm_bd hF
        refine ht_V (C := "MarkupStoreModel") (rest := []) (as := [.int x5, .int 1]) X hl (cm_f l D dA s0 hE h0 r M hM z0 x5 1 st q17 e9) (List.forall_mem_cons.mpr ⟨ms_k1587, List.forall_mem_cons.mpr ⟨ms_k1589, List.forall_mem_cons.mpr ⟨ms_p63, List.forall_mem_cons.mpr ⟨ms_k7, List.forall_mem_cons.mpr ⟨ms_k1590, fun _ h => absurd h List.not_mem_nil⟩⟩⟩⟩⟩) ⟨rfl, by decide +kernel, by decide +kernel, (by decide +kernel : (parseMethodDescriptor "(II)I").map (fun d => d.parameters.length) = some 2)⟩ (hm_recv hK I rfl mm_hr) I ⟨rfl, rfl⟩ ⟨⟨Nat.le_of_ble_eq_true rfl, Nat.le_of_ble_eq_true rfl⟩, Nat.le_of_ble_eq_true rfl, Nat.le_of_ble_eq_true rfl⟩ rfl (Nat.le_of_ble_eq_true rfl) d78_215 (fun vv h1 z1 H locs hR I9 => ?_)
        obtain ⟨e1, e2, e3⟩ := hR
        rw [e2, e3] at I9
        clear I e2 e3 e9
        have I := I9
        clear I9
        subst e1
        refine W.eq (g2 := F0 m 218 ls [.int q17.1]) rfl ?_
        refine lv_iconst (v := 2) hx hb d78_218 (by decide) ?_
        refine lv_icmp_ne hx hb d78_219 rfl (fun h9 => ?_) (fun h9 => ?_)
        · have hF := (if_neg h9).symm.trans hF
          exact b230 ls x1 x2 x3 x4 x5 q17.2 _ _ hF (hl.sub [0, 1, 2, 3, 4, 5] rfl) I
        · have hF := (if_pos h9).symm.trans hF
          refine lv_aload_n hx hb d78_222 rfl (lv_at hl 0 rfl) ?_
          refine lv_iload hx hb d78_223 (lv_at hl 5 rfl) ?_
          refine lv_iconst (v := 0) hx hb d78_225 (by decide) ?_
          obtain ⟨q18, e9, hF⟩ := mm_bd hF
          refine ht_V (C := "MarkupStoreModel") (rest := []) (as := [.int x5, .int 0]) X hl (cm_joined l D dA s0 hE h0 r M hM z0 x5 0 q17.2 q18 e9) (List.forall_mem_cons.mpr ⟨ms_k1631, List.forall_mem_cons.mpr ⟨ms_k1633, List.forall_mem_cons.mpr ⟨ms_p73, List.forall_mem_cons.mpr ⟨ms_k7, List.forall_mem_cons.mpr ⟨ms_k1634, fun _ h => absurd h List.not_mem_nil⟩⟩⟩⟩⟩) ⟨rfl, by decide +kernel, by decide +kernel, (by decide +kernel : (parseMethodDescriptor "(IZ)I").map (fun d => d.parameters.length) = some 2)⟩ (hm_recv hK I rfl mm_hr) I ⟨rfl, rfl⟩ ⟨⟨Nat.le_of_ble_eq_true rfl, Nat.le_of_ble_eq_true rfl⟩, Nat.le_of_ble_eq_true rfl, Nat.le_of_ble_eq_true rfl⟩ rfl (Nat.le_of_ble_eq_true rfl) d78_226 (fun vv h1 z1 H locs hR I9 => ?_)
          obtain ⟨e1, e2, e3⟩ := hR
          rw [e2, e3] at I9
          clear I e2 e3 e9
          have I := I9
          clear I9
          subst e1
          refine W.eq (g2 := F0 m 229 ls [.int q18.1]) rfl ?_
          exact ht_iret X d78_229 I (Nat.le_of_ble_eq_true rfl) (Nat.le_of_ble_eq_true rfl) (mm_fin hF)
  have b160 : ∀ (ls : Array Slot) (x1 : Int32) (x2 : Int32) (x3 : Int32) (x4 : Int32) (w0 : Int32) (st : mT) (H : Heap) (locs : List Loc), g_inserted_160 x1 x2 x3 x4 w0 st = some q → lv_has ls 7 [(0, .ref r), (1, .int x1), (2, .int x2), (3, .int x3), (4, .int x4)] → hm_I D s0 s (mm_h dA h0 r M st) z0 H locs → W p l e { frames := 7, cells := 0, slots := 0, locals := 170 } s m ([.ref r, .int y1, .int y2] : List Value).toArray below meth c H locs 0 0 (MQ below (ht_Q D s0 (fun vv h1 z1 => vv = some (.int q.1) ∧ h1 = mm_h dA h0 r M q.2 ∧ z1 = z0)) ([.ref r, .int y1, .int y2] : List Value).toArray s 0 0 (fun q => s0.heap.size ≤ q)) (F0 m 160 ls [.int w0]) := by
    intro ls x1 x2 x3 x4 w0 st H locs hF hl I
    unfold g_inserted_160 at hF
    refine lv_istore hx hb d78_160 hl (by decide) rfl (fun ls hl => ?_)
    have hl : lv_has ls 7 [(5, .int w0), (0, .ref r), (1, .int x1), (2, .int x2), (3, .int x3), (4, .int x4)] := hl
    refine lv_aload_n hx hb d78_162 rfl (lv_at hl 1 rfl) ?_
    refine va_get (D := D) (ci := 2) (v := .ref (M 2)) (C := kR2) (T := kT2) (N := 60) hx hb hts ku2 hown hK (hm_one I.1 mm_hr) 0 rfl rfl 2 (by decide) (hts _ ms_k1318) (fun _ h => h) rfl d78_163 ?_
    refine lv_iconst (v := 1) hx hb d78_166 (by decide) ?_
    obtain ⟨v4, i9, e9, hF⟩ := mm_ld_some hF
    refine va_iald hx hb hK (hm_one I.1 (mm_a2 hM)) 0 0 rfl rfl i9 d78_167 ?_
    refine ms_top (y := v4) e9 ?_
    clear e9 i9
    refine lv_iconst (v := 2) hx hb d78_168 (by decide) ?_
    refine lv_icmp_ne hx hb d78_169 rfl (fun h9 => ?_) (fun h9 => ?_)
    · have hF := (if_neg h9).symm.trans hF
      exact b196 ls x1 x2 x3 x4 w0 st _ _ hF (hl.sub [1, 2, 3, 4, 5, 0] rfl) I
    · have hF := (if_pos h9).symm.trans hF
      refine lv_iload hx hb d78_172 (lv_at hl 5 rfl) ?_
      refine lv_if_lt hx hb d78_174 rfl (fun h9 => ?_) (fun h9 => ?_)
      · have hF := (if_pos h9).symm.trans hF
        exact b196 ls x1 x2 x3 x4 w0 st _ _ hF (hl.sub [1, 2, 3, 4, 5, 0] rfl) I
      · have hF := (if_neg h9).symm.trans hF
        refine lv_aload_n hx hb d78_177 rfl (lv_at hl 1 rfl) ?_
        refine lv_iload hx hb d78_178 (lv_at hl 5 rfl) ?_
        refine lv_iconst (v := 1) hx hb d78_180 (by decide) ?_
        obtain ⟨q19, e9, hF⟩ := mm_bd hF
        refine ht_V (C := "MarkupStoreModel") (rest := []) (as := [.int x4, .int 1]) X hl (cm_f l D dA s0 hE h0 r M hM z0 x4 1 st q19 e9) (List.forall_mem_cons.mpr ⟨ms_k1587, List.forall_mem_cons.mpr ⟨ms_k1589, List.forall_mem_cons.mpr ⟨ms_p63, List.forall_mem_cons.mpr ⟨ms_k7, List.forall_mem_cons.mpr ⟨ms_k1590, fun _ h => absurd h List.not_mem_nil⟩⟩⟩⟩⟩) ⟨rfl, by decide +kernel, by decide +kernel, (by decide +kernel : (parseMethodDescriptor "(II)I").map (fun d => d.parameters.length) = some 2)⟩ (hm_recv hK I rfl mm_hr) I ⟨rfl, rfl⟩ ⟨⟨Nat.le_of_ble_eq_true rfl, Nat.le_of_ble_eq_true rfl⟩, Nat.le_of_ble_eq_true rfl, Nat.le_of_ble_eq_true rfl⟩ rfl (Nat.le_of_ble_eq_true rfl) d78_181 (fun vv h1 z1 H locs hR I9 => ?_)
        obtain ⟨e1, e2, e3⟩ := hR
        rw [e2, e3] at I9
        clear I e2 e3 e9
        have I := I9
        clear I9
        subst e1
        refine W.eq (g2 := F0 m 184 ls [.int q19.1]) rfl ?_
        refine lv_iconst (v := 2) hx hb d78_184 (by decide) ?_
        refine lv_icmp_ne hx hb d78_185 rfl (fun h9 => ?_) (fun h9 => ?_)
        · have hF := (if_neg h9).symm.trans hF
          exact b196 ls x1 x2 x3 x4 w0 q19.2 _ _ hF (hl.sub [1, 2, 3, 4, 5, 0] rfl) I
        · have hF := (if_pos h9).symm.trans hF
          refine lv_aload_n hx hb d78_188 rfl (lv_at hl 1 rfl) ?_
          refine lv_iload hx hb d78_189 (lv_at hl 5 rfl) ?_
          refine lv_iconst (v := 1) hx hb d78_191 (by decide) ?_
          obtain ⟨q20, e9, hF⟩ := mm_bd hF
          refine ht_V (C := "MarkupStoreModel") (rest := []) (as := [.int x4, .int 1]) X hl (cm_joined l D dA s0 hE h0 r M hM z0 x4 1 q19.2 q20 e9) (List.forall_mem_cons.mpr ⟨ms_k1631, List.forall_mem_cons.mpr ⟨ms_k1633, List.forall_mem_cons.mpr ⟨ms_p73, List.forall_mem_cons.mpr ⟨ms_k7, List.forall_mem_cons.mpr ⟨ms_k1634, fun _ h => absurd h List.not_mem_nil⟩⟩⟩⟩⟩) ⟨rfl, by decide +kernel, by decide +kernel, (by decide +kernel : (parseMethodDescriptor "(IZ)I").map (fun d => d.parameters.length) = some 2)⟩ (hm_recv hK I rfl mm_hr) I ⟨rfl, rfl⟩ ⟨⟨Nat.le_of_ble_eq_true rfl, Nat.le_of_ble_eq_true rfl⟩, Nat.le_of_ble_eq_true rfl, Nat.le_of_ble_eq_true rfl⟩ rfl (Nat.le_of_ble_eq_true rfl) d78_192 (fun vv h1 z1 H locs hR I9 => ?_)
          obtain ⟨e1, e2, e3⟩ := hR
          rw [e2, e3] at I9
          clear I e2 e3 e9
          have I := I9
          clear I9
          subst e1
          refine W.eq (g2 := F0 m 195 ls [.int q20.1]) rfl ?_
          exact ht_iret X d78_195 I (Nat.le_of_ble_eq_true rfl) (Nat.le_of_ble_eq_true rfl) (mm_fin hF)
  have b121 : ∀ (ls : Array Slot) (x1 : Int32) (x2 : Int32) (x3 : Int32) (w0 : Int32) (st : mT) (H : Heap) (locs : List Loc), g_inserted_121 x1 x2 x3 w0 st = some q → lv_has ls 7 [(0, .ref r), (1, .int x1), (2, .int x2), (3, .int x3)] → hm_I D s0 s (mm_h dA h0 r M st) z0 H locs → W p l e { frames := 7, cells := 0, slots := 0, locals := 170 } s m ([.ref r, .int y1, .int y2] : List Value).toArray below meth c H locs 0 0 (MQ below (ht_Q D s0 (fun vv h1 z1 => vv = some (.int q.1) ∧ h1 = mm_h dA h0 r M q.2 ∧ z1 = z0)) ([.ref r, .int y1, .int y2] : List Value).toArray s 0 0 (fun q => s0.heap.size ≤ q)) (F0 m 121 ls [.int w0]) := by
    intro ls x1 x2 x3 w0 st H locs hF hl I
    unfold g_inserted_121 at hF
    refine lv_istore hx hb d78_121 hl (by decide) rfl (fun ls hl => ?_)
    have hl : lv_has ls 7 [(4, .int w0), (0, .ref r), (1, .int x1), (2, .int x2), (3, .int x3)] := hl
    refine lv_iload_n hx hb d78_123 rfl (lv_at hl 3 rfl) ?_
    refine lv_if_ne hx hb d78_124 rfl (fun h9 => ?_) (fun h9 => ?_)
    · have hF := (if_neg h9).symm.trans hF
      refine lv_iload_n hx hb d78_131 rfl (lv_at hl 3 rfl) ?_
      refine lv_iconst (v := 1) hx hb d78_132 (by decide) ?_
      refine lv_icmp_ne hx hb d78_133 rfl (fun h9 => ?_) (fun h9 => ?_)
      · have hF := (if_neg h9).symm.trans hF
        refine lv_iload_n hx hb d78_145 rfl (lv_at hl 3 rfl) ?_
        refine lv_iconst (v := 2) hx hb d78_146 (by decide) ?_
        refine lv_icmp_ne hx hb d78_147 rfl (fun h9 => ?_) (fun h9 => ?_)
        · have hF := (if_neg h9).symm.trans hF
          refine lv_iconst (v := (-1)) hx hb d78_159 (by decide) ?_
          exact b160 ls x1 x2 x3 w0 (-1) st _ _ hF (hl.sub [1, 2, 3, 4, 0] rfl) I
        · have hF := (if_pos h9).symm.trans hF
          refine lv_aload_n hx hb d78_150 rfl (lv_at hl 1 rfl) ?_
          refine lv_iload_n hx hb d78_151 rfl (lv_at hl 2 rfl) ?_
          refine lv_iconst (v := 1) hx hb d78_152 (by decide) ?_
          obtain ⟨q21, e9, hF⟩ := mm_bd hF
          refine ht_V (C := "MarkupStoreModel") (rest := []) (as := [.int x1, .int 1]) X hl (cm_child l D dA s0 hE h0 r M hM z0 x1 1 st q21 e9) (List.forall_mem_cons.mpr ⟨ms_k1627, List.forall_mem_cons.mpr ⟨ms_k1629, List.forall_mem_cons.mpr ⟨ms_p72, List.forall_mem_cons.mpr ⟨ms_k7, List.forall_mem_cons.mpr ⟨ms_k1630, fun _ h => absurd h List.not_mem_nil⟩⟩⟩⟩⟩) ⟨rfl, by decide +kernel, by decide +kernel, (by decide +kernel : (parseMethodDescriptor "(II)I").map (fun d => d.parameters.length) = some 2)⟩ (hm_recv hK I rfl mm_hr) I ⟨rfl, rfl⟩ ⟨⟨Nat.le_of_ble_eq_true rfl, Nat.le_of_ble_eq_true rfl⟩, Nat.le_of_ble_eq_true rfl, Nat.le_of_ble_eq_true rfl⟩ rfl (Nat.le_of_ble_eq_true rfl) d78_153 (fun vv h1 z1 H locs hR I9 => ?_)
          obtain ⟨e1, e2, e3⟩ := hR
          rw [e2, e3] at I9
          clear I e2 e3 e9
          have I := I9
          clear I9
          subst e1
          refine W.eq (g2 := F0 m 156 ls [.int q21.1]) rfl ?_
          refine lv_goto hx hb d78_156 rfl ?_
          exact b160 ls x1 x2 x3 w0 q21.1 q21.2 _ _ hF (hl.sub [1, 2, 3, 4, 0] rfl) I
      · have hF := (if_pos h9).symm.trans hF
        refine lv_aload_n hx hb d78_136 rfl (lv_at hl 1 rfl) ?_
        refine lv_iload_n hx hb d78_137 rfl (lv_at hl 2 rfl) ?_
        refine lv_iconst (v := 1) hx hb d78_138 (by decide) ?_
        obtain ⟨q22, e9, hF⟩ := mm_bd hF
        refine ht_V (C := "MarkupStoreModel") (rest := []) (as := [.int x1, .int 1]) X hl (cm_sibling l D dA s0 hE h0 r M hM z0 x1 1 st q22 e9) (List.forall_mem_cons.mpr ⟨ms_k1619, List.forall_mem_cons.mpr ⟨ms_k1621, List.forall_mem_cons.mpr ⟨ms_p70, List.forall_mem_cons.mpr ⟨ms_k7, List.forall_mem_cons.mpr ⟨ms_k1622, fun _ h => absurd h List.not_mem_nil⟩⟩⟩⟩⟩) ⟨rfl, by decide +kernel, by decide +kernel, (by decide +kernel : (parseMethodDescriptor "(II)I").map (fun d => d.parameters.length) = some 2)⟩ (hm_recv hK I rfl mm_hr) I ⟨rfl, rfl⟩ ⟨⟨Nat.le_of_ble_eq_true rfl, Nat.le_of_ble_eq_true rfl⟩, Nat.le_of_ble_eq_true rfl, Nat.le_of_ble_eq_true rfl⟩ rfl (Nat.le_of_ble_eq_true rfl) d78_139 (fun vv h1 z1 H locs hR I9 => ?_)
        obtain ⟨e1, e2, e3⟩ := hR
        rw [e2, e3] at I9
        clear I e2 e3 e9
        have I := I9
        clear I9
        subst e1
        refine W.eq (g2 := F0 m 142 ls [.int q22.1]) rfl ?_
        refine lv_goto hx hb d78_142 rfl ?_
        exact b160 ls x1 x2 x3 w0 q22.1 q22.2 _ _ hF (hl.sub [1, 2, 3, 4, 0] rfl) I
    · have hF := (if_pos h9).symm.trans hF
      refine lv_iload_n hx hb d78_127 rfl (lv_at hl 2 rfl) ?_
      refine lv_goto hx hb d78_128 rfl ?_
      exact b160 ls x1 x2 x3 w0 x1 st _ _ hF (hl.sub [1, 2, 3, 4, 0] rfl) I
  have b57 : ∀ (ls : Array Slot) (x1 : Int32) (x2 : Int32) (w0 : Int32) (st : mT) (H : Heap) (locs : List Loc), g_inserted_57 x1 x2 w0 st = some q → lv_has ls 7 [(0, .ref r), (1, .int x1), (2, .int x2)] → hm_I D s0 s (mm_h dA h0 r M st) z0 H locs → W p l e { frames := 7, cells := 0, slots := 0, locals := 170 } s m ([.ref r, .int y1, .int y2] : List Value).toArray below meth c H locs 0 0 (MQ below (ht_Q D s0 (fun vv h1 z1 => vv = some (.int q.1) ∧ h1 = mm_h dA h0 r M q.2 ∧ z1 = z0)) ([.ref r, .int y1, .int y2] : List Value).toArray s 0 0 (fun q => s0.heap.size ≤ q)) (F0 m 57 ls [.int w0]) := by
    intro ls x1 x2 w0 st H locs hF hl I
    unfold g_inserted_57 at hF
    refine lv_istore_n hx hb d78_57 rfl hl (by decide) rfl (fun ls hl => ?_)
    have hl : lv_has ls 7 [(3, .int w0), (0, .ref r), (1, .int x1), (2, .int x2)] := hl
    refine lv_aload_n hx hb d78_58 rfl (lv_at hl 1 rfl) ?_
    refine lv_iconst (v := 0) hx hb d78_59 (by decide) ?_
    refine lv_aload_n hx hb d78_60 rfl (lv_at hl 1 rfl) ?_
    refine lv_iload_n hx hb d78_61 rfl (lv_at hl 0 rfl) ?_
    obtain ⟨q1, e9, hF⟩ := mm_bd hF
    refine ht_V (C := "MarkupStoreModel") (rest := [.int 0, .ref r]) (as := [.int w0]) X hl (cm_depth l D dA s0 hE h0 r M hM z0 w0 st q1 e9) (List.forall_mem_cons.mpr ⟨ms_k1615, List.forall_mem_cons.mpr ⟨ms_k1617, List.forall_mem_cons.mpr ⟨ms_p69, List.forall_mem_cons.mpr ⟨ms_k7, List.forall_mem_cons.mpr ⟨ms_k1618, fun _ h => absurd h List.not_mem_nil⟩⟩⟩⟩⟩) ⟨rfl, by decide +kernel, by decide +kernel, (by decide +kernel : (parseMethodDescriptor "(I)I").map (fun d => d.parameters.length) = some 1)⟩ (hm_recv hK I rfl mm_hr) I ⟨rfl, rfl⟩ ⟨⟨Nat.le_of_ble_eq_true rfl, Nat.le_of_ble_eq_true rfl⟩, Nat.le_of_ble_eq_true rfl, Nat.le_of_ble_eq_true rfl⟩ rfl (Nat.le_of_ble_eq_true rfl) d78_62 (fun vv h1 z1 H locs hR I9 => ?_)
    obtain ⟨e1, e2, e3⟩ := hR
    rw [e2, e3] at I9
    clear I e2 e3 e9
    have I := I9
    clear I9
    subst e1
    refine W.eq (g2 := F0 m 65 ls [.int q1.1, .int 0, .ref r]) rfl ?_
    refine lv_iconst (v := 1) hx hb d78_65 (by decide) ?_
    refine lv_iadd hx hb d78_66 ?_
    obtain ⟨q2, e9, hF⟩ := mm_bd hF
    refine ht_V (C := "MarkupStoreModel") (rest := []) (as := [.int 0, .int (q1.1 + 1)]) X hl (cm_parse l D dA s0 hE h0 r M hM z0 0 (q1.1 + 1) q1.2 q2 e9) (List.forall_mem_cons.mpr ⟨ms_k1512, List.forall_mem_cons.mpr ⟨ms_k1514, List.forall_mem_cons.mpr ⟨ms_p45, List.forall_mem_cons.mpr ⟨ms_k7, List.forall_mem_cons.mpr ⟨ms_k1515, fun _ h => absurd h List.not_mem_nil⟩⟩⟩⟩⟩) ⟨rfl, by decide +kernel, by decide +kernel, (by decide +kernel : (parseMethodDescriptor "(ZI)V").map (fun d => d.parameters.length) = some 2)⟩ (hm_recv hK I rfl mm_hr) I ⟨rfl, rfl⟩ ⟨⟨Nat.le_of_ble_eq_true rfl, Nat.le_of_ble_eq_true rfl⟩, Nat.le_of_ble_eq_true rfl, Nat.le_of_ble_eq_true rfl⟩ rfl (Nat.le_of_ble_eq_true rfl) d78_67 (fun vv h1 z1 H locs hR I9 => ?_)
    obtain ⟨e1, e2, e3⟩ := hR
    rw [e2, e3] at I9
    clear I e2 e3 e9
    have I := I9
    clear I9
    subst e1
    refine W.eq (g2 := F0 m 70 ls []) rfl ?_
    refine lv_aload_n hx hb d78_70 rfl (lv_at hl 1 rfl) ?_
    refine va_get (D := D) (ci := 2) (v := .int (q2.1 9)) (C := kR2) (T := kT2) (N := 60) hx hb hts ku2 hown hK (hm_one I.1 mm_hr) 0 rfl rfl 9 (by decide) (hts _ ms_k1325) (fun _ h => h) rfl d78_71 ?_
    refine lv_if_lt hx hb d78_74 rfl (fun h9 => ?_) (fun h9 => ?_)
    · have hF := (if_pos h9).symm.trans hF
      refine lv_iload_n hx hb d78_84 rfl (lv_at hl 3 rfl) ?_
      refine lv_if_ne hx hb d78_85 rfl (fun h9 => ?_) (fun h9 => ?_)
      · have hF := (if_neg h9).symm.trans hF
        refine lv_iload_n hx hb d78_97 rfl (lv_at hl 3 rfl) ?_
        refine lv_iconst (v := 1) hx hb d78_98 (by decide) ?_
        refine lv_icmp_ne hx hb d78_99 rfl (fun h9 => ?_) (fun h9 => ?_)
        · have hF := (if_neg h9).symm.trans hF
          refine lv_iload_n hx hb d78_106 rfl (lv_at hl 3 rfl) ?_
          refine lv_iconst (v := 2) hx hb d78_107 (by decide) ?_
          refine lv_icmp_ne hx hb d78_108 rfl (fun h9 => ?_) (fun h9 => ?_)
          · have hF := (if_neg h9).symm.trans hF
            refine lv_aload_n hx hb d78_115 rfl (lv_at hl 1 rfl) ?_
            refine lv_iload_n hx hb d78_116 rfl (lv_at hl 2 rfl) ?_
            refine lv_iconst (v := (-1)) hx hb d78_117 (by decide) ?_
            obtain ⟨q3, e9, hF⟩ := mm_bd hF
            refine ht_V (C := "MarkupStoreModel") (rest := []) (as := [.int x1, .int (-1)]) X hl (cm_child l D dA s0 hE h0 r M hM z0 x1 (-1) q2 q3 e9) (List.forall_mem_cons.mpr ⟨ms_k1627, List.forall_mem_cons.mpr ⟨ms_k1629, List.forall_mem_cons.mpr ⟨ms_p72, List.forall_mem_cons.mpr ⟨ms_k7, List.forall_mem_cons.mpr ⟨ms_k1630, fun _ h => absurd h List.not_mem_nil⟩⟩⟩⟩⟩) ⟨rfl, by decide +kernel, by decide +kernel, (by decide +kernel : (parseMethodDescriptor "(II)I").map (fun d => d.parameters.length) = some 2)⟩ (hm_recv hK I rfl mm_hr) I ⟨rfl, rfl⟩ ⟨⟨Nat.le_of_ble_eq_true rfl, Nat.le_of_ble_eq_true rfl⟩, Nat.le_of_ble_eq_true rfl, Nat.le_of_ble_eq_true rfl⟩ rfl (Nat.le_of_ble_eq_true rfl) d78_118 (fun vv h1 z1 H locs hR I9 => ?_)
            obtain ⟨e1, e2, e3⟩ := hR
            rw [e2, e3] at I9
            clear I e2 e3 e9
            have I := I9
            clear I9
            subst e1
            refine W.eq (g2 := F0 m 121 ls [.int q3.1]) rfl ?_
            exact b121 ls x1 x2 w0 q3.1 q3.2 _ _ hF (hl.sub [1, 2, 3, 0] rfl) I
          · have hF := (if_pos h9).symm.trans hF
            refine lv_iconst (v := (-1)) hx hb d78_111 (by decide) ?_
            refine lv_goto hx hb d78_112 rfl ?_
            exact b121 ls x1 x2 w0 (-1) q2 _ _ hF (hl.sub [1, 2, 3, 0] rfl) I
        · have hF := (if_pos h9).symm.trans hF
          refine lv_iload_n hx hb d78_102 rfl (lv_at hl 2 rfl) ?_
          refine lv_goto hx hb d78_103 rfl ?_
          exact b121 ls x1 x2 w0 x1 q2 _ _ hF (hl.sub [1, 2, 3, 0] rfl) I
      · have hF := (if_pos h9).symm.trans hF
        refine lv_aload_n hx hb d78_88 rfl (lv_at hl 1 rfl) ?_
        refine lv_iload_n hx hb d78_89 rfl (lv_at hl 2 rfl) ?_
        refine lv_iconst (v := (-1)) hx hb d78_90 (by decide) ?_
        obtain ⟨q23, e9, hF⟩ := mm_bd hF
        refine ht_V (C := "MarkupStoreModel") (rest := []) (as := [.int x1, .int (-1)]) X hl (cm_sibling l D dA s0 hE h0 r M hM z0 x1 (-1) q2 q23 e9) (List.forall_mem_cons.mpr ⟨ms_k1619, List.forall_mem_cons.mpr ⟨ms_k1621, List.forall_mem_cons.mpr ⟨ms_p70, List.forall_mem_cons.mpr ⟨ms_k7, List.forall_mem_cons.mpr ⟨ms_k1622, fun _ h => absurd h List.not_mem_nil⟩⟩⟩⟩⟩) ⟨rfl, by decide +kernel, by decide +kernel, (by decide +kernel : (parseMethodDescriptor "(II)I").map (fun d => d.parameters.length) = some 2)⟩ (hm_recv hK I rfl mm_hr) I ⟨rfl, rfl⟩ ⟨⟨Nat.le_of_ble_eq_true rfl, Nat.le_of_ble_eq_true rfl⟩, Nat.le_of_ble_eq_true rfl, Nat.le_of_ble_eq_true rfl⟩ rfl (Nat.le_of_ble_eq_true rfl) d78_91 (fun vv h1 z1 H locs hR I9 => ?_)
        obtain ⟨e1, e2, e3⟩ := hR
        rw [e2, e3] at I9
        clear I e2 e3 e9
        have I := I9
        clear I9
        subst e1
        refine W.eq (g2 := F0 m 94 ls [.int q23.1]) rfl ?_
        refine lv_goto hx hb d78_94 rfl ?_
        exact b121 ls x1 x2 w0 q23.1 q23.2 _ _ hF (hl.sub [1, 2, 3, 0] rfl) I
    · have hF := (if_neg h9).symm.trans hF
      refine lv_iconst (v := (-1)) hx hb d78_77 (by decide) ?_
      refine lv_aload_n hx hb d78_78 rfl (lv_at hl 1 rfl) ?_
      refine va_get (D := D) (ci := 2) (v := .int (q2.1 9)) (C := kR2) (T := kT2) (N := 60) hx hb hts ku2 hown hK (hm_one I.1 mm_hr) 0 rfl rfl 9 (by decide) (hts _ ms_k1325) (fun _ h => h) rfl d78_79 ?_
      refine lv_isub hx hb d78_82 ?_
      exact ht_iret X d78_83 I (Nat.le_of_ble_eq_true rfl) (Nat.le_of_ble_eq_true rfl) (mm_fin hF)
  have b42 : ∀ (ls : Array Slot) (x1 : Int32) (x2 : Int32) (st : mT) (H : Heap) (locs : List Loc), g_inserted_42 x1 x2 st = some q → lv_has ls 7 [(0, .ref r), (1, .int x1), (2, .int x2)] → hm_I D s0 s (mm_h dA h0 r M st) z0 H locs → W p l e { frames := 7, cells := 0, slots := 0, locals := 170 } s m ([.ref r, .int y1, .int y2] : List Value).toArray below meth c H locs 0 0 (MQ below (ht_Q D s0 (fun vv h1 z1 => vv = some (.int q.1) ∧ h1 = mm_h dA h0 r M q.2 ∧ z1 = z0)) ([.ref r, .int y1, .int y2] : List Value).toArray s 0 0 (fun q => s0.heap.size ≤ q)) (F0 m 42 ls []) := by
    intro ls x1 x2 st H locs hF hl I
    unfold g_inserted_42 at hF
    refine lv_iload_n hx hb d78_42 rfl (lv_at hl 2 rfl) ?_
    refine lv_iconst (v := 2) hx hb d78_43 (by decide) ?_
    refine lv_icmp_ge hx hb d78_44 rfl (fun h9 => ?_) (fun h9 => ?_)
    · have hF := (if_pos h9).symm.trans hF
      refine lv_iload_n hx hb d78_56 rfl (lv_at hl 1 rfl) ?_
      exact b57 ls x1 x2 x1 st _ _ hF (hl.sub [0, 1, 2] rfl) I
    · have hF := (if_neg h9).symm.trans hF
      refine lv_aload_n hx hb d78_47 rfl (lv_at hl 0 rfl) ?_
      refine lv_iload_n hx hb d78_48 rfl (lv_at hl 1 rfl) ?_
      refine lv_iconst (v := 2) hx hb d78_49 (by decide) ?_
      obtain ⟨q24, e9, hF⟩ := mm_bd hF
      refine ht_V (C := "MarkupStoreModel") (rest := []) (as := [.int x1, .int 2]) X hl (cm_f l D dA s0 hE h0 r M hM z0 x1 2 st q24 e9) (List.forall_mem_cons.mpr ⟨ms_k1587, List.forall_mem_cons.mpr ⟨ms_k1589, List.forall_mem_cons.mpr ⟨ms_p63, List.forall_mem_cons.mpr ⟨ms_k7, List.forall_mem_cons.mpr ⟨ms_k1590, fun _ h => absurd h List.not_mem_nil⟩⟩⟩⟩⟩) ⟨rfl, by decide +kernel, by decide +kernel, (by decide +kernel : (parseMethodDescriptor "(II)I").map (fun d => d.parameters.length) = some 2)⟩ (hm_recv hK I rfl mm_hr) I ⟨rfl, rfl⟩ ⟨⟨Nat.le_of_ble_eq_true rfl, Nat.le_of_ble_eq_true rfl⟩, Nat.le_of_ble_eq_true rfl, Nat.le_of_ble_eq_true rfl⟩ rfl (Nat.le_of_ble_eq_true rfl) d78_50 (fun vv h1 z1 H locs hR I9 => ?_)
      obtain ⟨e1, e2, e3⟩ := hR
      rw [e2, e3] at I9
      clear I e2 e3 e9
      have I := I9
      clear I9
      subst e1
      refine W.eq (g2 := F0 m 53 ls [.int q24.1]) rfl ?_
      refine lv_goto hx hb d78_53 rfl ?_
      exact b57 ls x1 x2 q24.1 q24.2 _ _ hF (hl.sub [0, 1, 2] rfl) I
  have b23 : ∀ (ls : Array Slot) (x1 : Int32) (x2 : Int32) (st : mT) (H : Heap) (locs : List Loc), g_inserted_23 x1 x2 st = some q → lv_has ls 7 [(0, .ref r), (1, .int x1), (2, .int x2)] → hm_I D s0 s (mm_h dA h0 r M st) z0 H locs → W p l e { frames := 7, cells := 0, slots := 0, locals := 170 } s m ([.ref r, .int y1, .int y2] : List Value).toArray below meth c H locs 0 0 (MQ below (ht_Q D s0 (fun vv h1 z1 => vv = some (.int q.1) ∧ h1 = mm_h dA h0 r M q.2 ∧ z1 = z0)) ([.ref r, .int y1, .int y2] : List Value).toArray s 0 0 (fun q => s0.heap.size ≤ q)) (F0 m 23 ls []) := by
    intro ls x1 x2 st H locs hF hl I
    unfold g_inserted_23 at hF
    refine lv_iload_n hx hb d78_23 rfl (lv_at hl 2 rfl) ?_
    refine lv_iconst (v := 1) hx hb d78_24 (by decide) ?_
    refine lv_icmp_le hx hb d78_25 rfl (fun h9 => ?_) (fun h9 => ?_)
    · have hF := (if_pos h9).symm.trans hF
      exact b42 ls x1 x2 st _ _ hF (hl.sub [0, 1, 2] rfl) I
    · have hF := (if_neg h9).symm.trans hF
      refine lv_aload_n hx hb d78_28 rfl (lv_at hl 0 rfl) ?_
      refine lv_iload_n hx hb d78_29 rfl (lv_at hl 1 rfl) ?_
      refine lv_iconst (v := 1) hx hb d78_30 (by decide) ?_
      obtain ⟨q25, e9, hF⟩ := mm_bd hF
      refine ht_V (C := "MarkupStoreModel") (rest := []) (as := [.int x1, .int 1]) X hl (cm_f l D dA s0 hE h0 r M hM z0 x1 1 st q25 e9) (List.forall_mem_cons.mpr ⟨ms_k1587, List.forall_mem_cons.mpr ⟨ms_k1589, List.forall_mem_cons.mpr ⟨ms_p63, List.forall_mem_cons.mpr ⟨ms_k7, List.forall_mem_cons.mpr ⟨ms_k1590, fun _ h => absurd h List.not_mem_nil⟩⟩⟩⟩⟩) ⟨rfl, by decide +kernel, by decide +kernel, (by decide +kernel : (parseMethodDescriptor "(II)I").map (fun d => d.parameters.length) = some 2)⟩ (hm_recv hK I rfl mm_hr) I ⟨rfl, rfl⟩ ⟨⟨Nat.le_of_ble_eq_true rfl, Nat.le_of_ble_eq_true rfl⟩, Nat.le_of_ble_eq_true rfl, Nat.le_of_ble_eq_true rfl⟩ rfl (Nat.le_of_ble_eq_true rfl) d78_31 (fun vv h1 z1 H locs hR I9 => ?_)
      obtain ⟨e1, e2, e3⟩ := hR
      rw [e2, e3] at I9
      clear I e2 e3 e9
      have I := I9
      clear I9
      subst e1
      refine W.eq (g2 := F0 m 34 ls [.int q25.1]) rfl ?_
      refine lv_iconst (v := 1) hx hb d78_34 (by decide) ?_
      refine lv_icmp_eq hx hb d78_35 rfl (fun h9 => ?_) (fun h9 => ?_)
      · have hF := (if_pos h9).symm.trans hF
        exact b42 ls x1 x2 q25.2 _ _ hF (hl.sub [0, 1, 2] rfl) I
      · have hF := (if_neg h9).symm.trans hF
        exact b38 ls q25.2 _ _ hF (hl.sub [] rfl) I
  have hF := hg
  unfold g_inserted at hF
  refine lv_iload_n hx hb d78_0 rfl (lv_at hl 2 rfl) ?_
  refine lv_if_lt hx hb d78_1 rfl (fun h9 => ?_) (fun h9 => ?_)
  · have hF := (if_pos h9).symm.trans hF
    exact b38 ls st _ _ hF (hl.sub [] rfl) I
  · have hF := (if_neg h9).symm.trans hF
    refine lv_iload_n hx hb d78_4 rfl (lv_at hl 2 rfl) ?_
    refine lv_iconst (v := 3) hx hb d78_5 (by decide) ?_
    refine lv_icmp_gt hx hb d78_6 rfl (fun h9 => ?_) (fun h9 => ?_)
    · have hF := (if_pos h9).symm.trans hF
      exact b38 ls st _ _ hF (hl.sub [] rfl) I
    · have hF := (if_neg h9).symm.trans hF
      refine lv_iload_n hx hb d78_9 rfl (lv_at hl 2 rfl) ?_
      refine lv_iconst (v := 2) hx hb d78_10 (by decide) ?_
      refine lv_icmp_ge hx hb d78_11 rfl (fun h9 => ?_) (fun h9 => ?_)
      · have hF := (if_pos h9).symm.trans hF
        exact b23 ls y1 y2 st _ _ hF (hl.sub [0, 1, 2] rfl) I
      · have hF := (if_neg h9).symm.trans hF
        refine lv_aload_n hx hb d78_14 rfl (lv_at hl 0 rfl) ?_
        refine lv_iload_n hx hb d78_15 rfl (lv_at hl 1 rfl) ?_
        refine lv_iconst (v := 2) hx hb d78_16 (by decide) ?_
        obtain ⟨q26, e9, hF⟩ := mm_bd hF
        refine ht_V (C := "MarkupStoreModel") (rest := []) (as := [.int y1, .int 2]) X hl (cm_f l D dA s0 hE h0 r M hM z0 y1 2 st q26 e9) (List.forall_mem_cons.mpr ⟨ms_k1587, List.forall_mem_cons.mpr ⟨ms_k1589, List.forall_mem_cons.mpr ⟨ms_p63, List.forall_mem_cons.mpr ⟨ms_k7, List.forall_mem_cons.mpr ⟨ms_k1590, fun _ h => absurd h List.not_mem_nil⟩⟩⟩⟩⟩) ⟨rfl, by decide +kernel, by decide +kernel, (by decide +kernel : (parseMethodDescriptor "(II)I").map (fun d => d.parameters.length) = some 2)⟩ (hm_recv hK I rfl mm_hr) I ⟨rfl, rfl⟩ ⟨⟨Nat.le_of_ble_eq_true rfl, Nat.le_of_ble_eq_true rfl⟩, Nat.le_of_ble_eq_true rfl, Nat.le_of_ble_eq_true rfl⟩ rfl (Nat.le_of_ble_eq_true rfl) d78_17 (fun vv h1 z1 H locs hR I9 => ?_)
        obtain ⟨e1, e2, e3⟩ := hR
        rw [e2, e3] at I9
        clear I e2 e3 e9
        have I := I9
        clear I9
        subst e1
        refine W.eq (g2 := F0 m 20 ls [.int q26.1]) rfl ?_
        refine lv_if_lt hx hb d78_20 rfl (fun h9 => ?_) (fun h9 => ?_)
        · have hF := (if_pos h9).symm.trans hF
          exact b38 ls q26.2 _ _ hF (hl.sub [] rfl) I
        · have hF := (if_neg h9).symm.trans hF
          exact b23 ls y1 y2 q26.2 _ _ hF (hl.sub [0, 1, 2] rfl) I

def g_insert_22 (w0 : Int32) (st : mT) : Option (Int32 × mT) := (mm_lt (mm_F st 7 0) (fun st3 => (some (w0, st3))))
def g_insert (y1 : Int32) (y2 : Int32) (st : mT) : Option (Int32 × mT) := ((g_place y1 st).bind (fun q1 => (if 0 ≤ q1.1 then ((g_inserted q1.1 y2 q1.2).bind (fun q2 => (g_insert_22 q2.1 q2.2))) else (g_insert_22 (-1000) q1.2))))
set_option maxRecDepth 100000 in
set_option maxHeartbeats 8000000 in
theorem cm_insert (l : Launch) (D : va_G) (dA : Nat → ClassId) (s0 : State) (hE : ms_EV D dA s0) (h0 : hm_T) (r : Nat) (M : Nat → Nat) (hM : mm_ok r M) (z0 : hz_T) (y1 : Int32) (y2 : Int32) (st : mT) (q : Int32 × mT) (hg : g_insert y1 y2 st = some q) : ht_C l D s0 yM79 bM79 5 (Option.some Jvm.ClassFile.FieldType.int) 8 196 0 0 [.ref r, .int y1, .int y2] (fun h z => h = mm_h dA h0 r M st ∧ z = z0) (fun h z vv h1 z1 => vv = some (.int q.1) ∧ h1 = mm_h dA h0 r M q.2 ∧ z1 = z0) := by
  refine ht_C.mk hE.1 (by decide) (Nat.le_of_ble_eq_true rfl) [(0, .ref r), (1, .int y1), (2, .int y2)] rfl ?_
  intro p e s m below meth c ls h z X hin hpre I hl
  have hx := X.1
  have hb := X.2.1
  have hml := X.2.2.1
  have hown : s.vm.findClass "MarkupStoreModel" = some m.cls := X.2.2.2.1
  have hts := X.2.2.2.2.2.2.1
  have hK := X.2.2.2.2.2.2.2.2.1
  rw [hpre.1, hpre.2] at I
  clear hpre
  have b22 : ∀ (ls : Array Slot) (w0 : Int32) (st : mT) (H : Heap) (locs : List Loc), g_insert_22 w0 st = some q → lv_has ls 5 [(0, .ref r)] → hm_I D s0 s (mm_h dA h0 r M st) z0 H locs → W p l e { frames := 8, cells := 0, slots := 0, locals := 196 } s m ([.ref r, .int y1, .int y2] : List Value).toArray below meth c H locs 0 0 (MQ below (ht_Q D s0 (fun vv h1 z1 => vv = some (.int q.1) ∧ h1 = mm_h dA h0 r M q.2 ∧ z1 = z0)) ([.ref r, .int y1, .int y2] : List Value).toArray s 0 0 (fun q => s0.heap.size ≤ q)) (F0 m 22 ls [.int w0]) := by
    intro ls w0 st H locs hF hl I
    unfold g_insert_22 at hF
    refine lv_istore hx hb d79_22 hl (by decide) rfl (fun ls hl => ?_)
    have hl : lv_has ls 5 [(4, .int w0), (0, .ref r)] := hl
    refine lv_aload_n hx hb d79_24 rfl (lv_at hl 1 rfl) ?_
    refine lv_iconst (v := 0) hx hb d79_25 (by decide) ?_
    obtain ⟨st3, e9, hF⟩ := mm_lt_some hF
    refine mm_put (k := 7) (ty := .int) X I (by decide) ms_k1323 rfl rfl (by decide +kernel) ⟨rfl, rfl⟩ rfl e9 d79_26 (fun H locs I => ?_)
    clear e9
    refine lv_iload hx hb d79_29 (lv_at hl 0 rfl) ?_
    exact ht_iret X d79_31 I (Nat.le_of_ble_eq_true rfl) (Nat.le_of_ble_eq_true rfl) (mm_fin hF)
  have hF := hg
  unfold g_insert at hF
  refine lv_aload_n hx hb d79_0 rfl (lv_at hl 0 rfl) ?_
  refine lv_iload_n hx hb d79_1 rfl (lv_at hl 1 rfl) ?_
  obtain ⟨q1, e9, hF⟩ := mm_bd hF
  refine ht_V (C := "MarkupStoreModel") (rest := []) (as := [.int y1]) X hl (cm_place l D dA s0 hE h0 r M hM z0 y1 st q1 e9) (List.forall_mem_cons.mpr ⟨ms_k1603, List.forall_mem_cons.mpr ⟨ms_k1605, List.forall_mem_cons.mpr ⟨ms_p66, List.forall_mem_cons.mpr ⟨ms_k7, List.forall_mem_cons.mpr ⟨ms_k1606, fun _ h => absurd h List.not_mem_nil⟩⟩⟩⟩⟩) ⟨rfl, by decide +kernel, by decide +kernel, (by decide +kernel : (parseMethodDescriptor "(I)I").map (fun d => d.parameters.length) = some 1)⟩ (hm_recv hK I rfl mm_hr) I ⟨rfl, rfl⟩ ⟨⟨Nat.le_of_ble_eq_true rfl, Nat.le_of_ble_eq_true rfl⟩, Nat.le_of_ble_eq_true rfl, Nat.le_of_ble_eq_true rfl⟩ rfl (Nat.le_of_ble_eq_true rfl) d79_2 (fun vv h1 z1 H locs hR I9 => ?_)
  obtain ⟨e1, e2, e3⟩ := hR
  rw [e2, e3] at I9
  clear I e2 e3 e9
  have I := I9
  clear I9
  subst e1
  refine W.eq (g2 := F0 m 5 ls [.int q1.1]) rfl ?_
  refine lv_istore_n hx hb d79_5 rfl hl (by decide) rfl (fun ls hl => ?_)
  have hl : lv_has ls 5 [(3, .int q1.1), (0, .ref r), (1, .int y1), (2, .int y2)] := hl
  refine lv_iload_n hx hb d79_6 rfl (lv_at hl 0 rfl) ?_
  refine lv_if_ge hx hb d79_7 rfl (fun h9 => ?_) (fun h9 => ?_)
  · have hF := (if_pos h9).symm.trans hF
    refine lv_aload_n hx hb d79_16 rfl (lv_at hl 1 rfl) ?_
    refine lv_iload_n hx hb d79_17 rfl (lv_at hl 0 rfl) ?_
    refine lv_iload_n hx hb d79_18 rfl (lv_at hl 3 rfl) ?_
    obtain ⟨q2, e9, hF⟩ := mm_bd hF
    refine ht_V (C := "MarkupStoreModel") (rest := []) (as := [.int q1.1, .int y2]) X hl (cm_inserted l D dA s0 hE h0 r M hM z0 q1.1 y2 q1.2 q2 e9) (List.forall_mem_cons.mpr ⟨ms_k1611, List.forall_mem_cons.mpr ⟨ms_k1613, List.forall_mem_cons.mpr ⟨ms_p68, List.forall_mem_cons.mpr ⟨ms_k7, List.forall_mem_cons.mpr ⟨ms_k1614, fun _ h => absurd h List.not_mem_nil⟩⟩⟩⟩⟩) ⟨rfl, by decide +kernel, by decide +kernel, (by decide +kernel : (parseMethodDescriptor "(II)I").map (fun d => d.parameters.length) = some 2)⟩ (hm_recv hK I rfl mm_hr) I ⟨rfl, rfl⟩ ⟨⟨Nat.le_of_ble_eq_true rfl, Nat.le_of_ble_eq_true rfl⟩, Nat.le_of_ble_eq_true rfl, Nat.le_of_ble_eq_true rfl⟩ rfl (Nat.le_of_ble_eq_true rfl) d79_19 (fun vv h1 z1 H locs hR I9 => ?_)
    obtain ⟨e1, e2, e3⟩ := hR
    rw [e2, e3] at I9
    clear I e2 e3 e9
    have I := I9
    clear I9
    subst e1
    refine W.eq (g2 := F0 m 22 ls [.int q2.1]) rfl ?_
    exact b22 ls q2.1 q2.2 _ _ hF (hl.sub [1] rfl) I
  · have hF := (if_neg h9).symm.trans hF
    refine lv_sipush (v := (-1000)) hx hb d79_10 (by decide) ?_
    refine lv_goto hx hb d79_13 rfl ?_
    exact b22 ls (-1000) q1.2 _ _ hF (hl.sub [1] rfl) I

def g_drop_26 : Nat → Int32 → Int32 → Int32 → mT → Option (mT)
  | 0, _, _, _, _ => none
  | n9 + 1, x1, x2, x3, st => ((g_count st).bind (fun q1 => (if q1.1 ≤ x3 then ((g_count q1.2).bind (fun q2 => (mm_ix 5161 5160 (fun j4 => mm_lt (mm_G q2.2 0 j4 (q2.1 - (x2 - x1))) (fun st3 => (some st3)))))) else ((g_doc x3 q1.2).bind (fun q5 => (mm_ix 5161 (((5120 + x1) + x3) - x2) (fun j7 => mm_lt (mm_G q5.2 0 j7 q5.1) (fun st6 => ((g_drop_26 n9) x1 x2 (x3 + 1) st6)))))))))
def g_drop_2 : Nat → Int32 → Int32 → Int32 → mT → Option (mT)
  | 0, _, _, _, _ => none
  | n9 + 1, x1, x2, x3, st => (if x2 ≤ x3 then (g_drop_26 mF x1 x2 x2 st) else ((g_doc x3 st).bind (fun q8 => ((g_set q8.1 0 0 q8.2).bind (fun q9 => ((g_drop_2 n9) x1 x2 (x3 + 1) q9))))))
def g_drop (y1 : Int32) (y2 : Int32) (st : mT) : Option (mT) := (g_drop_2 mF y1 y2 y1 st)
set_option maxRecDepth 100000 in
set_option maxHeartbeats 8000000 in
theorem cm_drop (l : Launch) (D : va_G) (dA : Nat → ClassId) (s0 : State) (hE : ms_EV D dA s0) (h0 : hm_T) (r : Nat) (M : Nat → Nat) (hM : mm_ok r M) (z0 : hz_T) (y1 : Int32) (y2 : Int32) (st : mT) (q : mT) (hg : g_drop y1 y2 st = some q) : ht_C l D s0 yM80 bM80 4 (Option.none : Option Jvm.ClassFile.FieldType) 1 23 0 0 [.ref r, .int y1, .int y2] (fun h z => h = mm_h dA h0 r M st ∧ z = z0) (fun h z vv h1 z1 => vv = none ∧ h1 = mm_h dA h0 r M q ∧ z1 = z0) := by
  refine ht_C.mk hE.1 (by decide) (Nat.le_of_ble_eq_true rfl) [(0, .ref r), (1, .int y1), (2, .int y2)] rfl ?_
  intro p e s m below meth c ls h z X hin hpre I hl
  have hx := X.1
  have hb := X.2.1
  have hml := X.2.2.1
  have hown : s.vm.findClass "MarkupStoreModel" = some m.cls := X.2.2.2.1
  have hts := X.2.2.2.2.2.2.1
  have hK := X.2.2.2.2.2.2.2.2.1
  rw [hpre.1, hpre.2] at I
  clear hpre
  have b26 : ∀ n9 : Nat, ∀ (ls : Array Slot) (x1 : Int32) (x2 : Int32) (x3 : Int32) (st : mT) (H : Heap) (locs : List Loc), g_drop_26 n9 x1 x2 x3 st = some q → lv_has ls 4 [(0, .ref r), (1, .int x1), (2, .int x2), (3, .int x3)] → hm_I D s0 s (mm_h dA h0 r M st) z0 H locs → W p l e { frames := 1, cells := 0, slots := 0, locals := 23 } s m ([.ref r, .int y1, .int y2] : List Value).toArray below meth c H locs 0 0 (MQ below (ht_Q D s0 (fun vv h1 z1 => vv = none ∧ h1 = mm_h dA h0 r M q ∧ z1 = z0)) ([.ref r, .int y1, .int y2] : List Value).toArray s 0 0 (fun q => s0.heap.size ≤ q)) (F0 m 26 ls []) := by
    intro n9
    induction n9 with
    | zero => intro ls x1 x2 x3 st H locs hF; cases hF
    | succ n9 hk26 =>
    intro ls x1 x2 x3 st H locs hF hl I
    unfold g_drop_26 at hF
    refine lv_iload_n hx hb d80_26 rfl (lv_at hl 3 rfl) ?_
    refine lv_aload_n hx hb d80_27 rfl (lv_at hl 0 rfl) ?_
    obtain ⟨q1, e9, hF⟩ := mm_bd hF
    refine ht_V (C := "MarkupStoreModel") (rest := [.int x3]) (as := []) X hl (cm_count l D dA s0 hE h0 r M hM z0 st q1 e9) (List.forall_mem_cons.mpr ⟨ms_k1583, List.forall_mem_cons.mpr ⟨ms_k1585, List.forall_mem_cons.mpr ⟨ms_p62, List.forall_mem_cons.mpr ⟨ms_k7, List.forall_mem_cons.mpr ⟨ms_k1586, fun _ h => absurd h List.not_mem_nil⟩⟩⟩⟩⟩) ⟨rfl, by decide +kernel, by decide +kernel, (by decide +kernel : (parseMethodDescriptor "()I").map (fun d => d.parameters.length) = some 0)⟩ (hm_recv hK I rfl mm_hr) I ⟨rfl, rfl⟩ ⟨⟨Nat.le_of_ble_eq_true rfl, Nat.le_of_ble_eq_true rfl⟩, Nat.le_of_ble_eq_true rfl, Nat.le_of_ble_eq_true rfl⟩ rfl (Nat.le_of_ble_eq_true rfl) d80_28 (fun vv h1 z1 H locs hR I9 => ?_)
    obtain ⟨e1, e2, e3⟩ := hR
    rw [e2, e3] at I9
    clear I e2 e3 e9
    have I := I9
    clear I9
    subst e1
    refine W.eq (g2 := F0 m 31 ls [.int q1.1, .int x3]) rfl ?_
    refine lv_icmp_ge hx hb d80_31 rfl (fun h9 => ?_) (fun h9 => ?_)
    · have hF := (if_pos h9).symm.trans hF
      refine lv_aload_n hx hb d80_59 rfl (lv_at hl 0 rfl) ?_
      refine va_get (D := D) (ci := 2) (v := .ref (M 0)) (C := kR2) (T := kT2) (N := 60) hx hb hts ku2 hown hK (hm_one I.1 mm_hr) 0 rfl rfl 0 (by decide) (hts _ ms_k1316) (fun _ h => h) rfl d80_60 ?_
      refine lv_sipush (v := 5160) hx hb d80_63 (by decide) ?_
      refine lv_aload_n hx hb d80_66 rfl (lv_at hl 0 rfl) ?_
      obtain ⟨q2, e9, hF⟩ := mm_bd hF
      refine ht_V (C := "MarkupStoreModel") (rest := [.int 5160, .ref (M 0)]) (as := []) X hl (cm_count l D dA s0 hE h0 r M hM z0 q1.2 q2 e9) (List.forall_mem_cons.mpr ⟨ms_k1583, List.forall_mem_cons.mpr ⟨ms_k1585, List.forall_mem_cons.mpr ⟨ms_p62, List.forall_mem_cons.mpr ⟨ms_k7, List.forall_mem_cons.mpr ⟨ms_k1586, fun _ h => absurd h List.not_mem_nil⟩⟩⟩⟩⟩) ⟨rfl, by decide +kernel, by decide +kernel, (by decide +kernel : (parseMethodDescriptor "()I").map (fun d => d.parameters.length) = some 0)⟩ (hm_recv hK I rfl mm_hr) I ⟨rfl, rfl⟩ ⟨⟨Nat.le_of_ble_eq_true rfl, Nat.le_of_ble_eq_true rfl⟩, Nat.le_of_ble_eq_true rfl, Nat.le_of_ble_eq_true rfl⟩ rfl (Nat.le_of_ble_eq_true rfl) d80_67 (fun vv h1 z1 H locs hR I9 => ?_)
      obtain ⟨e1, e2, e3⟩ := hR
      rw [e2, e3] at I9
      clear I e2 e3 e9
      have I := I9
      clear I9
      subst e1
      refine W.eq (g2 := F0 m 70 ls [.int q2.1, .int 5160, .ref (M 0)]) rfl ?_
      refine lv_iload_n hx hb d80_70 rfl (lv_at hl 2 rfl) ?_
      refine lv_iload_n hx hb d80_71 rfl (lv_at hl 1 rfl) ?_
      refine lv_isub hx hb d80_72 ?_
      refine lv_isub hx hb d80_73 ?_
      obtain ⟨i9, hF⟩ := mm_ix_some hF
      obtain ⟨st3, e9, hF⟩ := mm_lt_some hF
      refine mm_iast (k := 0) X I hM (by decide) 0 (fun _ => rfl) rfl i9 e9 d80_74 (fun H locs I => ?_)
      clear e9 i9
      exact ht_vret X d80_75 I (Nat.le_of_ble_eq_true rfl) (Nat.le_of_ble_eq_true rfl) (mm_finV hF)
    · have hF := (if_neg h9).symm.trans hF
      refine lv_aload_n hx hb d80_34 rfl (lv_at hl 0 rfl) ?_
      refine va_get (D := D) (ci := 2) (v := .ref (M 0)) (C := kR2) (T := kT2) (N := 60) hx hb hts ku2 hown hK (hm_one I.1 mm_hr) 0 rfl rfl 0 (by decide) (hts _ ms_k1316) (fun _ h => h) rfl d80_35 ?_
      refine lv_sipush (v := 5120) hx hb d80_38 (by decide) ?_
      refine lv_iload_n hx hb d80_41 rfl (lv_at hl 1 rfl) ?_
      refine lv_iadd hx hb d80_42 ?_
      refine lv_iload_n hx hb d80_43 rfl (lv_at hl 3 rfl) ?_
      refine lv_iadd hx hb d80_44 ?_
      refine lv_iload_n hx hb d80_45 rfl (lv_at hl 2 rfl) ?_
      refine lv_isub hx hb d80_46 ?_
      refine lv_aload_n hx hb d80_47 rfl (lv_at hl 0 rfl) ?_
      refine lv_iload_n hx hb d80_48 rfl (lv_at hl 3 rfl) ?_
      obtain ⟨q5, e9, hF⟩ := mm_bd hF
      refine ht_V (C := "MarkupStoreModel") (rest := [.int (((5120 + x1) + x3) - x2), .ref (M 0)]) (as := [.int x3]) X hl (cm_doc l D dA s0 hE h0 r M hM z0 x3 q1.2 q5 e9) (List.forall_mem_cons.mpr ⟨ms_k1607, List.forall_mem_cons.mpr ⟨ms_k1609, List.forall_mem_cons.mpr ⟨ms_p67, List.forall_mem_cons.mpr ⟨ms_k7, List.forall_mem_cons.mpr ⟨ms_k1610, fun _ h => absurd h List.not_mem_nil⟩⟩⟩⟩⟩) ⟨rfl, by decide +kernel, by decide +kernel, (by decide +kernel : (parseMethodDescriptor "(I)I").map (fun d => d.parameters.length) = some 1)⟩ (hm_recv hK I rfl mm_hr) I ⟨rfl, rfl⟩ ⟨⟨Nat.le_of_ble_eq_true rfl, Nat.le_of_ble_eq_true rfl⟩, Nat.le_of_ble_eq_true rfl, Nat.le_of_ble_eq_true rfl⟩ rfl (Nat.le_of_ble_eq_true rfl) d80_49 (fun vv h1 z1 H locs hR I9 => ?_)
      obtain ⟨e1, e2, e3⟩ := hR
      rw [e2, e3] at I9
      clear I e2 e3 e9
      have I := I9
      clear I9
      subst e1
      refine W.eq (g2 := F0 m 52 ls [.int q5.1, .int (((5120 + x1) + x3) - x2), .ref (M 0)]) rfl ?_
      obtain ⟨i9, hF⟩ := mm_ix_some hF
      obtain ⟨st6, e9, hF⟩ := mm_lt_some hF
      refine mm_iast (k := 0) X I hM (by decide) 0 (fun _ => rfl) rfl i9 e9 d80_52 (fun H locs I => ?_)
      clear e9 i9
      refine lv_iinc (k := 3) (v := (x3 + 1)) hx hb d80_53 hl rfl (rfl) (by decide) rfl (fun ls hl => ?_)
      have hl : lv_has ls 4 [(3, .int (x3 + 1)), (0, .ref r), (1, .int x1), (2, .int x2)] := hl
      refine lv_goto hx hb d80_56 rfl ?_
      exact hk26 ls x1 x2 (x3 + 1) st6 _ _ hF (hl.sub [1, 2, 3, 0] rfl) I
  have b2 : ∀ n9 : Nat, ∀ (ls : Array Slot) (x1 : Int32) (x2 : Int32) (x3 : Int32) (st : mT) (H : Heap) (locs : List Loc), g_drop_2 n9 x1 x2 x3 st = some q → lv_has ls 4 [(0, .ref r), (1, .int x1), (2, .int x2), (3, .int x3)] → hm_I D s0 s (mm_h dA h0 r M st) z0 H locs → W p l e { frames := 1, cells := 0, slots := 0, locals := 23 } s m ([.ref r, .int y1, .int y2] : List Value).toArray below meth c H locs 0 0 (MQ below (ht_Q D s0 (fun vv h1 z1 => vv = none ∧ h1 = mm_h dA h0 r M q ∧ z1 = z0)) ([.ref r, .int y1, .int y2] : List Value).toArray s 0 0 (fun q => s0.heap.size ≤ q)) (F0 m 2 ls []) := by
    intro n9
    induction n9 with
    | zero => intro ls x1 x2 x3 st H locs hF; cases hF
    | succ n9 hk2 =>
    intro ls x1 x2 x3 st H locs hF hl I
    unfold g_drop_2 at hF
    refine lv_iload_n hx hb d80_2 rfl (lv_at hl 3 rfl) ?_
    refine lv_iload_n hx hb d80_3 rfl (lv_at hl 2 rfl) ?_
    refine lv_icmp_ge hx hb d80_4 rfl (fun h9 => ?_) (fun h9 => ?_)
    · have hF := (if_pos h9).symm.trans hF
      refine lv_iload_n hx hb d80_24 rfl (lv_at hl 2 rfl) ?_
      refine lv_istore_n hx hb d80_25 rfl hl (by decide) rfl (fun ls hl => ?_)
      have hl : lv_has ls 4 [(3, .int x2), (0, .ref r), (1, .int x1), (2, .int x2)] := hl
      exact b26 mF ls x1 x2 x2 st _ _ hF (hl.sub [1, 2, 3, 0] rfl) I
    · have hF := (if_neg h9).symm.trans hF
      refine lv_aload_n hx hb d80_7 rfl (lv_at hl 0 rfl) ?_
      refine lv_aload_n hx hb d80_8 rfl (lv_at hl 0 rfl) ?_
      refine lv_iload_n hx hb d80_9 rfl (lv_at hl 3 rfl) ?_
      obtain ⟨q8, e9, hF⟩ := mm_bd hF
      refine ht_V (C := "MarkupStoreModel") (rest := [.ref r]) (as := [.int x3]) X hl (cm_doc l D dA s0 hE h0 r M hM z0 x3 st q8 e9) (List.forall_mem_cons.mpr ⟨ms_k1607, List.forall_mem_cons.mpr ⟨ms_k1609, List.forall_mem_cons.mpr ⟨ms_p67, List.forall_mem_cons.mpr ⟨ms_k7, List.forall_mem_cons.mpr ⟨ms_k1610, fun _ h => absurd h List.not_mem_nil⟩⟩⟩⟩⟩) ⟨rfl, by decide +kernel, by decide +kernel, (by decide +kernel : (parseMethodDescriptor "(I)I").map (fun d => d.parameters.length) = some 1)⟩ (hm_recv hK I rfl mm_hr) I ⟨rfl, rfl⟩ ⟨⟨Nat.le_of_ble_eq_true rfl, Nat.le_of_ble_eq_true rfl⟩, Nat.le_of_ble_eq_true rfl, Nat.le_of_ble_eq_true rfl⟩ rfl (Nat.le_of_ble_eq_true rfl) d80_10 (fun vv h1 z1 H locs hR I9 => ?_)
      obtain ⟨e1, e2, e3⟩ := hR
      rw [e2, e3] at I9
      clear I e2 e3 e9
      have I := I9
      clear I9
      subst e1
      refine W.eq (g2 := F0 m 13 ls [.int q8.1, .ref r]) rfl ?_
      refine lv_iconst (v := 0) hx hb d80_13 (by decide) ?_
      refine lv_iconst (v := 0) hx hb d80_14 (by decide) ?_
      obtain ⟨q9, e9, hF⟩ := mm_bd hF
      refine ht_V (C := "MarkupStoreModel") (rest := []) (as := [.int q8.1, .int 0, .int 0]) X hl (cm_set l D dA s0 hE h0 r M hM z0 q8.1 0 0 q8.2 q9 e9) (List.forall_mem_cons.mpr ⟨ms_k1575, List.forall_mem_cons.mpr ⟨ms_k1577, List.forall_mem_cons.mpr ⟨ms_p60, List.forall_mem_cons.mpr ⟨ms_k7, List.forall_mem_cons.mpr ⟨ms_k1578, fun _ h => absurd h List.not_mem_nil⟩⟩⟩⟩⟩) ⟨rfl, by decide +kernel, by decide +kernel, (by decide +kernel : (parseMethodDescriptor "(III)V").map (fun d => d.parameters.length) = some 3)⟩ (hm_recv hK I rfl mm_hr) I ⟨rfl, rfl⟩ ⟨⟨Nat.le_of_ble_eq_true rfl, Nat.le_of_ble_eq_true rfl⟩, Nat.le_of_ble_eq_true rfl, Nat.le_of_ble_eq_true rfl⟩ rfl (Nat.le_of_ble_eq_true rfl) d80_15 (fun vv h1 z1 H locs hR I9 => ?_)
      obtain ⟨e1, e2, e3⟩ := hR
      rw [e2, e3] at I9
      clear I e2 e3 e9
      have I := I9
      clear I9
      subst e1
      refine W.eq (g2 := F0 m 18 ls []) rfl ?_
      refine lv_iinc (k := 3) (v := (x3 + 1)) hx hb d80_18 hl rfl (rfl) (by decide) rfl (fun ls hl => ?_)
      have hl : lv_has ls 4 [(3, .int (x3 + 1)), (0, .ref r), (1, .int x1), (2, .int x2)] := hl
      refine lv_goto hx hb d80_21 rfl ?_
      exact hk2 ls x1 x2 (x3 + 1) q9 _ _ hF (hl.sub [1, 2, 3, 0] rfl) I
  have hF := hg
  unfold g_drop at hF
  refine lv_iload_n hx hb d80_0 rfl (lv_at hl 1 rfl) ?_
  refine lv_istore_n hx hb d80_1 rfl hl (by decide) rfl (fun ls hl => ?_)
  have hl : lv_has ls 4 [(3, .int y1), (0, .ref r), (1, .int y1), (2, .int y2)] := hl
  exact b2 mF ls y1 y2 y1 st _ _ hF (hl.sub [1, 2, 3, 0] rfl) I

def g_remove_19 (x2 : Int32) (st : mT) : Option (Int32 × mT) := (if 0 ≤ x2 then (some ((-2000), st)) else (some ((-1000), st)))
def g_remove_216 (x8 : Int32) (x9 : Int32) (st : mT) : Option (Int32 × mT) := ((g_drop x8 x9 st).bind (fun q7 => (mm_lt (mm_F q7 5 ((q7.1 5) + 1)) (fun st8 => (some ((x9 - x8), st8))))))
def g_remove_163 : Nat → Int32 → Int32 → Int32 → Int32 → Int32 → Int32 → Int32 → Int32 → mT → Option (Int32 × mT)
  | 0, _, _, _, _, _, _, _, _, _ => none
  | n9 + 1, x3, x4, x5, x6, x7, x8, x9, x10, st => (if x7 ≤ x10 then (if x5 = 0 then (g_remove_216 x8 x9 st) else ((g_set x3 3 (x6 + x7) st).bind (fun q9 => (g_remove_216 x8 x9 q9)))) else ((g_f x4 (8 + x10) st).bind (fun q10 => ((g_set x3 ((8 + x6) + x10) q10.1 q10.2).bind (fun q11 => ((g_remove_163 n9) x3 x4 x5 x6 x7 x8 x9 (x10 + 1) q11))))))
def g_remove_157 (x3 : Int32) (x4 : Int32) (x5 : Int32) (x6 : Int32) (x7 : Int32) (x8 : Int32) (w0 : Int32) (w1 : Int32) (st : mT) : Option (Int32 × mT) := (g_remove_163 mF x3 x4 x5 x6 x7 x8 (w1 + w0) 0 st)
def g_remove_118 (x2 : Int32) (x3 : Int32) (x4 : Int32) (x5 : Int32) (x6 : Int32) (w0 : Int32) (st : mT) : Option (Int32 × mT) := (if (x6 + w0) ≤ 20 then ((g_order x2 st).bind (fun q5 => ((g_end q5.1 q5.2).bind (fun q6 => (if x5 = 0 then (g_remove_157 x3 x4 x5 x6 w0 q5.1 0 q6.1 q6.2) else (g_remove_157 x3 x4 x5 x6 w0 q5.1 1 q6.1 q6.2)))))) else (some ((-2000), st)))
def g_remove_100 (x2 : Int32) (x3 : Int32) (x4 : Int32) (x5 : Int32) (w0 : Int32) (st : mT) : Option (Int32 × mT) := (if x5 = 0 then (g_remove_118 x2 x3 x4 x5 w0 0 st) else ((g_f x4 3 st).bind (fun q12 => (g_remove_118 x2 x3 x4 x5 w0 q12.1 q12.2))))
def g_remove_83 (x2 : Int32) (x3 : Int32) (x4 : Int32) (w0 : Int32) (st : mT) : Option (Int32 × mT) := (if w0 = 0 then (g_remove_100 x2 x3 x4 w0 0 st) else ((g_f x3 3 st).bind (fun q13 => (g_remove_100 x2 x3 x4 w0 q13.1 q13.2))))
def g_remove_82 (x2 : Int32) (x3 : Int32) (x4 : Int32) (st : mT) : Option (Int32 × mT) := (g_remove_83 x2 x3 x4 0 st)
def g_remove (y1 : Int32) (st : mT) : Option (Int32 × mT) := ((g_place y1 st).bind (fun q1 => (if q1.1 < 0 then (g_remove_19 q1.1 q1.2) else ((g_f q1.1 2 q1.2).bind (fun q2 => (if 0 ≤ q2.1 then ((g_sibling q1.1 (-1) q2.2).bind (fun q3 => ((g_sibling q1.1 1 q3.2).bind (fun q4 => (if q3.1 < 0 then (g_remove_82 q1.1 q3.1 q4.1 q4.2) else (if q4.1 < 0 then (g_remove_82 q1.1 q3.1 q4.1 q4.2) else ((g_f q3.1 1 q4.2).bind (fun q14 => (if q14.1 = 2 then ((g_f q4.1 1 q14.2).bind (fun q15 => (if q15.1 = 2 then (g_remove_83 q1.1 q3.1 q4.1 1 q15.2) else (g_remove_82 q1.1 q3.1 q4.1 q15.2)))) else (g_remove_82 q1.1 q3.1 q4.1 q14.2)))))))))) else (g_remove_19 q1.1 q2.2)))))))
set_option maxRecDepth 100000 in
set_option maxHeartbeats 8000000 in
theorem cm_remove (l : Launch) (D : va_G) (dA : Nat → ClassId) (s0 : State) (hE : ms_EV D dA s0) (h0 : hm_T) (r : Nat) (M : Nat → Nat) (hM : mm_ok r M) (z0 : hz_T) (y1 : Int32) (st : mT) (q : Int32 × mT) (hg : g_remove y1 st = some q) : ht_C l D s0 yM81 bM81 11 (Option.some Jvm.ClassFile.FieldType.int) 3 68 0 0 [.ref r, .int y1] (fun h z => h = mm_h dA h0 r M st ∧ z = z0) (fun h z vv h1 z1 => vv = some (.int q.1) ∧ h1 = mm_h dA h0 r M q.2 ∧ z1 = z0) := by
  refine ht_C.mk hE.1 (by decide) (Nat.le_of_ble_eq_true rfl) [(0, .ref r), (1, .int y1)] rfl ?_
  intro p e s m below meth c ls h z X hin hpre I hl
  have hx := X.1
  have hb := X.2.1
  have hml := X.2.2.1
  have hown : s.vm.findClass "MarkupStoreModel" = some m.cls := X.2.2.2.1
  have hts := X.2.2.2.2.2.2.1
  have hK := X.2.2.2.2.2.2.2.2.1
  rw [hpre.1, hpre.2] at I
  clear hpre
  have b19 : ∀ (ls : Array Slot) (x2 : Int32) (st : mT) (H : Heap) (locs : List Loc), g_remove_19 x2 st = some q → lv_has ls 11 [(2, .int x2)] → hm_I D s0 s (mm_h dA h0 r M st) z0 H locs → W p l e { frames := 3, cells := 0, slots := 0, locals := 68 } s m ([.ref r, .int y1] : List Value).toArray below meth c H locs 0 0 (MQ below (ht_Q D s0 (fun vv h1 z1 => vv = some (.int q.1) ∧ h1 = mm_h dA h0 r M q.2 ∧ z1 = z0)) ([.ref r, .int y1] : List Value).toArray s 0 0 (fun q => s0.heap.size ≤ q)) (F0 m 19 ls []) := by
    intro ls x2 st H locs hF hl I
    unfold g_remove_19 at hF
    refine lv_iload_n hx hb d81_19 rfl (lv_at hl 0 rfl) ?_
    refine lv_if_ge hx hb d81_20 rfl (fun h9 => ?_) (fun h9 => ?_)
    · have hF := (if_pos h9).symm.trans hF
      refine lv_sipush (v := (-2000)) hx hb d81_29 (by decide) ?_
      exact ht_iret X d81_32 I (Nat.le_of_ble_eq_true rfl) (Nat.le_of_ble_eq_true rfl) (mm_fin hF)
    · have hF := (if_neg h9).symm.trans hF
      refine lv_sipush (v := (-1000)) hx hb d81_23 (by decide) ?_
      refine lv_goto hx hb d81_26 rfl ?_
      exact ht_iret X d81_32 I (Nat.le_of_ble_eq_true rfl) (Nat.le_of_ble_eq_true rfl) (mm_fin hF)
  have b216 : ∀ (ls : Array Slot) (x8 : Int32) (x9 : Int32) (st : mT) (H : Heap) (locs : List Loc), g_remove_216 x8 x9 st = some q → lv_has ls 11 [(0, .ref r), (8, .int x8), (9, .int x9)] → hm_I D s0 s (mm_h dA h0 r M st) z0 H locs → W p l e { frames := 3, cells := 0, slots := 0, locals := 68 } s m ([.ref r, .int y1] : List Value).toArray below meth c H locs 0 0 (MQ below (ht_Q D s0 (fun vv h1 z1 => vv = some (.int q.1) ∧ h1 = mm_h dA h0 r M q.2 ∧ z1 = z0)) ([.ref r, .int y1] : List Value).toArray s 0 0 (fun q => s0.heap.size ≤ q)) (F0 m 216 ls []) := by
    intro ls x8 x9 st H locs hF hl I
    unfold g_remove_216 at hF
    refine lv_aload_n hx hb d81_216 rfl (lv_at hl 0 rfl) ?_
    refine lv_iload hx hb d81_217 (lv_at hl 1 rfl) ?_
    refine lv_iload hx hb d81_219 (lv_at hl 2 rfl) ?_
    obtain ⟨q7, e9, hF⟩ := mm_bd hF
    refine ht_V (C := "MarkupStoreModel") (rest := []) (as := [.int x8, .int x9]) X hl (cm_drop l D dA s0 hE h0 r M hM z0 x8 x9 st q7 e9) (List.forall_mem_cons.mpr ⟨ms_k1658, List.forall_mem_cons.mpr ⟨ms_k1660, List.forall_mem_cons.mpr ⟨ms_p78, List.forall_mem_cons.mpr ⟨ms_k7, List.forall_mem_cons.mpr ⟨ms_k1661, fun _ h => absurd h List.not_mem_nil⟩⟩⟩⟩⟩) ⟨rfl, by decide +kernel, by decide +kernel, (by decide +kernel : (parseMethodDescriptor "(II)V").map (fun d => d.parameters.length) = some 2)⟩ (hm_recv hK I rfl mm_hr) I ⟨rfl, rfl⟩ ⟨⟨Nat.le_of_ble_eq_true rfl, Nat.le_of_ble_eq_true rfl⟩, Nat.le_of_ble_eq_true rfl, Nat.le_of_ble_eq_true rfl⟩ rfl (Nat.le_of_ble_eq_true rfl) d81_221 (fun vv h1 z1 H locs hR I9 => ?_)
    obtain ⟨e1, e2, e3⟩ := hR
    rw [e2, e3] at I9
    clear I e2 e3 e9
    have I := I9
    clear I9
    subst e1
    refine W.eq (g2 := F0 m 224 ls []) rfl ?_
    refine lv_aload_n hx hb d81_224 rfl (lv_at hl 0 rfl) ?_
    refine lv_dup hx hb d81_225 rfl ?_
    refine va_get (D := D) (ci := 2) (v := .int (q7.1 5)) (C := kR2) (T := kT2) (N := 60) hx hb hts ku2 hown hK (hm_one I.1 mm_hr) 0 rfl rfl 5 (by decide) (hts _ ms_k1321) (fun _ h => h) rfl d81_226 ?_
    refine lv_iconst (v := 1) hx hb d81_229 (by decide) ?_
    refine lv_iadd hx hb d81_230 ?_
    obtain ⟨st8, e9, hF⟩ := mm_lt_some hF
    refine mm_put (k := 5) (ty := .int) X I (by decide) ms_k1321 rfl rfl (by decide +kernel) ⟨rfl, rfl⟩ rfl e9 d81_231 (fun H locs I => ?_)
    clear e9
    refine lv_iload hx hb d81_234 (lv_at hl 2 rfl) ?_
    refine lv_iload hx hb d81_236 (lv_at hl 1 rfl) ?_
    refine lv_isub hx hb d81_238 ?_
    exact ht_iret X d81_239 I (Nat.le_of_ble_eq_true rfl) (Nat.le_of_ble_eq_true rfl) (mm_fin hF)
  have b163 : ∀ n9 : Nat, ∀ (ls : Array Slot) (x3 : Int32) (x4 : Int32) (x5 : Int32) (x6 : Int32) (x7 : Int32) (x8 : Int32) (x9 : Int32) (x10 : Int32) (st : mT) (H : Heap) (locs : List Loc), g_remove_163 n9 x3 x4 x5 x6 x7 x8 x9 x10 st = some q → lv_has ls 11 [(0, .ref r), (3, .int x3), (4, .int x4), (5, .int x5), (6, .int x6), (7, .int x7), (8, .int x8), (9, .int x9), (10, .int x10)] → hm_I D s0 s (mm_h dA h0 r M st) z0 H locs → W p l e { frames := 3, cells := 0, slots := 0, locals := 68 } s m ([.ref r, .int y1] : List Value).toArray below meth c H locs 0 0 (MQ below (ht_Q D s0 (fun vv h1 z1 => vv = some (.int q.1) ∧ h1 = mm_h dA h0 r M q.2 ∧ z1 = z0)) ([.ref r, .int y1] : List Value).toArray s 0 0 (fun q => s0.heap.size ≤ q)) (F0 m 163 ls []) := by
    intro n9
    induction n9 with
    | zero => intro ls x3 x4 x5 x6 x7 x8 x9 x10 st H locs hF; cases hF
    | succ n9 hk163 =>
    intro ls x3 x4 x5 x6 x7 x8 x9 x10 st H locs hF hl I
    unfold g_remove_163 at hF
    refine lv_iload hx hb d81_163 (lv_at hl 8 rfl) ?_
    refine lv_iload hx hb d81_165 (lv_at hl 5 rfl) ?_
    refine lv_icmp_ge hx hb d81_167 rfl (fun h9 => ?_) (fun h9 => ?_)
    · have hF := (if_pos h9).symm.trans hF
      refine lv_iload hx hb d81_200 (lv_at hl 3 rfl) ?_
      refine lv_if_eq hx hb d81_202 rfl (fun h9 => ?_) (fun h9 => ?_)
      · have hF := (if_pos h9).symm.trans hF
        exact b216 ls x8 x9 st _ _ hF (hl.sub [0, 6, 7] rfl) I
      · have hF := (if_neg h9).symm.trans hF
        refine lv_aload_n hx hb d81_205 rfl (lv_at hl 0 rfl) ?_
        refine lv_iload_n hx hb d81_206 rfl (lv_at hl 1 rfl) ?_
        refine lv_iconst (v := 3) hx hb d81_207 (by decide) ?_
        refine lv_iload hx hb d81_208 (lv_at hl 4 rfl) ?_
        refine lv_iload hx hb d81_210 (lv_at hl 5 rfl) ?_
        refine lv_iadd hx hb d81_212 ?_
        obtain ⟨q9, e9, hF⟩ := mm_bd hF
        refine ht_V (C := "MarkupStoreModel") (rest := []) (as := [.int x3, .int 3, .int (x6 + x7)]) X hl (cm_set l D dA s0 hE h0 r M hM z0 x3 3 (x6 + x7) st q9 e9) (List.forall_mem_cons.mpr ⟨ms_k1575, List.forall_mem_cons.mpr ⟨ms_k1577, List.forall_mem_cons.mpr ⟨ms_p60, List.forall_mem_cons.mpr ⟨ms_k7, List.forall_mem_cons.mpr ⟨ms_k1578, fun _ h => absurd h List.not_mem_nil⟩⟩⟩⟩⟩) ⟨rfl, by decide +kernel, by decide +kernel, (by decide +kernel : (parseMethodDescriptor "(III)V").map (fun d => d.parameters.length) = some 3)⟩ (hm_recv hK I rfl mm_hr) I ⟨rfl, rfl⟩ ⟨⟨Nat.le_of_ble_eq_true rfl, Nat.le_of_ble_eq_true rfl⟩, Nat.le_of_ble_eq_true rfl, Nat.le_of_ble_eq_true rfl⟩ rfl (Nat.le_of_ble_eq_true rfl) d81_213 (fun vv h1 z1 H locs hR I9 => ?_)
        obtain ⟨e1, e2, e3⟩ := hR
        rw [e2, e3] at I9
        clear I e2 e3 e9
        have I := I9
        clear I9
        subst e1
        refine W.eq (g2 := F0 m 216 ls []) rfl ?_
        exact b216 ls x8 x9 q9 _ _ hF (hl.sub [0, 6, 7] rfl) I
    · have hF := (if_neg h9).symm.trans hF
      refine lv_aload_n hx hb d81_170 rfl (lv_at hl 0 rfl) ?_
      refine lv_iload_n hx hb d81_171 rfl (lv_at hl 1 rfl) ?_
      refine lv_bipush (v := 8) hx hb d81_172 (by decide) ?_
      refine lv_iload hx hb d81_174 (lv_at hl 4 rfl) ?_
      refine lv_iadd hx hb d81_176 ?_
      refine lv_iload hx hb d81_177 (lv_at hl 8 rfl) ?_
      refine lv_iadd hx hb d81_179 ?_
      refine lv_aload_n hx hb d81_180 rfl (lv_at hl 0 rfl) ?_
      refine lv_iload hx hb d81_181 (lv_at hl 2 rfl) ?_
      refine lv_bipush (v := 8) hx hb d81_183 (by decide) ?_
      refine lv_iload hx hb d81_185 (lv_at hl 8 rfl) ?_
      refine lv_iadd hx hb d81_187 ?_
      obtain ⟨q10, e9, hF⟩ := mm_bd hF
      refine ht_V (C := "MarkupStoreModel") (rest := [.int ((8 + x6) + x10), .int x3, .ref r]) (as := [.int x4, .int (8 + x10)]) X hl (cm_f l D dA s0 hE h0 r M hM z0 x4 (8 + x10) st q10 e9) (List.forall_mem_cons.mpr ⟨ms_k1587, List.forall_mem_cons.mpr ⟨ms_k1589, List.forall_mem_cons.mpr ⟨ms_p63, List.forall_mem_cons.mpr ⟨ms_k7, List.forall_mem_cons.mpr ⟨ms_k1590, fun _ h => absurd h List.not_mem_nil⟩⟩⟩⟩⟩) ⟨rfl, by decide +kernel, by decide +kernel, (by decide +kernel : (parseMethodDescriptor "(II)I").map (fun d => d.parameters.length) = some 2)⟩ (hm_recv hK I rfl mm_hr) I ⟨rfl, rfl⟩ ⟨⟨Nat.le_of_ble_eq_true rfl, Nat.le_of_ble_eq_true rfl⟩, Nat.le_of_ble_eq_true rfl, Nat.le_of_ble_eq_true rfl⟩ rfl (Nat.le_of_ble_eq_true rfl) d81_188 (fun vv h1 z1 H locs hR I9 => ?_)
      obtain ⟨e1, e2, e3⟩ := hR
      rw [e2, e3] at I9
      clear I e2 e3 e9
      have I := I9
      clear I9
      subst e1
      refine W.eq (g2 := F0 m 191 ls [.int q10.1, .int ((8 + x6) + x10), .int x3, .ref r]) rfl ?_
      obtain ⟨q11, e9, hF⟩ := mm_bd hF
      refine ht_V (C := "MarkupStoreModel") (rest := []) (as := [.int x3, .int ((8 + x6) + x10), .int q10.1]) X hl (cm_set l D dA s0 hE h0 r M hM z0 x3 ((8 + x6) + x10) q10.1 q10.2 q11 e9) (List.forall_mem_cons.mpr ⟨ms_k1575, List.forall_mem_cons.mpr ⟨ms_k1577, List.forall_mem_cons.mpr ⟨ms_p60, List.forall_mem_cons.mpr ⟨ms_k7, List.forall_mem_cons.mpr ⟨ms_k1578, fun _ h => absurd h List.not_mem_nil⟩⟩⟩⟩⟩) ⟨rfl, by decide +kernel, by decide +kernel, (by decide +kernel : (parseMethodDescriptor "(III)V").map (fun d => d.parameters.length) = some 3)⟩ (hm_recv hK I rfl mm_hr) I ⟨rfl, rfl⟩ ⟨⟨Nat.le_of_ble_eq_true rfl, Nat.le_of_ble_eq_true rfl⟩, Nat.le_of_ble_eq_true rfl, Nat.le_of_ble_eq_true rfl⟩ rfl (Nat.le_of_ble_eq_true rfl) d81_191 (fun vv h1 z1 H locs hR I9 => ?_)
      obtain ⟨e1, e2, e3⟩ := hR
      rw [e2, e3] at I9
      clear I e2 e3 e9
      have I := I9
      clear I9
      subst e1
      refine W.eq (g2 := F0 m 194 ls []) rfl ?_
      refine lv_iinc (k := 8) (v := (x10 + 1)) hx hb d81_194 hl rfl (rfl) (by decide) rfl (fun ls hl => ?_)
      have hl : lv_has ls 11 [(10, .int (x10 + 1)), (0, .ref r), (3, .int x3), (4, .int x4), (5, .int x5), (6, .int x6), (7, .int x7), (8, .int x8), (9, .int x9)] := hl
      refine lv_goto hx hb d81_197 rfl ?_
      exact hk163 ls x3 x4 x5 x6 x7 x8 x9 (x10 + 1) q11 _ _ hF (hl.sub [1, 2, 3, 4, 5, 6, 7, 8, 0] rfl) I
  have b157 : ∀ (ls : Array Slot) (x3 : Int32) (x4 : Int32) (x5 : Int32) (x6 : Int32) (x7 : Int32) (x8 : Int32) (w0 : Int32) (w1 : Int32) (st : mT) (H : Heap) (locs : List Loc), g_remove_157 x3 x4 x5 x6 x7 x8 w0 w1 st = some q → lv_has ls 11 [(0, .ref r), (3, .int x3), (4, .int x4), (5, .int x5), (6, .int x6), (7, .int x7), (8, .int x8)] → hm_I D s0 s (mm_h dA h0 r M st) z0 H locs → W p l e { frames := 3, cells := 0, slots := 0, locals := 68 } s m ([.ref r, .int y1] : List Value).toArray below meth c H locs 0 0 (MQ below (ht_Q D s0 (fun vv h1 z1 => vv = some (.int q.1) ∧ h1 = mm_h dA h0 r M q.2 ∧ z1 = z0)) ([.ref r, .int y1] : List Value).toArray s 0 0 (fun q => s0.heap.size ≤ q)) (F0 m 157 ls [.int w0, .int w1]) := by
    intro ls x3 x4 x5 x6 x7 x8 w0 w1 st H locs hF hl I
    unfold g_remove_157 at hF
    refine lv_iadd hx hb d81_157 ?_
    refine lv_istore hx hb d81_158 hl (by decide) rfl (fun ls hl => ?_)
    have hl : lv_has ls 11 [(9, .int (w1 + w0)), (0, .ref r), (3, .int x3), (4, .int x4), (5, .int x5), (6, .int x6), (7, .int x7), (8, .int x8)] := hl
    refine lv_iconst (v := 0) hx hb d81_160 (by decide) ?_
    refine lv_istore hx hb d81_161 hl (by decide) rfl (fun ls hl => ?_)
    have hl : lv_has ls 11 [(10, .int 0), (9, .int (w1 + w0)), (0, .ref r), (3, .int x3), (4, .int x4), (5, .int x5), (6, .int x6), (7, .int x7), (8, .int x8)] := hl
    exact b163 mF ls x3 x4 x5 x6 x7 x8 (w1 + w0) 0 st _ _ hF (hl.sub [2, 3, 4, 5, 6, 7, 8, 1, 0] rfl) I
  have b118 : ∀ (ls : Array Slot) (x2 : Int32) (x3 : Int32) (x4 : Int32) (x5 : Int32) (x6 : Int32) (w0 : Int32) (st : mT) (H : Heap) (locs : List Loc), g_remove_118 x2 x3 x4 x5 x6 w0 st = some q → lv_has ls 11 [(0, .ref r), (2, .int x2), (3, .int x3), (4, .int x4), (5, .int x5), (6, .int x6)] → hm_I D s0 s (mm_h dA h0 r M st) z0 H locs → W p l e { frames := 3, cells := 0, slots := 0, locals := 68 } s m ([.ref r, .int y1] : List Value).toArray below meth c H locs 0 0 (MQ below (ht_Q D s0 (fun vv h1 z1 => vv = some (.int q.1) ∧ h1 = mm_h dA h0 r M q.2 ∧ z1 = z0)) ([.ref r, .int y1] : List Value).toArray s 0 0 (fun q => s0.heap.size ≤ q)) (F0 m 118 ls [.int w0]) := by
    intro ls x2 x3 x4 x5 x6 w0 st H locs hF hl I
    unfold g_remove_118 at hF
    refine lv_istore hx hb d81_118 hl (by decide) rfl (fun ls hl => ?_)
    have hl : lv_has ls 11 [(7, .int w0), (0, .ref r), (2, .int x2), (3, .int x3), (4, .int x4), (5, .int x5), (6, .int x6)] := hl
    refine lv_iload hx hb d81_120 (lv_at hl 6 rfl) ?_
    refine lv_iload hx hb d81_122 (lv_at hl 0 rfl) ?_
    refine lv_iadd hx hb d81_124 ?_
    refine lv_bipush (v := 20) hx hb d81_125 (by decide) ?_
    refine lv_icmp_le hx hb d81_127 rfl (fun h9 => ?_) (fun h9 => ?_)
    · have hF := (if_pos h9).symm.trans hF
      refine lv_aload_n hx hb d81_134 rfl (lv_at hl 1 rfl) ?_
      refine lv_iload_n hx hb d81_135 rfl (lv_at hl 2 rfl) ?_
      obtain ⟨q5, e9, hF⟩ := mm_bd hF
      refine ht_V (C := "MarkupStoreModel") (rest := []) (as := [.int x2]) X hl (cm_order l D dA s0 hE h0 r M hM z0 x2 st q5 e9) (List.forall_mem_cons.mpr ⟨ms_k1623, List.forall_mem_cons.mpr ⟨ms_k1625, List.forall_mem_cons.mpr ⟨ms_p71, List.forall_mem_cons.mpr ⟨ms_k7, List.forall_mem_cons.mpr ⟨ms_k1626, fun _ h => absurd h List.not_mem_nil⟩⟩⟩⟩⟩) ⟨rfl, by decide +kernel, by decide +kernel, (by decide +kernel : (parseMethodDescriptor "(I)I").map (fun d => d.parameters.length) = some 1)⟩ (hm_recv hK I rfl mm_hr) I ⟨rfl, rfl⟩ ⟨⟨Nat.le_of_ble_eq_true rfl, Nat.le_of_ble_eq_true rfl⟩, Nat.le_of_ble_eq_true rfl, Nat.le_of_ble_eq_true rfl⟩ rfl (Nat.le_of_ble_eq_true rfl) d81_136 (fun vv h1 z1 H locs hR I9 => ?_)
      obtain ⟨e1, e2, e3⟩ := hR
      rw [e2, e3] at I9
      clear I e2 e3 e9
      have I := I9
      clear I9
      subst e1
      refine W.eq (g2 := F0 m 139 ls [.int q5.1]) rfl ?_
      refine lv_istore hx hb d81_139 hl (by decide) rfl (fun ls hl => ?_)
      have hl : lv_has ls 11 [(8, .int q5.1), (7, .int w0), (0, .ref r), (2, .int x2), (3, .int x3), (4, .int x4), (5, .int x5), (6, .int x6)] := hl
      refine lv_aload_n hx hb d81_141 rfl (lv_at hl 2 rfl) ?_
      refine lv_iload hx hb d81_142 (lv_at hl 0 rfl) ?_
      obtain ⟨q6, e9, hF⟩ := mm_bd hF
      refine ht_V (C := "MarkupStoreModel") (rest := []) (as := [.int q5.1]) X hl (cm_end l D dA s0 hE h0 r M hM z0 q5.1 q5.2 q6 e9) (List.forall_mem_cons.mpr ⟨ms_k1650, List.forall_mem_cons.mpr ⟨ms_k1652, List.forall_mem_cons.mpr ⟨ms_p77, List.forall_mem_cons.mpr ⟨ms_k7, List.forall_mem_cons.mpr ⟨ms_k1653, fun _ h => absurd h List.not_mem_nil⟩⟩⟩⟩⟩) ⟨rfl, by decide +kernel, by decide +kernel, (by decide +kernel : (parseMethodDescriptor "(I)I").map (fun d => d.parameters.length) = some 1)⟩ (hm_recv hK I rfl mm_hr) I ⟨rfl, rfl⟩ ⟨⟨Nat.le_of_ble_eq_true rfl, Nat.le_of_ble_eq_true rfl⟩, Nat.le_of_ble_eq_true rfl, Nat.le_of_ble_eq_true rfl⟩ rfl (Nat.le_of_ble_eq_true rfl) d81_144 (fun vv h1 z1 H locs hR I9 => ?_)
      obtain ⟨e1, e2, e3⟩ := hR
      rw [e2, e3] at I9
      clear I e2 e3 e9
      have I := I9
      clear I9
      subst e1
      refine W.eq (g2 := F0 m 147 ls [.int q6.1]) rfl ?_
      refine lv_iload hx hb d81_147 (lv_at hl 6 rfl) ?_
      refine lv_if_eq hx hb d81_149 rfl (fun h9 => ?_) (fun h9 => ?_)
      · have hF := (if_pos h9).symm.trans hF
        refine lv_iconst (v := 0) hx hb d81_156 (by decide) ?_
        exact b157 ls x3 x4 x5 x6 w0 q5.1 0 q6.1 q6.2 _ _ hF (hl.sub [2, 4, 5, 6, 7, 1, 0] rfl) I
      · have hF := (if_neg h9).symm.trans hF
        refine lv_iconst (v := 1) hx hb d81_152 (by decide) ?_
        refine lv_goto hx hb d81_153 rfl ?_
        exact b157 ls x3 x4 x5 x6 w0 q5.1 1 q6.1 q6.2 _ _ hF (hl.sub [2, 4, 5, 6, 7, 1, 0] rfl) I
    · have hF := (if_neg h9).symm.trans hF
      refine lv_sipush (v := (-2000)) hx hb d81_130 (by decide) ?_
      exact ht_iret X d81_133 I (Nat.le_of_ble_eq_true rfl) (Nat.le_of_ble_eq_true rfl) (mm_fin hF)
  have b100 : ∀ (ls : Array Slot) (x2 : Int32) (x3 : Int32) (x4 : Int32) (x5 : Int32) (w0 : Int32) (st : mT) (H : Heap) (locs : List Loc), g_remove_100 x2 x3 x4 x5 w0 st = some q → lv_has ls 11 [(0, .ref r), (2, .int x2), (3, .int x3), (4, .int x4), (5, .int x5)] → hm_I D s0 s (mm_h dA h0 r M st) z0 H locs → W p l e { frames := 3, cells := 0, slots := 0, locals := 68 } s m ([.ref r, .int y1] : List Value).toArray below meth c H locs 0 0 (MQ below (ht_Q D s0 (fun vv h1 z1 => vv = some (.int q.1) ∧ h1 = mm_h dA h0 r M q.2 ∧ z1 = z0)) ([.ref r, .int y1] : List Value).toArray s 0 0 (fun q => s0.heap.size ≤ q)) (F0 m 100 ls [.int w0]) := by
    intro ls x2 x3 x4 x5 w0 st H locs hF hl I
    unfold g_remove_100 at hF
    refine lv_istore hx hb d81_100 hl (by decide) rfl (fun ls hl => ?_)
    have hl : lv_has ls 11 [(6, .int w0), (0, .ref r), (2, .int x2), (3, .int x3), (4, .int x4), (5, .int x5)] := hl
    refine lv_iload hx hb d81_102 (lv_at hl 5 rfl) ?_
    refine lv_if_eq hx hb d81_104 rfl (fun h9 => ?_) (fun h9 => ?_)
    · have hF := (if_pos h9).symm.trans hF
      refine lv_iconst (v := 0) hx hb d81_117 (by decide) ?_
      exact b118 ls x2 x3 x4 x5 w0 0 st _ _ hF (hl.sub [1, 2, 3, 4, 5, 0] rfl) I
    · have hF := (if_neg h9).symm.trans hF
      refine lv_aload_n hx hb d81_107 rfl (lv_at hl 1 rfl) ?_
      refine lv_iload hx hb d81_108 (lv_at hl 4 rfl) ?_
      refine lv_iconst (v := 3) hx hb d81_110 (by decide) ?_
      obtain ⟨q12, e9, hF⟩ := mm_bd hF
      refine ht_V (C := "MarkupStoreModel") (rest := []) (as := [.int x4, .int 3]) X hl (cm_f l D dA s0 hE h0 r M hM z0 x4 3 st q12 e9) (List.forall_mem_cons.mpr ⟨ms_k1587, List.forall_mem_cons.mpr ⟨ms_k1589, List.forall_mem_cons.mpr ⟨ms_p63, List.forall_mem_cons.mpr ⟨ms_k7, List.forall_mem_cons.mpr ⟨ms_k1590, fun _ h => absurd h List.not_mem_nil⟩⟩⟩⟩⟩) ⟨rfl, by decide +kernel, by decide +kernel, (by decide +kernel : (parseMethodDescriptor "(II)I").map (fun d => d.parameters.length) = some 2)⟩ (hm_recv hK I rfl mm_hr) I ⟨rfl, rfl⟩ ⟨⟨Nat.le_of_ble_eq_true rfl, Nat.le_of_ble_eq_true rfl⟩, Nat.le_of_ble_eq_true rfl, Nat.le_of_ble_eq_true rfl⟩ rfl (Nat.le_of_ble_eq_true rfl) d81_111 (fun vv h1 z1 H locs hR I9 => ?_)
      obtain ⟨e1, e2, e3⟩ := hR
      rw [e2, e3] at I9
      clear I e2 e3 e9
      have I := I9
      clear I9
      subst e1
      refine W.eq (g2 := F0 m 114 ls [.int q12.1]) rfl ?_
      refine lv_goto hx hb d81_114 rfl ?_
      exact b118 ls x2 x3 x4 x5 w0 q12.1 q12.2 _ _ hF (hl.sub [1, 2, 3, 4, 5, 0] rfl) I
  have b83 : ∀ (ls : Array Slot) (x2 : Int32) (x3 : Int32) (x4 : Int32) (w0 : Int32) (st : mT) (H : Heap) (locs : List Loc), g_remove_83 x2 x3 x4 w0 st = some q → lv_has ls 11 [(0, .ref r), (2, .int x2), (3, .int x3), (4, .int x4)] → hm_I D s0 s (mm_h dA h0 r M st) z0 H locs → W p l e { frames := 3, cells := 0, slots := 0, locals := 68 } s m ([.ref r, .int y1] : List Value).toArray below meth c H locs 0 0 (MQ below (ht_Q D s0 (fun vv h1 z1 => vv = some (.int q.1) ∧ h1 = mm_h dA h0 r M q.2 ∧ z1 = z0)) ([.ref r, .int y1] : List Value).toArray s 0 0 (fun q => s0.heap.size ≤ q)) (F0 m 83 ls [.int w0]) := by
    intro ls x2 x3 x4 w0 st H locs hF hl I
    unfold g_remove_83 at hF
    refine lv_istore hx hb d81_83 hl (by decide) rfl (fun ls hl => ?_)
    have hl : lv_has ls 11 [(5, .int w0), (0, .ref r), (2, .int x2), (3, .int x3), (4, .int x4)] := hl
    refine lv_iload hx hb d81_85 (lv_at hl 0 rfl) ?_
    refine lv_if_eq hx hb d81_87 rfl (fun h9 => ?_) (fun h9 => ?_)
    · have hF := (if_pos h9).symm.trans hF
      refine lv_iconst (v := 0) hx hb d81_99 (by decide) ?_
      exact b100 ls x2 x3 x4 w0 0 st _ _ hF (hl.sub [1, 2, 3, 4, 0] rfl) I
    · have hF := (if_neg h9).symm.trans hF
      refine lv_aload_n hx hb d81_90 rfl (lv_at hl 1 rfl) ?_
      refine lv_iload_n hx hb d81_91 rfl (lv_at hl 3 rfl) ?_
      refine lv_iconst (v := 3) hx hb d81_92 (by decide) ?_
      obtain ⟨q13, e9, hF⟩ := mm_bd hF
      refine ht_V (C := "MarkupStoreModel") (rest := []) (as := [.int x3, .int 3]) X hl (cm_f l D dA s0 hE h0 r M hM z0 x3 3 st q13 e9) (List.forall_mem_cons.mpr ⟨ms_k1587, List.forall_mem_cons.mpr ⟨ms_k1589, List.forall_mem_cons.mpr ⟨ms_p63, List.forall_mem_cons.mpr ⟨ms_k7, List.forall_mem_cons.mpr ⟨ms_k1590, fun _ h => absurd h List.not_mem_nil⟩⟩⟩⟩⟩) ⟨rfl, by decide +kernel, by decide +kernel, (by decide +kernel : (parseMethodDescriptor "(II)I").map (fun d => d.parameters.length) = some 2)⟩ (hm_recv hK I rfl mm_hr) I ⟨rfl, rfl⟩ ⟨⟨Nat.le_of_ble_eq_true rfl, Nat.le_of_ble_eq_true rfl⟩, Nat.le_of_ble_eq_true rfl, Nat.le_of_ble_eq_true rfl⟩ rfl (Nat.le_of_ble_eq_true rfl) d81_93 (fun vv h1 z1 H locs hR I9 => ?_)
      obtain ⟨e1, e2, e3⟩ := hR
      rw [e2, e3] at I9
      clear I e2 e3 e9
      have I := I9
      clear I9
      subst e1
      refine W.eq (g2 := F0 m 96 ls [.int q13.1]) rfl ?_
      refine lv_goto hx hb d81_96 rfl ?_
      exact b100 ls x2 x3 x4 w0 q13.1 q13.2 _ _ hF (hl.sub [1, 2, 3, 4, 0] rfl) I
  have b82 : ∀ (ls : Array Slot) (x2 : Int32) (x3 : Int32) (x4 : Int32) (st : mT) (H : Heap) (locs : List Loc), g_remove_82 x2 x3 x4 st = some q → lv_has ls 11 [(0, .ref r), (2, .int x2), (3, .int x3), (4, .int x4)] → hm_I D s0 s (mm_h dA h0 r M st) z0 H locs → W p l e { frames := 3, cells := 0, slots := 0, locals := 68 } s m ([.ref r, .int y1] : List Value).toArray below meth c H locs 0 0 (MQ below (ht_Q D s0 (fun vv h1 z1 => vv = some (.int q.1) ∧ h1 = mm_h dA h0 r M q.2 ∧ z1 = z0)) ([.ref r, .int y1] : List Value).toArray s 0 0 (fun q => s0.heap.size ≤ q)) (F0 m 82 ls []) := by
    intro ls x2 x3 x4 st H locs hF hl I
    unfold g_remove_82 at hF
    refine lv_iconst (v := 0) hx hb d81_82 (by decide) ?_
    exact b83 ls x2 x3 x4 0 st _ _ hF (hl.sub [0, 1, 2, 3] rfl) I
  have hF := hg
  unfold g_remove at hF
  refine lv_aload_n hx hb d81_0 rfl (lv_at hl 0 rfl) ?_
  refine lv_iload_n hx hb d81_1 rfl (lv_at hl 1 rfl) ?_
  obtain ⟨q1, e9, hF⟩ := mm_bd hF
  refine ht_V (C := "MarkupStoreModel") (rest := []) (as := [.int y1]) X hl (cm_place l D dA s0 hE h0 r M hM z0 y1 st q1 e9) (List.forall_mem_cons.mpr ⟨ms_k1603, List.forall_mem_cons.mpr ⟨ms_k1605, List.forall_mem_cons.mpr ⟨ms_p66, List.forall_mem_cons.mpr ⟨ms_k7, List.forall_mem_cons.mpr ⟨ms_k1606, fun _ h => absurd h List.not_mem_nil⟩⟩⟩⟩⟩) ⟨rfl, by decide +kernel, by decide +kernel, (by decide +kernel : (parseMethodDescriptor "(I)I").map (fun d => d.parameters.length) = some 1)⟩ (hm_recv hK I rfl mm_hr) I ⟨rfl, rfl⟩ ⟨⟨Nat.le_of_ble_eq_true rfl, Nat.le_of_ble_eq_true rfl⟩, Nat.le_of_ble_eq_true rfl, Nat.le_of_ble_eq_true rfl⟩ rfl (Nat.le_of_ble_eq_true rfl) d81_2 (fun vv h1 z1 H locs hR I9 => ?_)
  obtain ⟨e1, e2, e3⟩ := hR
  rw [e2, e3] at I9
  clear I e2 e3 e9
  have I := I9
  clear I9
  subst e1
  refine W.eq (g2 := F0 m 5 ls [.int q1.1]) rfl ?_
  refine lv_istore_n hx hb d81_5 rfl hl (by decide) rfl (fun ls hl => ?_)
  have hl : lv_has ls 11 [(2, .int q1.1), (0, .ref r), (1, .int y1)] := hl
  refine lv_iload_n hx hb d81_6 rfl (lv_at hl 0 rfl) ?_
  refine lv_if_lt hx hb d81_7 rfl (fun h9 => ?_) (fun h9 => ?_)
  · have hF := (if_pos h9).symm.trans hF
    exact b19 ls q1.1 q1.2 _ _ hF (hl.sub [0] rfl) I
  · have hF := (if_neg h9).symm.trans hF
    refine lv_aload_n hx hb d81_10 rfl (lv_at hl 1 rfl) ?_
    refine lv_iload_n hx hb d81_11 rfl (lv_at hl 0 rfl) ?_
    refine lv_iconst (v := 2) hx hb d81_12 (by decide) ?_
    obtain ⟨q2, e9, hF⟩ := mm_bd hF
    refine ht_V (C := "MarkupStoreModel") (rest := []) (as := [.int q1.1, .int 2]) X hl (cm_f l D dA s0 hE h0 r M hM z0 q1.1 2 q1.2 q2 e9) (List.forall_mem_cons.mpr ⟨ms_k1587, List.forall_mem_cons.mpr ⟨ms_k1589, List.forall_mem_cons.mpr ⟨ms_p63, List.forall_mem_cons.mpr ⟨ms_k7, List.forall_mem_cons.mpr ⟨ms_k1590, fun _ h => absurd h List.not_mem_nil⟩⟩⟩⟩⟩) ⟨rfl, by decide +kernel, by decide +kernel, (by decide +kernel : (parseMethodDescriptor "(II)I").map (fun d => d.parameters.length) = some 2)⟩ (hm_recv hK I rfl mm_hr) I ⟨rfl, rfl⟩ ⟨⟨Nat.le_of_ble_eq_true rfl, Nat.le_of_ble_eq_true rfl⟩, Nat.le_of_ble_eq_true rfl, Nat.le_of_ble_eq_true rfl⟩ rfl (Nat.le_of_ble_eq_true rfl) d81_13 (fun vv h1 z1 H locs hR I9 => ?_)
    obtain ⟨e1, e2, e3⟩ := hR
    rw [e2, e3] at I9
    clear I e2 e3 e9
    have I := I9
    clear I9
    subst e1
    refine W.eq (g2 := F0 m 16 ls [.int q2.1]) rfl ?_
    refine lv_if_ge hx hb d81_16 rfl (fun h9 => ?_) (fun h9 => ?_)
    · have hF := (if_pos h9).symm.trans hF
      refine lv_aload_n hx hb d81_33 rfl (lv_at hl 1 rfl) ?_
      refine lv_iload_n hx hb d81_34 rfl (lv_at hl 0 rfl) ?_
      refine lv_iconst (v := (-1)) hx hb d81_35 (by decide) ?_
      obtain ⟨q3, e9, hF⟩ := mm_bd hF
      refine ht_V (C := "MarkupStoreModel") (rest := []) (as := [.int q1.1, .int (-1)]) X hl (cm_sibling l D dA s0 hE h0 r M hM z0 q1.1 (-1) q2.2 q3 e9) (List.forall_mem_cons.mpr ⟨ms_k1619, List.forall_mem_cons.mpr ⟨ms_k1621, List.forall_mem_cons.mpr ⟨ms_p70, List.forall_mem_cons.mpr ⟨ms_k7, List.forall_mem_cons.mpr ⟨ms_k1622, fun _ h => absurd h List.not_mem_nil⟩⟩⟩⟩⟩) ⟨rfl, by decide +kernel, by decide +kernel, (by decide +kernel : (parseMethodDescriptor "(II)I").map (fun d => d.parameters.length) = some 2)⟩ (hm_recv hK I rfl mm_hr) I ⟨rfl, rfl⟩ ⟨⟨Nat.le_of_ble_eq_true rfl, Nat.le_of_ble_eq_true rfl⟩, Nat.le_of_ble_eq_true rfl, Nat.le_of_ble_eq_true rfl⟩ rfl (Nat.le_of_ble_eq_true rfl) d81_36 (fun vv h1 z1 H locs hR I9 => ?_)
      obtain ⟨e1, e2, e3⟩ := hR
      rw [e2, e3] at I9
      clear I e2 e3 e9
      have I := I9
      clear I9
      subst e1
      refine W.eq (g2 := F0 m 39 ls [.int q3.1]) rfl ?_
      refine lv_istore_n hx hb d81_39 rfl hl (by decide) rfl (fun ls hl => ?_)
      have hl : lv_has ls 11 [(3, .int q3.1), (2, .int q1.1), (0, .ref r), (1, .int y1)] := hl
      refine lv_aload_n hx hb d81_40 rfl (lv_at hl 2 rfl) ?_
      refine lv_iload_n hx hb d81_41 rfl (lv_at hl 1 rfl) ?_
      refine lv_iconst (v := 1) hx hb d81_42 (by decide) ?_
      obtain ⟨q4, e9, hF⟩ := mm_bd hF
      refine ht_V (C := "MarkupStoreModel") (rest := []) (as := [.int q1.1, .int 1]) X hl (cm_sibling l D dA s0 hE h0 r M hM z0 q1.1 1 q3.2 q4 e9) (List.forall_mem_cons.mpr ⟨ms_k1619, List.forall_mem_cons.mpr ⟨ms_k1621, List.forall_mem_cons.mpr ⟨ms_p70, List.forall_mem_cons.mpr ⟨ms_k7, List.forall_mem_cons.mpr ⟨ms_k1622, fun _ h => absurd h List.not_mem_nil⟩⟩⟩⟩⟩) ⟨rfl, by decide +kernel, by decide +kernel, (by decide +kernel : (parseMethodDescriptor "(II)I").map (fun d => d.parameters.length) = some 2)⟩ (hm_recv hK I rfl mm_hr) I ⟨rfl, rfl⟩ ⟨⟨Nat.le_of_ble_eq_true rfl, Nat.le_of_ble_eq_true rfl⟩, Nat.le_of_ble_eq_true rfl, Nat.le_of_ble_eq_true rfl⟩ rfl (Nat.le_of_ble_eq_true rfl) d81_43 (fun vv h1 z1 H locs hR I9 => ?_)
      obtain ⟨e1, e2, e3⟩ := hR
      rw [e2, e3] at I9
      clear I e2 e3 e9
      have I := I9
      clear I9
      subst e1
      refine W.eq (g2 := F0 m 46 ls [.int q4.1]) rfl ?_
      refine lv_istore hx hb d81_46 hl (by decide) rfl (fun ls hl => ?_)
      have hl : lv_has ls 11 [(4, .int q4.1), (3, .int q3.1), (2, .int q1.1), (0, .ref r), (1, .int y1)] := hl
      refine lv_iload_n hx hb d81_48 rfl (lv_at hl 1 rfl) ?_
      refine lv_if_lt hx hb d81_49 rfl (fun h9 => ?_) (fun h9 => ?_)
      · have hF := (if_pos h9).symm.trans hF
        exact b82 ls q1.1 q3.1 q4.1 q4.2 _ _ hF (hl.sub [3, 2, 1, 0] rfl) I
      · have hF := (if_neg h9).symm.trans hF
        refine lv_iload hx hb d81_52 (lv_at hl 0 rfl) ?_
        refine lv_if_lt hx hb d81_54 rfl (fun h9 => ?_) (fun h9 => ?_)
        · have hF := (if_pos h9).symm.trans hF
          exact b82 ls q1.1 q3.1 q4.1 q4.2 _ _ hF (hl.sub [3, 2, 1, 0] rfl) I
        · have hF := (if_neg h9).symm.trans hF
          refine lv_aload_n hx hb d81_57 rfl (lv_at hl 3 rfl) ?_
          refine lv_iload_n hx hb d81_58 rfl (lv_at hl 1 rfl) ?_
          refine lv_iconst (v := 1) hx hb d81_59 (by decide) ?_
          obtain ⟨q14, e9, hF⟩ := mm_bd hF
          refine ht_V (C := "MarkupStoreModel") (rest := []) (as := [.int q3.1, .int 1]) X hl (cm_f l D dA s0 hE h0 r M hM z0 q3.1 1 q4.2 q14 e9) (List.forall_mem_cons.mpr ⟨ms_k1587, List.forall_mem_cons.mpr ⟨ms_k1589, List.forall_mem_cons.mpr ⟨ms_p63, List.forall_mem_cons.mpr ⟨ms_k7, List.forall_mem_cons.mpr ⟨ms_k1590, fun _ h => absurd h List.not_mem_nil⟩⟩⟩⟩⟩) ⟨rfl, by decide +kernel, by decide +kernel, (by decide +kernel : (parseMethodDescriptor "(II)I").map (fun d => d.parameters.length) = some 2)⟩ (hm_recv hK I rfl mm_hr) I ⟨rfl, rfl⟩ ⟨⟨Nat.le_of_ble_eq_true rfl, Nat.le_of_ble_eq_true rfl⟩, Nat.le_of_ble_eq_true rfl, Nat.le_of_ble_eq_true rfl⟩ rfl (Nat.le_of_ble_eq_true rfl) d81_60 (fun vv h1 z1 H locs hR I9 => ?_)
          obtain ⟨e1, e2, e3⟩ := hR
          rw [e2, e3] at I9
          clear I e2 e3 e9
          have I := I9
          clear I9
          subst e1
          refine W.eq (g2 := F0 m 63 ls [.int q14.1]) rfl ?_
          refine lv_iconst (v := 2) hx hb d81_63 (by decide) ?_
          refine lv_icmp_ne hx hb d81_64 rfl (fun h9 => ?_) (fun h9 => ?_)
          · have hF := (if_neg h9).symm.trans hF
            exact b82 ls q1.1 q3.1 q4.1 q14.2 _ _ hF (hl.sub [3, 2, 1, 0] rfl) I
          · have hF := (if_pos h9).symm.trans hF
            refine lv_aload_n hx hb d81_67 rfl (lv_at hl 3 rfl) ?_
            refine lv_iload hx hb d81_68 (lv_at hl 0 rfl) ?_
            refine lv_iconst (v := 1) hx hb d81_70 (by decide) ?_
            obtain ⟨q15, e9, hF⟩ := mm_bd hF
            refine ht_V (C := "MarkupStoreModel") (rest := []) (as := [.int q4.1, .int 1]) X hl (cm_f l D dA s0 hE h0 r M hM z0 q4.1 1 q14.2 q15 e9) (List.forall_mem_cons.mpr ⟨ms_k1587, List.forall_mem_cons.mpr ⟨ms_k1589, List.forall_mem_cons.mpr ⟨ms_p63, List.forall_mem_cons.mpr ⟨ms_k7, List.forall_mem_cons.mpr ⟨ms_k1590, fun _ h => absurd h List.not_mem_nil⟩⟩⟩⟩⟩) ⟨rfl, by decide +kernel, by decide +kernel, (by decide +kernel : (parseMethodDescriptor "(II)I").map (fun d => d.parameters.length) = some 2)⟩ (hm_recv hK I rfl mm_hr) I ⟨rfl, rfl⟩ ⟨⟨Nat.le_of_ble_eq_true rfl, Nat.le_of_ble_eq_true rfl⟩, Nat.le_of_ble_eq_true rfl, Nat.le_of_ble_eq_true rfl⟩ rfl (Nat.le_of_ble_eq_true rfl) d81_71 (fun vv h1 z1 H locs hR I9 => ?_)
            obtain ⟨e1, e2, e3⟩ := hR
            rw [e2, e3] at I9
            clear I e2 e3 e9
            have I := I9
            clear I9
            subst e1
            refine W.eq (g2 := F0 m 74 ls [.int q15.1]) rfl ?_
            refine lv_iconst (v := 2) hx hb d81_74 (by decide) ?_
            refine lv_icmp_ne hx hb d81_75 rfl (fun h9 => ?_) (fun h9 => ?_)
            · have hF := (if_neg h9).symm.trans hF
              exact b82 ls q1.1 q3.1 q4.1 q15.2 _ _ hF (hl.sub [3, 2, 1, 0] rfl) I
            · have hF := (if_pos h9).symm.trans hF
              refine lv_iconst (v := 1) hx hb d81_78 (by decide) ?_
              refine lv_goto hx hb d81_79 rfl ?_
              exact b83 ls q1.1 q3.1 q4.1 1 q15.2 _ _ hF (hl.sub [3, 2, 1, 0] rfl) I
    · have hF := (if_neg h9).symm.trans hF
      exact b19 ls q1.1 q2.2 _ _ hF (hl.sub [0] rfl) I

def g_replace_199 (x3 : Int32) (st : mT) : Option (Int32 × mT) := (mm_lt (mm_F st 7 0) (fun st2 => (mm_zc x3 (some (x3, st2)))))
def g_replace_175 (x2 : Int32) (x3 : Int32) (st : mT) : Option (Int32 × mT) := (if x3 = 0 then (g_replace_199 x3 st) else ((g_set x2 3 (st.1 7) st).bind (fun q3 => (mm_lt (mm_F q3 5 ((q3.1 5) + 1)) (fun st4 => (g_replace_199 x3 st4))))))
def g_replace_140 : Nat → Int32 → Int32 → Int32 → mT → Option (Int32 × mT)
  | 0, _, _, _, _ => none
  | n9 + 1, x2, x3, x4, st => (if (st.1 7) ≤ x4 then (g_replace_175 x2 x3 st) else (if x3 = 0 then (g_replace_175 x2 x3 st) else ((g_look x4 st).bind (fun q5 => ((g_set x2 (8 + x4) q5.1 q5.2).bind (fun q6 => ((g_replace_140 n9) x2 x3 (x4 + 1) q6)))))))
def g_replace_137 (x2 : Int32) (x3 : Int32) (st : mT) : Option (Int32 × mT) := (g_replace_140 mF x2 x3 0 st)
def g_replace_130 (k67 : Int32 → Int32 → Int32 → mT → Option (Int32 × mT)) (x2 : Int32) (x4 : Int32) (w0 : Int32) (st : mT) : Option (Int32 × mT) := (k67 x2 w0 (x4 + 1) st)
def g_replace_125 (k67 : Int32 → Int32 → Int32 → mT → Option (Int32 × mT)) (x2 : Int32) (x4 : Int32) (st : mT) : Option (Int32 × mT) := (g_replace_130 k67 x2 x4 1 st)
def g_replace_129 (k67 : Int32 → Int32 → Int32 → mT → Option (Int32 × mT)) (x2 : Int32) (x4 : Int32) (st : mT) : Option (Int32 × mT) := (g_replace_130 k67 x2 x4 0 st)
def g_replace_67 : Nat → Int32 → Int32 → Int32 → mT → Option (Int32 × mT)
  | 0, _, _, _, _ => none
  | n9 + 1, x2, x3, x4, st => (if (st.1 7) ≤ x4 then (g_replace_137 x2 x3 st) else (if x3 = 0 then (g_replace_137 x2 x3 st) else ((g_f x2 1 st).bind (fun q7 => (if q7.1 = 3 then ((g_look x4 q7.2).bind (fun q8 => (if q8.1 = 45 then (if (q8.2.1 7) ≤ (x4 + 1) then (g_replace_129 (g_replace_67 n9) x2 x4 q8.2) else ((g_look (x4 + 1) q8.2).bind (fun q9 => (if q9.1 = 45 then (g_replace_129 (g_replace_67 n9) x2 x4 q9.2) else (g_replace_125 (g_replace_67 n9) x2 x4 q9.2))))) else (g_replace_125 (g_replace_67 n9) x2 x4 q8.2)))) else (g_replace_137 x2 x3 q7.2))))))
def g_replace_64 (x2 : Int32) (x3 : Int32) (st : mT) : Option (Int32 × mT) := (g_replace_67 mF x2 x3 0 st)
def g_replace_63 (x2 : Int32) (w0 : Int32) (st : mT) : Option (Int32 × mT) := (g_replace_64 x2 w0 st)
def g_replace_31 (x2 : Int32) (w0 : Int32) (st : mT) : Option (Int32 × mT) := (if w0 = 0 then (g_replace_64 x2 w0 st) else ((g_f x2 1 st).bind (fun q10 => (if q10.1 = 1 then ((g_letters 0 q10.2).bind (fun q11 => (if q11.1 = (q11.2.1 7) then (g_replace_63 x2 1 q11.2) else (g_replace_63 x2 0 q11.2)))) else (g_replace_64 x2 w0 q10.2)))))
def g_replace_30 (x2 : Int32) (st : mT) : Option (Int32 × mT) := (g_replace_31 x2 0 st)
def g_replace (y1 : Int32) (st : mT) : Option (Int32 × mT) := ((g_place y1 st).bind (fun q1 => (if q1.1 < 0 then (g_replace_30 q1.1 q1.2) else (if (q1.2.1 7) ≤ 0 then (g_replace_30 q1.1 q1.2) else (if 20 < (q1.2.1 7) then (g_replace_30 q1.1 q1.2) else (g_replace_31 q1.1 1 q1.2))))))
set_option maxRecDepth 100000 in
set_option maxHeartbeats 8000000 in
theorem cm_replace (l : Launch) (D : va_G) (dA : Nat → ClassId) (s0 : State) (hE : ms_EV D dA s0) (h0 : hm_T) (r : Nat) (M : Nat → Nat) (hM : mm_ok r M) (z0 : hz_T) (y1 : Int32) (st : mT) (q : Int32 × mT) (hg : g_replace y1 st = some q) : ht_C l D s0 yM82 bM82 5 (Option.some Jvm.ClassFile.FieldType.boolean) 2 44 0 0 [.ref r, .int y1] (fun h z => h = mm_h dA h0 r M st ∧ z = z0) (fun h z vv h1 z1 => vv = some (.int q.1) ∧ h1 = mm_h dA h0 r M q.2 ∧ z1 = z0) := by
  refine ht_C.mk hE.1 (by decide) (Nat.le_of_ble_eq_true rfl) [(0, .ref r), (1, .int y1)] rfl ?_
  intro p e s m below meth c ls h z X hin hpre I hl
  have hx := X.1
  have hb := X.2.1
  have hml := X.2.2.1
  have hown : s.vm.findClass "MarkupStoreModel" = some m.cls := X.2.2.2.1
  have hts := X.2.2.2.2.2.2.1
  have hK := X.2.2.2.2.2.2.2.2.1
  rw [hpre.1, hpre.2] at I
  clear hpre
  have b199 : ∀ (ls : Array Slot) (x3 : Int32) (st : mT) (H : Heap) (locs : List Loc), g_replace_199 x3 st = some q → lv_has ls 5 [(0, .ref r), (3, .int x3)] → hm_I D s0 s (mm_h dA h0 r M st) z0 H locs → W p l e { frames := 2, cells := 0, slots := 0, locals := 44 } s m ([.ref r, .int y1] : List Value).toArray below meth c H locs 0 0 (MQ below (ht_Q D s0 (fun vv h1 z1 => vv = some (.int q.1) ∧ h1 = mm_h dA h0 r M q.2 ∧ z1 = z0)) ([.ref r, .int y1] : List Value).toArray s 0 0 (fun q => s0.heap.size ≤ q)) (F0 m 199 ls []) := by
    intro ls x3 st H locs hF hl I
    unfold g_replace_199 at hF
    refine lv_aload_n hx hb d82_199 rfl (lv_at hl 0 rfl) ?_
    refine lv_iconst (v := 0) hx hb d82_200 (by decide) ?_
    obtain ⟨st2, e9, hF⟩ := mm_lt_some hF
    refine mm_put (k := 7) (ty := .int) X I (by decide) ms_k1323 rfl rfl (by decide +kernel) ⟨rfl, rfl⟩ rfl e9 d82_201 (fun H locs I => ?_)
    clear e9
    refine lv_iload_n hx hb d82_204 rfl (lv_at hl 1 rfl) ?_
    obtain ⟨hz9, hF⟩ := mm_zc_some hF
    exact ht_zret X d82_205 I (Nat.le_of_ble_eq_true rfl) (Nat.le_of_ble_eq_true rfl) (mm_fin hF) hz9.1
  have b175 : ∀ (ls : Array Slot) (x2 : Int32) (x3 : Int32) (st : mT) (H : Heap) (locs : List Loc), g_replace_175 x2 x3 st = some q → lv_has ls 5 [(0, .ref r), (2, .int x2), (3, .int x3)] → hm_I D s0 s (mm_h dA h0 r M st) z0 H locs → W p l e { frames := 2, cells := 0, slots := 0, locals := 44 } s m ([.ref r, .int y1] : List Value).toArray below meth c H locs 0 0 (MQ below (ht_Q D s0 (fun vv h1 z1 => vv = some (.int q.1) ∧ h1 = mm_h dA h0 r M q.2 ∧ z1 = z0)) ([.ref r, .int y1] : List Value).toArray s 0 0 (fun q => s0.heap.size ≤ q)) (F0 m 175 ls []) := by
    intro ls x2 x3 st H locs hF hl I
    unfold g_replace_175 at hF
    refine lv_iload_n hx hb d82_175 rfl (lv_at hl 2 rfl) ?_
    refine lv_if_eq hx hb d82_176 rfl (fun h9 => ?_) (fun h9 => ?_)
    · have hF := (if_pos h9).symm.trans hF
      exact b199 ls x3 st _ _ hF (hl.sub [0, 2] rfl) I
    · have hF := (if_neg h9).symm.trans hF
      refine lv_aload_n hx hb d82_179 rfl (lv_at hl 0 rfl) ?_
      refine lv_iload_n hx hb d82_180 rfl (lv_at hl 1 rfl) ?_
      refine lv_iconst (v := 3) hx hb d82_181 (by decide) ?_
      refine lv_aload_n hx hb d82_182 rfl (lv_at hl 0 rfl) ?_
      refine va_get (D := D) (ci := 2) (v := .int (st.1 7)) (C := kR2) (T := kT2) (N := 60) hx hb hts ku2 hown hK (hm_one I.1 mm_hr) 0 rfl rfl 7 (by decide) (hts _ ms_k1323) (fun _ h => h) rfl d82_183 ?_
      obtain ⟨q3, e9, hF⟩ := mm_bd hF
      refine ht_V (C := "MarkupStoreModel") (rest := []) (as := [.int x2, .int 3, .int (st.1 7)]) X hl (cm_set l D dA s0 hE h0 r M hM z0 x2 3 (st.1 7) st q3 e9) (List.forall_mem_cons.mpr ⟨ms_k1575, List.forall_mem_cons.mpr ⟨ms_k1577, List.forall_mem_cons.mpr ⟨ms_p60, List.forall_mem_cons.mpr ⟨ms_k7, List.forall_mem_cons.mpr ⟨ms_k1578, fun _ h => absurd h List.not_mem_nil⟩⟩⟩⟩⟩) ⟨rfl, by decide +kernel, by decide +kernel, (by decide +kernel : (parseMethodDescriptor "(III)V").map (fun d => d.parameters.length) = some 3)⟩ (hm_recv hK I rfl mm_hr) I ⟨rfl, rfl⟩ ⟨⟨Nat.le_of_ble_eq_true rfl, Nat.le_of_ble_eq_true rfl⟩, Nat.le_of_ble_eq_true rfl, Nat.le_of_ble_eq_true rfl⟩ rfl (Nat.le_of_ble_eq_true rfl) d82_186 (fun vv h1 z1 H locs hR I9 => ?_)
      obtain ⟨e1, e2, e3⟩ := hR
      rw [e2, e3] at I9
      clear I e2 e3 e9
      have I := I9
      clear I9
      subst e1
      refine W.eq (g2 := F0 m 189 ls []) rfl ?_
      refine lv_aload_n hx hb d82_189 rfl (lv_at hl 0 rfl) ?_
      refine lv_dup hx hb d82_190 rfl ?_
      refine va_get (D := D) (ci := 2) (v := .int (q3.1 5)) (C := kR2) (T := kT2) (N := 60) hx hb hts ku2 hown hK (hm_one I.1 mm_hr) 0 rfl rfl 5 (by decide) (hts _ ms_k1321) (fun _ h => h) rfl d82_191 ?_
      refine lv_iconst (v := 1) hx hb d82_194 (by decide) ?_
      refine lv_iadd hx hb d82_195 ?_
      obtain ⟨st4, e9, hF⟩ := mm_lt_some hF
      refine mm_put (k := 5) (ty := .int) X I (by decide) ms_k1321 rfl rfl (by decide +kernel) ⟨rfl, rfl⟩ rfl e9 d82_196 (fun H locs I => ?_)
      clear e9
      exact b199 ls x3 st4 _ _ hF (hl.sub [0, 2] rfl) I
  have b140 : ∀ n9 : Nat, ∀ (ls : Array Slot) (x2 : Int32) (x3 : Int32) (x4 : Int32) (st : mT) (H : Heap) (locs : List Loc), g_replace_140 n9 x2 x3 x4 st = some q → lv_has ls 5 [(0, .ref r), (2, .int x2), (3, .int x3), (4, .int x4)] → hm_I D s0 s (mm_h dA h0 r M st) z0 H locs → W p l e { frames := 2, cells := 0, slots := 0, locals := 44 } s m ([.ref r, .int y1] : List Value).toArray below meth c H locs 0 0 (MQ below (ht_Q D s0 (fun vv h1 z1 => vv = some (.int q.1) ∧ h1 = mm_h dA h0 r M q.2 ∧ z1 = z0)) ([.ref r, .int y1] : List Value).toArray s 0 0 (fun q => s0.heap.size ≤ q)) (F0 m 140 ls []) := by
    intro n9
    induction n9 with
    | zero => intro ls x2 x3 x4 st H locs hF; cases hF
    | succ n9 hk140 =>
    intro ls x2 x3 x4 st H locs hF hl I
    unfold g_replace_140 at hF
    refine lv_iload hx hb d82_140 (lv_at hl 3 rfl) ?_
    refine lv_aload_n hx hb d82_142 rfl (lv_at hl 0 rfl) ?_
    refine va_get (D := D) (ci := 2) (v := .int (st.1 7)) (C := kR2) (T := kT2) (N := 60) hx hb hts ku2 hown hK (hm_one I.1 mm_hr) 0 rfl rfl 7 (by decide) (hts _ ms_k1323) (fun _ h => h) rfl d82_143 ?_
    refine lv_icmp_ge hx hb d82_146 rfl (fun h9 => ?_) (fun h9 => ?_)
    · have hF := (if_pos h9).symm.trans hF
      exact b175 ls x2 x3 st _ _ hF (hl.sub [0, 1, 2] rfl) I
    · have hF := (if_neg h9).symm.trans hF
      refine lv_iload_n hx hb d82_149 rfl (lv_at hl 2 rfl) ?_
      refine lv_if_eq hx hb d82_150 rfl (fun h9 => ?_) (fun h9 => ?_)
      · have hF := (if_pos h9).symm.trans hF
        exact b175 ls x2 x3 st _ _ hF (hl.sub [0, 1, 2] rfl) I
      · have hF := (if_neg h9).symm.trans hF
        refine lv_aload_n hx hb d82_153 rfl (lv_at hl 0 rfl) ?_
        refine lv_iload_n hx hb d82_154 rfl (lv_at hl 1 rfl) ?_
        refine lv_bipush (v := 8) hx hb d82_155 (by decide) ?_
        refine lv_iload hx hb d82_157 (lv_at hl 3 rfl) ?_
        refine lv_iadd hx hb d82_159 ?_
        refine lv_aload_n hx hb d82_160 rfl (lv_at hl 0 rfl) ?_
        refine lv_iload hx hb d82_161 (lv_at hl 3 rfl) ?_
        obtain ⟨q5, e9, hF⟩ := mm_bd hF
        refine ht_V (C := "MarkupStoreModel") (rest := [.int (8 + x4), .int x2, .ref r]) (as := [.int x4]) X hl (cm_look l D dA s0 hE h0 r M hM z0 x4 st q5 e9) (List.forall_mem_cons.mpr ⟨ms_k1516, List.forall_mem_cons.mpr ⟨ms_k1518, List.forall_mem_cons.mpr ⟨ms_p46, List.forall_mem_cons.mpr ⟨ms_k7, List.forall_mem_cons.mpr ⟨ms_k1519, fun _ h => absurd h List.not_mem_nil⟩⟩⟩⟩⟩) ⟨rfl, by decide +kernel, by decide +kernel, (by decide +kernel : (parseMethodDescriptor "(I)C").map (fun d => d.parameters.length) = some 1)⟩ (hm_recv hK I rfl mm_hr) I ⟨rfl, rfl⟩ ⟨⟨Nat.le_of_ble_eq_true rfl, Nat.le_of_ble_eq_true rfl⟩, Nat.le_of_ble_eq_true rfl, Nat.le_of_ble_eq_true rfl⟩ rfl (Nat.le_of_ble_eq_true rfl) d82_163 (fun vv h1 z1 H locs hR I9 => ?_)
        obtain ⟨e1, e2, e3⟩ := hR
        rw [e2, e3] at I9
        clear I e2 e3 e9
        have I := I9
        clear I9
        subst e1
        refine W.eq (g2 := F0 m 166 ls [.int q5.1, .int (8 + x4), .int x2, .ref r]) rfl ?_
        obtain ⟨q6, e9, hF⟩ := mm_bd hF
        refine ht_V (C := "MarkupStoreModel") (rest := []) (as := [.int x2, .int (8 + x4), .int q5.1]) X hl (cm_set l D dA s0 hE h0 r M hM z0 x2 (8 + x4) q5.1 q5.2 q6 e9) (List.forall_mem_cons.mpr ⟨ms_k1575, List.forall_mem_cons.mpr ⟨ms_k1577, List.forall_mem_cons.mpr ⟨ms_p60, List.forall_mem_cons.mpr ⟨ms_k7, List.forall_mem_cons.mpr ⟨ms_k1578, fun _ h => absurd h List.not_mem_nil⟩⟩⟩⟩⟩) ⟨rfl, by decide +kernel, by decide +kernel, (by decide +kernel : (parseMethodDescriptor "(III)V").map (fun d => d.parameters.length) = some 3)⟩ (hm_recv hK I rfl mm_hr) I ⟨rfl, rfl⟩ ⟨⟨Nat.le_of_ble_eq_true rfl, Nat.le_of_ble_eq_true rfl⟩, Nat.le_of_ble_eq_true rfl, Nat.le_of_ble_eq_true rfl⟩ rfl (Nat.le_of_ble_eq_true rfl) d82_166 (fun vv h1 z1 H locs hR I9 => ?_)
        obtain ⟨e1, e2, e3⟩ := hR
        rw [e2, e3] at I9
        clear I e2 e3 e9
        have I := I9
        clear I9
        subst e1
        refine W.eq (g2 := F0 m 169 ls []) rfl ?_
        refine lv_iinc (k := 3) (v := (x4 + 1)) hx hb d82_169 hl rfl (rfl) (by decide) rfl (fun ls hl => ?_)
        have hl : lv_has ls 5 [(4, .int (x4 + 1)), (0, .ref r), (2, .int x2), (3, .int x3)] := hl
        refine lv_goto hx hb d82_172 rfl ?_
        exact hk140 ls x2 x3 (x4 + 1) q6 _ _ hF (hl.sub [1, 2, 3, 0] rfl) I
  have b137 : ∀ (ls : Array Slot) (x2 : Int32) (x3 : Int32) (st : mT) (H : Heap) (locs : List Loc), g_replace_137 x2 x3 st = some q → lv_has ls 5 [(0, .ref r), (2, .int x2), (3, .int x3)] → hm_I D s0 s (mm_h dA h0 r M st) z0 H locs → W p l e { frames := 2, cells := 0, slots := 0, locals := 44 } s m ([.ref r, .int y1] : List Value).toArray below meth c H locs 0 0 (MQ below (ht_Q D s0 (fun vv h1 z1 => vv = some (.int q.1) ∧ h1 = mm_h dA h0 r M q.2 ∧ z1 = z0)) ([.ref r, .int y1] : List Value).toArray s 0 0 (fun q => s0.heap.size ≤ q)) (F0 m 137 ls []) := by
    intro ls x2 x3 st H locs hF hl I
    unfold g_replace_137 at hF
    refine lv_iconst (v := 0) hx hb d82_137 (by decide) ?_
    refine lv_istore hx hb d82_138 hl (by decide) rfl (fun ls hl => ?_)
    have hl : lv_has ls 5 [(4, .int 0), (0, .ref r), (2, .int x2), (3, .int x3)] := hl
    exact b140 mF ls x2 x3 0 st _ _ hF (hl.sub [1, 2, 3, 0] rfl) I
  have b130 : ∀ (k67 : Int32 → Int32 → Int32 → mT → Option (Int32 × mT)), (∀ (ls : Array Slot) (x2 : Int32) (x3 : Int32) (x4 : Int32) (st : mT) (H : Heap) (locs : List Loc), k67 x2 x3 x4 st = some q → lv_has ls 5 [(0, .ref r), (2, .int x2), (3, .int x3), (4, .int x4)] → hm_I D s0 s (mm_h dA h0 r M st) z0 H locs → W p l e { frames := 2, cells := 0, slots := 0, locals := 44 } s m ([.ref r, .int y1] : List Value).toArray below meth c H locs 0 0 (MQ below (ht_Q D s0 (fun vv h1 z1 => vv = some (.int q.1) ∧ h1 = mm_h dA h0 r M q.2 ∧ z1 = z0)) ([.ref r, .int y1] : List Value).toArray s 0 0 (fun q => s0.heap.size ≤ q)) (F0 m 67 ls [])) → ∀ (ls : Array Slot) (x2 : Int32) (x4 : Int32) (w0 : Int32) (st : mT) (H : Heap) (locs : List Loc), g_replace_130 k67 x2 x4 w0 st = some q → lv_has ls 5 [(0, .ref r), (2, .int x2), (4, .int x4)] → hm_I D s0 s (mm_h dA h0 r M st) z0 H locs → W p l e { frames := 2, cells := 0, slots := 0, locals := 44 } s m ([.ref r, .int y1] : List Value).toArray below meth c H locs 0 0 (MQ below (ht_Q D s0 (fun vv h1 z1 => vv = some (.int q.1) ∧ h1 = mm_h dA h0 r M q.2 ∧ z1 = z0)) ([.ref r, .int y1] : List Value).toArray s 0 0 (fun q => s0.heap.size ≤ q)) (F0 m 130 ls [.int w0]) := by
    intro k67 hk67 ls x2 x4 w0 st H locs hF hl I
    unfold g_replace_130 at hF
    refine lv_istore_n hx hb d82_130 rfl hl (by decide) rfl (fun ls hl => ?_)
    have hl : lv_has ls 5 [(3, .int w0), (0, .ref r), (2, .int x2), (4, .int x4)] := hl
    refine lv_iinc (k := 3) (v := (x4 + 1)) hx hb d82_131 hl rfl (rfl) (by decide) rfl (fun ls hl => ?_)
    have hl : lv_has ls 5 [(4, .int (x4 + 1)), (3, .int w0), (0, .ref r), (2, .int x2)] := hl
    refine lv_goto hx hb d82_134 rfl ?_
    exact hk67 ls x2 w0 (x4 + 1) st _ _ hF (hl.sub [2, 3, 1, 0] rfl) I
  have b125 : ∀ (k67 : Int32 → Int32 → Int32 → mT → Option (Int32 × mT)), (∀ (ls : Array Slot) (x2 : Int32) (x3 : Int32) (x4 : Int32) (st : mT) (H : Heap) (locs : List Loc), k67 x2 x3 x4 st = some q → lv_has ls 5 [(0, .ref r), (2, .int x2), (3, .int x3), (4, .int x4)] → hm_I D s0 s (mm_h dA h0 r M st) z0 H locs → W p l e { frames := 2, cells := 0, slots := 0, locals := 44 } s m ([.ref r, .int y1] : List Value).toArray below meth c H locs 0 0 (MQ below (ht_Q D s0 (fun vv h1 z1 => vv = some (.int q.1) ∧ h1 = mm_h dA h0 r M q.2 ∧ z1 = z0)) ([.ref r, .int y1] : List Value).toArray s 0 0 (fun q => s0.heap.size ≤ q)) (F0 m 67 ls [])) → ∀ (ls : Array Slot) (x2 : Int32) (x4 : Int32) (st : mT) (H : Heap) (locs : List Loc), g_replace_125 k67 x2 x4 st = some q → lv_has ls 5 [(0, .ref r), (2, .int x2), (4, .int x4)] → hm_I D s0 s (mm_h dA h0 r M st) z0 H locs → W p l e { frames := 2, cells := 0, slots := 0, locals := 44 } s m ([.ref r, .int y1] : List Value).toArray below meth c H locs 0 0 (MQ below (ht_Q D s0 (fun vv h1 z1 => vv = some (.int q.1) ∧ h1 = mm_h dA h0 r M q.2 ∧ z1 = z0)) ([.ref r, .int y1] : List Value).toArray s 0 0 (fun q => s0.heap.size ≤ q)) (F0 m 125 ls []) := by
    intro k67 hk67 ls x2 x4 st H locs hF hl I
    unfold g_replace_125 at hF
    refine lv_iconst (v := 1) hx hb d82_125 (by decide) ?_
    refine lv_goto hx hb d82_126 rfl ?_
    exact b130 k67 hk67 ls x2 x4 1 st _ _ hF (hl.sub [0, 1, 2] rfl) I
  have b129 : ∀ (k67 : Int32 → Int32 → Int32 → mT → Option (Int32 × mT)), (∀ (ls : Array Slot) (x2 : Int32) (x3 : Int32) (x4 : Int32) (st : mT) (H : Heap) (locs : List Loc), k67 x2 x3 x4 st = some q → lv_has ls 5 [(0, .ref r), (2, .int x2), (3, .int x3), (4, .int x4)] → hm_I D s0 s (mm_h dA h0 r M st) z0 H locs → W p l e { frames := 2, cells := 0, slots := 0, locals := 44 } s m ([.ref r, .int y1] : List Value).toArray below meth c H locs 0 0 (MQ below (ht_Q D s0 (fun vv h1 z1 => vv = some (.int q.1) ∧ h1 = mm_h dA h0 r M q.2 ∧ z1 = z0)) ([.ref r, .int y1] : List Value).toArray s 0 0 (fun q => s0.heap.size ≤ q)) (F0 m 67 ls [])) → ∀ (ls : Array Slot) (x2 : Int32) (x4 : Int32) (st : mT) (H : Heap) (locs : List Loc), g_replace_129 k67 x2 x4 st = some q → lv_has ls 5 [(0, .ref r), (2, .int x2), (4, .int x4)] → hm_I D s0 s (mm_h dA h0 r M st) z0 H locs → W p l e { frames := 2, cells := 0, slots := 0, locals := 44 } s m ([.ref r, .int y1] : List Value).toArray below meth c H locs 0 0 (MQ below (ht_Q D s0 (fun vv h1 z1 => vv = some (.int q.1) ∧ h1 = mm_h dA h0 r M q.2 ∧ z1 = z0)) ([.ref r, .int y1] : List Value).toArray s 0 0 (fun q => s0.heap.size ≤ q)) (F0 m 129 ls []) := by
    intro k67 hk67 ls x2 x4 st H locs hF hl I
    unfold g_replace_129 at hF
    refine lv_iconst (v := 0) hx hb d82_129 (by decide) ?_
    exact b130 k67 hk67 ls x2 x4 0 st _ _ hF (hl.sub [0, 1, 2] rfl) I
  have b67 : ∀ n9 : Nat, ∀ (ls : Array Slot) (x2 : Int32) (x3 : Int32) (x4 : Int32) (st : mT) (H : Heap) (locs : List Loc), g_replace_67 n9 x2 x3 x4 st = some q → lv_has ls 5 [(0, .ref r), (2, .int x2), (3, .int x3), (4, .int x4)] → hm_I D s0 s (mm_h dA h0 r M st) z0 H locs → W p l e { frames := 2, cells := 0, slots := 0, locals := 44 } s m ([.ref r, .int y1] : List Value).toArray below meth c H locs 0 0 (MQ below (ht_Q D s0 (fun vv h1 z1 => vv = some (.int q.1) ∧ h1 = mm_h dA h0 r M q.2 ∧ z1 = z0)) ([.ref r, .int y1] : List Value).toArray s 0 0 (fun q => s0.heap.size ≤ q)) (F0 m 67 ls []) := by
    intro n9
    induction n9 with
    | zero => intro ls x2 x3 x4 st H locs hF; cases hF
    | succ n9 hk67 =>
    intro ls x2 x3 x4 st H locs hF hl I
    unfold g_replace_67 at hF
    refine lv_iload hx hb d82_67 (lv_at hl 3 rfl) ?_
    refine lv_aload_n hx hb d82_69 rfl (lv_at hl 0 rfl) ?_
    refine va_get (D := D) (ci := 2) (v := .int (st.1 7)) (C := kR2) (T := kT2) (N := 60) hx hb hts ku2 hown hK (hm_one I.1 mm_hr) 0 rfl rfl 7 (by decide) (hts _ ms_k1323) (fun _ h => h) rfl d82_70 ?_
    refine lv_icmp_ge hx hb d82_73 rfl (fun h9 => ?_) (fun h9 => ?_)
    · have hF := (if_pos h9).symm.trans hF
      exact b137 ls x2 x3 st _ _ hF (hl.sub [0, 1, 2] rfl) I
    · have hF := (if_neg h9).symm.trans hF
      refine lv_iload_n hx hb d82_76 rfl (lv_at hl 2 rfl) ?_
      refine lv_if_eq hx hb d82_77 rfl (fun h9 => ?_) (fun h9 => ?_)
      · have hF := (if_pos h9).symm.trans hF
        exact b137 ls x2 x3 st _ _ hF (hl.sub [0, 1, 2] rfl) I
      · have hF := (if_neg h9).symm.trans hF
        refine lv_aload_n hx hb d82_80 rfl (lv_at hl 0 rfl) ?_
        refine lv_iload_n hx hb d82_81 rfl (lv_at hl 1 rfl) ?_
        refine lv_iconst (v := 1) hx hb d82_82 (by decide) ?_
        obtain ⟨q7, e9, hF⟩ := mm_bd hF
        refine ht_V (C := "MarkupStoreModel") (rest := []) (as := [.int x2, .int 1]) X hl (cm_f l D dA s0 hE h0 r M hM z0 x2 1 st q7 e9) (List.forall_mem_cons.mpr ⟨ms_k1587, List.forall_mem_cons.mpr ⟨ms_k1589, List.forall_mem_cons.mpr ⟨ms_p63, List.forall_mem_cons.mpr ⟨ms_k7, List.forall_mem_cons.mpr ⟨ms_k1590, fun _ h => absurd h List.not_mem_nil⟩⟩⟩⟩⟩) ⟨rfl, by decide +kernel, by decide +kernel, (by decide +kernel : (parseMethodDescriptor "(II)I").map (fun d => d.parameters.length) = some 2)⟩ (hm_recv hK I rfl mm_hr) I ⟨rfl, rfl⟩ ⟨⟨Nat.le_of_ble_eq_true rfl, Nat.le_of_ble_eq_true rfl⟩, Nat.le_of_ble_eq_true rfl, Nat.le_of_ble_eq_true rfl⟩ rfl (Nat.le_of_ble_eq_true rfl) d82_83 (fun vv h1 z1 H locs hR I9 => ?_)
        obtain ⟨e1, e2, e3⟩ := hR
        rw [e2, e3] at I9
        clear I e2 e3 e9
        have I := I9
        clear I9
        subst e1
        refine W.eq (g2 := F0 m 86 ls [.int q7.1]) rfl ?_
        refine lv_iconst (v := 3) hx hb d82_86 (by decide) ?_
        refine lv_icmp_ne hx hb d82_87 rfl (fun h9 => ?_) (fun h9 => ?_)
        · have hF := (if_neg h9).symm.trans hF
          exact b137 ls x2 x3 q7.2 _ _ hF (hl.sub [0, 1, 2] rfl) I
        · have hF := (if_pos h9).symm.trans hF
          refine lv_aload_n hx hb d82_90 rfl (lv_at hl 0 rfl) ?_
          refine lv_iload hx hb d82_91 (lv_at hl 3 rfl) ?_
          obtain ⟨q8, e9, hF⟩ := mm_bd hF
          refine ht_V (C := "MarkupStoreModel") (rest := []) (as := [.int x4]) X hl (cm_look l D dA s0 hE h0 r M hM z0 x4 q7.2 q8 e9) (List.forall_mem_cons.mpr ⟨ms_k1516, List.forall_mem_cons.mpr ⟨ms_k1518, List.forall_mem_cons.mpr ⟨ms_p46, List.forall_mem_cons.mpr ⟨ms_k7, List.forall_mem_cons.mpr ⟨ms_k1519, fun _ h => absurd h List.not_mem_nil⟩⟩⟩⟩⟩) ⟨rfl, by decide +kernel, by decide +kernel, (by decide +kernel : (parseMethodDescriptor "(I)C").map (fun d => d.parameters.length) = some 1)⟩ (hm_recv hK I rfl mm_hr) I ⟨rfl, rfl⟩ ⟨⟨Nat.le_of_ble_eq_true rfl, Nat.le_of_ble_eq_true rfl⟩, Nat.le_of_ble_eq_true rfl, Nat.le_of_ble_eq_true rfl⟩ rfl (Nat.le_of_ble_eq_true rfl) d82_93 (fun vv h1 z1 H locs hR I9 => ?_)
          obtain ⟨e1, e2, e3⟩ := hR
          rw [e2, e3] at I9
          clear I e2 e3 e9
          have I := I9
          clear I9
          subst e1
          refine W.eq (g2 := F0 m 96 ls [.int q8.1]) rfl ?_
          refine lv_bipush (v := 45) hx hb d82_96 (by decide) ?_
          refine lv_icmp_ne hx hb d82_98 rfl (fun h9 => ?_) (fun h9 => ?_)
          · have hF := (if_neg h9).symm.trans hF
            exact b125 (g_replace_67 n9) hk67 ls x2 x4 q8.2 _ _ hF (hl.sub [0, 1, 3] rfl) I
          · have hF := (if_pos h9).symm.trans hF
            refine lv_iload hx hb d82_101 (lv_at hl 3 rfl) ?_
            refine lv_iconst (v := 1) hx hb d82_103 (by decide) ?_
            refine lv_iadd hx hb d82_104 ?_
            refine lv_aload_n hx hb d82_105 rfl (lv_at hl 0 rfl) ?_
            refine va_get (D := D) (ci := 2) (v := .int (q8.2.1 7)) (C := kR2) (T := kT2) (N := 60) hx hb hts ku2 hown hK (hm_one I.1 mm_hr) 0 rfl rfl 7 (by decide) (hts _ ms_k1323) (fun _ h => h) rfl d82_106 ?_
            refine lv_icmp_ge hx hb d82_109 rfl (fun h9 => ?_) (fun h9 => ?_)
            · have hF := (if_pos h9).symm.trans hF
              exact b129 (g_replace_67 n9) hk67 ls x2 x4 q8.2 _ _ hF (hl.sub [0, 1, 3] rfl) I
            · have hF := (if_neg h9).symm.trans hF
              refine lv_aload_n hx hb d82_112 rfl (lv_at hl 0 rfl) ?_
              refine lv_iload hx hb d82_113 (lv_at hl 3 rfl) ?_
              refine lv_iconst (v := 1) hx hb d82_115 (by decide) ?_
              refine lv_iadd hx hb d82_116 ?_
              obtain ⟨q9, e9, hF⟩ := mm_bd hF
              refine ht_V (C := "MarkupStoreModel") (rest := []) (as := [.int (x4 + 1)]) X hl (cm_look l D dA s0 hE h0 r M hM z0 (x4 + 1) q8.2 q9 e9) (List.forall_mem_cons.mpr ⟨ms_k1516, List.forall_mem_cons.mpr ⟨ms_k1518, List.forall_mem_cons.mpr ⟨ms_p46, List.forall_mem_cons.mpr ⟨ms_k7, List.forall_mem_cons.mpr ⟨ms_k1519, fun _ h => absurd h List.not_mem_nil⟩⟩⟩⟩⟩) ⟨rfl, by decide +kernel, by decide +kernel, (by decide +kernel : (parseMethodDescriptor "(I)C").map (fun d => d.parameters.length) = some 1)⟩ (hm_recv hK I rfl mm_hr) I ⟨rfl, rfl⟩ ⟨⟨Nat.le_of_ble_eq_true rfl, Nat.le_of_ble_eq_true rfl⟩, Nat.le_of_ble_eq_true rfl, Nat.le_of_ble_eq_true rfl⟩ rfl (Nat.le_of_ble_eq_true rfl) d82_117 (fun vv h1 z1 H locs hR I9 => ?_)
              obtain ⟨e1, e2, e3⟩ := hR
              rw [e2, e3] at I9
              clear I e2 e3 e9
              have I := I9
              clear I9
              subst e1
              refine W.eq (g2 := F0 m 120 ls [.int q9.1]) rfl ?_
              refine lv_bipush (v := 45) hx hb d82_120 (by decide) ?_
              refine lv_icmp_eq hx hb d82_122 rfl (fun h9 => ?_) (fun h9 => ?_)
              · have hF := (if_pos h9).symm.trans hF
                exact b129 (g_replace_67 n9) hk67 ls x2 x4 q9.2 _ _ hF (hl.sub [0, 1, 3] rfl) I
              · have hF := (if_neg h9).symm.trans hF
                exact b125 (g_replace_67 n9) hk67 ls x2 x4 q9.2 _ _ hF (hl.sub [0, 1, 3] rfl) I
  have b64 : ∀ (ls : Array Slot) (x2 : Int32) (x3 : Int32) (st : mT) (H : Heap) (locs : List Loc), g_replace_64 x2 x3 st = some q → lv_has ls 5 [(0, .ref r), (2, .int x2), (3, .int x3)] → hm_I D s0 s (mm_h dA h0 r M st) z0 H locs → W p l e { frames := 2, cells := 0, slots := 0, locals := 44 } s m ([.ref r, .int y1] : List Value).toArray below meth c H locs 0 0 (MQ below (ht_Q D s0 (fun vv h1 z1 => vv = some (.int q.1) ∧ h1 = mm_h dA h0 r M q.2 ∧ z1 = z0)) ([.ref r, .int y1] : List Value).toArray s 0 0 (fun q => s0.heap.size ≤ q)) (F0 m 64 ls []) := by
    intro ls x2 x3 st H locs hF hl I
    unfold g_replace_64 at hF
    refine lv_iconst (v := 0) hx hb d82_64 (by decide) ?_
    refine lv_istore hx hb d82_65 hl (by decide) rfl (fun ls hl => ?_)
    have hl : lv_has ls 5 [(4, .int 0), (0, .ref r), (2, .int x2), (3, .int x3)] := hl
    exact b67 mF ls x2 x3 0 st _ _ hF (hl.sub [1, 2, 3, 0] rfl) I
  have b63 : ∀ (ls : Array Slot) (x2 : Int32) (w0 : Int32) (st : mT) (H : Heap) (locs : List Loc), g_replace_63 x2 w0 st = some q → lv_has ls 5 [(0, .ref r), (2, .int x2)] → hm_I D s0 s (mm_h dA h0 r M st) z0 H locs → W p l e { frames := 2, cells := 0, slots := 0, locals := 44 } s m ([.ref r, .int y1] : List Value).toArray below meth c H locs 0 0 (MQ below (ht_Q D s0 (fun vv h1 z1 => vv = some (.int q.1) ∧ h1 = mm_h dA h0 r M q.2 ∧ z1 = z0)) ([.ref r, .int y1] : List Value).toArray s 0 0 (fun q => s0.heap.size ≤ q)) (F0 m 63 ls [.int w0]) := by
    intro ls x2 w0 st H locs hF hl I
    unfold g_replace_63 at hF
    refine lv_istore_n hx hb d82_63 rfl hl (by decide) rfl (fun ls hl => ?_)
    have hl : lv_has ls 5 [(3, .int w0), (0, .ref r), (2, .int x2)] := hl
    exact b64 ls x2 w0 st _ _ hF (hl.sub [1, 2, 0] rfl) I
  have b31 : ∀ (ls : Array Slot) (x2 : Int32) (w0 : Int32) (st : mT) (H : Heap) (locs : List Loc), g_replace_31 x2 w0 st = some q → lv_has ls 5 [(0, .ref r), (2, .int x2)] → hm_I D s0 s (mm_h dA h0 r M st) z0 H locs → W p l e { frames := 2, cells := 0, slots := 0, locals := 44 } s m ([.ref r, .int y1] : List Value).toArray below meth c H locs 0 0 (MQ below (ht_Q D s0 (fun vv h1 z1 => vv = some (.int q.1) ∧ h1 = mm_h dA h0 r M q.2 ∧ z1 = z0)) ([.ref r, .int y1] : List Value).toArray s 0 0 (fun q => s0.heap.size ≤ q)) (F0 m 31 ls [.int w0]) := by
    intro ls x2 w0 st H locs hF hl I
    unfold g_replace_31 at hF
    refine lv_istore_n hx hb d82_31 rfl hl (by decide) rfl (fun ls hl => ?_)
    have hl : lv_has ls 5 [(3, .int w0), (0, .ref r), (2, .int x2)] := hl
    refine lv_iload_n hx hb d82_32 rfl (lv_at hl 0 rfl) ?_
    refine lv_if_eq hx hb d82_33 rfl (fun h9 => ?_) (fun h9 => ?_)
    · have hF := (if_pos h9).symm.trans hF
      exact b64 ls x2 w0 st _ _ hF (hl.sub [1, 2, 0] rfl) I
    · have hF := (if_neg h9).symm.trans hF
      refine lv_aload_n hx hb d82_36 rfl (lv_at hl 1 rfl) ?_
      refine lv_iload_n hx hb d82_37 rfl (lv_at hl 2 rfl) ?_
      refine lv_iconst (v := 1) hx hb d82_38 (by decide) ?_
      obtain ⟨q10, e9, hF⟩ := mm_bd hF
      refine ht_V (C := "MarkupStoreModel") (rest := []) (as := [.int x2, .int 1]) X hl (cm_f l D dA s0 hE h0 r M hM z0 x2 1 st q10 e9) (List.forall_mem_cons.mpr ⟨ms_k1587, List.forall_mem_cons.mpr ⟨ms_k1589, List.forall_mem_cons.mpr ⟨ms_p63, List.forall_mem_cons.mpr ⟨ms_k7, List.forall_mem_cons.mpr ⟨ms_k1590, fun _ h => absurd h List.not_mem_nil⟩⟩⟩⟩⟩) ⟨rfl, by decide +kernel, by decide +kernel, (by decide +kernel : (parseMethodDescriptor "(II)I").map (fun d => d.parameters.length) = some 2)⟩ (hm_recv hK I rfl mm_hr) I ⟨rfl, rfl⟩ ⟨⟨Nat.le_of_ble_eq_true rfl, Nat.le_of_ble_eq_true rfl⟩, Nat.le_of_ble_eq_true rfl, Nat.le_of_ble_eq_true rfl⟩ rfl (Nat.le_of_ble_eq_true rfl) d82_39 (fun vv h1 z1 H locs hR I9 => ?_)
      obtain ⟨e1, e2, e3⟩ := hR
      rw [e2, e3] at I9
      clear I e2 e3 e9
      have I := I9
      clear I9
      subst e1
      refine W.eq (g2 := F0 m 42 ls [.int q10.1]) rfl ?_
      refine lv_iconst (v := 1) hx hb d82_42 (by decide) ?_
      refine lv_icmp_ne hx hb d82_43 rfl (fun h9 => ?_) (fun h9 => ?_)
      · have hF := (if_neg h9).symm.trans hF
        exact b64 ls x2 w0 q10.2 _ _ hF (hl.sub [1, 2, 0] rfl) I
      · have hF := (if_pos h9).symm.trans hF
        refine lv_aload_n hx hb d82_46 rfl (lv_at hl 1 rfl) ?_
        refine lv_iconst (v := 0) hx hb d82_47 (by decide) ?_
        obtain ⟨q11, e9, hF⟩ := mm_bd hF
        refine ht_V (C := "MarkupStoreModel") (rest := []) (as := [.int 0]) X hl (cm_letters l D dA s0 hE h0 r M hM z0 0 q10.2 q11 e9) (List.forall_mem_cons.mpr ⟨ms_k1539, List.forall_mem_cons.mpr ⟨ms_k1541, List.forall_mem_cons.mpr ⟨ms_p51, List.forall_mem_cons.mpr ⟨ms_k7, List.forall_mem_cons.mpr ⟨ms_k1542, fun _ h => absurd h List.not_mem_nil⟩⟩⟩⟩⟩) ⟨rfl, by decide +kernel, by decide +kernel, (by decide +kernel : (parseMethodDescriptor "(I)I").map (fun d => d.parameters.length) = some 1)⟩ (hm_recv hK I rfl mm_hr) I ⟨rfl, rfl⟩ ⟨⟨Nat.le_of_ble_eq_true rfl, Nat.le_of_ble_eq_true rfl⟩, Nat.le_of_ble_eq_true rfl, Nat.le_of_ble_eq_true rfl⟩ rfl (Nat.le_of_ble_eq_true rfl) d82_48 (fun vv h1 z1 H locs hR I9 => ?_)
        obtain ⟨e1, e2, e3⟩ := hR
        rw [e2, e3] at I9
        clear I e2 e3 e9
        have I := I9
        clear I9
        subst e1
        refine W.eq (g2 := F0 m 51 ls [.int q11.1]) rfl ?_
        refine lv_aload_n hx hb d82_51 rfl (lv_at hl 1 rfl) ?_
        refine va_get (D := D) (ci := 2) (v := .int (q11.2.1 7)) (C := kR2) (T := kT2) (N := 60) hx hb hts ku2 hown hK (hm_one I.1 mm_hr) 0 rfl rfl 7 (by decide) (hts _ ms_k1323) (fun _ h => h) rfl d82_52 ?_
        refine lv_icmp_ne hx hb d82_55 rfl (fun h9 => ?_) (fun h9 => ?_)
        · have hF := (if_neg h9).symm.trans hF
          refine lv_iconst (v := 0) hx hb d82_62 (by decide) ?_
          exact b63 ls x2 0 q11.2 _ _ hF (hl.sub [1, 2] rfl) I
        · have hF := (if_pos h9).symm.trans hF
          refine lv_iconst (v := 1) hx hb d82_58 (by decide) ?_
          refine lv_goto hx hb d82_59 rfl ?_
          exact b63 ls x2 1 q11.2 _ _ hF (hl.sub [1, 2] rfl) I
  have b30 : ∀ (ls : Array Slot) (x2 : Int32) (st : mT) (H : Heap) (locs : List Loc), g_replace_30 x2 st = some q → lv_has ls 5 [(0, .ref r), (2, .int x2)] → hm_I D s0 s (mm_h dA h0 r M st) z0 H locs → W p l e { frames := 2, cells := 0, slots := 0, locals := 44 } s m ([.ref r, .int y1] : List Value).toArray below meth c H locs 0 0 (MQ below (ht_Q D s0 (fun vv h1 z1 => vv = some (.int q.1) ∧ h1 = mm_h dA h0 r M q.2 ∧ z1 = z0)) ([.ref r, .int y1] : List Value).toArray s 0 0 (fun q => s0.heap.size ≤ q)) (F0 m 30 ls []) := by
    intro ls x2 st H locs hF hl I
    unfold g_replace_30 at hF
    refine lv_iconst (v := 0) hx hb d82_30 (by decide) ?_
    exact b31 ls x2 0 st _ _ hF (hl.sub [0, 1] rfl) I
  have hF := hg
  unfold g_replace at hF
  refine lv_aload_n hx hb d82_0 rfl (lv_at hl 0 rfl) ?_
  refine lv_iload_n hx hb d82_1 rfl (lv_at hl 1 rfl) ?_
  obtain ⟨q1, e9, hF⟩ := mm_bd hF
  refine ht_V (C := "MarkupStoreModel") (rest := []) (as := [.int y1]) X hl (cm_place l D dA s0 hE h0 r M hM z0 y1 st q1 e9) (List.forall_mem_cons.mpr ⟨ms_k1603, List.forall_mem_cons.mpr ⟨ms_k1605, List.forall_mem_cons.mpr ⟨ms_p66, List.forall_mem_cons.mpr ⟨ms_k7, List.forall_mem_cons.mpr ⟨ms_k1606, fun _ h => absurd h List.not_mem_nil⟩⟩⟩⟩⟩) ⟨rfl, by decide +kernel, by decide +kernel, (by decide +kernel : (parseMethodDescriptor "(I)I").map (fun d => d.parameters.length) = some 1)⟩ (hm_recv hK I rfl mm_hr) I ⟨rfl, rfl⟩ ⟨⟨Nat.le_of_ble_eq_true rfl, Nat.le_of_ble_eq_true rfl⟩, Nat.le_of_ble_eq_true rfl, Nat.le_of_ble_eq_true rfl⟩ rfl (Nat.le_of_ble_eq_true rfl) d82_2 (fun vv h1 z1 H locs hR I9 => ?_)
  obtain ⟨e1, e2, e3⟩ := hR
  rw [e2, e3] at I9
  clear I e2 e3 e9
  have I := I9
  clear I9
  subst e1
  refine W.eq (g2 := F0 m 5 ls [.int q1.1]) rfl ?_
  refine lv_istore_n hx hb d82_5 rfl hl (by decide) rfl (fun ls hl => ?_)
  have hl : lv_has ls 5 [(2, .int q1.1), (0, .ref r), (1, .int y1)] := hl
  refine lv_iload_n hx hb d82_6 rfl (lv_at hl 0 rfl) ?_
  refine lv_if_lt hx hb d82_7 rfl (fun h9 => ?_) (fun h9 => ?_)
  · have hF := (if_pos h9).symm.trans hF
    exact b30 ls q1.1 q1.2 _ _ hF (hl.sub [1, 0] rfl) I
  · have hF := (if_neg h9).symm.trans hF
    refine lv_aload_n hx hb d82_10 rfl (lv_at hl 1 rfl) ?_
    refine va_get (D := D) (ci := 2) (v := .int (q1.2.1 7)) (C := kR2) (T := kT2) (N := 60) hx hb hts ku2 hown hK (hm_one I.1 mm_hr) 0 rfl rfl 7 (by decide) (hts _ ms_k1323) (fun _ h => h) rfl d82_11 ?_
    refine lv_if_le hx hb d82_14 rfl (fun h9 => ?_) (fun h9 => ?_)
    · have hF := (if_pos h9).symm.trans hF
      exact b30 ls q1.1 q1.2 _ _ hF (hl.sub [1, 0] rfl) I
    · have hF := (if_neg h9).symm.trans hF
      refine lv_aload_n hx hb d82_17 rfl (lv_at hl 1 rfl) ?_
      refine va_get (D := D) (ci := 2) (v := .int (q1.2.1 7)) (C := kR2) (T := kT2) (N := 60) hx hb hts ku2 hown hK (hm_one I.1 mm_hr) 0 rfl rfl 7 (by decide) (hts _ ms_k1323) (fun _ h => h) rfl d82_18 ?_
      refine lv_bipush (v := 20) hx hb d82_21 (by decide) ?_
      refine lv_icmp_gt hx hb d82_23 rfl (fun h9 => ?_) (fun h9 => ?_)
      · have hF := (if_pos h9).symm.trans hF
        exact b30 ls q1.1 q1.2 _ _ hF (hl.sub [1, 0] rfl) I
      · have hF := (if_neg h9).symm.trans hF
        refine lv_iconst (v := 1) hx hb d82_26 (by decide) ?_
        refine lv_goto hx hb d82_27 rfl ?_
        exact b31 ls q1.1 1 q1.2 _ _ hF (hl.sub [1, 0] rfl) I

def g_attributeOf_119 (x4 : Int32) (st : mT) : Option (Int32 × mT) := (some (x4, st))
def g_attributeOf_114 (k6 : Int32 → Int32 → Int32 → Int32 → Int32 → mT → Option (Int32 × mT)) (x1 : Int32) (x2 : Int32) (x3 : Int32) (x5 : Int32) (w0 : Int32) (st : mT) : Option (Int32 × mT) := (k6 x1 x2 x3 w0 x5 st)
def g_attributeOf_100 (k6 : Int32 → Int32 → Int32 → Int32 → Int32 → mT → Option (Int32 × mT)) (x1 : Int32) (x2 : Int32) (x3 : Int32) (x4 : Int32) (x5 : Int32) (st : mT) : Option (Int32 × mT) := (if x5 = 0 then (g_attributeOf_114 k6 x1 x2 x3 x5 (x4 + 1) st) else (g_attributeOf_114 k6 x1 x2 x3 x5 x4 st))
def g_attributeOf_92 (k6 : Int32 → Int32 → Int32 → Int32 → Int32 → mT → Option (Int32 × mT)) (k49 : Int32 → Int32 → Int32 → Int32 → Int32 → Int32 → mT → Option (Int32 × mT)) (x1 : Int32) (x2 : Int32) (x3 : Int32) (x4 : Int32) (x6 : Int32) (w0 : Int32) (st : mT) : Option (Int32 × mT) := (k49 x1 x2 x3 x4 w0 (x6 + 1) st)
def g_attributeOf_49 (k6 : Int32 → Int32 → Int32 → Int32 → Int32 → mT → Option (Int32 × mT)) : Nat → Int32 → Int32 → Int32 → Int32 → Int32 → Int32 → mT → Option (Int32 × mT)
  | 0, _, _, _, _, _, _, _ => none
  | n9 + 1, x1, x2, x3, x4, x5, x6, st => (if x3 ≤ x6 then (g_attributeOf_100 k6 x1 x2 x3 x4 x5 st) else (if x5 = 0 then (g_attributeOf_100 k6 x1 x2 x3 x4 x5 st) else ((g_f x1 ((45 + (28 * x4)) + x6) st).bind (fun q3 => ((g_look (x2 + x6) q3.2).bind (fun q4 => (if q3.1 = q4.1 then (g_attributeOf_92 k6 (g_attributeOf_49 k6 n9) x1 x2 x3 x4 x6 1 q4.2) else (g_attributeOf_92 k6 (g_attributeOf_49 k6 n9) x1 x2 x3 x4 x6 0 q4.2))))))))
def g_attributeOf_44 (k6 : Int32 → Int32 → Int32 → Int32 → Int32 → mT → Option (Int32 × mT)) (x1 : Int32) (x2 : Int32) (x3 : Int32) (x4 : Int32) (w0 : Int32) (st : mT) : Option (Int32 × mT) := (g_attributeOf_49 k6 mF x1 x2 x3 x4 w0 0 st)
def g_attributeOf_6 : Nat → Int32 → Int32 → Int32 → Int32 → Int32 → mT → Option (Int32 × mT)
  | 0, _, _, _, _, _, _ => none
  | n9 + 1, x1, x2, x3, x4, x5, st => ((g_f x1 5 st).bind (fun q1 => (if q1.1 ≤ x4 then (g_attributeOf_119 x4 q1.2) else (if x5 = 0 then ((g_f x1 (44 + (28 * x4)) q1.2).bind (fun q2 => (if q2.1 = x3 then (g_attributeOf_44 (g_attributeOf_6 n9) x1 x2 x3 x4 1 q2.2) else (g_attributeOf_44 (g_attributeOf_6 n9) x1 x2 x3 x4 0 q2.2)))) else (g_attributeOf_119 x4 q1.2)))))
def g_attributeOf (y1 : Int32) (y2 : Int32) (y3 : Int32) (st : mT) : Option (Int32 × mT) := (g_attributeOf_6 mF y1 y2 y3 0 0 st)
set_option maxRecDepth 100000 in
set_option maxHeartbeats 8000000 in
theorem cm_attributeOf (l : Launch) (D : va_G) (dA : Nat → ClassId) (s0 : State) (hE : ms_EV D dA s0) (h0 : hm_T) (r : Nat) (M : Nat → Nat) (hM : mm_ok r M) (z0 : hz_T) (y1 : Int32) (y2 : Int32) (y3 : Int32) (st : mT) (q : Int32 × mT) (hg : g_attributeOf y1 y2 y3 st = some q) : ht_C l D s0 yM83 bM83 7 (Option.some Jvm.ClassFile.FieldType.int) 1 22 0 0 [.ref r, .int y1, .int y2, .int y3] (fun h z => h = mm_h dA h0 r M st ∧ z = z0) (fun h z vv h1 z1 => vv = some (.int q.1) ∧ h1 = mm_h dA h0 r M q.2 ∧ z1 = z0) := by
  refine ht_C.mk hE.1 (by decide) (Nat.le_of_ble_eq_true rfl) [(0, .ref r), (1, .int y1), (2, .int y2), (3, .int y3)] rfl ?_
  intro p e s m below meth c ls h z X hin hpre I hl
  have hx := X.1
  have hb := X.2.1
  have hml := X.2.2.1
  have hown : s.vm.findClass "MarkupStoreModel" = some m.cls := X.2.2.2.1
  have hts := X.2.2.2.2.2.2.1
  have hK := X.2.2.2.2.2.2.2.2.1
  rw [hpre.1, hpre.2] at I
  clear hpre
  have b119 : ∀ (ls : Array Slot) (x4 : Int32) (st : mT) (H : Heap) (locs : List Loc), g_attributeOf_119 x4 st = some q → lv_has ls 7 [(4, .int x4)] → hm_I D s0 s (mm_h dA h0 r M st) z0 H locs → W p l e { frames := 1, cells := 0, slots := 0, locals := 22 } s m ([.ref r, .int y1, .int y2, .int y3] : List Value).toArray below meth c H locs 0 0 (MQ below (ht_Q D s0 (fun vv h1 z1 => vv = some (.int q.1) ∧ h1 = mm_h dA h0 r M q.2 ∧ z1 = z0)) ([.ref r, .int y1, .int y2, .int y3] : List Value).toArray s 0 0 (fun q => s0.heap.size ≤ q)) (F0 m 119 ls []) := by
    intro ls x4 st H locs hF hl I
    unfold g_attributeOf_119 at hF
    refine lv_iload hx hb d83_119 (lv_at hl 0 rfl) ?_
    exact ht_iret X d83_121 I (Nat.le_of_ble_eq_true rfl) (Nat.le_of_ble_eq_true rfl) (mm_fin hF)
  have b114 : ∀ (k6 : Int32 → Int32 → Int32 → Int32 → Int32 → mT → Option (Int32 × mT)), (∀ (ls : Array Slot) (x1 : Int32) (x2 : Int32) (x3 : Int32) (x4 : Int32) (x5 : Int32) (st : mT) (H : Heap) (locs : List Loc), k6 x1 x2 x3 x4 x5 st = some q → lv_has ls 7 [(0, .ref r), (1, .int x1), (2, .int x2), (3, .int x3), (4, .int x4), (5, .int x5)] → hm_I D s0 s (mm_h dA h0 r M st) z0 H locs → W p l e { frames := 1, cells := 0, slots := 0, locals := 22 } s m ([.ref r, .int y1, .int y2, .int y3] : List Value).toArray below meth c H locs 0 0 (MQ below (ht_Q D s0 (fun vv h1 z1 => vv = some (.int q.1) ∧ h1 = mm_h dA h0 r M q.2 ∧ z1 = z0)) ([.ref r, .int y1, .int y2, .int y3] : List Value).toArray s 0 0 (fun q => s0.heap.size ≤ q)) (F0 m 6 ls [])) → ∀ (ls : Array Slot) (x1 : Int32) (x2 : Int32) (x3 : Int32) (x5 : Int32) (w0 : Int32) (st : mT) (H : Heap) (locs : List Loc), g_attributeOf_114 k6 x1 x2 x3 x5 w0 st = some q → lv_has ls 7 [(0, .ref r), (1, .int x1), (2, .int x2), (3, .int x3), (5, .int x5)] → hm_I D s0 s (mm_h dA h0 r M st) z0 H locs → W p l e { frames := 1, cells := 0, slots := 0, locals := 22 } s m ([.ref r, .int y1, .int y2, .int y3] : List Value).toArray below meth c H locs 0 0 (MQ below (ht_Q D s0 (fun vv h1 z1 => vv = some (.int q.1) ∧ h1 = mm_h dA h0 r M q.2 ∧ z1 = z0)) ([.ref r, .int y1, .int y2, .int y3] : List Value).toArray s 0 0 (fun q => s0.heap.size ≤ q)) (F0 m 114 ls [.int w0]) := by
    intro k6 hk6 ls x1 x2 x3 x5 w0 st H locs hF hl I
    unfold g_attributeOf_114 at hF
    refine lv_istore hx hb d83_114 hl (by decide) rfl (fun ls hl => ?_)
    have hl : lv_has ls 7 [(4, .int w0), (0, .ref r), (1, .int x1), (2, .int x2), (3, .int x3), (5, .int x5)] := hl
    refine lv_goto hx hb d83_116 rfl ?_
    exact hk6 ls x1 x2 x3 w0 x5 st _ _ hF (hl.sub [1, 2, 3, 4, 0, 5] rfl) I
  have b100 : ∀ (k6 : Int32 → Int32 → Int32 → Int32 → Int32 → mT → Option (Int32 × mT)), (∀ (ls : Array Slot) (x1 : Int32) (x2 : Int32) (x3 : Int32) (x4 : Int32) (x5 : Int32) (st : mT) (H : Heap) (locs : List Loc), k6 x1 x2 x3 x4 x5 st = some q → lv_has ls 7 [(0, .ref r), (1, .int x1), (2, .int x2), (3, .int x3), (4, .int x4), (5, .int x5)] → hm_I D s0 s (mm_h dA h0 r M st) z0 H locs → W p l e { frames := 1, cells := 0, slots := 0, locals := 22 } s m ([.ref r, .int y1, .int y2, .int y3] : List Value).toArray below meth c H locs 0 0 (MQ below (ht_Q D s0 (fun vv h1 z1 => vv = some (.int q.1) ∧ h1 = mm_h dA h0 r M q.2 ∧ z1 = z0)) ([.ref r, .int y1, .int y2, .int y3] : List Value).toArray s 0 0 (fun q => s0.heap.size ≤ q)) (F0 m 6 ls [])) → ∀ (ls : Array Slot) (x1 : Int32) (x2 : Int32) (x3 : Int32) (x4 : Int32) (x5 : Int32) (st : mT) (H : Heap) (locs : List Loc), g_attributeOf_100 k6 x1 x2 x3 x4 x5 st = some q → lv_has ls 7 [(0, .ref r), (1, .int x1), (2, .int x2), (3, .int x3), (4, .int x4), (5, .int x5)] → hm_I D s0 s (mm_h dA h0 r M st) z0 H locs → W p l e { frames := 1, cells := 0, slots := 0, locals := 22 } s m ([.ref r, .int y1, .int y2, .int y3] : List Value).toArray below meth c H locs 0 0 (MQ below (ht_Q D s0 (fun vv h1 z1 => vv = some (.int q.1) ∧ h1 = mm_h dA h0 r M q.2 ∧ z1 = z0)) ([.ref r, .int y1, .int y2, .int y3] : List Value).toArray s 0 0 (fun q => s0.heap.size ≤ q)) (F0 m 100 ls []) := by
    intro k6 hk6 ls x1 x2 x3 x4 x5 st H locs hF hl I
    unfold g_attributeOf_100 at hF
    refine lv_iload hx hb d83_100 (lv_at hl 5 rfl) ?_
    refine lv_if_eq hx hb d83_102 rfl (fun h9 => ?_) (fun h9 => ?_)
    · have hF := (if_pos h9).symm.trans hF
      refine lv_iload hx hb d83_110 (lv_at hl 4 rfl) ?_
      refine lv_iconst (v := 1) hx hb d83_112 (by decide) ?_
      refine lv_iadd hx hb d83_113 ?_
      exact b114 k6 hk6 ls x1 x2 x3 x5 (x4 + 1) st _ _ hF (hl.sub [0, 1, 2, 3, 5] rfl) I
    · have hF := (if_neg h9).symm.trans hF
      refine lv_iload hx hb d83_105 (lv_at hl 4 rfl) ?_
      refine lv_goto hx hb d83_107 rfl ?_
      exact b114 k6 hk6 ls x1 x2 x3 x5 x4 st _ _ hF (hl.sub [0, 1, 2, 3, 5] rfl) I
  have b92 : ∀ (k6 : Int32 → Int32 → Int32 → Int32 → Int32 → mT → Option (Int32 × mT)), (∀ (ls : Array Slot) (x1 : Int32) (x2 : Int32) (x3 : Int32) (x4 : Int32) (x5 : Int32) (st : mT) (H : Heap) (locs : List Loc), k6 x1 x2 x3 x4 x5 st = some q → lv_has ls 7 [(0, .ref r), (1, .int x1), (2, .int x2), (3, .int x3), (4, .int x4), (5, .int x5)] → hm_I D s0 s (mm_h dA h0 r M st) z0 H locs → W p l e { frames := 1, cells := 0, slots := 0, locals := 22 } s m ([.ref r, .int y1, .int y2, .int y3] : List Value).toArray below meth c H locs 0 0 (MQ below (ht_Q D s0 (fun vv h1 z1 => vv = some (.int q.1) ∧ h1 = mm_h dA h0 r M q.2 ∧ z1 = z0)) ([.ref r, .int y1, .int y2, .int y3] : List Value).toArray s 0 0 (fun q => s0.heap.size ≤ q)) (F0 m 6 ls [])) → ∀ (k49 : Int32 → Int32 → Int32 → Int32 → Int32 → Int32 → mT → Option (Int32 × mT)), (∀ (ls : Array Slot) (x1 : Int32) (x2 : Int32) (x3 : Int32) (x4 : Int32) (x5 : Int32) (x6 : Int32) (st : mT) (H : Heap) (locs : List Loc), k49 x1 x2 x3 x4 x5 x6 st = some q → lv_has ls 7 [(0, .ref r), (1, .int x1), (2, .int x2), (3, .int x3), (4, .int x4), (5, .int x5), (6, .int x6)] → hm_I D s0 s (mm_h dA h0 r M st) z0 H locs → W p l e { frames := 1, cells := 0, slots := 0, locals := 22 } s m ([.ref r, .int y1, .int y2, .int y3] : List Value).toArray below meth c H locs 0 0 (MQ below (ht_Q D s0 (fun vv h1 z1 => vv = some (.int q.1) ∧ h1 = mm_h dA h0 r M q.2 ∧ z1 = z0)) ([.ref r, .int y1, .int y2, .int y3] : List Value).toArray s 0 0 (fun q => s0.heap.size ≤ q)) (F0 m 49 ls [])) → ∀ (ls : Array Slot) (x1 : Int32) (x2 : Int32) (x3 : Int32) (x4 : Int32) (x6 : Int32) (w0 : Int32) (st : mT) (H : Heap) (locs : List Loc), g_attributeOf_92 k6 k49 x1 x2 x3 x4 x6 w0 st = some q → lv_has ls 7 [(0, .ref r), (1, .int x1), (2, .int x2), (3, .int x3), (4, .int x4), (6, .int x6)] → hm_I D s0 s (mm_h dA h0 r M st) z0 H locs → W p l e { frames := 1, cells := 0, slots := 0, locals := 22 } s m ([.ref r, .int y1, .int y2, .int y3] : List Value).toArray below meth c H locs 0 0 (MQ below (ht_Q D s0 (fun vv h1 z1 => vv = some (.int q.1) ∧ h1 = mm_h dA h0 r M q.2 ∧ z1 = z0)) ([.ref r, .int y1, .int y2, .int y3] : List Value).toArray s 0 0 (fun q => s0.heap.size ≤ q)) (F0 m 92 ls [.int w0]) := by
    intro k6 hk6 k49 hk49 ls x1 x2 x3 x4 x6 w0 st H locs hF hl I
    unfold g_attributeOf_92 at hF
    refine lv_istore hx hb d83_92 hl (by decide) rfl (fun ls hl => ?_)
    have hl : lv_has ls 7 [(5, .int w0), (0, .ref r), (1, .int x1), (2, .int x2), (3, .int x3), (4, .int x4), (6, .int x6)] := hl
    refine lv_iinc (k := 6) (v := (x6 + 1)) hx hb d83_94 hl rfl (rfl) (by decide) rfl (fun ls hl => ?_)
    have hl : lv_has ls 7 [(6, .int (x6 + 1)), (5, .int w0), (0, .ref r), (1, .int x1), (2, .int x2), (3, .int x3), (4, .int x4)] := hl
    refine lv_goto hx hb d83_97 rfl ?_
    exact hk49 ls x1 x2 x3 x4 w0 (x6 + 1) st _ _ hF (hl.sub [2, 3, 4, 5, 6, 1, 0] rfl) I
  have b49 : ∀ (k6 : Int32 → Int32 → Int32 → Int32 → Int32 → mT → Option (Int32 × mT)), (∀ (ls : Array Slot) (x1 : Int32) (x2 : Int32) (x3 : Int32) (x4 : Int32) (x5 : Int32) (st : mT) (H : Heap) (locs : List Loc), k6 x1 x2 x3 x4 x5 st = some q → lv_has ls 7 [(0, .ref r), (1, .int x1), (2, .int x2), (3, .int x3), (4, .int x4), (5, .int x5)] → hm_I D s0 s (mm_h dA h0 r M st) z0 H locs → W p l e { frames := 1, cells := 0, slots := 0, locals := 22 } s m ([.ref r, .int y1, .int y2, .int y3] : List Value).toArray below meth c H locs 0 0 (MQ below (ht_Q D s0 (fun vv h1 z1 => vv = some (.int q.1) ∧ h1 = mm_h dA h0 r M q.2 ∧ z1 = z0)) ([.ref r, .int y1, .int y2, .int y3] : List Value).toArray s 0 0 (fun q => s0.heap.size ≤ q)) (F0 m 6 ls [])) → ∀ n9 : Nat, ∀ (ls : Array Slot) (x1 : Int32) (x2 : Int32) (x3 : Int32) (x4 : Int32) (x5 : Int32) (x6 : Int32) (st : mT) (H : Heap) (locs : List Loc), g_attributeOf_49 k6 n9 x1 x2 x3 x4 x5 x6 st = some q → lv_has ls 7 [(0, .ref r), (1, .int x1), (2, .int x2), (3, .int x3), (4, .int x4), (5, .int x5), (6, .int x6)] → hm_I D s0 s (mm_h dA h0 r M st) z0 H locs → W p l e { frames := 1, cells := 0, slots := 0, locals := 22 } s m ([.ref r, .int y1, .int y2, .int y3] : List Value).toArray below meth c H locs 0 0 (MQ below (ht_Q D s0 (fun vv h1 z1 => vv = some (.int q.1) ∧ h1 = mm_h dA h0 r M q.2 ∧ z1 = z0)) ([.ref r, .int y1, .int y2, .int y3] : List Value).toArray s 0 0 (fun q => s0.heap.size ≤ q)) (F0 m 49 ls []) := by
    intro k6 hk6 n9
    induction n9 with
    | zero => intro ls x1 x2 x3 x4 x5 x6 st H locs hF; cases hF
    | succ n9 hk49 =>
    intro ls x1 x2 x3 x4 x5 x6 st H locs hF hl I
    unfold g_attributeOf_49 at hF
    refine lv_iload hx hb d83_49 (lv_at hl 6 rfl) ?_
    refine lv_iload_n hx hb d83_51 rfl (lv_at hl 3 rfl) ?_
    refine lv_icmp_ge hx hb d83_52 rfl (fun h9 => ?_) (fun h9 => ?_)
    · have hF := (if_pos h9).symm.trans hF
      exact b100 k6 hk6 ls x1 x2 x3 x4 x5 st _ _ hF (hl.sub [0, 1, 2, 3, 4, 5] rfl) I
    · have hF := (if_neg h9).symm.trans hF
      refine lv_iload hx hb d83_55 (lv_at hl 5 rfl) ?_
      refine lv_if_eq hx hb d83_57 rfl (fun h9 => ?_) (fun h9 => ?_)
      · have hF := (if_pos h9).symm.trans hF
        exact b100 k6 hk6 ls x1 x2 x3 x4 x5 st _ _ hF (hl.sub [0, 1, 2, 3, 4, 5] rfl) I
      · have hF := (if_neg h9).symm.trans hF
        refine lv_aload_n hx hb d83_60 rfl (lv_at hl 0 rfl) ?_
        refine lv_iload_n hx hb d83_61 rfl (lv_at hl 1 rfl) ?_
        refine lv_bipush (v := 45) hx hb d83_62 (by decide) ?_
        refine lv_bipush (v := 28) hx hb d83_64 (by decide) ?_
        refine lv_iload hx hb d83_66 (lv_at hl 4 rfl) ?_
        refine lv_imul hx hb d83_68 ?_
        refine lv_iadd hx hb d83_69 ?_
        refine lv_iload hx hb d83_70 (lv_at hl 6 rfl) ?_
        refine lv_iadd hx hb d83_72 ?_
        obtain ⟨q3, e9, hF⟩ := mm_bd hF
        refine ht_V (C := "MarkupStoreModel") (rest := []) (as := [.int x1, .int ((45 + (28 * x4)) + x6)]) X hl (cm_f l D dA s0 hE h0 r M hM z0 x1 ((45 + (28 * x4)) + x6) st q3 e9) (List.forall_mem_cons.mpr ⟨ms_k1587, List.forall_mem_cons.mpr ⟨ms_k1589, List.forall_mem_cons.mpr ⟨ms_p63, List.forall_mem_cons.mpr ⟨ms_k7, List.forall_mem_cons.mpr ⟨ms_k1590, fun _ h => absurd h List.not_mem_nil⟩⟩⟩⟩⟩) ⟨rfl, by decide +kernel, by decide +kernel, (by decide +kernel : (parseMethodDescriptor "(II)I").map (fun d => d.parameters.length) = some 2)⟩ (hm_recv hK I rfl mm_hr) I ⟨rfl, rfl⟩ ⟨⟨Nat.le_of_ble_eq_true rfl, Nat.le_of_ble_eq_true rfl⟩, Nat.le_of_ble_eq_true rfl, Nat.le_of_ble_eq_true rfl⟩ rfl (Nat.le_of_ble_eq_true rfl) d83_73 (fun vv h1 z1 H locs hR I9 => ?_)
        obtain ⟨e1, e2, e3⟩ := hR
        rw [e2, e3] at I9
        clear I e2 e3 e9
        have I := I9
        clear I9
        subst e1
        refine W.eq (g2 := F0 m 76 ls [.int q3.1]) rfl ?_
        refine lv_aload_n hx hb d83_76 rfl (lv_at hl 0 rfl) ?_
        refine lv_iload_n hx hb d83_77 rfl (lv_at hl 2 rfl) ?_
        refine lv_iload hx hb d83_78 (lv_at hl 6 rfl) ?_
        refine lv_iadd hx hb d83_80 ?_
        obtain ⟨q4, e9, hF⟩ := mm_bd hF
        refine ht_V (C := "MarkupStoreModel") (rest := [.int q3.1]) (as := [.int (x2 + x6)]) X hl (cm_look l D dA s0 hE h0 r M hM z0 (x2 + x6) q3.2 q4 e9) (List.forall_mem_cons.mpr ⟨ms_k1516, List.forall_mem_cons.mpr ⟨ms_k1518, List.forall_mem_cons.mpr ⟨ms_p46, List.forall_mem_cons.mpr ⟨ms_k7, List.forall_mem_cons.mpr ⟨ms_k1519, fun _ h => absurd h List.not_mem_nil⟩⟩⟩⟩⟩) ⟨rfl, by decide +kernel, by decide +kernel, (by decide +kernel : (parseMethodDescriptor "(I)C").map (fun d => d.parameters.length) = some 1)⟩ (hm_recv hK I rfl mm_hr) I ⟨rfl, rfl⟩ ⟨⟨Nat.le_of_ble_eq_true rfl, Nat.le_of_ble_eq_true rfl⟩, Nat.le_of_ble_eq_true rfl, Nat.le_of_ble_eq_true rfl⟩ rfl (Nat.le_of_ble_eq_true rfl) d83_81 (fun vv h1 z1 H locs hR I9 => ?_)
        obtain ⟨e1, e2, e3⟩ := hR
        rw [e2, e3] at I9
        clear I e2 e3 e9
        have I := I9
        clear I9
        subst e1
        refine W.eq (g2 := F0 m 84 ls [.int q4.1, .int q3.1]) rfl ?_
        refine lv_icmp_ne hx hb d83_84 rfl (fun h9 => ?_) (fun h9 => ?_)
        · have hF := (if_neg h9).symm.trans hF
          refine lv_iconst (v := 0) hx hb d83_91 (by decide) ?_
          exact b92 k6 hk6 (g_attributeOf_49 k6 n9) hk49 ls x1 x2 x3 x4 x6 0 q4.2 _ _ hF (hl.sub [0, 1, 2, 3, 4, 6] rfl) I
        · have hF := (if_pos h9).symm.trans hF
          refine lv_iconst (v := 1) hx hb d83_87 (by decide) ?_
          refine lv_goto hx hb d83_88 rfl ?_
          exact b92 k6 hk6 (g_attributeOf_49 k6 n9) hk49 ls x1 x2 x3 x4 x6 1 q4.2 _ _ hF (hl.sub [0, 1, 2, 3, 4, 6] rfl) I
  have b44 : ∀ (k6 : Int32 → Int32 → Int32 → Int32 → Int32 → mT → Option (Int32 × mT)), (∀ (ls : Array Slot) (x1 : Int32) (x2 : Int32) (x3 : Int32) (x4 : Int32) (x5 : Int32) (st : mT) (H : Heap) (locs : List Loc), k6 x1 x2 x3 x4 x5 st = some q → lv_has ls 7 [(0, .ref r), (1, .int x1), (2, .int x2), (3, .int x3), (4, .int x4), (5, .int x5)] → hm_I D s0 s (mm_h dA h0 r M st) z0 H locs → W p l e { frames := 1, cells := 0, slots := 0, locals := 22 } s m ([.ref r, .int y1, .int y2, .int y3] : List Value).toArray below meth c H locs 0 0 (MQ below (ht_Q D s0 (fun vv h1 z1 => vv = some (.int q.1) ∧ h1 = mm_h dA h0 r M q.2 ∧ z1 = z0)) ([.ref r, .int y1, .int y2, .int y3] : List Value).toArray s 0 0 (fun q => s0.heap.size ≤ q)) (F0 m 6 ls [])) → ∀ (ls : Array Slot) (x1 : Int32) (x2 : Int32) (x3 : Int32) (x4 : Int32) (w0 : Int32) (st : mT) (H : Heap) (locs : List Loc), g_attributeOf_44 k6 x1 x2 x3 x4 w0 st = some q → lv_has ls 7 [(0, .ref r), (1, .int x1), (2, .int x2), (3, .int x3), (4, .int x4)] → hm_I D s0 s (mm_h dA h0 r M st) z0 H locs → W p l e { frames := 1, cells := 0, slots := 0, locals := 22 } s m ([.ref r, .int y1, .int y2, .int y3] : List Value).toArray below meth c H locs 0 0 (MQ below (ht_Q D s0 (fun vv h1 z1 => vv = some (.int q.1) ∧ h1 = mm_h dA h0 r M q.2 ∧ z1 = z0)) ([.ref r, .int y1, .int y2, .int y3] : List Value).toArray s 0 0 (fun q => s0.heap.size ≤ q)) (F0 m 44 ls [.int w0]) := by
    intro k6 hk6 ls x1 x2 x3 x4 w0 st H locs hF hl I
    unfold g_attributeOf_44 at hF
    refine lv_istore hx hb d83_44 hl (by decide) rfl (fun ls hl => ?_)
    have hl : lv_has ls 7 [(5, .int w0), (0, .ref r), (1, .int x1), (2, .int x2), (3, .int x3), (4, .int x4)] := hl
    refine lv_iconst (v := 0) hx hb d83_46 (by decide) ?_
    refine lv_istore hx hb d83_47 hl (by decide) rfl (fun ls hl => ?_)
    have hl : lv_has ls 7 [(6, .int 0), (5, .int w0), (0, .ref r), (1, .int x1), (2, .int x2), (3, .int x3), (4, .int x4)] := hl
    exact b49 k6 hk6 mF ls x1 x2 x3 x4 w0 0 st _ _ hF (hl.sub [2, 3, 4, 5, 6, 1, 0] rfl) I
  have b6 : ∀ n9 : Nat, ∀ (ls : Array Slot) (x1 : Int32) (x2 : Int32) (x3 : Int32) (x4 : Int32) (x5 : Int32) (st : mT) (H : Heap) (locs : List Loc), g_attributeOf_6 n9 x1 x2 x3 x4 x5 st = some q → lv_has ls 7 [(0, .ref r), (1, .int x1), (2, .int x2), (3, .int x3), (4, .int x4), (5, .int x5)] → hm_I D s0 s (mm_h dA h0 r M st) z0 H locs → W p l e { frames := 1, cells := 0, slots := 0, locals := 22 } s m ([.ref r, .int y1, .int y2, .int y3] : List Value).toArray below meth c H locs 0 0 (MQ below (ht_Q D s0 (fun vv h1 z1 => vv = some (.int q.1) ∧ h1 = mm_h dA h0 r M q.2 ∧ z1 = z0)) ([.ref r, .int y1, .int y2, .int y3] : List Value).toArray s 0 0 (fun q => s0.heap.size ≤ q)) (F0 m 6 ls []) := by
    intro n9
    induction n9 with
    | zero => intro ls x1 x2 x3 x4 x5 st H locs hF; cases hF
    | succ n9 hk6 =>
    intro ls x1 x2 x3 x4 x5 st H locs hF hl I
    unfold g_attributeOf_6 at hF
    refine lv_iload hx hb d83_6 (lv_at hl 4 rfl) ?_
    refine lv_aload_n hx hb d83_8 rfl (lv_at hl 0 rfl) ?_
    refine lv_iload_n hx hb d83_9 rfl (lv_at hl 1 rfl) ?_
    refine lv_iconst (v := 5) hx hb d83_10 (by decide) ?_
    obtain ⟨q1, e9, hF⟩ := mm_bd hF
    refine ht_V (C := "MarkupStoreModel") (rest := [.int x4]) (as := [.int x1, .int 5]) X hl (cm_f l D dA s0 hE h0 r M hM z0 x1 5 st q1 e9) (List.forall_mem_cons.mpr ⟨ms_k1587, List.forall_mem_cons.mpr ⟨ms_k1589, List.forall_mem_cons.mpr ⟨ms_p63, List.forall_mem_cons.mpr ⟨ms_k7, List.forall_mem_cons.mpr ⟨ms_k1590, fun _ h => absurd h List.not_mem_nil⟩⟩⟩⟩⟩) ⟨rfl, by decide +kernel, by decide +kernel, (by decide +kernel : (parseMethodDescriptor "(II)I").map (fun d => d.parameters.length) = some 2)⟩ (hm_recv hK I rfl mm_hr) I ⟨rfl, rfl⟩ ⟨⟨Nat.le_of_ble_eq_true rfl, Nat.le_of_ble_eq_true rfl⟩, Nat.le_of_ble_eq_true rfl, Nat.le_of_ble_eq_true rfl⟩ rfl (Nat.le_of_ble_eq_true rfl) d83_11 (fun vv h1 z1 H locs hR I9 => ?_)
    obtain ⟨e1, e2, e3⟩ := hR
    rw [e2, e3] at I9
    clear I e2 e3 e9
    have I := I9
    clear I9
    subst e1
    refine W.eq (g2 := F0 m 14 ls [.int q1.1, .int x4]) rfl ?_
    refine lv_icmp_ge hx hb d83_14 rfl (fun h9 => ?_) (fun h9 => ?_)
    · have hF := (if_pos h9).symm.trans hF
      exact b119 ls x4 q1.2 _ _ hF (hl.sub [4] rfl) I
    · have hF := (if_neg h9).symm.trans hF
      refine lv_iload hx hb d83_17 (lv_at hl 5 rfl) ?_
      refine lv_if_ne hx hb d83_19 rfl (fun h9 => ?_) (fun h9 => ?_)
      · have hF := (if_neg h9).symm.trans hF
        exact b119 ls x4 q1.2 _ _ hF (hl.sub [4] rfl) I
      · have hF := (if_pos h9).symm.trans hF
        refine lv_aload_n hx hb d83_22 rfl (lv_at hl 0 rfl) ?_
        refine lv_iload_n hx hb d83_23 rfl (lv_at hl 1 rfl) ?_
        refine lv_bipush (v := 44) hx hb d83_24 (by decide) ?_
        refine lv_bipush (v := 28) hx hb d83_26 (by decide) ?_
        refine lv_iload hx hb d83_28 (lv_at hl 4 rfl) ?_
        refine lv_imul hx hb d83_30 ?_
        refine lv_iadd hx hb d83_31 ?_
        obtain ⟨q2, e9, hF⟩ := mm_bd hF
        refine ht_V (C := "MarkupStoreModel") (rest := []) (as := [.int x1, .int (44 + (28 * x4))]) X hl (cm_f l D dA s0 hE h0 r M hM z0 x1 (44 + (28 * x4)) q1.2 q2 e9) (List.forall_mem_cons.mpr ⟨ms_k1587, List.forall_mem_cons.mpr ⟨ms_k1589, List.forall_mem_cons.mpr ⟨ms_p63, List.forall_mem_cons.mpr ⟨ms_k7, List.forall_mem_cons.mpr ⟨ms_k1590, fun _ h => absurd h List.not_mem_nil⟩⟩⟩⟩⟩) ⟨rfl, by decide +kernel, by decide +kernel, (by decide +kernel : (parseMethodDescriptor "(II)I").map (fun d => d.parameters.length) = some 2)⟩ (hm_recv hK I rfl mm_hr) I ⟨rfl, rfl⟩ ⟨⟨Nat.le_of_ble_eq_true rfl, Nat.le_of_ble_eq_true rfl⟩, Nat.le_of_ble_eq_true rfl, Nat.le_of_ble_eq_true rfl⟩ rfl (Nat.le_of_ble_eq_true rfl) d83_32 (fun vv h1 z1 H locs hR I9 => ?_)
        obtain ⟨e1, e2, e3⟩ := hR
        rw [e2, e3] at I9
        clear I e2 e3 e9
        have I := I9
        clear I9
        subst e1
        refine W.eq (g2 := F0 m 35 ls [.int q2.1]) rfl ?_
        refine lv_iload_n hx hb d83_35 rfl (lv_at hl 3 rfl) ?_
        refine lv_icmp_ne hx hb d83_36 rfl (fun h9 => ?_) (fun h9 => ?_)
        · have hF := (if_neg h9).symm.trans hF
          refine lv_iconst (v := 0) hx hb d83_43 (by decide) ?_
          exact b44 (g_attributeOf_6 n9) hk6 ls x1 x2 x3 x4 0 q2.2 _ _ hF (hl.sub [0, 1, 2, 3, 4] rfl) I
        · have hF := (if_pos h9).symm.trans hF
          refine lv_iconst (v := 1) hx hb d83_39 (by decide) ?_
          refine lv_goto hx hb d83_40 rfl ?_
          exact b44 (g_attributeOf_6 n9) hk6 ls x1 x2 x3 x4 1 q2.2 _ _ hF (hl.sub [0, 1, 2, 3, 4] rfl) I
  have hF := hg
  unfold g_attributeOf at hF
  refine lv_iconst (v := 0) hx hb d83_0 (by decide) ?_
  refine lv_istore hx hb d83_1 hl (by decide) rfl (fun ls hl => ?_)
  have hl : lv_has ls 7 [(4, .int 0), (0, .ref r), (1, .int y1), (2, .int y2), (3, .int y3)] := hl
  refine lv_iconst (v := 0) hx hb d83_3 (by decide) ?_
  refine lv_istore hx hb d83_4 hl (by decide) rfl (fun ls hl => ?_)
  have hl : lv_has ls 7 [(5, .int 0), (4, .int 0), (0, .ref r), (1, .int y1), (2, .int y2), (3, .int y3)] := hl
  exact b6 mF ls y1 y2 y3 0 0 st _ _ hF (hl.sub [2, 3, 4, 5, 1, 0] rfl) I

def g_axisOf_113 (w0 : Int32) (w1 : Int32) (st : mT) : Option (Int32 × mT) := (some ((w1 + w0), st))
def g_axisOf_86 (x0 : Int32) (x1 : Int32) (w0 : Int32) (st : mT) : Option (Int32 × mT) := (if x0 = 78 then (g_axisOf_113 7 (x1 + w0) st) else (if x0 = 76 then (g_axisOf_113 8 (x1 + w0) st) else (g_axisOf_113 0 (x1 + w0) st)))
def g_axisOf_43 (x0 : Int32) (w0 : Int32) (st : mT) : Option (Int32 × mT) := (if x0 = 80 then (g_axisOf_86 x0 w0 3 st) else (if x0 = 65 then (g_axisOf_86 x0 w0 4 st) else (if x0 = 66 then (g_axisOf_86 x0 w0 5 st) else (if x0 = 82 then (g_axisOf_86 x0 w0 10 st) else (g_axisOf_86 x0 w0 0 st)))))
def g_axisOf (y0 : Int32) (st : mT) : Option (Int32 × mT) := (if y0 = 68 then (g_axisOf_43 y0 1 st) else (if y0 = 69 then (g_axisOf_43 y0 2 st) else (if y0 = 83 then (g_axisOf_43 y0 6 st) else (if y0 = 70 then (g_axisOf_43 y0 9 st) else (g_axisOf_43 y0 0 st)))))
set_option maxRecDepth 100000 in
set_option maxHeartbeats 8000000 in
theorem cm_axisOf (l : Launch) (D : va_G) (dA : Nat → ClassId) (s0 : State) (hE : ms_EV D dA s0) (h0 : hm_T) (r : Nat) (M : Nat → Nat) (hM : mm_ok r M) (z0 : hz_T) (y0 : Int32) (st : mT) (q : Int32 × mT) (hg : g_axisOf y0 st = some q) : ht_C l D s0 yM84 bM84 3 (Option.some Jvm.ClassFile.FieldType.int) 0 0 0 0 [.int y0] (fun h z => h = mm_h dA h0 r M st ∧ z = z0) (fun h z vv h1 z1 => vv = some (.int q.1) ∧ h1 = mm_h dA h0 r M q.2 ∧ z1 = z0) := by
  refine ht_C.mk hE.1 (by decide) (Nat.le_of_ble_eq_true rfl) [(0, .int y0)] rfl ?_
  intro p e s m below meth c ls h z X hin hpre I hl
  have hx := X.1
  have hb := X.2.1
  have hml := X.2.2.1
  have hown : s.vm.findClass "MarkupStoreModel" = some m.cls := X.2.2.2.1
  have hts := X.2.2.2.2.2.2.1
  have hK := X.2.2.2.2.2.2.2.2.1
  rw [hpre.1, hpre.2] at I
  clear hpre
  have b113 : ∀ (ls : Array Slot) (w0 : Int32) (w1 : Int32) (st : mT) (H : Heap) (locs : List Loc), g_axisOf_113 w0 w1 st = some q → lv_has ls 3 [] → hm_I D s0 s (mm_h dA h0 r M st) z0 H locs → W p l e { frames := 0, cells := 0, slots := 0, locals := 0 } s m ([.int y0] : List Value).toArray below meth c H locs 0 0 (MQ below (ht_Q D s0 (fun vv h1 z1 => vv = some (.int q.1) ∧ h1 = mm_h dA h0 r M q.2 ∧ z1 = z0)) ([.int y0] : List Value).toArray s 0 0 (fun q => s0.heap.size ≤ q)) (F0 m 113 ls [.int w0, .int w1]) := by
    intro ls w0 w1 st H locs hF hl I
    unfold g_axisOf_113 at hF
    refine lv_iadd hx hb d84_113 ?_
    exact ht_iret X d84_114 I (Nat.le_of_ble_eq_true rfl) (Nat.le_of_ble_eq_true rfl) (mm_fin hF)
  have b86 : ∀ (ls : Array Slot) (x0 : Int32) (x1 : Int32) (w0 : Int32) (st : mT) (H : Heap) (locs : List Loc), g_axisOf_86 x0 x1 w0 st = some q → lv_has ls 3 [(0, .int x0), (1, .int x1)] → hm_I D s0 s (mm_h dA h0 r M st) z0 H locs → W p l e { frames := 0, cells := 0, slots := 0, locals := 0 } s m ([.int y0] : List Value).toArray below meth c H locs 0 0 (MQ below (ht_Q D s0 (fun vv h1 z1 => vv = some (.int q.1) ∧ h1 = mm_h dA h0 r M q.2 ∧ z1 = z0)) ([.int y0] : List Value).toArray s 0 0 (fun q => s0.heap.size ≤ q)) (F0 m 86 ls [.int w0]) := by
    intro ls x0 x1 w0 st H locs hF hl I
    unfold g_axisOf_86 at hF
    refine lv_istore_n hx hb d84_86 rfl hl (by decide) rfl (fun ls hl => ?_)
    have hl : lv_has ls 3 [(2, .int w0), (0, .int x0), (1, .int x1)] := hl
    refine lv_iload_n hx hb d84_87 rfl (lv_at hl 2 rfl) ?_
    refine lv_iload_n hx hb d84_88 rfl (lv_at hl 0 rfl) ?_
    refine lv_iadd hx hb d84_89 ?_
    refine lv_iload_n hx hb d84_90 rfl (lv_at hl 1 rfl) ?_
    refine lv_bipush (v := 78) hx hb d84_91 (by decide) ?_
    refine lv_icmp_ne hx hb d84_93 rfl (fun h9 => ?_) (fun h9 => ?_)
    · have hF := (if_neg h9).symm.trans hF
      refine lv_iload_n hx hb d84_101 rfl (lv_at hl 1 rfl) ?_
      refine lv_bipush (v := 76) hx hb d84_102 (by decide) ?_
      refine lv_icmp_ne hx hb d84_104 rfl (fun h9 => ?_) (fun h9 => ?_)
      · have hF := (if_neg h9).symm.trans hF
        refine lv_iconst (v := 0) hx hb d84_112 (by decide) ?_
        exact b113 ls 0 (x1 + w0) st _ _ hF (hl.sub [] rfl) I
      · have hF := (if_pos h9).symm.trans hF
        refine lv_bipush (v := 8) hx hb d84_107 (by decide) ?_
        refine lv_goto hx hb d84_109 rfl ?_
        exact b113 ls 8 (x1 + w0) st _ _ hF (hl.sub [] rfl) I
    · have hF := (if_pos h9).symm.trans hF
      refine lv_bipush (v := 7) hx hb d84_96 (by decide) ?_
      refine lv_goto hx hb d84_98 rfl ?_
      exact b113 ls 7 (x1 + w0) st _ _ hF (hl.sub [] rfl) I
  have b43 : ∀ (ls : Array Slot) (x0 : Int32) (w0 : Int32) (st : mT) (H : Heap) (locs : List Loc), g_axisOf_43 x0 w0 st = some q → lv_has ls 3 [(0, .int x0)] → hm_I D s0 s (mm_h dA h0 r M st) z0 H locs → W p l e { frames := 0, cells := 0, slots := 0, locals := 0 } s m ([.int y0] : List Value).toArray below meth c H locs 0 0 (MQ below (ht_Q D s0 (fun vv h1 z1 => vv = some (.int q.1) ∧ h1 = mm_h dA h0 r M q.2 ∧ z1 = z0)) ([.int y0] : List Value).toArray s 0 0 (fun q => s0.heap.size ≤ q)) (F0 m 43 ls [.int w0]) := by
    intro ls x0 w0 st H locs hF hl I
    unfold g_axisOf_43 at hF
    refine lv_istore_n hx hb d84_43 rfl hl (by decide) rfl (fun ls hl => ?_)
    have hl : lv_has ls 3 [(1, .int w0), (0, .int x0)] := hl
    refine lv_iload_n hx hb d84_44 rfl (lv_at hl 1 rfl) ?_
    refine lv_bipush (v := 80) hx hb d84_45 (by decide) ?_
    refine lv_icmp_ne hx hb d84_47 rfl (fun h9 => ?_) (fun h9 => ?_)
    · have hF := (if_neg h9).symm.trans hF
      refine lv_iload_n hx hb d84_54 rfl (lv_at hl 1 rfl) ?_
      refine lv_bipush (v := 65) hx hb d84_55 (by decide) ?_
      refine lv_icmp_ne hx hb d84_57 rfl (fun h9 => ?_) (fun h9 => ?_)
      · have hF := (if_neg h9).symm.trans hF
        refine lv_iload_n hx hb d84_64 rfl (lv_at hl 1 rfl) ?_
        refine lv_bipush (v := 66) hx hb d84_65 (by decide) ?_
        refine lv_icmp_ne hx hb d84_67 rfl (fun h9 => ?_) (fun h9 => ?_)
        · have hF := (if_neg h9).symm.trans hF
          refine lv_iload_n hx hb d84_74 rfl (lv_at hl 1 rfl) ?_
          refine lv_bipush (v := 82) hx hb d84_75 (by decide) ?_
          refine lv_icmp_ne hx hb d84_77 rfl (fun h9 => ?_) (fun h9 => ?_)
          · have hF := (if_neg h9).symm.trans hF
            refine lv_iconst (v := 0) hx hb d84_85 (by decide) ?_
            exact b86 ls x0 w0 0 st _ _ hF (hl.sub [1, 0] rfl) I
          · have hF := (if_pos h9).symm.trans hF
            refine lv_bipush (v := 10) hx hb d84_80 (by decide) ?_
            refine lv_goto hx hb d84_82 rfl ?_
            exact b86 ls x0 w0 10 st _ _ hF (hl.sub [1, 0] rfl) I
        · have hF := (if_pos h9).symm.trans hF
          refine lv_iconst (v := 5) hx hb d84_70 (by decide) ?_
          refine lv_goto hx hb d84_71 rfl ?_
          exact b86 ls x0 w0 5 st _ _ hF (hl.sub [1, 0] rfl) I
      · have hF := (if_pos h9).symm.trans hF
        refine lv_iconst (v := 4) hx hb d84_60 (by decide) ?_
        refine lv_goto hx hb d84_61 rfl ?_
        exact b86 ls x0 w0 4 st _ _ hF (hl.sub [1, 0] rfl) I
    · have hF := (if_pos h9).symm.trans hF
      refine lv_iconst (v := 3) hx hb d84_50 (by decide) ?_
      refine lv_goto hx hb d84_51 rfl ?_
      exact b86 ls x0 w0 3 st _ _ hF (hl.sub [1, 0] rfl) I
  have hF := hg
  unfold g_axisOf at hF
  refine lv_iload_n hx hb d84_0 rfl (lv_at hl 0 rfl) ?_
  refine lv_bipush (v := 68) hx hb d84_1 (by decide) ?_
  refine lv_icmp_ne hx hb d84_3 rfl (fun h9 => ?_) (fun h9 => ?_)
  · have hF := (if_neg h9).symm.trans hF
    refine lv_iload_n hx hb d84_10 rfl (lv_at hl 0 rfl) ?_
    refine lv_bipush (v := 69) hx hb d84_11 (by decide) ?_
    refine lv_icmp_ne hx hb d84_13 rfl (fun h9 => ?_) (fun h9 => ?_)
    · have hF := (if_neg h9).symm.trans hF
      refine lv_iload_n hx hb d84_20 rfl (lv_at hl 0 rfl) ?_
      refine lv_bipush (v := 83) hx hb d84_21 (by decide) ?_
      refine lv_icmp_ne hx hb d84_23 rfl (fun h9 => ?_) (fun h9 => ?_)
      · have hF := (if_neg h9).symm.trans hF
        refine lv_iload_n hx hb d84_31 rfl (lv_at hl 0 rfl) ?_
        refine lv_bipush (v := 70) hx hb d84_32 (by decide) ?_
        refine lv_icmp_ne hx hb d84_34 rfl (fun h9 => ?_) (fun h9 => ?_)
        · have hF := (if_neg h9).symm.trans hF
          refine lv_iconst (v := 0) hx hb d84_42 (by decide) ?_
          exact b43 ls y0 0 st _ _ hF (hl.sub [0] rfl) I
        · have hF := (if_pos h9).symm.trans hF
          refine lv_bipush (v := 9) hx hb d84_37 (by decide) ?_
          refine lv_goto hx hb d84_39 rfl ?_
          exact b43 ls y0 9 st _ _ hF (hl.sub [0] rfl) I
      · have hF := (if_pos h9).symm.trans hF
        refine lv_bipush (v := 6) hx hb d84_26 (by decide) ?_
        refine lv_goto hx hb d84_28 rfl ?_
        exact b43 ls y0 6 st _ _ hF (hl.sub [0] rfl) I
    · have hF := (if_pos h9).symm.trans hF
      refine lv_iconst (v := 2) hx hb d84_16 (by decide) ?_
      refine lv_goto hx hb d84_17 rfl ?_
      exact b43 ls y0 2 st _ _ hF (hl.sub [0] rfl) I
  · have hF := (if_pos h9).symm.trans hF
    refine lv_iconst (v := 1) hx hb d84_6 (by decide) ?_
    refine lv_goto hx hb d84_7 rfl ?_
    exact b43 ls y0 1 st _ _ hF (hl.sub [0] rfl) I

def g_beginPath_63 (st : mT) : Option (mT) := (mm_lt (mm_F st 47 1) (fun st5 => (some st5)))
def g_beginPath_33 (x1 : Int32) (st : mT) : Option (mT) := (if (st.1 45) = 0 then (mm_zc x1 (mm_lt (mm_F st 49 x1) (fun st6 => (g_beginPath_63 st6)))) else (mm_ld (st.2.1 50) 5 (st.1 45) (fun v2 => (mm_ix 65 v2 (fun j4 => mm_lt (mm_G st 41 j4 (vp_nar .boolean x1)) (fun st3 => (g_beginPath_63 st3)))))))
def g_beginPath_18 (w0 : Int32) (st : mT) : Option (mT) := (if w0 = 0 then (g_beginPath_33 w0 st) else (mm_lt (mm_F st 8 ((st.1 8) + 1)) (fun st7 => (g_beginPath_33 w0 st7))))
def g_beginPath (st : mT) : Option (mT) := ((g_look (st.1 8) st).bind (fun q1 => (if q1.1 = 47 then (g_beginPath_18 1 q1.2) else (g_beginPath_18 0 q1.2))))
set_option maxRecDepth 100000 in
set_option maxHeartbeats 8000000 in
theorem cm_beginPath (l : Launch) (D : va_G) (dA : Nat → ClassId) (s0 : State) (hE : ms_EV D dA s0) (h0 : hm_T) (r : Nat) (M : Nat → Nat) (hM : mm_ok r M) (z0 : hz_T) (st : mT) (q : mT) (hg : g_beginPath st = some q) : ht_C l D s0 yM85 bM85 2 (Option.none : Option Jvm.ClassFile.FieldType) 1 21 0 0 [.ref r] (fun h z => h = mm_h dA h0 r M st ∧ z = z0) (fun h z vv h1 z1 => vv = none ∧ h1 = mm_h dA h0 r M q ∧ z1 = z0) := by
  refine ht_C.mk hE.1 (by decide) (Nat.le_of_ble_eq_true rfl) [(0, .ref r)] rfl ?_
  intro p e s m below meth c ls h z X hin hpre I hl
  have hx := X.1
  have hb := X.2.1
  have hml := X.2.2.1
  have hown : s.vm.findClass "MarkupStoreModel" = some m.cls := X.2.2.2.1
  have hts := X.2.2.2.2.2.2.1
  have hK := X.2.2.2.2.2.2.2.2.1
  rw [hpre.1, hpre.2] at I
  clear hpre
  have b63 : ∀ (ls : Array Slot) (st : mT) (H : Heap) (locs : List Loc), g_beginPath_63 st = some q → lv_has ls 2 [(0, .ref r)] → hm_I D s0 s (mm_h dA h0 r M st) z0 H locs → W p l e { frames := 1, cells := 0, slots := 0, locals := 21 } s m ([.ref r] : List Value).toArray below meth c H locs 0 0 (MQ below (ht_Q D s0 (fun vv h1 z1 => vv = none ∧ h1 = mm_h dA h0 r M q ∧ z1 = z0)) ([.ref r] : List Value).toArray s 0 0 (fun q => s0.heap.size ≤ q)) (F0 m 63 ls []) := by
    intro ls st H locs hF hl I
    unfold g_beginPath_63 at hF
    refine lv_aload_n hx hb d85_63 rfl (lv_at hl 0 rfl) ?_
    refine lv_iconst (v := 1) hx hb d85_64 (by decide) ?_
    obtain ⟨st5, e9, hF⟩ := mm_lt_some hF
    refine mm_put (k := 47) (ty := .int) X I (by decide) ms_k1363 rfl rfl (by decide +kernel) ⟨rfl, rfl⟩ rfl e9 d85_65 (fun H locs I => ?_)
    clear e9
    exact ht_vret X d85_68 I (Nat.le_of_ble_eq_true rfl) (Nat.le_of_ble_eq_true rfl) (mm_finV hF)
  have b33 : ∀ (ls : Array Slot) (x1 : Int32) (st : mT) (H : Heap) (locs : List Loc), g_beginPath_33 x1 st = some q → lv_has ls 2 [(0, .ref r), (1, .int x1)] → hm_I D s0 s (mm_h dA h0 r M st) z0 H locs → W p l e { frames := 1, cells := 0, slots := 0, locals := 21 } s m ([.ref r] : List Value).toArray below meth c H locs 0 0 (MQ below (ht_Q D s0 (fun vv h1 z1 => vv = none ∧ h1 = mm_h dA h0 r M q ∧ z1 = z0)) ([.ref r] : List Value).toArray s 0 0 (fun q => s0.heap.size ≤ q)) (F0 m 33 ls []) := by
    intro ls x1 st H locs hF hl I
    unfold g_beginPath_33 at hF
    refine lv_aload_n hx hb d85_33 rfl (lv_at hl 0 rfl) ?_
    refine va_get (D := D) (ci := 2) (v := .int (st.1 45)) (C := kR2) (T := kT2) (N := 60) hx hb hts ku2 hown hK (hm_one I.1 mm_hr) 0 rfl rfl 45 (by decide) (hts _ ms_k1361) (fun _ h => h) rfl d85_34 ?_
    refine lv_if_ne hx hb d85_37 rfl (fun h9 => ?_) (fun h9 => ?_)
    · have hF := (if_neg h9).symm.trans hF
      refine lv_aload_n hx hb d85_48 rfl (lv_at hl 0 rfl) ?_
      refine va_get (D := D) (ci := 2) (v := .ref (M 41)) (C := kR2) (T := kT2) (N := 60) hx hb hts ku2 hown hK (hm_one I.1 mm_hr) 0 rfl rfl 41 (by decide) (hts _ ms_k1357) (fun _ h => h) rfl d85_49 ?_
      refine lv_aload_n hx hb d85_52 rfl (lv_at hl 0 rfl) ?_
      refine va_get (D := D) (ci := 2) (v := .ref (M 50)) (C := kR2) (T := kT2) (N := 60) hx hb hts ku2 hown hK (hm_one I.1 mm_hr) 0 rfl rfl 50 (by decide) (hts _ ms_k1366) (fun _ h => h) rfl d85_53 ?_
      refine lv_aload_n hx hb d85_56 rfl (lv_at hl 0 rfl) ?_
      refine va_get (D := D) (ci := 2) (v := .int (st.1 45)) (C := kR2) (T := kT2) (N := 60) hx hb hts ku2 hown hK (hm_one I.1 mm_hr) 0 rfl rfl 45 (by decide) (hts _ ms_k1361) (fun _ h => h) rfl d85_57 ?_
      obtain ⟨v2, i9, e9, hF⟩ := mm_ld_some hF
      refine va_iald hx hb hK (hm_one I.1 (mm_a50 hM)) 0 0 rfl rfl i9 d85_60 ?_
      refine ms_top (y := v2) e9 ?_
      clear e9 i9
      refine lv_iload_n hx hb d85_61 rfl (lv_at hl 1 rfl) ?_
      obtain ⟨i9, hF⟩ := mm_ix_some hF
      obtain ⟨st3, e9, hF⟩ := mm_lt_some hF
      refine mm_zast (k := 41) X I hM (by decide) 3 (fun _ => rfl) rfl i9 e9 d85_62 (fun H locs I => ?_)
      clear e9 i9
      exact b63 ls st3 _ _ hF (hl.sub [0] rfl) I
    · have hF := (if_pos h9).symm.trans hF
      refine lv_aload_n hx hb d85_40 rfl (lv_at hl 0 rfl) ?_
      refine lv_iload_n hx hb d85_41 rfl (lv_at hl 1 rfl) ?_
      obtain ⟨hz9, hF⟩ := mm_zc_some hF
      obtain ⟨st6, e9, hF⟩ := mm_lt_some hF
      refine mm_put (k := 49) (ty := .boolean) X I (by decide) ms_k1365 rfl rfl (by decide +kernel) hz9 rfl e9 d85_42 (fun H locs I => ?_)
      clear e9
      refine lv_goto hx hb d85_45 rfl ?_
      exact b63 ls st6 _ _ hF (hl.sub [0] rfl) I
  have b18 : ∀ (ls : Array Slot) (w0 : Int32) (st : mT) (H : Heap) (locs : List Loc), g_beginPath_18 w0 st = some q → lv_has ls 2 [(0, .ref r)] → hm_I D s0 s (mm_h dA h0 r M st) z0 H locs → W p l e { frames := 1, cells := 0, slots := 0, locals := 21 } s m ([.ref r] : List Value).toArray below meth c H locs 0 0 (MQ below (ht_Q D s0 (fun vv h1 z1 => vv = none ∧ h1 = mm_h dA h0 r M q ∧ z1 = z0)) ([.ref r] : List Value).toArray s 0 0 (fun q => s0.heap.size ≤ q)) (F0 m 18 ls [.int w0]) := by
    intro ls w0 st H locs hF hl I
    unfold g_beginPath_18 at hF
    refine lv_istore_n hx hb d85_18 rfl hl (by decide) rfl (fun ls hl => ?_)
    have hl : lv_has ls 2 [(1, .int w0), (0, .ref r)] := hl
    refine lv_iload_n hx hb d85_19 rfl (lv_at hl 0 rfl) ?_
    refine lv_if_eq hx hb d85_20 rfl (fun h9 => ?_) (fun h9 => ?_)
    · have hF := (if_pos h9).symm.trans hF
      exact b33 ls w0 st _ _ hF (hl.sub [1, 0] rfl) I
    · have hF := (if_neg h9).symm.trans hF
      refine lv_aload_n hx hb d85_23 rfl (lv_at hl 1 rfl) ?_
      refine lv_dup hx hb d85_24 rfl ?_
      refine va_get (D := D) (ci := 2) (v := .int (st.1 8)) (C := kR2) (T := kT2) (N := 60) hx hb hts ku2 hown hK (hm_one I.1 mm_hr) 0 rfl rfl 8 (by decide) (hts _ ms_k1324) (fun _ h => h) rfl d85_25 ?_
      refine lv_iconst (v := 1) hx hb d85_28 (by decide) ?_
      refine lv_iadd hx hb d85_29 ?_
      obtain ⟨st7, e9, hF⟩ := mm_lt_some hF
      refine mm_put (k := 8) (ty := .int) X I (by decide) ms_k1324 rfl rfl (by decide +kernel) ⟨rfl, rfl⟩ rfl e9 d85_30 (fun H locs I => ?_)
      clear e9
      exact b33 ls w0 st7 _ _ hF (hl.sub [1, 0] rfl) I
  have hF := hg
  unfold g_beginPath at hF
  refine lv_aload_n hx hb d85_0 rfl (lv_at hl 0 rfl) ?_
  refine lv_aload_n hx hb d85_1 rfl (lv_at hl 0 rfl) ?_
  refine va_get (D := D) (ci := 2) (v := .int (st.1 8)) (C := kR2) (T := kT2) (N := 60) hx hb hts ku2 hown hK (hm_one I.1 mm_hr) 0 rfl rfl 8 (by decide) (hts _ ms_k1324) (fun _ h => h) rfl d85_2 ?_
  obtain ⟨q1, e9, hF⟩ := mm_bd hF
  refine ht_V (C := "MarkupStoreModel") (rest := []) (as := [.int (st.1 8)]) X hl (cm_look l D dA s0 hE h0 r M hM z0 (st.1 8) st q1 e9) (List.forall_mem_cons.mpr ⟨ms_k1516, List.forall_mem_cons.mpr ⟨ms_k1518, List.forall_mem_cons.mpr ⟨ms_p46, List.forall_mem_cons.mpr ⟨ms_k7, List.forall_mem_cons.mpr ⟨ms_k1519, fun _ h => absurd h List.not_mem_nil⟩⟩⟩⟩⟩) ⟨rfl, by decide +kernel, by decide +kernel, (by decide +kernel : (parseMethodDescriptor "(I)C").map (fun d => d.parameters.length) = some 1)⟩ (hm_recv hK I rfl mm_hr) I ⟨rfl, rfl⟩ ⟨⟨Nat.le_of_ble_eq_true rfl, Nat.le_of_ble_eq_true rfl⟩, Nat.le_of_ble_eq_true rfl, Nat.le_of_ble_eq_true rfl⟩ rfl (Nat.le_of_ble_eq_true rfl) d85_5 (fun vv h1 z1 H locs hR I9 => ?_)
  obtain ⟨e1, e2, e3⟩ := hR
  rw [e2, e3] at I9
  clear I e2 e3 e9
  have I := I9
  clear I9
  subst e1
  refine W.eq (g2 := F0 m 8 ls [.int q1.1]) rfl ?_
  refine lv_bipush (v := 47) hx hb d85_8 (by decide) ?_
  refine lv_icmp_ne hx hb d85_10 rfl (fun h9 => ?_) (fun h9 => ?_)
  · have hF := (if_neg h9).symm.trans hF
    refine lv_iconst (v := 0) hx hb d85_17 (by decide) ?_
    exact b18 ls 0 q1.2 _ _ hF (hl.sub [0] rfl) I
  · have hF := (if_pos h9).symm.trans hF
    refine lv_iconst (v := 1) hx hb d85_13 (by decide) ?_
    refine lv_goto hx hb d85_14 rfl ?_
    exact b18 ls 1 q1.2 _ _ hF (hl.sub [0] rfl) I

def g_beginStep_286 (w0 : Int32) (w1 : Int32) (st : mT) : Option (mT) := (mm_lt (mm_F st 8 (w1 + w0)) (fun st26 => (mm_lt (mm_F st26 47 2) (fun st27 => (some st27)))))
def g_beginStep_239 (x3 : Int32) (st : mT) : Option (mT) := (mm_ix 5 (st.1 45) (fun j22 => mm_lt (mm_G st 51 j22 (st.1 24)) (fun st21 => (mm_ix 5 (st21.1 45) (fun j24 => mm_lt (mm_G st21 52 j24 (-1)) (fun st23 => (mm_lt (mm_F st23 24 ((st23.1 24) + 1)) (fun st25 => (if x3 ≤ 0 then (g_beginStep_286 1 (st25.1 8) st25) else (g_beginStep_286 x3 (st25.1 8) st25))))))))))
def g_beginStep_93 (x1 : Int32) (x3 : Int32) (w0 : Int32) (st : mT) : Option (mT) := (if 0 ≤ w0 then (mm_ix 130 (st.1 24) (fun j6 => mm_lt (mm_G st 25 j6 x1) (fun st5 => (mm_ix 130 (st5.1 24) (fun j8 => mm_lt (mm_G st5 26 j8 w0) (fun st7 => (mm_ix 130 (st7.1 24) (fun j10 => mm_lt (mm_G st7 27 j10 (st7.1 8)) (fun st9 => (mm_ix 130 (st9.1 24) (fun j12 => mm_lt (mm_G st9 28 j12 x3) (fun st11 => (mm_ix 130 (st11.1 24) (fun j14 => mm_lt (mm_G st11 29 j14 (-1)) (fun st13 => (mm_ix 130 (st13.1 24) (fun j16 => mm_lt (mm_G st13 30 j16 (-1)) (fun st15 => (mm_ld (st15.2.1 51) 5 (st15.1 45) (fun v17 => (if v17 < 0 then (if (st15.1 45) = 0 then (mm_lt (mm_F st15 48 (st15.1 24)) (fun st28 => (g_beginStep_239 x3 st28))) else (mm_ld (st15.2.1 50) 5 (st15.1 45) (fun v18 => (mm_ix 65 v18 (fun j20 => mm_lt (mm_G st15 38 j20 (st15.1 24)) (fun st19 => (g_beginStep_239 x3 st19))))))) else (mm_ix 130 v17 (fun j30 => mm_lt (mm_G st15 30 j30 (st15.1 24)) (fun st29 => (g_beginStep_239 x3 st29))))))))))))))))))))))))) else ((g_error (st.1 8) st).bind (fun q31 => (some q31))))
def g_beginStep_26 (x1 : Int32) (st : mT) : Option (mT) := ((g_look (st.1 8) st).bind (fun q3 => ((g_letters (q3.2.1 8) q3.2).bind (fun q4 => (if q4.1 ≤ 0 then (if q3.1 = 42 then (g_beginStep_93 x1 q4.1 1 q4.2) else (if q3.1 = 35 then (g_beginStep_93 x1 q4.1 2 q4.2) else (if q3.1 = 37 then (g_beginStep_93 x1 q4.1 3 q4.2) else (if q3.1 = 46 then (g_beginStep_93 x1 q4.1 4 q4.2) else (g_beginStep_93 x1 q4.1 (-1) q4.2))))) else (g_beginStep_93 x1 q4.1 0 q4.2))))))
def g_beginStep (st : mT) : Option (mT) := ((g_look (st.1 8) st).bind (fun q1 => ((g_axisOf q1.1 q1.2).bind (fun q2 => (if q2.1 ≤ 0 then (g_beginStep_26 q2.1 q2.2) else (mm_lt (mm_F q2.2 8 ((q2.2.1 8) + 1)) (fun st32 => (g_beginStep_26 q2.1 st32))))))))
set_option maxRecDepth 100000 in
set_option maxHeartbeats 8000000 in
theorem cm_beginStep (l : Launch) (D : va_G) (dA : Nat → ClassId) (s0 : State) (hE : ms_EV D dA s0) (h0 : hm_T) (r : Nat) (M : Nat → Nat) (hM : mm_ok r M) (z0 : hz_T) (st : mT) (q : mT) (hg : g_beginStep st = some q) : ht_C l D s0 yM86 bM86 6 (Option.none : Option Jvm.ClassFile.FieldType) 2 43 0 0 [.ref r] (fun h z => h = mm_h dA h0 r M st ∧ z = z0) (fun h z vv h1 z1 => vv = none ∧ h1 = mm_h dA h0 r M q ∧ z1 = z0) := by
  refine ht_C.mk hE.1 (by decide) (Nat.le_of_ble_eq_true rfl) [(0, .ref r)] rfl ?_
  intro p e s m below meth c ls h z X hin hpre I hl
  have hx := X.1
  have hb := X.2.1
  have hml := X.2.2.1
  have hown : s.vm.findClass "MarkupStoreModel" = some m.cls := X.2.2.2.1
  have hts := X.2.2.2.2.2.2.1
  have hK := X.2.2.2.2.2.2.2.2.1
  rw [hpre.1, hpre.2] at I
  clear hpre
  have b286 : ∀ (ls : Array Slot) (w0 : Int32) (w1 : Int32) (st : mT) (H : Heap) (locs : List Loc), g_beginStep_286 w0 w1 st = some q → lv_has ls 6 [(0, .ref r)] → hm_I D s0 s (mm_h dA h0 r M st) z0 H locs → W p l e { frames := 2, cells := 0, slots := 0, locals := 43 } s m ([.ref r] : List Value).toArray below meth c H locs 0 0 (MQ below (ht_Q D s0 (fun vv h1 z1 => vv = none ∧ h1 = mm_h dA h0 r M q ∧ z1 = z0)) ([.ref r] : List Value).toArray s 0 0 (fun q => s0.heap.size ≤ q)) (F0 m 286 ls [.int w0, .int w1, .ref r]) := by
    intro ls w0 w1 st H locs hF hl I
    unfold g_beginStep_286 at hF
    refine lv_iadd hx hb d86_286 ?_
    obtain ⟨st26, e9, hF⟩ := mm_lt_some hF
    refine mm_put (k := 8) (ty := .int) X I (by decide) ms_k1324 rfl rfl (by decide +kernel) ⟨rfl, rfl⟩ rfl e9 d86_287 (fun H locs I => ?_)
    clear e9
    refine lv_aload_n hx hb d86_290 rfl (lv_at hl 0 rfl) ?_
    refine lv_iconst (v := 2) hx hb d86_291 (by decide) ?_
    obtain ⟨st27, e9, hF⟩ := mm_lt_some hF
    refine mm_put (k := 47) (ty := .int) X I (by decide) ms_k1363 rfl rfl (by decide +kernel) ⟨rfl, rfl⟩ rfl e9 d86_292 (fun H locs I => ?_)
    clear e9
    exact ht_vret X d86_295 I (Nat.le_of_ble_eq_true rfl) (Nat.le_of_ble_eq_true rfl) (mm_finV hF)
  have b239 : ∀ (ls : Array Slot) (x3 : Int32) (st : mT) (H : Heap) (locs : List Loc), g_beginStep_239 x3 st = some q → lv_has ls 6 [(0, .ref r), (3, .int x3)] → hm_I D s0 s (mm_h dA h0 r M st) z0 H locs → W p l e { frames := 2, cells := 0, slots := 0, locals := 43 } s m ([.ref r] : List Value).toArray below meth c H locs 0 0 (MQ below (ht_Q D s0 (fun vv h1 z1 => vv = none ∧ h1 = mm_h dA h0 r M q ∧ z1 = z0)) ([.ref r] : List Value).toArray s 0 0 (fun q => s0.heap.size ≤ q)) (F0 m 239 ls []) := by
    intro ls x3 st H locs hF hl I
    unfold g_beginStep_239 at hF
    refine lv_aload_n hx hb d86_239 rfl (lv_at hl 0 rfl) ?_
    refine va_get (D := D) (ci := 2) (v := .ref (M 51)) (C := kR2) (T := kT2) (N := 60) hx hb hts ku2 hown hK (hm_one I.1 mm_hr) 0 rfl rfl 51 (by decide) (hts _ ms_k1367) (fun _ h => h) rfl d86_240 ?_
    refine lv_aload_n hx hb d86_243 rfl (lv_at hl 0 rfl) ?_
    refine va_get (D := D) (ci := 2) (v := .int (st.1 45)) (C := kR2) (T := kT2) (N := 60) hx hb hts ku2 hown hK (hm_one I.1 mm_hr) 0 rfl rfl 45 (by decide) (hts _ ms_k1361) (fun _ h => h) rfl d86_244 ?_
    refine lv_aload_n hx hb d86_247 rfl (lv_at hl 0 rfl) ?_
    refine va_get (D := D) (ci := 2) (v := .int (st.1 24)) (C := kR2) (T := kT2) (N := 60) hx hb hts ku2 hown hK (hm_one I.1 mm_hr) 0 rfl rfl 24 (by decide) (hts _ ms_k1340) (fun _ h => h) rfl d86_248 ?_
    obtain ⟨i9, hF⟩ := mm_ix_some hF
    obtain ⟨st21, e9, hF⟩ := mm_lt_some hF
    refine mm_iast (k := 51) X I hM (by decide) 0 (fun _ => rfl) rfl i9 e9 d86_251 (fun H locs I => ?_)
    clear e9 i9
    refine lv_aload_n hx hb d86_252 rfl (lv_at hl 0 rfl) ?_
    refine va_get (D := D) (ci := 2) (v := .ref (M 52)) (C := kR2) (T := kT2) (N := 60) hx hb hts ku2 hown hK (hm_one I.1 mm_hr) 0 rfl rfl 52 (by decide) (hts _ ms_k1368) (fun _ h => h) rfl d86_253 ?_
    refine lv_aload_n hx hb d86_256 rfl (lv_at hl 0 rfl) ?_
    refine va_get (D := D) (ci := 2) (v := .int (st21.1 45)) (C := kR2) (T := kT2) (N := 60) hx hb hts ku2 hown hK (hm_one I.1 mm_hr) 0 rfl rfl 45 (by decide) (hts _ ms_k1361) (fun _ h => h) rfl d86_257 ?_
    refine lv_iconst (v := (-1)) hx hb d86_260 (by decide) ?_
    obtain ⟨i9, hF⟩ := mm_ix_some hF
    obtain ⟨st23, e9, hF⟩ := mm_lt_some hF
    refine mm_iast (k := 52) X I hM (by decide) 0 (fun _ => rfl) rfl i9 e9 d86_261 (fun H locs I => ?_)
    clear e9 i9
    refine lv_aload_n hx hb d86_262 rfl (lv_at hl 0 rfl) ?_
    refine lv_dup hx hb d86_263 rfl ?_
    refine va_get (D := D) (ci := 2) (v := .int (st23.1 24)) (C := kR2) (T := kT2) (N := 60) hx hb hts ku2 hown hK (hm_one I.1 mm_hr) 0 rfl rfl 24 (by decide) (hts _ ms_k1340) (fun _ h => h) rfl d86_264 ?_
    refine lv_iconst (v := 1) hx hb d86_267 (by decide) ?_
    refine lv_iadd hx hb d86_268 ?_
    obtain ⟨st25, e9, hF⟩ := mm_lt_some hF
    refine mm_put (k := 24) (ty := .int) X I (by decide) ms_k1340 rfl rfl (by decide +kernel) ⟨rfl, rfl⟩ rfl e9 d86_269 (fun H locs I => ?_)
    clear e9
    refine lv_aload_n hx hb d86_272 rfl (lv_at hl 0 rfl) ?_
    refine lv_dup hx hb d86_273 rfl ?_
    refine va_get (D := D) (ci := 2) (v := .int (st25.1 8)) (C := kR2) (T := kT2) (N := 60) hx hb hts ku2 hown hK (hm_one I.1 mm_hr) 0 rfl rfl 8 (by decide) (hts _ ms_k1324) (fun _ h => h) rfl d86_274 ?_
    refine lv_iload_n hx hb d86_277 rfl (lv_at hl 1 rfl) ?_
    refine lv_if_le hx hb d86_278 rfl (fun h9 => ?_) (fun h9 => ?_)
    · have hF := (if_pos h9).symm.trans hF
      refine lv_iconst (v := 1) hx hb d86_285 (by decide) ?_
      exact b286 ls 1 (st25.1 8) st25 _ _ hF (hl.sub [0] rfl) I
    · have hF := (if_neg h9).symm.trans hF
      refine lv_iload_n hx hb d86_281 rfl (lv_at hl 1 rfl) ?_
      refine lv_goto hx hb d86_282 rfl ?_
      exact b286 ls x3 (st25.1 8) st25 _ _ hF (hl.sub [0] rfl) I
  have b93 : ∀ (ls : Array Slot) (x1 : Int32) (x3 : Int32) (w0 : Int32) (st : mT) (H : Heap) (locs : List Loc), g_beginStep_93 x1 x3 w0 st = some q → lv_has ls 6 [(0, .ref r), (1, .int x1), (3, .int x3)] → hm_I D s0 s (mm_h dA h0 r M st) z0 H locs → W p l e { frames := 2, cells := 0, slots := 0, locals := 43 } s m ([.ref r] : List Value).toArray below meth c H locs 0 0 (MQ below (ht_Q D s0 (fun vv h1 z1 => vv = none ∧ h1 = mm_h dA h0 r M q ∧ z1 = z0)) ([.ref r] : List Value).toArray s 0 0 (fun q => s0.heap.size ≤ q)) (F0 m 93 ls [.int w0]) := by
    intro ls x1 x3 w0 st H locs hF hl I
    unfold g_beginStep_93 at hF
    refine lv_istore hx hb d86_93 hl (by decide) rfl (fun ls hl => ?_)
    have hl : lv_has ls 6 [(4, .int w0), (0, .ref r), (1, .int x1), (3, .int x3)] := hl
    refine lv_iload hx hb d86_95 (lv_at hl 0 rfl) ?_
    refine lv_if_ge hx hb d86_97 rfl (fun h9 => ?_) (fun h9 => ?_)
    · have hF := (if_pos h9).symm.trans hF
      refine lv_aload_n hx hb d86_109 rfl (lv_at hl 1 rfl) ?_
      refine va_get (D := D) (ci := 2) (v := .ref (M 25)) (C := kR2) (T := kT2) (N := 60) hx hb hts ku2 hown hK (hm_one I.1 mm_hr) 0 rfl rfl 25 (by decide) (hts _ ms_k1341) (fun _ h => h) rfl d86_110 ?_
      refine lv_aload_n hx hb d86_113 rfl (lv_at hl 1 rfl) ?_
      refine va_get (D := D) (ci := 2) (v := .int (st.1 24)) (C := kR2) (T := kT2) (N := 60) hx hb hts ku2 hown hK (hm_one I.1 mm_hr) 0 rfl rfl 24 (by decide) (hts _ ms_k1340) (fun _ h => h) rfl d86_114 ?_
      refine lv_iload_n hx hb d86_117 rfl (lv_at hl 2 rfl) ?_
      obtain ⟨i9, hF⟩ := mm_ix_some hF
      obtain ⟨st5, e9, hF⟩ := mm_lt_some hF
      refine mm_iast (k := 25) X I hM (by decide) 0 (fun _ => rfl) rfl i9 e9 d86_118 (fun H locs I => ?_)
      clear e9 i9
      refine lv_aload_n hx hb d86_119 rfl (lv_at hl 1 rfl) ?_
      refine va_get (D := D) (ci := 2) (v := .ref (M 26)) (C := kR2) (T := kT2) (N := 60) hx hb hts ku2 hown hK (hm_one I.1 mm_hr) 0 rfl rfl 26 (by decide) (hts _ ms_k1342) (fun _ h => h) rfl d86_120 ?_
      refine lv_aload_n hx hb d86_123 rfl (lv_at hl 1 rfl) ?_
      refine va_get (D := D) (ci := 2) (v := .int (st5.1 24)) (C := kR2) (T := kT2) (N := 60) hx hb hts ku2 hown hK (hm_one I.1 mm_hr) 0 rfl rfl 24 (by decide) (hts _ ms_k1340) (fun _ h => h) rfl d86_124 ?_
      refine lv_iload hx hb d86_127 (lv_at hl 0 rfl) ?_
      obtain ⟨i9, hF⟩ := mm_ix_some hF
      obtain ⟨st7, e9, hF⟩ := mm_lt_some hF
      refine mm_iast (k := 26) X I hM (by decide) 0 (fun _ => rfl) rfl i9 e9 d86_129 (fun H locs I => ?_)
      clear e9 i9
      refine lv_aload_n hx hb d86_130 rfl (lv_at hl 1 rfl) ?_
      refine va_get (D := D) (ci := 2) (v := .ref (M 27)) (C := kR2) (T := kT2) (N := 60) hx hb hts ku2 hown hK (hm_one I.1 mm_hr) 0 rfl rfl 27 (by decide) (hts _ ms_k1343) (fun _ h => h) rfl d86_131 ?_
      refine lv_aload_n hx hb d86_134 rfl (lv_at hl 1 rfl) ?_
      refine va_get (D := D) (ci := 2) (v := .int (st7.1 24)) (C := kR2) (T := kT2) (N := 60) hx hb hts ku2 hown hK (hm_one I.1 mm_hr) 0 rfl rfl 24 (by decide) (hts _ ms_k1340) (fun _ h => h) rfl d86_135 ?_
      refine lv_aload_n hx hb d86_138 rfl (lv_at hl 1 rfl) ?_
      refine va_get (D := D) (ci := 2) (v := .int (st7.1 8)) (C := kR2) (T := kT2) (N := 60) hx hb hts ku2 hown hK (hm_one I.1 mm_hr) 0 rfl rfl 8 (by decide) (hts _ ms_k1324) (fun _ h => h) rfl d86_139 ?_
      obtain ⟨i9, hF⟩ := mm_ix_some hF
      obtain ⟨st9, e9, hF⟩ := mm_lt_some hF
      refine mm_iast (k := 27) X I hM (by decide) 0 (fun _ => rfl) rfl i9 e9 d86_142 (fun H locs I => ?_)
      clear e9 i9
      refine lv_aload_n hx hb d86_143 rfl (lv_at hl 1 rfl) ?_
      refine va_get (D := D) (ci := 2) (v := .ref (M 28)) (C := kR2) (T := kT2) (N := 60) hx hb hts ku2 hown hK (hm_one I.1 mm_hr) 0 rfl rfl 28 (by decide) (hts _ ms_k1344) (fun _ h => h) rfl d86_144 ?_
      refine lv_aload_n hx hb d86_147 rfl (lv_at hl 1 rfl) ?_
      refine va_get (D := D) (ci := 2) (v := .int (st9.1 24)) (C := kR2) (T := kT2) (N := 60) hx hb hts ku2 hown hK (hm_one I.1 mm_hr) 0 rfl rfl 24 (by decide) (hts _ ms_k1340) (fun _ h => h) rfl d86_148 ?_
      refine lv_iload_n hx hb d86_151 rfl (lv_at hl 3 rfl) ?_
      obtain ⟨i9, hF⟩ := mm_ix_some hF
      obtain ⟨st11, e9, hF⟩ := mm_lt_some hF
      refine mm_iast (k := 28) X I hM (by decide) 0 (fun _ => rfl) rfl i9 e9 d86_152 (fun H locs I => ?_)
      clear e9 i9
      refine lv_aload_n hx hb d86_153 rfl (lv_at hl 1 rfl) ?_
      refine va_get (D := D) (ci := 2) (v := .ref (M 29)) (C := kR2) (T := kT2) (N := 60) hx hb hts ku2 hown hK (hm_one I.1 mm_hr) 0 rfl rfl 29 (by decide) (hts _ ms_k1345) (fun _ h => h) rfl d86_154 ?_
      refine lv_aload_n hx hb d86_157 rfl (lv_at hl 1 rfl) ?_
      refine va_get (D := D) (ci := 2) (v := .int (st11.1 24)) (C := kR2) (T := kT2) (N := 60) hx hb hts ku2 hown hK (hm_one I.1 mm_hr) 0 rfl rfl 24 (by decide) (hts _ ms_k1340) (fun _ h => h) rfl d86_158 ?_
      refine lv_iconst (v := (-1)) hx hb d86_161 (by decide) ?_
      obtain ⟨i9, hF⟩ := mm_ix_some hF
      obtain ⟨st13, e9, hF⟩ := mm_lt_some hF
      refine mm_iast (k := 29) X I hM (by decide) 0 (fun _ => rfl) rfl i9 e9 d86_162 (fun H locs I => ?_)
      clear e9 i9
      refine lv_aload_n hx hb d86_163 rfl (lv_at hl 1 rfl) ?_
      refine va_get (D := D) (ci := 2) (v := .ref (M 30)) (C := kR2) (T := kT2) (N := 60) hx hb hts ku2 hown hK (hm_one I.1 mm_hr) 0 rfl rfl 30 (by decide) (hts _ ms_k1346) (fun _ h => h) rfl d86_164 ?_
      refine lv_aload_n hx hb d86_167 rfl (lv_at hl 1 rfl) ?_
      refine va_get (D := D) (ci := 2) (v := .int (st13.1 24)) (C := kR2) (T := kT2) (N := 60) hx hb hts ku2 hown hK (hm_one I.1 mm_hr) 0 rfl rfl 24 (by decide) (hts _ ms_k1340) (fun _ h => h) rfl d86_168 ?_
      refine lv_iconst (v := (-1)) hx hb d86_171 (by decide) ?_
      obtain ⟨i9, hF⟩ := mm_ix_some hF
      obtain ⟨st15, e9, hF⟩ := mm_lt_some hF
      refine mm_iast (k := 30) X I hM (by decide) 0 (fun _ => rfl) rfl i9 e9 d86_172 (fun H locs I => ?_)
      clear e9 i9
      refine lv_aload_n hx hb d86_173 rfl (lv_at hl 1 rfl) ?_
      refine va_get (D := D) (ci := 2) (v := .ref (M 51)) (C := kR2) (T := kT2) (N := 60) hx hb hts ku2 hown hK (hm_one I.1 mm_hr) 0 rfl rfl 51 (by decide) (hts _ ms_k1367) (fun _ h => h) rfl d86_174 ?_
      refine lv_aload_n hx hb d86_177 rfl (lv_at hl 1 rfl) ?_
      refine va_get (D := D) (ci := 2) (v := .int (st15.1 45)) (C := kR2) (T := kT2) (N := 60) hx hb hts ku2 hown hK (hm_one I.1 mm_hr) 0 rfl rfl 45 (by decide) (hts _ ms_k1361) (fun _ h => h) rfl d86_178 ?_
      obtain ⟨v17, i9, e9, hF⟩ := mm_ld_some hF
      refine va_iald hx hb hK (hm_one I.1 (mm_a51 hM)) 0 0 rfl rfl i9 d86_181 ?_
      refine ms_top (y := v17) e9 ?_
      clear e9 i9
      refine lv_istore hx hb d86_182 hl (by decide) rfl (fun ls hl => ?_)
      have hl : lv_has ls 6 [(5, .int v17), (4, .int w0), (0, .ref r), (1, .int x1), (3, .int x3)] := hl
      refine lv_iload hx hb d86_184 (lv_at hl 0 rfl) ?_
      refine lv_if_lt hx hb d86_186 rfl (fun h9 => ?_) (fun h9 => ?_)
      · have hF := (if_pos h9).symm.trans hF
        refine lv_aload_n hx hb d86_203 rfl (lv_at hl 2 rfl) ?_
        refine va_get (D := D) (ci := 2) (v := .int (st15.1 45)) (C := kR2) (T := kT2) (N := 60) hx hb hts ku2 hown hK (hm_one I.1 mm_hr) 0 rfl rfl 45 (by decide) (hts _ ms_k1361) (fun _ h => h) rfl d86_204 ?_
        refine lv_if_ne hx hb d86_207 rfl (fun h9 => ?_) (fun h9 => ?_)
        · have hF := (if_neg h9).symm.trans hF
          refine lv_aload_n hx hb d86_221 rfl (lv_at hl 2 rfl) ?_
          refine va_get (D := D) (ci := 2) (v := .ref (M 38)) (C := kR2) (T := kT2) (N := 60) hx hb hts ku2 hown hK (hm_one I.1 mm_hr) 0 rfl rfl 38 (by decide) (hts _ ms_k1354) (fun _ h => h) rfl d86_222 ?_
          refine lv_aload_n hx hb d86_225 rfl (lv_at hl 2 rfl) ?_
          refine va_get (D := D) (ci := 2) (v := .ref (M 50)) (C := kR2) (T := kT2) (N := 60) hx hb hts ku2 hown hK (hm_one I.1 mm_hr) 0 rfl rfl 50 (by decide) (hts _ ms_k1366) (fun _ h => h) rfl d86_226 ?_
          refine lv_aload_n hx hb d86_229 rfl (lv_at hl 2 rfl) ?_
          refine va_get (D := D) (ci := 2) (v := .int (st15.1 45)) (C := kR2) (T := kT2) (N := 60) hx hb hts ku2 hown hK (hm_one I.1 mm_hr) 0 rfl rfl 45 (by decide) (hts _ ms_k1361) (fun _ h => h) rfl d86_230 ?_
          obtain ⟨v18, i9, e9, hF⟩ := mm_ld_some hF
          refine va_iald hx hb hK (hm_one I.1 (mm_a50 hM)) 0 0 rfl rfl i9 d86_233 ?_
          refine ms_top (y := v18) e9 ?_
          clear e9 i9
          refine lv_aload_n hx hb d86_234 rfl (lv_at hl 2 rfl) ?_
          refine va_get (D := D) (ci := 2) (v := .int (st15.1 24)) (C := kR2) (T := kT2) (N := 60) hx hb hts ku2 hown hK (hm_one I.1 mm_hr) 0 rfl rfl 24 (by decide) (hts _ ms_k1340) (fun _ h => h) rfl d86_235 ?_
          obtain ⟨i9, hF⟩ := mm_ix_some hF
          obtain ⟨st19, e9, hF⟩ := mm_lt_some hF
          refine mm_iast (k := 38) X I hM (by decide) 0 (fun _ => rfl) rfl i9 e9 d86_238 (fun H locs I => ?_)
          clear e9 i9
          exact b239 ls x3 st19 _ _ hF (hl.sub [2, 4] rfl) I
        · have hF := (if_pos h9).symm.trans hF
          refine lv_aload_n hx hb d86_210 rfl (lv_at hl 2 rfl) ?_
          refine lv_aload_n hx hb d86_211 rfl (lv_at hl 2 rfl) ?_
          refine va_get (D := D) (ci := 2) (v := .int (st15.1 24)) (C := kR2) (T := kT2) (N := 60) hx hb hts ku2 hown hK (hm_one I.1 mm_hr) 0 rfl rfl 24 (by decide) (hts _ ms_k1340) (fun _ h => h) rfl d86_212 ?_
          obtain ⟨st28, e9, hF⟩ := mm_lt_some hF
          refine mm_put (k := 48) (ty := .int) X I (by decide) ms_k1364 rfl rfl (by decide +kernel) ⟨rfl, rfl⟩ rfl e9 d86_215 (fun H locs I => ?_)
          clear e9
          refine lv_goto hx hb d86_218 rfl ?_
          exact b239 ls x3 st28 _ _ hF (hl.sub [2, 4] rfl) I
      · have hF := (if_neg h9).symm.trans hF
        refine lv_aload_n hx hb d86_189 rfl (lv_at hl 2 rfl) ?_
        refine va_get (D := D) (ci := 2) (v := .ref (M 30)) (C := kR2) (T := kT2) (N := 60) hx hb hts ku2 hown hK (hm_one I.1 mm_hr) 0 rfl rfl 30 (by decide) (hts _ ms_k1346) (fun _ h => h) rfl d86_190 ?_
        refine lv_iload hx hb d86_193 (lv_at hl 0 rfl) ?_
        refine lv_aload_n hx hb d86_195 rfl (lv_at hl 2 rfl) ?_
        refine va_get (D := D) (ci := 2) (v := .int (st15.1 24)) (C := kR2) (T := kT2) (N := 60) hx hb hts ku2 hown hK (hm_one I.1 mm_hr) 0 rfl rfl 24 (by decide) (hts _ ms_k1340) (fun _ h => h) rfl d86_196 ?_
        obtain ⟨i9, hF⟩ := mm_ix_some hF
        obtain ⟨st29, e9, hF⟩ := mm_lt_some hF
        refine mm_iast (k := 30) X I hM (by decide) 0 (fun _ => rfl) rfl i9 e9 d86_199 (fun H locs I => ?_)
        clear e9 i9
        refine lv_goto hx hb d86_200 rfl ?_
        exact b239 ls x3 st29 _ _ hF (hl.sub [2, 4] rfl) I
    · have hF := (if_neg h9).symm.trans hF
      refine lv_aload_n hx hb d86_100 rfl (lv_at hl 1 rfl) ?_
      refine lv_aload_n hx hb d86_101 rfl (lv_at hl 1 rfl) ?_
      refine va_get (D := D) (ci := 2) (v := .int (st.1 8)) (C := kR2) (T := kT2) (N := 60) hx hb hts ku2 hown hK (hm_one I.1 mm_hr) 0 rfl rfl 8 (by decide) (hts _ ms_k1324) (fun _ h => h) rfl d86_102 ?_
      obtain ⟨q31, e9, hF⟩ := mm_bd hF
      refine ht_V (C := "MarkupStoreModel") (rest := []) (as := [.int (st.1 8)]) X hl (cm_error l D dA s0 hE h0 r M hM z0 (st.1 8) st q31 e9) (List.forall_mem_cons.mpr ⟨ms_k1520, List.forall_mem_cons.mpr ⟨ms_k1522, List.forall_mem_cons.mpr ⟨ms_p47, List.forall_mem_cons.mpr ⟨ms_k7, List.forall_mem_cons.mpr ⟨ms_k1523, fun _ h => absurd h List.not_mem_nil⟩⟩⟩⟩⟩) ⟨rfl, by decide +kernel, by decide +kernel, (by decide +kernel : (parseMethodDescriptor "(I)V").map (fun d => d.parameters.length) = some 1)⟩ (hm_recv hK I rfl mm_hr) I ⟨rfl, rfl⟩ ⟨⟨Nat.le_of_ble_eq_true rfl, Nat.le_of_ble_eq_true rfl⟩, Nat.le_of_ble_eq_true rfl, Nat.le_of_ble_eq_true rfl⟩ rfl (Nat.le_of_ble_eq_true rfl) d86_105 (fun vv h1 z1 H locs hR I9 => ?_)
      obtain ⟨e1, e2, e3⟩ := hR
      rw [e2, e3] at I9
      clear I e2 e3 e9
      have I := I9
      clear I9
      subst e1
      refine W.eq (g2 := F0 m 108 ls []) rfl ?_
      exact ht_vret X d86_108 I (Nat.le_of_ble_eq_true rfl) (Nat.le_of_ble_eq_true rfl) (mm_finV hF)
  have b26 : ∀ (ls : Array Slot) (x1 : Int32) (st : mT) (H : Heap) (locs : List Loc), g_beginStep_26 x1 st = some q → lv_has ls 6 [(0, .ref r), (1, .int x1)] → hm_I D s0 s (mm_h dA h0 r M st) z0 H locs → W p l e { frames := 2, cells := 0, slots := 0, locals := 43 } s m ([.ref r] : List Value).toArray below meth c H locs 0 0 (MQ below (ht_Q D s0 (fun vv h1 z1 => vv = none ∧ h1 = mm_h dA h0 r M q ∧ z1 = z0)) ([.ref r] : List Value).toArray s 0 0 (fun q => s0.heap.size ≤ q)) (F0 m 26 ls []) := by
    intro ls x1 st H locs hF hl I
    unfold g_beginStep_26 at hF
    refine lv_aload_n hx hb d86_26 rfl (lv_at hl 0 rfl) ?_
    refine lv_aload_n hx hb d86_27 rfl (lv_at hl 0 rfl) ?_
    refine va_get (D := D) (ci := 2) (v := .int (st.1 8)) (C := kR2) (T := kT2) (N := 60) hx hb hts ku2 hown hK (hm_one I.1 mm_hr) 0 rfl rfl 8 (by decide) (hts _ ms_k1324) (fun _ h => h) rfl d86_28 ?_
    obtain ⟨q3, e9, hF⟩ := mm_bd hF
    refine ht_V (C := "MarkupStoreModel") (rest := []) (as := [.int (st.1 8)]) X hl (cm_look l D dA s0 hE h0 r M hM z0 (st.1 8) st q3 e9) (List.forall_mem_cons.mpr ⟨ms_k1516, List.forall_mem_cons.mpr ⟨ms_k1518, List.forall_mem_cons.mpr ⟨ms_p46, List.forall_mem_cons.mpr ⟨ms_k7, List.forall_mem_cons.mpr ⟨ms_k1519, fun _ h => absurd h List.not_mem_nil⟩⟩⟩⟩⟩) ⟨rfl, by decide +kernel, by decide +kernel, (by decide +kernel : (parseMethodDescriptor "(I)C").map (fun d => d.parameters.length) = some 1)⟩ (hm_recv hK I rfl mm_hr) I ⟨rfl, rfl⟩ ⟨⟨Nat.le_of_ble_eq_true rfl, Nat.le_of_ble_eq_true rfl⟩, Nat.le_of_ble_eq_true rfl, Nat.le_of_ble_eq_true rfl⟩ rfl (Nat.le_of_ble_eq_true rfl) d86_31 (fun vv h1 z1 H locs hR I9 => ?_)
    obtain ⟨e1, e2, e3⟩ := hR
    rw [e2, e3] at I9
    clear I e2 e3 e9
    have I := I9
    clear I9
    subst e1
    refine W.eq (g2 := F0 m 34 ls [.int q3.1]) rfl ?_
    refine lv_istore_n hx hb d86_34 rfl hl (by decide) rfl (fun ls hl => ?_)
    have hl : lv_has ls 6 [(2, .int q3.1), (0, .ref r), (1, .int x1)] := hl
    refine lv_aload_n hx hb d86_35 rfl (lv_at hl 1 rfl) ?_
    refine lv_aload_n hx hb d86_36 rfl (lv_at hl 1 rfl) ?_
    refine va_get (D := D) (ci := 2) (v := .int (q3.2.1 8)) (C := kR2) (T := kT2) (N := 60) hx hb hts ku2 hown hK (hm_one I.1 mm_hr) 0 rfl rfl 8 (by decide) (hts _ ms_k1324) (fun _ h => h) rfl d86_37 ?_
    obtain ⟨q4, e9, hF⟩ := mm_bd hF
    refine ht_V (C := "MarkupStoreModel") (rest := []) (as := [.int (q3.2.1 8)]) X hl (cm_letters l D dA s0 hE h0 r M hM z0 (q3.2.1 8) q3.2 q4 e9) (List.forall_mem_cons.mpr ⟨ms_k1539, List.forall_mem_cons.mpr ⟨ms_k1541, List.forall_mem_cons.mpr ⟨ms_p51, List.forall_mem_cons.mpr ⟨ms_k7, List.forall_mem_cons.mpr ⟨ms_k1542, fun _ h => absurd h List.not_mem_nil⟩⟩⟩⟩⟩) ⟨rfl, by decide +kernel, by decide +kernel, (by decide +kernel : (parseMethodDescriptor "(I)I").map (fun d => d.parameters.length) = some 1)⟩ (hm_recv hK I rfl mm_hr) I ⟨rfl, rfl⟩ ⟨⟨Nat.le_of_ble_eq_true rfl, Nat.le_of_ble_eq_true rfl⟩, Nat.le_of_ble_eq_true rfl, Nat.le_of_ble_eq_true rfl⟩ rfl (Nat.le_of_ble_eq_true rfl) d86_40 (fun vv h1 z1 H locs hR I9 => ?_)
    obtain ⟨e1, e2, e3⟩ := hR
    rw [e2, e3] at I9
    clear I e2 e3 e9
    have I := I9
    clear I9
    subst e1
    refine W.eq (g2 := F0 m 43 ls [.int q4.1]) rfl ?_
    refine lv_istore_n hx hb d86_43 rfl hl (by decide) rfl (fun ls hl => ?_)
    have hl : lv_has ls 6 [(3, .int q4.1), (2, .int q3.1), (0, .ref r), (1, .int x1)] := hl
    refine lv_iload_n hx hb d86_44 rfl (lv_at hl 0 rfl) ?_
    refine lv_if_le hx hb d86_45 rfl (fun h9 => ?_) (fun h9 => ?_)
    · have hF := (if_pos h9).symm.trans hF
      refine lv_iload_n hx hb d86_52 rfl (lv_at hl 1 rfl) ?_
      refine lv_bipush (v := 42) hx hb d86_53 (by decide) ?_
      refine lv_icmp_ne hx hb d86_55 rfl (fun h9 => ?_) (fun h9 => ?_)
      · have hF := (if_neg h9).symm.trans hF
        refine lv_iload_n hx hb d86_62 rfl (lv_at hl 1 rfl) ?_
        refine lv_bipush (v := 35) hx hb d86_63 (by decide) ?_
        refine lv_icmp_ne hx hb d86_65 rfl (fun h9 => ?_) (fun h9 => ?_)
        · have hF := (if_neg h9).symm.trans hF
          refine lv_iload_n hx hb d86_72 rfl (lv_at hl 1 rfl) ?_
          refine lv_bipush (v := 37) hx hb d86_73 (by decide) ?_
          refine lv_icmp_ne hx hb d86_75 rfl (fun h9 => ?_) (fun h9 => ?_)
          · have hF := (if_neg h9).symm.trans hF
            refine lv_iload_n hx hb d86_82 rfl (lv_at hl 1 rfl) ?_
            refine lv_bipush (v := 46) hx hb d86_83 (by decide) ?_
            refine lv_icmp_ne hx hb d86_85 rfl (fun h9 => ?_) (fun h9 => ?_)
            · have hF := (if_neg h9).symm.trans hF
              refine lv_iconst (v := (-1)) hx hb d86_92 (by decide) ?_
              exact b93 ls x1 q4.1 (-1) q4.2 _ _ hF (hl.sub [2, 3, 0] rfl) I
            · have hF := (if_pos h9).symm.trans hF
              refine lv_iconst (v := 4) hx hb d86_88 (by decide) ?_
              refine lv_goto hx hb d86_89 rfl ?_
              exact b93 ls x1 q4.1 4 q4.2 _ _ hF (hl.sub [2, 3, 0] rfl) I
          · have hF := (if_pos h9).symm.trans hF
            refine lv_iconst (v := 3) hx hb d86_78 (by decide) ?_
            refine lv_goto hx hb d86_79 rfl ?_
            exact b93 ls x1 q4.1 3 q4.2 _ _ hF (hl.sub [2, 3, 0] rfl) I
        · have hF := (if_pos h9).symm.trans hF
          refine lv_iconst (v := 2) hx hb d86_68 (by decide) ?_
          refine lv_goto hx hb d86_69 rfl ?_
          exact b93 ls x1 q4.1 2 q4.2 _ _ hF (hl.sub [2, 3, 0] rfl) I
      · have hF := (if_pos h9).symm.trans hF
        refine lv_iconst (v := 1) hx hb d86_58 (by decide) ?_
        refine lv_goto hx hb d86_59 rfl ?_
        exact b93 ls x1 q4.1 1 q4.2 _ _ hF (hl.sub [2, 3, 0] rfl) I
    · have hF := (if_neg h9).symm.trans hF
      refine lv_iconst (v := 0) hx hb d86_48 (by decide) ?_
      refine lv_goto hx hb d86_49 rfl ?_
      exact b93 ls x1 q4.1 0 q4.2 _ _ hF (hl.sub [2, 3, 0] rfl) I
  have hF := hg
  unfold g_beginStep at hF
  refine lv_aload_n hx hb d86_0 rfl (lv_at hl 0 rfl) ?_
  refine lv_aload_n hx hb d86_1 rfl (lv_at hl 0 rfl) ?_
  refine va_get (D := D) (ci := 2) (v := .int (st.1 8)) (C := kR2) (T := kT2) (N := 60) hx hb hts ku2 hown hK (hm_one I.1 mm_hr) 0 rfl rfl 8 (by decide) (hts _ ms_k1324) (fun _ h => h) rfl d86_2 ?_
  obtain ⟨q1, e9, hF⟩ := mm_bd hF
  refine ht_V (C := "MarkupStoreModel") (rest := []) (as := [.int (st.1 8)]) X hl (cm_look l D dA s0 hE h0 r M hM z0 (st.1 8) st q1 e9) (List.forall_mem_cons.mpr ⟨ms_k1516, List.forall_mem_cons.mpr ⟨ms_k1518, List.forall_mem_cons.mpr ⟨ms_p46, List.forall_mem_cons.mpr ⟨ms_k7, List.forall_mem_cons.mpr ⟨ms_k1519, fun _ h => absurd h List.not_mem_nil⟩⟩⟩⟩⟩) ⟨rfl, by decide +kernel, by decide +kernel, (by decide +kernel : (parseMethodDescriptor "(I)C").map (fun d => d.parameters.length) = some 1)⟩ (hm_recv hK I rfl mm_hr) I ⟨rfl, rfl⟩ ⟨⟨Nat.le_of_ble_eq_true rfl, Nat.le_of_ble_eq_true rfl⟩, Nat.le_of_ble_eq_true rfl, Nat.le_of_ble_eq_true rfl⟩ rfl (Nat.le_of_ble_eq_true rfl) d86_5 (fun vv h1 z1 H locs hR I9 => ?_)
  obtain ⟨e1, e2, e3⟩ := hR
  rw [e2, e3] at I9
  clear I e2 e3 e9
  have I := I9
  clear I9
  subst e1
  refine W.eq (g2 := F0 m 8 ls [.int q1.1]) rfl ?_
  obtain ⟨q2, e9, hF⟩ := mm_bd hF
  refine ht_S (rest := []) (as := [.int q1.1]) X hl (cm_axisOf l D dA s0 hE h0 r M hM z0 q1.1 q1.2 q2 e9) (List.forall_mem_cons.mpr ⟨ms_k1686, List.forall_mem_cons.mpr ⟨ms_k1687, List.forall_mem_cons.mpr ⟨ms_k7, List.forall_mem_cons.mpr ⟨ms_k1688, fun _ h => absurd h List.not_mem_nil⟩⟩⟩⟩) ⟨by decide +kernel, by decide +kernel, (by decide +kernel : (parseMethodDescriptor "(C)I").map (fun d => d.parameters.length) = some 1)⟩ I ⟨rfl, rfl⟩ ⟨⟨Nat.le_of_ble_eq_true rfl, Nat.le_of_ble_eq_true rfl⟩, Nat.le_of_ble_eq_true rfl, Nat.le_of_ble_eq_true rfl⟩ rfl (Nat.le_of_ble_eq_true rfl) d86_8 (fun vv h1 z1 H locs hR I9 => ?_)
  obtain ⟨e1, e2, e3⟩ := hR
  rw [e2, e3] at I9
  clear I e2 e3 e9
  have I := I9
  clear I9
  subst e1
  refine W.eq (g2 := F0 m 11 ls [.int q2.1]) rfl ?_
  refine lv_istore_n hx hb d86_11 rfl hl (by decide) rfl (fun ls hl => ?_)
  have hl : lv_has ls 6 [(1, .int q2.1), (0, .ref r)] := hl
  refine lv_iload_n hx hb d86_12 rfl (lv_at hl 0 rfl) ?_
  refine lv_if_le hx hb d86_13 rfl (fun h9 => ?_) (fun h9 => ?_)
  · have hF := (if_pos h9).symm.trans hF
    exact b26 ls q2.1 q2.2 _ _ hF (hl.sub [1, 0] rfl) I
  · have hF := (if_neg h9).symm.trans hF
    refine lv_aload_n hx hb d86_16 rfl (lv_at hl 1 rfl) ?_
    refine lv_dup hx hb d86_17 rfl ?_
    refine va_get (D := D) (ci := 2) (v := .int (q2.2.1 8)) (C := kR2) (T := kT2) (N := 60) hx hb hts ku2 hown hK (hm_one I.1 mm_hr) 0 rfl rfl 8 (by decide) (hts _ ms_k1324) (fun _ h => h) rfl d86_18 ?_
    refine lv_iconst (v := 1) hx hb d86_21 (by decide) ?_
    refine lv_iadd hx hb d86_22 ?_
    obtain ⟨st32, e9, hF⟩ := mm_lt_some hF
    refine mm_put (k := 8) (ty := .int) X I (by decide) ms_k1324 rfl rfl (by decide +kernel) ⟨rfl, rfl⟩ rfl e9 d86_23 (fun H locs I => ?_)
    clear e9
    exact b26 ls q2.1 st32 _ _ hF (hl.sub [1, 0] rfl) I

def g_string_61 (x1 : Int32) (x2 : Int32) (st : mT) : Option (mT) := (mm_ix 65 x1 (fun j3 => mm_lt (mm_G st 36 j3 ((st.1 8) + 1)) (fun st2 => (mm_ix 65 x1 (fun j5 => mm_lt (mm_G st2 37 j5 ((x2 - (st2.1 8)) - 1)) (fun st4 => (mm_lt (mm_F st4 8 (x2 + 1)) (fun st6 => (some st6)))))))))
def g_string_45 (x1 : Int32) (x2 : Int32) (st : mT) : Option (mT) := (if x2 < (st.1 7) then (g_string_61 x1 x2 st) else ((g_error (st.1 7) st).bind (fun q7 => (g_string_61 x1 x2 q7))))
def g_string_21 : Nat → Int32 → Int32 → mT → Option (mT)
  | 0, _, _, _ => none
  | n9 + 1, x1, x2, st => (if (st.1 7) ≤ x2 then (g_string_45 x1 x2 st) else ((g_look x2 st).bind (fun q8 => (if q8.1 = 39 then (g_string_45 x1 x2 q8.2) else ((g_string_21 n9) x1 (x2 + 1) q8.2)))))
def g_string (y1 : Int32) (st : mT) : Option (mT) := ((g_must (st.1 8) 39 st).bind (fun q1 => (if q1.1 = 0 then (some q1.2) else (g_string_21 mF y1 ((q1.2.1 8) + 1) q1.2))))
set_option maxRecDepth 100000 in
set_option maxHeartbeats 8000000 in
theorem cm_string (l : Launch) (D : va_G) (dA : Nat → ClassId) (s0 : State) (hE : ms_EV D dA s0) (h0 : hm_T) (r : Nat) (M : Nat → Nat) (hM : mm_ok r M) (z0 : hz_T) (y1 : Int32) (st : mT) (q : mT) (hg : g_string y1 st = some q) : ht_C l D s0 yM87 bM87 3 (Option.none : Option Jvm.ClassFile.FieldType) 2 43 0 0 [.ref r, .int y1] (fun h z => h = mm_h dA h0 r M st ∧ z = z0) (fun h z vv h1 z1 => vv = none ∧ h1 = mm_h dA h0 r M q ∧ z1 = z0) := by
  refine ht_C.mk hE.1 (by decide) (Nat.le_of_ble_eq_true rfl) [(0, .ref r), (1, .int y1)] rfl ?_
  intro p e s m below meth c ls h z X hin hpre I hl
  have hx := X.1
  have hb := X.2.1
  have hml := X.2.2.1
  have hown : s.vm.findClass "MarkupStoreModel" = some m.cls := X.2.2.2.1
  have hts := X.2.2.2.2.2.2.1
  have hK := X.2.2.2.2.2.2.2.2.1
  rw [hpre.1, hpre.2] at I
  clear hpre
  have b61 : ∀ (ls : Array Slot) (x1 : Int32) (x2 : Int32) (st : mT) (H : Heap) (locs : List Loc), g_string_61 x1 x2 st = some q → lv_has ls 3 [(0, .ref r), (1, .int x1), (2, .int x2)] → hm_I D s0 s (mm_h dA h0 r M st) z0 H locs → W p l e { frames := 2, cells := 0, slots := 0, locals := 43 } s m ([.ref r, .int y1] : List Value).toArray below meth c H locs 0 0 (MQ below (ht_Q D s0 (fun vv h1 z1 => vv = none ∧ h1 = mm_h dA h0 r M q ∧ z1 = z0)) ([.ref r, .int y1] : List Value).toArray s 0 0 (fun q => s0.heap.size ≤ q)) (F0 m 61 ls []) := by
    intro ls x1 x2 st H locs hF hl I
    unfold g_string_61 at hF
    refine lv_aload_n hx hb d87_61 rfl (lv_at hl 0 rfl) ?_
    refine va_get (D := D) (ci := 2) (v := .ref (M 36)) (C := kR2) (T := kT2) (N := 60) hx hb hts ku2 hown hK (hm_one I.1 mm_hr) 0 rfl rfl 36 (by decide) (hts _ ms_k1352) (fun _ h => h) rfl d87_62 ?_
    refine lv_iload_n hx hb d87_65 rfl (lv_at hl 1 rfl) ?_
    refine lv_aload_n hx hb d87_66 rfl (lv_at hl 0 rfl) ?_
    refine va_get (D := D) (ci := 2) (v := .int (st.1 8)) (C := kR2) (T := kT2) (N := 60) hx hb hts ku2 hown hK (hm_one I.1 mm_hr) 0 rfl rfl 8 (by decide) (hts _ ms_k1324) (fun _ h => h) rfl d87_67 ?_
    refine lv_iconst (v := 1) hx hb d87_70 (by decide) ?_
    refine lv_iadd hx hb d87_71 ?_
    obtain ⟨i9, hF⟩ := mm_ix_some hF
    obtain ⟨st2, e9, hF⟩ := mm_lt_some hF
    refine mm_iast (k := 36) X I hM (by decide) 0 (fun _ => rfl) rfl i9 e9 d87_72 (fun H locs I => ?_)
    clear e9 i9
    refine lv_aload_n hx hb d87_73 rfl (lv_at hl 0 rfl) ?_
    refine va_get (D := D) (ci := 2) (v := .ref (M 37)) (C := kR2) (T := kT2) (N := 60) hx hb hts ku2 hown hK (hm_one I.1 mm_hr) 0 rfl rfl 37 (by decide) (hts _ ms_k1353) (fun _ h => h) rfl d87_74 ?_
    refine lv_iload_n hx hb d87_77 rfl (lv_at hl 1 rfl) ?_
    refine lv_iload_n hx hb d87_78 rfl (lv_at hl 2 rfl) ?_
    refine lv_aload_n hx hb d87_79 rfl (lv_at hl 0 rfl) ?_
    refine va_get (D := D) (ci := 2) (v := .int (st2.1 8)) (C := kR2) (T := kT2) (N := 60) hx hb hts ku2 hown hK (hm_one I.1 mm_hr) 0 rfl rfl 8 (by decide) (hts _ ms_k1324) (fun _ h => h) rfl d87_80 ?_
    refine lv_isub hx hb d87_83 ?_
    refine lv_iconst (v := 1) hx hb d87_84 (by decide) ?_
    refine lv_isub hx hb d87_85 ?_
    obtain ⟨i9, hF⟩ := mm_ix_some hF
    obtain ⟨st4, e9, hF⟩ := mm_lt_some hF
    refine mm_iast (k := 37) X I hM (by decide) 0 (fun _ => rfl) rfl i9 e9 d87_86 (fun H locs I => ?_)
    clear e9 i9
    refine lv_aload_n hx hb d87_87 rfl (lv_at hl 0 rfl) ?_
    refine lv_iload_n hx hb d87_88 rfl (lv_at hl 2 rfl) ?_
    refine lv_iconst (v := 1) hx hb d87_89 (by decide) ?_
    refine lv_iadd hx hb d87_90 ?_
    obtain ⟨st6, e9, hF⟩ := mm_lt_some hF
    refine mm_put (k := 8) (ty := .int) X I (by decide) ms_k1324 rfl rfl (by decide +kernel) ⟨rfl, rfl⟩ rfl e9 d87_91 (fun H locs I => ?_)
    clear e9
    exact ht_vret X d87_94 I (Nat.le_of_ble_eq_true rfl) (Nat.le_of_ble_eq_true rfl) (mm_finV hF)
  have b45 : ∀ (ls : Array Slot) (x1 : Int32) (x2 : Int32) (st : mT) (H : Heap) (locs : List Loc), g_string_45 x1 x2 st = some q → lv_has ls 3 [(0, .ref r), (1, .int x1), (2, .int x2)] → hm_I D s0 s (mm_h dA h0 r M st) z0 H locs → W p l e { frames := 2, cells := 0, slots := 0, locals := 43 } s m ([.ref r, .int y1] : List Value).toArray below meth c H locs 0 0 (MQ below (ht_Q D s0 (fun vv h1 z1 => vv = none ∧ h1 = mm_h dA h0 r M q ∧ z1 = z0)) ([.ref r, .int y1] : List Value).toArray s 0 0 (fun q => s0.heap.size ≤ q)) (F0 m 45 ls []) := by
    intro ls x1 x2 st H locs hF hl I
    unfold g_string_45 at hF
    refine lv_iload_n hx hb d87_45 rfl (lv_at hl 2 rfl) ?_
    refine lv_aload_n hx hb d87_46 rfl (lv_at hl 0 rfl) ?_
    refine va_get (D := D) (ci := 2) (v := .int (st.1 7)) (C := kR2) (T := kT2) (N := 60) hx hb hts ku2 hown hK (hm_one I.1 mm_hr) 0 rfl rfl 7 (by decide) (hts _ ms_k1323) (fun _ h => h) rfl d87_47 ?_
    refine lv_icmp_lt hx hb d87_50 rfl (fun h9 => ?_) (fun h9 => ?_)
    · have hF := (if_pos h9).symm.trans hF
      exact b61 ls x1 x2 st _ _ hF (hl.sub [0, 1, 2] rfl) I
    · have hF := (if_neg h9).symm.trans hF
      refine lv_aload_n hx hb d87_53 rfl (lv_at hl 0 rfl) ?_
      refine lv_aload_n hx hb d87_54 rfl (lv_at hl 0 rfl) ?_
      refine va_get (D := D) (ci := 2) (v := .int (st.1 7)) (C := kR2) (T := kT2) (N := 60) hx hb hts ku2 hown hK (hm_one I.1 mm_hr) 0 rfl rfl 7 (by decide) (hts _ ms_k1323) (fun _ h => h) rfl d87_55 ?_
      obtain ⟨q7, e9, hF⟩ := mm_bd hF
      refine ht_V (C := "MarkupStoreModel") (rest := []) (as := [.int (st.1 7)]) X hl (cm_error l D dA s0 hE h0 r M hM z0 (st.1 7) st q7 e9) (List.forall_mem_cons.mpr ⟨ms_k1520, List.forall_mem_cons.mpr ⟨ms_k1522, List.forall_mem_cons.mpr ⟨ms_p47, List.forall_mem_cons.mpr ⟨ms_k7, List.forall_mem_cons.mpr ⟨ms_k1523, fun _ h => absurd h List.not_mem_nil⟩⟩⟩⟩⟩) ⟨rfl, by decide +kernel, by decide +kernel, (by decide +kernel : (parseMethodDescriptor "(I)V").map (fun d => d.parameters.length) = some 1)⟩ (hm_recv hK I rfl mm_hr) I ⟨rfl, rfl⟩ ⟨⟨Nat.le_of_ble_eq_true rfl, Nat.le_of_ble_eq_true rfl⟩, Nat.le_of_ble_eq_true rfl, Nat.le_of_ble_eq_true rfl⟩ rfl (Nat.le_of_ble_eq_true rfl) d87_58 (fun vv h1 z1 H locs hR I9 => ?_)
      obtain ⟨e1, e2, e3⟩ := hR
      rw [e2, e3] at I9
      clear I e2 e3 e9
      have I := I9
      clear I9
      subst e1
      refine W.eq (g2 := F0 m 61 ls []) rfl ?_
      exact b61 ls x1 x2 q7 _ _ hF (hl.sub [0, 1, 2] rfl) I
  have b21 : ∀ n9 : Nat, ∀ (ls : Array Slot) (x1 : Int32) (x2 : Int32) (st : mT) (H : Heap) (locs : List Loc), g_string_21 n9 x1 x2 st = some q → lv_has ls 3 [(0, .ref r), (1, .int x1), (2, .int x2)] → hm_I D s0 s (mm_h dA h0 r M st) z0 H locs → W p l e { frames := 2, cells := 0, slots := 0, locals := 43 } s m ([.ref r, .int y1] : List Value).toArray below meth c H locs 0 0 (MQ below (ht_Q D s0 (fun vv h1 z1 => vv = none ∧ h1 = mm_h dA h0 r M q ∧ z1 = z0)) ([.ref r, .int y1] : List Value).toArray s 0 0 (fun q => s0.heap.size ≤ q)) (F0 m 21 ls []) := by
    intro n9
    induction n9 with
    | zero => intro ls x1 x2 st H locs hF; cases hF
    | succ n9 hk21 =>
    intro ls x1 x2 st H locs hF hl I
    unfold g_string_21 at hF
    refine lv_iload_n hx hb d87_21 rfl (lv_at hl 2 rfl) ?_
    refine lv_aload_n hx hb d87_22 rfl (lv_at hl 0 rfl) ?_
    refine va_get (D := D) (ci := 2) (v := .int (st.1 7)) (C := kR2) (T := kT2) (N := 60) hx hb hts ku2 hown hK (hm_one I.1 mm_hr) 0 rfl rfl 7 (by decide) (hts _ ms_k1323) (fun _ h => h) rfl d87_23 ?_
    refine lv_icmp_ge hx hb d87_26 rfl (fun h9 => ?_) (fun h9 => ?_)
    · have hF := (if_pos h9).symm.trans hF
      exact b45 ls x1 x2 st _ _ hF (hl.sub [0, 1, 2] rfl) I
    · have hF := (if_neg h9).symm.trans hF
      refine lv_aload_n hx hb d87_29 rfl (lv_at hl 0 rfl) ?_
      refine lv_iload_n hx hb d87_30 rfl (lv_at hl 2 rfl) ?_
      obtain ⟨q8, e9, hF⟩ := mm_bd hF
      refine ht_V (C := "MarkupStoreModel") (rest := []) (as := [.int x2]) X hl (cm_look l D dA s0 hE h0 r M hM z0 x2 st q8 e9) (List.forall_mem_cons.mpr ⟨ms_k1516, List.forall_mem_cons.mpr ⟨ms_k1518, List.forall_mem_cons.mpr ⟨ms_p46, List.forall_mem_cons.mpr ⟨ms_k7, List.forall_mem_cons.mpr ⟨ms_k1519, fun _ h => absurd h List.not_mem_nil⟩⟩⟩⟩⟩) ⟨rfl, by decide +kernel, by decide +kernel, (by decide +kernel : (parseMethodDescriptor "(I)C").map (fun d => d.parameters.length) = some 1)⟩ (hm_recv hK I rfl mm_hr) I ⟨rfl, rfl⟩ ⟨⟨Nat.le_of_ble_eq_true rfl, Nat.le_of_ble_eq_true rfl⟩, Nat.le_of_ble_eq_true rfl, Nat.le_of_ble_eq_true rfl⟩ rfl (Nat.le_of_ble_eq_true rfl) d87_31 (fun vv h1 z1 H locs hR I9 => ?_)
      obtain ⟨e1, e2, e3⟩ := hR
      rw [e2, e3] at I9
      clear I e2 e3 e9
      have I := I9
      clear I9
      subst e1
      refine W.eq (g2 := F0 m 34 ls [.int q8.1]) rfl ?_
      refine lv_bipush (v := 39) hx hb d87_34 (by decide) ?_
      refine lv_icmp_eq hx hb d87_36 rfl (fun h9 => ?_) (fun h9 => ?_)
      · have hF := (if_pos h9).symm.trans hF
        exact b45 ls x1 x2 q8.2 _ _ hF (hl.sub [0, 1, 2] rfl) I
      · have hF := (if_neg h9).symm.trans hF
        refine lv_iinc (k := 2) (v := (x2 + 1)) hx hb d87_39 hl rfl (rfl) (by decide) rfl (fun ls hl => ?_)
        have hl : lv_has ls 3 [(2, .int (x2 + 1)), (0, .ref r), (1, .int x1)] := hl
        refine lv_goto hx hb d87_42 rfl ?_
        exact hk21 ls x1 (x2 + 1) q8.2 _ _ hF (hl.sub [1, 2, 0] rfl) I
  have hF := hg
  unfold g_string at hF
  refine lv_aload_n hx hb d87_0 rfl (lv_at hl 0 rfl) ?_
  refine lv_aload_n hx hb d87_1 rfl (lv_at hl 0 rfl) ?_
  refine va_get (D := D) (ci := 2) (v := .int (st.1 8)) (C := kR2) (T := kT2) (N := 60) hx hb hts ku2 hown hK (hm_one I.1 mm_hr) 0 rfl rfl 8 (by decide) (hts _ ms_k1324) (fun _ h => h) rfl d87_2 ?_
  refine lv_bipush (v := 39) hx hb d87_5 (by decide) ?_
  obtain ⟨q1, e9, hF⟩ := mm_bd hF
  refine ht_V (C := "MarkupStoreModel") (rest := []) (as := [.int (st.1 8), .int 39]) X hl (cm_must l D dA s0 hE h0 r M hM z0 (st.1 8) 39 st q1 e9) (List.forall_mem_cons.mpr ⟨ms_k1551, List.forall_mem_cons.mpr ⟨ms_k1553, List.forall_mem_cons.mpr ⟨ms_p54, List.forall_mem_cons.mpr ⟨ms_k7, List.forall_mem_cons.mpr ⟨ms_k1554, fun _ h => absurd h List.not_mem_nil⟩⟩⟩⟩⟩) ⟨rfl, by decide +kernel, by decide +kernel, (by decide +kernel : (parseMethodDescriptor "(IC)Z").map (fun d => d.parameters.length) = some 2)⟩ (hm_recv hK I rfl mm_hr) I ⟨rfl, rfl⟩ ⟨⟨Nat.le_of_ble_eq_true rfl, Nat.le_of_ble_eq_true rfl⟩, Nat.le_of_ble_eq_true rfl, Nat.le_of_ble_eq_true rfl⟩ rfl (Nat.le_of_ble_eq_true rfl) d87_7 (fun vv h1 z1 H locs hR I9 => ?_)
  obtain ⟨e1, e2, e3⟩ := hR
  rw [e2, e3] at I9
  clear I e2 e3 e9
  have I := I9
  clear I9
  subst e1
  refine W.eq (g2 := F0 m 10 ls [.int q1.1]) rfl ?_
  refine lv_if_ne hx hb d87_10 rfl (fun h9 => ?_) (fun h9 => ?_)
  · have hF := (if_neg h9).symm.trans hF
    refine lv_aload_n hx hb d87_14 rfl (lv_at hl 0 rfl) ?_
    refine va_get (D := D) (ci := 2) (v := .int (q1.2.1 8)) (C := kR2) (T := kT2) (N := 60) hx hb hts ku2 hown hK (hm_one I.1 mm_hr) 0 rfl rfl 8 (by decide) (hts _ ms_k1324) (fun _ h => h) rfl d87_15 ?_
    refine lv_iconst (v := 1) hx hb d87_18 (by decide) ?_
    refine lv_iadd hx hb d87_19 ?_
    refine lv_istore_n hx hb d87_20 rfl hl (by decide) rfl (fun ls hl => ?_)
    have hl : lv_has ls 3 [(2, .int ((q1.2.1 8) + 1)), (0, .ref r), (1, .int y1)] := hl
    exact b21 mF ls y1 ((q1.2.1 8) + 1) q1.2 _ _ hF (hl.sub [1, 2, 0] rfl) I
  · have hF := (if_pos h9).symm.trans hF
    exact ht_vret X d87_13 I (Nat.le_of_ble_eq_true rfl) (Nat.le_of_ble_eq_true rfl) (mm_finV hF)
