theorem ms_k1347 : (Jvm.Cond.fieldLink "MarkupStoreModel" (312 : Nat) "MarkupStoreModel" "predicates" "I") ∈ ms_tb := ms_i6 147 (by decide +kernel) (by decide +kernel)
theorem ms_k1348 : (Jvm.Cond.fieldLink "MarkupStoreModel" (62 : Nat) "MarkupStoreModel" "what" "[I") ∈ ms_tb := ms_i6 148 (by decide +kernel) (by decide +kernel)
theorem ms_k1349 : (Jvm.Cond.fieldLink "MarkupStoreModel" (65 : Nat) "MarkupStoreModel" "position" "[I") ∈ ms_tb := ms_i6 149 (by decide +kernel) (by decide +kernel)
theorem ms_k1350 : (Jvm.Cond.fieldLink "MarkupStoreModel" (68 : Nat) "MarkupStoreModel" "attrFrom" "[I") ∈ ms_tb := ms_i6 150 (by decide +kernel) (by decide +kernel)
theorem ms_k1351 : (Jvm.Cond.fieldLink "MarkupStoreModel" (71 : Nat) "MarkupStoreModel" "attrSize" "[I") ∈ ms_tb := ms_i6 151 (by decide +kernel) (by decide +kernel)
theorem ms_k1355 : (Jvm.Cond.fieldLink "MarkupStoreModel" (83 : Nat) "MarkupStoreModel" "predicateNext" "[I") ∈ ms_tb := ms_i6 155 (by decide +kernel) (by decide +kernel)
theorem ms_k1356 : (Jvm.Cond.fieldLink "MarkupStoreModel" (86 : Nat) "MarkupStoreModel" "not" "[Z") ∈ ms_tb := ms_i6 156 (by decide +kernel) (by decide +kernel)
theorem ms_k1358 : (Jvm.Cond.fieldLink "MarkupStoreModel" (93 : Nat) "MarkupStoreModel" "mask" "[J") ∈ ms_tb := ms_i6 158 (by decide +kernel) (by decide +kernel)
theorem ms_k1359 : (Jvm.Cond.fieldLink "MarkupStoreModel" (309 : Nat) "MarkupStoreModel" "ended" "I") ∈ ms_tb := ms_i6 159 (by decide +kernel) (by decide +kernel)
theorem ms_k1360 : (Jvm.Cond.fieldLink "MarkupStoreModel" (97 : Nat) "MarkupStoreModel" "endedPath" "[I") ∈ ms_tb := ms_i6 160 (by decide +kernel) (by decide +kernel)
theorem ms_k1362 : (Jvm.Cond.fieldLink "MarkupStoreModel" (303 : Nat) "MarkupStoreModel" "nesting" "I") ∈ ms_tb := ms_i6 162 (by decide +kernel) (by decide +kernel)
theorem ms_k1369 : (Jvm.Cond.fieldLink "MarkupStoreModel" (333 : Nat) "MarkupStoreModel" "listed" "I") ∈ ms_tb := ms_i6 169 (by decide +kernel) (by decide +kernel)
theorem ms_k1370 : (Jvm.Cond.fieldLink "MarkupStoreModel" (109 : Nat) "MarkupStoreModel" "list" "[I") ∈ ms_tb := ms_i6 170 (by decide +kernel) (by decide +kernel)
theorem ms_k1678 : (Jvm.Cond.methodLink "MarkupStoreModel" (321 : Nat) ({ cls := "MarkupStoreModel", name := "beginPath", desc := "()V" } : Jvm.MethodName)) ∈ ms_tb := ms_i7 238 (by decide +kernel) (by decide +kernel)
theorem ms_k1680 : (Jvm.Cond.instanceMethod ({ cls := "MarkupStoreModel", name := "beginPath", desc := "()V" } : Jvm.MethodName)) ∈ ms_tb := ms_i8 0 (by decide +kernel) (by decide +kernel)
theorem ms_k1681 : (Jvm.Cond.code ({ cls := "MarkupStoreModel", name := "beginPath", desc := "()V" } : Jvm.MethodName) prog_14_method_47_code (2 : Nat) (Option.none : Option Jvm.ClassFile.FieldType)) ∈ ms_tb := ms_i8 1 (by decide +kernel) (by decide +kernel)
theorem ms_k1682 : (Jvm.Cond.methodLink "MarkupStoreModel" (324 : Nat) ({ cls := "MarkupStoreModel", name := "beginStep", desc := "()V" } : Jvm.MethodName)) ∈ ms_tb := ms_i8 2 (by decide +kernel) (by decide +kernel)
theorem ms_k1684 : (Jvm.Cond.instanceMethod ({ cls := "MarkupStoreModel", name := "beginStep", desc := "()V" } : Jvm.MethodName)) ∈ ms_tb := ms_i8 4 (by decide +kernel) (by decide +kernel)
theorem ms_k1685 : (Jvm.Cond.code ({ cls := "MarkupStoreModel", name := "beginStep", desc := "()V" } : Jvm.MethodName) prog_14_method_48_code (6 : Nat) (Option.none : Option Jvm.ClassFile.FieldType)) ∈ ms_tb := ms_i8 5 (by decide +kernel) (by decide +kernel)
theorem ms_k1689 : (Jvm.Cond.methodLink "MarkupStoreModel" (327 : Nat) ({ cls := "MarkupStoreModel", name := "behindStep", desc := "()V" } : Jvm.MethodName)) ∈ ms_tb := ms_i8 9 (by decide +kernel) (by decide +kernel)
theorem ms_k1691 : (Jvm.Cond.instanceMethod ({ cls := "MarkupStoreModel", name := "behindStep", desc := "()V" } : Jvm.MethodName)) ∈ ms_tb := ms_i8 11 (by decide +kernel) (by decide +kernel)
theorem ms_k1692 : (Jvm.Cond.code ({ cls := "MarkupStoreModel", name := "behindStep", desc := "()V" } : Jvm.MethodName) prog_14_method_50_code (3 : Nat) (Option.none : Option Jvm.ClassFile.FieldType)) ∈ ms_tb := ms_i8 12 (by decide +kernel) (by decide +kernel)
theorem ms_k1693 : (Jvm.Cond.methodLink "MarkupStoreModel" (306 : Nat) ({ cls := "MarkupStoreModel", name := "string", desc := "(I)V" } : Jvm.MethodName)) ∈ ms_tb := ms_i8 13 (by decide +kernel) (by decide +kernel)
theorem ms_k1695 : (Jvm.Cond.instanceMethod ({ cls := "MarkupStoreModel", name := "string", desc := "(I)V" } : Jvm.MethodName)) ∈ ms_tb := ms_i8 15 (by decide +kernel) (by decide +kernel)
theorem ms_k1696 : (Jvm.Cond.code ({ cls := "MarkupStoreModel", name := "string", desc := "(I)V" } : Jvm.MethodName) prog_14_method_49_code (3 : Nat) (Option.none : Option Jvm.ClassFile.FieldType)) ∈ ms_tb := ms_i8 16 (by decide +kernel) (by decide +kernel)
theorem ms_k1697 : (Jvm.Cond.methodLink "MarkupStoreModel" (330 : Nat) ({ cls := "MarkupStoreModel", name := "beginPredicate", desc := "()V" } : Jvm.MethodName)) ∈ ms_tb := ms_i8 17 (by decide +kernel) (by decide +kernel)
theorem ms_k1699 : (Jvm.Cond.instanceMethod ({ cls := "MarkupStoreModel", name := "beginPredicate", desc := "()V" } : Jvm.MethodName)) ∈ ms_tb := ms_i8 19 (by decide +kernel) (by decide +kernel)
theorem ms_k1700 : (Jvm.Cond.code ({ cls := "MarkupStoreModel", name := "beginPredicate", desc := "()V" } : Jvm.MethodName) prog_14_method_51_code (4 : Nat) (Option.none : Option Jvm.ClassFile.FieldType)) ∈ ms_tb := ms_i8 20 (by decide +kernel) (by decide +kernel)
theorem ms_k1701 : (Jvm.Cond.methodLink "MarkupStoreModel" (315 : Nat) ({ cls := "MarkupStoreModel", name := "digit", desc := "(C)Z" } : Jvm.MethodName)) ∈ ms_tb := ms_i8 21 (by decide +kernel) (by decide +kernel)
theorem ms_k1702 : (Jvm.Cond.static ({ cls := "MarkupStoreModel", name := "digit", desc := "(C)Z" } : Jvm.MethodName)) ∈ ms_tb := ms_i8 22 (by decide +kernel) (by decide +kernel)
theorem ms_k1703 : (Jvm.Cond.code ({ cls := "MarkupStoreModel", name := "digit", desc := "(C)Z" } : Jvm.MethodName) prog_14_method_14_code (1 : Nat) (Option.some Jvm.ClassFile.FieldType.boolean)) ∈ ms_tb := ms_i8 23 (by decide +kernel) (by decide +kernel)
theorem ms_k1704 : (Jvm.Cond.methodLink "MarkupStoreModel" (318 : Nat) ({ cls := "MarkupStoreModel", name := "attributePredicate", desc := "(I)V" } : Jvm.MethodName)) ∈ ms_tb := ms_i8 24 (by decide +kernel) (by decide +kernel)
theorem ms_k1706 : (Jvm.Cond.instanceMethod ({ cls := "MarkupStoreModel", name := "attributePredicate", desc := "(I)V" } : Jvm.MethodName)) ∈ ms_tb := ms_i8 26 (by decide +kernel) (by decide +kernel)
theorem ms_k1707 : (Jvm.Cond.code ({ cls := "MarkupStoreModel", name := "attributePredicate", desc := "(I)V" } : Jvm.MethodName) prog_14_method_52_code (4 : Nat) (Option.none : Option Jvm.ClassFile.FieldType)) ∈ ms_tb := ms_i8 27 (by decide +kernel) (by decide +kernel)
theorem ms_k1720 : (Jvm.Cond.methodLink "MarkupStoreModel" (352 : Nat) ({ cls := "MarkupStoreModel", name := "gather", desc := "(II)V" } : Jvm.MethodName)) ∈ ms_tb := ms_i8 40 (by decide +kernel) (by decide +kernel)
theorem ms_k1722 : (Jvm.Cond.instanceMethod ({ cls := "MarkupStoreModel", name := "gather", desc := "(II)V" } : Jvm.MethodName)) ∈ ms_tb := ms_i8 42 (by decide +kernel) (by decide +kernel)
theorem ms_k1723 : (Jvm.Cond.code ({ cls := "MarkupStoreModel", name := "gather", desc := "(II)V" } : Jvm.MethodName) prog_14_method_57_code (5 : Nat) (Option.none : Option Jvm.ClassFile.FieldType)) ∈ ms_tb := ms_i8 43 (by decide +kernel) (by decide +kernel)
theorem ms_k1724 : (Jvm.Cond.methodLink "MarkupStoreModel" (339 : Nat) ({ cls := "MarkupStoreModel", name := "entries", desc := "(II)V" } : Jvm.MethodName)) ∈ ms_tb := ms_i8 44 (by decide +kernel) (by decide +kernel)
theorem ms_k1726 : (Jvm.Cond.instanceMethod ({ cls := "MarkupStoreModel", name := "entries", desc := "(II)V" } : Jvm.MethodName)) ∈ ms_tb := ms_i8 46 (by decide +kernel) (by decide +kernel)
theorem ms_k1727 : (Jvm.Cond.code ({ cls := "MarkupStoreModel", name := "entries", desc := "(II)V" } : Jvm.MethodName) prog_14_method_55_code (4 : Nat) (Option.none : Option Jvm.ClassFile.FieldType)) ∈ ms_tb := ms_i8 47 (by decide +kernel) (by decide +kernel)
theorem ms_k1728 : (Jvm.Cond.methodLink "MarkupStoreModel" (336 : Nat) ({ cls := "MarkupStoreModel", name := "entry", desc := "(I)V" } : Jvm.MethodName)) ∈ ms_tb := ms_i8 48 (by decide +kernel) (by decide +kernel)
theorem ms_k1730 : (Jvm.Cond.instanceMethod ({ cls := "MarkupStoreModel", name := "entry", desc := "(I)V" } : Jvm.MethodName)) ∈ ms_tb := ms_i8 50 (by decide +kernel) (by decide +kernel)
theorem ms_k1731 : (Jvm.Cond.code ({ cls := "MarkupStoreModel", name := "entry", desc := "(I)V" } : Jvm.MethodName) prog_14_method_54_code (2 : Nat) (Option.none : Option Jvm.ClassFile.FieldType)) ∈ ms_tb := ms_i8 51 (by decide +kernel) (by decide +kernel)
theorem ms_k1732 : (Jvm.Cond.methodLink "MarkupStoreModel" (342 : Nat) ({ cls := "MarkupStoreModel", name := "sameParent", desc := "(II)Z" } : Jvm.MethodName)) ∈ ms_tb := ms_i8 52 (by decide +kernel) (by decide +kernel)
theorem ms_k1734 : (Jvm.Cond.instanceMethod ({ cls := "MarkupStoreModel", name := "sameParent", desc := "(II)Z" } : Jvm.MethodName)) ∈ ms_tb := ms_i8 54 (by decide +kernel) (by decide +kernel)
theorem ms_k1735 : (Jvm.Cond.code ({ cls := "MarkupStoreModel", name := "sameParent", desc := "(II)Z" } : Jvm.MethodName) prog_14_method_56_code (3 : Nat) (Option.some Jvm.ClassFile.FieldType.boolean)) ∈ ms_tb := ms_i8 55 (by decide +kernel) (by decide +kernel)
theorem ms_k1736 : (Jvm.Cond.methodLink "MarkupStoreModel" (355 : Nat) ({ cls := "MarkupStoreModel", name := "isKind", desc := "(II)Z" } : Jvm.MethodName)) ∈ ms_tb := ms_i8 56 (by decide +kernel) (by decide +kernel)
theorem ms_k1738 : (Jvm.Cond.instanceMethod ({ cls := "MarkupStoreModel", name := "isKind", desc := "(II)Z" } : Jvm.MethodName)) ∈ ms_tb := ms_i8 58 (by decide +kernel) (by decide +kernel)
theorem ms_k1739 : (Jvm.Cond.code ({ cls := "MarkupStoreModel", name := "isKind", desc := "(II)Z" } : Jvm.MethodName) prog_14_method_58_code (7 : Nat) (Option.some Jvm.ClassFile.FieldType.boolean)) ∈ ms_tb := ms_i8 59 (by decide +kernel) (by decide +kernel)
theorem ms_k1740 : (Jvm.Cond.methodLink "MarkupStoreModel" (358 : Nat) ({ cls := "MarkupStoreModel", name := "holds", desc := "(IIII)Z" } : Jvm.MethodName)) ∈ ms_tb := ms_i8 60 (by decide +kernel) (by decide +kernel)
theorem ms_k1742 : (Jvm.Cond.instanceMethod ({ cls := "MarkupStoreModel", name := "holds", desc := "(IIII)Z" } : Jvm.MethodName)) ∈ ms_tb := ms_i8 62 (by decide +kernel) (by decide +kernel)
theorem ms_k1743 : (Jvm.Cond.code ({ cls := "MarkupStoreModel", name := "holds", desc := "(IIII)Z" } : Jvm.MethodName) prog_14_method_60_code (6 : Nat) (Option.some Jvm.ClassFile.FieldType.boolean)) ∈ ms_tb := ms_i8 63 (by decide +kernel) (by decide +kernel)
theorem ms_k1744 : (Jvm.Cond.methodLink "MarkupStoreModel" (349 : Nat) ({ cls := "MarkupStoreModel", name := "holdsAttribute", desc := "(II)Z" } : Jvm.MethodName)) ∈ ms_tb := ms_i8 64 (by decide +kernel) (by decide +kernel)
theorem ms_k1746 : (Jvm.Cond.instanceMethod ({ cls := "MarkupStoreModel", name := "holdsAttribute", desc := "(II)Z" } : Jvm.MethodName)) ∈ ms_tb := ms_i8 66 (by decide +kernel) (by decide +kernel)
theorem ms_k1747 : (Jvm.Cond.code ({ cls := "MarkupStoreModel", name := "holdsAttribute", desc := "(II)Z" } : Jvm.MethodName) prog_14_method_59_code (6 : Nat) (Option.some Jvm.ClassFile.FieldType.boolean)) ∈ ms_tb := ms_i8 67 (by decide +kernel) (by decide +kernel)
theorem ms_k1748 : (Jvm.Cond.methodLink "MarkupStoreModel" (346 : Nat) ({ cls := "MarkupStoreModel", name := "attributeOf", desc := "(III)I" } : Jvm.MethodName)) ∈ ms_tb := ms_i8 68 (by decide +kernel) (by decide +kernel)
theorem ms_k1750 : (Jvm.Cond.instanceMethod ({ cls := "MarkupStoreModel", name := "attributeOf", desc := "(III)I" } : Jvm.MethodName)) ∈ ms_tb := ms_i8 70 (by decide +kernel) (by decide +kernel)
theorem ms_k1751 : (Jvm.Cond.code ({ cls := "MarkupStoreModel", name := "attributeOf", desc := "(III)I" } : Jvm.MethodName) prog_14_method_45_code (7 : Nat) (Option.some Jvm.ClassFile.FieldType.int)) ∈ ms_tb := ms_i8 71 (by decide +kernel) (by decide +kernel)
theorem ms_p81 : Cond.selects "MarkupStoreModel" (⟨"MarkupStoreModel", "beginPath", "()V"⟩ : MethodName) (⟨"MarkupStoreModel", "beginPath", "()V"⟩ : MethodName) ∈ ms_tb := ms_inP 81 (by decide +kernel) (by decide +kernel)
theorem ms_p82 : Cond.selects "MarkupStoreModel" (⟨"MarkupStoreModel", "beginStep", "()V"⟩ : MethodName) (⟨"MarkupStoreModel", "beginStep", "()V"⟩ : MethodName) ∈ ms_tb := ms_inP 82 (by decide +kernel) (by decide +kernel)
theorem ms_p83 : Cond.selects "MarkupStoreModel" (⟨"MarkupStoreModel", "behindStep", "()V"⟩ : MethodName) (⟨"MarkupStoreModel", "behindStep", "()V"⟩ : MethodName) ∈ ms_tb := ms_inP 83 (by decide +kernel) (by decide +kernel)
theorem ms_p84 : Cond.selects "MarkupStoreModel" (⟨"MarkupStoreModel", "string", "(I)V"⟩ : MethodName) (⟨"MarkupStoreModel", "string", "(I)V"⟩ : MethodName) ∈ ms_tb := ms_inP 84 (by decide +kernel) (by decide +kernel)
theorem ms_p85 : Cond.selects "MarkupStoreModel" (⟨"MarkupStoreModel", "beginPredicate", "()V"⟩ : MethodName) (⟨"MarkupStoreModel", "beginPredicate", "()V"⟩ : MethodName) ∈ ms_tb := ms_inP 85 (by decide +kernel) (by decide +kernel)
theorem ms_p86 : Cond.selects "MarkupStoreModel" (⟨"MarkupStoreModel", "attributePredicate", "(I)V"⟩ : MethodName) (⟨"MarkupStoreModel", "attributePredicate", "(I)V"⟩ : MethodName) ∈ ms_tb := ms_inP 86 (by decide +kernel) (by decide +kernel)
theorem ms_p90 : Cond.selects "MarkupStoreModel" (⟨"MarkupStoreModel", "gather", "(II)V"⟩ : MethodName) (⟨"MarkupStoreModel", "gather", "(II)V"⟩ : MethodName) ∈ ms_tb := ms_inP 90 (by decide +kernel) (by decide +kernel)
theorem ms_p91 : Cond.selects "MarkupStoreModel" (⟨"MarkupStoreModel", "entries", "(II)V"⟩ : MethodName) (⟨"MarkupStoreModel", "entries", "(II)V"⟩ : MethodName) ∈ ms_tb := ms_inP 91 (by decide +kernel) (by decide +kernel)
theorem ms_p92 : Cond.selects "MarkupStoreModel" (⟨"MarkupStoreModel", "entry", "(I)V"⟩ : MethodName) (⟨"MarkupStoreModel", "entry", "(I)V"⟩ : MethodName) ∈ ms_tb := ms_inP 92 (by decide +kernel) (by decide +kernel)
theorem ms_p93 : Cond.selects "MarkupStoreModel" (⟨"MarkupStoreModel", "sameParent", "(II)Z"⟩ : MethodName) (⟨"MarkupStoreModel", "sameParent", "(II)Z"⟩ : MethodName) ∈ ms_tb := ms_inP 93 (by decide +kernel) (by decide +kernel)
theorem ms_p94 : Cond.selects "MarkupStoreModel" (⟨"MarkupStoreModel", "isKind", "(II)Z"⟩ : MethodName) (⟨"MarkupStoreModel", "isKind", "(II)Z"⟩ : MethodName) ∈ ms_tb := ms_inP 94 (by decide +kernel) (by decide +kernel)
theorem ms_p95 : Cond.selects "MarkupStoreModel" (⟨"MarkupStoreModel", "holds", "(IIII)Z"⟩ : MethodName) (⟨"MarkupStoreModel", "holds", "(IIII)Z"⟩ : MethodName) ∈ ms_tb := ms_inP 95 (by decide +kernel) (by decide +kernel)
theorem ms_p96 : Cond.selects "MarkupStoreModel" (⟨"MarkupStoreModel", "holdsAttribute", "(II)Z"⟩ : MethodName) (⟨"MarkupStoreModel", "holdsAttribute", "(II)Z"⟩ : MethodName) ∈ ms_tb := ms_inP 96 (by decide +kernel) (by decide +kernel)
theorem ms_p97 : Cond.selects "MarkupStoreModel" (⟨"MarkupStoreModel", "attributeOf", "(III)I"⟩ : MethodName) (⟨"MarkupStoreModel", "attributeOf", "(III)I"⟩ : MethodName) ∈ ms_tb := ms_inP 97 (by decide +kernel) (by decide +kernel)
abbrev bM88 : ByteArray := prog_14_method_50_code
def yM88 : MethodName := ⟨"MarkupStoreModel", "behindStep", "()V"⟩
abbrev bM89 : ByteArray := prog_14_method_52_code
def yM89 : MethodName := ⟨"MarkupStoreModel", "attributePredicate", "(I)V"⟩
abbrev bM90 : ByteArray := prog_14_method_51_code
def yM90 : MethodName := ⟨"MarkupStoreModel", "beginPredicate", "()V"⟩
abbrev bM91 : ByteArray := prog_14_method_53_code
def yM91 : MethodName := ⟨"MarkupStoreModel", "readPath", "()V"⟩
abbrev bM92 : ByteArray := prog_14_method_54_code
def yM92 : MethodName := ⟨"MarkupStoreModel", "entry", "(I)V"⟩
abbrev bM93 : ByteArray := prog_14_method_55_code
def yM93 : MethodName := ⟨"MarkupStoreModel", "entries", "(II)V"⟩
abbrev bM94 : ByteArray := prog_14_method_56_code
def yM94 : MethodName := ⟨"MarkupStoreModel", "sameParent", "(II)Z"⟩
abbrev bM95 : ByteArray := prog_14_method_57_code
def yM95 : MethodName := ⟨"MarkupStoreModel", "gather", "(II)V"⟩
abbrev bM96 : ByteArray := prog_14_method_58_code
def yM96 : MethodName := ⟨"MarkupStoreModel", "isKind", "(II)Z"⟩
abbrev bM97 : ByteArray := prog_14_method_59_code
def yM97 : MethodName := ⟨"MarkupStoreModel", "holdsAttribute", "(II)Z"⟩
abbrev bM98 : ByteArray := prog_14_method_60_code
def yM98 : MethodName := ⟨"MarkupStoreModel", "holds", "(IIII)Z"⟩
abbrev bM99 : ByteArray := prog_14_method_61_code
def yM99 : MethodName := ⟨"MarkupStoreModel", "walk", "(II)J"⟩
theorem d88_0 : decode bM88 0 = .ok (.aload_n 0, 1) := by decide +kernel
theorem d88_1 : decode bM88 1 = .ok (.aload_n 0, 1) := by decide +kernel
theorem d88_2 : decode bM88 2 = .ok (.getfield 197, 3) := by decide +kernel
theorem d88_5 : decode bM88 5 = .ok (.invokevirtual 140, 3) := by decide +kernel
theorem d88_8 : decode bM88 8 = .ok (.istore_n 1, 1) := by decide +kernel
theorem d88_9 : decode bM88 9 = .ok (.aload_n 0, 1) := by decide +kernel
theorem d88_10 : decode bM88 10 = .ok (.getfield 284, 3) := by decide +kernel
theorem d88_13 : decode bM88 13 = .ok (.ifCond .le 15, 3) := by decide +kernel
theorem d88_16 : decode bM88 16 = .ok (.aload_n 0, 1) := by decide +kernel
theorem d88_17 : decode bM88 17 = .ok (.getfield 100, 3) := by decide +kernel
theorem d88_20 : decode bM88 20 = .ok (.aload_n 0, 1) := by decide +kernel
theorem d88_21 : decode bM88 21 = .ok (.getfield 284, 3) := by decide +kernel
theorem d88_24 : decode bM88 24 = .ok (.iaload, 1) := by decide +kernel
theorem d88_25 : decode bM88 25 = .ok (.goto 4, 3) := by decide +kernel
theorem d88_28 : decode bM88 28 = .ok (.iconst (-1), 1) := by decide +kernel
theorem d88_29 : decode bM88 29 = .ok (.istore_n 2, 1) := by decide +kernel
theorem d88_30 : decode bM88 30 = .ok (.iload_n 1, 1) := by decide +kernel
theorem d88_31 : decode bM88 31 = .ok (.bipush 91, 2) := by decide +kernel
theorem d88_33 : decode bM88 33 = .ok (.if_icmp .ne 39, 3) := by decide +kernel
theorem d88_36 : decode bM88 36 = .ok (.aload_n 0, 1) := by decide +kernel
theorem d88_37 : decode bM88 37 = .ok (.getfield 303, 3) := by decide +kernel
theorem d88_40 : decode bM88 40 = .ok (.iconst 3, 1) := by decide +kernel
theorem d88_41 : decode bM88 41 = .ok (.if_icmp .ge 31, 3) := by decide +kernel
theorem d88_44 : decode bM88 44 = .ok (.aload_n 0, 1) := by decide +kernel
theorem d88_45 : decode bM88 45 = .ok (.dup, 1) := by decide +kernel
theorem d88_46 : decode bM88 46 = .ok (.getfield 303, 3) := by decide +kernel
theorem d88_49 : decode bM88 49 = .ok (.iconst 1, 1) := by decide +kernel
theorem d88_50 : decode bM88 50 = .ok (.iadd, 1) := by decide +kernel
theorem d88_51 : decode bM88 51 = .ok (.putfield 303, 3) := by decide +kernel
theorem d88_54 : decode bM88 54 = .ok (.aload_n 0, 1) := by decide +kernel
theorem d88_55 : decode bM88 55 = .ok (.dup, 1) := by decide +kernel
theorem d88_56 : decode bM88 56 = .ok (.getfield 197, 3) := by decide +kernel
theorem d88_59 : decode bM88 59 = .ok (.iconst 1, 1) := by decide +kernel
theorem d88_60 : decode bM88 60 = .ok (.iadd, 1) := by decide +kernel
theorem d88_61 : decode bM88 61 = .ok (.putfield 197, 3) := by decide +kernel
theorem d88_64 : decode bM88 64 = .ok (.aload_n 0, 1) := by decide +kernel
theorem d88_65 : decode bM88 65 = .ok (.iconst 3, 1) := by decide +kernel
theorem d88_66 : decode bM88 66 = .ok (.putfield 290, 3) := by decide +kernel
theorem d88_69 : decode bM88 69 = .ok (.goto 157, 3) := by decide +kernel
theorem d88_72 : decode bM88 72 = .ok (.iload_n 1, 1) := by decide +kernel
theorem d88_73 : decode bM88 73 = .ok (.bipush 47, 2) := by decide +kernel
theorem d88_75 : decode bM88 75 = .ok (.if_icmp .ne 21, 3) := by decide +kernel
theorem d88_78 : decode bM88 78 = .ok (.aload_n 0, 1) := by decide +kernel
theorem d88_79 : decode bM88 79 = .ok (.dup, 1) := by decide +kernel
theorem d88_80 : decode bM88 80 = .ok (.getfield 197, 3) := by decide +kernel
theorem d88_83 : decode bM88 83 = .ok (.iconst 1, 1) := by decide +kernel
theorem d88_84 : decode bM88 84 = .ok (.iadd, 1) := by decide +kernel
theorem d88_85 : decode bM88 85 = .ok (.putfield 197, 3) := by decide +kernel
theorem d88_88 : decode bM88 88 = .ok (.aload_n 0, 1) := by decide +kernel
theorem d88_89 : decode bM88 89 = .ok (.iconst 1, 1) := by decide +kernel
theorem d88_90 : decode bM88 90 = .ok (.putfield 290, 3) := by decide +kernel
theorem d88_93 : decode bM88 93 = .ok (.goto 133, 3) := by decide +kernel
theorem d88_96 : decode bM88 96 = .ok (.iload_n 2, 1) := by decide +kernel
theorem d88_97 : decode bM88 97 = .ok (.ifCond .lt 121, 3) := by decide +kernel
theorem d88_100 : decode bM88 100 = .ok (.iload_n 1, 1) := by decide +kernel
theorem d88_101 : decode bM88 101 = .ok (.bipush 61, 2) := by decide +kernel
theorem d88_103 : decode bM88 103 = .ok (.if_icmp .eq 15, 3) := by decide +kernel
theorem d88_106 : decode bM88 106 = .ok (.iload_n 1, 1) := by decide +kernel
theorem d88_107 : decode bM88 107 = .ok (.bipush 126, 2) := by decide +kernel
theorem d88_109 : decode bM88 109 = .ok (.if_icmp .eq 9, 3) := by decide +kernel
theorem d88_112 : decode bM88 112 = .ok (.iload_n 1, 1) := by decide +kernel
theorem d88_113 : decode bM88 113 = .ok (.bipush 93, 2) := by decide +kernel
theorem d88_115 : decode bM88 115 = .ok (.if_icmp .ne 103, 3) := by decide +kernel
theorem d88_118 : decode bM88 118 = .ok (.aload_n 0, 1) := by decide +kernel
theorem d88_119 : decode bM88 119 = .ok (.getfield 62, 3) := by decide +kernel
theorem d88_122 : decode bM88 122 = .ok (.iload_n 2, 1) := by decide +kernel
theorem d88_123 : decode bM88 123 = .ok (.iload_n 1, 1) := by decide +kernel
theorem d88_124 : decode bM88 124 = .ok (.bipush 61, 2) := by decide +kernel
theorem d88_126 : decode bM88 126 = .ok (.if_icmp .ne 7, 3) := by decide +kernel
theorem d88_129 : decode bM88 129 = .ok (.iconst 5, 1) := by decide +kernel
theorem d88_130 : decode bM88 130 = .ok (.goto 15, 3) := by decide +kernel
theorem d88_133 : decode bM88 133 = .ok (.iload_n 1, 1) := by decide +kernel
theorem d88_134 : decode bM88 134 = .ok (.bipush 126, 2) := by decide +kernel
theorem d88_136 : decode bM88 136 = .ok (.if_icmp .ne 8, 3) := by decide +kernel
theorem d88_139 : decode bM88 139 = .ok (.bipush 6, 2) := by decide +kernel
theorem d88_141 : decode bM88 141 = .ok (.goto 4, 3) := by decide +kernel
theorem d88_144 : decode bM88 144 = .ok (.iconst 4, 1) := by decide +kernel
theorem d88_145 : decode bM88 145 = .ok (.iastore, 1) := by decide +kernel
theorem d88_146 : decode bM88 146 = .ok (.aload_n 0, 1) := by decide +kernel
theorem d88_147 : decode bM88 147 = .ok (.iload_n 1, 1) := by decide +kernel
theorem d88_148 : decode bM88 148 = .ok (.bipush 93, 2) := by decide +kernel
theorem d88_150 : decode bM88 150 = .ok (.if_icmp .ne 10, 3) := by decide +kernel
theorem d88_153 : decode bM88 153 = .ok (.aload_n 0, 1) := by decide +kernel
theorem d88_154 : decode bM88 154 = .ok (.getfield 197, 3) := by decide +kernel
theorem d88_157 : decode bM88 157 = .ok (.goto 9, 3) := by decide +kernel
theorem d88_160 : decode bM88 160 = .ok (.aload_n 0, 1) := by decide +kernel
theorem d88_161 : decode bM88 161 = .ok (.getfield 197, 3) := by decide +kernel
theorem d88_164 : decode bM88 164 = .ok (.iconst 1, 1) := by decide +kernel
theorem d88_165 : decode bM88 165 = .ok (.iadd, 1) := by decide +kernel
theorem d88_166 : decode bM88 166 = .ok (.putfield 197, 3) := by decide +kernel
theorem d88_169 : decode bM88 169 = .ok (.iload_n 1, 1) := by decide +kernel
theorem d88_170 : decode bM88 170 = .ok (.bipush 93, 2) := by decide +kernel
theorem d88_172 : decode bM88 172 = .ok (.if_icmp .eq 8, 3) := by decide +kernel
theorem d88_175 : decode bM88 175 = .ok (.aload_n 0, 1) := by decide +kernel
theorem d88_176 : decode bM88 176 = .ok (.iload_n 2, 1) := by decide +kernel
theorem d88_177 : decode bM88 177 = .ok (.invokevirtual 306, 3) := by decide +kernel
theorem d88_180 : decode bM88 180 = .ok (.aload_n 0, 1) := by decide +kernel
theorem d88_181 : decode bM88 181 = .ok (.getfield 97, 3) := by decide +kernel
theorem d88_184 : decode bM88 184 = .ok (.aload_n 0, 1) := by decide +kernel
theorem d88_185 : decode bM88 185 = .ok (.getfield 309, 3) := by decide +kernel
theorem d88_188 : decode bM88 188 = .ok (.iload_n 2, 1) := by decide +kernel
theorem d88_189 : decode bM88 189 = .ok (.iastore, 1) := by decide +kernel
theorem d88_190 : decode bM88 190 = .ok (.aload_n 0, 1) := by decide +kernel
theorem d88_191 : decode bM88 191 = .ok (.dup, 1) := by decide +kernel
theorem d88_192 : decode bM88 192 = .ok (.getfield 309, 3) := by decide +kernel
theorem d88_195 : decode bM88 195 = .ok (.iconst 1, 1) := by decide +kernel
theorem d88_196 : decode bM88 196 = .ok (.iadd, 1) := by decide +kernel
theorem d88_197 : decode bM88 197 = .ok (.putfield 309, 3) := by decide +kernel
theorem d88_200 : decode bM88 200 = .ok (.aload_n 0, 1) := by decide +kernel
theorem d88_201 : decode bM88 201 = .ok (.dup, 1) := by decide +kernel
theorem d88_202 : decode bM88 202 = .ok (.getfield 284, 3) := by decide +kernel
theorem d88_205 : decode bM88 205 = .ok (.iconst 1, 1) := by decide +kernel
theorem d88_206 : decode bM88 206 = .ok (.isub, 1) := by decide +kernel
theorem d88_207 : decode bM88 207 = .ok (.putfield 284, 3) := by decide +kernel
theorem d88_210 : decode bM88 210 = .ok (.aload_n 0, 1) := by decide +kernel
theorem d88_211 : decode bM88 211 = .ok (.iconst 4, 1) := by decide +kernel
theorem d88_212 : decode bM88 212 = .ok (.putfield 290, 3) := by decide +kernel
theorem d88_215 : decode bM88 215 = .ok (.goto 11, 3) := by decide +kernel
theorem d88_218 : decode bM88 218 = .ok (.aload_n 0, 1) := by decide +kernel
theorem d88_219 : decode bM88 219 = .ok (.aload_n 0, 1) := by decide +kernel
theorem d88_220 : decode bM88 220 = .ok (.getfield 197, 3) := by decide +kernel
theorem d88_223 : decode bM88 223 = .ok (.invokevirtual 144, 3) := by decide +kernel
theorem d88_226 : decode bM88 226 = .ok (.return_, 1) := by decide +kernel
theorem d89_0 : decode bM89 0 = .ok (.aload_n 0, 1) := by decide +kernel
theorem d89_1 : decode bM89 1 = .ok (.aload_n 0, 1) := by decide +kernel
theorem d89_2 : decode bM89 2 = .ok (.getfield 197, 3) := by decide +kernel
theorem d89_5 : decode bM89 5 = .ok (.iconst 1, 1) := by decide +kernel
theorem d89_6 : decode bM89 6 = .ok (.iadd, 1) := by decide +kernel
theorem d89_7 : decode bM89 7 = .ok (.invokevirtual 175, 3) := by decide +kernel
theorem d89_10 : decode bM89 10 = .ok (.istore_n 2, 1) := by decide +kernel
theorem d89_11 : decode bM89 11 = .ok (.iload_n 2, 1) := by decide +kernel
theorem d89_12 : decode bM89 12 = .ok (.ifCond .ne 13, 3) := by decide +kernel
theorem d89_15 : decode bM89 15 = .ok (.aload_n 0, 1) := by decide +kernel
theorem d89_16 : decode bM89 16 = .ok (.aload_n 0, 1) := by decide +kernel
theorem d89_17 : decode bM89 17 = .ok (.getfield 197, 3) := by decide +kernel
theorem d89_20 : decode bM89 20 = .ok (.iconst 1, 1) := by decide +kernel
theorem d89_21 : decode bM89 21 = .ok (.iadd, 1) := by decide +kernel
theorem d89_22 : decode bM89 22 = .ok (.invokevirtual 144, 3) := by decide +kernel
theorem d89_25 : decode bM89 25 = .ok (.aload_n 0, 1) := by decide +kernel
theorem d89_26 : decode bM89 26 = .ok (.getfield 68, 3) := by decide +kernel
theorem d89_29 : decode bM89 29 = .ok (.iload_n 1, 1) := by decide +kernel
theorem d89_30 : decode bM89 30 = .ok (.aload_n 0, 1) := by decide +kernel
theorem d89_31 : decode bM89 31 = .ok (.getfield 197, 3) := by decide +kernel
theorem d89_34 : decode bM89 34 = .ok (.iconst 1, 1) := by decide +kernel
theorem d89_35 : decode bM89 35 = .ok (.iadd, 1) := by decide +kernel
theorem d89_36 : decode bM89 36 = .ok (.iastore, 1) := by decide +kernel
theorem d89_37 : decode bM89 37 = .ok (.aload_n 0, 1) := by decide +kernel
theorem d89_38 : decode bM89 38 = .ok (.getfield 71, 3) := by decide +kernel
theorem d89_41 : decode bM89 41 = .ok (.iload_n 1, 1) := by decide +kernel
theorem d89_42 : decode bM89 42 = .ok (.iload_n 2, 1) := by decide +kernel
theorem d89_43 : decode bM89 43 = .ok (.iastore, 1) := by decide +kernel
theorem d89_44 : decode bM89 44 = .ok (.aload_n 0, 1) := by decide +kernel
theorem d89_45 : decode bM89 45 = .ok (.aload_n 0, 1) := by decide +kernel
theorem d89_46 : decode bM89 46 = .ok (.getfield 197, 3) := by decide +kernel
theorem d89_49 : decode bM89 49 = .ok (.iconst 1, 1) := by decide +kernel
theorem d89_50 : decode bM89 50 = .ok (.iadd, 1) := by decide +kernel
theorem d89_51 : decode bM89 51 = .ok (.iload_n 2, 1) := by decide +kernel
theorem d89_52 : decode bM89 52 = .ok (.iadd, 1) := by decide +kernel
theorem d89_53 : decode bM89 53 = .ok (.putfield 197, 3) := by decide +kernel
theorem d89_56 : decode bM89 56 = .ok (.aload_n 0, 1) := by decide +kernel
theorem d89_57 : decode bM89 57 = .ok (.aload_n 0, 1) := by decide +kernel
theorem d89_58 : decode bM89 58 = .ok (.getfield 197, 3) := by decide +kernel
theorem d89_61 : decode bM89 61 = .ok (.invokevirtual 140, 3) := by decide +kernel
theorem d89_64 : decode bM89 64 = .ok (.bipush 61, 2) := by decide +kernel
theorem d89_66 : decode bM89 66 = .ok (.if_icmp .ne 7, 3) := by decide +kernel
theorem d89_69 : decode bM89 69 = .ok (.iconst 1, 1) := by decide +kernel
theorem d89_70 : decode bM89 70 = .ok (.goto 4, 3) := by decide +kernel
theorem d89_73 : decode bM89 73 = .ok (.iconst 0, 1) := by decide +kernel
theorem d89_74 : decode bM89 74 = .ok (.istore_n 3, 1) := by decide +kernel
theorem d89_75 : decode bM89 75 = .ok (.aload_n 0, 1) := by decide +kernel
theorem d89_76 : decode bM89 76 = .ok (.getfield 62, 3) := by decide +kernel
theorem d89_79 : decode bM89 79 = .ok (.iload_n 1, 1) := by decide +kernel
theorem d89_80 : decode bM89 80 = .ok (.iload_n 3, 1) := by decide +kernel
theorem d89_81 : decode bM89 81 = .ok (.ifCond .eq 7, 3) := by decide +kernel
theorem d89_84 : decode bM89 84 = .ok (.iconst 3, 1) := by decide +kernel
theorem d89_85 : decode bM89 85 = .ok (.goto 4, 3) := by decide +kernel
theorem d89_88 : decode bM89 88 = .ok (.iconst 2, 1) := by decide +kernel
theorem d89_89 : decode bM89 89 = .ok (.iastore, 1) := by decide +kernel
theorem d89_90 : decode bM89 90 = .ok (.iload_n 3, 1) := by decide +kernel
theorem d89_91 : decode bM89 91 = .ok (.ifCond .eq 18, 3) := by decide +kernel
theorem d89_94 : decode bM89 94 = .ok (.aload_n 0, 1) := by decide +kernel
theorem d89_95 : decode bM89 95 = .ok (.dup, 1) := by decide +kernel
theorem d89_96 : decode bM89 96 = .ok (.getfield 197, 3) := by decide +kernel
theorem d89_99 : decode bM89 99 = .ok (.iconst 1, 1) := by decide +kernel
theorem d89_100 : decode bM89 100 = .ok (.iadd, 1) := by decide +kernel
theorem d89_101 : decode bM89 101 = .ok (.putfield 197, 3) := by decide +kernel
theorem d89_104 : decode bM89 104 = .ok (.aload_n 0, 1) := by decide +kernel
theorem d89_105 : decode bM89 105 = .ok (.iload_n 1, 1) := by decide +kernel
theorem d89_106 : decode bM89 106 = .ok (.invokevirtual 306, 3) := by decide +kernel
theorem d89_109 : decode bM89 109 = .ok (.return_, 1) := by decide +kernel
theorem d90_0 : decode bM90 0 = .ok (.aload_n 0, 1) := by decide +kernel
theorem d90_1 : decode bM90 1 = .ok (.getfield 312, 3) := by decide +kernel
theorem d90_4 : decode bM90 4 = .ok (.istore_n 1, 1) := by decide +kernel
theorem d90_5 : decode bM90 5 = .ok (.aload_n 0, 1) := by decide +kernel
theorem d90_6 : decode bM90 6 = .ok (.dup, 1) := by decide +kernel
theorem d90_7 : decode bM90 7 = .ok (.getfield 312, 3) := by decide +kernel
theorem d90_10 : decode bM90 10 = .ok (.iconst 1, 1) := by decide +kernel
theorem d90_11 : decode bM90 11 = .ok (.iadd, 1) := by decide +kernel
theorem d90_12 : decode bM90 12 = .ok (.putfield 312, 3) := by decide +kernel
theorem d90_15 : decode bM90 15 = .ok (.aload_n 0, 1) := by decide +kernel
theorem d90_16 : decode bM90 16 = .ok (.getfield 83, 3) := by decide +kernel
theorem d90_19 : decode bM90 19 = .ok (.iload_n 1, 1) := by decide +kernel
theorem d90_20 : decode bM90 20 = .ok (.iconst (-1), 1) := by decide +kernel
theorem d90_21 : decode bM90 21 = .ok (.iastore, 1) := by decide +kernel
theorem d90_22 : decode bM90 22 = .ok (.aload_n 0, 1) := by decide +kernel
theorem d90_23 : decode bM90 23 = .ok (.getfield 86, 3) := by decide +kernel
theorem d90_26 : decode bM90 26 = .ok (.iload_n 1, 1) := by decide +kernel
theorem d90_27 : decode bM90 27 = .ok (.iconst 0, 1) := by decide +kernel
theorem d90_28 : decode bM90 28 = .ok (.bastore, 1) := by decide +kernel
theorem d90_29 : decode bM90 29 = .ok (.aload_n 0, 1) := by decide +kernel
theorem d90_30 : decode bM90 30 = .ok (.getfield 106, 3) := by decide +kernel
theorem d90_33 : decode bM90 33 = .ok (.aload_n 0, 1) := by decide +kernel
theorem d90_34 : decode bM90 34 = .ok (.getfield 284, 3) := by decide +kernel
theorem d90_37 : decode bM90 37 = .ok (.iaload, 1) := by decide +kernel
theorem d90_38 : decode bM90 38 = .ok (.ifCond .ge 21, 3) := by decide +kernel
theorem d90_41 : decode bM90 41 = .ok (.aload_n 0, 1) := by decide +kernel
theorem d90_42 : decode bM90 42 = .ok (.getfield 56, 3) := by decide +kernel
theorem d90_45 : decode bM90 45 = .ok (.aload_n 0, 1) := by decide +kernel
theorem d90_46 : decode bM90 46 = .ok (.getfield 103, 3) := by decide +kernel
theorem d90_49 : decode bM90 49 = .ok (.aload_n 0, 1) := by decide +kernel
theorem d90_50 : decode bM90 50 = .ok (.getfield 284, 3) := by decide +kernel
theorem d90_53 : decode bM90 53 = .ok (.iaload, 1) := by decide +kernel
theorem d90_54 : decode bM90 54 = .ok (.iload_n 1, 1) := by decide +kernel
theorem d90_55 : decode bM90 55 = .ok (.iastore, 1) := by decide +kernel
theorem d90_56 : decode bM90 56 = .ok (.goto 18, 3) := by decide +kernel
theorem d90_59 : decode bM90 59 = .ok (.aload_n 0, 1) := by decide +kernel
theorem d90_60 : decode bM90 60 = .ok (.getfield 83, 3) := by decide +kernel
theorem d90_63 : decode bM90 63 = .ok (.aload_n 0, 1) := by decide +kernel
theorem d90_64 : decode bM90 64 = .ok (.getfield 106, 3) := by decide +kernel
theorem d90_67 : decode bM90 67 = .ok (.aload_n 0, 1) := by decide +kernel
theorem d90_68 : decode bM90 68 = .ok (.getfield 284, 3) := by decide +kernel
theorem d90_71 : decode bM90 71 = .ok (.iaload, 1) := by decide +kernel
theorem d90_72 : decode bM90 72 = .ok (.iload_n 1, 1) := by decide +kernel
theorem d90_73 : decode bM90 73 = .ok (.iastore, 1) := by decide +kernel
theorem d90_74 : decode bM90 74 = .ok (.aload_n 0, 1) := by decide +kernel
theorem d90_75 : decode bM90 75 = .ok (.getfield 106, 3) := by decide +kernel
theorem d90_78 : decode bM90 78 = .ok (.aload_n 0, 1) := by decide +kernel
theorem d90_79 : decode bM90 79 = .ok (.getfield 284, 3) := by decide +kernel
theorem d90_82 : decode bM90 82 = .ok (.iload_n 1, 1) := by decide +kernel
theorem d90_83 : decode bM90 83 = .ok (.iastore, 1) := by decide +kernel
theorem d90_84 : decode bM90 84 = .ok (.aload_n 0, 1) := by decide +kernel
theorem d90_85 : decode bM90 85 = .ok (.aload_n 0, 1) := by decide +kernel
theorem d90_86 : decode bM90 86 = .ok (.getfield 197, 3) := by decide +kernel
theorem d90_89 : decode bM90 89 = .ok (.invokevirtual 140, 3) := by decide +kernel
theorem d90_92 : decode bM90 92 = .ok (.bipush 33, 2) := by decide +kernel
theorem d90_94 : decode bM90 94 = .ok (.if_icmp .ne 36, 3) := by decide +kernel
theorem d90_97 : decode bM90 97 = .ok (.aload_n 0, 1) := by decide +kernel
theorem d90_98 : decode bM90 98 = .ok (.getfield 86, 3) := by decide +kernel
theorem d90_101 : decode bM90 101 = .ok (.iload_n 1, 1) := by decide +kernel
theorem d90_102 : decode bM90 102 = .ok (.aload_n 0, 1) := by decide +kernel
theorem d90_103 : decode bM90 103 = .ok (.getfield 86, 3) := by decide +kernel
theorem d90_106 : decode bM90 106 = .ok (.iload_n 1, 1) := by decide +kernel
theorem d90_107 : decode bM90 107 = .ok (.baload, 1) := by decide +kernel
theorem d90_108 : decode bM90 108 = .ok (.ifCond .ne 7, 3) := by decide +kernel
theorem d90_111 : decode bM90 111 = .ok (.iconst 1, 1) := by decide +kernel
theorem d90_112 : decode bM90 112 = .ok (.goto 4, 3) := by decide +kernel
theorem d90_115 : decode bM90 115 = .ok (.iconst 0, 1) := by decide +kernel
theorem d90_116 : decode bM90 116 = .ok (.bastore, 1) := by decide +kernel
theorem d90_117 : decode bM90 117 = .ok (.aload_n 0, 1) := by decide +kernel
theorem d90_118 : decode bM90 118 = .ok (.dup, 1) := by decide +kernel
theorem d90_119 : decode bM90 119 = .ok (.getfield 197, 3) := by decide +kernel
theorem d90_122 : decode bM90 122 = .ok (.iconst 1, 1) := by decide +kernel
theorem d90_123 : decode bM90 123 = .ok (.iadd, 1) := by decide +kernel
theorem d90_124 : decode bM90 124 = .ok (.putfield 197, 3) := by decide +kernel
theorem d90_127 : decode bM90 127 = .ok (.goto (-43), 3) := by decide +kernel
theorem d90_130 : decode bM90 130 = .ok (.aload_n 0, 1) := by decide +kernel
theorem d90_131 : decode bM90 131 = .ok (.aload_n 0, 1) := by decide +kernel
theorem d90_132 : decode bM90 132 = .ok (.getfield 197, 3) := by decide +kernel
theorem d90_135 : decode bM90 135 = .ok (.invokevirtual 140, 3) := by decide +kernel
theorem d90_138 : decode bM90 138 = .ok (.istore_n 2, 1) := by decide +kernel
theorem d90_139 : decode bM90 139 = .ok (.aload_n 0, 1) := by decide +kernel
theorem d90_140 : decode bM90 140 = .ok (.iconst 4, 1) := by decide +kernel
theorem d90_141 : decode bM90 141 = .ok (.putfield 290, 3) := by decide +kernel
theorem d90_144 : decode bM90 144 = .ok (.iload_n 2, 1) := by decide +kernel
theorem d90_145 : decode bM90 145 = .ok (.invokestatic 315, 3) := by decide +kernel
theorem d90_148 : decode bM90 148 = .ok (.ifCond .eq 83, 3) := by decide +kernel
theorem d90_151 : decode bM90 151 = .ok (.aload_n 0, 1) := by decide +kernel
theorem d90_152 : decode bM90 152 = .ok (.aload_n 0, 1) := by decide +kernel
theorem d90_153 : decode bM90 153 = .ok (.getfield 197, 3) := by decide +kernel
theorem d90_156 : decode bM90 156 = .ok (.iconst 1, 1) := by decide +kernel
theorem d90_157 : decode bM90 157 = .ok (.iadd, 1) := by decide +kernel
theorem d90_158 : decode bM90 158 = .ok (.invokevirtual 140, 3) := by decide +kernel
theorem d90_161 : decode bM90 161 = .ok (.invokestatic 315, 3) := by decide +kernel
theorem d90_164 : decode bM90 164 = .ok (.istore_n 3, 1) := by decide +kernel
theorem d90_165 : decode bM90 165 = .ok (.aload_n 0, 1) := by decide +kernel
theorem d90_166 : decode bM90 166 = .ok (.getfield 62, 3) := by decide +kernel
theorem d90_169 : decode bM90 169 = .ok (.iload_n 1, 1) := by decide +kernel
theorem d90_170 : decode bM90 170 = .ok (.iconst 0, 1) := by decide +kernel
theorem d90_171 : decode bM90 171 = .ok (.iastore, 1) := by decide +kernel
theorem d90_172 : decode bM90 172 = .ok (.aload_n 0, 1) := by decide +kernel
theorem d90_173 : decode bM90 173 = .ok (.getfield 65, 3) := by decide +kernel
theorem d90_176 : decode bM90 176 = .ok (.iload_n 1, 1) := by decide +kernel
theorem d90_177 : decode bM90 177 = .ok (.iload_n 3, 1) := by decide +kernel
theorem d90_178 : decode bM90 178 = .ok (.ifCond .eq 27, 3) := by decide +kernel
theorem d90_181 : decode bM90 181 = .ok (.bipush 10, 2) := by decide +kernel
theorem d90_183 : decode bM90 183 = .ok (.iload_n 2, 1) := by decide +kernel
theorem d90_184 : decode bM90 184 = .ok (.bipush 48, 2) := by decide +kernel
theorem d90_186 : decode bM90 186 = .ok (.isub, 1) := by decide +kernel
theorem d90_187 : decode bM90 187 = .ok (.imul, 1) := by decide +kernel
theorem d90_188 : decode bM90 188 = .ok (.aload_n 0, 1) := by decide +kernel
theorem d90_189 : decode bM90 189 = .ok (.aload_n 0, 1) := by decide +kernel
theorem d90_190 : decode bM90 190 = .ok (.getfield 197, 3) := by decide +kernel
theorem d90_193 : decode bM90 193 = .ok (.iconst 1, 1) := by decide +kernel
theorem d90_194 : decode bM90 194 = .ok (.iadd, 1) := by decide +kernel
theorem d90_195 : decode bM90 195 = .ok (.invokevirtual 140, 3) := by decide +kernel
theorem d90_198 : decode bM90 198 = .ok (.iadd, 1) := by decide +kernel
theorem d90_199 : decode bM90 199 = .ok (.bipush 48, 2) := by decide +kernel
theorem d90_201 : decode bM90 201 = .ok (.isub, 1) := by decide +kernel
theorem d90_202 : decode bM90 202 = .ok (.goto 7, 3) := by decide +kernel
theorem d90_205 : decode bM90 205 = .ok (.iload_n 2, 1) := by decide +kernel
theorem d90_206 : decode bM90 206 = .ok (.bipush 48, 2) := by decide +kernel
theorem d90_208 : decode bM90 208 = .ok (.isub, 1) := by decide +kernel
theorem d90_209 : decode bM90 209 = .ok (.iastore, 1) := by decide +kernel
theorem d90_210 : decode bM90 210 = .ok (.aload_n 0, 1) := by decide +kernel
theorem d90_211 : decode bM90 211 = .ok (.dup, 1) := by decide +kernel
theorem d90_212 : decode bM90 212 = .ok (.getfield 197, 3) := by decide +kernel
theorem d90_215 : decode bM90 215 = .ok (.iload_n 3, 1) := by decide +kernel
theorem d90_216 : decode bM90 216 = .ok (.ifCond .eq 7, 3) := by decide +kernel
theorem d90_219 : decode bM90 219 = .ok (.iconst 2, 1) := by decide +kernel
theorem d90_220 : decode bM90 220 = .ok (.goto 4, 3) := by decide +kernel
theorem d90_223 : decode bM90 223 = .ok (.iconst 1, 1) := by decide +kernel
theorem d90_224 : decode bM90 224 = .ok (.iadd, 1) := by decide +kernel
theorem d90_225 : decode bM90 225 = .ok (.putfield 197, 3) := by decide +kernel
theorem d90_228 : decode bM90 228 = .ok (.goto 78, 3) := by decide +kernel
theorem d90_231 : decode bM90 231 = .ok (.iload_n 2, 1) := by decide +kernel
theorem d90_232 : decode bM90 232 = .ok (.bipush 36, 2) := by decide +kernel
theorem d90_234 : decode bM90 234 = .ok (.if_icmp .ne 23, 3) := by decide +kernel
theorem d90_237 : decode bM90 237 = .ok (.aload_n 0, 1) := by decide +kernel
theorem d90_238 : decode bM90 238 = .ok (.getfield 62, 3) := by decide +kernel
theorem d90_241 : decode bM90 241 = .ok (.iload_n 1, 1) := by decide +kernel
theorem d90_242 : decode bM90 242 = .ok (.iconst 1, 1) := by decide +kernel
theorem d90_243 : decode bM90 243 = .ok (.iastore, 1) := by decide +kernel
theorem d90_244 : decode bM90 244 = .ok (.aload_n 0, 1) := by decide +kernel
theorem d90_245 : decode bM90 245 = .ok (.dup, 1) := by decide +kernel
theorem d90_246 : decode bM90 246 = .ok (.getfield 197, 3) := by decide +kernel
theorem d90_249 : decode bM90 249 = .ok (.iconst 1, 1) := by decide +kernel
theorem d90_250 : decode bM90 250 = .ok (.iadd, 1) := by decide +kernel
theorem d90_251 : decode bM90 251 = .ok (.putfield 197, 3) := by decide +kernel
theorem d90_254 : decode bM90 254 = .ok (.goto 52, 3) := by decide +kernel
theorem d90_257 : decode bM90 257 = .ok (.iload_n 2, 1) := by decide +kernel
theorem d90_258 : decode bM90 258 = .ok (.bipush 64, 2) := by decide +kernel
theorem d90_260 : decode bM90 260 = .ok (.if_icmp .ne 11, 3) := by decide +kernel
theorem d90_263 : decode bM90 263 = .ok (.aload_n 0, 1) := by decide +kernel
theorem d90_264 : decode bM90 264 = .ok (.iload_n 1, 1) := by decide +kernel
theorem d90_265 : decode bM90 265 = .ok (.invokevirtual 318, 3) := by decide +kernel
theorem d90_268 : decode bM90 268 = .ok (.goto 38, 3) := by decide +kernel
theorem d90_271 : decode bM90 271 = .ok (.aload_n 0, 1) := by decide +kernel
theorem d90_272 : decode bM90 272 = .ok (.dup, 1) := by decide +kernel
theorem d90_273 : decode bM90 273 = .ok (.getfield 284, 3) := by decide +kernel
theorem d90_276 : decode bM90 276 = .ok (.iconst 1, 1) := by decide +kernel
theorem d90_277 : decode bM90 277 = .ok (.iadd, 1) := by decide +kernel
theorem d90_278 : decode bM90 278 = .ok (.putfield 284, 3) := by decide +kernel
theorem d90_281 : decode bM90 281 = .ok (.aload_n 0, 1) := by decide +kernel
theorem d90_282 : decode bM90 282 = .ok (.getfield 100, 3) := by decide +kernel
theorem d90_285 : decode bM90 285 = .ok (.aload_n 0, 1) := by decide +kernel
theorem d90_286 : decode bM90 286 = .ok (.getfield 284, 3) := by decide +kernel
theorem d90_289 : decode bM90 289 = .ok (.iload_n 1, 1) := by decide +kernel
theorem d90_290 : decode bM90 290 = .ok (.iastore, 1) := by decide +kernel
theorem d90_291 : decode bM90 291 = .ok (.aload_n 0, 1) := by decide +kernel
theorem d90_292 : decode bM90 292 = .ok (.getfield 103, 3) := by decide +kernel
theorem d90_295 : decode bM90 295 = .ok (.aload_n 0, 1) := by decide +kernel
theorem d90_296 : decode bM90 296 = .ok (.getfield 284, 3) := by decide +kernel
theorem d90_299 : decode bM90 299 = .ok (.iconst (-1), 1) := by decide +kernel
theorem d90_300 : decode bM90 300 = .ok (.iastore, 1) := by decide +kernel
theorem d90_301 : decode bM90 301 = .ok (.aload_n 0, 1) := by decide +kernel
theorem d90_302 : decode bM90 302 = .ok (.iconst 0, 1) := by decide +kernel
theorem d90_303 : decode bM90 303 = .ok (.putfield 290, 3) := by decide +kernel
theorem d90_306 : decode bM90 306 = .ok (.return_, 1) := by decide +kernel
theorem d91_0 : decode bM91 0 = .ok (.aload_n 0, 1) := by decide +kernel
theorem d91_1 : decode bM91 1 = .ok (.iconst 0, 1) := by decide +kernel
theorem d91_2 : decode bM91 2 = .ok (.putfield 197, 3) := by decide +kernel
theorem d91_5 : decode bM91 5 = .ok (.aload_n 0, 1) := by decide +kernel
theorem d91_6 : decode bM91 6 = .ok (.iconst (-1), 1) := by decide +kernel
theorem d91_7 : decode bM91 7 = .ok (.putfield 137, 3) := by decide +kernel
theorem d91_10 : decode bM91 10 = .ok (.aload_n 0, 1) := by decide +kernel
theorem d91_11 : decode bM91 11 = .ok (.iconst 0, 1) := by decide +kernel
theorem d91_12 : decode bM91 12 = .ok (.putfield 297, 3) := by decide +kernel
theorem d91_15 : decode bM91 15 = .ok (.aload_n 0, 1) := by decide +kernel
theorem d91_16 : decode bM91 16 = .ok (.iconst 0, 1) := by decide +kernel
theorem d91_17 : decode bM91 17 = .ok (.putfield 312, 3) := by decide +kernel
theorem d91_20 : decode bM91 20 = .ok (.aload_n 0, 1) := by decide +kernel
theorem d91_21 : decode bM91 21 = .ok (.iconst 0, 1) := by decide +kernel
theorem d91_22 : decode bM91 22 = .ok (.putfield 309, 3) := by decide +kernel
theorem d91_25 : decode bM91 25 = .ok (.aload_n 0, 1) := by decide +kernel
theorem d91_26 : decode bM91 26 = .ok (.iconst 0, 1) := by decide +kernel
theorem d91_27 : decode bM91 27 = .ok (.putfield 284, 3) := by decide +kernel
theorem d91_30 : decode bM91 30 = .ok (.aload_n 0, 1) := by decide +kernel
theorem d91_31 : decode bM91 31 = .ok (.iconst 0, 1) := by decide +kernel
theorem d91_32 : decode bM91 32 = .ok (.putfield 303, 3) := by decide +kernel
theorem d91_35 : decode bM91 35 = .ok (.aload_n 0, 1) := by decide +kernel
theorem d91_36 : decode bM91 36 = .ok (.iconst 0, 1) := by decide +kernel
theorem d91_37 : decode bM91 37 = .ok (.putfield 290, 3) := by decide +kernel
theorem d91_40 : decode bM91 40 = .ok (.aload_n 0, 1) := by decide +kernel
theorem d91_41 : decode bM91 41 = .ok (.iconst (-1), 1) := by decide +kernel
theorem d91_42 : decode bM91 42 = .ok (.putfield 300, 3) := by decide +kernel
theorem d91_45 : decode bM91 45 = .ok (.aload_n 0, 1) := by decide +kernel
theorem d91_46 : decode bM91 46 = .ok (.getfield 103, 3) := by decide +kernel
theorem d91_49 : decode bM91 49 = .ok (.iconst 0, 1) := by decide +kernel
theorem d91_50 : decode bM91 50 = .ok (.iconst (-1), 1) := by decide +kernel
theorem d91_51 : decode bM91 51 = .ok (.iastore, 1) := by decide +kernel
theorem d91_52 : decode bM91 52 = .ok (.aload_n 0, 1) := by decide +kernel
theorem d91_53 : decode bM91 53 = .ok (.getfield 137, 3) := by decide +kernel
theorem d91_56 : decode bM91 56 = .ok (.ifCond .ge 131, 3) := by decide +kernel
theorem d91_59 : decode bM91 59 = .ok (.aload_n 0, 1) := by decide +kernel
theorem d91_60 : decode bM91 60 = .ok (.getfield 290, 3) := by decide +kernel
theorem d91_63 : decode bM91 63 = .ok (.iconst 2, 1) := by decide +kernel
theorem d91_64 : decode bM91 64 = .ok (.if_icmp .ne 21, 3) := by decide +kernel
theorem d91_67 : decode bM91 67 = .ok (.aload_n 0, 1) := by decide +kernel
theorem d91_68 : decode bM91 68 = .ok (.getfield 284, 3) := by decide +kernel
theorem d91_71 : decode bM91 71 = .ok (.ifCond .ne 14, 3) := by decide +kernel
theorem d91_74 : decode bM91 74 = .ok (.aload_n 0, 1) := by decide +kernel
theorem d91_75 : decode bM91 75 = .ok (.getfield 197, 3) := by decide +kernel
theorem d91_78 : decode bM91 78 = .ok (.aload_n 0, 1) := by decide +kernel
theorem d91_79 : decode bM91 79 = .ok (.getfield 133, 3) := by decide +kernel
theorem d91_82 : decode bM91 82 = .ok (.if_icmp .ge 105, 3) := by decide +kernel
theorem d91_85 : decode bM91 85 = .ok (.aload_n 0, 1) := by decide +kernel
theorem d91_86 : decode bM91 86 = .ok (.getfield 290, 3) := by decide +kernel
theorem d91_89 : decode bM91 89 = .ok (.tableswitch 59 0 3 #[31, 38, 45, 52], 31) := by decide +kernel
theorem d91_120 : decode bM91 120 = .ok (.aload_n 0, 1) := by decide +kernel
theorem d91_121 : decode bM91 121 = .ok (.invokevirtual 321, 3) := by decide +kernel
theorem d91_124 : decode bM91 124 = .ok (.goto (-72), 3) := by decide +kernel
theorem d91_127 : decode bM91 127 = .ok (.aload_n 0, 1) := by decide +kernel
theorem d91_128 : decode bM91 128 = .ok (.invokevirtual 324, 3) := by decide +kernel
theorem d91_131 : decode bM91 131 = .ok (.goto (-79), 3) := by decide +kernel
theorem d91_134 : decode bM91 134 = .ok (.aload_n 0, 1) := by decide +kernel
theorem d91_135 : decode bM91 135 = .ok (.invokevirtual 327, 3) := by decide +kernel
theorem d91_138 : decode bM91 138 = .ok (.goto (-86), 3) := by decide +kernel
theorem d91_141 : decode bM91 141 = .ok (.aload_n 0, 1) := by decide +kernel
theorem d91_142 : decode bM91 142 = .ok (.invokevirtual 330, 3) := by decide +kernel
theorem d91_145 : decode bM91 145 = .ok (.goto (-93), 3) := by decide +kernel
theorem d91_148 : decode bM91 148 = .ok (.aload_n 0, 1) := by decide +kernel
theorem d91_149 : decode bM91 149 = .ok (.aload_n 0, 1) := by decide +kernel
theorem d91_150 : decode bM91 150 = .ok (.getfield 197, 3) := by decide +kernel
theorem d91_153 : decode bM91 153 = .ok (.bipush 93, 2) := by decide +kernel
theorem d91_155 : decode bM91 155 = .ok (.invokevirtual 182, 3) := by decide +kernel
theorem d91_158 : decode bM91 158 = .ok (.pop, 1) := by decide +kernel
theorem d91_159 : decode bM91 159 = .ok (.aload_n 0, 1) := by decide +kernel
theorem d91_160 : decode bM91 160 = .ok (.dup, 1) := by decide +kernel
theorem d91_161 : decode bM91 161 = .ok (.getfield 197, 3) := by decide +kernel
theorem d91_164 : decode bM91 164 = .ok (.iconst 1, 1) := by decide +kernel
theorem d91_165 : decode bM91 165 = .ok (.iadd, 1) := by decide +kernel
theorem d91_166 : decode bM91 166 = .ok (.putfield 197, 3) := by decide +kernel
theorem d91_169 : decode bM91 169 = .ok (.aload_n 0, 1) := by decide +kernel
theorem d91_170 : decode bM91 170 = .ok (.dup, 1) := by decide +kernel
theorem d91_171 : decode bM91 171 = .ok (.getfield 303, 3) := by decide +kernel
theorem d91_174 : decode bM91 174 = .ok (.iconst 1, 1) := by decide +kernel
theorem d91_175 : decode bM91 175 = .ok (.isub, 1) := by decide +kernel
theorem d91_176 : decode bM91 176 = .ok (.putfield 303, 3) := by decide +kernel
theorem d91_179 : decode bM91 179 = .ok (.aload_n 0, 1) := by decide +kernel
theorem d91_180 : decode bM91 180 = .ok (.iconst 2, 1) := by decide +kernel
theorem d91_181 : decode bM91 181 = .ok (.putfield 290, 3) := by decide +kernel
theorem d91_184 : decode bM91 184 = .ok (.goto (-132), 3) := by decide +kernel
theorem d91_187 : decode bM91 187 = .ok (.return_, 1) := by decide +kernel
theorem d92_0 : decode bM92 0 = .ok (.aload_n 0, 1) := by decide +kernel
theorem d92_1 : decode bM92 1 = .ok (.getfield 109, 3) := by decide +kernel
theorem d92_4 : decode bM92 4 = .ok (.aload_n 0, 1) := by decide +kernel
theorem d92_5 : decode bM92 5 = .ok (.getfield 333, 3) := by decide +kernel
theorem d92_8 : decode bM92 8 = .ok (.iload_n 1, 1) := by decide +kernel
theorem d92_9 : decode bM92 9 = .ok (.iastore, 1) := by decide +kernel
theorem d92_10 : decode bM92 10 = .ok (.aload_n 0, 1) := by decide +kernel
theorem d92_11 : decode bM92 11 = .ok (.dup, 1) := by decide +kernel
theorem d92_12 : decode bM92 12 = .ok (.getfield 333, 3) := by decide +kernel
theorem d92_15 : decode bM92 15 = .ok (.iconst 1, 1) := by decide +kernel
theorem d92_16 : decode bM92 16 = .ok (.iadd, 1) := by decide +kernel
theorem d92_17 : decode bM92 17 = .ok (.putfield 333, 3) := by decide +kernel
theorem d92_20 : decode bM92 20 = .ok (.return_, 1) := by decide +kernel
theorem d93_0 : decode bM93 0 = .ok (.iload_n 1, 1) := by decide +kernel
theorem d93_1 : decode bM93 1 = .ok (.istore_n 3, 1) := by decide +kernel
theorem d93_2 : decode bM93 2 = .ok (.iload_n 3, 1) := by decide +kernel
theorem d93_3 : decode bM93 3 = .ok (.iload_n 2, 1) := by decide +kernel
theorem d93_4 : decode bM93 4 = .ok (.if_icmp .ge 14, 3) := by decide +kernel
theorem d93_7 : decode bM93 7 = .ok (.aload_n 0, 1) := by decide +kernel
theorem d93_8 : decode bM93 8 = .ok (.iload_n 3, 1) := by decide +kernel
theorem d93_9 : decode bM93 9 = .ok (.invokevirtual 336, 3) := by decide +kernel
theorem d93_12 : decode bM93 12 = .ok (.iinc 3 1, 3) := by decide +kernel
theorem d93_15 : decode bM93 15 = .ok (.goto (-13), 3) := by decide +kernel
theorem d93_18 : decode bM93 18 = .ok (.return_, 1) := by decide +kernel
theorem d94_0 : decode bM94 0 = .ok (.aload_n 0, 1) := by decide +kernel
theorem d94_1 : decode bM94 1 = .ok (.aload_n 0, 1) := by decide +kernel
theorem d94_2 : decode bM94 2 = .ok (.iload_n 1, 1) := by decide +kernel
theorem d94_3 : decode bM94 3 = .ok (.invokevirtual 119, 3) := by decide +kernel
theorem d94_6 : decode bM94 6 = .ok (.iconst 2, 1) := by decide +kernel
theorem d94_7 : decode bM94 7 = .ok (.invokevirtual 123, 3) := by decide +kernel
theorem d94_10 : decode bM94 10 = .ok (.aload_n 0, 1) := by decide +kernel
theorem d94_11 : decode bM94 11 = .ok (.aload_n 0, 1) := by decide +kernel
theorem d94_12 : decode bM94 12 = .ok (.iload_n 2, 1) := by decide +kernel
theorem d94_13 : decode bM94 13 = .ok (.invokevirtual 119, 3) := by decide +kernel
theorem d94_16 : decode bM94 16 = .ok (.iconst 2, 1) := by decide +kernel
theorem d94_17 : decode bM94 17 = .ok (.invokevirtual 123, 3) := by decide +kernel
theorem d94_20 : decode bM94 20 = .ok (.if_icmp .ne 7, 3) := by decide +kernel
theorem d94_23 : decode bM94 23 = .ok (.iconst 1, 1) := by decide +kernel
theorem d94_24 : decode bM94 24 = .ok (.goto 4, 3) := by decide +kernel
theorem d94_27 : decode bM94 27 = .ok (.iconst 0, 1) := by decide +kernel
theorem d94_28 : decode bM94 28 = .ok (.ireturn, 1) := by decide +kernel
theorem d95_0 : decode bM95 0 = .ok (.aload_n 0, 1) := by decide +kernel
theorem d95_1 : decode bM95 1 = .ok (.iconst 0, 1) := by decide +kernel
theorem d95_2 : decode bM95 2 = .ok (.putfield 333, 3) := by decide +kernel
theorem d95_5 : decode bM95 5 = .ok (.aload_n 0, 1) := by decide +kernel
theorem d95_6 : decode bM95 6 = .ok (.invokevirtual 115, 3) := by decide +kernel
theorem d95_9 : decode bM95 9 = .ok (.istore_n 3, 1) := by decide +kernel
theorem d95_10 : decode bM95 10 = .ok (.iload_n 2, 1) := by decide +kernel
theorem d95_11 : decode bM95 11 = .ok (.ifCond .ge 36, 3) := by decide +kernel
theorem d95_14 : decode bM95 14 = .ok (.aload_n 0, 1) := by decide +kernel
theorem d95_15 : decode bM95 15 = .ok (.iconst 0, 1) := by decide +kernel
theorem d95_16 : decode bM95 16 = .ok (.iload_n 1, 1) := by decide +kernel
theorem d95_17 : decode bM95 17 = .ok (.ifCond .ne 11, 3) := by decide +kernel
theorem d95_20 : decode bM95 20 = .ok (.iload_n 3, 1) := by decide +kernel
theorem d95_21 : decode bM95 21 = .ok (.ifCond .le 7, 3) := by decide +kernel
theorem d95_24 : decode bM95 24 = .ok (.iconst 1, 1) := by decide +kernel
theorem d95_25 : decode bM95 25 = .ok (.goto 18, 3) := by decide +kernel
theorem d95_28 : decode bM95 28 = .ok (.iload_n 1, 1) := by decide +kernel
theorem d95_29 : decode bM95 29 = .ok (.iconst 1, 1) := by decide +kernel
theorem d95_30 : decode bM95 30 = .ok (.if_icmp .eq 8, 3) := by decide +kernel
theorem d95_33 : decode bM95 33 = .ok (.iload_n 1, 1) := by decide +kernel
theorem d95_34 : decode bM95 34 = .ok (.iconst 2, 1) := by decide +kernel
theorem d95_35 : decode bM95 35 = .ok (.if_icmp .ne 7, 3) := by decide +kernel
theorem d95_38 : decode bM95 38 = .ok (.iload_n 3, 1) := by decide +kernel
theorem d95_39 : decode bM95 39 = .ok (.goto 4, 3) := by decide +kernel
theorem d95_42 : decode bM95 42 = .ok (.iconst 0, 1) := by decide +kernel
theorem d95_43 : decode bM95 43 = .ok (.invokevirtual 339, 3) := by decide +kernel
theorem d95_46 : decode bM95 46 = .ok (.return_, 1) := by decide +kernel
theorem d95_47 : decode bM95 47 = .ok (.iload_n 1, 1) := by decide +kernel
theorem d95_48 : decode bM95 48 = .ok (.iconst 2, 1) := by decide +kernel
theorem d95_49 : decode bM95 49 = .ok (.if_icmp .eq 14, 3) := by decide +kernel
theorem d95_52 : decode bM95 52 = .ok (.iload_n 1, 1) := by decide +kernel
theorem d95_53 : decode bM95 53 = .ok (.iconst 5, 1) := by decide +kernel
theorem d95_54 : decode bM95 54 = .ok (.if_icmp .eq 9, 3) := by decide +kernel
theorem d95_57 : decode bM95 57 = .ok (.iload_n 1, 1) := by decide +kernel
theorem d95_58 : decode bM95 58 = .ok (.bipush 6, 2) := by decide +kernel
theorem d95_60 : decode bM95 60 = .ok (.if_icmp .ne 8, 3) := by decide +kernel
theorem d95_63 : decode bM95 63 = .ok (.aload_n 0, 1) := by decide +kernel
theorem d95_64 : decode bM95 64 = .ok (.iload_n 2, 1) := by decide +kernel
theorem d95_65 : decode bM95 65 = .ok (.invokevirtual 336, 3) := by decide +kernel
theorem d95_68 : decode bM95 68 = .ok (.iload_n 1, 1) := by decide +kernel
theorem d95_69 : decode bM95 69 = .ok (.iconst 1, 1) := by decide +kernel
theorem d95_70 : decode bM95 70 = .ok (.if_icmp .eq 8, 3) := by decide +kernel
theorem d95_73 : decode bM95 73 = .ok (.iload_n 1, 1) := by decide +kernel
theorem d95_74 : decode bM95 74 = .ok (.iconst 2, 1) := by decide +kernel
theorem d95_75 : decode bM95 75 = .ok (.if_icmp .ne 15, 3) := by decide +kernel
theorem d95_78 : decode bM95 78 = .ok (.aload_n 0, 1) := by decide +kernel
theorem d95_79 : decode bM95 79 = .ok (.iload_n 2, 1) := by decide +kernel
theorem d95_80 : decode bM95 80 = .ok (.iconst 1, 1) := by decide +kernel
theorem d95_81 : decode bM95 81 = .ok (.iadd, 1) := by decide +kernel
theorem d95_82 : decode bM95 82 = .ok (.aload_n 0, 1) := by decide +kernel
theorem d95_83 : decode bM95 83 = .ok (.iload_n 2, 1) := by decide +kernel
theorem d95_84 : decode bM95 84 = .ok (.invokevirtual 272, 3) := by decide +kernel
theorem d95_87 : decode bM95 87 = .ok (.invokevirtual 339, 3) := by decide +kernel
theorem d95_90 : decode bM95 90 = .ok (.iload_n 1, 1) := by decide +kernel
theorem d95_91 : decode bM95 91 = .ok (.bipush 9, 2) := by decide +kernel
theorem d95_93 : decode bM95 93 = .ok (.if_icmp .ne 13, 3) := by decide +kernel
theorem d95_96 : decode bM95 96 = .ok (.aload_n 0, 1) := by decide +kernel
theorem d95_97 : decode bM95 97 = .ok (.aload_n 0, 1) := by decide +kernel
theorem d95_98 : decode bM95 98 = .ok (.iload_n 2, 1) := by decide +kernel
theorem d95_99 : decode bM95 99 = .ok (.invokevirtual 272, 3) := by decide +kernel
theorem d95_102 : decode bM95 102 = .ok (.iload_n 3, 1) := by decide +kernel
theorem d95_103 : decode bM95 103 = .ok (.invokevirtual 339, 3) := by decide +kernel
theorem d95_106 : decode bM95 106 = .ok (.iload_n 1, 1) := by decide +kernel
theorem d95_107 : decode bM95 107 = .ok (.iconst 3, 1) := by decide +kernel
theorem d95_108 : decode bM95 108 = .ok (.if_icmp .eq 13, 3) := by decide +kernel
theorem d95_111 : decode bM95 111 = .ok (.iload_n 1, 1) := by decide +kernel
theorem d95_112 : decode bM95 112 = .ok (.iconst 4, 1) := by decide +kernel
theorem d95_113 : decode bM95 113 = .ok (.if_icmp .eq 8, 3) := by decide +kernel
theorem d95_116 : decode bM95 116 = .ok (.iload_n 1, 1) := by decide +kernel
theorem d95_117 : decode bM95 117 = .ok (.iconst 5, 1) := by decide +kernel
theorem d95_118 : decode bM95 118 = .ok (.if_icmp .ne 51, 3) := by decide +kernel
theorem d95_121 : decode bM95 121 = .ok (.aload_n 0, 1) := by decide +kernel
theorem d95_122 : decode bM95 122 = .ok (.aload_n 0, 1) := by decide +kernel
theorem d95_123 : decode bM95 123 = .ok (.iload_n 2, 1) := by decide +kernel
theorem d95_124 : decode bM95 124 = .ok (.invokevirtual 119, 3) := by decide +kernel
theorem d95_127 : decode bM95 127 = .ok (.iconst 2, 1) := by decide +kernel
theorem d95_128 : decode bM95 128 = .ok (.invokevirtual 123, 3) := by decide +kernel
theorem d95_131 : decode bM95 131 = .ok (.istore 4, 2) := by decide +kernel
theorem d95_133 : decode bM95 133 = .ok (.iload 4, 2) := by decide +kernel
theorem d95_135 : decode bM95 135 = .ok (.ifCond .lt 34, 3) := by decide +kernel
theorem d95_138 : decode bM95 138 = .ok (.aload_n 0, 1) := by decide +kernel
theorem d95_139 : decode bM95 139 = .ok (.aload_n 0, 1) := by decide +kernel
theorem d95_140 : decode bM95 140 = .ok (.iload 4, 2) := by decide +kernel
theorem d95_142 : decode bM95 142 = .ok (.invokevirtual 130, 3) := by decide +kernel
theorem d95_145 : decode bM95 145 = .ok (.invokevirtual 336, 3) := by decide +kernel
theorem d95_148 : decode bM95 148 = .ok (.iload_n 1, 1) := by decide +kernel
theorem d95_149 : decode bM95 149 = .ok (.iconst 3, 1) := by decide +kernel
theorem d95_150 : decode bM95 150 = .ok (.if_icmp .ne 7, 3) := by decide +kernel
theorem d95_153 : decode bM95 153 = .ok (.iconst (-1), 1) := by decide +kernel
theorem d95_154 : decode bM95 154 = .ok (.goto 10, 3) := by decide +kernel
theorem d95_157 : decode bM95 157 = .ok (.aload_n 0, 1) := by decide +kernel
theorem d95_158 : decode bM95 158 = .ok (.iload 4, 2) := by decide +kernel
theorem d95_160 : decode bM95 160 = .ok (.iconst 2, 1) := by decide +kernel
theorem d95_161 : decode bM95 161 = .ok (.invokevirtual 123, 3) := by decide +kernel
theorem d95_164 : decode bM95 164 = .ok (.istore 4, 2) := by decide +kernel
theorem d95_166 : decode bM95 166 = .ok (.goto (-33), 3) := by decide +kernel
theorem d95_169 : decode bM95 169 = .ok (.iload_n 2, 1) := by decide +kernel
theorem d95_170 : decode bM95 170 = .ok (.iconst 1, 1) := by decide +kernel
theorem d95_171 : decode bM95 171 = .ok (.iadd, 1) := by decide +kernel
theorem d95_172 : decode bM95 172 = .ok (.istore 4, 2) := by decide +kernel
theorem d95_174 : decode bM95 174 = .ok (.iload 4, 2) := by decide +kernel
theorem d95_176 : decode bM95 176 = .ok (.iload_n 3, 1) := by decide +kernel
theorem d95_177 : decode bM95 177 = .ok (.if_icmp .ge 54, 3) := by decide +kernel
theorem d95_180 : decode bM95 180 = .ok (.iload_n 1, 1) := by decide +kernel
theorem d95_181 : decode bM95 181 = .ok (.ifCond .ne 22, 3) := by decide +kernel
theorem d95_184 : decode bM95 184 = .ok (.aload_n 0, 1) := by decide +kernel
theorem d95_185 : decode bM95 185 = .ok (.aload_n 0, 1) := by decide +kernel
theorem d95_186 : decode bM95 186 = .ok (.iload 4, 2) := by decide +kernel
theorem d95_188 : decode bM95 188 = .ok (.invokevirtual 119, 3) := by decide +kernel
theorem d95_191 : decode bM95 191 = .ok (.iconst 2, 1) := by decide +kernel
theorem d95_192 : decode bM95 192 = .ok (.invokevirtual 123, 3) := by decide +kernel
theorem d95_195 : decode bM95 195 = .ok (.aload_n 0, 1) := by decide +kernel
theorem d95_196 : decode bM95 196 = .ok (.iload_n 2, 1) := by decide +kernel
theorem d95_197 : decode bM95 197 = .ok (.invokevirtual 119, 3) := by decide +kernel
theorem d95_200 : decode bM95 200 = .ok (.if_icmp .eq 19, 3) := by decide +kernel
theorem d95_203 : decode bM95 203 = .ok (.iload_n 1, 1) := by decide +kernel
theorem d95_204 : decode bM95 204 = .ok (.bipush 7, 2) := by decide +kernel
theorem d95_206 : decode bM95 206 = .ok (.if_icmp .ne 19, 3) := by decide +kernel
theorem d95_209 : decode bM95 209 = .ok (.aload_n 0, 1) := by decide +kernel
theorem d95_210 : decode bM95 210 = .ok (.iload 4, 2) := by decide +kernel
theorem d95_212 : decode bM95 212 = .ok (.iload_n 2, 1) := by decide +kernel
theorem d95_213 : decode bM95 213 = .ok (.invokevirtual 342, 3) := by decide +kernel
theorem d95_216 : decode bM95 216 = .ok (.ifCond .eq 9, 3) := by decide +kernel
theorem d95_219 : decode bM95 219 = .ok (.aload_n 0, 1) := by decide +kernel
theorem d95_220 : decode bM95 220 = .ok (.iload 4, 2) := by decide +kernel
theorem d95_222 : decode bM95 222 = .ok (.invokevirtual 336, 3) := by decide +kernel
theorem d95_225 : decode bM95 225 = .ok (.iinc 4 1, 3) := by decide +kernel
theorem d95_228 : decode bM95 228 = .ok (.goto (-54), 3) := by decide +kernel
theorem d95_231 : decode bM95 231 = .ok (.iload_n 2, 1) := by decide +kernel
theorem d95_232 : decode bM95 232 = .ok (.iconst 1, 1) := by decide +kernel
theorem d95_233 : decode bM95 233 = .ok (.isub, 1) := by decide +kernel
theorem d95_234 : decode bM95 234 = .ok (.istore 4, 2) := by decide +kernel
theorem d95_236 : decode bM95 236 = .ok (.iload 4, 2) := by decide +kernel
theorem d95_238 : decode bM95 238 = .ok (.ifCond .lt 47, 3) := by decide +kernel
theorem d95_241 : decode bM95 241 = .ok (.iload_n 1, 1) := by decide +kernel
theorem d95_242 : decode bM95 242 = .ok (.bipush 8, 2) := by decide +kernel
theorem d95_244 : decode bM95 244 = .ok (.if_icmp .ne 13, 3) := by decide +kernel
theorem d95_247 : decode bM95 247 = .ok (.aload_n 0, 1) := by decide +kernel
theorem d95_248 : decode bM95 248 = .ok (.iload 4, 2) := by decide +kernel
theorem d95_250 : decode bM95 250 = .ok (.iload_n 2, 1) := by decide +kernel
theorem d95_251 : decode bM95 251 = .ok (.invokevirtual 342, 3) := by decide +kernel
theorem d95_254 : decode bM95 254 = .ok (.ifCond .ne 19, 3) := by decide +kernel
theorem d95_257 : decode bM95 257 = .ok (.iload_n 1, 1) := by decide +kernel
theorem d95_258 : decode bM95 258 = .ok (.bipush 10, 2) := by decide +kernel
theorem d95_260 : decode bM95 260 = .ok (.if_icmp .ne 19, 3) := by decide +kernel
theorem d95_263 : decode bM95 263 = .ok (.aload_n 0, 1) := by decide +kernel
theorem d95_264 : decode bM95 264 = .ok (.iload 4, 2) := by decide +kernel
theorem d95_266 : decode bM95 266 = .ok (.invokevirtual 272, 3) := by decide +kernel
theorem d95_269 : decode bM95 269 = .ok (.iload_n 2, 1) := by decide +kernel
theorem d95_270 : decode bM95 270 = .ok (.if_icmp .gt 9, 3) := by decide +kernel
theorem d95_273 : decode bM95 273 = .ok (.aload_n 0, 1) := by decide +kernel
theorem d95_274 : decode bM95 274 = .ok (.iload 4, 2) := by decide +kernel
theorem d95_276 : decode bM95 276 = .ok (.invokevirtual 336, 3) := by decide +kernel
theorem d95_279 : decode bM95 279 = .ok (.iinc 4 (-1), 3) := by decide +kernel
theorem d95_282 : decode bM95 282 = .ok (.goto (-46), 3) := by decide +kernel
theorem d95_285 : decode bM95 285 = .ok (.return_, 1) := by decide +kernel
theorem d96_0 : decode bM96 0 = .ok (.aload_n 0, 1) := by decide +kernel
theorem d96_1 : decode bM96 1 = .ok (.iload_n 2, 1) := by decide +kernel
theorem d96_2 : decode bM96 2 = .ok (.invokevirtual 119, 3) := by decide +kernel
theorem d96_5 : decode bM96 5 = .ok (.istore_n 3, 1) := by decide +kernel
theorem d96_6 : decode bM96 6 = .ok (.aload_n 0, 1) := by decide +kernel
theorem d96_7 : decode bM96 7 = .ok (.iload_n 3, 1) := by decide +kernel
theorem d96_8 : decode bM96 8 = .ok (.iconst 1, 1) := by decide +kernel
theorem d96_9 : decode bM96 9 = .ok (.invokevirtual 123, 3) := by decide +kernel
theorem d96_12 : decode bM96 12 = .ok (.istore 4, 2) := by decide +kernel
theorem d96_14 : decode bM96 14 = .ok (.aload_n 0, 1) := by decide +kernel
theorem d96_15 : decode bM96 15 = .ok (.getfield 47, 3) := by decide +kernel
theorem d96_18 : decode bM96 18 = .ok (.iload_n 1, 1) := by decide +kernel
theorem d96_19 : decode bM96 19 = .ok (.iaload, 1) := by decide +kernel
theorem d96_20 : decode bM96 20 = .ok (.ifCond .le 30, 3) := by decide +kernel
theorem d96_23 : decode bM96 23 = .ok (.aload_n 0, 1) := by decide +kernel
theorem d96_24 : decode bM96 24 = .ok (.getfield 47, 3) := by decide +kernel
theorem d96_27 : decode bM96 27 = .ok (.iload_n 1, 1) := by decide +kernel
theorem d96_28 : decode bM96 28 = .ok (.iaload, 1) := by decide +kernel
theorem d96_29 : decode bM96 29 = .ok (.iconst 4, 1) := by decide +kernel
theorem d96_30 : decode bM96 30 = .ok (.if_icmp .eq 14, 3) := by decide +kernel
theorem d96_33 : decode bM96 33 = .ok (.iload 4, 2) := by decide +kernel
theorem d96_35 : decode bM96 35 = .ok (.aload_n 0, 1) := by decide +kernel
theorem d96_36 : decode bM96 36 = .ok (.getfield 47, 3) := by decide +kernel
theorem d96_39 : decode bM96 39 = .ok (.iload_n 1, 1) := by decide +kernel
theorem d96_40 : decode bM96 40 = .ok (.iaload, 1) := by decide +kernel
theorem d96_41 : decode bM96 41 = .ok (.if_icmp .ne 7, 3) := by decide +kernel
theorem d96_44 : decode bM96 44 = .ok (.iconst 1, 1) := by decide +kernel
theorem d96_45 : decode bM96 45 = .ok (.goto 4, 3) := by decide +kernel
theorem d96_48 : decode bM96 48 = .ok (.iconst 0, 1) := by decide +kernel
theorem d96_49 : decode bM96 49 = .ok (.ireturn, 1) := by decide +kernel
theorem d96_50 : decode bM96 50 = .ok (.iload 4, 2) := by decide +kernel
theorem d96_52 : decode bM96 52 = .ok (.iconst 1, 1) := by decide +kernel
theorem d96_53 : decode bM96 53 = .ok (.if_icmp .ne 22, 3) := by decide +kernel
theorem d96_56 : decode bM96 56 = .ok (.aload_n 0, 1) := by decide +kernel
theorem d96_57 : decode bM96 57 = .ok (.iload_n 3, 1) := by decide +kernel
theorem d96_58 : decode bM96 58 = .ok (.iconst 3, 1) := by decide +kernel
theorem d96_59 : decode bM96 59 = .ok (.invokevirtual 123, 3) := by decide +kernel
theorem d96_62 : decode bM96 62 = .ok (.aload_n 0, 1) := by decide +kernel
theorem d96_63 : decode bM96 63 = .ok (.getfield 53, 3) := by decide +kernel
theorem d96_66 : decode bM96 66 = .ok (.iload_n 1, 1) := by decide +kernel
theorem d96_67 : decode bM96 67 = .ok (.iaload, 1) := by decide +kernel
theorem d96_68 : decode bM96 68 = .ok (.if_icmp .ne 7, 3) := by decide +kernel
theorem d96_71 : decode bM96 71 = .ok (.iconst 1, 1) := by decide +kernel
theorem d96_72 : decode bM96 72 = .ok (.goto 4, 3) := by decide +kernel
theorem d96_75 : decode bM96 75 = .ok (.iconst 0, 1) := by decide +kernel
theorem d96_76 : decode bM96 76 = .ok (.istore 5, 2) := by decide +kernel
theorem d96_78 : decode bM96 78 = .ok (.iconst 0, 1) := by decide +kernel
theorem d96_79 : decode bM96 79 = .ok (.istore 6, 2) := by decide +kernel
theorem d96_81 : decode bM96 81 = .ok (.iload 6, 2) := by decide +kernel
theorem d96_83 : decode bM96 83 = .ok (.aload_n 0, 1) := by decide +kernel
theorem d96_84 : decode bM96 84 = .ok (.getfield 53, 3) := by decide +kernel
theorem d96_87 : decode bM96 87 = .ok (.iload_n 1, 1) := by decide +kernel
theorem d96_88 : decode bM96 88 = .ok (.iaload, 1) := by decide +kernel
theorem d96_89 : decode bM96 89 = .ok (.if_icmp .ge 47, 3) := by decide +kernel
theorem d96_92 : decode bM96 92 = .ok (.iload 5, 2) := by decide +kernel
theorem d96_94 : decode bM96 94 = .ok (.ifCond .eq 42, 3) := by decide +kernel
theorem d96_97 : decode bM96 97 = .ok (.aload_n 0, 1) := by decide +kernel
theorem d96_98 : decode bM96 98 = .ok (.iload_n 3, 1) := by decide +kernel
theorem d96_99 : decode bM96 99 = .ok (.bipush 8, 2) := by decide +kernel
theorem d96_101 : decode bM96 101 = .ok (.iload 6, 2) := by decide +kernel
theorem d96_103 : decode bM96 103 = .ok (.iadd, 1) := by decide +kernel
theorem d96_104 : decode bM96 104 = .ok (.invokevirtual 123, 3) := by decide +kernel
theorem d96_107 : decode bM96 107 = .ok (.aload_n 0, 1) := by decide +kernel
theorem d96_108 : decode bM96 108 = .ok (.aload_n 0, 1) := by decide +kernel
theorem d96_109 : decode bM96 109 = .ok (.getfield 50, 3) := by decide +kernel
theorem d96_112 : decode bM96 112 = .ok (.iload_n 1, 1) := by decide +kernel
theorem d96_113 : decode bM96 113 = .ok (.iaload, 1) := by decide +kernel
theorem d96_114 : decode bM96 114 = .ok (.iload 6, 2) := by decide +kernel
theorem d96_116 : decode bM96 116 = .ok (.iadd, 1) := by decide +kernel
theorem d96_117 : decode bM96 117 = .ok (.invokevirtual 140, 3) := by decide +kernel
theorem d96_120 : decode bM96 120 = .ok (.if_icmp .ne 7, 3) := by decide +kernel
theorem d96_123 : decode bM96 123 = .ok (.iconst 1, 1) := by decide +kernel
theorem d96_124 : decode bM96 124 = .ok (.goto 4, 3) := by decide +kernel
theorem d96_127 : decode bM96 127 = .ok (.iconst 0, 1) := by decide +kernel
theorem d96_128 : decode bM96 128 = .ok (.istore 5, 2) := by decide +kernel
theorem d96_130 : decode bM96 130 = .ok (.iinc 6 1, 3) := by decide +kernel
theorem d96_133 : decode bM96 133 = .ok (.goto (-52), 3) := by decide +kernel
theorem d96_136 : decode bM96 136 = .ok (.iload 5, 2) := by decide +kernel
theorem d96_138 : decode bM96 138 = .ok (.ireturn, 1) := by decide +kernel
theorem d97_0 : decode bM97 0 = .ok (.aload_n 0, 1) := by decide +kernel
theorem d97_1 : decode bM97 1 = .ok (.iload_n 2, 1) := by decide +kernel
theorem d97_2 : decode bM97 2 = .ok (.iconst 1, 1) := by decide +kernel
theorem d97_3 : decode bM97 3 = .ok (.invokevirtual 123, 3) := by decide +kernel
theorem d97_6 : decode bM97 6 = .ok (.iconst 1, 1) := by decide +kernel
theorem d97_7 : decode bM97 7 = .ok (.if_icmp .eq 5, 3) := by decide +kernel
theorem d97_10 : decode bM97 10 = .ok (.iconst 0, 1) := by decide +kernel
theorem d97_11 : decode bM97 11 = .ok (.ireturn, 1) := by decide +kernel
theorem d97_12 : decode bM97 12 = .ok (.aload_n 0, 1) := by decide +kernel
theorem d97_13 : decode bM97 13 = .ok (.iload_n 2, 1) := by decide +kernel
theorem d97_14 : decode bM97 14 = .ok (.aload_n 0, 1) := by decide +kernel
theorem d97_15 : decode bM97 15 = .ok (.getfield 68, 3) := by decide +kernel
theorem d97_18 : decode bM97 18 = .ok (.iload_n 1, 1) := by decide +kernel
theorem d97_19 : decode bM97 19 = .ok (.iaload, 1) := by decide +kernel
theorem d97_20 : decode bM97 20 = .ok (.aload_n 0, 1) := by decide +kernel
theorem d97_21 : decode bM97 21 = .ok (.getfield 71, 3) := by decide +kernel
theorem d97_24 : decode bM97 24 = .ok (.iload_n 1, 1) := by decide +kernel
theorem d97_25 : decode bM97 25 = .ok (.iaload, 1) := by decide +kernel
theorem d97_26 : decode bM97 26 = .ok (.invokevirtual 346, 3) := by decide +kernel
theorem d97_29 : decode bM97 29 = .ok (.istore_n 3, 1) := by decide +kernel
theorem d97_30 : decode bM97 30 = .ok (.iload_n 3, 1) := by decide +kernel
theorem d97_31 : decode bM97 31 = .ok (.aload_n 0, 1) := by decide +kernel
theorem d97_32 : decode bM97 32 = .ok (.iload_n 2, 1) := by decide +kernel
theorem d97_33 : decode bM97 33 = .ok (.iconst 5, 1) := by decide +kernel
theorem d97_34 : decode bM97 34 = .ok (.invokevirtual 123, 3) := by decide +kernel
theorem d97_37 : decode bM97 37 = .ok (.if_icmp .eq 13, 3) := by decide +kernel
theorem d97_40 : decode bM97 40 = .ok (.aload_n 0, 1) := by decide +kernel
theorem d97_41 : decode bM97 41 = .ok (.getfield 62, 3) := by decide +kernel
theorem d97_44 : decode bM97 44 = .ok (.iload_n 1, 1) := by decide +kernel
theorem d97_45 : decode bM97 45 = .ok (.iaload, 1) := by decide +kernel
theorem d97_46 : decode bM97 46 = .ok (.iconst 2, 1) := by decide +kernel
theorem d97_47 : decode bM97 47 = .ok (.if_icmp .ne 19, 3) := by decide +kernel
theorem d97_50 : decode bM97 50 = .ok (.iload_n 3, 1) := by decide +kernel
theorem d97_51 : decode bM97 51 = .ok (.aload_n 0, 1) := by decide +kernel
theorem d97_52 : decode bM97 52 = .ok (.iload_n 2, 1) := by decide +kernel
theorem d97_53 : decode bM97 53 = .ok (.iconst 5, 1) := by decide +kernel
theorem d97_54 : decode bM97 54 = .ok (.invokevirtual 123, 3) := by decide +kernel
theorem d97_57 : decode bM97 57 = .ok (.if_icmp .ge 7, 3) := by decide +kernel
theorem d97_60 : decode bM97 60 = .ok (.iconst 1, 1) := by decide +kernel
theorem d97_61 : decode bM97 61 = .ok (.goto 4, 3) := by decide +kernel
theorem d97_64 : decode bM97 64 = .ok (.iconst 0, 1) := by decide +kernel
theorem d97_65 : decode bM97 65 = .ok (.ireturn, 1) := by decide +kernel
theorem d97_66 : decode bM97 66 = .ok (.aload_n 0, 1) := by decide +kernel
theorem d97_67 : decode bM97 67 = .ok (.iload_n 2, 1) := by decide +kernel
theorem d97_68 : decode bM97 68 = .ok (.bipush 51, 2) := by decide +kernel
theorem d97_70 : decode bM97 70 = .ok (.bipush 28, 2) := by decide +kernel
theorem d97_72 : decode bM97 72 = .ok (.iload_n 3, 1) := by decide +kernel
theorem d97_73 : decode bM97 73 = .ok (.imul, 1) := by decide +kernel
theorem d97_74 : decode bM97 74 = .ok (.iadd, 1) := by decide +kernel
theorem d97_75 : decode bM97 75 = .ok (.invokevirtual 123, 3) := by decide +kernel
theorem d97_78 : decode bM97 78 = .ok (.aload_n 0, 1) := by decide +kernel
theorem d97_79 : decode bM97 79 = .ok (.getfield 77, 3) := by decide +kernel
theorem d97_82 : decode bM97 82 = .ok (.iload_n 1, 1) := by decide +kernel
theorem d97_83 : decode bM97 83 = .ok (.iaload, 1) := by decide +kernel
theorem d97_84 : decode bM97 84 = .ok (.if_icmp .ne 7, 3) := by decide +kernel
theorem d97_87 : decode bM97 87 = .ok (.iconst 1, 1) := by decide +kernel
theorem d97_88 : decode bM97 88 = .ok (.goto 4, 3) := by decide +kernel
theorem d97_91 : decode bM97 91 = .ok (.iconst 0, 1) := by decide +kernel
theorem d97_92 : decode bM97 92 = .ok (.istore 4, 2) := by decide +kernel
theorem d97_94 : decode bM97 94 = .ok (.iconst 0, 1) := by decide +kernel
theorem d97_95 : decode bM97 95 = .ok (.istore 5, 2) := by decide +kernel
theorem d97_97 : decode bM97 97 = .ok (.iload 5, 2) := by decide +kernel
theorem d97_99 : decode bM97 99 = .ok (.aload_n 0, 1) := by decide +kernel
theorem d97_100 : decode bM97 100 = .ok (.getfield 77, 3) := by decide +kernel
theorem d97_103 : decode bM97 103 = .ok (.iload_n 1, 1) := by decide +kernel
theorem d97_104 : decode bM97 104 = .ok (.iaload, 1) := by decide +kernel
theorem d97_105 : decode bM97 105 = .ok (.if_icmp .ge 52, 3) := by decide +kernel
theorem d97_108 : decode bM97 108 = .ok (.iload 4, 2) := by decide +kernel
theorem d97_110 : decode bM97 110 = .ok (.ifCond .eq 47, 3) := by decide +kernel
theorem d97_113 : decode bM97 113 = .ok (.aload_n 0, 1) := by decide +kernel
theorem d97_114 : decode bM97 114 = .ok (.iload_n 2, 1) := by decide +kernel
theorem d97_115 : decode bM97 115 = .ok (.bipush 52, 2) := by decide +kernel
theorem d97_117 : decode bM97 117 = .ok (.bipush 28, 2) := by decide +kernel
theorem d97_119 : decode bM97 119 = .ok (.iload_n 3, 1) := by decide +kernel
theorem d97_120 : decode bM97 120 = .ok (.imul, 1) := by decide +kernel
theorem d97_121 : decode bM97 121 = .ok (.iadd, 1) := by decide +kernel
theorem d97_122 : decode bM97 122 = .ok (.iload 5, 2) := by decide +kernel
theorem d97_124 : decode bM97 124 = .ok (.iadd, 1) := by decide +kernel
theorem d97_125 : decode bM97 125 = .ok (.invokevirtual 123, 3) := by decide +kernel
theorem d97_128 : decode bM97 128 = .ok (.aload_n 0, 1) := by decide +kernel
theorem d97_129 : decode bM97 129 = .ok (.aload_n 0, 1) := by decide +kernel
theorem d97_130 : decode bM97 130 = .ok (.getfield 74, 3) := by decide +kernel
theorem d97_133 : decode bM97 133 = .ok (.iload_n 1, 1) := by decide +kernel
theorem d97_134 : decode bM97 134 = .ok (.iaload, 1) := by decide +kernel
theorem d97_135 : decode bM97 135 = .ok (.iload 5, 2) := by decide +kernel
theorem d97_137 : decode bM97 137 = .ok (.iadd, 1) := by decide +kernel
theorem d97_138 : decode bM97 138 = .ok (.invokevirtual 140, 3) := by decide +kernel
theorem d97_141 : decode bM97 141 = .ok (.if_icmp .ne 7, 3) := by decide +kernel
theorem d97_144 : decode bM97 144 = .ok (.iconst 1, 1) := by decide +kernel
theorem d97_145 : decode bM97 145 = .ok (.goto 4, 3) := by decide +kernel
theorem d97_148 : decode bM97 148 = .ok (.iconst 0, 1) := by decide +kernel
theorem d97_149 : decode bM97 149 = .ok (.istore 4, 2) := by decide +kernel
theorem d97_151 : decode bM97 151 = .ok (.iinc 5 1, 3) := by decide +kernel
theorem d97_154 : decode bM97 154 = .ok (.goto (-57), 3) := by decide +kernel
theorem d97_157 : decode bM97 157 = .ok (.iload 4, 2) := by decide +kernel
theorem d97_159 : decode bM97 159 = .ok (.ireturn, 1) := by decide +kernel
theorem d98_0 : decode bM98 0 = .ok (.aload_n 0, 1) := by decide +kernel
theorem d98_1 : decode bM98 1 = .ok (.getfield 62, 3) := by decide +kernel
theorem d98_4 : decode bM98 4 = .ok (.iload_n 1, 1) := by decide +kernel
theorem d98_5 : decode bM98 5 = .ok (.iaload, 1) := by decide +kernel
theorem d98_6 : decode bM98 6 = .ok (.ifCond .ne 21, 3) := by decide +kernel
theorem d98_9 : decode bM98 9 = .ok (.iload_n 3, 1) := by decide +kernel
theorem d98_10 : decode bM98 10 = .ok (.aload_n 0, 1) := by decide +kernel
theorem d98_11 : decode bM98 11 = .ok (.getfield 65, 3) := by decide +kernel
theorem d98_14 : decode bM98 14 = .ok (.iload_n 1, 1) := by decide +kernel
theorem d98_15 : decode bM98 15 = .ok (.iaload, 1) := by decide +kernel
theorem d98_16 : decode bM98 16 = .ok (.if_icmp .ne 7, 3) := by decide +kernel
theorem d98_19 : decode bM98 19 = .ok (.iconst 1, 1) := by decide +kernel
theorem d98_20 : decode bM98 20 = .ok (.goto 74, 3) := by decide +kernel
theorem d98_23 : decode bM98 23 = .ok (.iconst 0, 1) := by decide +kernel
theorem d98_24 : decode bM98 24 = .ok (.goto 70, 3) := by decide +kernel
theorem d98_27 : decode bM98 27 = .ok (.aload_n 0, 1) := by decide +kernel
theorem d98_28 : decode bM98 28 = .ok (.getfield 62, 3) := by decide +kernel
theorem d98_31 : decode bM98 31 = .ok (.iload_n 1, 1) := by decide +kernel
theorem d98_32 : decode bM98 32 = .ok (.iaload, 1) := by decide +kernel
theorem d98_33 : decode bM98 33 = .ok (.iconst 1, 1) := by decide +kernel
theorem d98_34 : decode bM98 34 = .ok (.if_icmp .ne 17, 3) := by decide +kernel
theorem d98_37 : decode bM98 37 = .ok (.iload_n 3, 1) := by decide +kernel
theorem d98_38 : decode bM98 38 = .ok (.iload 4, 2) := by decide +kernel
theorem d98_40 : decode bM98 40 = .ok (.if_icmp .ne 7, 3) := by decide +kernel
theorem d98_43 : decode bM98 43 = .ok (.iconst 1, 1) := by decide +kernel
theorem d98_44 : decode bM98 44 = .ok (.goto 50, 3) := by decide +kernel
theorem d98_47 : decode bM98 47 = .ok (.iconst 0, 1) := by decide +kernel
theorem d98_48 : decode bM98 48 = .ok (.goto 46, 3) := by decide +kernel
theorem d98_51 : decode bM98 51 = .ok (.aload_n 0, 1) := by decide +kernel
theorem d98_52 : decode bM98 52 = .ok (.getfield 62, 3) := by decide +kernel
theorem d98_55 : decode bM98 55 = .ok (.iload_n 1, 1) := by decide +kernel
theorem d98_56 : decode bM98 56 = .ok (.iaload, 1) := by decide +kernel
theorem d98_57 : decode bM98 57 = .ok (.iconst 4, 1) := by decide +kernel
theorem d98_58 : decode bM98 58 = .ok (.if_icmp .ge 16, 3) := by decide +kernel
theorem d98_61 : decode bM98 61 = .ok (.aload_n 0, 1) := by decide +kernel
theorem d98_62 : decode bM98 62 = .ok (.iload_n 1, 1) := by decide +kernel
theorem d98_63 : decode bM98 63 = .ok (.aload_n 0, 1) := by decide +kernel
theorem d98_64 : decode bM98 64 = .ok (.iload_n 2, 1) := by decide +kernel
theorem d98_65 : decode bM98 65 = .ok (.invokevirtual 119, 3) := by decide +kernel
theorem d98_68 : decode bM98 68 = .ok (.invokevirtual 349, 3) := by decide +kernel
theorem d98_71 : decode bM98 71 = .ok (.goto 23, 3) := by decide +kernel
theorem d98_74 : decode bM98 74 = .ok (.aload_n 0, 1) := by decide +kernel
theorem d98_75 : decode bM98 75 = .ok (.getfield 93, 3) := by decide +kernel
theorem d98_78 : decode bM98 78 = .ok (.iload_n 1, 1) := by decide +kernel
theorem d98_79 : decode bM98 79 = .ok (.laload, 1) := by decide +kernel
theorem d98_80 : decode bM98 80 = .ok (.iload_n 2, 1) := by decide +kernel
theorem d98_81 : decode bM98 81 = .ok (.lshr, 1) := by decide +kernel
theorem d98_82 : decode bM98 82 = .ok (.lconst 1, 1) := by decide +kernel
theorem d98_83 : decode bM98 83 = .ok (.land, 1) := by decide +kernel
theorem d98_84 : decode bM98 84 = .ok (.lconst 1, 1) := by decide +kernel
theorem d98_85 : decode bM98 85 = .ok (.lcmp, 1) := by decide +kernel
theorem d98_86 : decode bM98 86 = .ok (.ifCond .ne 7, 3) := by decide +kernel
theorem d98_89 : decode bM98 89 = .ok (.iconst 1, 1) := by decide +kernel
theorem d98_90 : decode bM98 90 = .ok (.goto 4, 3) := by decide +kernel
theorem d98_93 : decode bM98 93 = .ok (.iconst 0, 1) := by decide +kernel
theorem d98_94 : decode bM98 94 = .ok (.istore 5, 2) := by decide +kernel
theorem d98_96 : decode bM98 96 = .ok (.iload 5, 2) := by decide +kernel
theorem d98_98 : decode bM98 98 = .ok (.aload_n 0, 1) := by decide +kernel
theorem d98_99 : decode bM98 99 = .ok (.getfield 86, 3) := by decide +kernel
theorem d98_102 : decode bM98 102 = .ok (.iload_n 1, 1) := by decide +kernel
theorem d98_103 : decode bM98 103 = .ok (.baload, 1) := by decide +kernel
theorem d98_104 : decode bM98 104 = .ok (.if_icmp .eq 7, 3) := by decide +kernel
theorem d98_107 : decode bM98 107 = .ok (.iconst 1, 1) := by decide +kernel
theorem d98_108 : decode bM98 108 = .ok (.goto 4, 3) := by decide +kernel
theorem d98_111 : decode bM98 111 = .ok (.iconst 0, 1) := by decide +kernel
theorem d98_112 : decode bM98 112 = .ok (.ireturn, 1) := by decide +kernel
theorem d99_0 : decode bM99 0 = .ok (.aload_n 0, 1) := by decide +kernel
theorem d99_1 : decode bM99 1 = .ok (.aload_n 0, 1) := by decide +kernel
theorem d99_2 : decode bM99 2 = .ok (.getfield 44, 3) := by decide +kernel
theorem d99_5 : decode bM99 5 = .ok (.iload_n 1, 1) := by decide +kernel
theorem d99_6 : decode bM99 6 = .ok (.iaload, 1) := by decide +kernel
theorem d99_7 : decode bM99 7 = .ok (.iload_n 2, 1) := by decide +kernel
theorem d99_8 : decode bM99 8 = .ok (.invokevirtual 352, 3) := by decide +kernel
theorem d99_11 : decode bM99 11 = .ok (.iconst 0, 1) := by decide +kernel
theorem d99_12 : decode bM99 12 = .ok (.istore_n 3, 1) := by decide +kernel
theorem d99_13 : decode bM99 13 = .ok (.iconst 0, 1) := by decide +kernel
theorem d99_14 : decode bM99 14 = .ok (.istore 4, 2) := by decide +kernel
theorem d99_16 : decode bM99 16 = .ok (.iload 4, 2) := by decide +kernel
theorem d99_18 : decode bM99 18 = .ok (.aload_n 0, 1) := by decide +kernel
theorem d99_19 : decode bM99 19 = .ok (.getfield 333, 3) := by decide +kernel
theorem d99_22 : decode bM99 22 = .ok (.if_icmp .ge 40, 3) := by decide +kernel
theorem d99_25 : decode bM99 25 = .ok (.aload_n 0, 1) := by decide +kernel
theorem d99_26 : decode bM99 26 = .ok (.iload_n 1, 1) := by decide +kernel
theorem d99_27 : decode bM99 27 = .ok (.aload_n 0, 1) := by decide +kernel
theorem d99_28 : decode bM99 28 = .ok (.getfield 109, 3) := by decide +kernel
theorem d99_31 : decode bM99 31 = .ok (.iload 4, 2) := by decide +kernel
theorem d99_33 : decode bM99 33 = .ok (.iaload, 1) := by decide +kernel
theorem d99_34 : decode bM99 34 = .ok (.invokevirtual 355, 3) := by decide +kernel
theorem d99_37 : decode bM99 37 = .ok (.ifCond .eq 19, 3) := by decide +kernel
theorem d99_40 : decode bM99 40 = .ok (.aload_n 0, 1) := by decide +kernel
theorem d99_41 : decode bM99 41 = .ok (.getfield 109, 3) := by decide +kernel
theorem d99_44 : decode bM99 44 = .ok (.iload_n 3, 1) := by decide +kernel
theorem d99_45 : decode bM99 45 = .ok (.aload_n 0, 1) := by decide +kernel
theorem d99_46 : decode bM99 46 = .ok (.getfield 109, 3) := by decide +kernel
theorem d99_49 : decode bM99 49 = .ok (.iload 4, 2) := by decide +kernel
theorem d99_51 : decode bM99 51 = .ok (.iaload, 1) := by decide +kernel
theorem d99_52 : decode bM99 52 = .ok (.iastore, 1) := by decide +kernel
theorem d99_53 : decode bM99 53 = .ok (.iinc 3 1, 3) := by decide +kernel
theorem d99_56 : decode bM99 56 = .ok (.iinc 4 1, 3) := by decide +kernel
theorem d99_59 : decode bM99 59 = .ok (.goto (-43), 3) := by decide +kernel
theorem d99_62 : decode bM99 62 = .ok (.aload_n 0, 1) := by decide +kernel
theorem d99_63 : decode bM99 63 = .ok (.getfield 56, 3) := by decide +kernel
theorem d99_66 : decode bM99 66 = .ok (.iload_n 1, 1) := by decide +kernel
theorem d99_67 : decode bM99 67 = .ok (.iaload, 1) := by decide +kernel
theorem d99_68 : decode bM99 68 = .ok (.istore 4, 2) := by decide +kernel
theorem d99_70 : decode bM99 70 = .ok (.iload 4, 2) := by decide +kernel
theorem d99_72 : decode bM99 72 = .ok (.ifCond .lt 74, 3) := by decide +kernel
theorem d99_75 : decode bM99 75 = .ok (.iconst 0, 1) := by decide +kernel
theorem d99_76 : decode bM99 76 = .ok (.istore 5, 2) := by decide +kernel
theorem d99_78 : decode bM99 78 = .ok (.iconst 0, 1) := by decide +kernel
theorem d99_79 : decode bM99 79 = .ok (.istore 6, 2) := by decide +kernel
theorem d99_81 : decode bM99 81 = .ok (.iload 6, 2) := by decide +kernel
theorem d99_83 : decode bM99 83 = .ok (.iload_n 3, 1) := by decide +kernel
theorem d99_84 : decode bM99 84 = .ok (.if_icmp .ge 47, 3) := by decide +kernel
theorem d99_87 : decode bM99 87 = .ok (.aload_n 0, 1) := by decide +kernel
theorem d99_88 : decode bM99 88 = .ok (.iload 4, 2) := by decide +kernel
theorem d99_90 : decode bM99 90 = .ok (.aload_n 0, 1) := by decide +kernel
theorem d99_91 : decode bM99 91 = .ok (.getfield 109, 3) := by decide +kernel
theorem d99_94 : decode bM99 94 = .ok (.iload 6, 2) := by decide +kernel
theorem d99_96 : decode bM99 96 = .ok (.iaload, 1) := by decide +kernel
theorem d99_97 : decode bM99 97 = .ok (.iload 6, 2) := by decide +kernel
theorem d99_99 : decode bM99 99 = .ok (.iconst 1, 1) := by decide +kernel
theorem d99_100 : decode bM99 100 = .ok (.iadd, 1) := by decide +kernel
theorem d99_101 : decode bM99 101 = .ok (.iload_n 3, 1) := by decide +kernel
theorem d99_102 : decode bM99 102 = .ok (.invokevirtual 358, 3) := by decide +kernel
theorem d99_105 : decode bM99 105 = .ok (.ifCond .eq 20, 3) := by decide +kernel
theorem d99_108 : decode bM99 108 = .ok (.aload_n 0, 1) := by decide +kernel
theorem d99_109 : decode bM99 109 = .ok (.getfield 109, 3) := by decide +kernel
theorem d99_112 : decode bM99 112 = .ok (.iload 5, 2) := by decide +kernel
theorem d99_114 : decode bM99 114 = .ok (.aload_n 0, 1) := by decide +kernel
theorem d99_115 : decode bM99 115 = .ok (.getfield 109, 3) := by decide +kernel
theorem d99_118 : decode bM99 118 = .ok (.iload 6, 2) := by decide +kernel
theorem d99_120 : decode bM99 120 = .ok (.iaload, 1) := by decide +kernel
theorem d99_121 : decode bM99 121 = .ok (.iastore, 1) := by decide +kernel
theorem d99_122 : decode bM99 122 = .ok (.iinc 5 1, 3) := by decide +kernel
theorem d99_125 : decode bM99 125 = .ok (.iinc 6 1, 3) := by decide +kernel
theorem d99_128 : decode bM99 128 = .ok (.goto (-47), 3) := by decide +kernel
theorem d99_131 : decode bM99 131 = .ok (.iload 5, 2) := by decide +kernel
theorem d99_133 : decode bM99 133 = .ok (.istore_n 3, 1) := by decide +kernel
theorem d99_134 : decode bM99 134 = .ok (.aload_n 0, 1) := by decide +kernel
theorem d99_135 : decode bM99 135 = .ok (.getfield 83, 3) := by decide +kernel
theorem d99_138 : decode bM99 138 = .ok (.iload 4, 2) := by decide +kernel
theorem d99_140 : decode bM99 140 = .ok (.iaload, 1) := by decide +kernel
theorem d99_141 : decode bM99 141 = .ok (.istore 4, 2) := by decide +kernel
theorem d99_143 : decode bM99 143 = .ok (.goto (-73), 3) := by decide +kernel
theorem d99_146 : decode bM99 146 = .ok (.lconst 0, 1) := by decide +kernel
theorem d99_147 : decode bM99 147 = .ok (.lstore 4, 2) := by decide +kernel
theorem d99_149 : decode bM99 149 = .ok (.iconst 0, 1) := by decide +kernel
theorem d99_150 : decode bM99 150 = .ok (.istore 6, 2) := by decide +kernel
theorem d99_152 : decode bM99 152 = .ok (.iload 6, 2) := by decide +kernel
theorem d99_154 : decode bM99 154 = .ok (.iload_n 3, 1) := by decide +kernel
theorem d99_155 : decode bM99 155 = .ok (.if_icmp .ge 23, 3) := by decide +kernel
theorem d99_158 : decode bM99 158 = .ok (.lload 4, 2) := by decide +kernel
theorem d99_160 : decode bM99 160 = .ok (.lconst 1, 1) := by decide +kernel
theorem d99_161 : decode bM99 161 = .ok (.aload_n 0, 1) := by decide +kernel
theorem d99_162 : decode bM99 162 = .ok (.getfield 109, 3) := by decide +kernel
theorem d99_165 : decode bM99 165 = .ok (.iload 6, 2) := by decide +kernel
theorem d99_167 : decode bM99 167 = .ok (.iaload, 1) := by decide +kernel
theorem d99_168 : decode bM99 168 = .ok (.lshl, 1) := by decide +kernel
theorem d99_169 : decode bM99 169 = .ok (.lor, 1) := by decide +kernel
theorem d99_170 : decode bM99 170 = .ok (.lstore 4, 2) := by decide +kernel
theorem d99_172 : decode bM99 172 = .ok (.iinc 6 1, 3) := by decide +kernel
theorem d99_175 : decode bM99 175 = .ok (.goto (-23), 3) := by decide +kernel
theorem d99_178 : decode bM99 178 = .ok (.lload 4, 2) := by decide +kernel
theorem d99_180 : decode bM99 180 = .ok (.lreturn, 1) := by decide +kernel
def g_behindStep_218 (st : mT) : Option (mT) := ((g_error (st.1 8) st).bind (fun q2 => (some q2)))
def g_behindStep_180 (x2 : Int32) (st : mT) : Option (mT) := (mm_ix 65 (st.1 43) (fun j7 => mm_lt (mm_G st 44 j7 x2) (fun st6 => (mm_lt (mm_F st6 43 ((st6.1 43) + 1)) (fun st8 => (mm_lt (mm_F st8 45 ((st8.1 45) - 1)) (fun st9 => (mm_lt (mm_F st9 47 4) (fun st10 => (some st10))))))))))
def g_behindStep_166 (x1 : Int32) (x2 : Int32) (w0 : Int32) (st : mT) : Option (mT) := (mm_lt (mm_F st 8 w0) (fun st5 => (if x1 = 93 then (g_behindStep_180 x2 st5) else ((g_string x2 st5).bind (fun q11 => (g_behindStep_180 x2 q11))))))
def g_behindStep_145 (x1 : Int32) (x2 : Int32) (w0 : Int32) (w1 : Int32) (st : mT) : Option (mT) := (mm_ix 65 w1 (fun j4 => mm_lt (mm_G st 32 j4 w0) (fun st3 => (if x1 = 93 then (g_behindStep_166 x1 x2 (st3.1 8) st3) else (g_behindStep_166 x1 x2 ((st3.1 8) + 1) st3)))))
def g_behindStep_118 (x1 : Int32) (x2 : Int32) (st : mT) : Option (mT) := (if x1 = 61 then (g_behindStep_145 x1 x2 5 x2 st) else (if x1 = 126 then (g_behindStep_145 x1 x2 6 x2 st) else (g_behindStep_145 x1 x2 4 x2 st)))
def g_behindStep_72 (x1 : Int32) (x2 : Int32) (st : mT) : Option (mT) := (if x1 = 47 then (mm_lt (mm_F st 8 ((st.1 8) + 1)) (fun st12 => (mm_lt (mm_F st12 47 1) (fun st13 => (some st13))))) else (if x2 < 0 then (g_behindStep_218 st) else (if x1 = 61 then (g_behindStep_118 x1 x2 st) else (if x1 = 126 then (g_behindStep_118 x1 x2 st) else (if x1 = 93 then (g_behindStep_118 x1 x2 st) else (g_behindStep_218 st))))))
def g_behindStep_29 (x1 : Int32) (w0 : Int32) (st : mT) : Option (mT) := (if x1 = 91 then (if 3 ≤ (st.1 46) then (g_behindStep_72 x1 w0 st) else (mm_lt (mm_F st 46 ((st.1 46) + 1)) (fun st14 => (mm_lt (mm_F st14 8 ((st14.1 8) + 1)) (fun st15 => (mm_lt (mm_F st15 47 3) (fun st16 => (some st16)))))))) else (g_behindStep_72 x1 w0 st))
def g_behindStep (st : mT) : Option (mT) := ((g_look (st.1 8) st).bind (fun q1 => (if (q1.2.1 45) ≤ 0 then (g_behindStep_29 q1.1 (-1) q1.2) else (mm_ld (q1.2.2.1 50) 5 (q1.2.1 45) (fun v17 => (g_behindStep_29 q1.1 v17 q1.2))))))
set_option maxRecDepth 100000 in
set_option maxHeartbeats 8000000 in
theorem cm_behindStep (l : Launch) (D : va_G) (dA : Nat → ClassId) (s0 : State) (hE : ms_EV D dA s0) (h0 : hm_T) (r : Nat) (M : Nat → Nat) (hM : mm_ok r M) (z0 : hz_T) (st : mT) (q : mT) (hg : g_behindStep st = some q) : ht_C l D s0 yM88 bM88 3 (Option.none : Option Jvm.ClassFile.FieldType) 3 65 0 0 [.ref r] (fun h z => h = mm_h dA h0 r M st ∧ z = z0) (fun h z vv h1 z1 => vv = none ∧ h1 = mm_h dA h0 r M q ∧ z1 = z0) := by
  refine ht_C.mk hE.1 (by decide) (Nat.le_of_ble_eq_true rfl) [(0, .ref r)] rfl ?_
  intro p e s m below meth c ls h z X hin hpre I hl
  have hx := X.1
  have hb := X.2.1
  have hml := X.2.2.1
  have hown : s.vm.findClass "MarkupStoreModel" = some m.cls := X.2.2.2.1
  have hts := X.2.2.2.2.2.2.1
  have hK := X.2.2.2.2.2.2.2.2.1
  rw [hpre.1, hpre.2] at I
  clear hpre
  have b218 : ∀ (ls : Array Slot) (st : mT) (H : Heap) (locs : List Loc), g_behindStep_218 st = some q → lv_has ls 3 [(0, .ref r)] → hm_I D s0 s (mm_h dA h0 r M st) z0 H locs → W p l e { frames := 3, cells := 0, slots := 0, locals := 65 } s m ([.ref r] : List Value).toArray below meth c H locs 0 0 (MQ below (ht_Q D s0 (fun vv h1 z1 => vv = none ∧ h1 = mm_h dA h0 r M q ∧ z1 = z0)) ([.ref r] : List Value).toArray s 0 0 (fun q => s0.heap.size ≤ q)) (F0 m 218 ls []) := by
    intro ls st H locs hF hl I
    unfold g_behindStep_218 at hF
    refine lv_aload_n hx hb d88_218 rfl (lv_at hl 0 rfl) ?_
    refine lv_aload_n hx hb d88_219 rfl (lv_at hl 0 rfl) ?_
    refine va_get (D := D) (ci := 2) (v := .int (st.1 8)) (C := kR2) (T := kT2) (N := 60) hx hb hts ku2 hown hK (hm_one I.1 mm_hr) 0 rfl rfl 8 (by decide) (hts _ ms_k1324) (fun _ h => h) rfl d88_220 ?_
    obtain ⟨q2, e9, hF⟩ := mm_bd hF
    refine ht_V (C := "MarkupStoreModel") (rest := []) (as := [.int (st.1 8)]) X hl (cm_error l D dA s0 hE h0 r M hM z0 (st.1 8) st q2 e9) (List.forall_mem_cons.mpr ⟨ms_k1520, List.forall_mem_cons.mpr ⟨ms_k1522, List.forall_mem_cons.mpr ⟨ms_p47, List.forall_mem_cons.mpr ⟨ms_k7, List.forall_mem_cons.mpr ⟨ms_k1523, fun _ h => absurd h List.not_mem_nil⟩⟩⟩⟩⟩) ⟨rfl, by decide +kernel, by decide +kernel, (by decide +kernel : (parseMethodDescriptor "(I)V").map (fun d => d.parameters.length) = some 1)⟩ (hm_recv hK I rfl mm_hr) I ⟨rfl, rfl⟩ ⟨⟨Nat.le_of_ble_eq_true rfl, Nat.le_of_ble_eq_true rfl⟩, Nat.le_of_ble_eq_true rfl, Nat.le_of_ble_eq_true rfl⟩ rfl (Nat.le_of_ble_eq_true rfl) d88_223 (fun vv h1 z1 H locs hR I9 => ?_)
    obtain ⟨e1, e2, e3⟩ := hR
    rw [e2, e3] at I9
    clear I e2 e3 e9
    have I := I9
    clear I9
    subst e1
    refine W.eq (g2 := F0 m 226 ls []) rfl ?_
    exact ht_vret X d88_226 I (Nat.le_of_ble_eq_true rfl) (Nat.le_of_ble_eq_true rfl) (mm_finV hF)
  have b180 : ∀ (ls : Array Slot) (x2 : Int32) (st : mT) (H : Heap) (locs : List Loc), g_behindStep_180 x2 st = some q → lv_has ls 3 [(0, .ref r), (2, .int x2)] → hm_I D s0 s (mm_h dA h0 r M st) z0 H locs → W p l e { frames := 3, cells := 0, slots := 0, locals := 65 } s m ([.ref r] : List Value).toArray below meth c H locs 0 0 (MQ below (ht_Q D s0 (fun vv h1 z1 => vv = none ∧ h1 = mm_h dA h0 r M q ∧ z1 = z0)) ([.ref r] : List Value).toArray s 0 0 (fun q => s0.heap.size ≤ q)) (F0 m 180 ls []) := by
    intro ls x2 st H locs hF hl I
    unfold g_behindStep_180 at hF
    refine lv_aload_n hx hb d88_180 rfl (lv_at hl 0 rfl) ?_
    refine va_get (D := D) (ci := 2) (v := .ref (M 44)) (C := kR2) (T := kT2) (N := 60) hx hb hts ku2 hown hK (hm_one I.1 mm_hr) 0 rfl rfl 44 (by decide) (hts _ ms_k1360) (fun _ h => h) rfl d88_181 ?_
    refine lv_aload_n hx hb d88_184 rfl (lv_at hl 0 rfl) ?_
    refine va_get (D := D) (ci := 2) (v := .int (st.1 43)) (C := kR2) (T := kT2) (N := 60) hx hb hts ku2 hown hK (hm_one I.1 mm_hr) 0 rfl rfl 43 (by decide) (hts _ ms_k1359) (fun _ h => h) rfl d88_185 ?_
    refine lv_iload_n hx hb d88_188 rfl (lv_at hl 1 rfl) ?_
    obtain ⟨i9, hF⟩ := mm_ix_some hF
    obtain ⟨st6, e9, hF⟩ := mm_lt_some hF
    refine mm_iast (k := 44) X I hM (by decide) 0 (fun _ => rfl) rfl i9 e9 d88_189 (fun H locs I => ?_)
    clear e9 i9
    refine lv_aload_n hx hb d88_190 rfl (lv_at hl 0 rfl) ?_
    refine lv_dup hx hb d88_191 rfl ?_
    refine va_get (D := D) (ci := 2) (v := .int (st6.1 43)) (C := kR2) (T := kT2) (N := 60) hx hb hts ku2 hown hK (hm_one I.1 mm_hr) 0 rfl rfl 43 (by decide) (hts _ ms_k1359) (fun _ h => h) rfl d88_192 ?_
    refine lv_iconst (v := 1) hx hb d88_195 (by decide) ?_
    refine lv_iadd hx hb d88_196 ?_
    obtain ⟨st8, e9, hF⟩ := mm_lt_some hF
    refine mm_put (k := 43) (ty := .int) X I (by decide) ms_k1359 rfl rfl (by decide +kernel) ⟨rfl, rfl⟩ rfl e9 d88_197 (fun H locs I => ?_)
    clear e9
    refine lv_aload_n hx hb d88_200 rfl (lv_at hl 0 rfl) ?_
    refine lv_dup hx hb d88_201 rfl ?_
    refine va_get (D := D) (ci := 2) (v := .int (st8.1 45)) (C := kR2) (T := kT2) (N := 60) hx hb hts ku2 hown hK (hm_one I.1 mm_hr) 0 rfl rfl 45 (by decide) (hts _ ms_k1361) (fun _ h => h) rfl d88_202 ?_
    refine lv_iconst (v := 1) hx hb d88_205 (by decide) ?_
    refine lv_isub hx hb d88_206 ?_
    obtain ⟨st9, e9, hF⟩ := mm_lt_some hF
    refine mm_put (k := 45) (ty := .int) X I (by decide) ms_k1361 rfl rfl (by decide +kernel) ⟨rfl, rfl⟩ rfl e9 d88_207 (fun H locs I => ?_)
    clear e9
    refine lv_aload_n hx hb d88_210 rfl (lv_at hl 0 rfl) ?_
    refine lv_iconst (v := 4) hx hb d88_211 (by decide) ?_
    obtain ⟨st10, e9, hF⟩ := mm_lt_some hF
    refine mm_put (k := 47) (ty := .int) X I (by decide) ms_k1363 rfl rfl (by decide +kernel) ⟨rfl, rfl⟩ rfl e9 d88_212 (fun H locs I => ?_)
    clear e9
    refine lv_goto hx hb d88_215 rfl ?_
    exact ht_vret X d88_226 I (Nat.le_of_ble_eq_true rfl) (Nat.le_of_ble_eq_true rfl) (mm_finV hF)
  have b166 : ∀ (ls : Array Slot) (x1 : Int32) (x2 : Int32) (w0 : Int32) (st : mT) (H : Heap) (locs : List Loc), g_behindStep_166 x1 x2 w0 st = some q → lv_has ls 3 [(0, .ref r), (1, .int x1), (2, .int x2)] → hm_I D s0 s (mm_h dA h0 r M st) z0 H locs → W p l e { frames := 3, cells := 0, slots := 0, locals := 65 } s m ([.ref r] : List Value).toArray below meth c H locs 0 0 (MQ below (ht_Q D s0 (fun vv h1 z1 => vv = none ∧ h1 = mm_h dA h0 r M q ∧ z1 = z0)) ([.ref r] : List Value).toArray s 0 0 (fun q => s0.heap.size ≤ q)) (F0 m 166 ls [.int w0, .ref r]) := by
    intro ls x1 x2 w0 st H locs hF hl I
    unfold g_behindStep_166 at hF
    obtain ⟨st5, e9, hF⟩ := mm_lt_some hF
    refine mm_put (k := 8) (ty := .int) X I (by decide) ms_k1324 rfl rfl (by decide +kernel) ⟨rfl, rfl⟩ rfl e9 d88_166 (fun H locs I => ?_)
    clear e9
    refine lv_iload_n hx hb d88_169 rfl (lv_at hl 1 rfl) ?_
    refine lv_bipush (v := 93) hx hb d88_170 (by decide) ?_
    refine lv_icmp_eq hx hb d88_172 rfl (fun h9 => ?_) (fun h9 => ?_)
    · have hF := (if_pos h9).symm.trans hF
      exact b180 ls x2 st5 _ _ hF (hl.sub [0, 2] rfl) I
    · have hF := (if_neg h9).symm.trans hF
      refine lv_aload_n hx hb d88_175 rfl (lv_at hl 0 rfl) ?_
      refine lv_iload_n hx hb d88_176 rfl (lv_at hl 2 rfl) ?_
      obtain ⟨q11, e9, hF⟩ := mm_bd hF
      refine ht_V (C := "MarkupStoreModel") (rest := []) (as := [.int x2]) X hl (cm_string l D dA s0 hE h0 r M hM z0 x2 st5 q11 e9) (List.forall_mem_cons.mpr ⟨ms_k1693, List.forall_mem_cons.mpr ⟨ms_k1695, List.forall_mem_cons.mpr ⟨ms_p84, List.forall_mem_cons.mpr ⟨ms_k7, List.forall_mem_cons.mpr ⟨ms_k1696, fun _ h => absurd h List.not_mem_nil⟩⟩⟩⟩⟩) ⟨rfl, by decide +kernel, by decide +kernel, (by decide +kernel : (parseMethodDescriptor "(I)V").map (fun d => d.parameters.length) = some 1)⟩ (hm_recv hK I rfl mm_hr) I ⟨rfl, rfl⟩ ⟨⟨Nat.le_of_ble_eq_true rfl, Nat.le_of_ble_eq_true rfl⟩, Nat.le_of_ble_eq_true rfl, Nat.le_of_ble_eq_true rfl⟩ rfl (Nat.le_of_ble_eq_true rfl) d88_177 (fun vv h1 z1 H locs hR I9 => ?_)
      obtain ⟨e1, e2, e3⟩ := hR
      rw [e2, e3] at I9
      clear I e2 e3 e9
      have I := I9
      clear I9
      subst e1
      refine W.eq (g2 := F0 m 180 ls []) rfl ?_
      exact b180 ls x2 q11 _ _ hF (hl.sub [0, 2] rfl) I
  have b145 : ∀ (ls : Array Slot) (x1 : Int32) (x2 : Int32) (w0 : Int32) (w1 : Int32) (st : mT) (H : Heap) (locs : List Loc), g_behindStep_145 x1 x2 w0 w1 st = some q → lv_has ls 3 [(0, .ref r), (1, .int x1), (2, .int x2)] → hm_I D s0 s (mm_h dA h0 r M st) z0 H locs → W p l e { frames := 3, cells := 0, slots := 0, locals := 65 } s m ([.ref r] : List Value).toArray below meth c H locs 0 0 (MQ below (ht_Q D s0 (fun vv h1 z1 => vv = none ∧ h1 = mm_h dA h0 r M q ∧ z1 = z0)) ([.ref r] : List Value).toArray s 0 0 (fun q => s0.heap.size ≤ q)) (F0 m 145 ls [.int w0, .int w1, .ref (M 32)]) := by
    intro ls x1 x2 w0 w1 st H locs hF hl I
    unfold g_behindStep_145 at hF
    obtain ⟨i9, hF⟩ := mm_ix_some hF
    obtain ⟨st3, e9, hF⟩ := mm_lt_some hF
    refine mm_iast (k := 32) X I hM (by decide) 0 (fun _ => rfl) rfl i9 e9 d88_145 (fun H locs I => ?_)
    clear e9 i9
    refine lv_aload_n hx hb d88_146 rfl (lv_at hl 0 rfl) ?_
    refine lv_iload_n hx hb d88_147 rfl (lv_at hl 1 rfl) ?_
    refine lv_bipush (v := 93) hx hb d88_148 (by decide) ?_
    refine lv_icmp_ne hx hb d88_150 rfl (fun h9 => ?_) (fun h9 => ?_)
    · have hF := (if_neg h9).symm.trans hF
      refine lv_aload_n hx hb d88_160 rfl (lv_at hl 0 rfl) ?_
      refine va_get (D := D) (ci := 2) (v := .int (st3.1 8)) (C := kR2) (T := kT2) (N := 60) hx hb hts ku2 hown hK (hm_one I.1 mm_hr) 0 rfl rfl 8 (by decide) (hts _ ms_k1324) (fun _ h => h) rfl d88_161 ?_
      refine lv_iconst (v := 1) hx hb d88_164 (by decide) ?_
      refine lv_iadd hx hb d88_165 ?_
      exact b166 ls x1 x2 ((st3.1 8) + 1) st3 _ _ hF (hl.sub [0, 1, 2] rfl) I
    · have hF := (if_pos h9).symm.trans hF
      refine lv_aload_n hx hb d88_153 rfl (lv_at hl 0 rfl) ?_
      refine va_get (D := D) (ci := 2) (v := .int (st3.1 8)) (C := kR2) (T := kT2) (N := 60) hx hb hts ku2 hown hK (hm_one I.1 mm_hr) 0 rfl rfl 8 (by decide) (hts _ ms_k1324) (fun _ h => h) rfl d88_154 ?_
      refine lv_goto hx hb d88_157 rfl ?_
      exact b166 ls x1 x2 (st3.1 8) st3 _ _ hF (hl.sub [0, 1, 2] rfl) I
  have b118 : ∀ (ls : Array Slot) (x1 : Int32) (x2 : Int32) (st : mT) (H : Heap) (locs : List Loc), g_behindStep_118 x1 x2 st = some q → lv_has ls 3 [(0, .ref r), (1, .int x1), (2, .int x2)] → hm_I D s0 s (mm_h dA h0 r M st) z0 H locs → W p l e { frames := 3, cells := 0, slots := 0, locals := 65 } s m ([.ref r] : List Value).toArray below meth c H locs 0 0 (MQ below (ht_Q D s0 (fun vv h1 z1 => vv = none ∧ h1 = mm_h dA h0 r M q ∧ z1 = z0)) ([.ref r] : List Value).toArray s 0 0 (fun q => s0.heap.size ≤ q)) (F0 m 118 ls []) := by
    intro ls x1 x2 st H locs hF hl I
    unfold g_behindStep_118 at hF
    refine lv_aload_n hx hb d88_118 rfl (lv_at hl 0 rfl) ?_
    refine va_get (D := D) (ci := 2) (v := .ref (M 32)) (C := kR2) (T := kT2) (N := 60) hx hb hts ku2 hown hK (hm_one I.1 mm_hr) 0 rfl rfl 32 (by decide) (hts _ ms_k1348) (fun _ h => h) rfl d88_119 ?_
    refine lv_iload_n hx hb d88_122 rfl (lv_at hl 2 rfl) ?_
    refine lv_iload_n hx hb d88_123 rfl (lv_at hl 1 rfl) ?_
    refine lv_bipush (v := 61) hx hb d88_124 (by decide) ?_
    refine lv_icmp_ne hx hb d88_126 rfl (fun h9 => ?_) (fun h9 => ?_)
    · have hF := (if_neg h9).symm.trans hF
      refine lv_iload_n hx hb d88_133 rfl (lv_at hl 1 rfl) ?_
      refine lv_bipush (v := 126) hx hb d88_134 (by decide) ?_
      refine lv_icmp_ne hx hb d88_136 rfl (fun h9 => ?_) (fun h9 => ?_)
      · have hF := (if_neg h9).symm.trans hF
        refine lv_iconst (v := 4) hx hb d88_144 (by decide) ?_
        exact b145 ls x1 x2 4 x2 st _ _ hF (hl.sub [0, 1, 2] rfl) I
      · have hF := (if_pos h9).symm.trans hF
        refine lv_bipush (v := 6) hx hb d88_139 (by decide) ?_
        refine lv_goto hx hb d88_141 rfl ?_
        exact b145 ls x1 x2 6 x2 st _ _ hF (hl.sub [0, 1, 2] rfl) I
    · have hF := (if_pos h9).symm.trans hF
      refine lv_iconst (v := 5) hx hb d88_129 (by decide) ?_
      refine lv_goto hx hb d88_130 rfl ?_
      exact b145 ls x1 x2 5 x2 st _ _ hF (hl.sub [0, 1, 2] rfl) I
  have b72 : ∀ (ls : Array Slot) (x1 : Int32) (x2 : Int32) (st : mT) (H : Heap) (locs : List Loc), g_behindStep_72 x1 x2 st = some q → lv_has ls 3 [(0, .ref r), (1, .int x1), (2, .int x2)] → hm_I D s0 s (mm_h dA h0 r M st) z0 H locs → W p l e { frames := 3, cells := 0, slots := 0, locals := 65 } s m ([.ref r] : List Value).toArray below meth c H locs 0 0 (MQ below (ht_Q D s0 (fun vv h1 z1 => vv = none ∧ h1 = mm_h dA h0 r M q ∧ z1 = z0)) ([.ref r] : List Value).toArray s 0 0 (fun q => s0.heap.size ≤ q)) (F0 m 72 ls []) := by
    intro ls x1 x2 st H locs hF hl I
    unfold g_behindStep_72 at hF
    refine lv_iload_n hx hb d88_72 rfl (lv_at hl 1 rfl) ?_
    refine lv_bipush (v := 47) hx hb d88_73 (by decide) ?_
    refine lv_icmp_ne hx hb d88_75 rfl (fun h9 => ?_) (fun h9 => ?_)
    · have hF := (if_neg h9).symm.trans hF
      refine lv_iload_n hx hb d88_96 rfl (lv_at hl 2 rfl) ?_
      refine lv_if_lt hx hb d88_97 rfl (fun h9 => ?_) (fun h9 => ?_)
      · have hF := (if_pos h9).symm.trans hF
        exact b218 ls st _ _ hF (hl.sub [0] rfl) I
      · have hF := (if_neg h9).symm.trans hF
        refine lv_iload_n hx hb d88_100 rfl (lv_at hl 1 rfl) ?_
        refine lv_bipush (v := 61) hx hb d88_101 (by decide) ?_
        refine lv_icmp_eq hx hb d88_103 rfl (fun h9 => ?_) (fun h9 => ?_)
        · have hF := (if_pos h9).symm.trans hF
          exact b118 ls x1 x2 st _ _ hF (hl.sub [0, 1, 2] rfl) I
        · have hF := (if_neg h9).symm.trans hF
          refine lv_iload_n hx hb d88_106 rfl (lv_at hl 1 rfl) ?_
          refine lv_bipush (v := 126) hx hb d88_107 (by decide) ?_
          refine lv_icmp_eq hx hb d88_109 rfl (fun h9 => ?_) (fun h9 => ?_)
          · have hF := (if_pos h9).symm.trans hF
            exact b118 ls x1 x2 st _ _ hF (hl.sub [0, 1, 2] rfl) I
          · have hF := (if_neg h9).symm.trans hF
            refine lv_iload_n hx hb d88_112 rfl (lv_at hl 1 rfl) ?_
            refine lv_bipush (v := 93) hx hb d88_113 (by decide) ?_
            refine lv_icmp_ne hx hb d88_115 rfl (fun h9 => ?_) (fun h9 => ?_)
            · have hF := (if_neg h9).symm.trans hF
              exact b218 ls st _ _ hF (hl.sub [0] rfl) I
            · have hF := (if_pos h9).symm.trans hF
              exact b118 ls x1 x2 st _ _ hF (hl.sub [0, 1, 2] rfl) I
    · have hF := (if_pos h9).symm.trans hF
      refine lv_aload_n hx hb d88_78 rfl (lv_at hl 0 rfl) ?_
      refine lv_dup hx hb d88_79 rfl ?_
      refine va_get (D := D) (ci := 2) (v := .int (st.1 8)) (C := kR2) (T := kT2) (N := 60) hx hb hts ku2 hown hK (hm_one I.1 mm_hr) 0 rfl rfl 8 (by decide) (hts _ ms_k1324) (fun _ h => h) rfl d88_80 ?_
      refine lv_iconst (v := 1) hx hb d88_83 (by decide) ?_
      refine lv_iadd hx hb d88_84 ?_
      obtain ⟨st12, e9, hF⟩ := mm_lt_some hF
      refine mm_put (k := 8) (ty := .int) X I (by decide) ms_k1324 rfl rfl (by decide +kernel) ⟨rfl, rfl⟩ rfl e9 d88_85 (fun H locs I => ?_)
      clear e9
      refine lv_aload_n hx hb d88_88 rfl (lv_at hl 0 rfl) ?_
      refine lv_iconst (v := 1) hx hb d88_89 (by decide) ?_
      obtain ⟨st13, e9, hF⟩ := mm_lt_some hF
      refine mm_put (k := 47) (ty := .int) X I (by decide) ms_k1363 rfl rfl (by decide +kernel) ⟨rfl, rfl⟩ rfl e9 d88_90 (fun H locs I => ?_)
      clear e9
      refine lv_goto hx hb d88_93 rfl ?_
      exact ht_vret X d88_226 I (Nat.le_of_ble_eq_true rfl) (Nat.le_of_ble_eq_true rfl) (mm_finV hF)
  have b29 : ∀ (ls : Array Slot) (x1 : Int32) (w0 : Int32) (st : mT) (H : Heap) (locs : List Loc), g_behindStep_29 x1 w0 st = some q → lv_has ls 3 [(0, .ref r), (1, .int x1)] → hm_I D s0 s (mm_h dA h0 r M st) z0 H locs → W p l e { frames := 3, cells := 0, slots := 0, locals := 65 } s m ([.ref r] : List Value).toArray below meth c H locs 0 0 (MQ below (ht_Q D s0 (fun vv h1 z1 => vv = none ∧ h1 = mm_h dA h0 r M q ∧ z1 = z0)) ([.ref r] : List Value).toArray s 0 0 (fun q => s0.heap.size ≤ q)) (F0 m 29 ls [.int w0]) := by
    intro ls x1 w0 st H locs hF hl I
    unfold g_behindStep_29 at hF
    refine lv_istore_n hx hb d88_29 rfl hl (by decide) rfl (fun ls hl => ?_)
    have hl : lv_has ls 3 [(2, .int w0), (0, .ref r), (1, .int x1)] := hl
    refine lv_iload_n hx hb d88_30 rfl (lv_at hl 2 rfl) ?_
    refine lv_bipush (v := 91) hx hb d88_31 (by decide) ?_
    refine lv_icmp_ne hx hb d88_33 rfl (fun h9 => ?_) (fun h9 => ?_)
    · have hF := (if_neg h9).symm.trans hF
      exact b72 ls x1 w0 st _ _ hF (hl.sub [1, 2, 0] rfl) I
    · have hF := (if_pos h9).symm.trans hF
      refine lv_aload_n hx hb d88_36 rfl (lv_at hl 1 rfl) ?_
      refine va_get (D := D) (ci := 2) (v := .int (st.1 46)) (C := kR2) (T := kT2) (N := 60) hx hb hts ku2 hown hK (hm_one I.1 mm_hr) 0 rfl rfl 46 (by decide) (hts _ ms_k1362) (fun _ h => h) rfl d88_37 ?_
      refine lv_iconst (v := 3) hx hb d88_40 (by decide) ?_
      refine lv_icmp_ge hx hb d88_41 rfl (fun h9 => ?_) (fun h9 => ?_)
      · have hF := (if_pos h9).symm.trans hF
        exact b72 ls x1 w0 st _ _ hF (hl.sub [1, 2, 0] rfl) I
      · have hF := (if_neg h9).symm.trans hF
        refine lv_aload_n hx hb d88_44 rfl (lv_at hl 1 rfl) ?_
        refine lv_dup hx hb d88_45 rfl ?_
        refine va_get (D := D) (ci := 2) (v := .int (st.1 46)) (C := kR2) (T := kT2) (N := 60) hx hb hts ku2 hown hK (hm_one I.1 mm_hr) 0 rfl rfl 46 (by decide) (hts _ ms_k1362) (fun _ h => h) rfl d88_46 ?_
        refine lv_iconst (v := 1) hx hb d88_49 (by decide) ?_
        refine lv_iadd hx hb d88_50 ?_
        obtain ⟨st14, e9, hF⟩ := mm_lt_some hF
        refine mm_put (k := 46) (ty := .int) X I (by decide) ms_k1362 rfl rfl (by decide +kernel) ⟨rfl, rfl⟩ rfl e9 d88_51 (fun H locs I => ?_)
        clear e9
        refine lv_aload_n hx hb d88_54 rfl (lv_at hl 1 rfl) ?_
        refine lv_dup hx hb d88_55 rfl ?_
        refine va_get (D := D) (ci := 2) (v := .int (st14.1 8)) (C := kR2) (T := kT2) (N := 60) hx hb hts ku2 hown hK (hm_one I.1 mm_hr) 0 rfl rfl 8 (by decide) (hts _ ms_k1324) (fun _ h => h) rfl d88_56 ?_
        refine lv_iconst (v := 1) hx hb d88_59 (by decide) ?_
        refine lv_iadd hx hb d88_60 ?_
        obtain ⟨st15, e9, hF⟩ := mm_lt_some hF
        refine mm_put (k := 8) (ty := .int) X I (by decide) ms_k1324 rfl rfl (by decide +kernel) ⟨rfl, rfl⟩ rfl e9 d88_61 (fun H locs I => ?_)
        clear e9
        refine lv_aload_n hx hb d88_64 rfl (lv_at hl 1 rfl) ?_
        refine lv_iconst (v := 3) hx hb d88_65 (by decide) ?_
        obtain ⟨st16, e9, hF⟩ := mm_lt_some hF
        refine mm_put (k := 47) (ty := .int) X I (by decide) ms_k1363 rfl rfl (by decide +kernel) ⟨rfl, rfl⟩ rfl e9 d88_66 (fun H locs I => ?_)
        clear e9
        refine lv_goto hx hb d88_69 rfl ?_
        exact ht_vret X d88_226 I (Nat.le_of_ble_eq_true rfl) (Nat.le_of_ble_eq_true rfl) (mm_finV hF)
  have hF := hg
  unfold g_behindStep at hF
  refine lv_aload_n hx hb d88_0 rfl (lv_at hl 0 rfl) ?_
  refine lv_aload_n hx hb d88_1 rfl (lv_at hl 0 rfl) ?_
  refine va_get (D := D) (ci := 2) (v := .int (st.1 8)) (C := kR2) (T := kT2) (N := 60) hx hb hts ku2 hown hK (hm_one I.1 mm_hr) 0 rfl rfl 8 (by decide) (hts _ ms_k1324) (fun _ h => h) rfl d88_2 ?_
  obtain ⟨q1, e9, hF⟩ := mm_bd hF
  refine ht_V (C := "MarkupStoreModel") (rest := []) (as := [.int (st.1 8)]) X hl (cm_look l D dA s0 hE h0 r M hM z0 (st.1 8) st q1 e9) (List.forall_mem_cons.mpr ⟨ms_k1516, List.forall_mem_cons.mpr ⟨ms_k1518, List.forall_mem_cons.mpr ⟨ms_p46, List.forall_mem_cons.mpr ⟨ms_k7, List.forall_mem_cons.mpr ⟨ms_k1519, fun _ h => absurd h List.not_mem_nil⟩⟩⟩⟩⟩) ⟨rfl, by decide +kernel, by decide +kernel, (by decide +kernel : (parseMethodDescriptor "(I)C").map (fun d => d.parameters.length) = some 1)⟩ (hm_recv hK I rfl mm_hr) I ⟨rfl, rfl⟩ ⟨⟨Nat.le_of_ble_eq_true rfl, Nat.le_of_ble_eq_true rfl⟩, Nat.le_of_ble_eq_true rfl, Nat.le_of_ble_eq_true rfl⟩ rfl (Nat.le_of_ble_eq_true rfl) d88_5 (fun vv h1 z1 H locs hR I9 => ?_)
  obtain ⟨e1, e2, e3⟩ := hR
  rw [e2, e3] at I9
  clear I e2 e3 e9
  have I := I9
  clear I9
  subst e1
  refine W.eq (g2 := F0 m 8 ls [.int q1.1]) rfl ?_
  refine lv_istore_n hx hb d88_8 rfl hl (by decide) rfl (fun ls hl => ?_)
  have hl : lv_has ls 3 [(1, .int q1.1), (0, .ref r)] := hl
  refine lv_aload_n hx hb d88_9 rfl (lv_at hl 1 rfl) ?_
  refine va_get (D := D) (ci := 2) (v := .int (q1.2.1 45)) (C := kR2) (T := kT2) (N := 60) hx hb hts ku2 hown hK (hm_one I.1 mm_hr) 0 rfl rfl 45 (by decide) (hts _ ms_k1361) (fun _ h => h) rfl d88_10 ?_
  refine lv_if_le hx hb d88_13 rfl (fun h9 => ?_) (fun h9 => ?_)
  · have hF := (if_pos h9).symm.trans hF
    refine lv_iconst (v := (-1)) hx hb d88_28 (by decide) ?_
    exact b29 ls q1.1 (-1) q1.2 _ _ hF (hl.sub [1, 0] rfl) I
  · have hF := (if_neg h9).symm.trans hF
    refine lv_aload_n hx hb d88_16 rfl (lv_at hl 1 rfl) ?_
    refine va_get (D := D) (ci := 2) (v := .ref (M 50)) (C := kR2) (T := kT2) (N := 60) hx hb hts ku2 hown hK (hm_one I.1 mm_hr) 0 rfl rfl 50 (by decide) (hts _ ms_k1366) (fun _ h => h) rfl d88_17 ?_
    refine lv_aload_n hx hb d88_20 rfl (lv_at hl 1 rfl) ?_
    refine va_get (D := D) (ci := 2) (v := .int (q1.2.1 45)) (C := kR2) (T := kT2) (N := 60) hx hb hts ku2 hown hK (hm_one I.1 mm_hr) 0 rfl rfl 45 (by decide) (hts _ ms_k1361) (fun _ h => h) rfl d88_21 ?_
    obtain ⟨v17, i9, e9, hF⟩ := mm_ld_some hF
    refine va_iald hx hb hK (hm_one I.1 (mm_a50 hM)) 0 0 rfl rfl i9 d88_24 ?_
    refine ms_top (y := v17) e9 ?_
    clear e9 i9
    refine lv_goto hx hb d88_25 rfl ?_
    exact b29 ls q1.1 v17 q1.2 _ _ hF (hl.sub [1, 0] rfl) I

def g_attributePredicate_89 (x1 : Int32) (x3 : Int32) (w0 : Int32) (w1 : Int32) (st : mT) : Option (mT) := (mm_ix 65 w1 (fun j9 => mm_lt (mm_G st 32 j9 w0) (fun st8 => (if x3 = 0 then (some st8) else (mm_lt (mm_F st8 8 ((st8.1 8) + 1)) (fun st10 => ((g_string x1 st10).bind (fun q11 => (some q11)))))))))
def g_attributePredicate_74 (x1 : Int32) (w0 : Int32) (st : mT) : Option (mT) := (if w0 = 0 then (g_attributePredicate_89 x1 w0 2 x1 st) else (g_attributePredicate_89 x1 w0 3 x1 st))
def g_attributePredicate_25 (x1 : Int32) (x2 : Int32) (st : mT) : Option (mT) := (mm_ix 65 x1 (fun j3 => mm_lt (mm_G st 34 j3 ((st.1 8) + 1)) (fun st2 => (mm_ix 65 x1 (fun j5 => mm_lt (mm_G st2 35 j5 x2) (fun st4 => (mm_lt (mm_F st4 8 (((st4.1 8) + 1) + x2)) (fun st6 => ((g_look (st6.1 8) st6).bind (fun q7 => (if q7.1 = 61 then (g_attributePredicate_74 x1 1 q7.2) else (g_attributePredicate_74 x1 0 q7.2))))))))))))
def g_attributePredicate (y1 : Int32) (st : mT) : Option (mT) := ((g_letters ((st.1 8) + 1) st).bind (fun q1 => (if q1.1 = 0 then ((g_error ((q1.2.1 8) + 1) q1.2).bind (fun q12 => (g_attributePredicate_25 y1 q1.1 q12))) else (g_attributePredicate_25 y1 q1.1 q1.2))))
set_option maxRecDepth 100000 in
set_option maxHeartbeats 8000000 in
theorem cm_attributePredicate (l : Launch) (D : va_G) (dA : Nat → ClassId) (s0 : State) (hE : ms_EV D dA s0) (h0 : hm_T) (r : Nat) (M : Nat → Nat) (hM : mm_ok r M) (z0 : hz_T) (y1 : Int32) (st : mT) (q : mT) (hg : g_attributePredicate y1 st = some q) : ht_C l D s0 yM89 bM89 4 (Option.none : Option Jvm.ClassFile.FieldType) 3 65 0 0 [.ref r, .int y1] (fun h z => h = mm_h dA h0 r M st ∧ z = z0) (fun h z vv h1 z1 => vv = none ∧ h1 = mm_h dA h0 r M q ∧ z1 = z0) := by
  refine ht_C.mk hE.1 (by decide) (Nat.le_of_ble_eq_true rfl) [(0, .ref r), (1, .int y1)] rfl ?_
  intro p e s m below meth c ls h z X hin hpre I hl
  have hx := X.1
  have hb := X.2.1
  have hml := X.2.2.1
  have hown : s.vm.findClass "MarkupStoreModel" = some m.cls := X.2.2.2.1
  have hts := X.2.2.2.2.2.2.1
  have hK := X.2.2.2.2.2.2.2.2.1
  rw [hpre.1, hpre.2] at I
  clear hpre
  have b89 : ∀ (ls : Array Slot) (x1 : Int32) (x3 : Int32) (w0 : Int32) (w1 : Int32) (st : mT) (H : Heap) (locs : List Loc), g_attributePredicate_89 x1 x3 w0 w1 st = some q → lv_has ls 4 [(0, .ref r), (1, .int x1), (3, .int x3)] → hm_I D s0 s (mm_h dA h0 r M st) z0 H locs → W p l e { frames := 3, cells := 0, slots := 0, locals := 65 } s m ([.ref r, .int y1] : List Value).toArray below meth c H locs 0 0 (MQ below (ht_Q D s0 (fun vv h1 z1 => vv = none ∧ h1 = mm_h dA h0 r M q ∧ z1 = z0)) ([.ref r, .int y1] : List Value).toArray s 0 0 (fun q => s0.heap.size ≤ q)) (F0 m 89 ls [.int w0, .int w1, .ref (M 32)]) := by
    intro ls x1 x3 w0 w1 st H locs hF hl I
    unfold g_attributePredicate_89 at hF
    obtain ⟨i9, hF⟩ := mm_ix_some hF
    obtain ⟨st8, e9, hF⟩ := mm_lt_some hF
    refine mm_iast (k := 32) X I hM (by decide) 0 (fun _ => rfl) rfl i9 e9 d89_89 (fun H locs I => ?_)
    clear e9 i9
    refine lv_iload_n hx hb d89_90 rfl (lv_at hl 2 rfl) ?_
    refine lv_if_eq hx hb d89_91 rfl (fun h9 => ?_) (fun h9 => ?_)
    · have hF := (if_pos h9).symm.trans hF
      exact ht_vret X d89_109 I (Nat.le_of_ble_eq_true rfl) (Nat.le_of_ble_eq_true rfl) (mm_finV hF)
    · have hF := (if_neg h9).symm.trans hF
      refine lv_aload_n hx hb d89_94 rfl (lv_at hl 0 rfl) ?_
      refine lv_dup hx hb d89_95 rfl ?_
      refine va_get (D := D) (ci := 2) (v := .int (st8.1 8)) (C := kR2) (T := kT2) (N := 60) hx hb hts ku2 hown hK (hm_one I.1 mm_hr) 0 rfl rfl 8 (by decide) (hts _ ms_k1324) (fun _ h => h) rfl d89_96 ?_
      refine lv_iconst (v := 1) hx hb d89_99 (by decide) ?_
      refine lv_iadd hx hb d89_100 ?_
      obtain ⟨st10, e9, hF⟩ := mm_lt_some hF
      refine mm_put (k := 8) (ty := .int) X I (by decide) ms_k1324 rfl rfl (by decide +kernel) ⟨rfl, rfl⟩ rfl e9 d89_101 (fun H locs I => ?_)
      clear e9
      refine lv_aload_n hx hb d89_104 rfl (lv_at hl 0 rfl) ?_
      refine lv_iload_n hx hb d89_105 rfl (lv_at hl 1 rfl) ?_
      obtain ⟨q11, e9, hF⟩ := mm_bd hF
      refine ht_V (C := "MarkupStoreModel") (rest := []) (as := [.int x1]) X hl (cm_string l D dA s0 hE h0 r M hM z0 x1 st10 q11 e9) (List.forall_mem_cons.mpr ⟨ms_k1693, List.forall_mem_cons.mpr ⟨ms_k1695, List.forall_mem_cons.mpr ⟨ms_p84, List.forall_mem_cons.mpr ⟨ms_k7, List.forall_mem_cons.mpr ⟨ms_k1696, fun _ h => absurd h List.not_mem_nil⟩⟩⟩⟩⟩) ⟨rfl, by decide +kernel, by decide +kernel, (by decide +kernel : (parseMethodDescriptor "(I)V").map (fun d => d.parameters.length) = some 1)⟩ (hm_recv hK I rfl mm_hr) I ⟨rfl, rfl⟩ ⟨⟨Nat.le_of_ble_eq_true rfl, Nat.le_of_ble_eq_true rfl⟩, Nat.le_of_ble_eq_true rfl, Nat.le_of_ble_eq_true rfl⟩ rfl (Nat.le_of_ble_eq_true rfl) d89_106 (fun vv h1 z1 H locs hR I9 => ?_)
      obtain ⟨e1, e2, e3⟩ := hR
      rw [e2, e3] at I9
      clear I e2 e3 e9
      have I := I9
      clear I9
      subst e1
      refine W.eq (g2 := F0 m 109 ls []) rfl ?_
      exact ht_vret X d89_109 I (Nat.le_of_ble_eq_true rfl) (Nat.le_of_ble_eq_true rfl) (mm_finV hF)
  have b74 : ∀ (ls : Array Slot) (x1 : Int32) (w0 : Int32) (st : mT) (H : Heap) (locs : List Loc), g_attributePredicate_74 x1 w0 st = some q → lv_has ls 4 [(0, .ref r), (1, .int x1)] → hm_I D s0 s (mm_h dA h0 r M st) z0 H locs → W p l e { frames := 3, cells := 0, slots := 0, locals := 65 } s m ([.ref r, .int y1] : List Value).toArray below meth c H locs 0 0 (MQ below (ht_Q D s0 (fun vv h1 z1 => vv = none ∧ h1 = mm_h dA h0 r M q ∧ z1 = z0)) ([.ref r, .int y1] : List Value).toArray s 0 0 (fun q => s0.heap.size ≤ q)) (F0 m 74 ls [.int w0]) := by
    intro ls x1 w0 st H locs hF hl I
    unfold g_attributePredicate_74 at hF
    refine lv_istore_n hx hb d89_74 rfl hl (by decide) rfl (fun ls hl => ?_)
    have hl : lv_has ls 4 [(3, .int w0), (0, .ref r), (1, .int x1)] := hl
    refine lv_aload_n hx hb d89_75 rfl (lv_at hl 1 rfl) ?_
    refine va_get (D := D) (ci := 2) (v := .ref (M 32)) (C := kR2) (T := kT2) (N := 60) hx hb hts ku2 hown hK (hm_one I.1 mm_hr) 0 rfl rfl 32 (by decide) (hts _ ms_k1348) (fun _ h => h) rfl d89_76 ?_
    refine lv_iload_n hx hb d89_79 rfl (lv_at hl 2 rfl) ?_
    refine lv_iload_n hx hb d89_80 rfl (lv_at hl 0 rfl) ?_
    refine lv_if_eq hx hb d89_81 rfl (fun h9 => ?_) (fun h9 => ?_)
    · have hF := (if_pos h9).symm.trans hF
      refine lv_iconst (v := 2) hx hb d89_88 (by decide) ?_
      exact b89 ls x1 w0 2 x1 st _ _ hF (hl.sub [1, 2, 0] rfl) I
    · have hF := (if_neg h9).symm.trans hF
      refine lv_iconst (v := 3) hx hb d89_84 (by decide) ?_
      refine lv_goto hx hb d89_85 rfl ?_
      exact b89 ls x1 w0 3 x1 st _ _ hF (hl.sub [1, 2, 0] rfl) I
  have b25 : ∀ (ls : Array Slot) (x1 : Int32) (x2 : Int32) (st : mT) (H : Heap) (locs : List Loc), g_attributePredicate_25 x1 x2 st = some q → lv_has ls 4 [(0, .ref r), (1, .int x1), (2, .int x2)] → hm_I D s0 s (mm_h dA h0 r M st) z0 H locs → W p l e { frames := 3, cells := 0, slots := 0, locals := 65 } s m ([.ref r, .int y1] : List Value).toArray below meth c H locs 0 0 (MQ below (ht_Q D s0 (fun vv h1 z1 => vv = none ∧ h1 = mm_h dA h0 r M q ∧ z1 = z0)) ([.ref r, .int y1] : List Value).toArray s 0 0 (fun q => s0.heap.size ≤ q)) (F0 m 25 ls []) := by
    intro ls x1 x2 st H locs hF hl I
    unfold g_attributePredicate_25 at hF
    refine lv_aload_n hx hb d89_25 rfl (lv_at hl 0 rfl) ?_
    refine va_get (D := D) (ci := 2) (v := .ref (M 34)) (C := kR2) (T := kT2) (N := 60) hx hb hts ku2 hown hK (hm_one I.1 mm_hr) 0 rfl rfl 34 (by decide) (hts _ ms_k1350) (fun _ h => h) rfl d89_26 ?_
    refine lv_iload_n hx hb d89_29 rfl (lv_at hl 1 rfl) ?_
    refine lv_aload_n hx hb d89_30 rfl (lv_at hl 0 rfl) ?_
    refine va_get (D := D) (ci := 2) (v := .int (st.1 8)) (C := kR2) (T := kT2) (N := 60) hx hb hts ku2 hown hK (hm_one I.1 mm_hr) 0 rfl rfl 8 (by decide) (hts _ ms_k1324) (fun _ h => h) rfl d89_31 ?_
    refine lv_iconst (v := 1) hx hb d89_34 (by decide) ?_
    refine lv_iadd hx hb d89_35 ?_
    obtain ⟨i9, hF⟩ := mm_ix_some hF
    obtain ⟨st2, e9, hF⟩ := mm_lt_some hF
    refine mm_iast (k := 34) X I hM (by decide) 0 (fun _ => rfl) rfl i9 e9 d89_36 (fun H locs I => ?_)
    clear e9 i9
    refine lv_aload_n hx hb d89_37 rfl (lv_at hl 0 rfl) ?_
    refine va_get (D := D) (ci := 2) (v := .ref (M 35)) (C := kR2) (T := kT2) (N := 60) hx hb hts ku2 hown hK (hm_one I.1 mm_hr) 0 rfl rfl 35 (by decide) (hts _ ms_k1351) (fun _ h => h) rfl d89_38 ?_
    refine lv_iload_n hx hb d89_41 rfl (lv_at hl 1 rfl) ?_
    refine lv_iload_n hx hb d89_42 rfl (lv_at hl 2 rfl) ?_
    obtain ⟨i9, hF⟩ := mm_ix_some hF
    obtain ⟨st4, e9, hF⟩ := mm_lt_some hF
    refine mm_iast (k := 35) X I hM (by decide) 0 (fun _ => rfl) rfl i9 e9 d89_43 (fun H locs I => ?_)
    clear e9 i9
    refine lv_aload_n hx hb d89_44 rfl (lv_at hl 0 rfl) ?_
    refine lv_aload_n hx hb d89_45 rfl (lv_at hl 0 rfl) ?_
    refine va_get (D := D) (ci := 2) (v := .int (st4.1 8)) (C := kR2) (T := kT2) (N := 60) hx hb hts ku2 hown hK (hm_one I.1 mm_hr) 0 rfl rfl 8 (by decide) (hts _ ms_k1324) (fun _ h => h) rfl d89_46 ?_
    refine lv_iconst (v := 1) hx hb d89_49 (by decide) ?_
    refine lv_iadd hx hb d89_50 ?_
    refine lv_iload_n hx hb d89_51 rfl (lv_at hl 2 rfl) ?_
    refine lv_iadd hx hb d89_52 ?_
    obtain ⟨st6, e9, hF⟩ := mm_lt_some hF
    refine mm_put (k := 8) (ty := .int) X I (by decide) ms_k1324 rfl rfl (by decide +kernel) ⟨rfl, rfl⟩ rfl e9 d89_53 (fun H locs I => ?_)
    clear e9
    refine lv_aload_n hx hb d89_56 rfl (lv_at hl 0 rfl) ?_
    refine lv_aload_n hx hb d89_57 rfl (lv_at hl 0 rfl) ?_
    refine va_get (D := D) (ci := 2) (v := .int (st6.1 8)) (C := kR2) (T := kT2) (N := 60) hx hb hts ku2 hown hK (hm_one I.1 mm_hr) 0 rfl rfl 8 (by decide) (hts _ ms_k1324) (fun _ h => h) rfl d89_58 ?_
    obtain ⟨q7, e9, hF⟩ := mm_bd hF
    refine ht_V (C := "MarkupStoreModel") (rest := []) (as := [.int (st6.1 8)]) X hl (cm_look l D dA s0 hE h0 r M hM z0 (st6.1 8) st6 q7 e9) (List.forall_mem_cons.mpr ⟨ms_k1516, List.forall_mem_cons.mpr ⟨ms_k1518, List.forall_mem_cons.mpr ⟨ms_p46, List.forall_mem_cons.mpr ⟨ms_k7, List.forall_mem_cons.mpr ⟨ms_k1519, fun _ h => absurd h List.not_mem_nil⟩⟩⟩⟩⟩) ⟨rfl, by decide +kernel, by decide +kernel, (by decide +kernel : (parseMethodDescriptor "(I)C").map (fun d => d.parameters.length) = some 1)⟩ (hm_recv hK I rfl mm_hr) I ⟨rfl, rfl⟩ ⟨⟨Nat.le_of_ble_eq_true rfl, Nat.le_of_ble_eq_true rfl⟩, Nat.le_of_ble_eq_true rfl, Nat.le_of_ble_eq_true rfl⟩ rfl (Nat.le_of_ble_eq_true rfl) d89_61 (fun vv h1 z1 H locs hR I9 => ?_)
    obtain ⟨e1, e2, e3⟩ := hR
    rw [e2, e3] at I9
    clear I e2 e3 e9
    have I := I9
    clear I9
    subst e1
    refine W.eq (g2 := F0 m 64 ls [.int q7.1]) rfl ?_
    refine lv_bipush (v := 61) hx hb d89_64 (by decide) ?_
    refine lv_icmp_ne hx hb d89_66 rfl (fun h9 => ?_) (fun h9 => ?_)
    · have hF := (if_neg h9).symm.trans hF
      refine lv_iconst (v := 0) hx hb d89_73 (by decide) ?_
      exact b74 ls x1 0 q7.2 _ _ hF (hl.sub [0, 1] rfl) I
    · have hF := (if_pos h9).symm.trans hF
      refine lv_iconst (v := 1) hx hb d89_69 (by decide) ?_
      refine lv_goto hx hb d89_70 rfl ?_
      exact b74 ls x1 1 q7.2 _ _ hF (hl.sub [0, 1] rfl) I
  have hF := hg
  unfold g_attributePredicate at hF
  refine lv_aload_n hx hb d89_0 rfl (lv_at hl 0 rfl) ?_
  refine lv_aload_n hx hb d89_1 rfl (lv_at hl 0 rfl) ?_
  refine va_get (D := D) (ci := 2) (v := .int (st.1 8)) (C := kR2) (T := kT2) (N := 60) hx hb hts ku2 hown hK (hm_one I.1 mm_hr) 0 rfl rfl 8 (by decide) (hts _ ms_k1324) (fun _ h => h) rfl d89_2 ?_
  refine lv_iconst (v := 1) hx hb d89_5 (by decide) ?_
  refine lv_iadd hx hb d89_6 ?_
  obtain ⟨q1, e9, hF⟩ := mm_bd hF
  refine ht_V (C := "MarkupStoreModel") (rest := []) (as := [.int ((st.1 8) + 1)]) X hl (cm_letters l D dA s0 hE h0 r M hM z0 ((st.1 8) + 1) st q1 e9) (List.forall_mem_cons.mpr ⟨ms_k1539, List.forall_mem_cons.mpr ⟨ms_k1541, List.forall_mem_cons.mpr ⟨ms_p51, List.forall_mem_cons.mpr ⟨ms_k7, List.forall_mem_cons.mpr ⟨ms_k1542, fun _ h => absurd h List.not_mem_nil⟩⟩⟩⟩⟩) ⟨rfl, by decide +kernel, by decide +kernel, (by decide +kernel : (parseMethodDescriptor "(I)I").map (fun d => d.parameters.length) = some 1)⟩ (hm_recv hK I rfl mm_hr) I ⟨rfl, rfl⟩ ⟨⟨Nat.le_of_ble_eq_true rfl, Nat.le_of_ble_eq_true rfl⟩, Nat.le_of_ble_eq_true rfl, Nat.le_of_ble_eq_true rfl⟩ rfl (Nat.le_of_ble_eq_true rfl) d89_7 (fun vv h1 z1 H locs hR I9 => ?_)
  obtain ⟨e1, e2, e3⟩ := hR
  rw [e2, e3] at I9
  clear I e2 e3 e9
  have I := I9
  clear I9
  subst e1
  refine W.eq (g2 := F0 m 10 ls [.int q1.1]) rfl ?_
  refine lv_istore_n hx hb d89_10 rfl hl (by decide) rfl (fun ls hl => ?_)
  have hl : lv_has ls 4 [(2, .int q1.1), (0, .ref r), (1, .int y1)] := hl
  refine lv_iload_n hx hb d89_11 rfl (lv_at hl 0 rfl) ?_
  refine lv_if_ne hx hb d89_12 rfl (fun h9 => ?_) (fun h9 => ?_)
  · have hF := (if_neg h9).symm.trans hF
    exact b25 ls y1 q1.1 q1.2 _ _ hF (hl.sub [1, 2, 0] rfl) I
  · have hF := (if_pos h9).symm.trans hF
    refine lv_aload_n hx hb d89_15 rfl (lv_at hl 1 rfl) ?_
    refine lv_aload_n hx hb d89_16 rfl (lv_at hl 1 rfl) ?_
    refine va_get (D := D) (ci := 2) (v := .int (q1.2.1 8)) (C := kR2) (T := kT2) (N := 60) hx hb hts ku2 hown hK (hm_one I.1 mm_hr) 0 rfl rfl 8 (by decide) (hts _ ms_k1324) (fun _ h => h) rfl d89_17 ?_
    refine lv_iconst (v := 1) hx hb d89_20 (by decide) ?_
    refine lv_iadd hx hb d89_21 ?_
    obtain ⟨q12, e9, hF⟩ := mm_bd hF
    refine ht_V (C := "MarkupStoreModel") (rest := []) (as := [.int ((q1.2.1 8) + 1)]) X hl (cm_error l D dA s0 hE h0 r M hM z0 ((q1.2.1 8) + 1) q1.2 q12 e9) (List.forall_mem_cons.mpr ⟨ms_k1520, List.forall_mem_cons.mpr ⟨ms_k1522, List.forall_mem_cons.mpr ⟨ms_p47, List.forall_mem_cons.mpr ⟨ms_k7, List.forall_mem_cons.mpr ⟨ms_k1523, fun _ h => absurd h List.not_mem_nil⟩⟩⟩⟩⟩) ⟨rfl, by decide +kernel, by decide +kernel, (by decide +kernel : (parseMethodDescriptor "(I)V").map (fun d => d.parameters.length) = some 1)⟩ (hm_recv hK I rfl mm_hr) I ⟨rfl, rfl⟩ ⟨⟨Nat.le_of_ble_eq_true rfl, Nat.le_of_ble_eq_true rfl⟩, Nat.le_of_ble_eq_true rfl, Nat.le_of_ble_eq_true rfl⟩ rfl (Nat.le_of_ble_eq_true rfl) d89_22 (fun vv h1 z1 H locs hR I9 => ?_)
    obtain ⟨e1, e2, e3⟩ := hR
    rw [e2, e3] at I9
    clear I e2 e3 e9
    have I := I9
    clear I9
    subst e1
    refine W.eq (g2 := F0 m 25 ls []) rfl ?_
    exact b25 ls y1 q1.1 q12 _ _ hF (hl.sub [1, 2, 0] rfl) I

def g_beginPredicate_224 (w0 : Int32) (w1 : Int32) (st : mT) : Option (mT) := (mm_lt (mm_F st 8 (w1 + w0)) (fun st32 => (some st32)))
def g_beginPredicate_209 (x3 : Int32) (w0 : Int32) (w1 : Int32) (st : mT) : Option (mT) := (mm_ix 65 w1 (fun j31 => mm_lt (mm_G st 33 j31 w0) (fun st30 => (if x3 = 0 then (g_beginPredicate_224 1 (st30.1 8) st30) else (g_beginPredicate_224 2 (st30.1 8) st30)))))
def g_beginPredicate_116 (k84 : Int32 → mT → Option (mT)) (x1 : Int32) (w0 : Int32) (w1 : Int32) (st : mT) : Option (mT) := (mm_ix 65 w1 (fun j36 => mm_lt (mm_G st 40 j36 (vp_nar .boolean w0)) (fun st35 => (mm_lt (mm_F st35 8 ((st35.1 8) + 1)) (fun st37 => (k84 x1 st37))))))
def g_beginPredicate_84 : Nat → Int32 → mT → Option (mT)
  | 0, _, _ => none
  | n9 + 1, x1, st => ((g_look (st.1 8) st).bind (fun q12 => (if q12.1 = 33 then (mm_ld (q12.2.2.1 40) 65 x1 (fun v34 => (if v34 = 0 then (g_beginPredicate_116 (g_beginPredicate_84 n9) x1 1 x1 q12.2) else (g_beginPredicate_116 (g_beginPredicate_84 n9) x1 0 x1 q12.2)))) else ((g_look (q12.2.1 8) q12.2).bind (fun q13 => (mm_lt (mm_F q13.2 47 4) (fun st14 => ((g_digit q13.1 st14).bind (fun q15 => (if q15.1 = 0 then (if q13.1 = 36 then (mm_ix 65 x1 (fun j24 => mm_lt (mm_G q15.2 32 j24 1) (fun st23 => (mm_lt (mm_F st23 8 ((st23.1 8) + 1)) (fun st25 => (some st25)))))) else (if q13.1 = 64 then ((g_attributePredicate x1 q15.2).bind (fun q22 => (some q22))) else (mm_lt (mm_F q15.2 45 ((q15.2.1 45) + 1)) (fun st16 => (mm_ix 5 (st16.1 45) (fun j18 => mm_lt (mm_G st16 50 j18 x1) (fun st17 => (mm_ix 5 (st17.1 45) (fun j20 => mm_lt (mm_G st17 51 j20 (-1)) (fun st19 => (mm_lt (mm_F st19 47 0) (fun st21 => (some st21))))))))))))) else ((g_look ((q15.2.1 8) + 1) q15.2).bind (fun q26 => ((g_digit q26.1 q26.2).bind (fun q27 => (mm_ix 65 x1 (fun j29 => mm_lt (mm_G q27.2 32 j29 0) (fun st28 => (if q27.1 = 0 then (g_beginPredicate_209 q27.1 (q13.1 - 48) x1 st28) else ((g_look ((st28.1 8) + 1) st28).bind (fun q33 => (g_beginPredicate_209 q27.1 (((10 * (q13.1 - 48)) + q33.1) - 48) x1 q33.2)))))))))))))))))))))
def g_beginPredicate_74 (x1 : Int32) (st : mT) : Option (mT) := (mm_ix 5 (st.1 45) (fun j11 => mm_lt (mm_G st 52 j11 x1) (fun st10 => (g_beginPredicate_84 mF x1 st10))))
def g_beginPredicate (st : mT) : Option (mT) := (mm_lt (mm_F st 31 ((st.1 31) + 1)) (fun st1 => (mm_ix 65 (st.1 31) (fun j3 => mm_lt (mm_G st1 39 j3 (-1)) (fun st2 => (mm_ix 65 (st.1 31) (fun j5 => mm_lt (mm_G st2 40 j5 (vp_nar .boolean 0)) (fun st4 => (mm_ld (st4.2.1 52) 5 (st4.1 45) (fun v6 => (if 0 ≤ v6 then (mm_ld (st4.2.1 52) 5 (st4.1 45) (fun v7 => (mm_ix 65 v7 (fun j9 => mm_lt (mm_G st4 39 j9 (st.1 31)) (fun st8 => (g_beginPredicate_74 (st.1 31) st8)))))) else (mm_ld (st4.2.1 51) 5 (st4.1 45) (fun v38 => (mm_ix 130 v38 (fun j40 => mm_lt (mm_G st4 29 j40 (st.1 31)) (fun st39 => (g_beginPredicate_74 (st.1 31) st39)))))))))))))))))
set_option maxRecDepth 100000 in
set_option maxHeartbeats 8000000 in
theorem cm_beginPredicate (l : Launch) (D : va_G) (dA : Nat → ClassId) (s0 : State) (hE : ms_EV D dA s0) (h0 : hm_T) (r : Nat) (M : Nat → Nat) (hM : mm_ok r M) (z0 : hz_T) (st : mT) (q : mT) (hg : g_beginPredicate st = some q) : ht_C l D s0 yM90 bM90 4 (Option.none : Option Jvm.ClassFile.FieldType) 4 88 0 0 [.ref r] (fun h z => h = mm_h dA h0 r M st ∧ z = z0) (fun h z vv h1 z1 => vv = none ∧ h1 = mm_h dA h0 r M q ∧ z1 = z0) := by
  refine ht_C.mk hE.1 (by decide) (Nat.le_of_ble_eq_true rfl) [(0, .ref r)] rfl ?_
  intro p e s m below meth c ls h z X hin hpre I hl
  have hx := X.1
  have hb := X.2.1
  have hml := X.2.2.1
  have hown : s.vm.findClass "MarkupStoreModel" = some m.cls := X.2.2.2.1
  have hts := X.2.2.2.2.2.2.1
  have hK := X.2.2.2.2.2.2.2.2.1
  rw [hpre.1, hpre.2] at I
  clear hpre
  have b224 : ∀ (ls : Array Slot) (w0 : Int32) (w1 : Int32) (st : mT) (H : Heap) (locs : List Loc), g_beginPredicate_224 w0 w1 st = some q → lv_has ls 4 [] → hm_I D s0 s (mm_h dA h0 r M st) z0 H locs → W p l e { frames := 4, cells := 0, slots := 0, locals := 88 } s m ([.ref r] : List Value).toArray below meth c H locs 0 0 (MQ below (ht_Q D s0 (fun vv h1 z1 => vv = none ∧ h1 = mm_h dA h0 r M q ∧ z1 = z0)) ([.ref r] : List Value).toArray s 0 0 (fun q => s0.heap.size ≤ q)) (F0 m 224 ls [.int w0, .int w1, .ref r]) := by
    intro ls w0 w1 st H locs hF hl I
    unfold g_beginPredicate_224 at hF
    refine lv_iadd hx hb d90_224 ?_
    obtain ⟨st32, e9, hF⟩ := mm_lt_some hF
    refine mm_put (k := 8) (ty := .int) X I (by decide) ms_k1324 rfl rfl (by decide +kernel) ⟨rfl, rfl⟩ rfl e9 d90_225 (fun H locs I => ?_)
    clear e9
    refine lv_goto hx hb d90_228 rfl ?_
    exact ht_vret X d90_306 I (Nat.le_of_ble_eq_true rfl) (Nat.le_of_ble_eq_true rfl) (mm_finV hF)
  have b209 : ∀ (ls : Array Slot) (x3 : Int32) (w0 : Int32) (w1 : Int32) (st : mT) (H : Heap) (locs : List Loc), g_beginPredicate_209 x3 w0 w1 st = some q → lv_has ls 4 [(0, .ref r), (3, .int x3)] → hm_I D s0 s (mm_h dA h0 r M st) z0 H locs → W p l e { frames := 4, cells := 0, slots := 0, locals := 88 } s m ([.ref r] : List Value).toArray below meth c H locs 0 0 (MQ below (ht_Q D s0 (fun vv h1 z1 => vv = none ∧ h1 = mm_h dA h0 r M q ∧ z1 = z0)) ([.ref r] : List Value).toArray s 0 0 (fun q => s0.heap.size ≤ q)) (F0 m 209 ls [.int w0, .int w1, .ref (M 33)]) := by
    intro ls x3 w0 w1 st H locs hF hl I
    unfold g_beginPredicate_209 at hF
    obtain ⟨i9, hF⟩ := mm_ix_some hF
    obtain ⟨st30, e9, hF⟩ := mm_lt_some hF
    refine mm_iast (k := 33) X I hM (by decide) 0 (fun _ => rfl) rfl i9 e9 d90_209 (fun H locs I => ?_)
    clear e9 i9
    refine lv_aload_n hx hb d90_210 rfl (lv_at hl 0 rfl) ?_
    refine lv_dup hx hb d90_211 rfl ?_
    refine va_get (D := D) (ci := 2) (v := .int (st30.1 8)) (C := kR2) (T := kT2) (N := 60) hx hb hts ku2 hown hK (hm_one I.1 mm_hr) 0 rfl rfl 8 (by decide) (hts _ ms_k1324) (fun _ h => h) rfl d90_212 ?_
    refine lv_iload_n hx hb d90_215 rfl (lv_at hl 1 rfl) ?_
    refine lv_if_eq hx hb d90_216 rfl (fun h9 => ?_) (fun h9 => ?_)
    · have hF := (if_pos h9).symm.trans hF
      refine lv_iconst (v := 1) hx hb d90_223 (by decide) ?_
      exact b224 ls 1 (st30.1 8) st30 _ _ hF (hl.sub [] rfl) I
    · have hF := (if_neg h9).symm.trans hF
      refine lv_iconst (v := 2) hx hb d90_219 (by decide) ?_
      refine lv_goto hx hb d90_220 rfl ?_
      exact b224 ls 2 (st30.1 8) st30 _ _ hF (hl.sub [] rfl) I
  have b116 : ∀ (k84 : Int32 → mT → Option (mT)), (∀ (ls : Array Slot) (x1 : Int32) (st : mT) (H : Heap) (locs : List Loc), k84 x1 st = some q → lv_has ls 4 [(0, .ref r), (1, .int x1)] → hm_I D s0 s (mm_h dA h0 r M st) z0 H locs → W p l e { frames := 4, cells := 0, slots := 0, locals := 88 } s m ([.ref r] : List Value).toArray below meth c H locs 0 0 (MQ below (ht_Q D s0 (fun vv h1 z1 => vv = none ∧ h1 = mm_h dA h0 r M q ∧ z1 = z0)) ([.ref r] : List Value).toArray s 0 0 (fun q => s0.heap.size ≤ q)) (F0 m 84 ls [])) → ∀ (ls : Array Slot) (x1 : Int32) (w0 : Int32) (w1 : Int32) (st : mT) (H : Heap) (locs : List Loc), g_beginPredicate_116 k84 x1 w0 w1 st = some q → lv_has ls 4 [(0, .ref r), (1, .int x1)] → hm_I D s0 s (mm_h dA h0 r M st) z0 H locs → W p l e { frames := 4, cells := 0, slots := 0, locals := 88 } s m ([.ref r] : List Value).toArray below meth c H locs 0 0 (MQ below (ht_Q D s0 (fun vv h1 z1 => vv = none ∧ h1 = mm_h dA h0 r M q ∧ z1 = z0)) ([.ref r] : List Value).toArray s 0 0 (fun q => s0.heap.size ≤ q)) (F0 m 116 ls [.int w0, .int w1, .ref (M 40)]) := by
    intro k84 hk84 ls x1 w0 w1 st H locs hF hl I
    unfold g_beginPredicate_116 at hF
    obtain ⟨i9, hF⟩ := mm_ix_some hF
    obtain ⟨st35, e9, hF⟩ := mm_lt_some hF
    refine mm_zast (k := 40) X I hM (by decide) 3 (fun _ => rfl) rfl i9 e9 d90_116 (fun H locs I => ?_)
    clear e9 i9
    refine lv_aload_n hx hb d90_117 rfl (lv_at hl 0 rfl) ?_
    refine lv_dup hx hb d90_118 rfl ?_
    refine va_get (D := D) (ci := 2) (v := .int (st35.1 8)) (C := kR2) (T := kT2) (N := 60) hx hb hts ku2 hown hK (hm_one I.1 mm_hr) 0 rfl rfl 8 (by decide) (hts _ ms_k1324) (fun _ h => h) rfl d90_119 ?_
    refine lv_iconst (v := 1) hx hb d90_122 (by decide) ?_
    refine lv_iadd hx hb d90_123 ?_
    obtain ⟨st37, e9, hF⟩ := mm_lt_some hF
    refine mm_put (k := 8) (ty := .int) X I (by decide) ms_k1324 rfl rfl (by decide +kernel) ⟨rfl, rfl⟩ rfl e9 d90_124 (fun H locs I => ?_)
    clear e9
    refine lv_goto hx hb d90_127 rfl ?_
    exact hk84 ls x1 st37 _ _ hF (hl.sub [0, 1] rfl) I
  have b84 : ∀ n9 : Nat, ∀ (ls : Array Slot) (x1 : Int32) (st : mT) (H : Heap) (locs : List Loc), g_beginPredicate_84 n9 x1 st = some q → lv_has ls 4 [(0, .ref r), (1, .int x1)] → hm_I D s0 s (mm_h dA h0 r M st) z0 H locs → W p l e { frames := 4, cells := 0, slots := 0, locals := 88 } s m ([.ref r] : List Value).toArray below meth c H locs 0 0 (MQ below (ht_Q D s0 (fun vv h1 z1 => vv = none ∧ h1 = mm_h dA h0 r M q ∧ z1 = z0)) ([.ref r] : List Value).toArray s 0 0 (fun q => s0.heap.size ≤ q)) (F0 m 84 ls []) := by
    intro n9
    induction n9 with
    | zero => intro ls x1 st H locs hF; cases hF
    | succ n9 hk84 =>
    intro ls x1 st H locs hF hl I
    unfold g_beginPredicate_84 at hF
    refine lv_aload_n hx hb d90_84 rfl (lv_at hl 0 rfl) ?_
    refine lv_aload_n hx hb d90_85 rfl (lv_at hl 0 rfl) ?_
    refine va_get (D := D) (ci := 2) (v := .int (st.1 8)) (C := kR2) (T := kT2) (N := 60) hx hb hts ku2 hown hK (hm_one I.1 mm_hr) 0 rfl rfl 8 (by decide) (hts _ ms_k1324) (fun _ h => h) rfl d90_86 ?_
    obtain ⟨q12, e9, hF⟩ := mm_bd hF
    refine ht_V (C := "MarkupStoreModel") (rest := []) (as := [.int (st.1 8)]) X hl (cm_look l D dA s0 hE h0 r M hM z0 (st.1 8) st q12 e9) (List.forall_mem_cons.mpr ⟨ms_k1516, List.forall_mem_cons.mpr ⟨ms_k1518, List.forall_mem_cons.mpr ⟨ms_p46, List.forall_mem_cons.mpr ⟨ms_k7, List.forall_mem_cons.mpr ⟨ms_k1519, fun _ h => absurd h List.not_mem_nil⟩⟩⟩⟩⟩) ⟨rfl, by decide +kernel, by decide +kernel, (by decide +kernel : (parseMethodDescriptor "(I)C").map (fun d => d.parameters.length) = some 1)⟩ (hm_recv hK I rfl mm_hr) I ⟨rfl, rfl⟩ ⟨⟨Nat.le_of_ble_eq_true rfl, Nat.le_of_ble_eq_true rfl⟩, Nat.le_of_ble_eq_true rfl, Nat.le_of_ble_eq_true rfl⟩ rfl (Nat.le_of_ble_eq_true rfl) d90_89 (fun vv h1 z1 H locs hR I9 => ?_)
    obtain ⟨e1, e2, e3⟩ := hR
    rw [e2, e3] at I9
    clear I e2 e3 e9
    have I := I9
    clear I9
    subst e1
    refine W.eq (g2 := F0 m 92 ls [.int q12.1]) rfl ?_
    refine lv_bipush (v := 33) hx hb d90_92 (by decide) ?_
    refine lv_icmp_ne hx hb d90_94 rfl (fun h9 => ?_) (fun h9 => ?_)
    · have hF := (if_neg h9).symm.trans hF
      refine lv_aload_n hx hb d90_130 rfl (lv_at hl 0 rfl) ?_
      refine lv_aload_n hx hb d90_131 rfl (lv_at hl 0 rfl) ?_
      refine va_get (D := D) (ci := 2) (v := .int (q12.2.1 8)) (C := kR2) (T := kT2) (N := 60) hx hb hts ku2 hown hK (hm_one I.1 mm_hr) 0 rfl rfl 8 (by decide) (hts _ ms_k1324) (fun _ h => h) rfl d90_132 ?_
      obtain ⟨q13, e9, hF⟩ := mm_bd hF
      refine ht_V (C := "MarkupStoreModel") (rest := []) (as := [.int (q12.2.1 8)]) X hl (cm_look l D dA s0 hE h0 r M hM z0 (q12.2.1 8) q12.2 q13 e9) (List.forall_mem_cons.mpr ⟨ms_k1516, List.forall_mem_cons.mpr ⟨ms_k1518, List.forall_mem_cons.mpr ⟨ms_p46, List.forall_mem_cons.mpr ⟨ms_k7, List.forall_mem_cons.mpr ⟨ms_k1519, fun _ h => absurd h List.not_mem_nil⟩⟩⟩⟩⟩) ⟨rfl, by decide +kernel, by decide +kernel, (by decide +kernel : (parseMethodDescriptor "(I)C").map (fun d => d.parameters.length) = some 1)⟩ (hm_recv hK I rfl mm_hr) I ⟨rfl, rfl⟩ ⟨⟨Nat.le_of_ble_eq_true rfl, Nat.le_of_ble_eq_true rfl⟩, Nat.le_of_ble_eq_true rfl, Nat.le_of_ble_eq_true rfl⟩ rfl (Nat.le_of_ble_eq_true rfl) d90_135 (fun vv h1 z1 H locs hR I9 => ?_)
      obtain ⟨e1, e2, e3⟩ := hR
      rw [e2, e3] at I9
      clear I e2 e3 e9
      have I := I9
      clear I9
      subst e1
      refine W.eq (g2 := F0 m 138 ls [.int q13.1]) rfl ?_
      refine lv_istore_n hx hb d90_138 rfl hl (by decide) rfl (fun ls hl => ?_)
      have hl : lv_has ls 4 [(2, .int q13.1), (0, .ref r), (1, .int x1)] := hl
      refine lv_aload_n hx hb d90_139 rfl (lv_at hl 1 rfl) ?_
      refine lv_iconst (v := 4) hx hb d90_140 (by decide) ?_
      obtain ⟨st14, e9, hF⟩ := mm_lt_some hF
      refine mm_put (k := 47) (ty := .int) X I (by decide) ms_k1363 rfl rfl (by decide +kernel) ⟨rfl, rfl⟩ rfl e9 d90_141 (fun H locs I => ?_)
      clear e9
      refine lv_iload_n hx hb d90_144 rfl (lv_at hl 0 rfl) ?_
      obtain ⟨q15, e9, hF⟩ := mm_bd hF
      refine ht_S (rest := []) (as := [.int q13.1]) X hl (cm_digit l D dA s0 hE h0 r M hM z0 q13.1 st14 q15 e9) (List.forall_mem_cons.mpr ⟨ms_k1701, List.forall_mem_cons.mpr ⟨ms_k1702, List.forall_mem_cons.mpr ⟨ms_k7, List.forall_mem_cons.mpr ⟨ms_k1703, fun _ h => absurd h List.not_mem_nil⟩⟩⟩⟩) ⟨by decide +kernel, by decide +kernel, (by decide +kernel : (parseMethodDescriptor "(C)Z").map (fun d => d.parameters.length) = some 1)⟩ I ⟨rfl, rfl⟩ ⟨⟨Nat.le_of_ble_eq_true rfl, Nat.le_of_ble_eq_true rfl⟩, Nat.le_of_ble_eq_true rfl, Nat.le_of_ble_eq_true rfl⟩ rfl (Nat.le_of_ble_eq_true rfl) d90_145 (fun vv h1 z1 H locs hR I9 => ?_)
      obtain ⟨e1, e2, e3⟩ := hR
      rw [e2, e3] at I9
      clear I e2 e3 e9
      have I := I9
      clear I9
      subst e1
      refine W.eq (g2 := F0 m 148 ls [.int q15.1]) rfl ?_
      refine lv_if_eq hx hb d90_148 rfl (fun h9 => ?_) (fun h9 => ?_)
      · have hF := (if_pos h9).symm.trans hF
        refine lv_iload_n hx hb d90_231 rfl (lv_at hl 0 rfl) ?_
        refine lv_bipush (v := 36) hx hb d90_232 (by decide) ?_
        refine lv_icmp_ne hx hb d90_234 rfl (fun h9 => ?_) (fun h9 => ?_)
        · have hF := (if_neg h9).symm.trans hF
          refine lv_iload_n hx hb d90_257 rfl (lv_at hl 0 rfl) ?_
          refine lv_bipush (v := 64) hx hb d90_258 (by decide) ?_
          refine lv_icmp_ne hx hb d90_260 rfl (fun h9 => ?_) (fun h9 => ?_)
          · have hF := (if_neg h9).symm.trans hF
            refine lv_aload_n hx hb d90_271 rfl (lv_at hl 1 rfl) ?_
            refine lv_dup hx hb d90_272 rfl ?_
            refine va_get (D := D) (ci := 2) (v := .int (q15.2.1 45)) (C := kR2) (T := kT2) (N := 60) hx hb hts ku2 hown hK (hm_one I.1 mm_hr) 0 rfl rfl 45 (by decide) (hts _ ms_k1361) (fun _ h => h) rfl d90_273 ?_
            refine lv_iconst (v := 1) hx hb d90_276 (by decide) ?_
            refine lv_iadd hx hb d90_277 ?_
            obtain ⟨st16, e9, hF⟩ := mm_lt_some hF
            refine mm_put (k := 45) (ty := .int) X I (by decide) ms_k1361 rfl rfl (by decide +kernel) ⟨rfl, rfl⟩ rfl e9 d90_278 (fun H locs I => ?_)
            clear e9
            refine lv_aload_n hx hb d90_281 rfl (lv_at hl 1 rfl) ?_
            refine va_get (D := D) (ci := 2) (v := .ref (M 50)) (C := kR2) (T := kT2) (N := 60) hx hb hts ku2 hown hK (hm_one I.1 mm_hr) 0 rfl rfl 50 (by decide) (hts _ ms_k1366) (fun _ h => h) rfl d90_282 ?_
            refine lv_aload_n hx hb d90_285 rfl (lv_at hl 1 rfl) ?_
            refine va_get (D := D) (ci := 2) (v := .int (st16.1 45)) (C := kR2) (T := kT2) (N := 60) hx hb hts ku2 hown hK (hm_one I.1 mm_hr) 0 rfl rfl 45 (by decide) (hts _ ms_k1361) (fun _ h => h) rfl d90_286 ?_
            refine lv_iload_n hx hb d90_289 rfl (lv_at hl 2 rfl) ?_
            obtain ⟨i9, hF⟩ := mm_ix_some hF
            obtain ⟨st17, e9, hF⟩ := mm_lt_some hF
            refine mm_iast (k := 50) X I hM (by decide) 0 (fun _ => rfl) rfl i9 e9 d90_290 (fun H locs I => ?_)
            clear e9 i9
            refine lv_aload_n hx hb d90_291 rfl (lv_at hl 1 rfl) ?_
            refine va_get (D := D) (ci := 2) (v := .ref (M 51)) (C := kR2) (T := kT2) (N := 60) hx hb hts ku2 hown hK (hm_one I.1 mm_hr) 0 rfl rfl 51 (by decide) (hts _ ms_k1367) (fun _ h => h) rfl d90_292 ?_
            refine lv_aload_n hx hb d90_295 rfl (lv_at hl 1 rfl) ?_
            refine va_get (D := D) (ci := 2) (v := .int (st17.1 45)) (C := kR2) (T := kT2) (N := 60) hx hb hts ku2 hown hK (hm_one I.1 mm_hr) 0 rfl rfl 45 (by decide) (hts _ ms_k1361) (fun _ h => h) rfl d90_296 ?_
            refine lv_iconst (v := (-1)) hx hb d90_299 (by decide) ?_
            obtain ⟨i9, hF⟩ := mm_ix_some hF
            obtain ⟨st19, e9, hF⟩ := mm_lt_some hF
            refine mm_iast (k := 51) X I hM (by decide) 0 (fun _ => rfl) rfl i9 e9 d90_300 (fun H locs I => ?_)
            clear e9 i9
            refine lv_aload_n hx hb d90_301 rfl (lv_at hl 1 rfl) ?_
            refine lv_iconst (v := 0) hx hb d90_302 (by decide) ?_
            obtain ⟨st21, e9, hF⟩ := mm_lt_some hF
            refine mm_put (k := 47) (ty := .int) X I (by decide) ms_k1363 rfl rfl (by decide +kernel) ⟨rfl, rfl⟩ rfl e9 d90_303 (fun H locs I => ?_)
            clear e9
            exact ht_vret X d90_306 I (Nat.le_of_ble_eq_true rfl) (Nat.le_of_ble_eq_true rfl) (mm_finV hF)
          · have hF := (if_pos h9).symm.trans hF
            refine lv_aload_n hx hb d90_263 rfl (lv_at hl 1 rfl) ?_
            refine lv_iload_n hx hb d90_264 rfl (lv_at hl 2 rfl) ?_
            obtain ⟨q22, e9, hF⟩ := mm_bd hF
            refine ht_V (C := "MarkupStoreModel") (rest := []) (as := [.int x1]) X hl (cm_attributePredicate l D dA s0 hE h0 r M hM z0 x1 q15.2 q22 e9) (List.forall_mem_cons.mpr ⟨ms_k1704, List.forall_mem_cons.mpr ⟨ms_k1706, List.forall_mem_cons.mpr ⟨ms_p86, List.forall_mem_cons.mpr ⟨ms_k7, List.forall_mem_cons.mpr ⟨ms_k1707, fun _ h => absurd h List.not_mem_nil⟩⟩⟩⟩⟩) ⟨rfl, by decide +kernel, by decide +kernel, (by decide +kernel : (parseMethodDescriptor "(I)V").map (fun d => d.parameters.length) = some 1)⟩ (hm_recv hK I rfl mm_hr) I ⟨rfl, rfl⟩ ⟨⟨Nat.le_of_ble_eq_true rfl, Nat.le_of_ble_eq_true rfl⟩, Nat.le_of_ble_eq_true rfl, Nat.le_of_ble_eq_true rfl⟩ rfl (Nat.le_of_ble_eq_true rfl) d90_265 (fun vv h1 z1 H locs hR I9 => ?_)
            obtain ⟨e1, e2, e3⟩ := hR
            rw [e2, e3] at I9
            clear I e2 e3 e9
            have I := I9
            clear I9
            subst e1
            refine W.eq (g2 := F0 m 268 ls []) rfl ?_
            refine lv_goto hx hb d90_268 rfl ?_
            exact ht_vret X d90_306 I (Nat.le_of_ble_eq_true rfl) (Nat.le_of_ble_eq_true rfl) (mm_finV hF)
        · have hF := (if_pos h9).symm.trans hF
          refine lv_aload_n hx hb d90_237 rfl (lv_at hl 1 rfl) ?_
          refine va_get (D := D) (ci := 2) (v := .ref (M 32)) (C := kR2) (T := kT2) (N := 60) hx hb hts ku2 hown hK (hm_one I.1 mm_hr) 0 rfl rfl 32 (by decide) (hts _ ms_k1348) (fun _ h => h) rfl d90_238 ?_
          refine lv_iload_n hx hb d90_241 rfl (lv_at hl 2 rfl) ?_
          refine lv_iconst (v := 1) hx hb d90_242 (by decide) ?_
          obtain ⟨i9, hF⟩ := mm_ix_some hF
          obtain ⟨st23, e9, hF⟩ := mm_lt_some hF
          refine mm_iast (k := 32) X I hM (by decide) 0 (fun _ => rfl) rfl i9 e9 d90_243 (fun H locs I => ?_)
          clear e9 i9
          refine lv_aload_n hx hb d90_244 rfl (lv_at hl 1 rfl) ?_
          refine lv_dup hx hb d90_245 rfl ?_
          refine va_get (D := D) (ci := 2) (v := .int (st23.1 8)) (C := kR2) (T := kT2) (N := 60) hx hb hts ku2 hown hK (hm_one I.1 mm_hr) 0 rfl rfl 8 (by decide) (hts _ ms_k1324) (fun _ h => h) rfl d90_246 ?_
          refine lv_iconst (v := 1) hx hb d90_249 (by decide) ?_
          refine lv_iadd hx hb d90_250 ?_
          obtain ⟨st25, e9, hF⟩ := mm_lt_some hF
          refine mm_put (k := 8) (ty := .int) X I (by decide) ms_k1324 rfl rfl (by decide +kernel) ⟨rfl, rfl⟩ rfl e9 d90_251 (fun H locs I => ?_)
          clear e9
          refine lv_goto hx hb d90_254 rfl ?_
          exact ht_vret X d90_306 I (Nat.le_of_ble_eq_true rfl) (Nat.le_of_ble_eq_true rfl) (mm_finV hF)
      · have hF := (if_neg h9).symm.trans hF
        refine lv_aload_n hx hb d90_151 rfl (lv_at hl 1 rfl) ?_
        refine lv_aload_n hx hb d90_152 rfl (lv_at hl 1 rfl) ?_
        refine va_get (D := D) (ci := 2) (v := .int (q15.2.1 8)) (C := kR2) (T := kT2) (N := 60) hx hb hts ku2 hown hK (hm_one I.1 mm_hr) 0 rfl rfl 8 (by decide) (hts _ ms_k1324) (fun _ h => h) rfl d90_153 ?_
        refine lv_iconst (v := 1) hx hb d90_156 (by decide) ?_
        refine lv_iadd hx hb d90_157 ?_
        obtain ⟨q26, e9, hF⟩ := mm_bd hF
        refine ht_V (C := "MarkupStoreModel") (rest := []) (as := [.int ((q15.2.1 8) + 1)]) X hl (cm_look l D dA s0 hE h0 r M hM z0 ((q15.2.1 8) + 1) q15.2 q26 e9) (List.forall_mem_cons.mpr ⟨ms_k1516, List.forall_mem_cons.mpr ⟨ms_k1518, List.forall_mem_cons.mpr ⟨ms_p46, List.forall_mem_cons.mpr ⟨ms_k7, List.forall_mem_cons.mpr ⟨ms_k1519, fun _ h => absurd h List.not_mem_nil⟩⟩⟩⟩⟩) ⟨rfl, by decide +kernel, by decide +kernel, (by decide +kernel : (parseMethodDescriptor "(I)C").map (fun d => d.parameters.length) = some 1)⟩ (hm_recv hK I rfl mm_hr) I ⟨rfl, rfl⟩ ⟨⟨Nat.le_of_ble_eq_true rfl, Nat.le_of_ble_eq_true rfl⟩, Nat.le_of_ble_eq_true rfl, Nat.le_of_ble_eq_true rfl⟩ rfl (Nat.le_of_ble_eq_true rfl) d90_158 (fun vv h1 z1 H locs hR I9 => ?_)
        obtain ⟨e1, e2, e3⟩ := hR
        rw [e2, e3] at I9
        clear I e2 e3 e9
        have I := I9
        clear I9
        subst e1
        refine W.eq (g2 := F0 m 161 ls [.int q26.1]) rfl ?_
        obtain ⟨q27, e9, hF⟩ := mm_bd hF
        refine ht_S (rest := []) (as := [.int q26.1]) X hl (cm_digit l D dA s0 hE h0 r M hM z0 q26.1 q26.2 q27 e9) (List.forall_mem_cons.mpr ⟨ms_k1701, List.forall_mem_cons.mpr ⟨ms_k1702, List.forall_mem_cons.mpr ⟨ms_k7, List.forall_mem_cons.mpr ⟨ms_k1703, fun _ h => absurd h List.not_mem_nil⟩⟩⟩⟩) ⟨by decide +kernel, by decide +kernel, (by decide +kernel : (parseMethodDescriptor "(C)Z").map (fun d => d.parameters.length) = some 1)⟩ I ⟨rfl, rfl⟩ ⟨⟨Nat.le_of_ble_eq_true rfl, Nat.le_of_ble_eq_true rfl⟩, Nat.le_of_ble_eq_true rfl, Nat.le_of_ble_eq_true rfl⟩ rfl (Nat.le_of_ble_eq_true rfl) d90_161 (fun vv h1 z1 H locs hR I9 => ?_)
        obtain ⟨e1, e2, e3⟩ := hR
        rw [e2, e3] at I9
        clear I e2 e3 e9
        have I := I9
        clear I9
        subst e1
        refine W.eq (g2 := F0 m 164 ls [.int q27.1]) rfl ?_
        refine lv_istore_n hx hb d90_164 rfl hl (by decide) rfl (fun ls hl => ?_)
        have hl : lv_has ls 4 [(3, .int q27.1), (2, .int q13.1), (0, .ref r), (1, .int x1)] := hl
        refine lv_aload_n hx hb d90_165 rfl (lv_at hl 2 rfl) ?_
        refine va_get (D := D) (ci := 2) (v := .ref (M 32)) (C := kR2) (T := kT2) (N := 60) hx hb hts ku2 hown hK (hm_one I.1 mm_hr) 0 rfl rfl 32 (by decide) (hts _ ms_k1348) (fun _ h => h) rfl d90_166 ?_
        refine lv_iload_n hx hb d90_169 rfl (lv_at hl 3 rfl) ?_
        refine lv_iconst (v := 0) hx hb d90_170 (by decide) ?_
        obtain ⟨i9, hF⟩ := mm_ix_some hF
        obtain ⟨st28, e9, hF⟩ := mm_lt_some hF
        refine mm_iast (k := 32) X I hM (by decide) 0 (fun _ => rfl) rfl i9 e9 d90_171 (fun H locs I => ?_)
        clear e9 i9
        refine lv_aload_n hx hb d90_172 rfl (lv_at hl 2 rfl) ?_
        refine va_get (D := D) (ci := 2) (v := .ref (M 33)) (C := kR2) (T := kT2) (N := 60) hx hb hts ku2 hown hK (hm_one I.1 mm_hr) 0 rfl rfl 33 (by decide) (hts _ ms_k1349) (fun _ h => h) rfl d90_173 ?_
        refine lv_iload_n hx hb d90_176 rfl (lv_at hl 3 rfl) ?_
        refine lv_iload_n hx hb d90_177 rfl (lv_at hl 0 rfl) ?_
        refine lv_if_eq hx hb d90_178 rfl (fun h9 => ?_) (fun h9 => ?_)
        · have hF := (if_pos h9).symm.trans hF
          refine lv_iload_n hx hb d90_205 rfl (lv_at hl 1 rfl) ?_
          refine lv_bipush (v := 48) hx hb d90_206 (by decide) ?_
          refine lv_isub hx hb d90_208 ?_
          exact b209 ls q27.1 (q13.1 - 48) x1 st28 _ _ hF (hl.sub [2, 0] rfl) I
        · have hF := (if_neg h9).symm.trans hF
          refine lv_bipush (v := 10) hx hb d90_181 (by decide) ?_
          refine lv_iload_n hx hb d90_183 rfl (lv_at hl 1 rfl) ?_
          refine lv_bipush (v := 48) hx hb d90_184 (by decide) ?_
          refine lv_isub hx hb d90_186 ?_
          refine lv_imul hx hb d90_187 ?_
          refine lv_aload_n hx hb d90_188 rfl (lv_at hl 2 rfl) ?_
          refine lv_aload_n hx hb d90_189 rfl (lv_at hl 2 rfl) ?_
          refine va_get (D := D) (ci := 2) (v := .int (st28.1 8)) (C := kR2) (T := kT2) (N := 60) hx hb hts ku2 hown hK (hm_one I.1 mm_hr) 0 rfl rfl 8 (by decide) (hts _ ms_k1324) (fun _ h => h) rfl d90_190 ?_
          refine lv_iconst (v := 1) hx hb d90_193 (by decide) ?_
          refine lv_iadd hx hb d90_194 ?_
          obtain ⟨q33, e9, hF⟩ := mm_bd hF
          refine ht_V (C := "MarkupStoreModel") (rest := [.int (10 * (q13.1 - 48)), .int x1, .ref (M 33)]) (as := [.int ((st28.1 8) + 1)]) X hl (cm_look l D dA s0 hE h0 r M hM z0 ((st28.1 8) + 1) st28 q33 e9) (List.forall_mem_cons.mpr ⟨ms_k1516, List.forall_mem_cons.mpr ⟨ms_k1518, List.forall_mem_cons.mpr ⟨ms_p46, List.forall_mem_cons.mpr ⟨ms_k7, List.forall_mem_cons.mpr ⟨ms_k1519, fun _ h => absurd h List.not_mem_nil⟩⟩⟩⟩⟩) ⟨rfl, by decide +kernel, by decide +kernel, (by decide +kernel : (parseMethodDescriptor "(I)C").map (fun d => d.parameters.length) = some 1)⟩ (hm_recv hK I rfl mm_hr) I ⟨rfl, rfl⟩ ⟨⟨Nat.le_of_ble_eq_true rfl, Nat.le_of_ble_eq_true rfl⟩, Nat.le_of_ble_eq_true rfl, Nat.le_of_ble_eq_true rfl⟩ rfl (Nat.le_of_ble_eq_true rfl) d90_195 (fun vv h1 z1 H locs hR I9 => ?_)
          obtain ⟨e1, e2, e3⟩ := hR
          rw [e2, e3] at I9
          clear I e2 e3 e9
          have I := I9
          clear I9
          subst e1
          refine W.eq (g2 := F0 m 198 ls [.int q33.1, .int (10 * (q13.1 - 48)), .int x1, .ref (M 33)]) rfl ?_
          refine lv_iadd hx hb d90_198 ?_
          refine lv_bipush (v := 48) hx hb d90_199 (by decide) ?_
          refine lv_isub hx hb d90_201 ?_
          refine lv_goto hx hb d90_202 rfl ?_
          exact b209 ls q27.1 (((10 * (q13.1 - 48)) + q33.1) - 48) x1 q33.2 _ _ hF (hl.sub [2, 0] rfl) I
    · have hF := (if_pos h9).symm.trans hF
      refine lv_aload_n hx hb d90_97 rfl (lv_at hl 0 rfl) ?_
      refine va_get (D := D) (ci := 2) (v := .ref (M 40)) (C := kR2) (T := kT2) (N := 60) hx hb hts ku2 hown hK (hm_one I.1 mm_hr) 0 rfl rfl 40 (by decide) (hts _ ms_k1356) (fun _ h => h) rfl d90_98 ?_
      refine lv_iload_n hx hb d90_101 rfl (lv_at hl 1 rfl) ?_
      refine lv_aload_n hx hb d90_102 rfl (lv_at hl 0 rfl) ?_
      refine va_get (D := D) (ci := 2) (v := .ref (M 40)) (C := kR2) (T := kT2) (N := 60) hx hb hts ku2 hown hK (hm_one I.1 mm_hr) 0 rfl rfl 40 (by decide) (hts _ ms_k1356) (fun _ h => h) rfl d90_103 ?_
      refine lv_iload_n hx hb d90_106 rfl (lv_at hl 1 rfl) ?_
      obtain ⟨v34, i9, e9, hF⟩ := mm_ld_some hF
      refine va_zald hx hb hK (hm_one I.1 (mm_a40 hM)) 0 3 rfl rfl i9 d90_107 ?_
      refine ms_top (y := v34) e9 ?_
      clear e9 i9
      refine lv_if_ne hx hb d90_108 rfl (fun h9 => ?_) (fun h9 => ?_)
      · have hF := (if_neg h9).symm.trans hF
        refine lv_iconst (v := 0) hx hb d90_115 (by decide) ?_
        exact b116 (g_beginPredicate_84 n9) hk84 ls x1 0 x1 q12.2 _ _ hF (hl.sub [0, 1] rfl) I
      · have hF := (if_pos h9).symm.trans hF
        refine lv_iconst (v := 1) hx hb d90_111 (by decide) ?_
        refine lv_goto hx hb d90_112 rfl ?_
        exact b116 (g_beginPredicate_84 n9) hk84 ls x1 1 x1 q12.2 _ _ hF (hl.sub [0, 1] rfl) I
  have b74 : ∀ (ls : Array Slot) (x1 : Int32) (st : mT) (H : Heap) (locs : List Loc), g_beginPredicate_74 x1 st = some q → lv_has ls 4 [(0, .ref r), (1, .int x1)] → hm_I D s0 s (mm_h dA h0 r M st) z0 H locs → W p l e { frames := 4, cells := 0, slots := 0, locals := 88 } s m ([.ref r] : List Value).toArray below meth c H locs 0 0 (MQ below (ht_Q D s0 (fun vv h1 z1 => vv = none ∧ h1 = mm_h dA h0 r M q ∧ z1 = z0)) ([.ref r] : List Value).toArray s 0 0 (fun q => s0.heap.size ≤ q)) (F0 m 74 ls []) := by
    intro ls x1 st H locs hF hl I
    unfold g_beginPredicate_74 at hF
    refine lv_aload_n hx hb d90_74 rfl (lv_at hl 0 rfl) ?_
    refine va_get (D := D) (ci := 2) (v := .ref (M 52)) (C := kR2) (T := kT2) (N := 60) hx hb hts ku2 hown hK (hm_one I.1 mm_hr) 0 rfl rfl 52 (by decide) (hts _ ms_k1368) (fun _ h => h) rfl d90_75 ?_
    refine lv_aload_n hx hb d90_78 rfl (lv_at hl 0 rfl) ?_
    refine va_get (D := D) (ci := 2) (v := .int (st.1 45)) (C := kR2) (T := kT2) (N := 60) hx hb hts ku2 hown hK (hm_one I.1 mm_hr) 0 rfl rfl 45 (by decide) (hts _ ms_k1361) (fun _ h => h) rfl d90_79 ?_
    refine lv_iload_n hx hb d90_82 rfl (lv_at hl 1 rfl) ?_
    obtain ⟨i9, hF⟩ := mm_ix_some hF
    obtain ⟨st10, e9, hF⟩ := mm_lt_some hF
    refine mm_iast (k := 52) X I hM (by decide) 0 (fun _ => rfl) rfl i9 e9 d90_83 (fun H locs I => ?_)
    clear e9 i9
    exact b84 mF ls x1 st10 _ _ hF (hl.sub [0, 1] rfl) I
  have hF := hg
  unfold g_beginPredicate at hF
  refine lv_aload_n hx hb d90_0 rfl (lv_at hl 0 rfl) ?_
  refine va_get (D := D) (ci := 2) (v := .int (st.1 31)) (C := kR2) (T := kT2) (N := 60) hx hb hts ku2 hown hK (hm_one I.1 mm_hr) 0 rfl rfl 31 (by decide) (hts _ ms_k1347) (fun _ h => h) rfl d90_1 ?_
  refine lv_istore_n hx hb d90_4 rfl hl (by decide) rfl (fun ls hl => ?_)
  have hl : lv_has ls 4 [(1, .int (st.1 31)), (0, .ref r)] := hl
  refine lv_aload_n hx hb d90_5 rfl (lv_at hl 1 rfl) ?_
  refine lv_dup hx hb d90_6 rfl ?_
  refine va_get (D := D) (ci := 2) (v := .int (st.1 31)) (C := kR2) (T := kT2) (N := 60) hx hb hts ku2 hown hK (hm_one I.1 mm_hr) 0 rfl rfl 31 (by decide) (hts _ ms_k1347) (fun _ h => h) rfl d90_7 ?_
  refine lv_iconst (v := 1) hx hb d90_10 (by decide) ?_
  refine lv_iadd hx hb d90_11 ?_
  obtain ⟨st1, e9, hF⟩ := mm_lt_some hF
  refine mm_put (k := 31) (ty := .int) X I (by decide) ms_k1347 rfl rfl (by decide +kernel) ⟨rfl, rfl⟩ rfl e9 d90_12 (fun H locs I => ?_)
  clear e9
  refine lv_aload_n hx hb d90_15 rfl (lv_at hl 1 rfl) ?_
  refine va_get (D := D) (ci := 2) (v := .ref (M 39)) (C := kR2) (T := kT2) (N := 60) hx hb hts ku2 hown hK (hm_one I.1 mm_hr) 0 rfl rfl 39 (by decide) (hts _ ms_k1355) (fun _ h => h) rfl d90_16 ?_
  refine lv_iload_n hx hb d90_19 rfl (lv_at hl 0 rfl) ?_
  refine lv_iconst (v := (-1)) hx hb d90_20 (by decide) ?_
  obtain ⟨i9, hF⟩ := mm_ix_some hF
  obtain ⟨st2, e9, hF⟩ := mm_lt_some hF
  refine mm_iast (k := 39) X I hM (by decide) 0 (fun _ => rfl) rfl i9 e9 d90_21 (fun H locs I => ?_)
  clear e9 i9
  refine lv_aload_n hx hb d90_22 rfl (lv_at hl 1 rfl) ?_
  refine va_get (D := D) (ci := 2) (v := .ref (M 40)) (C := kR2) (T := kT2) (N := 60) hx hb hts ku2 hown hK (hm_one I.1 mm_hr) 0 rfl rfl 40 (by decide) (hts _ ms_k1356) (fun _ h => h) rfl d90_23 ?_
  refine lv_iload_n hx hb d90_26 rfl (lv_at hl 0 rfl) ?_
  refine lv_iconst (v := 0) hx hb d90_27 (by decide) ?_
  obtain ⟨i9, hF⟩ := mm_ix_some hF
  obtain ⟨st4, e9, hF⟩ := mm_lt_some hF
  refine mm_zast (k := 40) X I hM (by decide) 3 (fun _ => rfl) rfl i9 e9 d90_28 (fun H locs I => ?_)
  clear e9 i9
  refine lv_aload_n hx hb d90_29 rfl (lv_at hl 1 rfl) ?_
  refine va_get (D := D) (ci := 2) (v := .ref (M 52)) (C := kR2) (T := kT2) (N := 60) hx hb hts ku2 hown hK (hm_one I.1 mm_hr) 0 rfl rfl 52 (by decide) (hts _ ms_k1368) (fun _ h => h) rfl d90_30 ?_
  refine lv_aload_n hx hb d90_33 rfl (lv_at hl 1 rfl) ?_
  refine va_get (D := D) (ci := 2) (v := .int (st4.1 45)) (C := kR2) (T := kT2) (N := 60) hx hb hts ku2 hown hK (hm_one I.1 mm_hr) 0 rfl rfl 45 (by decide) (hts _ ms_k1361) (fun _ h => h) rfl d90_34 ?_
  obtain ⟨v6, i9, e9, hF⟩ := mm_ld_some hF
  refine va_iald hx hb hK (hm_one I.1 (mm_a52 hM)) 0 0 rfl rfl i9 d90_37 ?_
  refine ms_top (y := v6) e9 ?_
  clear e9 i9
  refine lv_if_ge hx hb d90_38 rfl (fun h9 => ?_) (fun h9 => ?_)
  · have hF := (if_pos h9).symm.trans hF
    refine lv_aload_n hx hb d90_59 rfl (lv_at hl 1 rfl) ?_
    refine va_get (D := D) (ci := 2) (v := .ref (M 39)) (C := kR2) (T := kT2) (N := 60) hx hb hts ku2 hown hK (hm_one I.1 mm_hr) 0 rfl rfl 39 (by decide) (hts _ ms_k1355) (fun _ h => h) rfl d90_60 ?_
    refine lv_aload_n hx hb d90_63 rfl (lv_at hl 1 rfl) ?_
    refine va_get (D := D) (ci := 2) (v := .ref (M 52)) (C := kR2) (T := kT2) (N := 60) hx hb hts ku2 hown hK (hm_one I.1 mm_hr) 0 rfl rfl 52 (by decide) (hts _ ms_k1368) (fun _ h => h) rfl d90_64 ?_
    refine lv_aload_n hx hb d90_67 rfl (lv_at hl 1 rfl) ?_
    refine va_get (D := D) (ci := 2) (v := .int (st4.1 45)) (C := kR2) (T := kT2) (N := 60) hx hb hts ku2 hown hK (hm_one I.1 mm_hr) 0 rfl rfl 45 (by decide) (hts _ ms_k1361) (fun _ h => h) rfl d90_68 ?_
    obtain ⟨v7, i9, e9, hF⟩ := mm_ld_some hF
    refine va_iald hx hb hK (hm_one I.1 (mm_a52 hM)) 0 0 rfl rfl i9 d90_71 ?_
    refine ms_top (y := v7) e9 ?_
    clear e9 i9
    refine lv_iload_n hx hb d90_72 rfl (lv_at hl 0 rfl) ?_
    obtain ⟨i9, hF⟩ := mm_ix_some hF
    obtain ⟨st8, e9, hF⟩ := mm_lt_some hF
    refine mm_iast (k := 39) X I hM (by decide) 0 (fun _ => rfl) rfl i9 e9 d90_73 (fun H locs I => ?_)
    clear e9 i9
    exact b74 ls (st.1 31) st8 _ _ hF (hl.sub [1, 0] rfl) I
  · have hF := (if_neg h9).symm.trans hF
    refine lv_aload_n hx hb d90_41 rfl (lv_at hl 1 rfl) ?_
    refine va_get (D := D) (ci := 2) (v := .ref (M 29)) (C := kR2) (T := kT2) (N := 60) hx hb hts ku2 hown hK (hm_one I.1 mm_hr) 0 rfl rfl 29 (by decide) (hts _ ms_k1345) (fun _ h => h) rfl d90_42 ?_
    refine lv_aload_n hx hb d90_45 rfl (lv_at hl 1 rfl) ?_
    refine va_get (D := D) (ci := 2) (v := .ref (M 51)) (C := kR2) (T := kT2) (N := 60) hx hb hts ku2 hown hK (hm_one I.1 mm_hr) 0 rfl rfl 51 (by decide) (hts _ ms_k1367) (fun _ h => h) rfl d90_46 ?_
    refine lv_aload_n hx hb d90_49 rfl (lv_at hl 1 rfl) ?_
    refine va_get (D := D) (ci := 2) (v := .int (st4.1 45)) (C := kR2) (T := kT2) (N := 60) hx hb hts ku2 hown hK (hm_one I.1 mm_hr) 0 rfl rfl 45 (by decide) (hts _ ms_k1361) (fun _ h => h) rfl d90_50 ?_
    obtain ⟨v38, i9, e9, hF⟩ := mm_ld_some hF
    refine va_iald hx hb hK (hm_one I.1 (mm_a51 hM)) 0 0 rfl rfl i9 d90_53 ?_
    refine ms_top (y := v38) e9 ?_
    clear e9 i9
    refine lv_iload_n hx hb d90_54 rfl (lv_at hl 0 rfl) ?_
    obtain ⟨i9, hF⟩ := mm_ix_some hF
    obtain ⟨st39, e9, hF⟩ := mm_lt_some hF
    refine mm_iast (k := 29) X I hM (by decide) 0 (fun _ => rfl) rfl i9 e9 d90_55 (fun H locs I => ?_)
    clear e9 i9
    refine lv_goto hx hb d90_56 rfl ?_
    exact b74 ls (st.1 31) st39 _ _ hF (hl.sub [1, 0] rfl) I

def g_readPath_85 (k52 : mT → Option (mT)) (st : mT) : Option (mT) := (if (st.1 47) = 0 then ((g_beginPath st).bind (fun q12 => (k52 q12))) else (if (st.1 47) = 1 then ((g_beginStep st).bind (fun q13 => (k52 q13))) else (if (st.1 47) = 2 then ((g_behindStep st).bind (fun q14 => (k52 q14))) else (if (st.1 47) = 3 then ((g_beginPredicate st).bind (fun q15 => (k52 q15))) else ((g_must (st.1 8) 93 st).bind (fun q16 => (mm_lt (mm_F q16.2 8 ((q16.2.1 8) + 1)) (fun st17 => (mm_lt (mm_F st17 46 ((st17.1 46) - 1)) (fun st18 => (mm_lt (mm_F st18 47 2) (fun st19 => (k52 st19)))))))))))))
def g_readPath_52 : Nat → mT → Option (mT)
  | 0, _ => none
  | n9 + 1, st => (if 0 ≤ (st.1 9) then (some st) else (if (st.1 47) = 2 then (if (st.1 45) = 0 then (if (st.1 7) ≤ (st.1 8) then (some st) else (g_readPath_85 (g_readPath_52 n9) st)) else (g_readPath_85 (g_readPath_52 n9) st)) else (g_readPath_85 (g_readPath_52 n9) st)))
def g_readPath (st : mT) : Option (mT) := (mm_lt (mm_F st 8 0) (fun st1 => (mm_lt (mm_F st1 9 (-1)) (fun st2 => (mm_lt (mm_F st2 24 0) (fun st3 => (mm_lt (mm_F st3 31 0) (fun st4 => (mm_lt (mm_F st4 43 0) (fun st5 => (mm_lt (mm_F st5 45 0) (fun st6 => (mm_lt (mm_F st6 46 0) (fun st7 => (mm_lt (mm_F st7 47 0) (fun st8 => (mm_lt (mm_F st8 48 (-1)) (fun st9 => (mm_ix 5 0 (fun j11 => mm_lt (mm_G st9 51 j11 (-1)) (fun st10 => (g_readPath_52 mF st10))))))))))))))))))))))
set_option maxRecDepth 100000 in
set_option maxHeartbeats 8000000 in
theorem cm_readPath (l : Launch) (D : va_G) (dA : Nat → ClassId) (s0 : State) (hE : ms_EV D dA s0) (h0 : hm_T) (r : Nat) (M : Nat → Nat) (hM : mm_ok r M) (z0 : hz_T) (st : mT) (q : mT) (hg : g_readPath st = some q) : ht_C l D s0 yM91 bM91 1 (Option.none : Option Jvm.ClassFile.FieldType) 5 111 0 0 [.ref r] (fun h z => h = mm_h dA h0 r M st ∧ z = z0) (fun h z vv h1 z1 => vv = none ∧ h1 = mm_h dA h0 r M q ∧ z1 = z0) := by
  refine ht_C.mk hE.1 (by decide) (Nat.le_of_ble_eq_true rfl) [(0, .ref r)] rfl ?_
  intro p e s m below meth c ls h z X hin hpre I hl
  have hx := X.1
  have hb := X.2.1
  have hml := X.2.2.1
  have hown : s.vm.findClass "MarkupStoreModel" = some m.cls := X.2.2.2.1
  have hts := X.2.2.2.2.2.2.1
  have hK := X.2.2.2.2.2.2.2.2.1
  rw [hpre.1, hpre.2] at I
  clear hpre
  have b85 : ∀ (k52 : mT → Option (mT)), (∀ (ls : Array Slot) (st : mT) (H : Heap) (locs : List Loc), k52 st = some q → lv_has ls 1 [(0, .ref r)] → hm_I D s0 s (mm_h dA h0 r M st) z0 H locs → W p l e { frames := 5, cells := 0, slots := 0, locals := 111 } s m ([.ref r] : List Value).toArray below meth c H locs 0 0 (MQ below (ht_Q D s0 (fun vv h1 z1 => vv = none ∧ h1 = mm_h dA h0 r M q ∧ z1 = z0)) ([.ref r] : List Value).toArray s 0 0 (fun q => s0.heap.size ≤ q)) (F0 m 52 ls [])) → ∀ (ls : Array Slot) (st : mT) (H : Heap) (locs : List Loc), g_readPath_85 k52 st = some q → lv_has ls 1 [(0, .ref r)] → hm_I D s0 s (mm_h dA h0 r M st) z0 H locs → W p l e { frames := 5, cells := 0, slots := 0, locals := 111 } s m ([.ref r] : List Value).toArray below meth c H locs 0 0 (MQ below (ht_Q D s0 (fun vv h1 z1 => vv = none ∧ h1 = mm_h dA h0 r M q ∧ z1 = z0)) ([.ref r] : List Value).toArray s 0 0 (fun q => s0.heap.size ≤ q)) (F0 m 85 ls []) := by
    intro k52 hk52 ls st H locs hF hl I
    unfold g_readPath_85 at hF
    refine lv_aload_n hx hb d91_85 rfl (lv_at hl 0 rfl) ?_
    refine va_get (D := D) (ci := 2) (v := .int (st.1 47)) (C := kR2) (T := kT2) (N := 60) hx hb hts ku2 hown hK (hm_one I.1 mm_hr) 0 rfl rfl 47 (by decide) (hts _ ms_k1363) (fun _ h => h) rfl d91_86 ?_
    by_cases h9_0 : (st.1 47) = 0
    · have hF := (if_pos h9_0).symm.trans hF
      refine lv_tableIn (off := 31) (tgt := 120) hx hb d91_89 (by rw [h9_0]; decide) (by rw [h9_0]; decide) (by rw [h9_0]; rfl) (by decide) ?_
      refine lv_aload_n hx hb d91_120 rfl (lv_at hl 0 rfl) ?_
      obtain ⟨q12, e9, hF⟩ := mm_bd hF
      refine ht_V (C := "MarkupStoreModel") (rest := []) (as := []) X hl (cm_beginPath l D dA s0 hE h0 r M hM z0 st q12 e9) (List.forall_mem_cons.mpr ⟨ms_k1678, List.forall_mem_cons.mpr ⟨ms_k1680, List.forall_mem_cons.mpr ⟨ms_p81, List.forall_mem_cons.mpr ⟨ms_k7, List.forall_mem_cons.mpr ⟨ms_k1681, fun _ h => absurd h List.not_mem_nil⟩⟩⟩⟩⟩) ⟨rfl, by decide +kernel, by decide +kernel, (by decide +kernel : (parseMethodDescriptor "()V").map (fun d => d.parameters.length) = some 0)⟩ (hm_recv hK I rfl mm_hr) I ⟨rfl, rfl⟩ ⟨⟨Nat.le_of_ble_eq_true rfl, Nat.le_of_ble_eq_true rfl⟩, Nat.le_of_ble_eq_true rfl, Nat.le_of_ble_eq_true rfl⟩ rfl (Nat.le_of_ble_eq_true rfl) d91_121 (fun vv h1 z1 H locs hR I9 => ?_)
      obtain ⟨e1, e2, e3⟩ := hR
      rw [e2, e3] at I9
      clear I e2 e3 e9
      have I := I9
      clear I9
      subst e1
      refine W.eq (g2 := F0 m 124 ls []) rfl ?_
      refine lv_goto hx hb d91_124 rfl ?_
      exact hk52 ls q12 _ _ hF (hl.sub [0] rfl) I
    have hF := (if_neg h9_0).symm.trans hF
    by_cases h9_1 : (st.1 47) = 1
    · have hF := (if_pos h9_1).symm.trans hF
      refine lv_tableIn (off := 38) (tgt := 127) hx hb d91_89 (by rw [h9_1]; decide) (by rw [h9_1]; decide) (by rw [h9_1]; rfl) (by decide) ?_
      refine lv_aload_n hx hb d91_127 rfl (lv_at hl 0 rfl) ?_
      obtain ⟨q13, e9, hF⟩ := mm_bd hF
      refine ht_V (C := "MarkupStoreModel") (rest := []) (as := []) X hl (cm_beginStep l D dA s0 hE h0 r M hM z0 st q13 e9) (List.forall_mem_cons.mpr ⟨ms_k1682, List.forall_mem_cons.mpr ⟨ms_k1684, List.forall_mem_cons.mpr ⟨ms_p82, List.forall_mem_cons.mpr ⟨ms_k7, List.forall_mem_cons.mpr ⟨ms_k1685, fun _ h => absurd h List.not_mem_nil⟩⟩⟩⟩⟩) ⟨rfl, by decide +kernel, by decide +kernel, (by decide +kernel : (parseMethodDescriptor "()V").map (fun d => d.parameters.length) = some 0)⟩ (hm_recv hK I rfl mm_hr) I ⟨rfl, rfl⟩ ⟨⟨Nat.le_of_ble_eq_true rfl, Nat.le_of_ble_eq_true rfl⟩, Nat.le_of_ble_eq_true rfl, Nat.le_of_ble_eq_true rfl⟩ rfl (Nat.le_of_ble_eq_true rfl) d91_128 (fun vv h1 z1 H locs hR I9 => ?_)
      obtain ⟨e1, e2, e3⟩ := hR
      rw [e2, e3] at I9
      clear I e2 e3 e9
      have I := I9
      clear I9
      subst e1
      refine W.eq (g2 := F0 m 131 ls []) rfl ?_
      refine lv_goto hx hb d91_131 rfl ?_
      exact hk52 ls q13 _ _ hF (hl.sub [0] rfl) I
    have hF := (if_neg h9_1).symm.trans hF
    by_cases h9_2 : (st.1 47) = 2
    · have hF := (if_pos h9_2).symm.trans hF
      refine lv_tableIn (off := 45) (tgt := 134) hx hb d91_89 (by rw [h9_2]; decide) (by rw [h9_2]; decide) (by rw [h9_2]; rfl) (by decide) ?_
      refine lv_aload_n hx hb d91_134 rfl (lv_at hl 0 rfl) ?_
      obtain ⟨q14, e9, hF⟩ := mm_bd hF
      refine ht_V (C := "MarkupStoreModel") (rest := []) (as := []) X hl (cm_behindStep l D dA s0 hE h0 r M hM z0 st q14 e9) (List.forall_mem_cons.mpr ⟨ms_k1689, List.forall_mem_cons.mpr ⟨ms_k1691, List.forall_mem_cons.mpr ⟨ms_p83, List.forall_mem_cons.mpr ⟨ms_k7, List.forall_mem_cons.mpr ⟨ms_k1692, fun _ h => absurd h List.not_mem_nil⟩⟩⟩⟩⟩) ⟨rfl, by decide +kernel, by decide +kernel, (by decide +kernel : (parseMethodDescriptor "()V").map (fun d => d.parameters.length) = some 0)⟩ (hm_recv hK I rfl mm_hr) I ⟨rfl, rfl⟩ ⟨⟨Nat.le_of_ble_eq_true rfl, Nat.le_of_ble_eq_true rfl⟩, Nat.le_of_ble_eq_true rfl, Nat.le_of_ble_eq_true rfl⟩ rfl (Nat.le_of_ble_eq_true rfl) d91_135 (fun vv h1 z1 H locs hR I9 => ?_)
      obtain ⟨e1, e2, e3⟩ := hR
      rw [e2, e3] at I9
      clear I e2 e3 e9
      have I := I9
      clear I9
      subst e1
      refine W.eq (g2 := F0 m 138 ls []) rfl ?_
      refine lv_goto hx hb d91_138 rfl ?_
      exact hk52 ls q14 _ _ hF (hl.sub [0] rfl) I
    have hF := (if_neg h9_2).symm.trans hF
    by_cases h9_3 : (st.1 47) = 3
    · have hF := (if_pos h9_3).symm.trans hF
      refine lv_tableIn (off := 52) (tgt := 141) hx hb d91_89 (by rw [h9_3]; decide) (by rw [h9_3]; decide) (by rw [h9_3]; rfl) (by decide) ?_
      refine lv_aload_n hx hb d91_141 rfl (lv_at hl 0 rfl) ?_
      obtain ⟨q15, e9, hF⟩ := mm_bd hF
      refine ht_V (C := "MarkupStoreModel") (rest := []) (as := []) X hl (cm_beginPredicate l D dA s0 hE h0 r M hM z0 st q15 e9) (List.forall_mem_cons.mpr ⟨ms_k1697, List.forall_mem_cons.mpr ⟨ms_k1699, List.forall_mem_cons.mpr ⟨ms_p85, List.forall_mem_cons.mpr ⟨ms_k7, List.forall_mem_cons.mpr ⟨ms_k1700, fun _ h => absurd h List.not_mem_nil⟩⟩⟩⟩⟩) ⟨rfl, by decide +kernel, by decide +kernel, (by decide +kernel : (parseMethodDescriptor "()V").map (fun d => d.parameters.length) = some 0)⟩ (hm_recv hK I rfl mm_hr) I ⟨rfl, rfl⟩ ⟨⟨Nat.le_of_ble_eq_true rfl, Nat.le_of_ble_eq_true rfl⟩, Nat.le_of_ble_eq_true rfl, Nat.le_of_ble_eq_true rfl⟩ rfl (Nat.le_of_ble_eq_true rfl) d91_142 (fun vv h1 z1 H locs hR I9 => ?_)
      obtain ⟨e1, e2, e3⟩ := hR
      rw [e2, e3] at I9
      clear I e2 e3 e9
      have I := I9
      clear I9
      subst e1
      refine W.eq (g2 := F0 m 145 ls []) rfl ?_
      refine lv_goto hx hb d91_145 rfl ?_
      exact hk52 ls q15 _ _ hF (hl.sub [0] rfl) I
    have hF := (if_neg h9_3).symm.trans hF
    refine lv_tableOut (tgt := 148) hx hb d91_89 (by have i0 : ((st.1 47)).toInt ≠ 0 := mm_ti (k := 0) h9_0; have i1 : ((st.1 47)).toInt ≠ 1 := mm_ti (k := 1) h9_1; have i2 : ((st.1 47)).toInt ≠ 2 := mm_ti (k := 2) h9_2; have i3 : ((st.1 47)).toInt ≠ 3 := mm_ti (k := 3) h9_3; omega) (by decide) ?_
    refine lv_aload_n hx hb d91_148 rfl (lv_at hl 0 rfl) ?_
    refine lv_aload_n hx hb d91_149 rfl (lv_at hl 0 rfl) ?_
    refine va_get (D := D) (ci := 2) (v := .int (st.1 8)) (C := kR2) (T := kT2) (N := 60) hx hb hts ku2 hown hK (hm_one I.1 mm_hr) 0 rfl rfl 8 (by decide) (hts _ ms_k1324) (fun _ h => h) rfl d91_150 ?_
    refine lv_bipush (v := 93) hx hb d91_153 (by decide) ?_
    obtain ⟨q16, e9, hF⟩ := mm_bd hF
    refine ht_V (C := "MarkupStoreModel") (rest := []) (as := [.int (st.1 8), .int 93]) X hl (cm_must l D dA s0 hE h0 r M hM z0 (st.1 8) 93 st q16 e9) (List.forall_mem_cons.mpr ⟨ms_k1551, List.forall_mem_cons.mpr ⟨ms_k1553, List.forall_mem_cons.mpr ⟨ms_p54, List.forall_mem_cons.mpr ⟨ms_k7, List.forall_mem_cons.mpr ⟨ms_k1554, fun _ h => absurd h List.not_mem_nil⟩⟩⟩⟩⟩) ⟨rfl, by decide +kernel, by decide +kernel, (by decide +kernel : (parseMethodDescriptor "(IC)Z").map (fun d => d.parameters.length) = some 2)⟩ (hm_recv hK I rfl mm_hr) I ⟨rfl, rfl⟩ ⟨⟨Nat.le_of_ble_eq_true rfl, Nat.le_of_ble_eq_true rfl⟩, Nat.le_of_ble_eq_true rfl, Nat.le_of_ble_eq_true rfl⟩ rfl (Nat.le_of_ble_eq_true rfl) d91_155 (fun vv h1 z1 H locs hR I9 => ?_)
    obtain ⟨e1, e2, e3⟩ := hR
    rw [e2, e3] at I9
    clear I e2 e3 e9
    have I := I9
    clear I9
    subst e1
    refine W.eq (g2 := F0 m 158 ls [.int q16.1]) rfl ?_
    refine lv_pop hx hb d91_158 rfl ?_
    refine lv_aload_n hx hb d91_159 rfl (lv_at hl 0 rfl) ?_
    refine lv_dup hx hb d91_160 rfl ?_
    refine va_get (D := D) (ci := 2) (v := .int (q16.2.1 8)) (C := kR2) (T := kT2) (N := 60) hx hb hts ku2 hown hK (hm_one I.1 mm_hr) 0 rfl rfl 8 (by decide) (hts _ ms_k1324) (fun _ h => h) rfl d91_161 ?_
    refine lv_iconst (v := 1) hx hb d91_164 (by decide) ?_
    refine lv_iadd hx hb d91_165 ?_
    obtain ⟨st17, e9, hF⟩ := mm_lt_some hF
    refine mm_put (k := 8) (ty := .int) X I (by decide) ms_k1324 rfl rfl (by decide +kernel) ⟨rfl, rfl⟩ rfl e9 d91_166 (fun H locs I => ?_)
    clear e9
    refine lv_aload_n hx hb d91_169 rfl (lv_at hl 0 rfl) ?_
    refine lv_dup hx hb d91_170 rfl ?_
    refine va_get (D := D) (ci := 2) (v := .int (st17.1 46)) (C := kR2) (T := kT2) (N := 60) hx hb hts ku2 hown hK (hm_one I.1 mm_hr) 0 rfl rfl 46 (by decide) (hts _ ms_k1362) (fun _ h => h) rfl d91_171 ?_
    refine lv_iconst (v := 1) hx hb d91_174 (by decide) ?_
    refine lv_isub hx hb d91_175 ?_
    obtain ⟨st18, e9, hF⟩ := mm_lt_some hF
    refine mm_put (k := 46) (ty := .int) X I (by decide) ms_k1362 rfl rfl (by decide +kernel) ⟨rfl, rfl⟩ rfl e9 d91_176 (fun H locs I => ?_)
    clear e9
    refine lv_aload_n hx hb d91_179 rfl (lv_at hl 0 rfl) ?_
    refine lv_iconst (v := 2) hx hb d91_180 (by decide) ?_
    obtain ⟨st19, e9, hF⟩ := mm_lt_some hF
    refine mm_put (k := 47) (ty := .int) X I (by decide) ms_k1363 rfl rfl (by decide +kernel) ⟨rfl, rfl⟩ rfl e9 d91_181 (fun H locs I => ?_)
    clear e9
    refine lv_goto hx hb d91_184 rfl ?_
    exact hk52 ls st19 _ _ hF (hl.sub [0] rfl) I
  have b52 : ∀ n9 : Nat, ∀ (ls : Array Slot) (st : mT) (H : Heap) (locs : List Loc), g_readPath_52 n9 st = some q → lv_has ls 1 [(0, .ref r)] → hm_I D s0 s (mm_h dA h0 r M st) z0 H locs → W p l e { frames := 5, cells := 0, slots := 0, locals := 111 } s m ([.ref r] : List Value).toArray below meth c H locs 0 0 (MQ below (ht_Q D s0 (fun vv h1 z1 => vv = none ∧ h1 = mm_h dA h0 r M q ∧ z1 = z0)) ([.ref r] : List Value).toArray s 0 0 (fun q => s0.heap.size ≤ q)) (F0 m 52 ls []) := by
    intro n9
    induction n9 with
    | zero => intro ls st H locs hF; cases hF
    | succ n9 hk52 =>
    intro ls st H locs hF hl I
    unfold g_readPath_52 at hF
    refine lv_aload_n hx hb d91_52 rfl (lv_at hl 0 rfl) ?_
    refine va_get (D := D) (ci := 2) (v := .int (st.1 9)) (C := kR2) (T := kT2) (N := 60) hx hb hts ku2 hown hK (hm_one I.1 mm_hr) 0 rfl rfl 9 (by decide) (hts _ ms_k1325) (fun _ h => h) rfl d91_53 ?_
    refine lv_if_ge hx hb d91_56 rfl (fun h9 => ?_) (fun h9 => ?_)
    · have hF := (if_pos h9).symm.trans hF
      exact ht_vret X d91_187 I (Nat.le_of_ble_eq_true rfl) (Nat.le_of_ble_eq_true rfl) (mm_finV hF)
    · have hF := (if_neg h9).symm.trans hF
      refine lv_aload_n hx hb d91_59 rfl (lv_at hl 0 rfl) ?_
      refine va_get (D := D) (ci := 2) (v := .int (st.1 47)) (C := kR2) (T := kT2) (N := 60) hx hb hts ku2 hown hK (hm_one I.1 mm_hr) 0 rfl rfl 47 (by decide) (hts _ ms_k1363) (fun _ h => h) rfl d91_60 ?_
      refine lv_iconst (v := 2) hx hb d91_63 (by decide) ?_
      refine lv_icmp_ne hx hb d91_64 rfl (fun h9 => ?_) (fun h9 => ?_)
      · have hF := (if_neg h9).symm.trans hF
        exact b85 (g_readPath_52 n9) hk52 ls st _ _ hF (hl.sub [0] rfl) I
      · have hF := (if_pos h9).symm.trans hF
        refine lv_aload_n hx hb d91_67 rfl (lv_at hl 0 rfl) ?_
        refine va_get (D := D) (ci := 2) (v := .int (st.1 45)) (C := kR2) (T := kT2) (N := 60) hx hb hts ku2 hown hK (hm_one I.1 mm_hr) 0 rfl rfl 45 (by decide) (hts _ ms_k1361) (fun _ h => h) rfl d91_68 ?_
        refine lv_if_ne hx hb d91_71 rfl (fun h9 => ?_) (fun h9 => ?_)
        · have hF := (if_neg h9).symm.trans hF
          exact b85 (g_readPath_52 n9) hk52 ls st _ _ hF (hl.sub [0] rfl) I
        · have hF := (if_pos h9).symm.trans hF
          refine lv_aload_n hx hb d91_74 rfl (lv_at hl 0 rfl) ?_
          refine va_get (D := D) (ci := 2) (v := .int (st.1 8)) (C := kR2) (T := kT2) (N := 60) hx hb hts ku2 hown hK (hm_one I.1 mm_hr) 0 rfl rfl 8 (by decide) (hts _ ms_k1324) (fun _ h => h) rfl d91_75 ?_
          refine lv_aload_n hx hb d91_78 rfl (lv_at hl 0 rfl) ?_
          refine va_get (D := D) (ci := 2) (v := .int (st.1 7)) (C := kR2) (T := kT2) (N := 60) hx hb hts ku2 hown hK (hm_one I.1 mm_hr) 0 rfl rfl 7 (by decide) (hts _ ms_k1323) (fun _ h => h) rfl d91_79 ?_
          refine lv_icmp_ge hx hb d91_82 rfl (fun h9 => ?_) (fun h9 => ?_)
          · have hF := (if_pos h9).symm.trans hF
            exact ht_vret X d91_187 I (Nat.le_of_ble_eq_true rfl) (Nat.le_of_ble_eq_true rfl) (mm_finV hF)
          · have hF := (if_neg h9).symm.trans hF
            exact b85 (g_readPath_52 n9) hk52 ls st _ _ hF (hl.sub [0] rfl) I
  have hF := hg
  unfold g_readPath at hF
  refine lv_aload_n hx hb d91_0 rfl (lv_at hl 0 rfl) ?_
  refine lv_iconst (v := 0) hx hb d91_1 (by decide) ?_
  obtain ⟨st1, e9, hF⟩ := mm_lt_some hF
  refine mm_put (k := 8) (ty := .int) X I (by decide) ms_k1324 rfl rfl (by decide +kernel) ⟨rfl, rfl⟩ rfl e9 d91_2 (fun H locs I => ?_)
  clear e9
  refine lv_aload_n hx hb d91_5 rfl (lv_at hl 0 rfl) ?_
  refine lv_iconst (v := (-1)) hx hb d91_6 (by decide) ?_
  obtain ⟨st2, e9, hF⟩ := mm_lt_some hF
  refine mm_put (k := 9) (ty := .int) X I (by decide) ms_k1325 rfl rfl (by decide +kernel) ⟨rfl, rfl⟩ rfl e9 d91_7 (fun H locs I => ?_)
  clear e9
  refine lv_aload_n hx hb d91_10 rfl (lv_at hl 0 rfl) ?_
  refine lv_iconst (v := 0) hx hb d91_11 (by decide) ?_
  obtain ⟨st3, e9, hF⟩ := mm_lt_some hF
  refine mm_put (k := 24) (ty := .int) X I (by decide) ms_k1340 rfl rfl (by decide +kernel) ⟨rfl, rfl⟩ rfl e9 d91_12 (fun H locs I => ?_)
  clear e9
  refine lv_aload_n hx hb d91_15 rfl (lv_at hl 0 rfl) ?_
  refine lv_iconst (v := 0) hx hb d91_16 (by decide) ?_
  obtain ⟨st4, e9, hF⟩ := mm_lt_some hF
  refine mm_put (k := 31) (ty := .int) X I (by decide) ms_k1347 rfl rfl (by decide +kernel) ⟨rfl, rfl⟩ rfl e9 d91_17 (fun H locs I => ?_)
  clear e9
  refine lv_aload_n hx hb d91_20 rfl (lv_at hl 0 rfl) ?_
  refine lv_iconst (v := 0) hx hb d91_21 (by decide) ?_
  obtain ⟨st5, e9, hF⟩ := mm_lt_some hF
  refine mm_put (k := 43) (ty := .int) X I (by decide) ms_k1359 rfl rfl (by decide +kernel) ⟨rfl, rfl⟩ rfl e9 d91_22 (fun H locs I => ?_)
  clear e9
  refine lv_aload_n hx hb d91_25 rfl (lv_at hl 0 rfl) ?_
  refine lv_iconst (v := 0) hx hb d91_26 (by decide) ?_
  obtain ⟨st6, e9, hF⟩ := mm_lt_some hF
  refine mm_put (k := 45) (ty := .int) X I (by decide) ms_k1361 rfl rfl (by decide +kernel) ⟨rfl, rfl⟩ rfl e9 d91_27 (fun H locs I => ?_)
  clear e9
  refine lv_aload_n hx hb d91_30 rfl (lv_at hl 0 rfl) ?_
  refine lv_iconst (v := 0) hx hb d91_31 (by decide) ?_
  obtain ⟨st7, e9, hF⟩ := mm_lt_some hF
  refine mm_put (k := 46) (ty := .int) X I (by decide) ms_k1362 rfl rfl (by decide +kernel) ⟨rfl, rfl⟩ rfl e9 d91_32 (fun H locs I => ?_)
  clear e9
  refine lv_aload_n hx hb d91_35 rfl (lv_at hl 0 rfl) ?_
  refine lv_iconst (v := 0) hx hb d91_36 (by decide) ?_
  obtain ⟨st8, e9, hF⟩ := mm_lt_some hF
  refine mm_put (k := 47) (ty := .int) X I (by decide) ms_k1363 rfl rfl (by decide +kernel) ⟨rfl, rfl⟩ rfl e9 d91_37 (fun H locs I => ?_)
  clear e9
  refine lv_aload_n hx hb d91_40 rfl (lv_at hl 0 rfl) ?_
  refine lv_iconst (v := (-1)) hx hb d91_41 (by decide) ?_
  obtain ⟨st9, e9, hF⟩ := mm_lt_some hF
  refine mm_put (k := 48) (ty := .int) X I (by decide) ms_k1364 rfl rfl (by decide +kernel) ⟨rfl, rfl⟩ rfl e9 d91_42 (fun H locs I => ?_)
  clear e9
  refine lv_aload_n hx hb d91_45 rfl (lv_at hl 0 rfl) ?_
  refine va_get (D := D) (ci := 2) (v := .ref (M 51)) (C := kR2) (T := kT2) (N := 60) hx hb hts ku2 hown hK (hm_one I.1 mm_hr) 0 rfl rfl 51 (by decide) (hts _ ms_k1367) (fun _ h => h) rfl d91_46 ?_
  refine lv_iconst (v := 0) hx hb d91_49 (by decide) ?_
  refine lv_iconst (v := (-1)) hx hb d91_50 (by decide) ?_
  obtain ⟨i9, hF⟩ := mm_ix_some hF
  obtain ⟨st10, e9, hF⟩ := mm_lt_some hF
  refine mm_iast (k := 51) X I hM (by decide) 0 (fun _ => rfl) rfl i9 e9 d91_51 (fun H locs I => ?_)
  clear e9 i9
  exact b52 mF ls st10 _ _ hF (hl.sub [0] rfl) I

def g_entry (y1 : Int32) (st : mT) : Option (mT) := (mm_ix 41 (st.1 53) (fun j2 => mm_lt (mm_G st 54 j2 y1) (fun st1 => (mm_lt (mm_F st1 53 ((st1.1 53) + 1)) (fun st3 => (some st3))))))
set_option maxRecDepth 100000 in
set_option maxHeartbeats 8000000 in
theorem cm_entry (l : Launch) (D : va_G) (dA : Nat → ClassId) (s0 : State) (hE : ms_EV D dA s0) (h0 : hm_T) (r : Nat) (M : Nat → Nat) (hM : mm_ok r M) (z0 : hz_T) (y1 : Int32) (st : mT) (q : mT) (hg : g_entry y1 st = some q) : ht_C l D s0 yM92 bM92 2 (Option.none : Option Jvm.ClassFile.FieldType) 0 0 0 0 [.ref r, .int y1] (fun h z => h = mm_h dA h0 r M st ∧ z = z0) (fun h z vv h1 z1 => vv = none ∧ h1 = mm_h dA h0 r M q ∧ z1 = z0) := by
  refine ht_C.mk hE.1 (by decide) (Nat.le_of_ble_eq_true rfl) [(0, .ref r), (1, .int y1)] rfl ?_
  intro p e s m below meth c ls h z X hin hpre I hl
  have hx := X.1
  have hb := X.2.1
  have hml := X.2.2.1
  have hown : s.vm.findClass "MarkupStoreModel" = some m.cls := X.2.2.2.1
  have hts := X.2.2.2.2.2.2.1
  have hK := X.2.2.2.2.2.2.2.2.1
  rw [hpre.1, hpre.2] at I
  clear hpre
  have hF := hg
  unfold g_entry at hF
  refine lv_aload_n hx hb d92_0 rfl (lv_at hl 0 rfl) ?_
  refine va_get (D := D) (ci := 2) (v := .ref (M 54)) (C := kR2) (T := kT2) (N := 60) hx hb hts ku2 hown hK (hm_one I.1 mm_hr) 0 rfl rfl 54 (by decide) (hts _ ms_k1370) (fun _ h => h) rfl d92_1 ?_
  refine lv_aload_n hx hb d92_4 rfl (lv_at hl 0 rfl) ?_
  refine va_get (D := D) (ci := 2) (v := .int (st.1 53)) (C := kR2) (T := kT2) (N := 60) hx hb hts ku2 hown hK (hm_one I.1 mm_hr) 0 rfl rfl 53 (by decide) (hts _ ms_k1369) (fun _ h => h) rfl d92_5 ?_
  refine lv_iload_n hx hb d92_8 rfl (lv_at hl 1 rfl) ?_
  obtain ⟨i9, hF⟩ := mm_ix_some hF
  obtain ⟨st1, e9, hF⟩ := mm_lt_some hF
  refine mm_iast (k := 54) X I hM (by decide) 0 (fun _ => rfl) rfl i9 e9 d92_9 (fun H locs I => ?_)
  clear e9 i9
  refine lv_aload_n hx hb d92_10 rfl (lv_at hl 0 rfl) ?_
  refine lv_dup hx hb d92_11 rfl ?_
  refine va_get (D := D) (ci := 2) (v := .int (st1.1 53)) (C := kR2) (T := kT2) (N := 60) hx hb hts ku2 hown hK (hm_one I.1 mm_hr) 0 rfl rfl 53 (by decide) (hts _ ms_k1369) (fun _ h => h) rfl d92_12 ?_
  refine lv_iconst (v := 1) hx hb d92_15 (by decide) ?_
  refine lv_iadd hx hb d92_16 ?_
  obtain ⟨st3, e9, hF⟩ := mm_lt_some hF
  refine mm_put (k := 53) (ty := .int) X I (by decide) ms_k1369 rfl rfl (by decide +kernel) ⟨rfl, rfl⟩ rfl e9 d92_17 (fun H locs I => ?_)
  clear e9
  exact ht_vret X d92_20 I (Nat.le_of_ble_eq_true rfl) (Nat.le_of_ble_eq_true rfl) (mm_finV hF)

def g_entries_2 : Nat → Int32 → Int32 → mT → Option (mT)
  | 0, _, _, _ => none
  | n9 + 1, x2, x3, st => (if x2 ≤ x3 then (some st) else ((g_entry x3 st).bind (fun q1 => ((g_entries_2 n9) x2 (x3 + 1) q1))))
def g_entries (y1 : Int32) (y2 : Int32) (st : mT) : Option (mT) := (g_entries_2 mF y2 y1 st)
set_option maxRecDepth 100000 in
set_option maxHeartbeats 8000000 in
theorem cm_entries (l : Launch) (D : va_G) (dA : Nat → ClassId) (s0 : State) (hE : ms_EV D dA s0) (h0 : hm_T) (r : Nat) (M : Nat → Nat) (hM : mm_ok r M) (z0 : hz_T) (y1 : Int32) (y2 : Int32) (st : mT) (q : mT) (hg : g_entries y1 y2 st = some q) : ht_C l D s0 yM93 bM93 4 (Option.none : Option Jvm.ClassFile.FieldType) 1 21 0 0 [.ref r, .int y1, .int y2] (fun h z => h = mm_h dA h0 r M st ∧ z = z0) (fun h z vv h1 z1 => vv = none ∧ h1 = mm_h dA h0 r M q ∧ z1 = z0) := by
  refine ht_C.mk hE.1 (by decide) (Nat.le_of_ble_eq_true rfl) [(0, .ref r), (1, .int y1), (2, .int y2)] rfl ?_
  intro p e s m below meth c ls h z X hin hpre I hl
  have hx := X.1
  have hb := X.2.1
  have hml := X.2.2.1
  have hown : s.vm.findClass "MarkupStoreModel" = some m.cls := X.2.2.2.1
  have hts := X.2.2.2.2.2.2.1
  have hK := X.2.2.2.2.2.2.2.2.1
  rw [hpre.1, hpre.2] at I
  clear hpre
  have b2 : ∀ n9 : Nat, ∀ (ls : Array Slot) (x2 : Int32) (x3 : Int32) (st : mT) (H : Heap) (locs : List Loc), g_entries_2 n9 x2 x3 st = some q → lv_has ls 4 [(0, .ref r), (2, .int x2), (3, .int x3)] → hm_I D s0 s (mm_h dA h0 r M st) z0 H locs → W p l e { frames := 1, cells := 0, slots := 0, locals := 21 } s m ([.ref r, .int y1, .int y2] : List Value).toArray below meth c H locs 0 0 (MQ below (ht_Q D s0 (fun vv h1 z1 => vv = none ∧ h1 = mm_h dA h0 r M q ∧ z1 = z0)) ([.ref r, .int y1, .int y2] : List Value).toArray s 0 0 (fun q => s0.heap.size ≤ q)) (F0 m 2 ls []) := by
    intro n9
    induction n9 with
    | zero => intro ls x2 x3 st H locs hF; cases hF
    | succ n9 hk2 =>
    intro ls x2 x3 st H locs hF hl I
    unfold g_entries_2 at hF
    refine lv_iload_n hx hb d93_2 rfl (lv_at hl 2 rfl) ?_
    refine lv_iload_n hx hb d93_3 rfl (lv_at hl 1 rfl) ?_
    refine lv_icmp_ge hx hb d93_4 rfl (fun h9 => ?_) (fun h9 => ?_)
    · have hF := (if_pos h9).symm.trans hF
      exact ht_vret X d93_18 I (Nat.le_of_ble_eq_true rfl) (Nat.le_of_ble_eq_true rfl) (mm_finV hF)
    · have hF := (if_neg h9).symm.trans hF
      refine lv_aload_n hx hb d93_7 rfl (lv_at hl 0 rfl) ?_
      refine lv_iload_n hx hb d93_8 rfl (lv_at hl 2 rfl) ?_
      obtain ⟨q1, e9, hF⟩ := mm_bd hF
      refine ht_V (C := "MarkupStoreModel") (rest := []) (as := [.int x3]) X hl (cm_entry l D dA s0 hE h0 r M hM z0 x3 st q1 e9) (List.forall_mem_cons.mpr ⟨ms_k1728, List.forall_mem_cons.mpr ⟨ms_k1730, List.forall_mem_cons.mpr ⟨ms_p92, List.forall_mem_cons.mpr ⟨ms_k7, List.forall_mem_cons.mpr ⟨ms_k1731, fun _ h => absurd h List.not_mem_nil⟩⟩⟩⟩⟩) ⟨rfl, by decide +kernel, by decide +kernel, (by decide +kernel : (parseMethodDescriptor "(I)V").map (fun d => d.parameters.length) = some 1)⟩ (hm_recv hK I rfl mm_hr) I ⟨rfl, rfl⟩ ⟨⟨Nat.le_of_ble_eq_true rfl, Nat.le_of_ble_eq_true rfl⟩, Nat.le_of_ble_eq_true rfl, Nat.le_of_ble_eq_true rfl⟩ rfl (Nat.le_of_ble_eq_true rfl) d93_9 (fun vv h1 z1 H locs hR I9 => ?_)
      obtain ⟨e1, e2, e3⟩ := hR
      rw [e2, e3] at I9
      clear I e2 e3 e9
      have I := I9
      clear I9
      subst e1
      refine W.eq (g2 := F0 m 12 ls []) rfl ?_
      refine lv_iinc (k := 2) (v := (x3 + 1)) hx hb d93_12 hl rfl (rfl) (by decide) rfl (fun ls hl => ?_)
      have hl : lv_has ls 4 [(3, .int (x3 + 1)), (0, .ref r), (2, .int x2)] := hl
      refine lv_goto hx hb d93_15 rfl ?_
      exact hk2 ls x2 (x3 + 1) q1 _ _ hF (hl.sub [1, 2, 0] rfl) I
  have hF := hg
  unfold g_entries at hF
  refine lv_iload_n hx hb d93_0 rfl (lv_at hl 1 rfl) ?_
  refine lv_istore_n hx hb d93_1 rfl hl (by decide) rfl (fun ls hl => ?_)
  have hl : lv_has ls 4 [(3, .int y1), (0, .ref r), (1, .int y1), (2, .int y2)] := hl
  exact b2 mF ls y2 y1 st _ _ hF (hl.sub [1, 3, 0] rfl) I

def g_sameParent (y1 : Int32) (y2 : Int32) (st : mT) : Option (Int32 × mT) := ((g_doc y1 st).bind (fun q1 => ((g_f q1.1 2 q1.2).bind (fun q2 => ((g_doc y2 q2.2).bind (fun q3 => ((g_f q3.1 2 q3.2).bind (fun q4 => (if q2.1 = q4.1 then (some (1, q4.2)) else (some (0, q4.2)))))))))))
set_option maxRecDepth 100000 in
set_option maxHeartbeats 8000000 in
theorem cm_sameParent (l : Launch) (D : va_G) (dA : Nat → ClassId) (s0 : State) (hE : ms_EV D dA s0) (h0 : hm_T) (r : Nat) (M : Nat → Nat) (hM : mm_ok r M) (z0 : hz_T) (y1 : Int32) (y2 : Int32) (st : mT) (q : Int32 × mT) (hg : g_sameParent y1 y2 st = some q) : ht_C l D s0 yM94 bM94 3 (Option.some Jvm.ClassFile.FieldType.boolean) 1 22 0 0 [.ref r, .int y1, .int y2] (fun h z => h = mm_h dA h0 r M st ∧ z = z0) (fun h z vv h1 z1 => vv = some (.int q.1) ∧ h1 = mm_h dA h0 r M q.2 ∧ z1 = z0) := by
  refine ht_C.mk hE.1 (by decide) (Nat.le_of_ble_eq_true rfl) [(0, .ref r), (1, .int y1), (2, .int y2)] rfl ?_
  intro p e s m below meth c ls h z X hin hpre I hl
  have hx := X.1
  have hb := X.2.1
  have hml := X.2.2.1
  have hown : s.vm.findClass "MarkupStoreModel" = some m.cls := X.2.2.2.1
  have hts := X.2.2.2.2.2.2.1
  have hK := X.2.2.2.2.2.2.2.2.1
  rw [hpre.1, hpre.2] at I
  clear hpre
  have hF := hg
  unfold g_sameParent at hF
  refine lv_aload_n hx hb d94_0 rfl (lv_at hl 0 rfl) ?_
  refine lv_aload_n hx hb d94_1 rfl (lv_at hl 0 rfl) ?_
  refine lv_iload_n hx hb d94_2 rfl (lv_at hl 1 rfl) ?_
  obtain ⟨q1, e9, hF⟩ := mm_bd hF
  refine ht_V (C := "MarkupStoreModel") (rest := [.ref r]) (as := [.int y1]) X hl (cm_doc l D dA s0 hE h0 r M hM z0 y1 st q1 e9) (List.forall_mem_cons.mpr ⟨ms_k1607, List.forall_mem_cons.mpr ⟨ms_k1609, List.forall_mem_cons.mpr ⟨ms_p67, List.forall_mem_cons.mpr ⟨ms_k7, List.forall_mem_cons.mpr ⟨ms_k1610, fun _ h => absurd h List.not_mem_nil⟩⟩⟩⟩⟩) ⟨rfl, by decide +kernel, by decide +kernel, (by decide +kernel : (parseMethodDescriptor "(I)I").map (fun d => d.parameters.length) = some 1)⟩ (hm_recv hK I rfl mm_hr) I ⟨rfl, rfl⟩ ⟨⟨Nat.le_of_ble_eq_true rfl, Nat.le_of_ble_eq_true rfl⟩, Nat.le_of_ble_eq_true rfl, Nat.le_of_ble_eq_true rfl⟩ rfl (Nat.le_of_ble_eq_true rfl) d94_3 (fun vv h1 z1 H locs hR I9 => ?_)
  obtain ⟨e1, e2, e3⟩ := hR
  rw [e2, e3] at I9
  clear I e2 e3 e9
  have I := I9
  clear I9
  subst e1
  refine W.eq (g2 := F0 m 6 ls [.int q1.1, .ref r]) rfl ?_
  refine lv_iconst (v := 2) hx hb d94_6 (by decide) ?_
  obtain ⟨q2, e9, hF⟩ := mm_bd hF
  refine ht_V (C := "MarkupStoreModel") (rest := []) (as := [.int q1.1, .int 2]) X hl (cm_f l D dA s0 hE h0 r M hM z0 q1.1 2 q1.2 q2 e9) (List.forall_mem_cons.mpr ⟨ms_k1587, List.forall_mem_cons.mpr ⟨ms_k1589, List.forall_mem_cons.mpr ⟨ms_p63, List.forall_mem_cons.mpr ⟨ms_k7, List.forall_mem_cons.mpr ⟨ms_k1590, fun _ h => absurd h List.not_mem_nil⟩⟩⟩⟩⟩) ⟨rfl, by decide +kernel, by decide +kernel, (by decide +kernel : (parseMethodDescriptor "(II)I").map (fun d => d.parameters.length) = some 2)⟩ (hm_recv hK I rfl mm_hr) I ⟨rfl, rfl⟩ ⟨⟨Nat.le_of_ble_eq_true rfl, Nat.le_of_ble_eq_true rfl⟩, Nat.le_of_ble_eq_true rfl, Nat.le_of_ble_eq_true rfl⟩ rfl (Nat.le_of_ble_eq_true rfl) d94_7 (fun vv h1 z1 H locs hR I9 => ?_)
  obtain ⟨e1, e2, e3⟩ := hR
  rw [e2, e3] at I9
  clear I e2 e3 e9
  have I := I9
  clear I9
  subst e1
  refine W.eq (g2 := F0 m 10 ls [.int q2.1]) rfl ?_
  refine lv_aload_n hx hb d94_10 rfl (lv_at hl 0 rfl) ?_
  refine lv_aload_n hx hb d94_11 rfl (lv_at hl 0 rfl) ?_
  refine lv_iload_n hx hb d94_12 rfl (lv_at hl 2 rfl) ?_
  obtain ⟨q3, e9, hF⟩ := mm_bd hF
  refine ht_V (C := "MarkupStoreModel") (rest := [.ref r, .int q2.1]) (as := [.int y2]) X hl (cm_doc l D dA s0 hE h0 r M hM z0 y2 q2.2 q3 e9) (List.forall_mem_cons.mpr ⟨ms_k1607, List.forall_mem_cons.mpr ⟨ms_k1609, List.forall_mem_cons.mpr ⟨ms_p67, List.forall_mem_cons.mpr ⟨ms_k7, List.forall_mem_cons.mpr ⟨ms_k1610, fun _ h => absurd h List.not_mem_nil⟩⟩⟩⟩⟩) ⟨rfl, by decide +kernel, by decide +kernel, (by decide +kernel : (parseMethodDescriptor "(I)I").map (fun d => d.parameters.length) = some 1)⟩ (hm_recv hK I rfl mm_hr) I ⟨rfl, rfl⟩ ⟨⟨Nat.le_of_ble_eq_true rfl, Nat.le_of_ble_eq_true rfl⟩, Nat.le_of_ble_eq_true rfl, Nat.le_of_ble_eq_true rfl⟩ rfl (Nat.le_of_ble_eq_true rfl) d94_13 (fun vv h1 z1 H locs hR I9 => ?_)
  obtain ⟨e1, e2, e3⟩ := hR
  rw [e2, e3] at I9
  clear I e2 e3 e9
  have I := I9
  clear I9
  subst e1
  refine W.eq (g2 := F0 m 16 ls [.int q3.1, .ref r, .int q2.1]) rfl ?_
  refine lv_iconst (v := 2) hx hb d94_16 (by decide) ?_
  obtain ⟨q4, e9, hF⟩ := mm_bd hF
  refine ht_V (C := "MarkupStoreModel") (rest := [.int q2.1]) (as := [.int q3.1, .int 2]) X hl (cm_f l D dA s0 hE h0 r M hM z0 q3.1 2 q3.2 q4 e9) (List.forall_mem_cons.mpr ⟨ms_k1587, List.forall_mem_cons.mpr ⟨ms_k1589, List.forall_mem_cons.mpr ⟨ms_p63, List.forall_mem_cons.mpr ⟨ms_k7, List.forall_mem_cons.mpr ⟨ms_k1590, fun _ h => absurd h List.not_mem_nil⟩⟩⟩⟩⟩) ⟨rfl, by decide +kernel, by decide +kernel, (by decide +kernel : (parseMethodDescriptor "(II)I").map (fun d => d.parameters.length) = some 2)⟩ (hm_recv hK I rfl mm_hr) I ⟨rfl, rfl⟩ ⟨⟨Nat.le_of_ble_eq_true rfl, Nat.le_of_ble_eq_true rfl⟩, Nat.le_of_ble_eq_true rfl, Nat.le_of_ble_eq_true rfl⟩ rfl (Nat.le_of_ble_eq_true rfl) d94_17 (fun vv h1 z1 H locs hR I9 => ?_)
  obtain ⟨e1, e2, e3⟩ := hR
  rw [e2, e3] at I9
  clear I e2 e3 e9
  have I := I9
  clear I9
  subst e1
  refine W.eq (g2 := F0 m 20 ls [.int q4.1, .int q2.1]) rfl ?_
  refine lv_icmp_ne hx hb d94_20 rfl (fun h9 => ?_) (fun h9 => ?_)
  · have hF := (if_neg h9).symm.trans hF
    refine lv_iconst (v := 0) hx hb d94_27 (by decide) ?_
    exact ht_zret X d94_28 I (Nat.le_of_ble_eq_true rfl) (Nat.le_of_ble_eq_true rfl) (mm_fin hF) rfl
  · have hF := (if_pos h9).symm.trans hF
    refine lv_iconst (v := 1) hx hb d94_23 (by decide) ?_
    refine lv_goto hx hb d94_24 rfl ?_
    exact ht_zret X d94_28 I (Nat.le_of_ble_eq_true rfl) (Nat.le_of_ble_eq_true rfl) (mm_fin hF) rfl

def g_gather_279 (k236 : Int32 → Int32 → Int32 → mT → Option (mT)) (x1 : Int32) (x2 : Int32) (x4 : Int32) (st : mT) : Option (mT) := (k236 x1 x2 (x4 + (-1)) st)
def g_gather_273 (k236 : Int32 → Int32 → Int32 → mT → Option (mT)) (x1 : Int32) (x2 : Int32) (x4 : Int32) (st : mT) : Option (mT) := ((g_entry x4 st).bind (fun q9 => (g_gather_279 k236 x1 x2 x4 q9)))
def g_gather_257 (k236 : Int32 → Int32 → Int32 → mT → Option (mT)) (x1 : Int32) (x2 : Int32) (x4 : Int32) (st : mT) : Option (mT) := (if x1 = 10 then ((g_end x4 st).bind (fun q8 => (if x2 < q8.1 then (g_gather_279 k236 x1 x2 x4 q8.2) else (g_gather_273 k236 x1 x2 x4 q8.2)))) else (g_gather_279 k236 x1 x2 x4 st))
def g_gather_236 : Nat → Int32 → Int32 → Int32 → mT → Option (mT)
  | 0, _, _, _, _ => none
  | n9 + 1, x1, x2, x4, st => (if x4 < 0 then (some st) else (if x1 = 8 then ((g_sameParent x4 x2 st).bind (fun q10 => (if q10.1 = 0 then (g_gather_257 (g_gather_236 n9) x1 x2 x4 q10.2) else (g_gather_273 (g_gather_236 n9) x1 x2 x4 q10.2)))) else (g_gather_257 (g_gather_236 n9) x1 x2 x4 st)))
def g_gather_225 (k174 : Int32 → Int32 → Int32 → Int32 → mT → Option (mT)) (x1 : Int32) (x2 : Int32) (x3 : Int32) (x4 : Int32) (st : mT) : Option (mT) := (k174 x1 x2 x3 (x4 + 1) st)
def g_gather_219 (k174 : Int32 → Int32 → Int32 → Int32 → mT → Option (mT)) (x1 : Int32) (x2 : Int32) (x3 : Int32) (x4 : Int32) (st : mT) : Option (mT) := ((g_entry x4 st).bind (fun q12 => (g_gather_225 k174 x1 x2 x3 x4 q12)))
def g_gather_203 (k174 : Int32 → Int32 → Int32 → Int32 → mT → Option (mT)) (x1 : Int32) (x2 : Int32) (x3 : Int32) (x4 : Int32) (st : mT) : Option (mT) := (if x1 = 7 then ((g_sameParent x4 x2 st).bind (fun q11 => (if q11.1 = 0 then (g_gather_225 k174 x1 x2 x3 x4 q11.2) else (g_gather_219 k174 x1 x2 x3 x4 q11.2)))) else (g_gather_225 k174 x1 x2 x3 x4 st))
def g_gather_174 : Nat → Int32 → Int32 → Int32 → Int32 → mT → Option (mT)
  | 0, _, _, _, _, _ => none
  | n9 + 1, x1, x2, x3, x4, st => (if x3 ≤ x4 then (g_gather_236 mF x1 x2 (x2 - 1) st) else (if x1 = 0 then ((g_doc x4 st).bind (fun q13 => ((g_f q13.1 2 q13.2).bind (fun q14 => ((g_doc x2 q14.2).bind (fun q15 => (if q14.1 = q15.1 then (g_gather_219 (g_gather_174 n9) x1 x2 x3 x4 q15.2) else (g_gather_203 (g_gather_174 n9) x1 x2 x3 x4 q15.2)))))))) else (g_gather_203 (g_gather_174 n9) x1 x2 x3 x4 st)))
def g_gather_169 (x1 : Int32) (x2 : Int32) (x3 : Int32) (st : mT) : Option (mT) := (g_gather_174 mF x1 x2 x3 (x2 + 1) st)
def g_gather_164 (k133 : Int32 → Int32 → Int32 → Int32 → mT → Option (mT)) (x1 : Int32) (x2 : Int32) (x3 : Int32) (w0 : Int32) (st : mT) : Option (mT) := (k133 x1 x2 x3 w0 st)
def g_gather_133 : Nat → Int32 → Int32 → Int32 → Int32 → mT → Option (mT)
  | 0, _, _, _, _, _ => none
  | n9 + 1, x1, x2, x3, x4, st => (if x4 < 0 then (g_gather_169 x1 x2 x3 st) else ((g_order x4 st).bind (fun q16 => ((g_entry q16.1 q16.2).bind (fun q17 => (if x1 = 3 then (g_gather_164 (g_gather_133 n9) x1 x2 x3 (-1) q17) else ((g_f x4 2 q17).bind (fun q18 => (g_gather_164 (g_gather_133 n9) x1 x2 x3 q18.1 q18.2)))))))))
def g_gather_121 (x1 : Int32) (x2 : Int32) (x3 : Int32) (st : mT) : Option (mT) := ((g_doc x2 st).bind (fun q6 => ((g_f q6.1 2 q6.2).bind (fun q7 => (g_gather_133 mF x1 x2 x3 q7.1 q7.2)))))
def g_gather_106 (x1 : Int32) (x2 : Int32) (x3 : Int32) (st : mT) : Option (mT) := (if x1 = 3 then (g_gather_121 x1 x2 x3 st) else (if x1 = 4 then (g_gather_121 x1 x2 x3 st) else (if x1 = 5 then (g_gather_121 x1 x2 x3 st) else (g_gather_169 x1 x2 x3 st))))
def g_gather_90 (x1 : Int32) (x2 : Int32) (x3 : Int32) (st : mT) : Option (mT) := (if x1 = 9 then ((g_end x2 st).bind (fun q19 => ((g_entries q19.1 x3 q19.2).bind (fun q20 => (g_gather_106 x1 x2 x3 q20))))) else (g_gather_106 x1 x2 x3 st))
def g_gather_78 (x1 : Int32) (x2 : Int32) (x3 : Int32) (st : mT) : Option (mT) := ((g_end x2 st).bind (fun q4 => ((g_entries (x2 + 1) q4.1 q4.2).bind (fun q5 => (g_gather_90 x1 x2 x3 q5)))))
def g_gather_68 (x1 : Int32) (x2 : Int32) (x3 : Int32) (st : mT) : Option (mT) := (if x1 = 1 then (g_gather_78 x1 x2 x3 st) else (if x1 = 2 then (g_gather_78 x1 x2 x3 st) else (g_gather_90 x1 x2 x3 st)))
def g_gather_63 (x1 : Int32) (x2 : Int32) (x3 : Int32) (st : mT) : Option (mT) := ((g_entry x2 st).bind (fun q3 => (g_gather_68 x1 x2 x3 q3)))
def g_gather_43 (w0 : Int32) (w1 : Int32) (st : mT) : Option (mT) := ((g_entries w1 w0 st).bind (fun q21 => (some q21)))
def g_gather_38 (x3 : Int32) (w0 : Int32) (st : mT) : Option (mT) := (g_gather_43 x3 w0 st)
def g_gather_28 (x1 : Int32) (x3 : Int32) (w0 : Int32) (st : mT) : Option (mT) := (if x1 = 1 then (g_gather_38 x3 w0 st) else (if x1 = 2 then (g_gather_38 x3 w0 st) else (g_gather_43 0 w0 st)))
def g_gather (y1 : Int32) (y2 : Int32) (st : mT) : Option (mT) := (mm_lt (mm_F st 53 0) (fun st1 => ((g_count st1).bind (fun q2 => (if 0 ≤ y2 then (if y1 = 2 then (g_gather_63 y1 y2 q2.1 q2.2) else (if y1 = 5 then (g_gather_63 y1 y2 q2.1 q2.2) else (if y1 = 6 then (g_gather_63 y1 y2 q2.1 q2.2) else (g_gather_68 y1 y2 q2.1 q2.2)))) else (if y1 = 0 then (if q2.1 ≤ 0 then (g_gather_28 y1 q2.1 0 q2.2) else (g_gather_43 1 0 q2.2)) else (g_gather_28 y1 q2.1 0 q2.2)))))))
set_option maxRecDepth 100000 in
set_option maxHeartbeats 8000000 in
theorem cm_gather (l : Launch) (D : va_G) (dA : Nat → ClassId) (s0 : State) (hE : ms_EV D dA s0) (h0 : hm_T) (r : Nat) (M : Nat → Nat) (hM : mm_ok r M) (z0 : hz_T) (y1 : Int32) (y2 : Int32) (st : mT) (q : mT) (hg : g_gather y1 y2 st = some q) : ht_C l D s0 yM95 bM95 5 (Option.none : Option Jvm.ClassFile.FieldType) 3 68 0 0 [.ref r, .int y1, .int y2] (fun h z => h = mm_h dA h0 r M st ∧ z = z0) (fun h z vv h1 z1 => vv = none ∧ h1 = mm_h dA h0 r M q ∧ z1 = z0) := by
  refine ht_C.mk hE.1 (by decide) (Nat.le_of_ble_eq_true rfl) [(0, .ref r), (1, .int y1), (2, .int y2)] rfl ?_
  intro p e s m below meth c ls h z X hin hpre I hl
  have hx := X.1
  have hb := X.2.1
  have hml := X.2.2.1
  have hown : s.vm.findClass "MarkupStoreModel" = some m.cls := X.2.2.2.1
  have hts := X.2.2.2.2.2.2.1
  have hK := X.2.2.2.2.2.2.2.2.1
  rw [hpre.1, hpre.2] at I
  clear hpre
  have b279 : ∀ (k236 : Int32 → Int32 → Int32 → mT → Option (mT)), (∀ (ls : Array Slot) (x1 : Int32) (x2 : Int32) (x4 : Int32) (st : mT) (H : Heap) (locs : List Loc), k236 x1 x2 x4 st = some q → lv_has ls 5 [(0, .ref r), (1, .int x1), (2, .int x2), (4, .int x4)] → hm_I D s0 s (mm_h dA h0 r M st) z0 H locs → W p l e { frames := 3, cells := 0, slots := 0, locals := 68 } s m ([.ref r, .int y1, .int y2] : List Value).toArray below meth c H locs 0 0 (MQ below (ht_Q D s0 (fun vv h1 z1 => vv = none ∧ h1 = mm_h dA h0 r M q ∧ z1 = z0)) ([.ref r, .int y1, .int y2] : List Value).toArray s 0 0 (fun q => s0.heap.size ≤ q)) (F0 m 236 ls [])) → ∀ (ls : Array Slot) (x1 : Int32) (x2 : Int32) (x4 : Int32) (st : mT) (H : Heap) (locs : List Loc), g_gather_279 k236 x1 x2 x4 st = some q → lv_has ls 5 [(0, .ref r), (1, .int x1), (2, .int x2), (4, .int x4)] → hm_I D s0 s (mm_h dA h0 r M st) z0 H locs → W p l e { frames := 3, cells := 0, slots := 0, locals := 68 } s m ([.ref r, .int y1, .int y2] : List Value).toArray below meth c H locs 0 0 (MQ below (ht_Q D s0 (fun vv h1 z1 => vv = none ∧ h1 = mm_h dA h0 r M q ∧ z1 = z0)) ([.ref r, .int y1, .int y2] : List Value).toArray s 0 0 (fun q => s0.heap.size ≤ q)) (F0 m 279 ls []) := by
    intro k236 hk236 ls x1 x2 x4 st H locs hF hl I
    unfold g_gather_279 at hF
    refine lv_iinc (k := 3) (v := (x4 + (-1))) hx hb d95_279 hl rfl (rfl) (by decide) rfl (fun ls hl => ?_)
    have hl : lv_has ls 5 [(4, .int (x4 + (-1))), (0, .ref r), (1, .int x1), (2, .int x2)] := hl
    refine lv_goto hx hb d95_282 rfl ?_
    exact hk236 ls x1 x2 (x4 + (-1)) st _ _ hF (hl.sub [1, 2, 3, 0] rfl) I
  have b273 : ∀ (k236 : Int32 → Int32 → Int32 → mT → Option (mT)), (∀ (ls : Array Slot) (x1 : Int32) (x2 : Int32) (x4 : Int32) (st : mT) (H : Heap) (locs : List Loc), k236 x1 x2 x4 st = some q → lv_has ls 5 [(0, .ref r), (1, .int x1), (2, .int x2), (4, .int x4)] → hm_I D s0 s (mm_h dA h0 r M st) z0 H locs → W p l e { frames := 3, cells := 0, slots := 0, locals := 68 } s m ([.ref r, .int y1, .int y2] : List Value).toArray below meth c H locs 0 0 (MQ below (ht_Q D s0 (fun vv h1 z1 => vv = none ∧ h1 = mm_h dA h0 r M q ∧ z1 = z0)) ([.ref r, .int y1, .int y2] : List Value).toArray s 0 0 (fun q => s0.heap.size ≤ q)) (F0 m 236 ls [])) → ∀ (ls : Array Slot) (x1 : Int32) (x2 : Int32) (x4 : Int32) (st : mT) (H : Heap) (locs : List Loc), g_gather_273 k236 x1 x2 x4 st = some q → lv_has ls 5 [(0, .ref r), (1, .int x1), (2, .int x2), (4, .int x4)] → hm_I D s0 s (mm_h dA h0 r M st) z0 H locs → W p l e { frames := 3, cells := 0, slots := 0, locals := 68 } s m ([.ref r, .int y1, .int y2] : List Value).toArray below meth c H locs 0 0 (MQ below (ht_Q D s0 (fun vv h1 z1 => vv = none ∧ h1 = mm_h dA h0 r M q ∧ z1 = z0)) ([.ref r, .int y1, .int y2] : List Value).toArray s 0 0 (fun q => s0.heap.size ≤ q)) (F0 m 273 ls []) := by
    intro k236 hk236 ls x1 x2 x4 st H locs hF hl I
    unfold g_gather_273 at hF
    refine lv_aload_n hx hb d95_273 rfl (lv_at hl 0 rfl) ?_
    refine lv_iload hx hb d95_274 (lv_at hl 3 rfl) ?_
    obtain ⟨q9, e9, hF⟩ := mm_bd hF
    refine ht_V (C := "MarkupStoreModel") (rest := []) (as := [.int x4]) X hl (cm_entry l D dA s0 hE h0 r M hM z0 x4 st q9 e9) (List.forall_mem_cons.mpr ⟨ms_k1728, List.forall_mem_cons.mpr ⟨ms_k1730, List.forall_mem_cons.mpr ⟨ms_p92, List.forall_mem_cons.mpr ⟨ms_k7, List.forall_mem_cons.mpr ⟨ms_k1731, fun _ h => absurd h List.not_mem_nil⟩⟩⟩⟩⟩) ⟨rfl, by decide +kernel, by decide +kernel, (by decide +kernel : (parseMethodDescriptor "(I)V").map (fun d => d.parameters.length) = some 1)⟩ (hm_recv hK I rfl mm_hr) I ⟨rfl, rfl⟩ ⟨⟨Nat.le_of_ble_eq_true rfl, Nat.le_of_ble_eq_true rfl⟩, Nat.le_of_ble_eq_true rfl, Nat.le_of_ble_eq_true rfl⟩ rfl (Nat.le_of_ble_eq_true rfl) d95_276 (fun vv h1 z1 H locs hR I9 => ?_)
    obtain ⟨e1, e2, e3⟩ := hR
    rw [e2, e3] at I9
    clear I e2 e3 e9
    have I := I9
    clear I9
    subst e1
    refine W.eq (g2 := F0 m 279 ls []) rfl ?_
    exact b279 k236 hk236 ls x1 x2 x4 q9 _ _ hF (hl.sub [0, 1, 2, 3] rfl) I
  have b257 : ∀ (k236 : Int32 → Int32 → Int32 → mT → Option (mT)), (∀ (ls : Array Slot) (x1 : Int32) (x2 : Int32) (x4 : Int32) (st : mT) (H : Heap) (locs : List Loc), k236 x1 x2 x4 st = some q → lv_has ls 5 [(0, .ref r), (1, .int x1), (2, .int x2), (4, .int x4)] → hm_I D s0 s (mm_h dA h0 r M st) z0 H locs → W p l e { frames := 3, cells := 0, slots := 0, locals := 68 } s m ([.ref r, .int y1, .int y2] : List Value).toArray below meth c H locs 0 0 (MQ below (ht_Q D s0 (fun vv h1 z1 => vv = none ∧ h1 = mm_h dA h0 r M q ∧ z1 = z0)) ([.ref r, .int y1, .int y2] : List Value).toArray s 0 0 (fun q => s0.heap.size ≤ q)) (F0 m 236 ls [])) → ∀ (ls : Array Slot) (x1 : Int32) (x2 : Int32) (x4 : Int32) (st : mT) (H : Heap) (locs : List Loc), g_gather_257 k236 x1 x2 x4 st = some q → lv_has ls 5 [(0, .ref r), (1, .int x1), (2, .int x2), (4, .int x4)] → hm_I D s0 s (mm_h dA h0 r M st) z0 H locs → W p l e { frames := 3, cells := 0, slots := 0, locals := 68 } s m ([.ref r, .int y1, .int y2] : List Value).toArray below meth c H locs 0 0 (MQ below (ht_Q D s0 (fun vv h1 z1 => vv = none ∧ h1 = mm_h dA h0 r M q ∧ z1 = z0)) ([.ref r, .int y1, .int y2] : List Value).toArray s 0 0 (fun q => s0.heap.size ≤ q)) (F0 m 257 ls []) := by
    intro k236 hk236 ls x1 x2 x4 st H locs hF hl I
    unfold g_gather_257 at hF
    refine lv_iload_n hx hb d95_257 rfl (lv_at hl 1 rfl) ?_
    refine lv_bipush (v := 10) hx hb d95_258 (by decide) ?_
    refine lv_icmp_ne hx hb d95_260 rfl (fun h9 => ?_) (fun h9 => ?_)
    · have hF := (if_neg h9).symm.trans hF
      exact b279 k236 hk236 ls x1 x2 x4 st _ _ hF (hl.sub [0, 1, 2, 3] rfl) I
    · have hF := (if_pos h9).symm.trans hF
      refine lv_aload_n hx hb d95_263 rfl (lv_at hl 0 rfl) ?_
      refine lv_iload hx hb d95_264 (lv_at hl 3 rfl) ?_
      obtain ⟨q8, e9, hF⟩ := mm_bd hF
      refine ht_V (C := "MarkupStoreModel") (rest := []) (as := [.int x4]) X hl (cm_end l D dA s0 hE h0 r M hM z0 x4 st q8 e9) (List.forall_mem_cons.mpr ⟨ms_k1650, List.forall_mem_cons.mpr ⟨ms_k1652, List.forall_mem_cons.mpr ⟨ms_p77, List.forall_mem_cons.mpr ⟨ms_k7, List.forall_mem_cons.mpr ⟨ms_k1653, fun _ h => absurd h List.not_mem_nil⟩⟩⟩⟩⟩) ⟨rfl, by decide +kernel, by decide +kernel, (by decide +kernel : (parseMethodDescriptor "(I)I").map (fun d => d.parameters.length) = some 1)⟩ (hm_recv hK I rfl mm_hr) I ⟨rfl, rfl⟩ ⟨⟨Nat.le_of_ble_eq_true rfl, Nat.le_of_ble_eq_true rfl⟩, Nat.le_of_ble_eq_true rfl, Nat.le_of_ble_eq_true rfl⟩ rfl (Nat.le_of_ble_eq_true rfl) d95_266 (fun vv h1 z1 H locs hR I9 => ?_)
      obtain ⟨e1, e2, e3⟩ := hR
      rw [e2, e3] at I9
      clear I e2 e3 e9
      have I := I9
      clear I9
      subst e1
      refine W.eq (g2 := F0 m 269 ls [.int q8.1]) rfl ?_
      refine lv_iload_n hx hb d95_269 rfl (lv_at hl 2 rfl) ?_
      refine lv_icmp_gt hx hb d95_270 rfl (fun h9 => ?_) (fun h9 => ?_)
      · have hF := (if_pos h9).symm.trans hF
        exact b279 k236 hk236 ls x1 x2 x4 q8.2 _ _ hF (hl.sub [0, 1, 2, 3] rfl) I
      · have hF := (if_neg h9).symm.trans hF
        exact b273 k236 hk236 ls x1 x2 x4 q8.2 _ _ hF (hl.sub [0, 1, 2, 3] rfl) I
  have b236 : ∀ n9 : Nat, ∀ (ls : Array Slot) (x1 : Int32) (x2 : Int32) (x4 : Int32) (st : mT) (H : Heap) (locs : List Loc), g_gather_236 n9 x1 x2 x4 st = some q → lv_has ls 5 [(0, .ref r), (1, .int x1), (2, .int x2), (4, .int x4)] → hm_I D s0 s (mm_h dA h0 r M st) z0 H locs → W p l e { frames := 3, cells := 0, slots := 0, locals := 68 } s m ([.ref r, .int y1, .int y2] : List Value).toArray below meth c H locs 0 0 (MQ below (ht_Q D s0 (fun vv h1 z1 => vv = none ∧ h1 = mm_h dA h0 r M q ∧ z1 = z0)) ([.ref r, .int y1, .int y2] : List Value).toArray s 0 0 (fun q => s0.heap.size ≤ q)) (F0 m 236 ls []) := by
    intro n9
    induction n9 with
    | zero => intro ls x1 x2 x4 st H locs hF; cases hF
    | succ n9 hk236 =>
    intro ls x1 x2 x4 st H locs hF hl I
    unfold g_gather_236 at hF
    refine lv_iload hx hb d95_236 (lv_at hl 3 rfl) ?_
    refine lv_if_lt hx hb d95_238 rfl (fun h9 => ?_) (fun h9 => ?_)
    · have hF := (if_pos h9).symm.trans hF
      exact ht_vret X d95_285 I (Nat.le_of_ble_eq_true rfl) (Nat.le_of_ble_eq_true rfl) (mm_finV hF)
    · have hF := (if_neg h9).symm.trans hF
      refine lv_iload_n hx hb d95_241 rfl (lv_at hl 1 rfl) ?_
      refine lv_bipush (v := 8) hx hb d95_242 (by decide) ?_
      refine lv_icmp_ne hx hb d95_244 rfl (fun h9 => ?_) (fun h9 => ?_)
      · have hF := (if_neg h9).symm.trans hF
        exact b257 (g_gather_236 n9) hk236 ls x1 x2 x4 st _ _ hF (hl.sub [0, 1, 2, 3] rfl) I
      · have hF := (if_pos h9).symm.trans hF
        refine lv_aload_n hx hb d95_247 rfl (lv_at hl 0 rfl) ?_
        refine lv_iload hx hb d95_248 (lv_at hl 3 rfl) ?_
        refine lv_iload_n hx hb d95_250 rfl (lv_at hl 2 rfl) ?_
        obtain ⟨q10, e9, hF⟩ := mm_bd hF
        refine ht_V (C := "MarkupStoreModel") (rest := []) (as := [.int x4, .int x2]) X hl (cm_sameParent l D dA s0 hE h0 r M hM z0 x4 x2 st q10 e9) (List.forall_mem_cons.mpr ⟨ms_k1732, List.forall_mem_cons.mpr ⟨ms_k1734, List.forall_mem_cons.mpr ⟨ms_p93, List.forall_mem_cons.mpr ⟨ms_k7, List.forall_mem_cons.mpr ⟨ms_k1735, fun _ h => absurd h List.not_mem_nil⟩⟩⟩⟩⟩) ⟨rfl, by decide +kernel, by decide +kernel, (by decide +kernel : (parseMethodDescriptor "(II)Z").map (fun d => d.parameters.length) = some 2)⟩ (hm_recv hK I rfl mm_hr) I ⟨rfl, rfl⟩ ⟨⟨Nat.le_of_ble_eq_true rfl, Nat.le_of_ble_eq_true rfl⟩, Nat.le_of_ble_eq_true rfl, Nat.le_of_ble_eq_true rfl⟩ rfl (Nat.le_of_ble_eq_true rfl) d95_251 (fun vv h1 z1 H locs hR I9 => ?_)
        obtain ⟨e1, e2, e3⟩ := hR
        rw [e2, e3] at I9
        clear I e2 e3 e9
        have I := I9
        clear I9
        subst e1
        refine W.eq (g2 := F0 m 254 ls [.int q10.1]) rfl ?_
        refine lv_if_ne hx hb d95_254 rfl (fun h9 => ?_) (fun h9 => ?_)
        · have hF := (if_neg h9).symm.trans hF
          exact b273 (g_gather_236 n9) hk236 ls x1 x2 x4 q10.2 _ _ hF (hl.sub [0, 1, 2, 3] rfl) I
        · have hF := (if_pos h9).symm.trans hF
          exact b257 (g_gather_236 n9) hk236 ls x1 x2 x4 q10.2 _ _ hF (hl.sub [0, 1, 2, 3] rfl) I
  have b225 : ∀ (k174 : Int32 → Int32 → Int32 → Int32 → mT → Option (mT)), (∀ (ls : Array Slot) (x1 : Int32) (x2 : Int32) (x3 : Int32) (x4 : Int32) (st : mT) (H : Heap) (locs : List Loc), k174 x1 x2 x3 x4 st = some q → lv_has ls 5 [(0, .ref r), (1, .int x1), (2, .int x2), (3, .int x3), (4, .int x4)] → hm_I D s0 s (mm_h dA h0 r M st) z0 H locs → W p l e { frames := 3, cells := 0, slots := 0, locals := 68 } s m ([.ref r, .int y1, .int y2] : List Value).toArray below meth c H locs 0 0 (MQ below (ht_Q D s0 (fun vv h1 z1 => vv = none ∧ h1 = mm_h dA h0 r M q ∧ z1 = z0)) ([.ref r, .int y1, .int y2] : List Value).toArray s 0 0 (fun q => s0.heap.size ≤ q)) (F0 m 174 ls [])) → ∀ (ls : Array Slot) (x1 : Int32) (x2 : Int32) (x3 : Int32) (x4 : Int32) (st : mT) (H : Heap) (locs : List Loc), g_gather_225 k174 x1 x2 x3 x4 st = some q → lv_has ls 5 [(0, .ref r), (1, .int x1), (2, .int x2), (3, .int x3), (4, .int x4)] → hm_I D s0 s (mm_h dA h0 r M st) z0 H locs → W p l e { frames := 3, cells := 0, slots := 0, locals := 68 } s m ([.ref r, .int y1, .int y2] : List Value).toArray below meth c H locs 0 0 (MQ below (ht_Q D s0 (fun vv h1 z1 => vv = none ∧ h1 = mm_h dA h0 r M q ∧ z1 = z0)) ([.ref r, .int y1, .int y2] : List Value).toArray s 0 0 (fun q => s0.heap.size ≤ q)) (F0 m 225 ls []) := by
    intro k174 hk174 ls x1 x2 x3 x4 st H locs hF hl I
    unfold g_gather_225 at hF
    refine lv_iinc (k := 4) (v := (x4 + 1)) hx hb d95_225 hl rfl (rfl) (by decide) rfl (fun ls hl => ?_)
    have hl : lv_has ls 5 [(4, .int (x4 + 1)), (0, .ref r), (1, .int x1), (2, .int x2), (3, .int x3)] := hl
    refine lv_goto hx hb d95_228 rfl ?_
    exact hk174 ls x1 x2 x3 (x4 + 1) st _ _ hF (hl.sub [1, 2, 3, 4, 0] rfl) I
  have b219 : ∀ (k174 : Int32 → Int32 → Int32 → Int32 → mT → Option (mT)), (∀ (ls : Array Slot) (x1 : Int32) (x2 : Int32) (x3 : Int32) (x4 : Int32) (st : mT) (H : Heap) (locs : List Loc), k174 x1 x2 x3 x4 st = some q → lv_has ls 5 [(0, .ref r), (1, .int x1), (2, .int x2), (3, .int x3), (4, .int x4)] → hm_I D s0 s (mm_h dA h0 r M st) z0 H locs → W p l e { frames := 3, cells := 0, slots := 0, locals := 68 } s m ([.ref r, .int y1, .int y2] : List Value).toArray below meth c H locs 0 0 (MQ below (ht_Q D s0 (fun vv h1 z1 => vv = none ∧ h1 = mm_h dA h0 r M q ∧ z1 = z0)) ([.ref r, .int y1, .int y2] : List Value).toArray s 0 0 (fun q => s0.heap.size ≤ q)) (F0 m 174 ls [])) → ∀ (ls : Array Slot) (x1 : Int32) (x2 : Int32) (x3 : Int32) (x4 : Int32) (st : mT) (H : Heap) (locs : List Loc), g_gather_219 k174 x1 x2 x3 x4 st = some q → lv_has ls 5 [(0, .ref r), (1, .int x1), (2, .int x2), (3, .int x3), (4, .int x4)] → hm_I D s0 s (mm_h dA h0 r M st) z0 H locs → W p l e { frames := 3, cells := 0, slots := 0, locals := 68 } s m ([.ref r, .int y1, .int y2] : List Value).toArray below meth c H locs 0 0 (MQ below (ht_Q D s0 (fun vv h1 z1 => vv = none ∧ h1 = mm_h dA h0 r M q ∧ z1 = z0)) ([.ref r, .int y1, .int y2] : List Value).toArray s 0 0 (fun q => s0.heap.size ≤ q)) (F0 m 219 ls []) := by
    intro k174 hk174 ls x1 x2 x3 x4 st H locs hF hl I
    unfold g_gather_219 at hF
    refine lv_aload_n hx hb d95_219 rfl (lv_at hl 0 rfl) ?_
    refine lv_iload hx hb d95_220 (lv_at hl 4 rfl) ?_
    obtain ⟨q12, e9, hF⟩ := mm_bd hF
    refine ht_V (C := "MarkupStoreModel") (rest := []) (as := [.int x4]) X hl (cm_entry l D dA s0 hE h0 r M hM z0 x4 st q12 e9) (List.forall_mem_cons.mpr ⟨ms_k1728, List.forall_mem_cons.mpr ⟨ms_k1730, List.forall_mem_cons.mpr ⟨ms_p92, List.forall_mem_cons.mpr ⟨ms_k7, List.forall_mem_cons.mpr ⟨ms_k1731, fun _ h => absurd h List.not_mem_nil⟩⟩⟩⟩⟩) ⟨rfl, by decide +kernel, by decide +kernel, (by decide +kernel : (parseMethodDescriptor "(I)V").map (fun d => d.parameters.length) = some 1)⟩ (hm_recv hK I rfl mm_hr) I ⟨rfl, rfl⟩ ⟨⟨Nat.le_of_ble_eq_true rfl, Nat.le_of_ble_eq_true rfl⟩, Nat.le_of_ble_eq_true rfl, Nat.le_of_ble_eq_true rfl⟩ rfl (Nat.le_of_ble_eq_true rfl) d95_222 (fun vv h1 z1 H locs hR I9 => ?_)
    obtain ⟨e1, e2, e3⟩ := hR
    rw [e2, e3] at I9
    clear I e2 e3 e9
    have I := I9
    clear I9
    subst e1
    refine W.eq (g2 := F0 m 225 ls []) rfl ?_
    exact b225 k174 hk174 ls x1 x2 x3 x4 q12 _ _ hF (hl.sub [0, 1, 2, 3, 4] rfl) I
  have b203 : ∀ (k174 : Int32 → Int32 → Int32 → Int32 → mT → Option (mT)), (∀ (ls : Array Slot) (x1 : Int32) (x2 : Int32) (x3 : Int32) (x4 : Int32) (st : mT) (H : Heap) (locs : List Loc), k174 x1 x2 x3 x4 st = some q → lv_has ls 5 [(0, .ref r), (1, .int x1), (2, .int x2), (3, .int x3), (4, .int x4)] → hm_I D s0 s (mm_h dA h0 r M st) z0 H locs → W p l e { frames := 3, cells := 0, slots := 0, locals := 68 } s m ([.ref r, .int y1, .int y2] : List Value).toArray below meth c H locs 0 0 (MQ below (ht_Q D s0 (fun vv h1 z1 => vv = none ∧ h1 = mm_h dA h0 r M q ∧ z1 = z0)) ([.ref r, .int y1, .int y2] : List Value).toArray s 0 0 (fun q => s0.heap.size ≤ q)) (F0 m 174 ls [])) → ∀ (ls : Array Slot) (x1 : Int32) (x2 : Int32) (x3 : Int32) (x4 : Int32) (st : mT) (H : Heap) (locs : List Loc), g_gather_203 k174 x1 x2 x3 x4 st = some q → lv_has ls 5 [(0, .ref r), (1, .int x1), (2, .int x2), (3, .int x3), (4, .int x4)] → hm_I D s0 s (mm_h dA h0 r M st) z0 H locs → W p l e { frames := 3, cells := 0, slots := 0, locals := 68 } s m ([.ref r, .int y1, .int y2] : List Value).toArray below meth c H locs 0 0 (MQ below (ht_Q D s0 (fun vv h1 z1 => vv = none ∧ h1 = mm_h dA h0 r M q ∧ z1 = z0)) ([.ref r, .int y1, .int y2] : List Value).toArray s 0 0 (fun q => s0.heap.size ≤ q)) (F0 m 203 ls []) := by
    intro k174 hk174 ls x1 x2 x3 x4 st H locs hF hl I
    unfold g_gather_203 at hF
    refine lv_iload_n hx hb d95_203 rfl (lv_at hl 1 rfl) ?_
    refine lv_bipush (v := 7) hx hb d95_204 (by decide) ?_
    refine lv_icmp_ne hx hb d95_206 rfl (fun h9 => ?_) (fun h9 => ?_)
    · have hF := (if_neg h9).symm.trans hF
      exact b225 k174 hk174 ls x1 x2 x3 x4 st _ _ hF (hl.sub [0, 1, 2, 3, 4] rfl) I
    · have hF := (if_pos h9).symm.trans hF
      refine lv_aload_n hx hb d95_209 rfl (lv_at hl 0 rfl) ?_
      refine lv_iload hx hb d95_210 (lv_at hl 4 rfl) ?_
      refine lv_iload_n hx hb d95_212 rfl (lv_at hl 2 rfl) ?_
      obtain ⟨q11, e9, hF⟩ := mm_bd hF
      refine ht_V (C := "MarkupStoreModel") (rest := []) (as := [.int x4, .int x2]) X hl (cm_sameParent l D dA s0 hE h0 r M hM z0 x4 x2 st q11 e9) (List.forall_mem_cons.mpr ⟨ms_k1732, List.forall_mem_cons.mpr ⟨ms_k1734, List.forall_mem_cons.mpr ⟨ms_p93, List.forall_mem_cons.mpr ⟨ms_k7, List.forall_mem_cons.mpr ⟨ms_k1735, fun _ h => absurd h List.not_mem_nil⟩⟩⟩⟩⟩) ⟨rfl, by decide +kernel, by decide +kernel, (by decide +kernel : (parseMethodDescriptor "(II)Z").map (fun d => d.parameters.length) = some 2)⟩ (hm_recv hK I rfl mm_hr) I ⟨rfl, rfl⟩ ⟨⟨Nat.le_of_ble_eq_true rfl, Nat.le_of_ble_eq_true rfl⟩, Nat.le_of_ble_eq_true rfl, Nat.le_of_ble_eq_true rfl⟩ rfl (Nat.le_of_ble_eq_true rfl) d95_213 (fun vv h1 z1 H locs hR I9 => ?_)
      obtain ⟨e1, e2, e3⟩ := hR
      rw [e2, e3] at I9
      clear I e2 e3 e9
      have I := I9
      clear I9
      subst e1
      refine W.eq (g2 := F0 m 216 ls [.int q11.1]) rfl ?_
      refine lv_if_eq hx hb d95_216 rfl (fun h9 => ?_) (fun h9 => ?_)
      · have hF := (if_pos h9).symm.trans hF
        exact b225 k174 hk174 ls x1 x2 x3 x4 q11.2 _ _ hF (hl.sub [0, 1, 2, 3, 4] rfl) I
      · have hF := (if_neg h9).symm.trans hF
        exact b219 k174 hk174 ls x1 x2 x3 x4 q11.2 _ _ hF (hl.sub [0, 1, 2, 3, 4] rfl) I
  have b174 : ∀ n9 : Nat, ∀ (ls : Array Slot) (x1 : Int32) (x2 : Int32) (x3 : Int32) (x4 : Int32) (st : mT) (H : Heap) (locs : List Loc), g_gather_174 n9 x1 x2 x3 x4 st = some q → lv_has ls 5 [(0, .ref r), (1, .int x1), (2, .int x2), (3, .int x3), (4, .int x4)] → hm_I D s0 s (mm_h dA h0 r M st) z0 H locs → W p l e { frames := 3, cells := 0, slots := 0, locals := 68 } s m ([.ref r, .int y1, .int y2] : List Value).toArray below meth c H locs 0 0 (MQ below (ht_Q D s0 (fun vv h1 z1 => vv = none ∧ h1 = mm_h dA h0 r M q ∧ z1 = z0)) ([.ref r, .int y1, .int y2] : List Value).toArray s 0 0 (fun q => s0.heap.size ≤ q)) (F0 m 174 ls []) := by
    intro n9
    induction n9 with
    | zero => intro ls x1 x2 x3 x4 st H locs hF; cases hF
    | succ n9 hk174 =>
    intro ls x1 x2 x3 x4 st H locs hF hl I
    unfold g_gather_174 at hF
    refine lv_iload hx hb d95_174 (lv_at hl 4 rfl) ?_
    refine lv_iload_n hx hb d95_176 rfl (lv_at hl 3 rfl) ?_
    refine lv_icmp_ge hx hb d95_177 rfl (fun h9 => ?_) (fun h9 => ?_)
    · have hF := (if_pos h9).symm.trans hF
      refine lv_iload_n hx hb d95_231 rfl (lv_at hl 2 rfl) ?_
      refine lv_iconst (v := 1) hx hb d95_232 (by decide) ?_
      refine lv_isub hx hb d95_233 ?_
      refine lv_istore hx hb d95_234 hl (by decide) rfl (fun ls hl => ?_)
      have hl : lv_has ls 5 [(4, .int (x2 - 1)), (0, .ref r), (1, .int x1), (2, .int x2), (3, .int x3)] := hl
      exact b236 mF ls x1 x2 (x2 - 1) st _ _ hF (hl.sub [1, 2, 3, 0] rfl) I
    · have hF := (if_neg h9).symm.trans hF
      refine lv_iload_n hx hb d95_180 rfl (lv_at hl 1 rfl) ?_
      refine lv_if_ne hx hb d95_181 rfl (fun h9 => ?_) (fun h9 => ?_)
      · have hF := (if_neg h9).symm.trans hF
        exact b203 (g_gather_174 n9) hk174 ls x1 x2 x3 x4 st _ _ hF (hl.sub [0, 1, 2, 3, 4] rfl) I
      · have hF := (if_pos h9).symm.trans hF
        refine lv_aload_n hx hb d95_184 rfl (lv_at hl 0 rfl) ?_
        refine lv_aload_n hx hb d95_185 rfl (lv_at hl 0 rfl) ?_
        refine lv_iload hx hb d95_186 (lv_at hl 4 rfl) ?_
        obtain ⟨q13, e9, hF⟩ := mm_bd hF
        refine ht_V (C := "MarkupStoreModel") (rest := [.ref r]) (as := [.int x4]) X hl (cm_doc l D dA s0 hE h0 r M hM z0 x4 st q13 e9) (List.forall_mem_cons.mpr ⟨ms_k1607, List.forall_mem_cons.mpr ⟨ms_k1609, List.forall_mem_cons.mpr ⟨ms_p67, List.forall_mem_cons.mpr ⟨ms_k7, List.forall_mem_cons.mpr ⟨ms_k1610, fun _ h => absurd h List.not_mem_nil⟩⟩⟩⟩⟩) ⟨rfl, by decide +kernel, by decide +kernel, (by decide +kernel : (parseMethodDescriptor "(I)I").map (fun d => d.parameters.length) = some 1)⟩ (hm_recv hK I rfl mm_hr) I ⟨rfl, rfl⟩ ⟨⟨Nat.le_of_ble_eq_true rfl, Nat.le_of_ble_eq_true rfl⟩, Nat.le_of_ble_eq_true rfl, Nat.le_of_ble_eq_true rfl⟩ rfl (Nat.le_of_ble_eq_true rfl) d95_188 (fun vv h1 z1 H locs hR I9 => ?_)
        obtain ⟨e1, e2, e3⟩ := hR
        rw [e2, e3] at I9
        clear I e2 e3 e9
        have I := I9
        clear I9
        subst e1
        refine W.eq (g2 := F0 m 191 ls [.int q13.1, .ref r]) rfl ?_
        refine lv_iconst (v := 2) hx hb d95_191 (by decide) ?_
        obtain ⟨q14, e9, hF⟩ := mm_bd hF
        refine ht_V (C := "MarkupStoreModel") (rest := []) (as := [.int q13.1, .int 2]) X hl (cm_f l D dA s0 hE h0 r M hM z0 q13.1 2 q13.2 q14 e9) (List.forall_mem_cons.mpr ⟨ms_k1587, List.forall_mem_cons.mpr ⟨ms_k1589, List.forall_mem_cons.mpr ⟨ms_p63, List.forall_mem_cons.mpr ⟨ms_k7, List.forall_mem_cons.mpr ⟨ms_k1590, fun _ h => absurd h List.not_mem_nil⟩⟩⟩⟩⟩) ⟨rfl, by decide +kernel, by decide +kernel, (by decide +kernel : (parseMethodDescriptor "(II)I").map (fun d => d.parameters.length) = some 2)⟩ (hm_recv hK I rfl mm_hr) I ⟨rfl, rfl⟩ ⟨⟨Nat.le_of_ble_eq_true rfl, Nat.le_of_ble_eq_true rfl⟩, Nat.le_of_ble_eq_true rfl, Nat.le_of_ble_eq_true rfl⟩ rfl (Nat.le_of_ble_eq_true rfl) d95_192 (fun vv h1 z1 H locs hR I9 => ?_)
        obtain ⟨e1, e2, e3⟩ := hR
        rw [e2, e3] at I9
        clear I e2 e3 e9
        have I := I9
        clear I9
        subst e1
        refine W.eq (g2 := F0 m 195 ls [.int q14.1]) rfl ?_
        refine lv_aload_n hx hb d95_195 rfl (lv_at hl 0 rfl) ?_
        refine lv_iload_n hx hb d95_196 rfl (lv_at hl 2 rfl) ?_
        obtain ⟨q15, e9, hF⟩ := mm_bd hF
        refine ht_V (C := "MarkupStoreModel") (rest := [.int q14.1]) (as := [.int x2]) X hl (cm_doc l D dA s0 hE h0 r M hM z0 x2 q14.2 q15 e9) (List.forall_mem_cons.mpr ⟨ms_k1607, List.forall_mem_cons.mpr ⟨ms_k1609, List.forall_mem_cons.mpr ⟨ms_p67, List.forall_mem_cons.mpr ⟨ms_k7, List.forall_mem_cons.mpr ⟨ms_k1610, fun _ h => absurd h List.not_mem_nil⟩⟩⟩⟩⟩) ⟨rfl, by decide +kernel, by decide +kernel, (by decide +kernel : (parseMethodDescriptor "(I)I").map (fun d => d.parameters.length) = some 1)⟩ (hm_recv hK I rfl mm_hr) I ⟨rfl, rfl⟩ ⟨⟨Nat.le_of_ble_eq_true rfl, Nat.le_of_ble_eq_true rfl⟩, Nat.le_of_ble_eq_true rfl, Nat.le_of_ble_eq_true rfl⟩ rfl (Nat.le_of_ble_eq_true rfl) d95_197 (fun vv h1 z1 H locs hR I9 => ?_)
        obtain ⟨e1, e2, e3⟩ := hR
        rw [e2, e3] at I9
        clear I e2 e3 e9
        have I := I9
        clear I9
        subst e1
        refine W.eq (g2 := F0 m 200 ls [.int q15.1, .int q14.1]) rfl ?_
        refine lv_icmp_eq hx hb d95_200 rfl (fun h9 => ?_) (fun h9 => ?_)
        · have hF := (if_pos h9).symm.trans hF
          exact b219 (g_gather_174 n9) hk174 ls x1 x2 x3 x4 q15.2 _ _ hF (hl.sub [0, 1, 2, 3, 4] rfl) I
        · have hF := (if_neg h9).symm.trans hF
          exact b203 (g_gather_174 n9) hk174 ls x1 x2 x3 x4 q15.2 _ _ hF (hl.sub [0, 1, 2, 3, 4] rfl) I
  have b169 : ∀ (ls : Array Slot) (x1 : Int32) (x2 : Int32) (x3 : Int32) (st : mT) (H : Heap) (locs : List Loc), g_gather_169 x1 x2 x3 st = some q → lv_has ls 5 [(0, .ref r), (1, .int x1), (2, .int x2), (3, .int x3)] → hm_I D s0 s (mm_h dA h0 r M st) z0 H locs → W p l e { frames := 3, cells := 0, slots := 0, locals := 68 } s m ([.ref r, .int y1, .int y2] : List Value).toArray below meth c H locs 0 0 (MQ below (ht_Q D s0 (fun vv h1 z1 => vv = none ∧ h1 = mm_h dA h0 r M q ∧ z1 = z0)) ([.ref r, .int y1, .int y2] : List Value).toArray s 0 0 (fun q => s0.heap.size ≤ q)) (F0 m 169 ls []) := by
    intro ls x1 x2 x3 st H locs hF hl I
    unfold g_gather_169 at hF
    refine lv_iload_n hx hb d95_169 rfl (lv_at hl 2 rfl) ?_
    refine lv_iconst (v := 1) hx hb d95_170 (by decide) ?_
    refine lv_iadd hx hb d95_171 ?_
    refine lv_istore hx hb d95_172 hl (by decide) rfl (fun ls hl => ?_)
    have hl : lv_has ls 5 [(4, .int (x2 + 1)), (0, .ref r), (1, .int x1), (2, .int x2), (3, .int x3)] := hl
    exact b174 mF ls x1 x2 x3 (x2 + 1) st _ _ hF (hl.sub [1, 2, 3, 4, 0] rfl) I
  have b164 : ∀ (k133 : Int32 → Int32 → Int32 → Int32 → mT → Option (mT)), (∀ (ls : Array Slot) (x1 : Int32) (x2 : Int32) (x3 : Int32) (x4 : Int32) (st : mT) (H : Heap) (locs : List Loc), k133 x1 x2 x3 x4 st = some q → lv_has ls 5 [(0, .ref r), (1, .int x1), (2, .int x2), (3, .int x3), (4, .int x4)] → hm_I D s0 s (mm_h dA h0 r M st) z0 H locs → W p l e { frames := 3, cells := 0, slots := 0, locals := 68 } s m ([.ref r, .int y1, .int y2] : List Value).toArray below meth c H locs 0 0 (MQ below (ht_Q D s0 (fun vv h1 z1 => vv = none ∧ h1 = mm_h dA h0 r M q ∧ z1 = z0)) ([.ref r, .int y1, .int y2] : List Value).toArray s 0 0 (fun q => s0.heap.size ≤ q)) (F0 m 133 ls [])) → ∀ (ls : Array Slot) (x1 : Int32) (x2 : Int32) (x3 : Int32) (w0 : Int32) (st : mT) (H : Heap) (locs : List Loc), g_gather_164 k133 x1 x2 x3 w0 st = some q → lv_has ls 5 [(0, .ref r), (1, .int x1), (2, .int x2), (3, .int x3)] → hm_I D s0 s (mm_h dA h0 r M st) z0 H locs → W p l e { frames := 3, cells := 0, slots := 0, locals := 68 } s m ([.ref r, .int y1, .int y2] : List Value).toArray below meth c H locs 0 0 (MQ below (ht_Q D s0 (fun vv h1 z1 => vv = none ∧ h1 = mm_h dA h0 r M q ∧ z1 = z0)) ([.ref r, .int y1, .int y2] : List Value).toArray s 0 0 (fun q => s0.heap.size ≤ q)) (F0 m 164 ls [.int w0]) := by
    intro k133 hk133 ls x1 x2 x3 w0 st H locs hF hl I
    unfold g_gather_164 at hF
    refine lv_istore hx hb d95_164 hl (by decide) rfl (fun ls hl => ?_)
    have hl : lv_has ls 5 [(4, .int w0), (0, .ref r), (1, .int x1), (2, .int x2), (3, .int x3)] := hl
    refine lv_goto hx hb d95_166 rfl ?_
    exact hk133 ls x1 x2 x3 w0 st _ _ hF (hl.sub [1, 2, 3, 4, 0] rfl) I
  have b133 : ∀ n9 : Nat, ∀ (ls : Array Slot) (x1 : Int32) (x2 : Int32) (x3 : Int32) (x4 : Int32) (st : mT) (H : Heap) (locs : List Loc), g_gather_133 n9 x1 x2 x3 x4 st = some q → lv_has ls 5 [(0, .ref r), (1, .int x1), (2, .int x2), (3, .int x3), (4, .int x4)] → hm_I D s0 s (mm_h dA h0 r M st) z0 H locs → W p l e { frames := 3, cells := 0, slots := 0, locals := 68 } s m ([.ref r, .int y1, .int y2] : List Value).toArray below meth c H locs 0 0 (MQ below (ht_Q D s0 (fun vv h1 z1 => vv = none ∧ h1 = mm_h dA h0 r M q ∧ z1 = z0)) ([.ref r, .int y1, .int y2] : List Value).toArray s 0 0 (fun q => s0.heap.size ≤ q)) (F0 m 133 ls []) := by
    intro n9
    induction n9 with
    | zero => intro ls x1 x2 x3 x4 st H locs hF; cases hF
    | succ n9 hk133 =>
    intro ls x1 x2 x3 x4 st H locs hF hl I
    unfold g_gather_133 at hF
    refine lv_iload hx hb d95_133 (lv_at hl 4 rfl) ?_
    refine lv_if_lt hx hb d95_135 rfl (fun h9 => ?_) (fun h9 => ?_)
    · have hF := (if_pos h9).symm.trans hF
      exact b169 ls x1 x2 x3 st _ _ hF (hl.sub [0, 1, 2, 3] rfl) I
    · have hF := (if_neg h9).symm.trans hF
      refine lv_aload_n hx hb d95_138 rfl (lv_at hl 0 rfl) ?_
      refine lv_aload_n hx hb d95_139 rfl (lv_at hl 0 rfl) ?_
      refine lv_iload hx hb d95_140 (lv_at hl 4 rfl) ?_
      obtain ⟨q16, e9, hF⟩ := mm_bd hF
      refine ht_V (C := "MarkupStoreModel") (rest := [.ref r]) (as := [.int x4]) X hl (cm_order l D dA s0 hE h0 r M hM z0 x4 st q16 e9) (List.forall_mem_cons.mpr ⟨ms_k1623, List.forall_mem_cons.mpr ⟨ms_k1625, List.forall_mem_cons.mpr ⟨ms_p71, List.forall_mem_cons.mpr ⟨ms_k7, List.forall_mem_cons.mpr ⟨ms_k1626, fun _ h => absurd h List.not_mem_nil⟩⟩⟩⟩⟩) ⟨rfl, by decide +kernel, by decide +kernel, (by decide +kernel : (parseMethodDescriptor "(I)I").map (fun d => d.parameters.length) = some 1)⟩ (hm_recv hK I rfl mm_hr) I ⟨rfl, rfl⟩ ⟨⟨Nat.le_of_ble_eq_true rfl, Nat.le_of_ble_eq_true rfl⟩, Nat.le_of_ble_eq_true rfl, Nat.le_of_ble_eq_true rfl⟩ rfl (Nat.le_of_ble_eq_true rfl) d95_142 (fun vv h1 z1 H locs hR I9 => ?_)
      obtain ⟨e1, e2, e3⟩ := hR
      rw [e2, e3] at I9
      clear I e2 e3 e9
      have I := I9
      clear I9
      subst e1
      refine W.eq (g2 := F0 m 145 ls [.int q16.1, .ref r]) rfl ?_
      obtain ⟨q17, e9, hF⟩ := mm_bd hF
      refine ht_V (C := "MarkupStoreModel") (rest := []) (as := [.int q16.1]) X hl (cm_entry l D dA s0 hE h0 r M hM z0 q16.1 q16.2 q17 e9) (List.forall_mem_cons.mpr ⟨ms_k1728, List.forall_mem_cons.mpr ⟨ms_k1730, List.forall_mem_cons.mpr ⟨ms_p92, List.forall_mem_cons.mpr ⟨ms_k7, List.forall_mem_cons.mpr ⟨ms_k1731, fun _ h => absurd h List.not_mem_nil⟩⟩⟩⟩⟩) ⟨rfl, by decide +kernel, by decide +kernel, (by decide +kernel : (parseMethodDescriptor "(I)V").map (fun d => d.parameters.length) = some 1)⟩ (hm_recv hK I rfl mm_hr) I ⟨rfl, rfl⟩ ⟨⟨Nat.le_of_ble_eq_true rfl, Nat.le_of_ble_eq_true rfl⟩, Nat.le_of_ble_eq_true rfl, Nat.le_of_ble_eq_true rfl⟩ rfl (Nat.le_of_ble_eq_true rfl) d95_145 (fun vv h1 z1 H locs hR I9 => ?_)
      obtain ⟨e1, e2, e3⟩ := hR
      rw [e2, e3] at I9
      clear I e2 e3 e9
      have I := I9
      clear I9
      subst e1
      refine W.eq (g2 := F0 m 148 ls []) rfl ?_
      refine lv_iload_n hx hb d95_148 rfl (lv_at hl 1 rfl) ?_
      refine lv_iconst (v := 3) hx hb d95_149 (by decide) ?_
      refine lv_icmp_ne hx hb d95_150 rfl (fun h9 => ?_) (fun h9 => ?_)
      · have hF := (if_neg h9).symm.trans hF
        refine lv_aload_n hx hb d95_157 rfl (lv_at hl 0 rfl) ?_
        refine lv_iload hx hb d95_158 (lv_at hl 4 rfl) ?_
        refine lv_iconst (v := 2) hx hb d95_160 (by decide) ?_
        obtain ⟨q18, e9, hF⟩ := mm_bd hF
        refine ht_V (C := "MarkupStoreModel") (rest := []) (as := [.int x4, .int 2]) X hl (cm_f l D dA s0 hE h0 r M hM z0 x4 2 q17 q18 e9) (List.forall_mem_cons.mpr ⟨ms_k1587, List.forall_mem_cons.mpr ⟨ms_k1589, List.forall_mem_cons.mpr ⟨ms_p63, List.forall_mem_cons.mpr ⟨ms_k7, List.forall_mem_cons.mpr ⟨ms_k1590, fun _ h => absurd h List.not_mem_nil⟩⟩⟩⟩⟩) ⟨rfl, by decide +kernel, by decide +kernel, (by decide +kernel : (parseMethodDescriptor "(II)I").map (fun d => d.parameters.length) = some 2)⟩ (hm_recv hK I rfl mm_hr) I ⟨rfl, rfl⟩ ⟨⟨Nat.le_of_ble_eq_true rfl, Nat.le_of_ble_eq_true rfl⟩, Nat.le_of_ble_eq_true rfl, Nat.le_of_ble_eq_true rfl⟩ rfl (Nat.le_of_ble_eq_true rfl) d95_161 (fun vv h1 z1 H locs hR I9 => ?_)
        obtain ⟨e1, e2, e3⟩ := hR
        rw [e2, e3] at I9
        clear I e2 e3 e9
        have I := I9
        clear I9
        subst e1
        refine W.eq (g2 := F0 m 164 ls [.int q18.1]) rfl ?_
        exact b164 (g_gather_133 n9) hk133 ls x1 x2 x3 q18.1 q18.2 _ _ hF (hl.sub [0, 1, 2, 3] rfl) I
      · have hF := (if_pos h9).symm.trans hF
        refine lv_iconst (v := (-1)) hx hb d95_153 (by decide) ?_
        refine lv_goto hx hb d95_154 rfl ?_
        exact b164 (g_gather_133 n9) hk133 ls x1 x2 x3 (-1) q17 _ _ hF (hl.sub [0, 1, 2, 3] rfl) I
  have b121 : ∀ (ls : Array Slot) (x1 : Int32) (x2 : Int32) (x3 : Int32) (st : mT) (H : Heap) (locs : List Loc), g_gather_121 x1 x2 x3 st = some q → lv_has ls 5 [(0, .ref r), (1, .int x1), (2, .int x2), (3, .int x3)] → hm_I D s0 s (mm_h dA h0 r M st) z0 H locs → W p l e { frames := 3, cells := 0, slots := 0, locals := 68 } s m ([.ref r, .int y1, .int y2] : List Value).toArray below meth c H locs 0 0 (MQ below (ht_Q D s0 (fun vv h1 z1 => vv = none ∧ h1 = mm_h dA h0 r M q ∧ z1 = z0)) ([.ref r, .int y1, .int y2] : List Value).toArray s 0 0 (fun q => s0.heap.size ≤ q)) (F0 m 121 ls []) := by
    intro ls x1 x2 x3 st H locs hF hl I
    unfold g_gather_121 at hF
    refine lv_aload_n hx hb d95_121 rfl (lv_at hl 0 rfl) ?_
    refine lv_aload_n hx hb d95_122 rfl (lv_at hl 0 rfl) ?_
    refine lv_iload_n hx hb d95_123 rfl (lv_at hl 2 rfl) ?_
    obtain ⟨q6, e9, hF⟩ := mm_bd hF
    refine ht_V (C := "MarkupStoreModel") (rest := [.ref r]) (as := [.int x2]) X hl (cm_doc l D dA s0 hE h0 r M hM z0 x2 st q6 e9) (List.forall_mem_cons.mpr ⟨ms_k1607, List.forall_mem_cons.mpr ⟨ms_k1609, List.forall_mem_cons.mpr ⟨ms_p67, List.forall_mem_cons.mpr ⟨ms_k7, List.forall_mem_cons.mpr ⟨ms_k1610, fun _ h => absurd h List.not_mem_nil⟩⟩⟩⟩⟩) ⟨rfl, by decide +kernel, by decide +kernel, (by decide +kernel : (parseMethodDescriptor "(I)I").map (fun d => d.parameters.length) = some 1)⟩ (hm_recv hK I rfl mm_hr) I ⟨rfl, rfl⟩ ⟨⟨Nat.le_of_ble_eq_true rfl, Nat.le_of_ble_eq_true rfl⟩, Nat.le_of_ble_eq_true rfl, Nat.le_of_ble_eq_true rfl⟩ rfl (Nat.le_of_ble_eq_true rfl) d95_124 (fun vv h1 z1 H locs hR I9 => ?_)
    obtain ⟨e1, e2, e3⟩ := hR
    rw [e2, e3] at I9
    clear I e2 e3 e9
    have I := I9
    clear I9
    subst e1
    refine W.eq (g2 := F0 m 127 ls [.int q6.1, .ref r]) rfl ?_
    refine lv_iconst (v := 2) hx hb d95_127 (by decide) ?_
    obtain ⟨q7, e9, hF⟩ := mm_bd hF
    refine ht_V (C := "MarkupStoreModel") (rest := []) (as := [.int q6.1, .int 2]) X hl (cm_f l D dA s0 hE h0 r M hM z0 q6.1 2 q6.2 q7 e9) (List.forall_mem_cons.mpr ⟨ms_k1587, List.forall_mem_cons.mpr ⟨ms_k1589, List.forall_mem_cons.mpr ⟨ms_p63, List.forall_mem_cons.mpr ⟨ms_k7, List.forall_mem_cons.mpr ⟨ms_k1590, fun _ h => absurd h List.not_mem_nil⟩⟩⟩⟩⟩) ⟨rfl, by decide +kernel, by decide +kernel, (by decide +kernel : (parseMethodDescriptor "(II)I").map (fun d => d.parameters.length) = some 2)⟩ (hm_recv hK I rfl mm_hr) I ⟨rfl, rfl⟩ ⟨⟨Nat.le_of_ble_eq_true rfl, Nat.le_of_ble_eq_true rfl⟩, Nat.le_of_ble_eq_true rfl, Nat.le_of_ble_eq_true rfl⟩ rfl (Nat.le_of_ble_eq_true rfl) d95_128 (fun vv h1 z1 H locs hR I9 => ?_)
    obtain ⟨e1, e2, e3⟩ := hR
    rw [e2, e3] at I9
    clear I e2 e3 e9
    have I := I9
    clear I9
    subst e1
    refine W.eq (g2 := F0 m 131 ls [.int q7.1]) rfl ?_
    refine lv_istore hx hb d95_131 hl (by decide) rfl (fun ls hl => ?_)
    have hl : lv_has ls 5 [(4, .int q7.1), (0, .ref r), (1, .int x1), (2, .int x2), (3, .int x3)] := hl
    exact b133 mF ls x1 x2 x3 q7.1 q7.2 _ _ hF (hl.sub [1, 2, 3, 4, 0] rfl) I
  have b106 : ∀ (ls : Array Slot) (x1 : Int32) (x2 : Int32) (x3 : Int32) (st : mT) (H : Heap) (locs : List Loc), g_gather_106 x1 x2 x3 st = some q → lv_has ls 5 [(0, .ref r), (1, .int x1), (2, .int x2), (3, .int x3)] → hm_I D s0 s (mm_h dA h0 r M st) z0 H locs → W p l e { frames := 3, cells := 0, slots := 0, locals := 68 } s m ([.ref r, .int y1, .int y2] : List Value).toArray below meth c H locs 0 0 (MQ below (ht_Q D s0 (fun vv h1 z1 => vv = none ∧ h1 = mm_h dA h0 r M q ∧ z1 = z0)) ([.ref r, .int y1, .int y2] : List Value).toArray s 0 0 (fun q => s0.heap.size ≤ q)) (F0 m 106 ls []) := by
    intro ls x1 x2 x3 st H locs hF hl I
    unfold g_gather_106 at hF
    refine lv_iload_n hx hb d95_106 rfl (lv_at hl 1 rfl) ?_
    refine lv_iconst (v := 3) hx hb d95_107 (by decide) ?_
    refine lv_icmp_eq hx hb d95_108 rfl (fun h9 => ?_) (fun h9 => ?_)
    · have hF := (if_pos h9).symm.trans hF
      exact b121 ls x1 x2 x3 st _ _ hF (hl.sub [0, 1, 2, 3] rfl) I
    · have hF := (if_neg h9).symm.trans hF
      refine lv_iload_n hx hb d95_111 rfl (lv_at hl 1 rfl) ?_
      refine lv_iconst (v := 4) hx hb d95_112 (by decide) ?_
      refine lv_icmp_eq hx hb d95_113 rfl (fun h9 => ?_) (fun h9 => ?_)
      · have hF := (if_pos h9).symm.trans hF
        exact b121 ls x1 x2 x3 st _ _ hF (hl.sub [0, 1, 2, 3] rfl) I
      · have hF := (if_neg h9).symm.trans hF
        refine lv_iload_n hx hb d95_116 rfl (lv_at hl 1 rfl) ?_
        refine lv_iconst (v := 5) hx hb d95_117 (by decide) ?_
        refine lv_icmp_ne hx hb d95_118 rfl (fun h9 => ?_) (fun h9 => ?_)
        · have hF := (if_neg h9).symm.trans hF
          exact b169 ls x1 x2 x3 st _ _ hF (hl.sub [0, 1, 2, 3] rfl) I
        · have hF := (if_pos h9).symm.trans hF
          exact b121 ls x1 x2 x3 st _ _ hF (hl.sub [0, 1, 2, 3] rfl) I
  have b90 : ∀ (ls : Array Slot) (x1 : Int32) (x2 : Int32) (x3 : Int32) (st : mT) (H : Heap) (locs : List Loc), g_gather_90 x1 x2 x3 st = some q → lv_has ls 5 [(0, .ref r), (1, .int x1), (2, .int x2), (3, .int x3)] → hm_I D s0 s (mm_h dA h0 r M st) z0 H locs → W p l e { frames := 3, cells := 0, slots := 0, locals := 68 } s m ([.ref r, .int y1, .int y2] : List Value).toArray below meth c H locs 0 0 (MQ below (ht_Q D s0 (fun vv h1 z1 => vv = none ∧ h1 = mm_h dA h0 r M q ∧ z1 = z0)) ([.ref r, .int y1, .int y2] : List Value).toArray s 0 0 (fun q => s0.heap.size ≤ q)) (F0 m 90 ls []) := by
    intro ls x1 x2 x3 st H locs hF hl I
    unfold g_gather_90 at hF
    refine lv_iload_n hx hb d95_90 rfl (lv_at hl 1 rfl) ?_
    refine lv_bipush (v := 9) hx hb d95_91 (by decide) ?_
    refine lv_icmp_ne hx hb d95_93 rfl (fun h9 => ?_) (fun h9 => ?_)
    · have hF := (if_neg h9).symm.trans hF
      exact b106 ls x1 x2 x3 st _ _ hF (hl.sub [0, 1, 2, 3] rfl) I
    · have hF := (if_pos h9).symm.trans hF
      refine lv_aload_n hx hb d95_96 rfl (lv_at hl 0 rfl) ?_
      refine lv_aload_n hx hb d95_97 rfl (lv_at hl 0 rfl) ?_
      refine lv_iload_n hx hb d95_98 rfl (lv_at hl 2 rfl) ?_
      obtain ⟨q19, e9, hF⟩ := mm_bd hF
      refine ht_V (C := "MarkupStoreModel") (rest := [.ref r]) (as := [.int x2]) X hl (cm_end l D dA s0 hE h0 r M hM z0 x2 st q19 e9) (List.forall_mem_cons.mpr ⟨ms_k1650, List.forall_mem_cons.mpr ⟨ms_k1652, List.forall_mem_cons.mpr ⟨ms_p77, List.forall_mem_cons.mpr ⟨ms_k7, List.forall_mem_cons.mpr ⟨ms_k1653, fun _ h => absurd h List.not_mem_nil⟩⟩⟩⟩⟩) ⟨rfl, by decide +kernel, by decide +kernel, (by decide +kernel : (parseMethodDescriptor "(I)I").map (fun d => d.parameters.length) = some 1)⟩ (hm_recv hK I rfl mm_hr) I ⟨rfl, rfl⟩ ⟨⟨Nat.le_of_ble_eq_true rfl, Nat.le_of_ble_eq_true rfl⟩, Nat.le_of_ble_eq_true rfl, Nat.le_of_ble_eq_true rfl⟩ rfl (Nat.le_of_ble_eq_true rfl) d95_99 (fun vv h1 z1 H locs hR I9 => ?_)
      obtain ⟨e1, e2, e3⟩ := hR
      rw [e2, e3] at I9
      clear I e2 e3 e9
      have I := I9
      clear I9
      subst e1
      refine W.eq (g2 := F0 m 102 ls [.int q19.1, .ref r]) rfl ?_
      refine lv_iload_n hx hb d95_102 rfl (lv_at hl 3 rfl) ?_
      obtain ⟨q20, e9, hF⟩ := mm_bd hF
      refine ht_V (C := "MarkupStoreModel") (rest := []) (as := [.int q19.1, .int x3]) X hl (cm_entries l D dA s0 hE h0 r M hM z0 q19.1 x3 q19.2 q20 e9) (List.forall_mem_cons.mpr ⟨ms_k1724, List.forall_mem_cons.mpr ⟨ms_k1726, List.forall_mem_cons.mpr ⟨ms_p91, List.forall_mem_cons.mpr ⟨ms_k7, List.forall_mem_cons.mpr ⟨ms_k1727, fun _ h => absurd h List.not_mem_nil⟩⟩⟩⟩⟩) ⟨rfl, by decide +kernel, by decide +kernel, (by decide +kernel : (parseMethodDescriptor "(II)V").map (fun d => d.parameters.length) = some 2)⟩ (hm_recv hK I rfl mm_hr) I ⟨rfl, rfl⟩ ⟨⟨Nat.le_of_ble_eq_true rfl, Nat.le_of_ble_eq_true rfl⟩, Nat.le_of_ble_eq_true rfl, Nat.le_of_ble_eq_true rfl⟩ rfl (Nat.le_of_ble_eq_true rfl) d95_103 (fun vv h1 z1 H locs hR I9 => ?_)
      obtain ⟨e1, e2, e3⟩ := hR
      rw [e2, e3] at I9
      clear I e2 e3 e9
      have I := I9
      clear I9
      subst e1
      refine W.eq (g2 := F0 m 106 ls []) rfl ?_
      exact b106 ls x1 x2 x3 q20 _ _ hF (hl.sub [0, 1, 2, 3] rfl) I
  have b78 : ∀ (ls : Array Slot) (x1 : Int32) (x2 : Int32) (x3 : Int32) (st : mT) (H : Heap) (locs : List Loc), g_gather_78 x1 x2 x3 st = some q → lv_has ls 5 [(0, .ref r), (1, .int x1), (2, .int x2), (3, .int x3)] → hm_I D s0 s (mm_h dA h0 r M st) z0 H locs → W p l e { frames := 3, cells := 0, slots := 0, locals := 68 } s m ([.ref r, .int y1, .int y2] : List Value).toArray below meth c H locs 0 0 (MQ below (ht_Q D s0 (fun vv h1 z1 => vv = none ∧ h1 = mm_h dA h0 r M q ∧ z1 = z0)) ([.ref r, .int y1, .int y2] : List Value).toArray s 0 0 (fun q => s0.heap.size ≤ q)) (F0 m 78 ls []) := by
    intro ls x1 x2 x3 st H locs hF hl I
    unfold g_gather_78 at hF
    refine lv_aload_n hx hb d95_78 rfl (lv_at hl 0 rfl) ?_
    refine lv_iload_n hx hb d95_79 rfl (lv_at hl 2 rfl) ?_
    refine lv_iconst (v := 1) hx hb d95_80 (by decide) ?_
    refine lv_iadd hx hb d95_81 ?_
    refine lv_aload_n hx hb d95_82 rfl (lv_at hl 0 rfl) ?_
    refine lv_iload_n hx hb d95_83 rfl (lv_at hl 2 rfl) ?_
    obtain ⟨q4, e9, hF⟩ := mm_bd hF
    refine ht_V (C := "MarkupStoreModel") (rest := [.int (x2 + 1), .ref r]) (as := [.int x2]) X hl (cm_end l D dA s0 hE h0 r M hM z0 x2 st q4 e9) (List.forall_mem_cons.mpr ⟨ms_k1650, List.forall_mem_cons.mpr ⟨ms_k1652, List.forall_mem_cons.mpr ⟨ms_p77, List.forall_mem_cons.mpr ⟨ms_k7, List.forall_mem_cons.mpr ⟨ms_k1653, fun _ h => absurd h List.not_mem_nil⟩⟩⟩⟩⟩) ⟨rfl, by decide +kernel, by decide +kernel, (by decide +kernel : (parseMethodDescriptor "(I)I").map (fun d => d.parameters.length) = some 1)⟩ (hm_recv hK I rfl mm_hr) I ⟨rfl, rfl⟩ ⟨⟨Nat.le_of_ble_eq_true rfl, Nat.le_of_ble_eq_true rfl⟩, Nat.le_of_ble_eq_true rfl, Nat.le_of_ble_eq_true rfl⟩ rfl (Nat.le_of_ble_eq_true rfl) d95_84 (fun vv h1 z1 H locs hR I9 => ?_)
    obtain ⟨e1, e2, e3⟩ := hR
    rw [e2, e3] at I9
    clear I e2 e3 e9
    have I := I9
    clear I9
    subst e1
    refine W.eq (g2 := F0 m 87 ls [.int q4.1, .int (x2 + 1), .ref r]) rfl ?_
    obtain ⟨q5, e9, hF⟩ := mm_bd hF
    refine ht_V (C := "MarkupStoreModel") (rest := []) (as := [.int (x2 + 1), .int q4.1]) X hl (cm_entries l D dA s0 hE h0 r M hM z0 (x2 + 1) q4.1 q4.2 q5 e9) (List.forall_mem_cons.mpr ⟨ms_k1724, List.forall_mem_cons.mpr ⟨ms_k1726, List.forall_mem_cons.mpr ⟨ms_p91, List.forall_mem_cons.mpr ⟨ms_k7, List.forall_mem_cons.mpr ⟨ms_k1727, fun _ h => absurd h List.not_mem_nil⟩⟩⟩⟩⟩) ⟨rfl, by decide +kernel, by decide +kernel, (by decide +kernel : (parseMethodDescriptor "(II)V").map (fun d => d.parameters.length) = some 2)⟩ (hm_recv hK I rfl mm_hr) I ⟨rfl, rfl⟩ ⟨⟨Nat.le_of_ble_eq_true rfl, Nat.le_of_ble_eq_true rfl⟩, Nat.le_of_ble_eq_true rfl, Nat.le_of_ble_eq_true rfl⟩ rfl (Nat.le_of_ble_eq_true rfl) d95_87 (fun vv h1 z1 H locs hR I9 => ?_)
    obtain ⟨e1, e2, e3⟩ := hR
    rw [e2, e3] at I9
    clear I e2 e3 e9
    have I := I9
    clear I9
    subst e1
    refine W.eq (g2 := F0 m 90 ls []) rfl ?_
    exact b90 ls x1 x2 x3 q5 _ _ hF (hl.sub [0, 1, 2, 3] rfl) I
  have b68 : ∀ (ls : Array Slot) (x1 : Int32) (x2 : Int32) (x3 : Int32) (st : mT) (H : Heap) (locs : List Loc), g_gather_68 x1 x2 x3 st = some q → lv_has ls 5 [(0, .ref r), (1, .int x1), (2, .int x2), (3, .int x3)] → hm_I D s0 s (mm_h dA h0 r M st) z0 H locs → W p l e { frames := 3, cells := 0, slots := 0, locals := 68 } s m ([.ref r, .int y1, .int y2] : List Value).toArray below meth c H locs 0 0 (MQ below (ht_Q D s0 (fun vv h1 z1 => vv = none ∧ h1 = mm_h dA h0 r M q ∧ z1 = z0)) ([.ref r, .int y1, .int y2] : List Value).toArray s 0 0 (fun q => s0.heap.size ≤ q)) (F0 m 68 ls []) := by
    intro ls x1 x2 x3 st H locs hF hl I
    unfold g_gather_68 at hF
    refine lv_iload_n hx hb d95_68 rfl (lv_at hl 1 rfl) ?_
    refine lv_iconst (v := 1) hx hb d95_69 (by decide) ?_
    refine lv_icmp_eq hx hb d95_70 rfl (fun h9 => ?_) (fun h9 => ?_)
    · have hF := (if_pos h9).symm.trans hF
      exact b78 ls x1 x2 x3 st _ _ hF (hl.sub [0, 1, 2, 3] rfl) I
    · have hF := (if_neg h9).symm.trans hF
      refine lv_iload_n hx hb d95_73 rfl (lv_at hl 1 rfl) ?_
      refine lv_iconst (v := 2) hx hb d95_74 (by decide) ?_
      refine lv_icmp_ne hx hb d95_75 rfl (fun h9 => ?_) (fun h9 => ?_)
      · have hF := (if_neg h9).symm.trans hF
        exact b90 ls x1 x2 x3 st _ _ hF (hl.sub [0, 1, 2, 3] rfl) I
      · have hF := (if_pos h9).symm.trans hF
        exact b78 ls x1 x2 x3 st _ _ hF (hl.sub [0, 1, 2, 3] rfl) I
  have b63 : ∀ (ls : Array Slot) (x1 : Int32) (x2 : Int32) (x3 : Int32) (st : mT) (H : Heap) (locs : List Loc), g_gather_63 x1 x2 x3 st = some q → lv_has ls 5 [(0, .ref r), (1, .int x1), (2, .int x2), (3, .int x3)] → hm_I D s0 s (mm_h dA h0 r M st) z0 H locs → W p l e { frames := 3, cells := 0, slots := 0, locals := 68 } s m ([.ref r, .int y1, .int y2] : List Value).toArray below meth c H locs 0 0 (MQ below (ht_Q D s0 (fun vv h1 z1 => vv = none ∧ h1 = mm_h dA h0 r M q ∧ z1 = z0)) ([.ref r, .int y1, .int y2] : List Value).toArray s 0 0 (fun q => s0.heap.size ≤ q)) (F0 m 63 ls []) := by
    intro ls x1 x2 x3 st H locs hF hl I
    unfold g_gather_63 at hF
    refine lv_aload_n hx hb d95_63 rfl (lv_at hl 0 rfl) ?_
    refine lv_iload_n hx hb d95_64 rfl (lv_at hl 2 rfl) ?_
    obtain ⟨q3, e9, hF⟩ := mm_bd hF
    refine ht_V (C := "MarkupStoreModel") (rest := []) (as := [.int x2]) X hl (cm_entry l D dA s0 hE h0 r M hM z0 x2 st q3 e9) (List.forall_mem_cons.mpr ⟨ms_k1728, List.forall_mem_cons.mpr ⟨ms_k1730, List.forall_mem_cons.mpr ⟨ms_p92, List.forall_mem_cons.mpr ⟨ms_k7, List.forall_mem_cons.mpr ⟨ms_k1731, fun _ h => absurd h List.not_mem_nil⟩⟩⟩⟩⟩) ⟨rfl, by decide +kernel, by decide +kernel, (by decide +kernel : (parseMethodDescriptor "(I)V").map (fun d => d.parameters.length) = some 1)⟩ (hm_recv hK I rfl mm_hr) I ⟨rfl, rfl⟩ ⟨⟨Nat.le_of_ble_eq_true rfl, Nat.le_of_ble_eq_true rfl⟩, Nat.le_of_ble_eq_true rfl, Nat.le_of_ble_eq_true rfl⟩ rfl (Nat.le_of_ble_eq_true rfl) d95_65 (fun vv h1 z1 H locs hR I9 => ?_)
    obtain ⟨e1, e2, e3⟩ := hR
    rw [e2, e3] at I9
    clear I e2 e3 e9
    have I := I9
    clear I9
    subst e1
    refine W.eq (g2 := F0 m 68 ls []) rfl ?_
    exact b68 ls x1 x2 x3 q3 _ _ hF (hl.sub [0, 1, 2, 3] rfl) I
  have b43 : ∀ (ls : Array Slot) (w0 : Int32) (w1 : Int32) (st : mT) (H : Heap) (locs : List Loc), g_gather_43 w0 w1 st = some q → lv_has ls 5 [] → hm_I D s0 s (mm_h dA h0 r M st) z0 H locs → W p l e { frames := 3, cells := 0, slots := 0, locals := 68 } s m ([.ref r, .int y1, .int y2] : List Value).toArray below meth c H locs 0 0 (MQ below (ht_Q D s0 (fun vv h1 z1 => vv = none ∧ h1 = mm_h dA h0 r M q ∧ z1 = z0)) ([.ref r, .int y1, .int y2] : List Value).toArray s 0 0 (fun q => s0.heap.size ≤ q)) (F0 m 43 ls [.int w0, .int w1, .ref r]) := by
    intro ls w0 w1 st H locs hF hl I
    unfold g_gather_43 at hF
    obtain ⟨q21, e9, hF⟩ := mm_bd hF
    refine ht_V (C := "MarkupStoreModel") (rest := []) (as := [.int w1, .int w0]) X hl (cm_entries l D dA s0 hE h0 r M hM z0 w1 w0 st q21 e9) (List.forall_mem_cons.mpr ⟨ms_k1724, List.forall_mem_cons.mpr ⟨ms_k1726, List.forall_mem_cons.mpr ⟨ms_p91, List.forall_mem_cons.mpr ⟨ms_k7, List.forall_mem_cons.mpr ⟨ms_k1727, fun _ h => absurd h List.not_mem_nil⟩⟩⟩⟩⟩) ⟨rfl, by decide +kernel, by decide +kernel, (by decide +kernel : (parseMethodDescriptor "(II)V").map (fun d => d.parameters.length) = some 2)⟩ (hm_recv hK I rfl mm_hr) I ⟨rfl, rfl⟩ ⟨⟨Nat.le_of_ble_eq_true rfl, Nat.le_of_ble_eq_true rfl⟩, Nat.le_of_ble_eq_true rfl, Nat.le_of_ble_eq_true rfl⟩ rfl (Nat.le_of_ble_eq_true rfl) d95_43 (fun vv h1 z1 H locs hR I9 => ?_)
    obtain ⟨e1, e2, e3⟩ := hR
    rw [e2, e3] at I9
    clear I e2 e3 e9
    have I := I9
    clear I9
    subst e1
    refine W.eq (g2 := F0 m 46 ls []) rfl ?_
    exact ht_vret X d95_46 I (Nat.le_of_ble_eq_true rfl) (Nat.le_of_ble_eq_true rfl) (mm_finV hF)
  have b38 : ∀ (ls : Array Slot) (x3 : Int32) (w0 : Int32) (st : mT) (H : Heap) (locs : List Loc), g_gather_38 x3 w0 st = some q → lv_has ls 5 [(3, .int x3)] → hm_I D s0 s (mm_h dA h0 r M st) z0 H locs → W p l e { frames := 3, cells := 0, slots := 0, locals := 68 } s m ([.ref r, .int y1, .int y2] : List Value).toArray below meth c H locs 0 0 (MQ below (ht_Q D s0 (fun vv h1 z1 => vv = none ∧ h1 = mm_h dA h0 r M q ∧ z1 = z0)) ([.ref r, .int y1, .int y2] : List Value).toArray s 0 0 (fun q => s0.heap.size ≤ q)) (F0 m 38 ls [.int w0, .ref r]) := by
    intro ls x3 w0 st H locs hF hl I
    unfold g_gather_38 at hF
    refine lv_iload_n hx hb d95_38 rfl (lv_at hl 0 rfl) ?_
    refine lv_goto hx hb d95_39 rfl ?_
    exact b43 ls x3 w0 st _ _ hF (hl.sub [] rfl) I
  have b28 : ∀ (ls : Array Slot) (x1 : Int32) (x3 : Int32) (w0 : Int32) (st : mT) (H : Heap) (locs : List Loc), g_gather_28 x1 x3 w0 st = some q → lv_has ls 5 [(1, .int x1), (3, .int x3)] → hm_I D s0 s (mm_h dA h0 r M st) z0 H locs → W p l e { frames := 3, cells := 0, slots := 0, locals := 68 } s m ([.ref r, .int y1, .int y2] : List Value).toArray below meth c H locs 0 0 (MQ below (ht_Q D s0 (fun vv h1 z1 => vv = none ∧ h1 = mm_h dA h0 r M q ∧ z1 = z0)) ([.ref r, .int y1, .int y2] : List Value).toArray s 0 0 (fun q => s0.heap.size ≤ q)) (F0 m 28 ls [.int w0, .ref r]) := by
    intro ls x1 x3 w0 st H locs hF hl I
    unfold g_gather_28 at hF
    refine lv_iload_n hx hb d95_28 rfl (lv_at hl 0 rfl) ?_
    refine lv_iconst (v := 1) hx hb d95_29 (by decide) ?_
    refine lv_icmp_eq hx hb d95_30 rfl (fun h9 => ?_) (fun h9 => ?_)
    · have hF := (if_pos h9).symm.trans hF
      exact b38 ls x3 w0 st _ _ hF (hl.sub [1] rfl) I
    · have hF := (if_neg h9).symm.trans hF
      refine lv_iload_n hx hb d95_33 rfl (lv_at hl 0 rfl) ?_
      refine lv_iconst (v := 2) hx hb d95_34 (by decide) ?_
      refine lv_icmp_ne hx hb d95_35 rfl (fun h9 => ?_) (fun h9 => ?_)
      · have hF := (if_neg h9).symm.trans hF
        refine lv_iconst (v := 0) hx hb d95_42 (by decide) ?_
        exact b43 ls 0 w0 st _ _ hF (hl.sub [] rfl) I
      · have hF := (if_pos h9).symm.trans hF
        exact b38 ls x3 w0 st _ _ hF (hl.sub [1] rfl) I
  have hF := hg
  unfold g_gather at hF
  refine lv_aload_n hx hb d95_0 rfl (lv_at hl 0 rfl) ?_
  refine lv_iconst (v := 0) hx hb d95_1 (by decide) ?_
  obtain ⟨st1, e9, hF⟩ := mm_lt_some hF
  refine mm_put (k := 53) (ty := .int) X I (by decide) ms_k1369 rfl rfl (by decide +kernel) ⟨rfl, rfl⟩ rfl e9 d95_2 (fun H locs I => ?_)
  clear e9
  refine lv_aload_n hx hb d95_5 rfl (lv_at hl 0 rfl) ?_
  obtain ⟨q2, e9, hF⟩ := mm_bd hF
  refine ht_V (C := "MarkupStoreModel") (rest := []) (as := []) X hl (cm_count l D dA s0 hE h0 r M hM z0 st1 q2 e9) (List.forall_mem_cons.mpr ⟨ms_k1583, List.forall_mem_cons.mpr ⟨ms_k1585, List.forall_mem_cons.mpr ⟨ms_p62, List.forall_mem_cons.mpr ⟨ms_k7, List.forall_mem_cons.mpr ⟨ms_k1586, fun _ h => absurd h List.not_mem_nil⟩⟩⟩⟩⟩) ⟨rfl, by decide +kernel, by decide +kernel, (by decide +kernel : (parseMethodDescriptor "()I").map (fun d => d.parameters.length) = some 0)⟩ (hm_recv hK I rfl mm_hr) I ⟨rfl, rfl⟩ ⟨⟨Nat.le_of_ble_eq_true rfl, Nat.le_of_ble_eq_true rfl⟩, Nat.le_of_ble_eq_true rfl, Nat.le_of_ble_eq_true rfl⟩ rfl (Nat.le_of_ble_eq_true rfl) d95_6 (fun vv h1 z1 H locs hR I9 => ?_)
  obtain ⟨e1, e2, e3⟩ := hR
  rw [e2, e3] at I9
  clear I e2 e3 e9
  have I := I9
  clear I9
  subst e1
  refine W.eq (g2 := F0 m 9 ls [.int q2.1]) rfl ?_
  refine lv_istore_n hx hb d95_9 rfl hl (by decide) rfl (fun ls hl => ?_)
  have hl : lv_has ls 5 [(3, .int q2.1), (0, .ref r), (1, .int y1), (2, .int y2)] := hl
  refine lv_iload_n hx hb d95_10 rfl (lv_at hl 3 rfl) ?_
  refine lv_if_ge hx hb d95_11 rfl (fun h9 => ?_) (fun h9 => ?_)
  · have hF := (if_pos h9).symm.trans hF
    refine lv_iload_n hx hb d95_47 rfl (lv_at hl 2 rfl) ?_
    refine lv_iconst (v := 2) hx hb d95_48 (by decide) ?_
    refine lv_icmp_eq hx hb d95_49 rfl (fun h9 => ?_) (fun h9 => ?_)
    · have hF := (if_pos h9).symm.trans hF
      exact b63 ls y1 y2 q2.1 q2.2 _ _ hF (hl.sub [1, 2, 3, 0] rfl) I
    · have hF := (if_neg h9).symm.trans hF
      refine lv_iload_n hx hb d95_52 rfl (lv_at hl 2 rfl) ?_
      refine lv_iconst (v := 5) hx hb d95_53 (by decide) ?_
      refine lv_icmp_eq hx hb d95_54 rfl (fun h9 => ?_) (fun h9 => ?_)
      · have hF := (if_pos h9).symm.trans hF
        exact b63 ls y1 y2 q2.1 q2.2 _ _ hF (hl.sub [1, 2, 3, 0] rfl) I
      · have hF := (if_neg h9).symm.trans hF
        refine lv_iload_n hx hb d95_57 rfl (lv_at hl 2 rfl) ?_
        refine lv_bipush (v := 6) hx hb d95_58 (by decide) ?_
        refine lv_icmp_ne hx hb d95_60 rfl (fun h9 => ?_) (fun h9 => ?_)
        · have hF := (if_neg h9).symm.trans hF
          exact b68 ls y1 y2 q2.1 q2.2 _ _ hF (hl.sub [1, 2, 3, 0] rfl) I
        · have hF := (if_pos h9).symm.trans hF
          exact b63 ls y1 y2 q2.1 q2.2 _ _ hF (hl.sub [1, 2, 3, 0] rfl) I
  · have hF := (if_neg h9).symm.trans hF
    refine lv_aload_n hx hb d95_14 rfl (lv_at hl 1 rfl) ?_
    refine lv_iconst (v := 0) hx hb d95_15 (by decide) ?_
    refine lv_iload_n hx hb d95_16 rfl (lv_at hl 2 rfl) ?_
    refine lv_if_ne hx hb d95_17 rfl (fun h9 => ?_) (fun h9 => ?_)
    · have hF := (if_neg h9).symm.trans hF
      exact b28 ls y1 q2.1 0 q2.2 _ _ hF (hl.sub [2, 0] rfl) I
    · have hF := (if_pos h9).symm.trans hF
      refine lv_iload_n hx hb d95_20 rfl (lv_at hl 0 rfl) ?_
      refine lv_if_le hx hb d95_21 rfl (fun h9 => ?_) (fun h9 => ?_)
      · have hF := (if_pos h9).symm.trans hF
        exact b28 ls y1 q2.1 0 q2.2 _ _ hF (hl.sub [2, 0] rfl) I
      · have hF := (if_neg h9).symm.trans hF
        refine lv_iconst (v := 1) hx hb d95_24 (by decide) ?_
        refine lv_goto hx hb d95_25 rfl ?_
        exact b43 ls 1 0 q2.2 _ _ hF (hl.sub [] rfl) I

def g_isKind_136 (x5 : Int32) (st : mT) : Option (Int32 × mT) := (mm_zc x5 (some (x5, st)))
def g_isKind_128 (k81 : Int32 → Int32 → Int32 → Int32 → mT → Option (Int32 × mT)) (x1 : Int32) (x3 : Int32) (x6 : Int32) (w0 : Int32) (st : mT) : Option (Int32 × mT) := (k81 x1 x3 w0 (x6 + 1) st)
def g_isKind_81 : Nat → Int32 → Int32 → Int32 → Int32 → mT → Option (Int32 × mT)
  | 0, _, _, _, _, _ => none
  | n9 + 1, x1, x3, x5, x6, st => (mm_ld (st.2.1 28) 130 x1 (fun v4 => (if v4 ≤ x6 then (g_isKind_136 x5 st) else (if x5 = 0 then (g_isKind_136 x5 st) else ((g_f x3 (8 + x6) st).bind (fun q5 => (mm_ld (q5.2.2.1 27) 130 x1 (fun v6 => ((g_look (v6 + x6) q5.2).bind (fun q7 => (if q5.1 = q7.1 then (g_isKind_128 (g_isKind_81 n9) x1 x3 x6 1 q7.2) else (g_isKind_128 (g_isKind_81 n9) x1 x3 x6 0 q7.2))))))))))))
def g_isKind_76 (x1 : Int32) (x3 : Int32) (w0 : Int32) (st : mT) : Option (Int32 × mT) := (g_isKind_81 mF x1 x3 w0 0 st)
def g_isKind_75 (x1 : Int32) (x3 : Int32) (st : mT) : Option (Int32 × mT) := (g_isKind_76 x1 x3 0 st)
def g_isKind_44 (st : mT) : Option (Int32 × mT) := (some (1, st))
def g_isKind (y1 : Int32) (y2 : Int32) (st : mT) : Option (Int32 × mT) := ((g_doc y2 st).bind (fun q1 => ((g_f q1.1 1 q1.2).bind (fun q2 => (mm_ld (q2.2.2.1 26) 130 y1 (fun v3 => (if v3 ≤ 0 then (if q2.1 = 1 then ((g_f q1.1 3 q2.2).bind (fun q8 => (mm_ld (q8.2.2.1 28) 130 y1 (fun v9 => (if q8.1 = v9 then (g_isKind_76 y1 q1.1 1 q8.2) else (g_isKind_75 y1 q1.1 q8.2)))))) else (g_isKind_75 y1 q1.1 q2.2)) else (mm_ld (q2.2.2.1 26) 130 y1 (fun v10 => (if v10 = 4 then (g_isKind_44 q2.2) else (mm_ld (q2.2.2.1 26) 130 y1 (fun v11 => (if q2.1 = v11 then (g_isKind_44 q2.2) else (some (0, q2.2)))))))))))))))
set_option maxRecDepth 100000 in
set_option maxHeartbeats 8000000 in
theorem cm_isKind (l : Launch) (D : va_G) (dA : Nat → ClassId) (s0 : State) (hE : ms_EV D dA s0) (h0 : hm_T) (r : Nat) (M : Nat → Nat) (hM : mm_ok r M) (z0 : hz_T) (y1 : Int32) (y2 : Int32) (st : mT) (q : Int32 × mT) (hg : g_isKind y1 y2 st = some q) : ht_C l D s0 yM96 bM96 7 (Option.some Jvm.ClassFile.FieldType.boolean) 1 22 0 0 [.ref r, .int y1, .int y2] (fun h z => h = mm_h dA h0 r M st ∧ z = z0) (fun h z vv h1 z1 => vv = some (.int q.1) ∧ h1 = mm_h dA h0 r M q.2 ∧ z1 = z0) := by
  refine ht_C.mk hE.1 (by decide) (Nat.le_of_ble_eq_true rfl) [(0, .ref r), (1, .int y1), (2, .int y2)] rfl ?_
  intro p e s m below meth c ls h z X hin hpre I hl
  have hx := X.1
  have hb := X.2.1
  have hml := X.2.2.1
  have hown : s.vm.findClass "MarkupStoreModel" = some m.cls := X.2.2.2.1
  have hts := X.2.2.2.2.2.2.1
  have hK := X.2.2.2.2.2.2.2.2.1
  rw [hpre.1, hpre.2] at I
  clear hpre
  have b136 : ∀ (ls : Array Slot) (x5 : Int32) (st : mT) (H : Heap) (locs : List Loc), g_isKind_136 x5 st = some q → lv_has ls 7 [(5, .int x5)] → hm_I D s0 s (mm_h dA h0 r M st) z0 H locs → W p l e { frames := 1, cells := 0, slots := 0, locals := 22 } s m ([.ref r, .int y1, .int y2] : List Value).toArray below meth c H locs 0 0 (MQ below (ht_Q D s0 (fun vv h1 z1 => vv = some (.int q.1) ∧ h1 = mm_h dA h0 r M q.2 ∧ z1 = z0)) ([.ref r, .int y1, .int y2] : List Value).toArray s 0 0 (fun q => s0.heap.size ≤ q)) (F0 m 136 ls []) := by
    intro ls x5 st H locs hF hl I
    unfold g_isKind_136 at hF
    refine lv_iload hx hb d96_136 (lv_at hl 0 rfl) ?_
    obtain ⟨hz9, hF⟩ := mm_zc_some hF
    exact ht_zret X d96_138 I (Nat.le_of_ble_eq_true rfl) (Nat.le_of_ble_eq_true rfl) (mm_fin hF) hz9.1
  have b128 : ∀ (k81 : Int32 → Int32 → Int32 → Int32 → mT → Option (Int32 × mT)), (∀ (ls : Array Slot) (x1 : Int32) (x3 : Int32) (x5 : Int32) (x6 : Int32) (st : mT) (H : Heap) (locs : List Loc), k81 x1 x3 x5 x6 st = some q → lv_has ls 7 [(0, .ref r), (1, .int x1), (3, .int x3), (5, .int x5), (6, .int x6)] → hm_I D s0 s (mm_h dA h0 r M st) z0 H locs → W p l e { frames := 1, cells := 0, slots := 0, locals := 22 } s m ([.ref r, .int y1, .int y2] : List Value).toArray below meth c H locs 0 0 (MQ below (ht_Q D s0 (fun vv h1 z1 => vv = some (.int q.1) ∧ h1 = mm_h dA h0 r M q.2 ∧ z1 = z0)) ([.ref r, .int y1, .int y2] : List Value).toArray s 0 0 (fun q => s0.heap.size ≤ q)) (F0 m 81 ls [])) → ∀ (ls : Array Slot) (x1 : Int32) (x3 : Int32) (x6 : Int32) (w0 : Int32) (st : mT) (H : Heap) (locs : List Loc), g_isKind_128 k81 x1 x3 x6 w0 st = some q → lv_has ls 7 [(0, .ref r), (1, .int x1), (3, .int x3), (6, .int x6)] → hm_I D s0 s (mm_h dA h0 r M st) z0 H locs → W p l e { frames := 1, cells := 0, slots := 0, locals := 22 } s m ([.ref r, .int y1, .int y2] : List Value).toArray below meth c H locs 0 0 (MQ below (ht_Q D s0 (fun vv h1 z1 => vv = some (.int q.1) ∧ h1 = mm_h dA h0 r M q.2 ∧ z1 = z0)) ([.ref r, .int y1, .int y2] : List Value).toArray s 0 0 (fun q => s0.heap.size ≤ q)) (F0 m 128 ls [.int w0]) := by
    intro k81 hk81 ls x1 x3 x6 w0 st H locs hF hl I
    unfold g_isKind_128 at hF
    refine lv_istore hx hb d96_128 hl (by decide) rfl (fun ls hl => ?_)
    have hl : lv_has ls 7 [(5, .int w0), (0, .ref r), (1, .int x1), (3, .int x3), (6, .int x6)] := hl
    refine lv_iinc (k := 4) (v := (x6 + 1)) hx hb d96_130 hl rfl (rfl) (by decide) rfl (fun ls hl => ?_)
    have hl : lv_has ls 7 [(6, .int (x6 + 1)), (5, .int w0), (0, .ref r), (1, .int x1), (3, .int x3)] := hl
    refine lv_goto hx hb d96_133 rfl ?_
    exact hk81 ls x1 x3 w0 (x6 + 1) st _ _ hF (hl.sub [2, 3, 4, 1, 0] rfl) I
  have b81 : ∀ n9 : Nat, ∀ (ls : Array Slot) (x1 : Int32) (x3 : Int32) (x5 : Int32) (x6 : Int32) (st : mT) (H : Heap) (locs : List Loc), g_isKind_81 n9 x1 x3 x5 x6 st = some q → lv_has ls 7 [(0, .ref r), (1, .int x1), (3, .int x3), (5, .int x5), (6, .int x6)] → hm_I D s0 s (mm_h dA h0 r M st) z0 H locs → W p l e { frames := 1, cells := 0, slots := 0, locals := 22 } s m ([.ref r, .int y1, .int y2] : List Value).toArray below meth c H locs 0 0 (MQ below (ht_Q D s0 (fun vv h1 z1 => vv = some (.int q.1) ∧ h1 = mm_h dA h0 r M q.2 ∧ z1 = z0)) ([.ref r, .int y1, .int y2] : List Value).toArray s 0 0 (fun q => s0.heap.size ≤ q)) (F0 m 81 ls []) := by
    intro n9
    induction n9 with
    | zero => intro ls x1 x3 x5 x6 st H locs hF; cases hF
    | succ n9 hk81 =>
    intro ls x1 x3 x5 x6 st H locs hF hl I
    unfold g_isKind_81 at hF
    refine lv_iload hx hb d96_81 (lv_at hl 4 rfl) ?_
    refine lv_aload_n hx hb d96_83 rfl (lv_at hl 0 rfl) ?_
    refine va_get (D := D) (ci := 2) (v := .ref (M 28)) (C := kR2) (T := kT2) (N := 60) hx hb hts ku2 hown hK (hm_one I.1 mm_hr) 0 rfl rfl 28 (by decide) (hts _ ms_k1344) (fun _ h => h) rfl d96_84 ?_
    refine lv_iload_n hx hb d96_87 rfl (lv_at hl 1 rfl) ?_
    obtain ⟨v4, i9, e9, hF⟩ := mm_ld_some hF
    refine va_iald hx hb hK (hm_one I.1 (mm_a28 hM)) 0 0 rfl rfl i9 d96_88 ?_
    refine ms_top (y := v4) e9 ?_
    clear e9 i9
    refine lv_icmp_ge hx hb d96_89 rfl (fun h9 => ?_) (fun h9 => ?_)
    · have hF := (if_pos h9).symm.trans hF
      exact b136 ls x5 st _ _ hF (hl.sub [3] rfl) I
    · have hF := (if_neg h9).symm.trans hF
      refine lv_iload hx hb d96_92 (lv_at hl 3 rfl) ?_
      refine lv_if_eq hx hb d96_94 rfl (fun h9 => ?_) (fun h9 => ?_)
      · have hF := (if_pos h9).symm.trans hF
        exact b136 ls x5 st _ _ hF (hl.sub [3] rfl) I
      · have hF := (if_neg h9).symm.trans hF
        refine lv_aload_n hx hb d96_97 rfl (lv_at hl 0 rfl) ?_
        refine lv_iload_n hx hb d96_98 rfl (lv_at hl 2 rfl) ?_
        refine lv_bipush (v := 8) hx hb d96_99 (by decide) ?_
        refine lv_iload hx hb d96_101 (lv_at hl 4 rfl) ?_
        refine lv_iadd hx hb d96_103 ?_
        obtain ⟨q5, e9, hF⟩ := mm_bd hF
        refine ht_V (C := "MarkupStoreModel") (rest := []) (as := [.int x3, .int (8 + x6)]) X hl (cm_f l D dA s0 hE h0 r M hM z0 x3 (8 + x6) st q5 e9) (List.forall_mem_cons.mpr ⟨ms_k1587, List.forall_mem_cons.mpr ⟨ms_k1589, List.forall_mem_cons.mpr ⟨ms_p63, List.forall_mem_cons.mpr ⟨ms_k7, List.forall_mem_cons.mpr ⟨ms_k1590, fun _ h => absurd h List.not_mem_nil⟩⟩⟩⟩⟩) ⟨rfl, by decide +kernel, by decide +kernel, (by decide +kernel : (parseMethodDescriptor "(II)I").map (fun d => d.parameters.length) = some 2)⟩ (hm_recv hK I rfl mm_hr) I ⟨rfl, rfl⟩ ⟨⟨Nat.le_of_ble_eq_true rfl, Nat.le_of_ble_eq_true rfl⟩, Nat.le_of_ble_eq_true rfl, Nat.le_of_ble_eq_true rfl⟩ rfl (Nat.le_of_ble_eq_true rfl) d96_104 (fun vv h1 z1 H locs hR I9 => ?_)
        obtain ⟨e1, e2, e3⟩ := hR
        rw [e2, e3] at I9
        clear I e2 e3 e9
        have I := I9
        clear I9
        subst e1
        refine W.eq (g2 := F0 m 107 ls [.int q5.1]) rfl ?_
        refine lv_aload_n hx hb d96_107 rfl (lv_at hl 0 rfl) ?_
        refine lv_aload_n hx hb d96_108 rfl (lv_at hl 0 rfl) ?_
        refine va_get (D := D) (ci := 2) (v := .ref (M 27)) (C := kR2) (T := kT2) (N := 60) hx hb hts ku2 hown hK (hm_one I.1 mm_hr) 0 rfl rfl 27 (by decide) (hts _ ms_k1343) (fun _ h => h) rfl d96_109 ?_
        refine lv_iload_n hx hb d96_112 rfl (lv_at hl 1 rfl) ?_
        obtain ⟨v6, i9, e9, hF⟩ := mm_ld_some hF
        refine va_iald hx hb hK (hm_one I.1 (mm_a27 hM)) 0 0 rfl rfl i9 d96_113 ?_
        refine ms_top (y := v6) e9 ?_
        clear e9 i9
        refine lv_iload hx hb d96_114 (lv_at hl 4 rfl) ?_
        refine lv_iadd hx hb d96_116 ?_
        obtain ⟨q7, e9, hF⟩ := mm_bd hF
        refine ht_V (C := "MarkupStoreModel") (rest := [.int q5.1]) (as := [.int (v6 + x6)]) X hl (cm_look l D dA s0 hE h0 r M hM z0 (v6 + x6) q5.2 q7 e9) (List.forall_mem_cons.mpr ⟨ms_k1516, List.forall_mem_cons.mpr ⟨ms_k1518, List.forall_mem_cons.mpr ⟨ms_p46, List.forall_mem_cons.mpr ⟨ms_k7, List.forall_mem_cons.mpr ⟨ms_k1519, fun _ h => absurd h List.not_mem_nil⟩⟩⟩⟩⟩) ⟨rfl, by decide +kernel, by decide +kernel, (by decide +kernel : (parseMethodDescriptor "(I)C").map (fun d => d.parameters.length) = some 1)⟩ (hm_recv hK I rfl mm_hr) I ⟨rfl, rfl⟩ ⟨⟨Nat.le_of_ble_eq_true rfl, Nat.le_of_ble_eq_true rfl⟩, Nat.le_of_ble_eq_true rfl, Nat.le_of_ble_eq_true rfl⟩ rfl (Nat.le_of_ble_eq_true rfl) d96_117 (fun vv h1 z1 H locs hR I9 => ?_)
        obtain ⟨e1, e2, e3⟩ := hR
        rw [e2, e3] at I9
        clear I e2 e3 e9
        have I := I9
        clear I9
        subst e1
        refine W.eq (g2 := F0 m 120 ls [.int q7.1, .int q5.1]) rfl ?_
        refine lv_icmp_ne hx hb d96_120 rfl (fun h9 => ?_) (fun h9 => ?_)
        · have hF := (if_neg h9).symm.trans hF
          refine lv_iconst (v := 0) hx hb d96_127 (by decide) ?_
          exact b128 (g_isKind_81 n9) hk81 ls x1 x3 x6 0 q7.2 _ _ hF (hl.sub [0, 1, 2, 4] rfl) I
        · have hF := (if_pos h9).symm.trans hF
          refine lv_iconst (v := 1) hx hb d96_123 (by decide) ?_
          refine lv_goto hx hb d96_124 rfl ?_
          exact b128 (g_isKind_81 n9) hk81 ls x1 x3 x6 1 q7.2 _ _ hF (hl.sub [0, 1, 2, 4] rfl) I
  have b76 : ∀ (ls : Array Slot) (x1 : Int32) (x3 : Int32) (w0 : Int32) (st : mT) (H : Heap) (locs : List Loc), g_isKind_76 x1 x3 w0 st = some q → lv_has ls 7 [(0, .ref r), (1, .int x1), (3, .int x3)] → hm_I D s0 s (mm_h dA h0 r M st) z0 H locs → W p l e { frames := 1, cells := 0, slots := 0, locals := 22 } s m ([.ref r, .int y1, .int y2] : List Value).toArray below meth c H locs 0 0 (MQ below (ht_Q D s0 (fun vv h1 z1 => vv = some (.int q.1) ∧ h1 = mm_h dA h0 r M q.2 ∧ z1 = z0)) ([.ref r, .int y1, .int y2] : List Value).toArray s 0 0 (fun q => s0.heap.size ≤ q)) (F0 m 76 ls [.int w0]) := by
    intro ls x1 x3 w0 st H locs hF hl I
    unfold g_isKind_76 at hF
    refine lv_istore hx hb d96_76 hl (by decide) rfl (fun ls hl => ?_)
    have hl : lv_has ls 7 [(5, .int w0), (0, .ref r), (1, .int x1), (3, .int x3)] := hl
    refine lv_iconst (v := 0) hx hb d96_78 (by decide) ?_
    refine lv_istore hx hb d96_79 hl (by decide) rfl (fun ls hl => ?_)
    have hl : lv_has ls 7 [(6, .int 0), (5, .int w0), (0, .ref r), (1, .int x1), (3, .int x3)] := hl
    exact b81 mF ls x1 x3 w0 0 st _ _ hF (hl.sub [2, 3, 4, 1, 0] rfl) I
  have b75 : ∀ (ls : Array Slot) (x1 : Int32) (x3 : Int32) (st : mT) (H : Heap) (locs : List Loc), g_isKind_75 x1 x3 st = some q → lv_has ls 7 [(0, .ref r), (1, .int x1), (3, .int x3)] → hm_I D s0 s (mm_h dA h0 r M st) z0 H locs → W p l e { frames := 1, cells := 0, slots := 0, locals := 22 } s m ([.ref r, .int y1, .int y2] : List Value).toArray below meth c H locs 0 0 (MQ below (ht_Q D s0 (fun vv h1 z1 => vv = some (.int q.1) ∧ h1 = mm_h dA h0 r M q.2 ∧ z1 = z0)) ([.ref r, .int y1, .int y2] : List Value).toArray s 0 0 (fun q => s0.heap.size ≤ q)) (F0 m 75 ls []) := by
    intro ls x1 x3 st H locs hF hl I
    unfold g_isKind_75 at hF
    refine lv_iconst (v := 0) hx hb d96_75 (by decide) ?_
    exact b76 ls x1 x3 0 st _ _ hF (hl.sub [0, 1, 2] rfl) I
  have b44 : ∀ (ls : Array Slot) (st : mT) (H : Heap) (locs : List Loc), g_isKind_44 st = some q → lv_has ls 7 [] → hm_I D s0 s (mm_h dA h0 r M st) z0 H locs → W p l e { frames := 1, cells := 0, slots := 0, locals := 22 } s m ([.ref r, .int y1, .int y2] : List Value).toArray below meth c H locs 0 0 (MQ below (ht_Q D s0 (fun vv h1 z1 => vv = some (.int q.1) ∧ h1 = mm_h dA h0 r M q.2 ∧ z1 = z0)) ([.ref r, .int y1, .int y2] : List Value).toArray s 0 0 (fun q => s0.heap.size ≤ q)) (F0 m 44 ls []) := by
    intro ls st H locs hF hl I
    unfold g_isKind_44 at hF
    refine lv_iconst (v := 1) hx hb d96_44 (by decide) ?_
    refine lv_goto hx hb d96_45 rfl ?_
    exact ht_zret X d96_49 I (Nat.le_of_ble_eq_true rfl) (Nat.le_of_ble_eq_true rfl) (mm_fin hF) rfl
  have hF := hg
  unfold g_isKind at hF
  refine lv_aload_n hx hb d96_0 rfl (lv_at hl 0 rfl) ?_
  refine lv_iload_n hx hb d96_1 rfl (lv_at hl 2 rfl) ?_
  obtain ⟨q1, e9, hF⟩ := mm_bd hF
  refine ht_V (C := "MarkupStoreModel") (rest := []) (as := [.int y2]) X hl (cm_doc l D dA s0 hE h0 r M hM z0 y2 st q1 e9) (List.forall_mem_cons.mpr ⟨ms_k1607, List.forall_mem_cons.mpr ⟨ms_k1609, List.forall_mem_cons.mpr ⟨ms_p67, List.forall_mem_cons.mpr ⟨ms_k7, List.forall_mem_cons.mpr ⟨ms_k1610, fun _ h => absurd h List.not_mem_nil⟩⟩⟩⟩⟩) ⟨rfl, by decide +kernel, by decide +kernel, (by decide +kernel : (parseMethodDescriptor "(I)I").map (fun d => d.parameters.length) = some 1)⟩ (hm_recv hK I rfl mm_hr) I ⟨rfl, rfl⟩ ⟨⟨Nat.le_of_ble_eq_true rfl, Nat.le_of_ble_eq_true rfl⟩, Nat.le_of_ble_eq_true rfl, Nat.le_of_ble_eq_true rfl⟩ rfl (Nat.le_of_ble_eq_true rfl) d96_2 (fun vv h1 z1 H locs hR I9 => ?_)
  obtain ⟨e1, e2, e3⟩ := hR
  rw [e2, e3] at I9
  clear I e2 e3 e9
  have I := I9
  clear I9
  subst e1
  refine W.eq (g2 := F0 m 5 ls [.int q1.1]) rfl ?_
  refine lv_istore_n hx hb d96_5 rfl hl (by decide) rfl (fun ls hl => ?_)
  have hl : lv_has ls 7 [(3, .int q1.1), (0, .ref r), (1, .int y1), (2, .int y2)] := hl
  refine lv_aload_n hx hb d96_6 rfl (lv_at hl 1 rfl) ?_
  refine lv_iload_n hx hb d96_7 rfl (lv_at hl 0 rfl) ?_
  refine lv_iconst (v := 1) hx hb d96_8 (by decide) ?_
  obtain ⟨q2, e9, hF⟩ := mm_bd hF
  refine ht_V (C := "MarkupStoreModel") (rest := []) (as := [.int q1.1, .int 1]) X hl (cm_f l D dA s0 hE h0 r M hM z0 q1.1 1 q1.2 q2 e9) (List.forall_mem_cons.mpr ⟨ms_k1587, List.forall_mem_cons.mpr ⟨ms_k1589, List.forall_mem_cons.mpr ⟨ms_p63, List.forall_mem_cons.mpr ⟨ms_k7, List.forall_mem_cons.mpr ⟨ms_k1590, fun _ h => absurd h List.not_mem_nil⟩⟩⟩⟩⟩) ⟨rfl, by decide +kernel, by decide +kernel, (by decide +kernel : (parseMethodDescriptor "(II)I").map (fun d => d.parameters.length) = some 2)⟩ (hm_recv hK I rfl mm_hr) I ⟨rfl, rfl⟩ ⟨⟨Nat.le_of_ble_eq_true rfl, Nat.le_of_ble_eq_true rfl⟩, Nat.le_of_ble_eq_true rfl, Nat.le_of_ble_eq_true rfl⟩ rfl (Nat.le_of_ble_eq_true rfl) d96_9 (fun vv h1 z1 H locs hR I9 => ?_)
  obtain ⟨e1, e2, e3⟩ := hR
  rw [e2, e3] at I9
  clear I e2 e3 e9
  have I := I9
  clear I9
  subst e1
  refine W.eq (g2 := F0 m 12 ls [.int q2.1]) rfl ?_
  refine lv_istore hx hb d96_12 hl (by decide) rfl (fun ls hl => ?_)
  have hl : lv_has ls 7 [(4, .int q2.1), (3, .int q1.1), (0, .ref r), (1, .int y1), (2, .int y2)] := hl
  refine lv_aload_n hx hb d96_14 rfl (lv_at hl 2 rfl) ?_
  refine va_get (D := D) (ci := 2) (v := .ref (M 26)) (C := kR2) (T := kT2) (N := 60) hx hb hts ku2 hown hK (hm_one I.1 mm_hr) 0 rfl rfl 26 (by decide) (hts _ ms_k1342) (fun _ h => h) rfl d96_15 ?_
  refine lv_iload_n hx hb d96_18 rfl (lv_at hl 3 rfl) ?_
  obtain ⟨v3, i9, e9, hF⟩ := mm_ld_some hF
  refine va_iald hx hb hK (hm_one I.1 (mm_a26 hM)) 0 0 rfl rfl i9 d96_19 ?_
  refine ms_top (y := v3) e9 ?_
  clear e9 i9
  refine lv_if_le hx hb d96_20 rfl (fun h9 => ?_) (fun h9 => ?_)
  · have hF := (if_pos h9).symm.trans hF
    refine lv_iload hx hb d96_50 (lv_at hl 0 rfl) ?_
    refine lv_iconst (v := 1) hx hb d96_52 (by decide) ?_
    refine lv_icmp_ne hx hb d96_53 rfl (fun h9 => ?_) (fun h9 => ?_)
    · have hF := (if_neg h9).symm.trans hF
      exact b75 ls y1 q1.1 q2.2 _ _ hF (hl.sub [2, 3, 1] rfl) I
    · have hF := (if_pos h9).symm.trans hF
      refine lv_aload_n hx hb d96_56 rfl (lv_at hl 2 rfl) ?_
      refine lv_iload_n hx hb d96_57 rfl (lv_at hl 1 rfl) ?_
      refine lv_iconst (v := 3) hx hb d96_58 (by decide) ?_
      obtain ⟨q8, e9, hF⟩ := mm_bd hF
      refine ht_V (C := "MarkupStoreModel") (rest := []) (as := [.int q1.1, .int 3]) X hl (cm_f l D dA s0 hE h0 r M hM z0 q1.1 3 q2.2 q8 e9) (List.forall_mem_cons.mpr ⟨ms_k1587, List.forall_mem_cons.mpr ⟨ms_k1589, List.forall_mem_cons.mpr ⟨ms_p63, List.forall_mem_cons.mpr ⟨ms_k7, List.forall_mem_cons.mpr ⟨ms_k1590, fun _ h => absurd h List.not_mem_nil⟩⟩⟩⟩⟩) ⟨rfl, by decide +kernel, by decide +kernel, (by decide +kernel : (parseMethodDescriptor "(II)I").map (fun d => d.parameters.length) = some 2)⟩ (hm_recv hK I rfl mm_hr) I ⟨rfl, rfl⟩ ⟨⟨Nat.le_of_ble_eq_true rfl, Nat.le_of_ble_eq_true rfl⟩, Nat.le_of_ble_eq_true rfl, Nat.le_of_ble_eq_true rfl⟩ rfl (Nat.le_of_ble_eq_true rfl) d96_59 (fun vv h1 z1 H locs hR I9 => ?_)
      obtain ⟨e1, e2, e3⟩ := hR
      rw [e2, e3] at I9
      clear I e2 e3 e9
      have I := I9
      clear I9
      subst e1
      refine W.eq (g2 := F0 m 62 ls [.int q8.1]) rfl ?_
      refine lv_aload_n hx hb d96_62 rfl (lv_at hl 2 rfl) ?_
      refine va_get (D := D) (ci := 2) (v := .ref (M 28)) (C := kR2) (T := kT2) (N := 60) hx hb hts ku2 hown hK (hm_one I.1 mm_hr) 0 rfl rfl 28 (by decide) (hts _ ms_k1344) (fun _ h => h) rfl d96_63 ?_
      refine lv_iload_n hx hb d96_66 rfl (lv_at hl 3 rfl) ?_
      obtain ⟨v9, i9, e9, hF⟩ := mm_ld_some hF
      refine va_iald hx hb hK (hm_one I.1 (mm_a28 hM)) 0 0 rfl rfl i9 d96_67 ?_
      refine ms_top (y := v9) e9 ?_
      clear e9 i9
      refine lv_icmp_ne hx hb d96_68 rfl (fun h9 => ?_) (fun h9 => ?_)
      · have hF := (if_neg h9).symm.trans hF
        exact b75 ls y1 q1.1 q8.2 _ _ hF (hl.sub [2, 3, 1] rfl) I
      · have hF := (if_pos h9).symm.trans hF
        refine lv_iconst (v := 1) hx hb d96_71 (by decide) ?_
        refine lv_goto hx hb d96_72 rfl ?_
        exact b76 ls y1 q1.1 1 q8.2 _ _ hF (hl.sub [2, 3, 1] rfl) I
  · have hF := (if_neg h9).symm.trans hF
    refine lv_aload_n hx hb d96_23 rfl (lv_at hl 2 rfl) ?_
    refine va_get (D := D) (ci := 2) (v := .ref (M 26)) (C := kR2) (T := kT2) (N := 60) hx hb hts ku2 hown hK (hm_one I.1 mm_hr) 0 rfl rfl 26 (by decide) (hts _ ms_k1342) (fun _ h => h) rfl d96_24 ?_
    refine lv_iload_n hx hb d96_27 rfl (lv_at hl 3 rfl) ?_
    obtain ⟨v10, i9, e9, hF⟩ := mm_ld_some hF
    refine va_iald hx hb hK (hm_one I.1 (mm_a26 hM)) 0 0 rfl rfl i9 d96_28 ?_
    refine ms_top (y := v10) e9 ?_
    clear e9 i9
    refine lv_iconst (v := 4) hx hb d96_29 (by decide) ?_
    refine lv_icmp_eq hx hb d96_30 rfl (fun h9 => ?_) (fun h9 => ?_)
    · have hF := (if_pos h9).symm.trans hF
      exact b44 ls q2.2 _ _ hF (hl.sub [] rfl) I
    · have hF := (if_neg h9).symm.trans hF
      refine lv_iload hx hb d96_33 (lv_at hl 0 rfl) ?_
      refine lv_aload_n hx hb d96_35 rfl (lv_at hl 2 rfl) ?_
      refine va_get (D := D) (ci := 2) (v := .ref (M 26)) (C := kR2) (T := kT2) (N := 60) hx hb hts ku2 hown hK (hm_one I.1 mm_hr) 0 rfl rfl 26 (by decide) (hts _ ms_k1342) (fun _ h => h) rfl d96_36 ?_
      refine lv_iload_n hx hb d96_39 rfl (lv_at hl 3 rfl) ?_
      obtain ⟨v11, i9, e9, hF⟩ := mm_ld_some hF
      refine va_iald hx hb hK (hm_one I.1 (mm_a26 hM)) 0 0 rfl rfl i9 d96_40 ?_
      refine ms_top (y := v11) e9 ?_
      clear e9 i9
      refine lv_icmp_ne hx hb d96_41 rfl (fun h9 => ?_) (fun h9 => ?_)
      · have hF := (if_neg h9).symm.trans hF
        refine lv_iconst (v := 0) hx hb d96_48 (by decide) ?_
        exact ht_zret X d96_49 I (Nat.le_of_ble_eq_true rfl) (Nat.le_of_ble_eq_true rfl) (mm_fin hF) rfl
      · have hF := (if_pos h9).symm.trans hF
        exact b44 ls q2.2 _ _ hF (hl.sub [] rfl) I

def g_holdsAttribute_50 (x2 : Int32) (x3 : Int32) (st : mT) : Option (Int32 × mT) := ((g_f x2 5 st).bind (fun q6 => (if q6.1 ≤ x3 then (some (0, q6.2)) else (some (1, q6.2)))))
def g_holdsAttribute_157 (x4 : Int32) (st : mT) : Option (Int32 × mT) := (mm_zc x4 (some (x4, st)))
def g_holdsAttribute_149 (k97 : Int32 → Int32 → Int32 → Int32 → Int32 → mT → Option (Int32 × mT)) (x1 : Int32) (x2 : Int32) (x3 : Int32) (x5 : Int32) (w0 : Int32) (st : mT) : Option (Int32 × mT) := (k97 x1 x2 x3 w0 (x5 + 1) st)
def g_holdsAttribute_97 : Nat → Int32 → Int32 → Int32 → Int32 → Int32 → mT → Option (Int32 × mT)
  | 0, _, _, _, _, _, _ => none
  | n9 + 1, x1, x2, x3, x4, x5, st => (mm_ld (st.2.1 37) 65 x1 (fun v10 => (if v10 ≤ x5 then (g_holdsAttribute_157 x4 st) else (if x4 = 0 then (g_holdsAttribute_157 x4 st) else ((g_f x2 ((52 + (28 * x3)) + x5) st).bind (fun q11 => (mm_ld (q11.2.2.1 36) 65 x1 (fun v12 => ((g_look (v12 + x5) q11.2).bind (fun q13 => (if q11.1 = q13.1 then (g_holdsAttribute_149 (g_holdsAttribute_97 n9) x1 x2 x3 x5 1 q13.2) else (g_holdsAttribute_149 (g_holdsAttribute_97 n9) x1 x2 x3 x5 0 q13.2))))))))))))
def g_holdsAttribute_92 (x1 : Int32) (x2 : Int32) (x3 : Int32) (w0 : Int32) (st : mT) : Option (Int32 × mT) := (g_holdsAttribute_97 mF x1 x2 x3 w0 0 st)
def g_holdsAttribute (y1 : Int32) (y2 : Int32) (st : mT) : Option (Int32 × mT) := ((g_f y2 1 st).bind (fun q1 => (if q1.1 = 1 then (mm_ld (q1.2.2.1 34) 65 y1 (fun v2 => (mm_ld (q1.2.2.1 35) 65 y1 (fun v3 => ((g_attributeOf y2 v2 v3 q1.2).bind (fun q4 => ((g_f y2 5 q4.2).bind (fun q5 => (if q4.1 = q5.1 then (g_holdsAttribute_50 y2 q4.1 q5.2) else (mm_ld (q5.2.2.1 32) 65 y1 (fun v7 => (if v7 = 2 then (g_holdsAttribute_50 y2 q4.1 q5.2) else ((g_f y2 (51 + (28 * q4.1)) q5.2).bind (fun q8 => (mm_ld (q8.2.2.1 37) 65 y1 (fun v9 => (if q8.1 = v9 then (g_holdsAttribute_92 y1 y2 q4.1 1 q8.2) else (g_holdsAttribute_92 y1 y2 q4.1 0 q8.2)))))))))))))))))) else (some (0, q1.2)))))
set_option maxRecDepth 100000 in
set_option maxHeartbeats 8000000 in
theorem cm_holdsAttribute (l : Launch) (D : va_G) (dA : Nat → ClassId) (s0 : State) (hE : ms_EV D dA s0) (h0 : hm_T) (r : Nat) (M : Nat → Nat) (hM : mm_ok r M) (z0 : hz_T) (y1 : Int32) (y2 : Int32) (st : mT) (q : Int32 × mT) (hg : g_holdsAttribute y1 y2 st = some q) : ht_C l D s0 yM97 bM97 6 (Option.some Jvm.ClassFile.FieldType.boolean) 2 48 0 0 [.ref r, .int y1, .int y2] (fun h z => h = mm_h dA h0 r M st ∧ z = z0) (fun h z vv h1 z1 => vv = some (.int q.1) ∧ h1 = mm_h dA h0 r M q.2 ∧ z1 = z0) := by
  refine ht_C.mk hE.1 (by decide) (Nat.le_of_ble_eq_true rfl) [(0, .ref r), (1, .int y1), (2, .int y2)] rfl ?_
  intro p e s m below meth c ls h z X hin hpre I hl
  have hx := X.1
  have hb := X.2.1
  have hml := X.2.2.1
  have hown : s.vm.findClass "MarkupStoreModel" = some m.cls := X.2.2.2.1
  have hts := X.2.2.2.2.2.2.1
  have hK := X.2.2.2.2.2.2.2.2.1
  rw [hpre.1, hpre.2] at I
  clear hpre
  have b50 : ∀ (ls : Array Slot) (x2 : Int32) (x3 : Int32) (st : mT) (H : Heap) (locs : List Loc), g_holdsAttribute_50 x2 x3 st = some q → lv_has ls 6 [(0, .ref r), (2, .int x2), (3, .int x3)] → hm_I D s0 s (mm_h dA h0 r M st) z0 H locs → W p l e { frames := 2, cells := 0, slots := 0, locals := 48 } s m ([.ref r, .int y1, .int y2] : List Value).toArray below meth c H locs 0 0 (MQ below (ht_Q D s0 (fun vv h1 z1 => vv = some (.int q.1) ∧ h1 = mm_h dA h0 r M q.2 ∧ z1 = z0)) ([.ref r, .int y1, .int y2] : List Value).toArray s 0 0 (fun q => s0.heap.size ≤ q)) (F0 m 50 ls []) := by
    intro ls x2 x3 st H locs hF hl I
    unfold g_holdsAttribute_50 at hF
    refine lv_iload_n hx hb d97_50 rfl (lv_at hl 2 rfl) ?_
    refine lv_aload_n hx hb d97_51 rfl (lv_at hl 0 rfl) ?_
    refine lv_iload_n hx hb d97_52 rfl (lv_at hl 1 rfl) ?_
    refine lv_iconst (v := 5) hx hb d97_53 (by decide) ?_
    obtain ⟨q6, e9, hF⟩ := mm_bd hF
    refine ht_V (C := "MarkupStoreModel") (rest := [.int x3]) (as := [.int x2, .int 5]) X hl (cm_f l D dA s0 hE h0 r M hM z0 x2 5 st q6 e9) (List.forall_mem_cons.mpr ⟨ms_k1587, List.forall_mem_cons.mpr ⟨ms_k1589, List.forall_mem_cons.mpr ⟨ms_p63, List.forall_mem_cons.mpr ⟨ms_k7, List.forall_mem_cons.mpr ⟨ms_k1590, fun _ h => absurd h List.not_mem_nil⟩⟩⟩⟩⟩) ⟨rfl, by decide +kernel, by decide +kernel, (by decide +kernel : (parseMethodDescriptor "(II)I").map (fun d => d.parameters.length) = some 2)⟩ (hm_recv hK I rfl mm_hr) I ⟨rfl, rfl⟩ ⟨⟨Nat.le_of_ble_eq_true rfl, Nat.le_of_ble_eq_true rfl⟩, Nat.le_of_ble_eq_true rfl, Nat.le_of_ble_eq_true rfl⟩ rfl (Nat.le_of_ble_eq_true rfl) d97_54 (fun vv h1 z1 H locs hR I9 => ?_)
    obtain ⟨e1, e2, e3⟩ := hR
    rw [e2, e3] at I9
    clear I e2 e3 e9
    have I := I9
    clear I9
    subst e1
    refine W.eq (g2 := F0 m 57 ls [.int q6.1, .int x3]) rfl ?_
    refine lv_icmp_ge hx hb d97_57 rfl (fun h9 => ?_) (fun h9 => ?_)
    · have hF := (if_pos h9).symm.trans hF
      refine lv_iconst (v := 0) hx hb d97_64 (by decide) ?_
      exact ht_zret X d97_65 I (Nat.le_of_ble_eq_true rfl) (Nat.le_of_ble_eq_true rfl) (mm_fin hF) rfl
    · have hF := (if_neg h9).symm.trans hF
      refine lv_iconst (v := 1) hx hb d97_60 (by decide) ?_
      refine lv_goto hx hb d97_61 rfl ?_
      exact ht_zret X d97_65 I (Nat.le_of_ble_eq_true rfl) (Nat.le_of_ble_eq_true rfl) (mm_fin hF) rfl
  have b157 : ∀ (ls : Array Slot) (x4 : Int32) (st : mT) (H : Heap) (locs : List Loc), g_holdsAttribute_157 x4 st = some q → lv_has ls 6 [(4, .int x4)] → hm_I D s0 s (mm_h dA h0 r M st) z0 H locs → W p l e { frames := 2, cells := 0, slots := 0, locals := 48 } s m ([.ref r, .int y1, .int y2] : List Value).toArray below meth c H locs 0 0 (MQ below (ht_Q D s0 (fun vv h1 z1 => vv = some (.int q.1) ∧ h1 = mm_h dA h0 r M q.2 ∧ z1 = z0)) ([.ref r, .int y1, .int y2] : List Value).toArray s 0 0 (fun q => s0.heap.size ≤ q)) (F0 m 157 ls []) := by
    intro ls x4 st H locs hF hl I
    unfold g_holdsAttribute_157 at hF
    refine lv_iload hx hb d97_157 (lv_at hl 0 rfl) ?_
    obtain ⟨hz9, hF⟩ := mm_zc_some hF
    exact ht_zret X d97_159 I (Nat.le_of_ble_eq_true rfl) (Nat.le_of_ble_eq_true rfl) (mm_fin hF) hz9.1
  have b149 : ∀ (k97 : Int32 → Int32 → Int32 → Int32 → Int32 → mT → Option (Int32 × mT)), (∀ (ls : Array Slot) (x1 : Int32) (x2 : Int32) (x3 : Int32) (x4 : Int32) (x5 : Int32) (st : mT) (H : Heap) (locs : List Loc), k97 x1 x2 x3 x4 x5 st = some q → lv_has ls 6 [(0, .ref r), (1, .int x1), (2, .int x2), (3, .int x3), (4, .int x4), (5, .int x5)] → hm_I D s0 s (mm_h dA h0 r M st) z0 H locs → W p l e { frames := 2, cells := 0, slots := 0, locals := 48 } s m ([.ref r, .int y1, .int y2] : List Value).toArray below meth c H locs 0 0 (MQ below (ht_Q D s0 (fun vv h1 z1 => vv = some (.int q.1) ∧ h1 = mm_h dA h0 r M q.2 ∧ z1 = z0)) ([.ref r, .int y1, .int y2] : List Value).toArray s 0 0 (fun q => s0.heap.size ≤ q)) (F0 m 97 ls [])) → ∀ (ls : Array Slot) (x1 : Int32) (x2 : Int32) (x3 : Int32) (x5 : Int32) (w0 : Int32) (st : mT) (H : Heap) (locs : List Loc), g_holdsAttribute_149 k97 x1 x2 x3 x5 w0 st = some q → lv_has ls 6 [(0, .ref r), (1, .int x1), (2, .int x2), (3, .int x3), (5, .int x5)] → hm_I D s0 s (mm_h dA h0 r M st) z0 H locs → W p l e { frames := 2, cells := 0, slots := 0, locals := 48 } s m ([.ref r, .int y1, .int y2] : List Value).toArray below meth c H locs 0 0 (MQ below (ht_Q D s0 (fun vv h1 z1 => vv = some (.int q.1) ∧ h1 = mm_h dA h0 r M q.2 ∧ z1 = z0)) ([.ref r, .int y1, .int y2] : List Value).toArray s 0 0 (fun q => s0.heap.size ≤ q)) (F0 m 149 ls [.int w0]) := by
    intro k97 hk97 ls x1 x2 x3 x5 w0 st H locs hF hl I
    unfold g_holdsAttribute_149 at hF
    refine lv_istore hx hb d97_149 hl (by decide) rfl (fun ls hl => ?_)
    have hl : lv_has ls 6 [(4, .int w0), (0, .ref r), (1, .int x1), (2, .int x2), (3, .int x3), (5, .int x5)] := hl
    refine lv_iinc (k := 5) (v := (x5 + 1)) hx hb d97_151 hl rfl (rfl) (by decide) rfl (fun ls hl => ?_)
    have hl : lv_has ls 6 [(5, .int (x5 + 1)), (4, .int w0), (0, .ref r), (1, .int x1), (2, .int x2), (3, .int x3)] := hl
    refine lv_goto hx hb d97_154 rfl ?_
    exact hk97 ls x1 x2 x3 w0 (x5 + 1) st _ _ hF (hl.sub [2, 3, 4, 5, 1, 0] rfl) I
  have b97 : ∀ n9 : Nat, ∀ (ls : Array Slot) (x1 : Int32) (x2 : Int32) (x3 : Int32) (x4 : Int32) (x5 : Int32) (st : mT) (H : Heap) (locs : List Loc), g_holdsAttribute_97 n9 x1 x2 x3 x4 x5 st = some q → lv_has ls 6 [(0, .ref r), (1, .int x1), (2, .int x2), (3, .int x3), (4, .int x4), (5, .int x5)] → hm_I D s0 s (mm_h dA h0 r M st) z0 H locs → W p l e { frames := 2, cells := 0, slots := 0, locals := 48 } s m ([.ref r, .int y1, .int y2] : List Value).toArray below meth c H locs 0 0 (MQ below (ht_Q D s0 (fun vv h1 z1 => vv = some (.int q.1) ∧ h1 = mm_h dA h0 r M q.2 ∧ z1 = z0)) ([.ref r, .int y1, .int y2] : List Value).toArray s 0 0 (fun q => s0.heap.size ≤ q)) (F0 m 97 ls []) := by
    intro n9
    induction n9 with
    | zero => intro ls x1 x2 x3 x4 x5 st H locs hF; cases hF
    | succ n9 hk97 =>
    intro ls x1 x2 x3 x4 x5 st H locs hF hl I
    unfold g_holdsAttribute_97 at hF
    refine lv_iload hx hb d97_97 (lv_at hl 5 rfl) ?_
    refine lv_aload_n hx hb d97_99 rfl (lv_at hl 0 rfl) ?_
    refine va_get (D := D) (ci := 2) (v := .ref (M 37)) (C := kR2) (T := kT2) (N := 60) hx hb hts ku2 hown hK (hm_one I.1 mm_hr) 0 rfl rfl 37 (by decide) (hts _ ms_k1353) (fun _ h => h) rfl d97_100 ?_
    refine lv_iload_n hx hb d97_103 rfl (lv_at hl 1 rfl) ?_
    obtain ⟨v10, i9, e9, hF⟩ := mm_ld_some hF
    refine va_iald hx hb hK (hm_one I.1 (mm_a37 hM)) 0 0 rfl rfl i9 d97_104 ?_
    refine ms_top (y := v10) e9 ?_
    clear e9 i9
    refine lv_icmp_ge hx hb d97_105 rfl (fun h9 => ?_) (fun h9 => ?_)
    · have hF := (if_pos h9).symm.trans hF
      exact b157 ls x4 st _ _ hF (hl.sub [4] rfl) I
    · have hF := (if_neg h9).symm.trans hF
      refine lv_iload hx hb d97_108 (lv_at hl 4 rfl) ?_
      refine lv_if_eq hx hb d97_110 rfl (fun h9 => ?_) (fun h9 => ?_)
      · have hF := (if_pos h9).symm.trans hF
        exact b157 ls x4 st _ _ hF (hl.sub [4] rfl) I
      · have hF := (if_neg h9).symm.trans hF
        refine lv_aload_n hx hb d97_113 rfl (lv_at hl 0 rfl) ?_
        refine lv_iload_n hx hb d97_114 rfl (lv_at hl 2 rfl) ?_
        refine lv_bipush (v := 52) hx hb d97_115 (by decide) ?_
        refine lv_bipush (v := 28) hx hb d97_117 (by decide) ?_
        refine lv_iload_n hx hb d97_119 rfl (lv_at hl 3 rfl) ?_
        refine lv_imul hx hb d97_120 ?_
        refine lv_iadd hx hb d97_121 ?_
        refine lv_iload hx hb d97_122 (lv_at hl 5 rfl) ?_
        refine lv_iadd hx hb d97_124 ?_
        obtain ⟨q11, e9, hF⟩ := mm_bd hF
        refine ht_V (C := "MarkupStoreModel") (rest := []) (as := [.int x2, .int ((52 + (28 * x3)) + x5)]) X hl (cm_f l D dA s0 hE h0 r M hM z0 x2 ((52 + (28 * x3)) + x5) st q11 e9) (List.forall_mem_cons.mpr ⟨ms_k1587, List.forall_mem_cons.mpr ⟨ms_k1589, List.forall_mem_cons.mpr ⟨ms_p63, List.forall_mem_cons.mpr ⟨ms_k7, List.forall_mem_cons.mpr ⟨ms_k1590, fun _ h => absurd h List.not_mem_nil⟩⟩⟩⟩⟩) ⟨rfl, by decide +kernel, by decide +kernel, (by decide +kernel : (parseMethodDescriptor "(II)I").map (fun d => d.parameters.length) = some 2)⟩ (hm_recv hK I rfl mm_hr) I ⟨rfl, rfl⟩ ⟨⟨Nat.le_of_ble_eq_true rfl, Nat.le_of_ble_eq_true rfl⟩, Nat.le_of_ble_eq_true rfl, Nat.le_of_ble_eq_true rfl⟩ rfl (Nat.le_of_ble_eq_true rfl) d97_125 (fun vv h1 z1 H locs hR I9 => ?_)
        obtain ⟨e1, e2, e3⟩ := hR
        rw [e2, e3] at I9
        clear I e2 e3 e9
        have I := I9
        clear I9
        subst e1
        refine W.eq (g2 := F0 m 128 ls [.int q11.1]) rfl ?_
        refine lv_aload_n hx hb d97_128 rfl (lv_at hl 0 rfl) ?_
        refine lv_aload_n hx hb d97_129 rfl (lv_at hl 0 rfl) ?_
        refine va_get (D := D) (ci := 2) (v := .ref (M 36)) (C := kR2) (T := kT2) (N := 60) hx hb hts ku2 hown hK (hm_one I.1 mm_hr) 0 rfl rfl 36 (by decide) (hts _ ms_k1352) (fun _ h => h) rfl d97_130 ?_
        refine lv_iload_n hx hb d97_133 rfl (lv_at hl 1 rfl) ?_
        obtain ⟨v12, i9, e9, hF⟩ := mm_ld_some hF
        refine va_iald hx hb hK (hm_one I.1 (mm_a36 hM)) 0 0 rfl rfl i9 d97_134 ?_
        refine ms_top (y := v12) e9 ?_
        clear e9 i9
        refine lv_iload hx hb d97_135 (lv_at hl 5 rfl) ?_
        refine lv_iadd hx hb d97_137 ?_
        obtain ⟨q13, e9, hF⟩ := mm_bd hF
        refine ht_V (C := "MarkupStoreModel") (rest := [.int q11.1]) (as := [.int (v12 + x5)]) X hl (cm_look l D dA s0 hE h0 r M hM z0 (v12 + x5) q11.2 q13 e9) (List.forall_mem_cons.mpr ⟨ms_k1516, List.forall_mem_cons.mpr ⟨ms_k1518, List.forall_mem_cons.mpr ⟨ms_p46, List.forall_mem_cons.mpr ⟨ms_k7, List.forall_mem_cons.mpr ⟨ms_k1519, fun _ h => absurd h List.not_mem_nil⟩⟩⟩⟩⟩) ⟨rfl, by decide +kernel, by decide +kernel, (by decide +kernel : (parseMethodDescriptor "(I)C").map (fun d => d.parameters.length) = some 1)⟩ (hm_recv hK I rfl mm_hr) I ⟨rfl, rfl⟩ ⟨⟨Nat.le_of_ble_eq_true rfl, Nat.le_of_ble_eq_true rfl⟩, Nat.le_of_ble_eq_true rfl, Nat.le_of_ble_eq_true rfl⟩ rfl (Nat.le_of_ble_eq_true rfl) d97_138 (fun vv h1 z1 H locs hR I9 => ?_)
        obtain ⟨e1, e2, e3⟩ := hR
        rw [e2, e3] at I9
        clear I e2 e3 e9
        have I := I9
        clear I9
        subst e1
        refine W.eq (g2 := F0 m 141 ls [.int q13.1, .int q11.1]) rfl ?_
        refine lv_icmp_ne hx hb d97_141 rfl (fun h9 => ?_) (fun h9 => ?_)
        · have hF := (if_neg h9).symm.trans hF
          refine lv_iconst (v := 0) hx hb d97_148 (by decide) ?_
          exact b149 (g_holdsAttribute_97 n9) hk97 ls x1 x2 x3 x5 0 q13.2 _ _ hF (hl.sub [0, 1, 2, 3, 5] rfl) I
        · have hF := (if_pos h9).symm.trans hF
          refine lv_iconst (v := 1) hx hb d97_144 (by decide) ?_
          refine lv_goto hx hb d97_145 rfl ?_
          exact b149 (g_holdsAttribute_97 n9) hk97 ls x1 x2 x3 x5 1 q13.2 _ _ hF (hl.sub [0, 1, 2, 3, 5] rfl) I
  have b92 : ∀ (ls : Array Slot) (x1 : Int32) (x2 : Int32) (x3 : Int32) (w0 : Int32) (st : mT) (H : Heap) (locs : List Loc), g_holdsAttribute_92 x1 x2 x3 w0 st = some q → lv_has ls 6 [(0, .ref r), (1, .int x1), (2, .int x2), (3, .int x3)] → hm_I D s0 s (mm_h dA h0 r M st) z0 H locs → W p l e { frames := 2, cells := 0, slots := 0, locals := 48 } s m ([.ref r, .int y1, .int y2] : List Value).toArray below meth c H locs 0 0 (MQ below (ht_Q D s0 (fun vv h1 z1 => vv = some (.int q.1) ∧ h1 = mm_h dA h0 r M q.2 ∧ z1 = z0)) ([.ref r, .int y1, .int y2] : List Value).toArray s 0 0 (fun q => s0.heap.size ≤ q)) (F0 m 92 ls [.int w0]) := by
    intro ls x1 x2 x3 w0 st H locs hF hl I
    unfold g_holdsAttribute_92 at hF
    refine lv_istore hx hb d97_92 hl (by decide) rfl (fun ls hl => ?_)
    have hl : lv_has ls 6 [(4, .int w0), (0, .ref r), (1, .int x1), (2, .int x2), (3, .int x3)] := hl
    refine lv_iconst (v := 0) hx hb d97_94 (by decide) ?_
    refine lv_istore hx hb d97_95 hl (by decide) rfl (fun ls hl => ?_)
    have hl : lv_has ls 6 [(5, .int 0), (4, .int w0), (0, .ref r), (1, .int x1), (2, .int x2), (3, .int x3)] := hl
    exact b97 mF ls x1 x2 x3 w0 0 st _ _ hF (hl.sub [2, 3, 4, 5, 1, 0] rfl) I
  have hF := hg
  unfold g_holdsAttribute at hF
  refine lv_aload_n hx hb d97_0 rfl (lv_at hl 0 rfl) ?_
  refine lv_iload_n hx hb d97_1 rfl (lv_at hl 2 rfl) ?_
  refine lv_iconst (v := 1) hx hb d97_2 (by decide) ?_
  obtain ⟨q1, e9, hF⟩ := mm_bd hF
  refine ht_V (C := "MarkupStoreModel") (rest := []) (as := [.int y2, .int 1]) X hl (cm_f l D dA s0 hE h0 r M hM z0 y2 1 st q1 e9) (List.forall_mem_cons.mpr ⟨ms_k1587, List.forall_mem_cons.mpr ⟨ms_k1589, List.forall_mem_cons.mpr ⟨ms_p63, List.forall_mem_cons.mpr ⟨ms_k7, List.forall_mem_cons.mpr ⟨ms_k1590, fun _ h => absurd h List.not_mem_nil⟩⟩⟩⟩⟩) ⟨rfl, by decide +kernel, by decide +kernel, (by decide +kernel : (parseMethodDescriptor "(II)I").map (fun d => d.parameters.length) = some 2)⟩ (hm_recv hK I rfl mm_hr) I ⟨rfl, rfl⟩ ⟨⟨Nat.le_of_ble_eq_true rfl, Nat.le_of_ble_eq_true rfl⟩, Nat.le_of_ble_eq_true rfl, Nat.le_of_ble_eq_true rfl⟩ rfl (Nat.le_of_ble_eq_true rfl) d97_3 (fun vv h1 z1 H locs hR I9 => ?_)
  obtain ⟨e1, e2, e3⟩ := hR
  rw [e2, e3] at I9
  clear I e2 e3 e9
  have I := I9
  clear I9
  subst e1
  refine W.eq (g2 := F0 m 6 ls [.int q1.1]) rfl ?_
  refine lv_iconst (v := 1) hx hb d97_6 (by decide) ?_
  refine lv_icmp_eq hx hb d97_7 rfl (fun h9 => ?_) (fun h9 => ?_)
  · have hF := (if_pos h9).symm.trans hF
    refine lv_aload_n hx hb d97_12 rfl (lv_at hl 0 rfl) ?_
    refine lv_iload_n hx hb d97_13 rfl (lv_at hl 2 rfl) ?_
    refine lv_aload_n hx hb d97_14 rfl (lv_at hl 0 rfl) ?_
    refine va_get (D := D) (ci := 2) (v := .ref (M 34)) (C := kR2) (T := kT2) (N := 60) hx hb hts ku2 hown hK (hm_one I.1 mm_hr) 0 rfl rfl 34 (by decide) (hts _ ms_k1350) (fun _ h => h) rfl d97_15 ?_
    refine lv_iload_n hx hb d97_18 rfl (lv_at hl 1 rfl) ?_
    obtain ⟨v2, i9, e9, hF⟩ := mm_ld_some hF
    refine va_iald hx hb hK (hm_one I.1 (mm_a34 hM)) 0 0 rfl rfl i9 d97_19 ?_
    refine ms_top (y := v2) e9 ?_
    clear e9 i9
    refine lv_aload_n hx hb d97_20 rfl (lv_at hl 0 rfl) ?_
    refine va_get (D := D) (ci := 2) (v := .ref (M 35)) (C := kR2) (T := kT2) (N := 60) hx hb hts ku2 hown hK (hm_one I.1 mm_hr) 0 rfl rfl 35 (by decide) (hts _ ms_k1351) (fun _ h => h) rfl d97_21 ?_
    refine lv_iload_n hx hb d97_24 rfl (lv_at hl 1 rfl) ?_
    obtain ⟨v3, i9, e9, hF⟩ := mm_ld_some hF
    refine va_iald hx hb hK (hm_one I.1 (mm_a35 hM)) 0 0 rfl rfl i9 d97_25 ?_
    refine ms_top (y := v3) e9 ?_
    clear e9 i9
    obtain ⟨q4, e9, hF⟩ := mm_bd hF
    refine ht_V (C := "MarkupStoreModel") (rest := []) (as := [.int y2, .int v2, .int v3]) X hl (cm_attributeOf l D dA s0 hE h0 r M hM z0 y2 v2 v3 q1.2 q4 e9) (List.forall_mem_cons.mpr ⟨ms_k1748, List.forall_mem_cons.mpr ⟨ms_k1750, List.forall_mem_cons.mpr ⟨ms_p97, List.forall_mem_cons.mpr ⟨ms_k7, List.forall_mem_cons.mpr ⟨ms_k1751, fun _ h => absurd h List.not_mem_nil⟩⟩⟩⟩⟩) ⟨rfl, by decide +kernel, by decide +kernel, (by decide +kernel : (parseMethodDescriptor "(III)I").map (fun d => d.parameters.length) = some 3)⟩ (hm_recv hK I rfl mm_hr) I ⟨rfl, rfl⟩ ⟨⟨Nat.le_of_ble_eq_true rfl, Nat.le_of_ble_eq_true rfl⟩, Nat.le_of_ble_eq_true rfl, Nat.le_of_ble_eq_true rfl⟩ rfl (Nat.le_of_ble_eq_true rfl) d97_26 (fun vv h1 z1 H locs hR I9 => ?_)
    obtain ⟨e1, e2, e3⟩ := hR
    rw [e2, e3] at I9
    clear I e2 e3 e9
    have I := I9
    clear I9
    subst e1
    refine W.eq (g2 := F0 m 29 ls [.int q4.1]) rfl ?_
    refine lv_istore_n hx hb d97_29 rfl hl (by decide) rfl (fun ls hl => ?_)
    have hl : lv_has ls 6 [(3, .int q4.1), (0, .ref r), (1, .int y1), (2, .int y2)] := hl
    refine lv_iload_n hx hb d97_30 rfl (lv_at hl 0 rfl) ?_
    refine lv_aload_n hx hb d97_31 rfl (lv_at hl 1 rfl) ?_
    refine lv_iload_n hx hb d97_32 rfl (lv_at hl 3 rfl) ?_
    refine lv_iconst (v := 5) hx hb d97_33 (by decide) ?_
    obtain ⟨q5, e9, hF⟩ := mm_bd hF
    refine ht_V (C := "MarkupStoreModel") (rest := [.int q4.1]) (as := [.int y2, .int 5]) X hl (cm_f l D dA s0 hE h0 r M hM z0 y2 5 q4.2 q5 e9) (List.forall_mem_cons.mpr ⟨ms_k1587, List.forall_mem_cons.mpr ⟨ms_k1589, List.forall_mem_cons.mpr ⟨ms_p63, List.forall_mem_cons.mpr ⟨ms_k7, List.forall_mem_cons.mpr ⟨ms_k1590, fun _ h => absurd h List.not_mem_nil⟩⟩⟩⟩⟩) ⟨rfl, by decide +kernel, by decide +kernel, (by decide +kernel : (parseMethodDescriptor "(II)I").map (fun d => d.parameters.length) = some 2)⟩ (hm_recv hK I rfl mm_hr) I ⟨rfl, rfl⟩ ⟨⟨Nat.le_of_ble_eq_true rfl, Nat.le_of_ble_eq_true rfl⟩, Nat.le_of_ble_eq_true rfl, Nat.le_of_ble_eq_true rfl⟩ rfl (Nat.le_of_ble_eq_true rfl) d97_34 (fun vv h1 z1 H locs hR I9 => ?_)
    obtain ⟨e1, e2, e3⟩ := hR
    rw [e2, e3] at I9
    clear I e2 e3 e9
    have I := I9
    clear I9
    subst e1
    refine W.eq (g2 := F0 m 37 ls [.int q5.1, .int q4.1]) rfl ?_
    refine lv_icmp_eq hx hb d97_37 rfl (fun h9 => ?_) (fun h9 => ?_)
    · have hF := (if_pos h9).symm.trans hF
      exact b50 ls y2 q4.1 q5.2 _ _ hF (hl.sub [1, 3, 0] rfl) I
    · have hF := (if_neg h9).symm.trans hF
      refine lv_aload_n hx hb d97_40 rfl (lv_at hl 1 rfl) ?_
      refine va_get (D := D) (ci := 2) (v := .ref (M 32)) (C := kR2) (T := kT2) (N := 60) hx hb hts ku2 hown hK (hm_one I.1 mm_hr) 0 rfl rfl 32 (by decide) (hts _ ms_k1348) (fun _ h => h) rfl d97_41 ?_
      refine lv_iload_n hx hb d97_44 rfl (lv_at hl 2 rfl) ?_
      obtain ⟨v7, i9, e9, hF⟩ := mm_ld_some hF
      refine va_iald hx hb hK (hm_one I.1 (mm_a32 hM)) 0 0 rfl rfl i9 d97_45 ?_
      refine ms_top (y := v7) e9 ?_
      clear e9 i9
      refine lv_iconst (v := 2) hx hb d97_46 (by decide) ?_
      refine lv_icmp_ne hx hb d97_47 rfl (fun h9 => ?_) (fun h9 => ?_)
      · have hF := (if_neg h9).symm.trans hF
        refine lv_aload_n hx hb d97_66 rfl (lv_at hl 1 rfl) ?_
        refine lv_iload_n hx hb d97_67 rfl (lv_at hl 3 rfl) ?_
        refine lv_bipush (v := 51) hx hb d97_68 (by decide) ?_
        refine lv_bipush (v := 28) hx hb d97_70 (by decide) ?_
        refine lv_iload_n hx hb d97_72 rfl (lv_at hl 0 rfl) ?_
        refine lv_imul hx hb d97_73 ?_
        refine lv_iadd hx hb d97_74 ?_
        obtain ⟨q8, e9, hF⟩ := mm_bd hF
        refine ht_V (C := "MarkupStoreModel") (rest := []) (as := [.int y2, .int (51 + (28 * q4.1))]) X hl (cm_f l D dA s0 hE h0 r M hM z0 y2 (51 + (28 * q4.1)) q5.2 q8 e9) (List.forall_mem_cons.mpr ⟨ms_k1587, List.forall_mem_cons.mpr ⟨ms_k1589, List.forall_mem_cons.mpr ⟨ms_p63, List.forall_mem_cons.mpr ⟨ms_k7, List.forall_mem_cons.mpr ⟨ms_k1590, fun _ h => absurd h List.not_mem_nil⟩⟩⟩⟩⟩) ⟨rfl, by decide +kernel, by decide +kernel, (by decide +kernel : (parseMethodDescriptor "(II)I").map (fun d => d.parameters.length) = some 2)⟩ (hm_recv hK I rfl mm_hr) I ⟨rfl, rfl⟩ ⟨⟨Nat.le_of_ble_eq_true rfl, Nat.le_of_ble_eq_true rfl⟩, Nat.le_of_ble_eq_true rfl, Nat.le_of_ble_eq_true rfl⟩ rfl (Nat.le_of_ble_eq_true rfl) d97_75 (fun vv h1 z1 H locs hR I9 => ?_)
        obtain ⟨e1, e2, e3⟩ := hR
        rw [e2, e3] at I9
        clear I e2 e3 e9
        have I := I9
        clear I9
        subst e1
        refine W.eq (g2 := F0 m 78 ls [.int q8.1]) rfl ?_
        refine lv_aload_n hx hb d97_78 rfl (lv_at hl 1 rfl) ?_
        refine va_get (D := D) (ci := 2) (v := .ref (M 37)) (C := kR2) (T := kT2) (N := 60) hx hb hts ku2 hown hK (hm_one I.1 mm_hr) 0 rfl rfl 37 (by decide) (hts _ ms_k1353) (fun _ h => h) rfl d97_79 ?_
        refine lv_iload_n hx hb d97_82 rfl (lv_at hl 2 rfl) ?_
        obtain ⟨v9, i9, e9, hF⟩ := mm_ld_some hF
        refine va_iald hx hb hK (hm_one I.1 (mm_a37 hM)) 0 0 rfl rfl i9 d97_83 ?_
        refine ms_top (y := v9) e9 ?_
        clear e9 i9
        refine lv_icmp_ne hx hb d97_84 rfl (fun h9 => ?_) (fun h9 => ?_)
        · have hF := (if_neg h9).symm.trans hF
          refine lv_iconst (v := 0) hx hb d97_91 (by decide) ?_
          exact b92 ls y1 y2 q4.1 0 q8.2 _ _ hF (hl.sub [1, 2, 3, 0] rfl) I
        · have hF := (if_pos h9).symm.trans hF
          refine lv_iconst (v := 1) hx hb d97_87 (by decide) ?_
          refine lv_goto hx hb d97_88 rfl ?_
          exact b92 ls y1 y2 q4.1 1 q8.2 _ _ hF (hl.sub [1, 2, 3, 0] rfl) I
      · have hF := (if_pos h9).symm.trans hF
        exact b50 ls y2 q4.1 q5.2 _ _ hF (hl.sub [1, 3, 0] rfl) I
  · have hF := (if_neg h9).symm.trans hF
    refine lv_iconst (v := 0) hx hb d97_10 (by decide) ?_
    exact ht_zret X d97_11 I (Nat.le_of_ble_eq_true rfl) (Nat.le_of_ble_eq_true rfl) (mm_fin hF) rfl

def g_holds_94 (x1 : Int32) (w0 : Int32) (st : mT) : Option (Int32 × mT) := (mm_ld (st.2.1 40) 65 x1 (fun v5 => (if w0 = v5 then (some (0, st)) else (some (1, st)))))
def g_holds (y1 : Int32) (y2 : Int32) (y3 : Int32) (y4 : Int32) (st : mT) : Option (Int32 × mT) := (mm_ld (st.2.1 32) 65 y1 (fun v1 => (if v1 = 0 then (mm_ld (st.2.1 33) 65 y1 (fun v8 => (if y3 = v8 then (g_holds_94 y1 1 st) else (g_holds_94 y1 0 st)))) else (mm_ld (st.2.1 32) 65 y1 (fun v2 => (if v2 = 1 then (if y3 = y4 then (g_holds_94 y1 1 st) else (g_holds_94 y1 0 st)) else (mm_ld (st.2.1 32) 65 y1 (fun v3 => (if 4 ≤ v3 then (mm_ldL st.2.2 65 y1 (fun v4 => (if (mm_cmp ((v4 >>> (y2.toInt64 &&& 63)) &&& (1 : Int64)) (1 : Int64)) = 0 then (g_holds_94 y1 1 st) else (g_holds_94 y1 0 st)))) else ((g_doc y2 st).bind (fun q6 => ((g_holdsAttribute y1 q6.1 q6.2).bind (fun q7 => (g_holds_94 y1 q7.1 q7.2))))))))))))))
set_option maxRecDepth 100000 in
set_option maxHeartbeats 8000000 in
theorem cm_holds (l : Launch) (D : va_G) (dA : Nat → ClassId) (s0 : State) (hE : ms_EV D dA s0) (h0 : hm_T) (r : Nat) (M : Nat → Nat) (hM : mm_ok r M) (z0 : hz_T) (y1 : Int32) (y2 : Int32) (y3 : Int32) (y4 : Int32) (st : mT) (q : Int32 × mT) (hg : g_holds y1 y2 y3 y4 st = some q) : ht_C l D s0 yM98 bM98 6 (Option.some Jvm.ClassFile.FieldType.boolean) 3 73 0 0 [.ref r, .int y1, .int y2, .int y3, .int y4] (fun h z => h = mm_h dA h0 r M st ∧ z = z0) (fun h z vv h1 z1 => vv = some (.int q.1) ∧ h1 = mm_h dA h0 r M q.2 ∧ z1 = z0) := by
  refine ht_C.mk hE.1 (by decide) (Nat.le_of_ble_eq_true rfl) [(0, .ref r), (1, .int y1), (2, .int y2), (3, .int y3), (4, .int y4)] rfl ?_
  intro p e s m below meth c ls h z X hin hpre I hl
  have hx := X.1
  have hb := X.2.1
  have hml := X.2.2.1
  have hown : s.vm.findClass "MarkupStoreModel" = some m.cls := X.2.2.2.1
  have hts := X.2.2.2.2.2.2.1
  have hK := X.2.2.2.2.2.2.2.2.1
  rw [hpre.1, hpre.2] at I
  clear hpre
  have b94 : ∀ (ls : Array Slot) (x1 : Int32) (w0 : Int32) (st : mT) (H : Heap) (locs : List Loc), g_holds_94 x1 w0 st = some q → lv_has ls 6 [(0, .ref r), (1, .int x1)] → hm_I D s0 s (mm_h dA h0 r M st) z0 H locs → W p l e { frames := 3, cells := 0, slots := 0, locals := 73 } s m ([.ref r, .int y1, .int y2, .int y3, .int y4] : List Value).toArray below meth c H locs 0 0 (MQ below (ht_Q D s0 (fun vv h1 z1 => vv = some (.int q.1) ∧ h1 = mm_h dA h0 r M q.2 ∧ z1 = z0)) ([.ref r, .int y1, .int y2, .int y3, .int y4] : List Value).toArray s 0 0 (fun q => s0.heap.size ≤ q)) (F0 m 94 ls [.int w0]) := by
    intro ls x1 w0 st H locs hF hl I
    unfold g_holds_94 at hF
    refine lv_istore hx hb d98_94 hl (by decide) rfl (fun ls hl => ?_)
    have hl : lv_has ls 6 [(5, .int w0), (0, .ref r), (1, .int x1)] := hl
    refine lv_iload hx hb d98_96 (lv_at hl 0 rfl) ?_
    refine lv_aload_n hx hb d98_98 rfl (lv_at hl 1 rfl) ?_
    refine va_get (D := D) (ci := 2) (v := .ref (M 40)) (C := kR2) (T := kT2) (N := 60) hx hb hts ku2 hown hK (hm_one I.1 mm_hr) 0 rfl rfl 40 (by decide) (hts _ ms_k1356) (fun _ h => h) rfl d98_99 ?_
    refine lv_iload_n hx hb d98_102 rfl (lv_at hl 2 rfl) ?_
    obtain ⟨v5, i9, e9, hF⟩ := mm_ld_some hF
    refine va_zald hx hb hK (hm_one I.1 (mm_a40 hM)) 0 3 rfl rfl i9 d98_103 ?_
    refine ms_top (y := v5) e9 ?_
    clear e9 i9
    refine lv_icmp_eq hx hb d98_104 rfl (fun h9 => ?_) (fun h9 => ?_)
    · have hF := (if_pos h9).symm.trans hF
      refine lv_iconst (v := 0) hx hb d98_111 (by decide) ?_
      exact ht_zret X d98_112 I (Nat.le_of_ble_eq_true rfl) (Nat.le_of_ble_eq_true rfl) (mm_fin hF) rfl
    · have hF := (if_neg h9).symm.trans hF
      refine lv_iconst (v := 1) hx hb d98_107 (by decide) ?_
      refine lv_goto hx hb d98_108 rfl ?_
      exact ht_zret X d98_112 I (Nat.le_of_ble_eq_true rfl) (Nat.le_of_ble_eq_true rfl) (mm_fin hF) rfl
  have hF := hg
  unfold g_holds at hF
  refine lv_aload_n hx hb d98_0 rfl (lv_at hl 0 rfl) ?_
  refine va_get (D := D) (ci := 2) (v := .ref (M 32)) (C := kR2) (T := kT2) (N := 60) hx hb hts ku2 hown hK (hm_one I.1 mm_hr) 0 rfl rfl 32 (by decide) (hts _ ms_k1348) (fun _ h => h) rfl d98_1 ?_
  refine lv_iload_n hx hb d98_4 rfl (lv_at hl 1 rfl) ?_
  obtain ⟨v1, i9, e9, hF⟩ := mm_ld_some hF
  refine va_iald hx hb hK (hm_one I.1 (mm_a32 hM)) 0 0 rfl rfl i9 d98_5 ?_
  refine ms_top (y := v1) e9 ?_
  clear e9 i9
  refine lv_if_ne hx hb d98_6 rfl (fun h9 => ?_) (fun h9 => ?_)
  · have hF := (if_neg h9).symm.trans hF
    refine lv_aload_n hx hb d98_27 rfl (lv_at hl 0 rfl) ?_
    refine va_get (D := D) (ci := 2) (v := .ref (M 32)) (C := kR2) (T := kT2) (N := 60) hx hb hts ku2 hown hK (hm_one I.1 mm_hr) 0 rfl rfl 32 (by decide) (hts _ ms_k1348) (fun _ h => h) rfl d98_28 ?_
    refine lv_iload_n hx hb d98_31 rfl (lv_at hl 1 rfl) ?_
    obtain ⟨v2, i9, e9, hF⟩ := mm_ld_some hF
    refine va_iald hx hb hK (hm_one I.1 (mm_a32 hM)) 0 0 rfl rfl i9 d98_32 ?_
    refine ms_top (y := v2) e9 ?_
    clear e9 i9
    refine lv_iconst (v := 1) hx hb d98_33 (by decide) ?_
    refine lv_icmp_ne hx hb d98_34 rfl (fun h9 => ?_) (fun h9 => ?_)
    · have hF := (if_neg h9).symm.trans hF
      refine lv_aload_n hx hb d98_51 rfl (lv_at hl 0 rfl) ?_
      refine va_get (D := D) (ci := 2) (v := .ref (M 32)) (C := kR2) (T := kT2) (N := 60) hx hb hts ku2 hown hK (hm_one I.1 mm_hr) 0 rfl rfl 32 (by decide) (hts _ ms_k1348) (fun _ h => h) rfl d98_52 ?_
      refine lv_iload_n hx hb d98_55 rfl (lv_at hl 1 rfl) ?_
      obtain ⟨v3, i9, e9, hF⟩ := mm_ld_some hF
      refine va_iald hx hb hK (hm_one I.1 (mm_a32 hM)) 0 0 rfl rfl i9 d98_56 ?_
      refine ms_top (y := v3) e9 ?_
      clear e9 i9
      refine lv_iconst (v := 4) hx hb d98_57 (by decide) ?_
      refine lv_icmp_ge hx hb d98_58 rfl (fun h9 => ?_) (fun h9 => ?_)
      · have hF := (if_pos h9).symm.trans hF
        refine lv_aload_n hx hb d98_74 rfl (lv_at hl 0 rfl) ?_
        refine va_get (D := D) (ci := 2) (v := .ref (M 42)) (C := kR2) (T := kT2) (N := 60) hx hb hts ku2 hown hK (hm_one I.1 mm_hr) 0 rfl rfl 42 (by decide) (hts _ ms_k1358) (fun _ h => h) rfl d98_75 ?_
        refine lv_iload_n hx hb d98_78 rfl (lv_at hl 1 rfl) ?_
        obtain ⟨v4, i9, e9, hF⟩ := mm_ldL_some hF
        refine va_lald hx hb hK (hm_one I.1 (mm_a42 hM)) 0 4 rfl rfl i9 d98_79 ?_
        refine mm_topL (y := v4) e9 ?_
        clear e9 i9
        refine lv_iload_n hx hb d98_80 rfl (lv_at hl 2 rfl) ?_
        refine lv_lshr (v := (v4 >>> (y2.toInt64 &&& 63))) hx hb d98_81 rfl ?_
        refine lv_lconst (v := (1 : Int64)) hx hb d98_82 (by decide) ?_
        refine lv_land hx hb d98_83 ?_
        refine lv_lconst (v := (1 : Int64)) hx hb d98_84 (by decide) ?_
        refine lv_lcmp hx hb d98_85 ?_
        refine lv_if_ne hx hb d98_86 rfl (fun h9 => ?_) (fun h9 => ?_)
        · have hF := (if_neg h9).symm.trans hF
          refine lv_iconst (v := 0) hx hb d98_93 (by decide) ?_
          exact b94 ls y1 0 st _ _ hF (hl.sub [0, 1] rfl) I
        · have hF := (if_pos h9).symm.trans hF
          refine lv_iconst (v := 1) hx hb d98_89 (by decide) ?_
          refine lv_goto hx hb d98_90 rfl ?_
          exact b94 ls y1 1 st _ _ hF (hl.sub [0, 1] rfl) I
      · have hF := (if_neg h9).symm.trans hF
        refine lv_aload_n hx hb d98_61 rfl (lv_at hl 0 rfl) ?_
        refine lv_iload_n hx hb d98_62 rfl (lv_at hl 1 rfl) ?_
        refine lv_aload_n hx hb d98_63 rfl (lv_at hl 0 rfl) ?_
        refine lv_iload_n hx hb d98_64 rfl (lv_at hl 2 rfl) ?_
        obtain ⟨q6, e9, hF⟩ := mm_bd hF
        refine ht_V (C := "MarkupStoreModel") (rest := [.int y1, .ref r]) (as := [.int y2]) X hl (cm_doc l D dA s0 hE h0 r M hM z0 y2 st q6 e9) (List.forall_mem_cons.mpr ⟨ms_k1607, List.forall_mem_cons.mpr ⟨ms_k1609, List.forall_mem_cons.mpr ⟨ms_p67, List.forall_mem_cons.mpr ⟨ms_k7, List.forall_mem_cons.mpr ⟨ms_k1610, fun _ h => absurd h List.not_mem_nil⟩⟩⟩⟩⟩) ⟨rfl, by decide +kernel, by decide +kernel, (by decide +kernel : (parseMethodDescriptor "(I)I").map (fun d => d.parameters.length) = some 1)⟩ (hm_recv hK I rfl mm_hr) I ⟨rfl, rfl⟩ ⟨⟨Nat.le_of_ble_eq_true rfl, Nat.le_of_ble_eq_true rfl⟩, Nat.le_of_ble_eq_true rfl, Nat.le_of_ble_eq_true rfl⟩ rfl (Nat.le_of_ble_eq_true rfl) d98_65 (fun vv h1 z1 H locs hR I9 => ?_)
        obtain ⟨e1, e2, e3⟩ := hR
        rw [e2, e3] at I9
        clear I e2 e3 e9
        have I := I9
        clear I9
        subst e1
        refine W.eq (g2 := F0 m 68 ls [.int q6.1, .int y1, .ref r]) rfl ?_
        obtain ⟨q7, e9, hF⟩ := mm_bd hF
        refine ht_V (C := "MarkupStoreModel") (rest := []) (as := [.int y1, .int q6.1]) X hl (cm_holdsAttribute l D dA s0 hE h0 r M hM z0 y1 q6.1 q6.2 q7 e9) (List.forall_mem_cons.mpr ⟨ms_k1744, List.forall_mem_cons.mpr ⟨ms_k1746, List.forall_mem_cons.mpr ⟨ms_p96, List.forall_mem_cons.mpr ⟨ms_k7, List.forall_mem_cons.mpr ⟨ms_k1747, fun _ h => absurd h List.not_mem_nil⟩⟩⟩⟩⟩) ⟨rfl, by decide +kernel, by decide +kernel, (by decide +kernel : (parseMethodDescriptor "(II)Z").map (fun d => d.parameters.length) = some 2)⟩ (hm_recv hK I rfl mm_hr) I ⟨rfl, rfl⟩ ⟨⟨Nat.le_of_ble_eq_true rfl, Nat.le_of_ble_eq_true rfl⟩, Nat.le_of_ble_eq_true rfl, Nat.le_of_ble_eq_true rfl⟩ rfl (Nat.le_of_ble_eq_true rfl) d98_68 (fun vv h1 z1 H locs hR I9 => ?_)
        obtain ⟨e1, e2, e3⟩ := hR
        rw [e2, e3] at I9
        clear I e2 e3 e9
        have I := I9
        clear I9
        subst e1
        refine W.eq (g2 := F0 m 71 ls [.int q7.1]) rfl ?_
        refine lv_goto hx hb d98_71 rfl ?_
        exact b94 ls y1 q7.1 q7.2 _ _ hF (hl.sub [0, 1] rfl) I
    · have hF := (if_pos h9).symm.trans hF
      refine lv_iload_n hx hb d98_37 rfl (lv_at hl 3 rfl) ?_
      refine lv_iload hx hb d98_38 (lv_at hl 4 rfl) ?_
      refine lv_icmp_ne hx hb d98_40 rfl (fun h9 => ?_) (fun h9 => ?_)
      · have hF := (if_neg h9).symm.trans hF
        refine lv_iconst (v := 0) hx hb d98_47 (by decide) ?_
        refine lv_goto hx hb d98_48 rfl ?_
        exact b94 ls y1 0 st _ _ hF (hl.sub [0, 1] rfl) I
      · have hF := (if_pos h9).symm.trans hF
        refine lv_iconst (v := 1) hx hb d98_43 (by decide) ?_
        refine lv_goto hx hb d98_44 rfl ?_
        exact b94 ls y1 1 st _ _ hF (hl.sub [0, 1] rfl) I
  · have hF := (if_pos h9).symm.trans hF
    refine lv_iload_n hx hb d98_9 rfl (lv_at hl 3 rfl) ?_
    refine lv_aload_n hx hb d98_10 rfl (lv_at hl 0 rfl) ?_
    refine va_get (D := D) (ci := 2) (v := .ref (M 33)) (C := kR2) (T := kT2) (N := 60) hx hb hts ku2 hown hK (hm_one I.1 mm_hr) 0 rfl rfl 33 (by decide) (hts _ ms_k1349) (fun _ h => h) rfl d98_11 ?_
    refine lv_iload_n hx hb d98_14 rfl (lv_at hl 1 rfl) ?_
    obtain ⟨v8, i9, e9, hF⟩ := mm_ld_some hF
    refine va_iald hx hb hK (hm_one I.1 (mm_a33 hM)) 0 0 rfl rfl i9 d98_15 ?_
    refine ms_top (y := v8) e9 ?_
    clear e9 i9
    refine lv_icmp_ne hx hb d98_16 rfl (fun h9 => ?_) (fun h9 => ?_)
    · have hF := (if_neg h9).symm.trans hF
      refine lv_iconst (v := 0) hx hb d98_23 (by decide) ?_
      refine lv_goto hx hb d98_24 rfl ?_
      exact b94 ls y1 0 st _ _ hF (hl.sub [0, 1] rfl) I
    · have hF := (if_pos h9).symm.trans hF
      refine lv_iconst (v := 1) hx hb d98_19 (by decide) ?_
      refine lv_goto hx hb d98_20 rfl ?_
      exact b94 ls y1 1 st _ _ hF (hl.sub [0, 1] rfl) I

def g_walk_152 : Nat → Int32 → Int64 → Int32 → mT → Option (Int64 × mT)
  | 0, _, _, _, _ => none
  | n9 + 1, x3, x4, x6, st => (if x3 ≤ x6 then (some (x4, st)) else (mm_ld (st.2.1 54) 41 x6 (fun v4 => ((g_walk_152 n9) x3 (x4 ||| ((1 : Int64) <<< (v4.toInt64 &&& 63))) (x6 + 1) st))))
def g_walk_125 (k70 : Int32 → Int32 → mT → Option (Int64 × mT)) (k81 : Int32 → Int32 → Int32 → Int32 → mT → Option (Int64 × mT)) (x3 : Int32) (x4 : Int32) (x5 : Int32) (x6 : Int32) (st : mT) : Option (Int64 × mT) := (k81 x3 x4 x5 (x6 + 1) st)
def g_walk_81 (k70 : Int32 → Int32 → mT → Option (Int64 × mT)) : Nat → Int32 → Int32 → Int32 → Int32 → mT → Option (Int64 × mT)
  | 0, _, _, _, _, _ => none
  | n9 + 1, x3, x4, x5, x6, st => (if x3 ≤ x6 then (mm_ld (st.2.1 39) 65 x4 (fun v5 => (k70 x5 v5 st))) else (mm_ld (st.2.1 54) 41 x6 (fun v6 => ((g_holds x4 v6 (x6 + 1) x3 st).bind (fun q7 => (if q7.1 = 0 then (g_walk_125 k70 (g_walk_81 k70 n9) x3 x4 x5 x6 q7.2) else (mm_ld (q7.2.2.1 54) 41 x6 (fun v8 => (mm_ix 41 x5 (fun j10 => mm_lt (mm_G q7.2 54 j10 v8) (fun st9 => (g_walk_125 k70 (g_walk_81 k70 n9) x3 x4 (x5 + 1) x6 st9))))))))))))
def g_walk_70 : Nat → Int32 → Int32 → mT → Option (Int64 × mT)
  | 0, _, _, _ => none
  | n9 + 1, x3, x4, st => (if x4 < 0 then (g_walk_152 mF x3 (0 : Int64) 0 st) else (g_walk_81 (g_walk_70 n9) mF x3 x4 0 0 st))
def g_walk_56 (k16 : Int32 → Int32 → Int32 → mT → Option (Int64 × mT)) (x1 : Int32) (x3 : Int32) (x4 : Int32) (st : mT) : Option (Int64 × mT) := (k16 x1 x3 (x4 + 1) st)
def g_walk_16 : Nat → Int32 → Int32 → Int32 → mT → Option (Int64 × mT)
  | 0, _, _, _, _ => none
  | n9 + 1, x1, x3, x4, st => (if (st.1 53) ≤ x4 then (mm_ld (st.2.1 29) 130 x1 (fun v3 => (g_walk_70 mF x3 v3 st))) else (mm_ld (st.2.1 54) 41 x4 (fun v11 => ((g_isKind x1 v11 st).bind (fun q12 => (if q12.1 = 0 then (g_walk_56 (g_walk_16 n9) x1 x3 x4 q12.2) else (mm_ld (q12.2.2.1 54) 41 x4 (fun v13 => (mm_ix 41 x3 (fun j15 => mm_lt (mm_G q12.2 54 j15 v13) (fun st14 => (g_walk_56 (g_walk_16 n9) x1 (x3 + 1) x4 st14))))))))))))
def g_walk (y1 : Int32) (y2 : Int32) (st : mT) : Option (Int64 × mT) := (mm_ld (st.2.1 25) 130 y1 (fun v1 => ((g_gather v1 y2 st).bind (fun q2 => (g_walk_16 mF y1 0 0 q2)))))
set_option maxRecDepth 100000 in
set_option maxHeartbeats 8000000 in
theorem cm_walk (l : Launch) (D : va_G) (dA : Nat → ClassId) (s0 : State) (hE : ms_EV D dA s0) (h0 : hm_T) (r : Nat) (M : Nat → Nat) (hM : mm_ok r M) (z0 : hz_T) (y1 : Int32) (y2 : Int32) (st : mT) (q : Int64 × mT) (hg : g_walk y1 y2 st = some q) : ht_C l D s0 yM99 bM99 7 (Option.some Jvm.ClassFile.FieldType.long) 4 98 0 0 [.ref r, .int y1, .int y2] (fun h z => h = mm_h dA h0 r M st ∧ z = z0) (fun h z vv h1 z1 => vv = some (.long q.1) ∧ h1 = mm_h dA h0 r M q.2 ∧ z1 = z0) := by
  refine ht_C.mk hE.1 (by decide) (Nat.le_of_ble_eq_true rfl) [(0, .ref r), (1, .int y1), (2, .int y2)] rfl ?_
  intro p e s m below meth c ls h z X hin hpre I hl
  have hx := X.1
  have hb := X.2.1
  have hml := X.2.2.1
  have hown : s.vm.findClass "MarkupStoreModel" = some m.cls := X.2.2.2.1
  have hts := X.2.2.2.2.2.2.1
  have hK := X.2.2.2.2.2.2.2.2.1
  rw [hpre.1, hpre.2] at I
  clear hpre
  have b152 : ∀ n9 : Nat, ∀ (ls : Array Slot) (x3 : Int32) (x4 : Int64) (x6 : Int32) (st : mT) (H : Heap) (locs : List Loc), g_walk_152 n9 x3 x4 x6 st = some q → lv_has ls 7 [(0, .ref r), (3, .int x3), (4, .long x4), (6, .int x6)] → hm_I D s0 s (mm_h dA h0 r M st) z0 H locs → W p l e { frames := 4, cells := 0, slots := 0, locals := 98 } s m ([.ref r, .int y1, .int y2] : List Value).toArray below meth c H locs 0 0 (MQ below (ht_Q D s0 (fun vv h1 z1 => vv = some (.long q.1) ∧ h1 = mm_h dA h0 r M q.2 ∧ z1 = z0)) ([.ref r, .int y1, .int y2] : List Value).toArray s 0 0 (fun q => s0.heap.size ≤ q)) (F0 m 152 ls []) := by
    intro n9
    induction n9 with
    | zero => intro ls x3 x4 x6 st H locs hF; cases hF
    | succ n9 hk152 =>
    intro ls x3 x4 x6 st H locs hF hl I
    unfold g_walk_152 at hF
    refine lv_iload hx hb d99_152 (lv_at hl 3 rfl) ?_
    refine lv_iload_n hx hb d99_154 rfl (lv_at hl 1 rfl) ?_
    refine lv_icmp_ge hx hb d99_155 rfl (fun h9 => ?_) (fun h9 => ?_)
    · have hF := (if_pos h9).symm.trans hF
      refine lv_lload hx hb d99_178 (lv_at hl 2 rfl) ?_
      exact ht_lret X d99_180 I (Nat.le_of_ble_eq_true rfl) (Nat.le_of_ble_eq_true rfl) (mm_finL hF)
    · have hF := (if_neg h9).symm.trans hF
      refine lv_lload hx hb d99_158 (lv_at hl 2 rfl) ?_
      refine lv_lconst (v := (1 : Int64)) hx hb d99_160 (by decide) ?_
      refine lv_aload_n hx hb d99_161 rfl (lv_at hl 0 rfl) ?_
      refine va_get (D := D) (ci := 2) (v := .ref (M 54)) (C := kR2) (T := kT2) (N := 60) hx hb hts ku2 hown hK (hm_one I.1 mm_hr) 0 rfl rfl 54 (by decide) (hts _ ms_k1370) (fun _ h => h) rfl d99_162 ?_
      refine lv_iload hx hb d99_165 (lv_at hl 3 rfl) ?_
      obtain ⟨v4, i9, e9, hF⟩ := mm_ld_some hF
      refine va_iald hx hb hK (hm_one I.1 (mm_a54 hM)) 0 0 rfl rfl i9 d99_167 ?_
      refine ms_top (y := v4) e9 ?_
      clear e9 i9
      refine lv_lshl (v := ((1 : Int64) <<< (v4.toInt64 &&& 63))) hx hb d99_168 rfl ?_
      refine lv_lor hx hb d99_169 ?_
      refine lv_lstore hx hb d99_170 hl (by decide) rfl (fun ls hl => ?_)
      have hl : lv_has ls 7 [(4, .long (x4 ||| ((1 : Int64) <<< (v4.toInt64 &&& 63)))), (0, .ref r), (3, .int x3), (6, .int x6)] := hl
      refine lv_iinc (k := 3) (v := (x6 + 1)) hx hb d99_172 hl rfl (rfl) (by decide) rfl (fun ls hl => ?_)
      have hl : lv_has ls 7 [(6, .int (x6 + 1)), (4, .long (x4 ||| ((1 : Int64) <<< (v4.toInt64 &&& 63)))), (0, .ref r), (3, .int x3)] := hl
      refine lv_goto hx hb d99_175 rfl ?_
      exact hk152 ls x3 (x4 ||| ((1 : Int64) <<< (v4.toInt64 &&& 63))) (x6 + 1) st _ _ hF (hl.sub [2, 3, 1, 0] rfl) I
  have b125 : ∀ (k70 : Int32 → Int32 → mT → Option (Int64 × mT)), (∀ (ls : Array Slot) (x3 : Int32) (x4 : Int32) (st : mT) (H : Heap) (locs : List Loc), k70 x3 x4 st = some q → lv_has ls 7 [(0, .ref r), (3, .int x3), (4, .int x4)] → hm_I D s0 s (mm_h dA h0 r M st) z0 H locs → W p l e { frames := 4, cells := 0, slots := 0, locals := 98 } s m ([.ref r, .int y1, .int y2] : List Value).toArray below meth c H locs 0 0 (MQ below (ht_Q D s0 (fun vv h1 z1 => vv = some (.long q.1) ∧ h1 = mm_h dA h0 r M q.2 ∧ z1 = z0)) ([.ref r, .int y1, .int y2] : List Value).toArray s 0 0 (fun q => s0.heap.size ≤ q)) (F0 m 70 ls [])) → ∀ (k81 : Int32 → Int32 → Int32 → Int32 → mT → Option (Int64 × mT)), (∀ (ls : Array Slot) (x3 : Int32) (x4 : Int32) (x5 : Int32) (x6 : Int32) (st : mT) (H : Heap) (locs : List Loc), k81 x3 x4 x5 x6 st = some q → lv_has ls 7 [(0, .ref r), (3, .int x3), (4, .int x4), (5, .int x5), (6, .int x6)] → hm_I D s0 s (mm_h dA h0 r M st) z0 H locs → W p l e { frames := 4, cells := 0, slots := 0, locals := 98 } s m ([.ref r, .int y1, .int y2] : List Value).toArray below meth c H locs 0 0 (MQ below (ht_Q D s0 (fun vv h1 z1 => vv = some (.long q.1) ∧ h1 = mm_h dA h0 r M q.2 ∧ z1 = z0)) ([.ref r, .int y1, .int y2] : List Value).toArray s 0 0 (fun q => s0.heap.size ≤ q)) (F0 m 81 ls [])) → ∀ (ls : Array Slot) (x3 : Int32) (x4 : Int32) (x5 : Int32) (x6 : Int32) (st : mT) (H : Heap) (locs : List Loc), g_walk_125 k70 k81 x3 x4 x5 x6 st = some q → lv_has ls 7 [(0, .ref r), (3, .int x3), (4, .int x4), (5, .int x5), (6, .int x6)] → hm_I D s0 s (mm_h dA h0 r M st) z0 H locs → W p l e { frames := 4, cells := 0, slots := 0, locals := 98 } s m ([.ref r, .int y1, .int y2] : List Value).toArray below meth c H locs 0 0 (MQ below (ht_Q D s0 (fun vv h1 z1 => vv = some (.long q.1) ∧ h1 = mm_h dA h0 r M q.2 ∧ z1 = z0)) ([.ref r, .int y1, .int y2] : List Value).toArray s 0 0 (fun q => s0.heap.size ≤ q)) (F0 m 125 ls []) := by
    intro k70 hk70 k81 hk81 ls x3 x4 x5 x6 st H locs hF hl I
    unfold g_walk_125 at hF
    refine lv_iinc (k := 4) (v := (x6 + 1)) hx hb d99_125 hl rfl (rfl) (by decide) rfl (fun ls hl => ?_)
    have hl : lv_has ls 7 [(6, .int (x6 + 1)), (0, .ref r), (3, .int x3), (4, .int x4), (5, .int x5)] := hl
    refine lv_goto hx hb d99_128 rfl ?_
    exact hk81 ls x3 x4 x5 (x6 + 1) st _ _ hF (hl.sub [1, 2, 3, 4, 0] rfl) I
  have b81 : ∀ (k70 : Int32 → Int32 → mT → Option (Int64 × mT)), (∀ (ls : Array Slot) (x3 : Int32) (x4 : Int32) (st : mT) (H : Heap) (locs : List Loc), k70 x3 x4 st = some q → lv_has ls 7 [(0, .ref r), (3, .int x3), (4, .int x4)] → hm_I D s0 s (mm_h dA h0 r M st) z0 H locs → W p l e { frames := 4, cells := 0, slots := 0, locals := 98 } s m ([.ref r, .int y1, .int y2] : List Value).toArray below meth c H locs 0 0 (MQ below (ht_Q D s0 (fun vv h1 z1 => vv = some (.long q.1) ∧ h1 = mm_h dA h0 r M q.2 ∧ z1 = z0)) ([.ref r, .int y1, .int y2] : List Value).toArray s 0 0 (fun q => s0.heap.size ≤ q)) (F0 m 70 ls [])) → ∀ n9 : Nat, ∀ (ls : Array Slot) (x3 : Int32) (x4 : Int32) (x5 : Int32) (x6 : Int32) (st : mT) (H : Heap) (locs : List Loc), g_walk_81 k70 n9 x3 x4 x5 x6 st = some q → lv_has ls 7 [(0, .ref r), (3, .int x3), (4, .int x4), (5, .int x5), (6, .int x6)] → hm_I D s0 s (mm_h dA h0 r M st) z0 H locs → W p l e { frames := 4, cells := 0, slots := 0, locals := 98 } s m ([.ref r, .int y1, .int y2] : List Value).toArray below meth c H locs 0 0 (MQ below (ht_Q D s0 (fun vv h1 z1 => vv = some (.long q.1) ∧ h1 = mm_h dA h0 r M q.2 ∧ z1 = z0)) ([.ref r, .int y1, .int y2] : List Value).toArray s 0 0 (fun q => s0.heap.size ≤ q)) (F0 m 81 ls []) := by
    intro k70 hk70 n9
    induction n9 with
    | zero => intro ls x3 x4 x5 x6 st H locs hF; cases hF
    | succ n9 hk81 =>
    intro ls x3 x4 x5 x6 st H locs hF hl I
    unfold g_walk_81 at hF
    refine lv_iload hx hb d99_81 (lv_at hl 4 rfl) ?_
    refine lv_iload_n hx hb d99_83 rfl (lv_at hl 1 rfl) ?_
    refine lv_icmp_ge hx hb d99_84 rfl (fun h9 => ?_) (fun h9 => ?_)
    · have hF := (if_pos h9).symm.trans hF
      refine lv_iload hx hb d99_131 (lv_at hl 3 rfl) ?_
      refine lv_istore_n hx hb d99_133 rfl hl (by decide) rfl (fun ls hl => ?_)
      have hl : lv_has ls 7 [(3, .int x5), (0, .ref r), (4, .int x4), (5, .int x5), (6, .int x6)] := hl
      refine lv_aload_n hx hb d99_134 rfl (lv_at hl 1 rfl) ?_
      refine va_get (D := D) (ci := 2) (v := .ref (M 39)) (C := kR2) (T := kT2) (N := 60) hx hb hts ku2 hown hK (hm_one I.1 mm_hr) 0 rfl rfl 39 (by decide) (hts _ ms_k1355) (fun _ h => h) rfl d99_135 ?_
      refine lv_iload hx hb d99_138 (lv_at hl 2 rfl) ?_
      obtain ⟨v5, i9, e9, hF⟩ := mm_ld_some hF
      refine va_iald hx hb hK (hm_one I.1 (mm_a39 hM)) 0 0 rfl rfl i9 d99_140 ?_
      refine ms_top (y := v5) e9 ?_
      clear e9 i9
      refine lv_istore hx hb d99_141 hl (by decide) rfl (fun ls hl => ?_)
      have hl : lv_has ls 7 [(4, .int v5), (3, .int x5), (0, .ref r), (5, .int x5), (6, .int x6)] := hl
      refine lv_goto hx hb d99_143 rfl ?_
      exact hk70 ls x5 v5 st _ _ hF (hl.sub [2, 1, 0] rfl) I
    · have hF := (if_neg h9).symm.trans hF
      refine lv_aload_n hx hb d99_87 rfl (lv_at hl 0 rfl) ?_
      refine lv_iload hx hb d99_88 (lv_at hl 2 rfl) ?_
      refine lv_aload_n hx hb d99_90 rfl (lv_at hl 0 rfl) ?_
      refine va_get (D := D) (ci := 2) (v := .ref (M 54)) (C := kR2) (T := kT2) (N := 60) hx hb hts ku2 hown hK (hm_one I.1 mm_hr) 0 rfl rfl 54 (by decide) (hts _ ms_k1370) (fun _ h => h) rfl d99_91 ?_
      refine lv_iload hx hb d99_94 (lv_at hl 4 rfl) ?_
      obtain ⟨v6, i9, e9, hF⟩ := mm_ld_some hF
      refine va_iald hx hb hK (hm_one I.1 (mm_a54 hM)) 0 0 rfl rfl i9 d99_96 ?_
      refine ms_top (y := v6) e9 ?_
      clear e9 i9
      refine lv_iload hx hb d99_97 (lv_at hl 4 rfl) ?_
      refine lv_iconst (v := 1) hx hb d99_99 (by decide) ?_
      refine lv_iadd hx hb d99_100 ?_
      refine lv_iload_n hx hb d99_101 rfl (lv_at hl 1 rfl) ?_
      obtain ⟨q7, e9, hF⟩ := mm_bd hF
      refine ht_V (C := "MarkupStoreModel") (rest := []) (as := [.int x4, .int v6, .int (x6 + 1), .int x3]) X hl (cm_holds l D dA s0 hE h0 r M hM z0 x4 v6 (x6 + 1) x3 st q7 e9) (List.forall_mem_cons.mpr ⟨ms_k1740, List.forall_mem_cons.mpr ⟨ms_k1742, List.forall_mem_cons.mpr ⟨ms_p95, List.forall_mem_cons.mpr ⟨ms_k7, List.forall_mem_cons.mpr ⟨ms_k1743, fun _ h => absurd h List.not_mem_nil⟩⟩⟩⟩⟩) ⟨rfl, by decide +kernel, by decide +kernel, (by decide +kernel : (parseMethodDescriptor "(IIII)Z").map (fun d => d.parameters.length) = some 4)⟩ (hm_recv hK I rfl mm_hr) I ⟨rfl, rfl⟩ ⟨⟨Nat.le_of_ble_eq_true rfl, Nat.le_of_ble_eq_true rfl⟩, Nat.le_of_ble_eq_true rfl, Nat.le_of_ble_eq_true rfl⟩ rfl (Nat.le_of_ble_eq_true rfl) d99_102 (fun vv h1 z1 H locs hR I9 => ?_)
      obtain ⟨e1, e2, e3⟩ := hR
      rw [e2, e3] at I9
      clear I e2 e3 e9
      have I := I9
      clear I9
      subst e1
      refine W.eq (g2 := F0 m 105 ls [.int q7.1]) rfl ?_
      refine lv_if_eq hx hb d99_105 rfl (fun h9 => ?_) (fun h9 => ?_)
      · have hF := (if_pos h9).symm.trans hF
        exact b125 k70 hk70 (g_walk_81 k70 n9) hk81 ls x3 x4 x5 x6 q7.2 _ _ hF (hl.sub [0, 1, 2, 3, 4] rfl) I
      · have hF := (if_neg h9).symm.trans hF
        refine lv_aload_n hx hb d99_108 rfl (lv_at hl 0 rfl) ?_
        refine va_get (D := D) (ci := 2) (v := .ref (M 54)) (C := kR2) (T := kT2) (N := 60) hx hb hts ku2 hown hK (hm_one I.1 mm_hr) 0 rfl rfl 54 (by decide) (hts _ ms_k1370) (fun _ h => h) rfl d99_109 ?_
        refine lv_iload hx hb d99_112 (lv_at hl 3 rfl) ?_
        refine lv_aload_n hx hb d99_114 rfl (lv_at hl 0 rfl) ?_
        refine va_get (D := D) (ci := 2) (v := .ref (M 54)) (C := kR2) (T := kT2) (N := 60) hx hb hts ku2 hown hK (hm_one I.1 mm_hr) 0 rfl rfl 54 (by decide) (hts _ ms_k1370) (fun _ h => h) rfl d99_115 ?_
        refine lv_iload hx hb d99_118 (lv_at hl 4 rfl) ?_
        obtain ⟨v8, i9, e9, hF⟩ := mm_ld_some hF
        refine va_iald hx hb hK (hm_one I.1 (mm_a54 hM)) 0 0 rfl rfl i9 d99_120 ?_
        refine ms_top (y := v8) e9 ?_
        clear e9 i9
        obtain ⟨i9, hF⟩ := mm_ix_some hF
        obtain ⟨st9, e9, hF⟩ := mm_lt_some hF
        refine mm_iast (k := 54) X I hM (by decide) 0 (fun _ => rfl) rfl i9 e9 d99_121 (fun H locs I => ?_)
        clear e9 i9
        refine lv_iinc (k := 3) (v := (x5 + 1)) hx hb d99_122 hl rfl (rfl) (by decide) rfl (fun ls hl => ?_)
        have hl : lv_has ls 7 [(5, .int (x5 + 1)), (0, .ref r), (3, .int x3), (4, .int x4), (6, .int x6)] := hl
        exact b125 k70 hk70 (g_walk_81 k70 n9) hk81 ls x3 x4 (x5 + 1) x6 st9 _ _ hF (hl.sub [1, 2, 3, 0, 4] rfl) I
  have b70 : ∀ n9 : Nat, ∀ (ls : Array Slot) (x3 : Int32) (x4 : Int32) (st : mT) (H : Heap) (locs : List Loc), g_walk_70 n9 x3 x4 st = some q → lv_has ls 7 [(0, .ref r), (3, .int x3), (4, .int x4)] → hm_I D s0 s (mm_h dA h0 r M st) z0 H locs → W p l e { frames := 4, cells := 0, slots := 0, locals := 98 } s m ([.ref r, .int y1, .int y2] : List Value).toArray below meth c H locs 0 0 (MQ below (ht_Q D s0 (fun vv h1 z1 => vv = some (.long q.1) ∧ h1 = mm_h dA h0 r M q.2 ∧ z1 = z0)) ([.ref r, .int y1, .int y2] : List Value).toArray s 0 0 (fun q => s0.heap.size ≤ q)) (F0 m 70 ls []) := by
    intro n9
    induction n9 with
    | zero => intro ls x3 x4 st H locs hF; cases hF
    | succ n9 hk70 =>
    intro ls x3 x4 st H locs hF hl I
    unfold g_walk_70 at hF
    refine lv_iload hx hb d99_70 (lv_at hl 2 rfl) ?_
    refine lv_if_lt hx hb d99_72 rfl (fun h9 => ?_) (fun h9 => ?_)
    · have hF := (if_pos h9).symm.trans hF
      refine lv_lconst (v := (0 : Int64)) hx hb d99_146 (by decide) ?_
      refine lv_lstore hx hb d99_147 hl (by decide) rfl (fun ls hl => ?_)
      have hl : lv_has ls 7 [(4, .long (0 : Int64)), (0, .ref r), (3, .int x3)] := hl
      refine lv_iconst (v := 0) hx hb d99_149 (by decide) ?_
      refine lv_istore hx hb d99_150 hl (by decide) rfl (fun ls hl => ?_)
      have hl : lv_has ls 7 [(6, .int 0), (4, .long (0 : Int64)), (0, .ref r), (3, .int x3)] := hl
      exact b152 mF ls x3 (0 : Int64) 0 st _ _ hF (hl.sub [2, 3, 1, 0] rfl) I
    · have hF := (if_neg h9).symm.trans hF
      refine lv_iconst (v := 0) hx hb d99_75 (by decide) ?_
      refine lv_istore hx hb d99_76 hl (by decide) rfl (fun ls hl => ?_)
      have hl : lv_has ls 7 [(5, .int 0), (0, .ref r), (3, .int x3), (4, .int x4)] := hl
      refine lv_iconst (v := 0) hx hb d99_78 (by decide) ?_
      refine lv_istore hx hb d99_79 hl (by decide) rfl (fun ls hl => ?_)
      have hl : lv_has ls 7 [(6, .int 0), (5, .int 0), (0, .ref r), (3, .int x3), (4, .int x4)] := hl
      exact b81 (g_walk_70 n9) hk70 mF ls x3 x4 0 0 st _ _ hF (hl.sub [2, 3, 4, 1, 0] rfl) I
  have b56 : ∀ (k16 : Int32 → Int32 → Int32 → mT → Option (Int64 × mT)), (∀ (ls : Array Slot) (x1 : Int32) (x3 : Int32) (x4 : Int32) (st : mT) (H : Heap) (locs : List Loc), k16 x1 x3 x4 st = some q → lv_has ls 7 [(0, .ref r), (1, .int x1), (3, .int x3), (4, .int x4)] → hm_I D s0 s (mm_h dA h0 r M st) z0 H locs → W p l e { frames := 4, cells := 0, slots := 0, locals := 98 } s m ([.ref r, .int y1, .int y2] : List Value).toArray below meth c H locs 0 0 (MQ below (ht_Q D s0 (fun vv h1 z1 => vv = some (.long q.1) ∧ h1 = mm_h dA h0 r M q.2 ∧ z1 = z0)) ([.ref r, .int y1, .int y2] : List Value).toArray s 0 0 (fun q => s0.heap.size ≤ q)) (F0 m 16 ls [])) → ∀ (ls : Array Slot) (x1 : Int32) (x3 : Int32) (x4 : Int32) (st : mT) (H : Heap) (locs : List Loc), g_walk_56 k16 x1 x3 x4 st = some q → lv_has ls 7 [(0, .ref r), (1, .int x1), (3, .int x3), (4, .int x4)] → hm_I D s0 s (mm_h dA h0 r M st) z0 H locs → W p l e { frames := 4, cells := 0, slots := 0, locals := 98 } s m ([.ref r, .int y1, .int y2] : List Value).toArray below meth c H locs 0 0 (MQ below (ht_Q D s0 (fun vv h1 z1 => vv = some (.long q.1) ∧ h1 = mm_h dA h0 r M q.2 ∧ z1 = z0)) ([.ref r, .int y1, .int y2] : List Value).toArray s 0 0 (fun q => s0.heap.size ≤ q)) (F0 m 56 ls []) := by
    intro k16 hk16 ls x1 x3 x4 st H locs hF hl I
    unfold g_walk_56 at hF
    refine lv_iinc (k := 3) (v := (x4 + 1)) hx hb d99_56 hl rfl (rfl) (by decide) rfl (fun ls hl => ?_)
    have hl : lv_has ls 7 [(4, .int (x4 + 1)), (0, .ref r), (1, .int x1), (3, .int x3)] := hl
    refine lv_goto hx hb d99_59 rfl ?_
    exact hk16 ls x1 x3 (x4 + 1) st _ _ hF (hl.sub [1, 2, 3, 0] rfl) I
  have b16 : ∀ n9 : Nat, ∀ (ls : Array Slot) (x1 : Int32) (x3 : Int32) (x4 : Int32) (st : mT) (H : Heap) (locs : List Loc), g_walk_16 n9 x1 x3 x4 st = some q → lv_has ls 7 [(0, .ref r), (1, .int x1), (3, .int x3), (4, .int x4)] → hm_I D s0 s (mm_h dA h0 r M st) z0 H locs → W p l e { frames := 4, cells := 0, slots := 0, locals := 98 } s m ([.ref r, .int y1, .int y2] : List Value).toArray below meth c H locs 0 0 (MQ below (ht_Q D s0 (fun vv h1 z1 => vv = some (.long q.1) ∧ h1 = mm_h dA h0 r M q.2 ∧ z1 = z0)) ([.ref r, .int y1, .int y2] : List Value).toArray s 0 0 (fun q => s0.heap.size ≤ q)) (F0 m 16 ls []) := by
    intro n9
    induction n9 with
    | zero => intro ls x1 x3 x4 st H locs hF; cases hF
    | succ n9 hk16 =>
    intro ls x1 x3 x4 st H locs hF hl I
    unfold g_walk_16 at hF
    refine lv_iload hx hb d99_16 (lv_at hl 3 rfl) ?_
    refine lv_aload_n hx hb d99_18 rfl (lv_at hl 0 rfl) ?_
    refine va_get (D := D) (ci := 2) (v := .int (st.1 53)) (C := kR2) (T := kT2) (N := 60) hx hb hts ku2 hown hK (hm_one I.1 mm_hr) 0 rfl rfl 53 (by decide) (hts _ ms_k1369) (fun _ h => h) rfl d99_19 ?_
    refine lv_icmp_ge hx hb d99_22 rfl (fun h9 => ?_) (fun h9 => ?_)
    · have hF := (if_pos h9).symm.trans hF
      refine lv_aload_n hx hb d99_62 rfl (lv_at hl 0 rfl) ?_
      refine va_get (D := D) (ci := 2) (v := .ref (M 29)) (C := kR2) (T := kT2) (N := 60) hx hb hts ku2 hown hK (hm_one I.1 mm_hr) 0 rfl rfl 29 (by decide) (hts _ ms_k1345) (fun _ h => h) rfl d99_63 ?_
      refine lv_iload_n hx hb d99_66 rfl (lv_at hl 1 rfl) ?_
      obtain ⟨v3, i9, e9, hF⟩ := mm_ld_some hF
      refine va_iald hx hb hK (hm_one I.1 (mm_a29 hM)) 0 0 rfl rfl i9 d99_67 ?_
      refine ms_top (y := v3) e9 ?_
      clear e9 i9
      refine lv_istore hx hb d99_68 hl (by decide) rfl (fun ls hl => ?_)
      have hl : lv_has ls 7 [(4, .int v3), (0, .ref r), (1, .int x1), (3, .int x3)] := hl
      exact b70 mF ls x3 v3 st _ _ hF (hl.sub [1, 3, 0] rfl) I
    · have hF := (if_neg h9).symm.trans hF
      refine lv_aload_n hx hb d99_25 rfl (lv_at hl 0 rfl) ?_
      refine lv_iload_n hx hb d99_26 rfl (lv_at hl 1 rfl) ?_
      refine lv_aload_n hx hb d99_27 rfl (lv_at hl 0 rfl) ?_
      refine va_get (D := D) (ci := 2) (v := .ref (M 54)) (C := kR2) (T := kT2) (N := 60) hx hb hts ku2 hown hK (hm_one I.1 mm_hr) 0 rfl rfl 54 (by decide) (hts _ ms_k1370) (fun _ h => h) rfl d99_28 ?_
      refine lv_iload hx hb d99_31 (lv_at hl 3 rfl) ?_
      obtain ⟨v11, i9, e9, hF⟩ := mm_ld_some hF
      refine va_iald hx hb hK (hm_one I.1 (mm_a54 hM)) 0 0 rfl rfl i9 d99_33 ?_
      refine ms_top (y := v11) e9 ?_
      clear e9 i9
      obtain ⟨q12, e9, hF⟩ := mm_bd hF
      refine ht_V (C := "MarkupStoreModel") (rest := []) (as := [.int x1, .int v11]) X hl (cm_isKind l D dA s0 hE h0 r M hM z0 x1 v11 st q12 e9) (List.forall_mem_cons.mpr ⟨ms_k1736, List.forall_mem_cons.mpr ⟨ms_k1738, List.forall_mem_cons.mpr ⟨ms_p94, List.forall_mem_cons.mpr ⟨ms_k7, List.forall_mem_cons.mpr ⟨ms_k1739, fun _ h => absurd h List.not_mem_nil⟩⟩⟩⟩⟩) ⟨rfl, by decide +kernel, by decide +kernel, (by decide +kernel : (parseMethodDescriptor "(II)Z").map (fun d => d.parameters.length) = some 2)⟩ (hm_recv hK I rfl mm_hr) I ⟨rfl, rfl⟩ ⟨⟨Nat.le_of_ble_eq_true rfl, Nat.le_of_ble_eq_true rfl⟩, Nat.le_of_ble_eq_true rfl, Nat.le_of_ble_eq_true rfl⟩ rfl (Nat.le_of_ble_eq_true rfl) d99_34 (fun vv h1 z1 H locs hR I9 => ?_)
      obtain ⟨e1, e2, e3⟩ := hR
      rw [e2, e3] at I9
      clear I e2 e3 e9
      have I := I9
      clear I9
      subst e1
      refine W.eq (g2 := F0 m 37 ls [.int q12.1]) rfl ?_
      refine lv_if_eq hx hb d99_37 rfl (fun h9 => ?_) (fun h9 => ?_)
      · have hF := (if_pos h9).symm.trans hF
        exact b56 (g_walk_16 n9) hk16 ls x1 x3 x4 q12.2 _ _ hF (hl.sub [0, 1, 2, 3] rfl) I
      · have hF := (if_neg h9).symm.trans hF
        refine lv_aload_n hx hb d99_40 rfl (lv_at hl 0 rfl) ?_
        refine va_get (D := D) (ci := 2) (v := .ref (M 54)) (C := kR2) (T := kT2) (N := 60) hx hb hts ku2 hown hK (hm_one I.1 mm_hr) 0 rfl rfl 54 (by decide) (hts _ ms_k1370) (fun _ h => h) rfl d99_41 ?_
        refine lv_iload_n hx hb d99_44 rfl (lv_at hl 2 rfl) ?_
        refine lv_aload_n hx hb d99_45 rfl (lv_at hl 0 rfl) ?_
        refine va_get (D := D) (ci := 2) (v := .ref (M 54)) (C := kR2) (T := kT2) (N := 60) hx hb hts ku2 hown hK (hm_one I.1 mm_hr) 0 rfl rfl 54 (by decide) (hts _ ms_k1370) (fun _ h => h) rfl d99_46 ?_
        refine lv_iload hx hb d99_49 (lv_at hl 3 rfl) ?_
        obtain ⟨v13, i9, e9, hF⟩ := mm_ld_some hF
        refine va_iald hx hb hK (hm_one I.1 (mm_a54 hM)) 0 0 rfl rfl i9 d99_51 ?_
        refine ms_top (y := v13) e9 ?_
        clear e9 i9
        obtain ⟨i9, hF⟩ := mm_ix_some hF
        obtain ⟨st14, e9, hF⟩ := mm_lt_some hF
        refine mm_iast (k := 54) X I hM (by decide) 0 (fun _ => rfl) rfl i9 e9 d99_52 (fun H locs I => ?_)
        clear e9 i9
        refine lv_iinc (k := 2) (v := (x3 + 1)) hx hb d99_53 hl rfl (rfl) (by decide) rfl (fun ls hl => ?_)
        have hl : lv_has ls 7 [(3, .int (x3 + 1)), (0, .ref r), (1, .int x1), (4, .int x4)] := hl
        exact b56 (g_walk_16 n9) hk16 ls x1 (x3 + 1) x4 st14 _ _ hF (hl.sub [1, 2, 0, 3] rfl) I
  have hF := hg
  unfold g_walk at hF
  refine lv_aload_n hx hb d99_0 rfl (lv_at hl 0 rfl) ?_
  refine lv_aload_n hx hb d99_1 rfl (lv_at hl 0 rfl) ?_
  refine va_get (D := D) (ci := 2) (v := .ref (M 25)) (C := kR2) (T := kT2) (N := 60) hx hb hts ku2 hown hK (hm_one I.1 mm_hr) 0 rfl rfl 25 (by decide) (hts _ ms_k1341) (fun _ h => h) rfl d99_2 ?_
  refine lv_iload_n hx hb d99_5 rfl (lv_at hl 1 rfl) ?_
  obtain ⟨v1, i9, e9, hF⟩ := mm_ld_some hF
  refine va_iald hx hb hK (hm_one I.1 (mm_a25 hM)) 0 0 rfl rfl i9 d99_6 ?_
  refine ms_top (y := v1) e9 ?_
  clear e9 i9
  refine lv_iload_n hx hb d99_7 rfl (lv_at hl 2 rfl) ?_
  obtain ⟨q2, e9, hF⟩ := mm_bd hF
  refine ht_V (C := "MarkupStoreModel") (rest := []) (as := [.int v1, .int y2]) X hl (cm_gather l D dA s0 hE h0 r M hM z0 v1 y2 st q2 e9) (List.forall_mem_cons.mpr ⟨ms_k1720, List.forall_mem_cons.mpr ⟨ms_k1722, List.forall_mem_cons.mpr ⟨ms_p90, List.forall_mem_cons.mpr ⟨ms_k7, List.forall_mem_cons.mpr ⟨ms_k1723, fun _ h => absurd h List.not_mem_nil⟩⟩⟩⟩⟩) ⟨rfl, by decide +kernel, by decide +kernel, (by decide +kernel : (parseMethodDescriptor "(II)V").map (fun d => d.parameters.length) = some 2)⟩ (hm_recv hK I rfl mm_hr) I ⟨rfl, rfl⟩ ⟨⟨Nat.le_of_ble_eq_true rfl, Nat.le_of_ble_eq_true rfl⟩, Nat.le_of_ble_eq_true rfl, Nat.le_of_ble_eq_true rfl⟩ rfl (Nat.le_of_ble_eq_true rfl) d99_8 (fun vv h1 z1 H locs hR I9 => ?_)
  obtain ⟨e1, e2, e3⟩ := hR
  rw [e2, e3] at I9
  clear I e2 e3 e9
  have I := I9
  clear I9
  subst e1
  refine W.eq (g2 := F0 m 11 ls []) rfl ?_
  refine lv_iconst (v := 0) hx hb d99_11 (by decide) ?_
  refine lv_istore_n hx hb d99_12 rfl hl (by decide) rfl (fun ls hl => ?_)
  have hl : lv_has ls 7 [(3, .int 0), (0, .ref r), (1, .int y1), (2, .int y2)] := hl
  refine lv_iconst (v := 0) hx hb d99_13 (by decide) ?_
  refine lv_istore hx hb d99_14 hl (by decide) rfl (fun ls hl => ?_)
  have hl : lv_has ls 7 [(4, .int 0), (3, .int 0), (0, .ref r), (1, .int y1), (2, .int y2)] := hl
  exact b16 mF ls y1 0 0 q2 _ _ hF (hl.sub [2, 3, 1, 0] rfl) I
