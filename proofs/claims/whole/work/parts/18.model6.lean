theorem ms_k1373 : (Jvm.Cond.fieldLink "MarkupStoreModel" (388 : Nat) "MarkupStoreModel" "total" "I") ∈ ms_tb := ms_i6 173 (by decide +kernel) (by decide +kernel)
theorem ms_k1374 : (Jvm.Cond.fieldLink "MarkupStoreModel" (391 : Nat) "MarkupStoreModel" "wanted" "I") ∈ ms_tb := ms_i6 174 (by decide +kernel) (by decide +kernel)
theorem ms_k1375 : (Jvm.Cond.fieldLink "MarkupStoreModel" (394 : Nat) "MarkupStoreModel" "found" "I") ∈ ms_tb := ms_i6 175 (by decide +kernel) (by decide +kernel)
theorem ms_k1800 : (Jvm.Cond.methodLink "MarkupStoreModel" (417 : Nat) ({ cls := "MarkupStoreModel", name := "write", desc := "(I)V" } : Jvm.MethodName)) ∈ ms_tb := ms_i8 120 (by decide +kernel) (by decide +kernel)
theorem ms_k1802 : (Jvm.Cond.instanceMethod ({ cls := "MarkupStoreModel", name := "write", desc := "(I)V" } : Jvm.MethodName)) ∈ ms_tb := ms_i8 122 (by decide +kernel) (by decide +kernel)
theorem ms_k1803 : (Jvm.Cond.code ({ cls := "MarkupStoreModel", name := "write", desc := "(I)V" } : Jvm.MethodName) prog_14_method_83_code (6 : Nat) (Option.none : Option Jvm.ClassFile.FieldType)) ∈ ms_tb := ms_i8 123 (by decide +kernel) (by decide +kernel)
theorem ms_k1804 : (Jvm.Cond.methodLink "MarkupStoreModel" (411 : Nat) ({ cls := "MarkupStoreModel", name := "outTag", desc := "(I)V" } : Jvm.MethodName)) ∈ ms_tb := ms_i8 124 (by decide +kernel) (by decide +kernel)
theorem ms_k1806 : (Jvm.Cond.instanceMethod ({ cls := "MarkupStoreModel", name := "outTag", desc := "(I)V" } : Jvm.MethodName)) ∈ ms_tb := ms_i8 126 (by decide +kernel) (by decide +kernel)
theorem ms_k1807 : (Jvm.Cond.code ({ cls := "MarkupStoreModel", name := "outTag", desc := "(I)V" } : Jvm.MethodName) prog_14_method_81_code (5 : Nat) (Option.none : Option Jvm.ClassFile.FieldType)) ∈ ms_tb := ms_i8 127 (by decide +kernel) (by decide +kernel)
theorem ms_k1808 : (Jvm.Cond.methodLink "MarkupStoreModel" (397 : Nat) ({ cls := "MarkupStoreModel", name := "out", desc := "(I)V" } : Jvm.MethodName)) ∈ ms_tb := ms_i8 128 (by decide +kernel) (by decide +kernel)
theorem ms_k1810 : (Jvm.Cond.instanceMethod ({ cls := "MarkupStoreModel", name := "out", desc := "(I)V" } : Jvm.MethodName)) ∈ ms_tb := ms_i8 130 (by decide +kernel) (by decide +kernel)
theorem ms_k1811 : (Jvm.Cond.code ({ cls := "MarkupStoreModel", name := "out", desc := "(I)V" } : Jvm.MethodName) prog_14_method_77_code (2 : Nat) (Option.none : Option Jvm.ClassFile.FieldType)) ∈ ms_tb := ms_i8 131 (by decide +kernel) (by decide +kernel)
theorem ms_k1812 : (Jvm.Cond.methodLink "MarkupStoreModel" (404 : Nat) ({ cls := "MarkupStoreModel", name := "outName", desc := "(I)V" } : Jvm.MethodName)) ∈ ms_tb := ms_i8 132 (by decide +kernel) (by decide +kernel)
theorem ms_k1814 : (Jvm.Cond.instanceMethod ({ cls := "MarkupStoreModel", name := "outName", desc := "(I)V" } : Jvm.MethodName)) ∈ ms_tb := ms_i8 134 (by decide +kernel) (by decide +kernel)
theorem ms_k1815 : (Jvm.Cond.code ({ cls := "MarkupStoreModel", name := "outName", desc := "(I)V" } : Jvm.MethodName) prog_14_method_80_code (3 : Nat) (Option.none : Option Jvm.ClassFile.FieldType)) ∈ ms_tb := ms_i8 135 (by decide +kernel) (by decide +kernel)
theorem ms_k1816 : (Jvm.Cond.methodLink "MarkupStoreModel" (400 : Nat) ({ cls := "MarkupStoreModel", name := "outFour", desc := "(IIII)V" } : Jvm.MethodName)) ∈ ms_tb := ms_i8 136 (by decide +kernel) (by decide +kernel)
theorem ms_k1818 : (Jvm.Cond.instanceMethod ({ cls := "MarkupStoreModel", name := "outFour", desc := "(IIII)V" } : Jvm.MethodName)) ∈ ms_tb := ms_i8 138 (by decide +kernel) (by decide +kernel)
theorem ms_k1819 : (Jvm.Cond.code ({ cls := "MarkupStoreModel", name := "outFour", desc := "(IIII)V" } : Jvm.MethodName) prog_14_method_78_code (5 : Nat) (Option.none : Option Jvm.ClassFile.FieldType)) ∈ ms_tb := ms_i8 139 (by decide +kernel) (by decide +kernel)
theorem ms_k1820 : (Jvm.Cond.methodLink "MarkupStoreModel" (407 : Nat) ({ cls := "MarkupStoreModel", name := "outValue", desc := "(IC)V" } : Jvm.MethodName)) ∈ ms_tb := ms_i8 140 (by decide +kernel) (by decide +kernel)
theorem ms_k1822 : (Jvm.Cond.instanceMethod ({ cls := "MarkupStoreModel", name := "outValue", desc := "(IC)V" } : Jvm.MethodName)) ∈ ms_tb := ms_i8 142 (by decide +kernel) (by decide +kernel)
theorem ms_k1823 : (Jvm.Cond.code ({ cls := "MarkupStoreModel", name := "outValue", desc := "(IC)V" } : Jvm.MethodName) prog_14_method_79_code (4 : Nat) (Option.none : Option Jvm.ClassFile.FieldType)) ∈ ms_tb := ms_i8 143 (by decide +kernel) (by decide +kernel)
theorem ms_k1824 : (Jvm.Cond.methodLink "MarkupStoreModel" (414 : Nat) ({ cls := "MarkupStoreModel", name := "outComment", desc := "(I)V" } : Jvm.MethodName)) ∈ ms_tb := ms_i8 144 (by decide +kernel) (by decide +kernel)
theorem ms_k1826 : (Jvm.Cond.instanceMethod ({ cls := "MarkupStoreModel", name := "outComment", desc := "(I)V" } : Jvm.MethodName)) ∈ ms_tb := ms_i8 146 (by decide +kernel) (by decide +kernel)
theorem ms_k1827 : (Jvm.Cond.code ({ cls := "MarkupStoreModel", name := "outComment", desc := "(I)V" } : Jvm.MethodName) prog_14_method_82_code (2 : Nat) (Option.none : Option Jvm.ClassFile.FieldType)) ∈ ms_tb := ms_i8 147 (by decide +kernel) (by decide +kernel)
theorem ms_p100 : Cond.selects "MarkupStoreModel" (⟨"MarkupStoreModel", "write", "(I)V"⟩ : MethodName) (⟨"MarkupStoreModel", "write", "(I)V"⟩ : MethodName) ∈ ms_tb := ms_inP 100 (by decide +kernel) (by decide +kernel)
theorem ms_p101 : Cond.selects "MarkupStoreModel" (⟨"MarkupStoreModel", "outTag", "(I)V"⟩ : MethodName) (⟨"MarkupStoreModel", "outTag", "(I)V"⟩ : MethodName) ∈ ms_tb := ms_inP 101 (by decide +kernel) (by decide +kernel)
theorem ms_p102 : Cond.selects "MarkupStoreModel" (⟨"MarkupStoreModel", "out", "(I)V"⟩ : MethodName) (⟨"MarkupStoreModel", "out", "(I)V"⟩ : MethodName) ∈ ms_tb := ms_inP 102 (by decide +kernel) (by decide +kernel)
theorem ms_p103 : Cond.selects "MarkupStoreModel" (⟨"MarkupStoreModel", "outName", "(I)V"⟩ : MethodName) (⟨"MarkupStoreModel", "outName", "(I)V"⟩ : MethodName) ∈ ms_tb := ms_inP 103 (by decide +kernel) (by decide +kernel)
theorem ms_p104 : Cond.selects "MarkupStoreModel" (⟨"MarkupStoreModel", "outFour", "(IIII)V"⟩ : MethodName) (⟨"MarkupStoreModel", "outFour", "(IIII)V"⟩ : MethodName) ∈ ms_tb := ms_inP 104 (by decide +kernel) (by decide +kernel)
theorem ms_p105 : Cond.selects "MarkupStoreModel" (⟨"MarkupStoreModel", "outValue", "(IC)V"⟩ : MethodName) (⟨"MarkupStoreModel", "outValue", "(IC)V"⟩ : MethodName) ∈ ms_tb := ms_inP 105 (by decide +kernel) (by decide +kernel)
theorem ms_p106 : Cond.selects "MarkupStoreModel" (⟨"MarkupStoreModel", "outComment", "(I)V"⟩ : MethodName) (⟨"MarkupStoreModel", "outComment", "(I)V"⟩ : MethodName) ∈ ms_tb := ms_inP 106 (by decide +kernel) (by decide +kernel)
abbrev bM112 : ByteArray := prog_14_method_74_code
def yM112 : MethodName := ⟨"MarkupStoreModel", "label", "(II)I"⟩
abbrev bM113 : ByteArray := prog_14_method_75_code
def yM113 : MethodName := ⟨"MarkupStoreModel", "root", "()I"⟩
abbrev bM114 : ByteArray := prog_14_method_76_code
def yM114 : MethodName := ⟨"MarkupStoreModel", "nodes", "()I"⟩
abbrev bM115 : ByteArray := prog_14_method_77_code
def yM115 : MethodName := ⟨"MarkupStoreModel", "out", "(I)V"⟩
abbrev bM116 : ByteArray := prog_14_method_78_code
def yM116 : MethodName := ⟨"MarkupStoreModel", "outFour", "(IIII)V"⟩
abbrev bM117 : ByteArray := prog_14_method_79_code
def yM117 : MethodName := ⟨"MarkupStoreModel", "outValue", "(IC)V"⟩
abbrev bM118 : ByteArray := prog_14_method_80_code
def yM118 : MethodName := ⟨"MarkupStoreModel", "outName", "(I)V"⟩
abbrev bM119 : ByteArray := prog_14_method_81_code
def yM119 : MethodName := ⟨"MarkupStoreModel", "outTag", "(I)V"⟩
abbrev bM120 : ByteArray := prog_14_method_82_code
def yM120 : MethodName := ⟨"MarkupStoreModel", "outComment", "(I)V"⟩
abbrev bM121 : ByteArray := prog_14_method_83_code
def yM121 : MethodName := ⟨"MarkupStoreModel", "write", "(I)V"⟩
abbrev bM122 : ByteArray := prog_14_method_84_code
def yM122 : MethodName := ⟨"MarkupStoreModel", "length", "()I"⟩
abbrev bM123 : ByteArray := prog_14_method_85_code
def yM123 : MethodName := ⟨"MarkupStoreModel", "written", "(I)I"⟩
theorem d112_0 : decode bM112 0 = .ok (.aload_n 0, 1) := by decide +kernel
theorem d112_1 : decode bM112 1 = .ok (.iload_n 1, 1) := by decide +kernel
theorem d112_2 : decode bM112 2 = .ok (.invokevirtual 275, 3) := by decide +kernel
theorem d112_5 : decode bM112 5 = .ok (.istore_n 3, 1) := by decide +kernel
theorem d112_6 : decode bM112 6 = .ok (.iload_n 3, 1) := by decide +kernel
theorem d112_7 : decode bM112 7 = .ok (.ifCond .lt 17, 3) := by decide +kernel
theorem d112_10 : decode bM112 10 = .ok (.iload_n 2, 1) := by decide +kernel
theorem d112_11 : decode bM112 11 = .ok (.ifCond .lt 13, 3) := by decide +kernel
theorem d112_14 : decode bM112 14 = .ok (.iload_n 2, 1) := by decide +kernel
theorem d112_15 : decode bM112 15 = .ok (.aload_n 0, 1) := by decide +kernel
theorem d112_16 : decode bM112 16 = .ok (.iload_n 3, 1) := by decide +kernel
theorem d112_17 : decode bM112 17 = .ok (.iconst 4, 1) := by decide +kernel
theorem d112_18 : decode bM112 18 = .ok (.invokevirtual 123, 3) := by decide +kernel
theorem d112_21 : decode bM112 21 = .ok (.if_icmp .lt 7, 3) := by decide +kernel
theorem d112_24 : decode bM112 24 = .ok (.iconst 0, 1) := by decide +kernel
theorem d112_25 : decode bM112 25 = .ok (.goto 12, 3) := by decide +kernel
theorem d112_28 : decode bM112 28 = .ok (.aload_n 0, 1) := by decide +kernel
theorem d112_29 : decode bM112 29 = .ok (.iload_n 3, 1) := by decide +kernel
theorem d112_30 : decode bM112 30 = .ok (.bipush 28, 2) := by decide +kernel
theorem d112_32 : decode bM112 32 = .ok (.iload_n 2, 1) := by decide +kernel
theorem d112_33 : decode bM112 33 = .ok (.iadd, 1) := by decide +kernel
theorem d112_34 : decode bM112 34 = .ok (.invokevirtual 123, 3) := by decide +kernel
theorem d112_37 : decode bM112 37 = .ok (.ireturn, 1) := by decide +kernel
theorem d113_0 : decode bM113 0 = .ok (.aload_n 0, 1) := by decide +kernel
theorem d113_1 : decode bM113 1 = .ok (.invokevirtual 115, 3) := by decide +kernel
theorem d113_4 : decode bM113 4 = .ok (.ifCond .ne 9, 3) := by decide +kernel
theorem d113_7 : decode bM113 7 = .ok (.sipush (-1000), 3) := by decide +kernel
theorem d113_10 : decode bM113 10 = .ok (.goto 15, 3) := by decide +kernel
theorem d113_13 : decode bM113 13 = .ok (.aload_n 0, 1) := by decide +kernel
theorem d113_14 : decode bM113 14 = .ok (.aload_n 0, 1) := by decide +kernel
theorem d113_15 : decode bM113 15 = .ok (.iconst 0, 1) := by decide +kernel
theorem d113_16 : decode bM113 16 = .ok (.invokevirtual 119, 3) := by decide +kernel
theorem d113_19 : decode bM113 19 = .ok (.iconst 0, 1) := by decide +kernel
theorem d113_20 : decode bM113 20 = .ok (.invokevirtual 123, 3) := by decide +kernel
theorem d113_23 : decode bM113 23 = .ok (.iconst 1, 1) := by decide +kernel
theorem d113_24 : decode bM113 24 = .ok (.isub, 1) := by decide +kernel
theorem d113_25 : decode bM113 25 = .ok (.ireturn, 1) := by decide +kernel
theorem d114_0 : decode bM114 0 = .ok (.aload_n 0, 1) := by decide +kernel
theorem d114_1 : decode bM114 1 = .ok (.invokevirtual 115, 3) := by decide +kernel
theorem d114_4 : decode bM114 4 = .ok (.ireturn, 1) := by decide +kernel
theorem d115_0 : decode bM115 0 = .ok (.aload_n 0, 1) := by decide +kernel
theorem d115_1 : decode bM115 1 = .ok (.aload_n 0, 1) := by decide +kernel
theorem d115_2 : decode bM115 2 = .ok (.getfield 388, 3) := by decide +kernel
theorem d115_5 : decode bM115 5 = .ok (.aload_n 0, 1) := by decide +kernel
theorem d115_6 : decode bM115 6 = .ok (.getfield 391, 3) := by decide +kernel
theorem d115_9 : decode bM115 9 = .ok (.if_icmp .ne 7, 3) := by decide +kernel
theorem d115_12 : decode bM115 12 = .ok (.iload_n 1, 1) := by decide +kernel
theorem d115_13 : decode bM115 13 = .ok (.goto 7, 3) := by decide +kernel
theorem d115_16 : decode bM115 16 = .ok (.aload_n 0, 1) := by decide +kernel
theorem d115_17 : decode bM115 17 = .ok (.getfield 394, 3) := by decide +kernel
theorem d115_20 : decode bM115 20 = .ok (.putfield 394, 3) := by decide +kernel
theorem d115_23 : decode bM115 23 = .ok (.aload_n 0, 1) := by decide +kernel
theorem d115_24 : decode bM115 24 = .ok (.dup, 1) := by decide +kernel
theorem d115_25 : decode bM115 25 = .ok (.getfield 388, 3) := by decide +kernel
theorem d115_28 : decode bM115 28 = .ok (.iconst 1, 1) := by decide +kernel
theorem d115_29 : decode bM115 29 = .ok (.iadd, 1) := by decide +kernel
theorem d115_30 : decode bM115 30 = .ok (.putfield 388, 3) := by decide +kernel
theorem d115_33 : decode bM115 33 = .ok (.return_, 1) := by decide +kernel
theorem d116_0 : decode bM116 0 = .ok (.aload_n 0, 1) := by decide +kernel
theorem d116_1 : decode bM116 1 = .ok (.iload_n 1, 1) := by decide +kernel
theorem d116_2 : decode bM116 2 = .ok (.invokevirtual 397, 3) := by decide +kernel
theorem d116_5 : decode bM116 5 = .ok (.aload_n 0, 1) := by decide +kernel
theorem d116_6 : decode bM116 6 = .ok (.iload_n 2, 1) := by decide +kernel
theorem d116_7 : decode bM116 7 = .ok (.invokevirtual 397, 3) := by decide +kernel
theorem d116_10 : decode bM116 10 = .ok (.iload_n 3, 1) := by decide +kernel
theorem d116_11 : decode bM116 11 = .ok (.ifCond .le 8, 3) := by decide +kernel
theorem d116_14 : decode bM116 14 = .ok (.aload_n 0, 1) := by decide +kernel
theorem d116_15 : decode bM116 15 = .ok (.iload_n 3, 1) := by decide +kernel
theorem d116_16 : decode bM116 16 = .ok (.invokevirtual 397, 3) := by decide +kernel
theorem d116_19 : decode bM116 19 = .ok (.iload 4, 2) := by decide +kernel
theorem d116_21 : decode bM116 21 = .ok (.ifCond .le 9, 3) := by decide +kernel
theorem d116_24 : decode bM116 24 = .ok (.aload_n 0, 1) := by decide +kernel
theorem d116_25 : decode bM116 25 = .ok (.iload 4, 2) := by decide +kernel
theorem d116_27 : decode bM116 27 = .ok (.invokevirtual 397, 3) := by decide +kernel
theorem d116_30 : decode bM116 30 = .ok (.return_, 1) := by decide +kernel
theorem d117_0 : decode bM117 0 = .ok (.iload_n 1, 1) := by decide +kernel
theorem d117_1 : decode bM117 1 = .ok (.bipush 38, 2) := by decide +kernel
theorem d117_3 : decode bM117 3 = .ok (.if_icmp .eq 14, 3) := by decide +kernel
theorem d117_6 : decode bM117 6 = .ok (.iload_n 1, 1) := by decide +kernel
theorem d117_7 : decode bM117 7 = .ok (.bipush 60, 2) := by decide +kernel
theorem d117_9 : decode bM117 9 = .ok (.if_icmp .eq 8, 3) := by decide +kernel
theorem d117_12 : decode bM117 12 = .ok (.iload_n 1, 1) := by decide +kernel
theorem d117_13 : decode bM117 13 = .ok (.iload_n 2, 1) := by decide +kernel
theorem d117_14 : decode bM117 14 = .ok (.if_icmp .ne 7, 3) := by decide +kernel
theorem d117_17 : decode bM117 17 = .ok (.iconst 1, 1) := by decide +kernel
theorem d117_18 : decode bM117 18 = .ok (.goto 4, 3) := by decide +kernel
theorem d117_21 : decode bM117 21 = .ok (.iconst 0, 1) := by decide +kernel
theorem d117_22 : decode bM117 22 = .ok (.istore_n 3, 1) := by decide +kernel
theorem d117_23 : decode bM117 23 = .ok (.iload_n 3, 1) := by decide +kernel
theorem d117_24 : decode bM117 24 = .ok (.ifCond .ne 11, 3) := by decide +kernel
theorem d117_27 : decode bM117 27 = .ok (.aload_n 0, 1) := by decide +kernel
theorem d117_28 : decode bM117 28 = .ok (.iload_n 1, 1) := by decide +kernel
theorem d117_29 : decode bM117 29 = .ok (.invokevirtual 397, 3) := by decide +kernel
theorem d117_32 : decode bM117 32 = .ok (.goto 68, 3) := by decide +kernel
theorem d117_35 : decode bM117 35 = .ok (.iload_n 1, 1) := by decide +kernel
theorem d117_36 : decode bM117 36 = .ok (.bipush 38, 2) := by decide +kernel
theorem d117_38 : decode bM117 38 = .ok (.if_icmp .ne 18, 3) := by decide +kernel
theorem d117_41 : decode bM117 41 = .ok (.aload_n 0, 1) := by decide +kernel
theorem d117_42 : decode bM117 42 = .ok (.bipush 38, 2) := by decide +kernel
theorem d117_44 : decode bM117 44 = .ok (.bipush 97, 2) := by decide +kernel
theorem d117_46 : decode bM117 46 = .ok (.bipush 109, 2) := by decide +kernel
theorem d117_48 : decode bM117 48 = .ok (.bipush 112, 2) := by decide +kernel
theorem d117_50 : decode bM117 50 = .ok (.invokevirtual 400, 3) := by decide +kernel
theorem d117_53 : decode bM117 53 = .ok (.goto 47, 3) := by decide +kernel
theorem d117_56 : decode bM117 56 = .ok (.iload_n 1, 1) := by decide +kernel
theorem d117_57 : decode bM117 57 = .ok (.bipush 34, 2) := by decide +kernel
theorem d117_59 : decode bM117 59 = .ok (.if_icmp .ne 18, 3) := by decide +kernel
theorem d117_62 : decode bM117 62 = .ok (.aload_n 0, 1) := by decide +kernel
theorem d117_63 : decode bM117 63 = .ok (.bipush 38, 2) := by decide +kernel
theorem d117_65 : decode bM117 65 = .ok (.bipush 113, 2) := by decide +kernel
theorem d117_67 : decode bM117 67 = .ok (.bipush 117, 2) := by decide +kernel
theorem d117_69 : decode bM117 69 = .ok (.bipush 111, 2) := by decide +kernel
theorem d117_71 : decode bM117 71 = .ok (.invokevirtual 400, 3) := by decide +kernel
theorem d117_74 : decode bM117 74 = .ok (.goto 26, 3) := by decide +kernel
theorem d117_77 : decode bM117 77 = .ok (.aload_n 0, 1) := by decide +kernel
theorem d117_78 : decode bM117 78 = .ok (.bipush 38, 2) := by decide +kernel
theorem d117_80 : decode bM117 80 = .ok (.iload_n 1, 1) := by decide +kernel
theorem d117_81 : decode bM117 81 = .ok (.bipush 60, 2) := by decide +kernel
theorem d117_83 : decode bM117 83 = .ok (.if_icmp .ne 8, 3) := by decide +kernel
theorem d117_86 : decode bM117 86 = .ok (.bipush 108, 2) := by decide +kernel
theorem d117_88 : decode bM117 88 = .ok (.goto 5, 3) := by decide +kernel
theorem d117_91 : decode bM117 91 = .ok (.bipush 103, 2) := by decide +kernel
theorem d117_93 : decode bM117 93 = .ok (.bipush 116, 2) := by decide +kernel
theorem d117_95 : decode bM117 95 = .ok (.bipush 59, 2) := by decide +kernel
theorem d117_97 : decode bM117 97 = .ok (.invokevirtual 400, 3) := by decide +kernel
theorem d117_100 : decode bM117 100 = .ok (.iload_n 3, 1) := by decide +kernel
theorem d117_101 : decode bM117 101 = .ok (.ifCond .eq 15, 3) := by decide +kernel
theorem d117_104 : decode bM117 104 = .ok (.iload_n 1, 1) := by decide +kernel
theorem d117_105 : decode bM117 105 = .ok (.bipush 34, 2) := by decide +kernel
theorem d117_107 : decode bM117 107 = .ok (.if_icmp .ne 9, 3) := by decide +kernel
theorem d117_110 : decode bM117 110 = .ok (.aload_n 0, 1) := by decide +kernel
theorem d117_111 : decode bM117 111 = .ok (.bipush 116, 2) := by decide +kernel
theorem d117_113 : decode bM117 113 = .ok (.invokevirtual 397, 3) := by decide +kernel
theorem d117_116 : decode bM117 116 = .ok (.iload_n 3, 1) := by decide +kernel
theorem d117_117 : decode bM117 117 = .ok (.ifCond .eq 21, 3) := by decide +kernel
theorem d117_120 : decode bM117 120 = .ok (.iload_n 1, 1) := by decide +kernel
theorem d117_121 : decode bM117 121 = .ok (.bipush 38, 2) := by decide +kernel
theorem d117_123 : decode bM117 123 = .ok (.if_icmp .eq 9, 3) := by decide +kernel
theorem d117_126 : decode bM117 126 = .ok (.iload_n 1, 1) := by decide +kernel
theorem d117_127 : decode bM117 127 = .ok (.bipush 34, 2) := by decide +kernel
theorem d117_129 : decode bM117 129 = .ok (.if_icmp .ne 9, 3) := by decide +kernel
theorem d117_132 : decode bM117 132 = .ok (.aload_n 0, 1) := by decide +kernel
theorem d117_133 : decode bM117 133 = .ok (.bipush 59, 2) := by decide +kernel
theorem d117_135 : decode bM117 135 = .ok (.invokevirtual 397, 3) := by decide +kernel
theorem d117_138 : decode bM117 138 = .ok (.return_, 1) := by decide +kernel
theorem d118_0 : decode bM118 0 = .ok (.iconst 0, 1) := by decide +kernel
theorem d118_1 : decode bM118 1 = .ok (.istore_n 2, 1) := by decide +kernel
theorem d118_2 : decode bM118 2 = .ok (.iload_n 2, 1) := by decide +kernel
theorem d118_3 : decode bM118 3 = .ok (.aload_n 0, 1) := by decide +kernel
theorem d118_4 : decode bM118 4 = .ok (.iload_n 1, 1) := by decide +kernel
theorem d118_5 : decode bM118 5 = .ok (.iconst 3, 1) := by decide +kernel
theorem d118_6 : decode bM118 6 = .ok (.invokevirtual 123, 3) := by decide +kernel
theorem d118_9 : decode bM118 9 = .ok (.if_icmp .ge 22, 3) := by decide +kernel
theorem d118_12 : decode bM118 12 = .ok (.aload_n 0, 1) := by decide +kernel
theorem d118_13 : decode bM118 13 = .ok (.aload_n 0, 1) := by decide +kernel
theorem d118_14 : decode bM118 14 = .ok (.iload_n 1, 1) := by decide +kernel
theorem d118_15 : decode bM118 15 = .ok (.bipush 8, 2) := by decide +kernel
theorem d118_17 : decode bM118 17 = .ok (.iload_n 2, 1) := by decide +kernel
theorem d118_18 : decode bM118 18 = .ok (.iadd, 1) := by decide +kernel
theorem d118_19 : decode bM118 19 = .ok (.invokevirtual 123, 3) := by decide +kernel
theorem d118_22 : decode bM118 22 = .ok (.invokevirtual 397, 3) := by decide +kernel
theorem d118_25 : decode bM118 25 = .ok (.iinc 2 1, 3) := by decide +kernel
theorem d118_28 : decode bM118 28 = .ok (.goto (-26), 3) := by decide +kernel
theorem d118_31 : decode bM118 31 = .ok (.return_, 1) := by decide +kernel
theorem d119_0 : decode bM119 0 = .ok (.aload_n 0, 1) := by decide +kernel
theorem d119_1 : decode bM119 1 = .ok (.bipush 60, 2) := by decide +kernel
theorem d119_3 : decode bM119 3 = .ok (.invokevirtual 397, 3) := by decide +kernel
theorem d119_6 : decode bM119 6 = .ok (.aload_n 0, 1) := by decide +kernel
theorem d119_7 : decode bM119 7 = .ok (.iload_n 1, 1) := by decide +kernel
theorem d119_8 : decode bM119 8 = .ok (.invokevirtual 404, 3) := by decide +kernel
theorem d119_11 : decode bM119 11 = .ok (.iconst 0, 1) := by decide +kernel
theorem d119_12 : decode bM119 12 = .ok (.istore_n 2, 1) := by decide +kernel
theorem d119_13 : decode bM119 13 = .ok (.iload_n 2, 1) := by decide +kernel
theorem d119_14 : decode bM119 14 = .ok (.aload_n 0, 1) := by decide +kernel
theorem d119_15 : decode bM119 15 = .ok (.iload_n 1, 1) := by decide +kernel
theorem d119_16 : decode bM119 16 = .ok (.iconst 5, 1) := by decide +kernel
theorem d119_17 : decode bM119 17 = .ok (.invokevirtual 123, 3) := by decide +kernel
theorem d119_20 : decode bM119 20 = .ok (.if_icmp .ge 115, 3) := by decide +kernel
theorem d119_23 : decode bM119 23 = .ok (.bipush 44, 2) := by decide +kernel
theorem d119_25 : decode bM119 25 = .ok (.bipush 28, 2) := by decide +kernel
theorem d119_27 : decode bM119 27 = .ok (.iload_n 2, 1) := by decide +kernel
theorem d119_28 : decode bM119 28 = .ok (.imul, 1) := by decide +kernel
theorem d119_29 : decode bM119 29 = .ok (.iadd, 1) := by decide +kernel
theorem d119_30 : decode bM119 30 = .ok (.istore_n 3, 1) := by decide +kernel
theorem d119_31 : decode bM119 31 = .ok (.aload_n 0, 1) := by decide +kernel
theorem d119_32 : decode bM119 32 = .ok (.bipush 32, 2) := by decide +kernel
theorem d119_34 : decode bM119 34 = .ok (.invokevirtual 397, 3) := by decide +kernel
theorem d119_37 : decode bM119 37 = .ok (.iconst 0, 1) := by decide +kernel
theorem d119_38 : decode bM119 38 = .ok (.istore 4, 2) := by decide +kernel
theorem d119_40 : decode bM119 40 = .ok (.iload 4, 2) := by decide +kernel
theorem d119_42 : decode bM119 42 = .ok (.aload_n 0, 1) := by decide +kernel
theorem d119_43 : decode bM119 43 = .ok (.iload_n 1, 1) := by decide +kernel
theorem d119_44 : decode bM119 44 = .ok (.iload_n 3, 1) := by decide +kernel
theorem d119_45 : decode bM119 45 = .ok (.invokevirtual 123, 3) := by decide +kernel
theorem d119_48 : decode bM119 48 = .ok (.if_icmp .ge 24, 3) := by decide +kernel
theorem d119_51 : decode bM119 51 = .ok (.aload_n 0, 1) := by decide +kernel
theorem d119_52 : decode bM119 52 = .ok (.aload_n 0, 1) := by decide +kernel
theorem d119_53 : decode bM119 53 = .ok (.iload_n 1, 1) := by decide +kernel
theorem d119_54 : decode bM119 54 = .ok (.iload_n 3, 1) := by decide +kernel
theorem d119_55 : decode bM119 55 = .ok (.iconst 1, 1) := by decide +kernel
theorem d119_56 : decode bM119 56 = .ok (.iadd, 1) := by decide +kernel
theorem d119_57 : decode bM119 57 = .ok (.iload 4, 2) := by decide +kernel
theorem d119_59 : decode bM119 59 = .ok (.iadd, 1) := by decide +kernel
theorem d119_60 : decode bM119 60 = .ok (.invokevirtual 123, 3) := by decide +kernel
theorem d119_63 : decode bM119 63 = .ok (.invokevirtual 397, 3) := by decide +kernel
theorem d119_66 : decode bM119 66 = .ok (.iinc 4 1, 3) := by decide +kernel
theorem d119_69 : decode bM119 69 = .ok (.goto (-29), 3) := by decide +kernel
theorem d119_72 : decode bM119 72 = .ok (.aload_n 0, 1) := by decide +kernel
theorem d119_73 : decode bM119 73 = .ok (.bipush 61, 2) := by decide +kernel
theorem d119_75 : decode bM119 75 = .ok (.bipush 34, 2) := by decide +kernel
theorem d119_77 : decode bM119 77 = .ok (.iconst 0, 1) := by decide +kernel
theorem d119_78 : decode bM119 78 = .ok (.iconst 0, 1) := by decide +kernel
theorem d119_79 : decode bM119 79 = .ok (.invokevirtual 400, 3) := by decide +kernel
theorem d119_82 : decode bM119 82 = .ok (.iconst 0, 1) := by decide +kernel
theorem d119_83 : decode bM119 83 = .ok (.istore 4, 2) := by decide +kernel
theorem d119_85 : decode bM119 85 = .ok (.iload 4, 2) := by decide +kernel
theorem d119_87 : decode bM119 87 = .ok (.aload_n 0, 1) := by decide +kernel
theorem d119_88 : decode bM119 88 = .ok (.iload_n 1, 1) := by decide +kernel
theorem d119_89 : decode bM119 89 = .ok (.iload_n 3, 1) := by decide +kernel
theorem d119_90 : decode bM119 90 = .ok (.bipush 7, 2) := by decide +kernel
theorem d119_92 : decode bM119 92 = .ok (.iadd, 1) := by decide +kernel
theorem d119_93 : decode bM119 93 = .ok (.invokevirtual 123, 3) := by decide +kernel
theorem d119_96 : decode bM119 96 = .ok (.if_icmp .ge 27, 3) := by decide +kernel
theorem d119_99 : decode bM119 99 = .ok (.aload_n 0, 1) := by decide +kernel
theorem d119_100 : decode bM119 100 = .ok (.aload_n 0, 1) := by decide +kernel
theorem d119_101 : decode bM119 101 = .ok (.iload_n 1, 1) := by decide +kernel
theorem d119_102 : decode bM119 102 = .ok (.iload_n 3, 1) := by decide +kernel
theorem d119_103 : decode bM119 103 = .ok (.bipush 8, 2) := by decide +kernel
theorem d119_105 : decode bM119 105 = .ok (.iadd, 1) := by decide +kernel
theorem d119_106 : decode bM119 106 = .ok (.iload 4, 2) := by decide +kernel
theorem d119_108 : decode bM119 108 = .ok (.iadd, 1) := by decide +kernel
theorem d119_109 : decode bM119 109 = .ok (.invokevirtual 123, 3) := by decide +kernel
theorem d119_112 : decode bM119 112 = .ok (.bipush 34, 2) := by decide +kernel
theorem d119_114 : decode bM119 114 = .ok (.invokevirtual 407, 3) := by decide +kernel
theorem d119_117 : decode bM119 117 = .ok (.iinc 4 1, 3) := by decide +kernel
theorem d119_120 : decode bM119 120 = .ok (.goto (-35), 3) := by decide +kernel
theorem d119_123 : decode bM119 123 = .ok (.aload_n 0, 1) := by decide +kernel
theorem d119_124 : decode bM119 124 = .ok (.bipush 34, 2) := by decide +kernel
theorem d119_126 : decode bM119 126 = .ok (.invokevirtual 397, 3) := by decide +kernel
theorem d119_129 : decode bM119 129 = .ok (.iinc 2 1, 3) := by decide +kernel
theorem d119_132 : decode bM119 132 = .ok (.goto (-119), 3) := by decide +kernel
theorem d119_135 : decode bM119 135 = .ok (.return_, 1) := by decide +kernel
theorem d120_0 : decode bM120 0 = .ok (.aload_n 0, 1) := by decide +kernel
theorem d120_1 : decode bM120 1 = .ok (.bipush 60, 2) := by decide +kernel
theorem d120_3 : decode bM120 3 = .ok (.bipush 33, 2) := by decide +kernel
theorem d120_5 : decode bM120 5 = .ok (.bipush 45, 2) := by decide +kernel
theorem d120_7 : decode bM120 7 = .ok (.bipush 45, 2) := by decide +kernel
theorem d120_9 : decode bM120 9 = .ok (.invokevirtual 400, 3) := by decide +kernel
theorem d120_12 : decode bM120 12 = .ok (.aload_n 0, 1) := by decide +kernel
theorem d120_13 : decode bM120 13 = .ok (.iload_n 1, 1) := by decide +kernel
theorem d120_14 : decode bM120 14 = .ok (.invokevirtual 404, 3) := by decide +kernel
theorem d120_17 : decode bM120 17 = .ok (.aload_n 0, 1) := by decide +kernel
theorem d120_18 : decode bM120 18 = .ok (.bipush 45, 2) := by decide +kernel
theorem d120_20 : decode bM120 20 = .ok (.bipush 45, 2) := by decide +kernel
theorem d120_22 : decode bM120 22 = .ok (.bipush 62, 2) := by decide +kernel
theorem d120_24 : decode bM120 24 = .ok (.iconst 0, 1) := by decide +kernel
theorem d120_25 : decode bM120 25 = .ok (.invokevirtual 400, 3) := by decide +kernel
theorem d120_28 : decode bM120 28 = .ok (.return_, 1) := by decide +kernel
theorem d121_0 : decode bM121 0 = .ok (.aload_n 0, 1) := by decide +kernel
theorem d121_1 : decode bM121 1 = .ok (.iload_n 1, 1) := by decide +kernel
theorem d121_2 : decode bM121 2 = .ok (.putfield 391, 3) := by decide +kernel
theorem d121_5 : decode bM121 5 = .ok (.aload_n 0, 1) := by decide +kernel
theorem d121_6 : decode bM121 6 = .ok (.iconst 0, 1) := by decide +kernel
theorem d121_7 : decode bM121 7 = .ok (.putfield 388, 3) := by decide +kernel
theorem d121_10 : decode bM121 10 = .ok (.aload_n 0, 1) := by decide +kernel
theorem d121_11 : decode bM121 11 = .ok (.iconst 0, 1) := by decide +kernel
theorem d121_12 : decode bM121 12 = .ok (.putfield 394, 3) := by decide +kernel
theorem d121_15 : decode bM121 15 = .ok (.iconst 0, 1) := by decide +kernel
theorem d121_16 : decode bM121 16 = .ok (.istore_n 2, 1) := by decide +kernel
theorem d121_17 : decode bM121 17 = .ok (.iload_n 2, 1) := by decide +kernel
theorem d121_18 : decode bM121 18 = .ok (.aload_n 0, 1) := by decide +kernel
theorem d121_19 : decode bM121 19 = .ok (.invokevirtual 115, 3) := by decide +kernel
theorem d121_22 : decode bM121 22 = .ok (.if_icmp .ge 197, 3) := by decide +kernel
theorem d121_25 : decode bM121 25 = .ok (.aload_n 0, 1) := by decide +kernel
theorem d121_26 : decode bM121 26 = .ok (.iload_n 2, 1) := by decide +kernel
theorem d121_27 : decode bM121 27 = .ok (.invokevirtual 119, 3) := by decide +kernel
theorem d121_30 : decode bM121 30 = .ok (.istore_n 3, 1) := by decide +kernel
theorem d121_31 : decode bM121 31 = .ok (.aload_n 0, 1) := by decide +kernel
theorem d121_32 : decode bM121 32 = .ok (.iload_n 2, 1) := by decide +kernel
theorem d121_33 : decode bM121 33 = .ok (.invokevirtual 272, 3) := by decide +kernel
theorem d121_36 : decode bM121 36 = .ok (.iload_n 2, 1) := by decide +kernel
theorem d121_37 : decode bM121 37 = .ok (.iconst 1, 1) := by decide +kernel
theorem d121_38 : decode bM121 38 = .ok (.iadd, 1) := by decide +kernel
theorem d121_39 : decode bM121 39 = .ok (.if_icmp .ne 7, 3) := by decide +kernel
theorem d121_42 : decode bM121 42 = .ok (.iconst 1, 1) := by decide +kernel
theorem d121_43 : decode bM121 43 = .ok (.goto 4, 3) := by decide +kernel
theorem d121_46 : decode bM121 46 = .ok (.iconst 0, 1) := by decide +kernel
theorem d121_47 : decode bM121 47 = .ok (.istore 4, 2) := by decide +kernel
theorem d121_49 : decode bM121 49 = .ok (.aload_n 0, 1) := by decide +kernel
theorem d121_50 : decode bM121 50 = .ok (.iload_n 3, 1) := by decide +kernel
theorem d121_51 : decode bM121 51 = .ok (.iconst 1, 1) := by decide +kernel
theorem d121_52 : decode bM121 52 = .ok (.invokevirtual 123, 3) := by decide +kernel
theorem d121_55 : decode bM121 55 = .ok (.iconst 1, 1) := by decide +kernel
theorem d121_56 : decode bM121 56 = .ok (.if_icmp .ne 28, 3) := by decide +kernel
theorem d121_59 : decode bM121 59 = .ok (.aload_n 0, 1) := by decide +kernel
theorem d121_60 : decode bM121 60 = .ok (.iload_n 3, 1) := by decide +kernel
theorem d121_61 : decode bM121 61 = .ok (.invokevirtual 411, 3) := by decide +kernel
theorem d121_64 : decode bM121 64 = .ok (.iload 4, 2) := by decide +kernel
theorem d121_66 : decode bM121 66 = .ok (.ifCond .eq 9, 3) := by decide +kernel
theorem d121_69 : decode bM121 69 = .ok (.aload_n 0, 1) := by decide +kernel
theorem d121_70 : decode bM121 70 = .ok (.bipush 47, 2) := by decide +kernel
theorem d121_72 : decode bM121 72 = .ok (.invokevirtual 397, 3) := by decide +kernel
theorem d121_75 : decode bM121 75 = .ok (.aload_n 0, 1) := by decide +kernel
theorem d121_76 : decode bM121 76 = .ok (.bipush 62, 2) := by decide +kernel
theorem d121_78 : decode bM121 78 = .ok (.invokevirtual 397, 3) := by decide +kernel
theorem d121_81 : decode bM121 81 = .ok (.goto 18, 3) := by decide +kernel
theorem d121_84 : decode bM121 84 = .ok (.aload_n 0, 1) := by decide +kernel
theorem d121_85 : decode bM121 85 = .ok (.iload_n 3, 1) := by decide +kernel
theorem d121_86 : decode bM121 86 = .ok (.iconst 1, 1) := by decide +kernel
theorem d121_87 : decode bM121 87 = .ok (.invokevirtual 123, 3) := by decide +kernel
theorem d121_90 : decode bM121 90 = .ok (.iconst 3, 1) := by decide +kernel
theorem d121_91 : decode bM121 91 = .ok (.if_icmp .ne 8, 3) := by decide +kernel
theorem d121_94 : decode bM121 94 = .ok (.aload_n 0, 1) := by decide +kernel
theorem d121_95 : decode bM121 95 = .ok (.iload_n 3, 1) := by decide +kernel
theorem d121_96 : decode bM121 96 = .ok (.invokevirtual 414, 3) := by decide +kernel
theorem d121_99 : decode bM121 99 = .ok (.iconst 0, 1) := by decide +kernel
theorem d121_100 : decode bM121 100 = .ok (.istore 5, 2) := by decide +kernel
theorem d121_102 : decode bM121 102 = .ok (.iload 5, 2) := by decide +kernel
theorem d121_104 : decode bM121 104 = .ok (.aload_n 0, 1) := by decide +kernel
theorem d121_105 : decode bM121 105 = .ok (.iload_n 3, 1) := by decide +kernel
theorem d121_106 : decode bM121 106 = .ok (.iconst 3, 1) := by decide +kernel
theorem d121_107 : decode bM121 107 = .ok (.invokevirtual 123, 3) := by decide +kernel
theorem d121_110 : decode bM121 110 = .ok (.if_icmp .ge 35, 3) := by decide +kernel
theorem d121_113 : decode bM121 113 = .ok (.aload_n 0, 1) := by decide +kernel
theorem d121_114 : decode bM121 114 = .ok (.iload_n 3, 1) := by decide +kernel
theorem d121_115 : decode bM121 115 = .ok (.iconst 1, 1) := by decide +kernel
theorem d121_116 : decode bM121 116 = .ok (.invokevirtual 123, 3) := by decide +kernel
theorem d121_119 : decode bM121 119 = .ok (.iconst 2, 1) := by decide +kernel
theorem d121_120 : decode bM121 120 = .ok (.if_icmp .ne 25, 3) := by decide +kernel
theorem d121_123 : decode bM121 123 = .ok (.aload_n 0, 1) := by decide +kernel
theorem d121_124 : decode bM121 124 = .ok (.aload_n 0, 1) := by decide +kernel
theorem d121_125 : decode bM121 125 = .ok (.iload_n 3, 1) := by decide +kernel
theorem d121_126 : decode bM121 126 = .ok (.bipush 8, 2) := by decide +kernel
theorem d121_128 : decode bM121 128 = .ok (.iload 5, 2) := by decide +kernel
theorem d121_130 : decode bM121 130 = .ok (.iadd, 1) := by decide +kernel
theorem d121_131 : decode bM121 131 = .ok (.invokevirtual 123, 3) := by decide +kernel
theorem d121_134 : decode bM121 134 = .ok (.bipush 62, 2) := by decide +kernel
theorem d121_136 : decode bM121 136 = .ok (.invokevirtual 407, 3) := by decide +kernel
theorem d121_139 : decode bM121 139 = .ok (.iinc 5 1, 3) := by decide +kernel
theorem d121_142 : decode bM121 142 = .ok (.goto (-40), 3) := by decide +kernel
theorem d121_145 : decode bM121 145 = .ok (.aload_n 0, 1) := by decide +kernel
theorem d121_146 : decode bM121 146 = .ok (.iload_n 3, 1) := by decide +kernel
theorem d121_147 : decode bM121 147 = .ok (.iconst 2, 1) := by decide +kernel
theorem d121_148 : decode bM121 148 = .ok (.invokevirtual 123, 3) := by decide +kernel
theorem d121_151 : decode bM121 151 = .ok (.istore 5, 2) := by decide +kernel
theorem d121_153 : decode bM121 153 = .ok (.iload 5, 2) := by decide +kernel
theorem d121_155 : decode bM121 155 = .ok (.ifCond .lt 58, 3) := by decide +kernel
theorem d121_158 : decode bM121 158 = .ok (.iload 4, 2) := by decide +kernel
theorem d121_160 : decode bM121 160 = .ok (.ifCond .eq 53, 3) := by decide +kernel
theorem d121_163 : decode bM121 163 = .ok (.aload_n 0, 1) := by decide +kernel
theorem d121_164 : decode bM121 164 = .ok (.aload_n 0, 1) := by decide +kernel
theorem d121_165 : decode bM121 165 = .ok (.iload 5, 2) := by decide +kernel
theorem d121_167 : decode bM121 167 = .ok (.invokevirtual 130, 3) := by decide +kernel
theorem d121_170 : decode bM121 170 = .ok (.invokevirtual 272, 3) := by decide +kernel
theorem d121_173 : decode bM121 173 = .ok (.iload_n 2, 1) := by decide +kernel
theorem d121_174 : decode bM121 174 = .ok (.iconst 1, 1) := by decide +kernel
theorem d121_175 : decode bM121 175 = .ok (.iadd, 1) := by decide +kernel
theorem d121_176 : decode bM121 176 = .ok (.if_icmp .ne 37, 3) := by decide +kernel
theorem d121_179 : decode bM121 179 = .ok (.aload_n 0, 1) := by decide +kernel
theorem d121_180 : decode bM121 180 = .ok (.bipush 60, 2) := by decide +kernel
theorem d121_182 : decode bM121 182 = .ok (.bipush 47, 2) := by decide +kernel
theorem d121_184 : decode bM121 184 = .ok (.iconst 0, 1) := by decide +kernel
theorem d121_185 : decode bM121 185 = .ok (.iconst 0, 1) := by decide +kernel
theorem d121_186 : decode bM121 186 = .ok (.invokevirtual 400, 3) := by decide +kernel
theorem d121_189 : decode bM121 189 = .ok (.aload_n 0, 1) := by decide +kernel
theorem d121_190 : decode bM121 190 = .ok (.iload 5, 2) := by decide +kernel
theorem d121_192 : decode bM121 192 = .ok (.invokevirtual 404, 3) := by decide +kernel
theorem d121_195 : decode bM121 195 = .ok (.aload_n 0, 1) := by decide +kernel
theorem d121_196 : decode bM121 196 = .ok (.bipush 62, 2) := by decide +kernel
theorem d121_198 : decode bM121 198 = .ok (.invokevirtual 397, 3) := by decide +kernel
theorem d121_201 : decode bM121 201 = .ok (.aload_n 0, 1) := by decide +kernel
theorem d121_202 : decode bM121 202 = .ok (.iload 5, 2) := by decide +kernel
theorem d121_204 : decode bM121 204 = .ok (.iconst 2, 1) := by decide +kernel
theorem d121_205 : decode bM121 205 = .ok (.invokevirtual 123, 3) := by decide +kernel
theorem d121_208 : decode bM121 208 = .ok (.istore 5, 2) := by decide +kernel
theorem d121_210 : decode bM121 210 = .ok (.goto (-57), 3) := by decide +kernel
theorem d121_213 : decode bM121 213 = .ok (.iinc 2 1, 3) := by decide +kernel
theorem d121_216 : decode bM121 216 = .ok (.goto (-199), 3) := by decide +kernel
theorem d121_219 : decode bM121 219 = .ok (.return_, 1) := by decide +kernel
theorem d122_0 : decode bM122 0 = .ok (.aload_n 0, 1) := by decide +kernel
theorem d122_1 : decode bM122 1 = .ok (.iconst (-1), 1) := by decide +kernel
theorem d122_2 : decode bM122 2 = .ok (.invokevirtual 417, 3) := by decide +kernel
theorem d122_5 : decode bM122 5 = .ok (.aload_n 0, 1) := by decide +kernel
theorem d122_6 : decode bM122 6 = .ok (.getfield 388, 3) := by decide +kernel
theorem d122_9 : decode bM122 9 = .ok (.ireturn, 1) := by decide +kernel
theorem d123_0 : decode bM123 0 = .ok (.aload_n 0, 1) := by decide +kernel
theorem d123_1 : decode bM123 1 = .ok (.iload_n 1, 1) := by decide +kernel
theorem d123_2 : decode bM123 2 = .ok (.invokevirtual 417, 3) := by decide +kernel
theorem d123_5 : decode bM123 5 = .ok (.aload_n 0, 1) := by decide +kernel
theorem d123_6 : decode bM123 6 = .ok (.getfield 394, 3) := by decide +kernel
theorem d123_9 : decode bM123 9 = .ok (.ireturn, 1) := by decide +kernel
def g_label_24 (st : mT) : Option (Int32 × mT) := (some (0, st))
def g_label (y1 : Int32) (y2 : Int32) (st : mT) : Option (Int32 × mT) := ((g_place y1 st).bind (fun q1 => (if q1.1 < 0 then (g_label_24 q1.2) else (if y2 < 0 then (g_label_24 q1.2) else ((g_f q1.1 4 q1.2).bind (fun q2 => (if y2 < q2.1 then ((g_f q1.1 (28 + y2) q2.2).bind (fun q3 => (some (q3.1, q3.2)))) else (g_label_24 q2.2))))))))
set_option maxRecDepth 100000 in
set_option maxHeartbeats 8000000 in
theorem cm_label (l : Launch) (D : va_G) (dA : Nat → ClassId) (s0 : State) (hE : ms_EV D dA s0) (h0 : hm_T) (r : Nat) (M : Nat → Nat) (hM : mm_ok r M) (z0 : hz_T) (y1 : Int32) (y2 : Int32) (st : mT) (q : Int32 × mT) (hg : g_label y1 y2 st = some q) : ht_C l D s0 yM112 bM112 4 (Option.some Jvm.ClassFile.FieldType.int) 2 44 0 0 [.ref r, .int y1, .int y2] (fun h z => h = mm_h dA h0 r M st ∧ z = z0) (fun h z vv h1 z1 => vv = some (.int q.1) ∧ h1 = mm_h dA h0 r M q.2 ∧ z1 = z0) := by
  refine ht_C.mk hE.1 (by decide) (Nat.le_of_ble_eq_true rfl) [(0, .ref r), (1, .int y1), (2, .int y2)] rfl ?_
  intro p e s m below meth c ls h z X hin hpre I hl
  have hx := X.1
  have hb := X.2.1
  have hml := X.2.2.1
  have hown : s.vm.findClass "MarkupStoreModel" = some m.cls := X.2.2.2.1
  have hts := X.2.2.2.2.2.2.1
  have hK := X.2.2.2.2.2.2.2.2.1
  rw [hpre.1, hpre.2] at I
  clear hpre
  have b24 : ∀ (ls : Array Slot) (st : mT) (H : Heap) (locs : List Loc), g_label_24 st = some q → lv_has ls 4 [] → hm_I D s0 s (mm_h dA h0 r M st) z0 H locs → W p l e { frames := 2, cells := 0, slots := 0, locals := 44 } s m ([.ref r, .int y1, .int y2] : List Value).toArray below meth c H locs 0 0 (MQ below (ht_Q D s0 (fun vv h1 z1 => vv = some (.int q.1) ∧ h1 = mm_h dA h0 r M q.2 ∧ z1 = z0)) ([.ref r, .int y1, .int y2] : List Value).toArray s 0 0 (fun q => s0.heap.size ≤ q)) (F0 m 24 ls []) := by
    intro ls st H locs hF hl I
    unfold g_label_24 at hF
    refine lv_iconst (v := 0) hx hb d112_24 (by decide) ?_
    refine lv_goto hx hb d112_25 rfl ?_
    exact ht_iret X d112_37 I (Nat.le_of_ble_eq_true rfl) (Nat.le_of_ble_eq_true rfl) (mm_fin hF)
  have hF := hg
  unfold g_label at hF
  refine lv_aload_n hx hb d112_0 rfl (lv_at hl 0 rfl) ?_
  refine lv_iload_n hx hb d112_1 rfl (lv_at hl 1 rfl) ?_
  obtain ⟨q1, e9, hF⟩ := mm_bd hF
  refine ht_V (C := "MarkupStoreModel") (rest := []) (as := [.int y1]) X hl (cm_place l D dA s0 hE h0 r M hM z0 y1 st q1 e9) (List.forall_mem_cons.mpr ⟨ms_k1603, List.forall_mem_cons.mpr ⟨ms_k1605, List.forall_mem_cons.mpr ⟨ms_p66, List.forall_mem_cons.mpr ⟨ms_k7, List.forall_mem_cons.mpr ⟨ms_k1606, fun _ h => absurd h List.not_mem_nil⟩⟩⟩⟩⟩) ⟨rfl, by decide +kernel, by decide +kernel, (by decide +kernel : (parseMethodDescriptor "(I)I").map (fun d => d.parameters.length) = some 1)⟩ (hm_recv hK I rfl mm_hr) I ⟨rfl, rfl⟩ ⟨⟨Nat.le_of_ble_eq_true rfl, Nat.le_of_ble_eq_true rfl⟩, Nat.le_of_ble_eq_true rfl, Nat.le_of_ble_eq_true rfl⟩ rfl (Nat.le_of_ble_eq_true rfl) d112_2 (fun vv h1 z1 H locs hR I9 => ?_)
  obtain ⟨e1, e2, e3⟩ := hR
  rw [e2, e3] at I9
  clear I e2 e3 e9
  have I := I9
  clear I9
  subst e1
  refine W.eq (g2 := F0 m 5 ls [.int q1.1]) rfl ?_
  refine lv_istore_n hx hb d112_5 rfl hl (by decide) rfl (fun ls hl => ?_)
  have hl : lv_has ls 4 [(3, .int q1.1), (0, .ref r), (1, .int y1), (2, .int y2)] := hl
  refine lv_iload_n hx hb d112_6 rfl (lv_at hl 0 rfl) ?_
  refine lv_if_lt hx hb d112_7 rfl (fun h9 => ?_) (fun h9 => ?_)
  · have hF := (if_pos h9).symm.trans hF
    exact b24 ls q1.2 _ _ hF (hl.sub [] rfl) I
  · have hF := (if_neg h9).symm.trans hF
    refine lv_iload_n hx hb d112_10 rfl (lv_at hl 3 rfl) ?_
    refine lv_if_lt hx hb d112_11 rfl (fun h9 => ?_) (fun h9 => ?_)
    · have hF := (if_pos h9).symm.trans hF
      exact b24 ls q1.2 _ _ hF (hl.sub [] rfl) I
    · have hF := (if_neg h9).symm.trans hF
      refine lv_iload_n hx hb d112_14 rfl (lv_at hl 3 rfl) ?_
      refine lv_aload_n hx hb d112_15 rfl (lv_at hl 1 rfl) ?_
      refine lv_iload_n hx hb d112_16 rfl (lv_at hl 0 rfl) ?_
      refine lv_iconst (v := 4) hx hb d112_17 (by decide) ?_
      obtain ⟨q2, e9, hF⟩ := mm_bd hF
      refine ht_V (C := "MarkupStoreModel") (rest := [.int y2]) (as := [.int q1.1, .int 4]) X hl (cm_f l D dA s0 hE h0 r M hM z0 q1.1 4 q1.2 q2 e9) (List.forall_mem_cons.mpr ⟨ms_k1587, List.forall_mem_cons.mpr ⟨ms_k1589, List.forall_mem_cons.mpr ⟨ms_p63, List.forall_mem_cons.mpr ⟨ms_k7, List.forall_mem_cons.mpr ⟨ms_k1590, fun _ h => absurd h List.not_mem_nil⟩⟩⟩⟩⟩) ⟨rfl, by decide +kernel, by decide +kernel, (by decide +kernel : (parseMethodDescriptor "(II)I").map (fun d => d.parameters.length) = some 2)⟩ (hm_recv hK I rfl mm_hr) I ⟨rfl, rfl⟩ ⟨⟨Nat.le_of_ble_eq_true rfl, Nat.le_of_ble_eq_true rfl⟩, Nat.le_of_ble_eq_true rfl, Nat.le_of_ble_eq_true rfl⟩ rfl (Nat.le_of_ble_eq_true rfl) d112_18 (fun vv h1 z1 H locs hR I9 => ?_)
      obtain ⟨e1, e2, e3⟩ := hR
      rw [e2, e3] at I9
      clear I e2 e3 e9
      have I := I9
      clear I9
      subst e1
      refine W.eq (g2 := F0 m 21 ls [.int q2.1, .int y2]) rfl ?_
      refine lv_icmp_lt hx hb d112_21 rfl (fun h9 => ?_) (fun h9 => ?_)
      · have hF := (if_pos h9).symm.trans hF
        refine lv_aload_n hx hb d112_28 rfl (lv_at hl 1 rfl) ?_
        refine lv_iload_n hx hb d112_29 rfl (lv_at hl 0 rfl) ?_
        refine lv_bipush (v := 28) hx hb d112_30 (by decide) ?_
        refine lv_iload_n hx hb d112_32 rfl (lv_at hl 3 rfl) ?_
        refine lv_iadd hx hb d112_33 ?_
        obtain ⟨q3, e9, hF⟩ := mm_bd hF
        refine ht_V (C := "MarkupStoreModel") (rest := []) (as := [.int q1.1, .int (28 + y2)]) X hl (cm_f l D dA s0 hE h0 r M hM z0 q1.1 (28 + y2) q2.2 q3 e9) (List.forall_mem_cons.mpr ⟨ms_k1587, List.forall_mem_cons.mpr ⟨ms_k1589, List.forall_mem_cons.mpr ⟨ms_p63, List.forall_mem_cons.mpr ⟨ms_k7, List.forall_mem_cons.mpr ⟨ms_k1590, fun _ h => absurd h List.not_mem_nil⟩⟩⟩⟩⟩) ⟨rfl, by decide +kernel, by decide +kernel, (by decide +kernel : (parseMethodDescriptor "(II)I").map (fun d => d.parameters.length) = some 2)⟩ (hm_recv hK I rfl mm_hr) I ⟨rfl, rfl⟩ ⟨⟨Nat.le_of_ble_eq_true rfl, Nat.le_of_ble_eq_true rfl⟩, Nat.le_of_ble_eq_true rfl, Nat.le_of_ble_eq_true rfl⟩ rfl (Nat.le_of_ble_eq_true rfl) d112_34 (fun vv h1 z1 H locs hR I9 => ?_)
        obtain ⟨e1, e2, e3⟩ := hR
        rw [e2, e3] at I9
        clear I e2 e3 e9
        have I := I9
        clear I9
        subst e1
        refine W.eq (g2 := F0 m 37 ls [.int q3.1]) rfl ?_
        exact ht_iret X d112_37 I (Nat.le_of_ble_eq_true rfl) (Nat.le_of_ble_eq_true rfl) (mm_fin hF)
      · have hF := (if_neg h9).symm.trans hF
        exact b24 ls q2.2 _ _ hF (hl.sub [] rfl) I

def g_root (st : mT) : Option (Int32 × mT) := ((g_count st).bind (fun q1 => (if q1.1 = 0 then (some ((-1000), q1.2)) else ((g_doc 0 q1.2).bind (fun q2 => ((g_f q2.1 0 q2.2).bind (fun q3 => (some ((q3.1 - 1), q3.2)))))))))
set_option maxRecDepth 100000 in
set_option maxHeartbeats 8000000 in
theorem cm_root (l : Launch) (D : va_G) (dA : Nat → ClassId) (s0 : State) (hE : ms_EV D dA s0) (h0 : hm_T) (r : Nat) (M : Nat → Nat) (hM : mm_ok r M) (z0 : hz_T) (st : mT) (q : Int32 × mT) (hg : g_root st = some q) : ht_C l D s0 yM113 bM113 1 (Option.some Jvm.ClassFile.FieldType.int) 1 22 0 0 [.ref r] (fun h z => h = mm_h dA h0 r M st ∧ z = z0) (fun h z vv h1 z1 => vv = some (.int q.1) ∧ h1 = mm_h dA h0 r M q.2 ∧ z1 = z0) := by
  refine ht_C.mk hE.1 (by decide) (Nat.le_of_ble_eq_true rfl) [(0, .ref r)] rfl ?_
  intro p e s m below meth c ls h z X hin hpre I hl
  have hx := X.1
  have hb := X.2.1
  have hml := X.2.2.1
  have hown : s.vm.findClass "MarkupStoreModel" = some m.cls := X.2.2.2.1
  have hts := X.2.2.2.2.2.2.1
  have hK := X.2.2.2.2.2.2.2.2.1
  rw [hpre.1, hpre.2] at I
  clear hpre
  have hF := hg
  unfold g_root at hF
  refine lv_aload_n hx hb d113_0 rfl (lv_at hl 0 rfl) ?_
  obtain ⟨q1, e9, hF⟩ := mm_bd hF
  refine ht_V (C := "MarkupStoreModel") (rest := []) (as := []) X hl (cm_count l D dA s0 hE h0 r M hM z0 st q1 e9) (List.forall_mem_cons.mpr ⟨ms_k1583, List.forall_mem_cons.mpr ⟨ms_k1585, List.forall_mem_cons.mpr ⟨ms_p62, List.forall_mem_cons.mpr ⟨ms_k7, List.forall_mem_cons.mpr ⟨ms_k1586, fun _ h => absurd h List.not_mem_nil⟩⟩⟩⟩⟩) ⟨rfl, by decide +kernel, by decide +kernel, (by decide +kernel : (parseMethodDescriptor "()I").map (fun d => d.parameters.length) = some 0)⟩ (hm_recv hK I rfl mm_hr) I ⟨rfl, rfl⟩ ⟨⟨Nat.le_of_ble_eq_true rfl, Nat.le_of_ble_eq_true rfl⟩, Nat.le_of_ble_eq_true rfl, Nat.le_of_ble_eq_true rfl⟩ rfl (Nat.le_of_ble_eq_true rfl) d113_1 (fun vv h1 z1 H locs hR I9 => ?_)
  obtain ⟨e1, e2, e3⟩ := hR
  rw [e2, e3] at I9
  clear I e2 e3 e9
  have I := I9
  clear I9
  subst e1
  refine W.eq (g2 := F0 m 4 ls [.int q1.1]) rfl ?_
  refine lv_if_ne hx hb d113_4 rfl (fun h9 => ?_) (fun h9 => ?_)
  · have hF := (if_neg h9).symm.trans hF
    refine lv_aload_n hx hb d113_13 rfl (lv_at hl 0 rfl) ?_
    refine lv_aload_n hx hb d113_14 rfl (lv_at hl 0 rfl) ?_
    refine lv_iconst (v := 0) hx hb d113_15 (by decide) ?_
    obtain ⟨q2, e9, hF⟩ := mm_bd hF
    refine ht_V (C := "MarkupStoreModel") (rest := [.ref r]) (as := [.int 0]) X hl (cm_doc l D dA s0 hE h0 r M hM z0 0 q1.2 q2 e9) (List.forall_mem_cons.mpr ⟨ms_k1607, List.forall_mem_cons.mpr ⟨ms_k1609, List.forall_mem_cons.mpr ⟨ms_p67, List.forall_mem_cons.mpr ⟨ms_k7, List.forall_mem_cons.mpr ⟨ms_k1610, fun _ h => absurd h List.not_mem_nil⟩⟩⟩⟩⟩) ⟨rfl, by decide +kernel, by decide +kernel, (by decide +kernel : (parseMethodDescriptor "(I)I").map (fun d => d.parameters.length) = some 1)⟩ (hm_recv hK I rfl mm_hr) I ⟨rfl, rfl⟩ ⟨⟨Nat.le_of_ble_eq_true rfl, Nat.le_of_ble_eq_true rfl⟩, Nat.le_of_ble_eq_true rfl, Nat.le_of_ble_eq_true rfl⟩ rfl (Nat.le_of_ble_eq_true rfl) d113_16 (fun vv h1 z1 H locs hR I9 => ?_)
    obtain ⟨e1, e2, e3⟩ := hR
    rw [e2, e3] at I9
    clear I e2 e3 e9
    have I := I9
    clear I9
    subst e1
    refine W.eq (g2 := F0 m 19 ls [.int q2.1, .ref r]) rfl ?_
    refine lv_iconst (v := 0) hx hb d113_19 (by decide) ?_
    obtain ⟨q3, e9, hF⟩ := mm_bd hF
    refine ht_V (C := "MarkupStoreModel") (rest := []) (as := [.int q2.1, .int 0]) X hl (cm_f l D dA s0 hE h0 r M hM z0 q2.1 0 q2.2 q3 e9) (List.forall_mem_cons.mpr ⟨ms_k1587, List.forall_mem_cons.mpr ⟨ms_k1589, List.forall_mem_cons.mpr ⟨ms_p63, List.forall_mem_cons.mpr ⟨ms_k7, List.forall_mem_cons.mpr ⟨ms_k1590, fun _ h => absurd h List.not_mem_nil⟩⟩⟩⟩⟩) ⟨rfl, by decide +kernel, by decide +kernel, (by decide +kernel : (parseMethodDescriptor "(II)I").map (fun d => d.parameters.length) = some 2)⟩ (hm_recv hK I rfl mm_hr) I ⟨rfl, rfl⟩ ⟨⟨Nat.le_of_ble_eq_true rfl, Nat.le_of_ble_eq_true rfl⟩, Nat.le_of_ble_eq_true rfl, Nat.le_of_ble_eq_true rfl⟩ rfl (Nat.le_of_ble_eq_true rfl) d113_20 (fun vv h1 z1 H locs hR I9 => ?_)
    obtain ⟨e1, e2, e3⟩ := hR
    rw [e2, e3] at I9
    clear I e2 e3 e9
    have I := I9
    clear I9
    subst e1
    refine W.eq (g2 := F0 m 23 ls [.int q3.1]) rfl ?_
    refine lv_iconst (v := 1) hx hb d113_23 (by decide) ?_
    refine lv_isub hx hb d113_24 ?_
    exact ht_iret X d113_25 I (Nat.le_of_ble_eq_true rfl) (Nat.le_of_ble_eq_true rfl) (mm_fin hF)
  · have hF := (if_pos h9).symm.trans hF
    refine lv_sipush (v := (-1000)) hx hb d113_7 (by decide) ?_
    refine lv_goto hx hb d113_10 rfl ?_
    exact ht_iret X d113_25 I (Nat.le_of_ble_eq_true rfl) (Nat.le_of_ble_eq_true rfl) (mm_fin hF)

def g_nodes (st : mT) : Option (Int32 × mT) := ((g_count st).bind (fun q1 => (some (q1.1, q1.2))))
set_option maxRecDepth 100000 in
set_option maxHeartbeats 8000000 in
theorem cm_nodes (l : Launch) (D : va_G) (dA : Nat → ClassId) (s0 : State) (hE : ms_EV D dA s0) (h0 : hm_T) (r : Nat) (M : Nat → Nat) (hM : mm_ok r M) (z0 : hz_T) (st : mT) (q : Int32 × mT) (hg : g_nodes st = some q) : ht_C l D s0 yM114 bM114 1 (Option.some Jvm.ClassFile.FieldType.int) 1 20 0 0 [.ref r] (fun h z => h = mm_h dA h0 r M st ∧ z = z0) (fun h z vv h1 z1 => vv = some (.int q.1) ∧ h1 = mm_h dA h0 r M q.2 ∧ z1 = z0) := by
  refine ht_C.mk hE.1 (by decide) (Nat.le_of_ble_eq_true rfl) [(0, .ref r)] rfl ?_
  intro p e s m below meth c ls h z X hin hpre I hl
  have hx := X.1
  have hb := X.2.1
  have hml := X.2.2.1
  have hown : s.vm.findClass "MarkupStoreModel" = some m.cls := X.2.2.2.1
  have hts := X.2.2.2.2.2.2.1
  have hK := X.2.2.2.2.2.2.2.2.1
  rw [hpre.1, hpre.2] at I
  clear hpre
  have hF := hg
  unfold g_nodes at hF
  refine lv_aload_n hx hb d114_0 rfl (lv_at hl 0 rfl) ?_
  obtain ⟨q1, e9, hF⟩ := mm_bd hF
  refine ht_V (C := "MarkupStoreModel") (rest := []) (as := []) X hl (cm_count l D dA s0 hE h0 r M hM z0 st q1 e9) (List.forall_mem_cons.mpr ⟨ms_k1583, List.forall_mem_cons.mpr ⟨ms_k1585, List.forall_mem_cons.mpr ⟨ms_p62, List.forall_mem_cons.mpr ⟨ms_k7, List.forall_mem_cons.mpr ⟨ms_k1586, fun _ h => absurd h List.not_mem_nil⟩⟩⟩⟩⟩) ⟨rfl, by decide +kernel, by decide +kernel, (by decide +kernel : (parseMethodDescriptor "()I").map (fun d => d.parameters.length) = some 0)⟩ (hm_recv hK I rfl mm_hr) I ⟨rfl, rfl⟩ ⟨⟨Nat.le_of_ble_eq_true rfl, Nat.le_of_ble_eq_true rfl⟩, Nat.le_of_ble_eq_true rfl, Nat.le_of_ble_eq_true rfl⟩ rfl (Nat.le_of_ble_eq_true rfl) d114_1 (fun vv h1 z1 H locs hR I9 => ?_)
  obtain ⟨e1, e2, e3⟩ := hR
  rw [e2, e3] at I9
  clear I e2 e3 e9
  have I := I9
  clear I9
  subst e1
  refine W.eq (g2 := F0 m 4 ls [.int q1.1]) rfl ?_
  exact ht_iret X d114_4 I (Nat.le_of_ble_eq_true rfl) (Nat.le_of_ble_eq_true rfl) (mm_fin hF)

def g_out_20 (w0 : Int32) (st : mT) : Option (mT) := (mm_lt (mm_F st 59 w0) (fun st1 => (mm_lt (mm_F st1 57 ((st1.1 57) + 1)) (fun st2 => (some st2)))))
def g_out (y1 : Int32) (st : mT) : Option (mT) := (if (st.1 57) = (st.1 58) then (g_out_20 y1 st) else (g_out_20 (st.1 59) st))
set_option maxRecDepth 100000 in
set_option maxHeartbeats 8000000 in
theorem cm_out (l : Launch) (D : va_G) (dA : Nat → ClassId) (s0 : State) (hE : ms_EV D dA s0) (h0 : hm_T) (r : Nat) (M : Nat → Nat) (hM : mm_ok r M) (z0 : hz_T) (y1 : Int32) (st : mT) (q : mT) (hg : g_out y1 st = some q) : ht_C l D s0 yM115 bM115 2 (Option.none : Option Jvm.ClassFile.FieldType) 0 0 0 0 [.ref r, .int y1] (fun h z => h = mm_h dA h0 r M st ∧ z = z0) (fun h z vv h1 z1 => vv = none ∧ h1 = mm_h dA h0 r M q ∧ z1 = z0) := by
  refine ht_C.mk hE.1 (by decide) (Nat.le_of_ble_eq_true rfl) [(0, .ref r), (1, .int y1)] rfl ?_
  intro p e s m below meth c ls h z X hin hpre I hl
  have hx := X.1
  have hb := X.2.1
  have hml := X.2.2.1
  have hown : s.vm.findClass "MarkupStoreModel" = some m.cls := X.2.2.2.1
  have hts := X.2.2.2.2.2.2.1
  have hK := X.2.2.2.2.2.2.2.2.1
  rw [hpre.1, hpre.2] at I
  clear hpre
  have b20 : ∀ (ls : Array Slot) (w0 : Int32) (st : mT) (H : Heap) (locs : List Loc), g_out_20 w0 st = some q → lv_has ls 2 [(0, .ref r)] → hm_I D s0 s (mm_h dA h0 r M st) z0 H locs → W p l e { frames := 0, cells := 0, slots := 0, locals := 0 } s m ([.ref r, .int y1] : List Value).toArray below meth c H locs 0 0 (MQ below (ht_Q D s0 (fun vv h1 z1 => vv = none ∧ h1 = mm_h dA h0 r M q ∧ z1 = z0)) ([.ref r, .int y1] : List Value).toArray s 0 0 (fun q => s0.heap.size ≤ q)) (F0 m 20 ls [.int w0, .ref r]) := by
    intro ls w0 st H locs hF hl I
    unfold g_out_20 at hF
    obtain ⟨st1, e9, hF⟩ := mm_lt_some hF
    refine mm_put (k := 59) (ty := .int) X I (by decide) ms_k1375 rfl rfl (by decide +kernel) ⟨rfl, rfl⟩ rfl e9 d115_20 (fun H locs I => ?_)
    clear e9
    refine lv_aload_n hx hb d115_23 rfl (lv_at hl 0 rfl) ?_
    refine lv_dup hx hb d115_24 rfl ?_
    refine va_get (D := D) (ci := 2) (v := .int (st1.1 57)) (C := kR2) (T := kT2) (N := 60) hx hb hts ku2 hown hK (hm_one I.1 mm_hr) 0 rfl rfl 57 (by decide) (hts _ ms_k1373) (fun _ h => h) rfl d115_25 ?_
    refine lv_iconst (v := 1) hx hb d115_28 (by decide) ?_
    refine lv_iadd hx hb d115_29 ?_
    obtain ⟨st2, e9, hF⟩ := mm_lt_some hF
    refine mm_put (k := 57) (ty := .int) X I (by decide) ms_k1373 rfl rfl (by decide +kernel) ⟨rfl, rfl⟩ rfl e9 d115_30 (fun H locs I => ?_)
    clear e9
    exact ht_vret X d115_33 I (Nat.le_of_ble_eq_true rfl) (Nat.le_of_ble_eq_true rfl) (mm_finV hF)
  have hF := hg
  unfold g_out at hF
  refine lv_aload_n hx hb d115_0 rfl (lv_at hl 0 rfl) ?_
  refine lv_aload_n hx hb d115_1 rfl (lv_at hl 0 rfl) ?_
  refine va_get (D := D) (ci := 2) (v := .int (st.1 57)) (C := kR2) (T := kT2) (N := 60) hx hb hts ku2 hown hK (hm_one I.1 mm_hr) 0 rfl rfl 57 (by decide) (hts _ ms_k1373) (fun _ h => h) rfl d115_2 ?_
  refine lv_aload_n hx hb d115_5 rfl (lv_at hl 0 rfl) ?_
  refine va_get (D := D) (ci := 2) (v := .int (st.1 58)) (C := kR2) (T := kT2) (N := 60) hx hb hts ku2 hown hK (hm_one I.1 mm_hr) 0 rfl rfl 58 (by decide) (hts _ ms_k1374) (fun _ h => h) rfl d115_6 ?_
  refine lv_icmp_ne hx hb d115_9 rfl (fun h9 => ?_) (fun h9 => ?_)
  · have hF := (if_neg h9).symm.trans hF
    refine lv_aload_n hx hb d115_16 rfl (lv_at hl 0 rfl) ?_
    refine va_get (D := D) (ci := 2) (v := .int (st.1 59)) (C := kR2) (T := kT2) (N := 60) hx hb hts ku2 hown hK (hm_one I.1 mm_hr) 0 rfl rfl 59 (by decide) (hts _ ms_k1375) (fun _ h => h) rfl d115_17 ?_
    exact b20 ls (st.1 59) st _ _ hF (hl.sub [0] rfl) I
  · have hF := (if_pos h9).symm.trans hF
    refine lv_iload_n hx hb d115_12 rfl (lv_at hl 1 rfl) ?_
    refine lv_goto hx hb d115_13 rfl ?_
    exact b20 ls y1 st _ _ hF (hl.sub [0] rfl) I

def g_outFour_19 (x4 : Int32) (st : mT) : Option (mT) := (if x4 ≤ 0 then (some st) else ((g_out x4 st).bind (fun q3 => (some q3))))
def g_outFour (y1 : Int32) (y2 : Int32) (y3 : Int32) (y4 : Int32) (st : mT) : Option (mT) := ((g_out y1 st).bind (fun q1 => ((g_out y2 q1).bind (fun q2 => (if y3 ≤ 0 then (g_outFour_19 y4 q2) else ((g_out y3 q2).bind (fun q4 => (g_outFour_19 y4 q4))))))))
set_option maxRecDepth 100000 in
set_option maxHeartbeats 8000000 in
theorem cm_outFour (l : Launch) (D : va_G) (dA : Nat → ClassId) (s0 : State) (hE : ms_EV D dA s0) (h0 : hm_T) (r : Nat) (M : Nat → Nat) (hM : mm_ok r M) (z0 : hz_T) (y1 : Int32) (y2 : Int32) (y3 : Int32) (y4 : Int32) (st : mT) (q : mT) (hg : g_outFour y1 y2 y3 y4 st = some q) : ht_C l D s0 yM116 bM116 5 (Option.none : Option Jvm.ClassFile.FieldType) 1 21 0 0 [.ref r, .int y1, .int y2, .int y3, .int y4] (fun h z => h = mm_h dA h0 r M st ∧ z = z0) (fun h z vv h1 z1 => vv = none ∧ h1 = mm_h dA h0 r M q ∧ z1 = z0) := by
  refine ht_C.mk hE.1 (by decide) (Nat.le_of_ble_eq_true rfl) [(0, .ref r), (1, .int y1), (2, .int y2), (3, .int y3), (4, .int y4)] rfl ?_
  intro p e s m below meth c ls h z X hin hpre I hl
  have hx := X.1
  have hb := X.2.1
  have hml := X.2.2.1
  have hown : s.vm.findClass "MarkupStoreModel" = some m.cls := X.2.2.2.1
  have hts := X.2.2.2.2.2.2.1
  have hK := X.2.2.2.2.2.2.2.2.1
  rw [hpre.1, hpre.2] at I
  clear hpre
  have b19 : ∀ (ls : Array Slot) (x4 : Int32) (st : mT) (H : Heap) (locs : List Loc), g_outFour_19 x4 st = some q → lv_has ls 5 [(0, .ref r), (4, .int x4)] → hm_I D s0 s (mm_h dA h0 r M st) z0 H locs → W p l e { frames := 1, cells := 0, slots := 0, locals := 21 } s m ([.ref r, .int y1, .int y2, .int y3, .int y4] : List Value).toArray below meth c H locs 0 0 (MQ below (ht_Q D s0 (fun vv h1 z1 => vv = none ∧ h1 = mm_h dA h0 r M q ∧ z1 = z0)) ([.ref r, .int y1, .int y2, .int y3, .int y4] : List Value).toArray s 0 0 (fun q => s0.heap.size ≤ q)) (F0 m 19 ls []) := by
    intro ls x4 st H locs hF hl I
    unfold g_outFour_19 at hF
    refine lv_iload hx hb d116_19 (lv_at hl 1 rfl) ?_
    refine lv_if_le hx hb d116_21 rfl (fun h9 => ?_) (fun h9 => ?_)
    · have hF := (if_pos h9).symm.trans hF
      exact ht_vret X d116_30 I (Nat.le_of_ble_eq_true rfl) (Nat.le_of_ble_eq_true rfl) (mm_finV hF)
    · have hF := (if_neg h9).symm.trans hF
      refine lv_aload_n hx hb d116_24 rfl (lv_at hl 0 rfl) ?_
      refine lv_iload hx hb d116_25 (lv_at hl 1 rfl) ?_
      obtain ⟨q3, e9, hF⟩ := mm_bd hF
      refine ht_V (C := "MarkupStoreModel") (rest := []) (as := [.int x4]) X hl (cm_out l D dA s0 hE h0 r M hM z0 x4 st q3 e9) (List.forall_mem_cons.mpr ⟨ms_k1808, List.forall_mem_cons.mpr ⟨ms_k1810, List.forall_mem_cons.mpr ⟨ms_p102, List.forall_mem_cons.mpr ⟨ms_k7, List.forall_mem_cons.mpr ⟨ms_k1811, fun _ h => absurd h List.not_mem_nil⟩⟩⟩⟩⟩) ⟨rfl, by decide +kernel, by decide +kernel, (by decide +kernel : (parseMethodDescriptor "(I)V").map (fun d => d.parameters.length) = some 1)⟩ (hm_recv hK I rfl mm_hr) I ⟨rfl, rfl⟩ ⟨⟨Nat.le_of_ble_eq_true rfl, Nat.le_of_ble_eq_true rfl⟩, Nat.le_of_ble_eq_true rfl, Nat.le_of_ble_eq_true rfl⟩ rfl (Nat.le_of_ble_eq_true rfl) d116_27 (fun vv h1 z1 H locs hR I9 => ?_)
      obtain ⟨e1, e2, e3⟩ := hR
      rw [e2, e3] at I9
      clear I e2 e3 e9
      have I := I9
      clear I9
      subst e1
      refine W.eq (g2 := F0 m 30 ls []) rfl ?_
      exact ht_vret X d116_30 I (Nat.le_of_ble_eq_true rfl) (Nat.le_of_ble_eq_true rfl) (mm_finV hF)
  have hF := hg
  unfold g_outFour at hF
  refine lv_aload_n hx hb d116_0 rfl (lv_at hl 0 rfl) ?_
  refine lv_iload_n hx hb d116_1 rfl (lv_at hl 1 rfl) ?_
  obtain ⟨q1, e9, hF⟩ := mm_bd hF
  refine ht_V (C := "MarkupStoreModel") (rest := []) (as := [.int y1]) X hl (cm_out l D dA s0 hE h0 r M hM z0 y1 st q1 e9) (List.forall_mem_cons.mpr ⟨ms_k1808, List.forall_mem_cons.mpr ⟨ms_k1810, List.forall_mem_cons.mpr ⟨ms_p102, List.forall_mem_cons.mpr ⟨ms_k7, List.forall_mem_cons.mpr ⟨ms_k1811, fun _ h => absurd h List.not_mem_nil⟩⟩⟩⟩⟩) ⟨rfl, by decide +kernel, by decide +kernel, (by decide +kernel : (parseMethodDescriptor "(I)V").map (fun d => d.parameters.length) = some 1)⟩ (hm_recv hK I rfl mm_hr) I ⟨rfl, rfl⟩ ⟨⟨Nat.le_of_ble_eq_true rfl, Nat.le_of_ble_eq_true rfl⟩, Nat.le_of_ble_eq_true rfl, Nat.le_of_ble_eq_true rfl⟩ rfl (Nat.le_of_ble_eq_true rfl) d116_2 (fun vv h1 z1 H locs hR I9 => ?_)
  obtain ⟨e1, e2, e3⟩ := hR
  rw [e2, e3] at I9
  clear I e2 e3 e9
  have I := I9
  clear I9
  subst e1
  refine W.eq (g2 := F0 m 5 ls []) rfl ?_
  refine lv_aload_n hx hb d116_5 rfl (lv_at hl 0 rfl) ?_
  refine lv_iload_n hx hb d116_6 rfl (lv_at hl 2 rfl) ?_
  obtain ⟨q2, e9, hF⟩ := mm_bd hF
  refine ht_V (C := "MarkupStoreModel") (rest := []) (as := [.int y2]) X hl (cm_out l D dA s0 hE h0 r M hM z0 y2 q1 q2 e9) (List.forall_mem_cons.mpr ⟨ms_k1808, List.forall_mem_cons.mpr ⟨ms_k1810, List.forall_mem_cons.mpr ⟨ms_p102, List.forall_mem_cons.mpr ⟨ms_k7, List.forall_mem_cons.mpr ⟨ms_k1811, fun _ h => absurd h List.not_mem_nil⟩⟩⟩⟩⟩) ⟨rfl, by decide +kernel, by decide +kernel, (by decide +kernel : (parseMethodDescriptor "(I)V").map (fun d => d.parameters.length) = some 1)⟩ (hm_recv hK I rfl mm_hr) I ⟨rfl, rfl⟩ ⟨⟨Nat.le_of_ble_eq_true rfl, Nat.le_of_ble_eq_true rfl⟩, Nat.le_of_ble_eq_true rfl, Nat.le_of_ble_eq_true rfl⟩ rfl (Nat.le_of_ble_eq_true rfl) d116_7 (fun vv h1 z1 H locs hR I9 => ?_)
  obtain ⟨e1, e2, e3⟩ := hR
  rw [e2, e3] at I9
  clear I e2 e3 e9
  have I := I9
  clear I9
  subst e1
  refine W.eq (g2 := F0 m 10 ls []) rfl ?_
  refine lv_iload_n hx hb d116_10 rfl (lv_at hl 3 rfl) ?_
  refine lv_if_le hx hb d116_11 rfl (fun h9 => ?_) (fun h9 => ?_)
  · have hF := (if_pos h9).symm.trans hF
    exact b19 ls y4 q2 _ _ hF (hl.sub [0, 4] rfl) I
  · have hF := (if_neg h9).symm.trans hF
    refine lv_aload_n hx hb d116_14 rfl (lv_at hl 0 rfl) ?_
    refine lv_iload_n hx hb d116_15 rfl (lv_at hl 3 rfl) ?_
    obtain ⟨q4, e9, hF⟩ := mm_bd hF
    refine ht_V (C := "MarkupStoreModel") (rest := []) (as := [.int y3]) X hl (cm_out l D dA s0 hE h0 r M hM z0 y3 q2 q4 e9) (List.forall_mem_cons.mpr ⟨ms_k1808, List.forall_mem_cons.mpr ⟨ms_k1810, List.forall_mem_cons.mpr ⟨ms_p102, List.forall_mem_cons.mpr ⟨ms_k7, List.forall_mem_cons.mpr ⟨ms_k1811, fun _ h => absurd h List.not_mem_nil⟩⟩⟩⟩⟩) ⟨rfl, by decide +kernel, by decide +kernel, (by decide +kernel : (parseMethodDescriptor "(I)V").map (fun d => d.parameters.length) = some 1)⟩ (hm_recv hK I rfl mm_hr) I ⟨rfl, rfl⟩ ⟨⟨Nat.le_of_ble_eq_true rfl, Nat.le_of_ble_eq_true rfl⟩, Nat.le_of_ble_eq_true rfl, Nat.le_of_ble_eq_true rfl⟩ rfl (Nat.le_of_ble_eq_true rfl) d116_16 (fun vv h1 z1 H locs hR I9 => ?_)
    obtain ⟨e1, e2, e3⟩ := hR
    rw [e2, e3] at I9
    clear I e2 e3 e9
    have I := I9
    clear I9
    subst e1
    refine W.eq (g2 := F0 m 19 ls []) rfl ?_
    exact b19 ls y4 q4 _ _ hF (hl.sub [0, 4] rfl) I

def g_outValue_132 (st : mT) : Option (mT) := ((g_out 59 st).bind (fun q2 => (some q2)))
def g_outValue_116 (x1 : Int32) (x3 : Int32) (st : mT) : Option (mT) := (if x3 = 0 then (some st) else (if x1 = 38 then (g_outValue_132 st) else (if x1 = 34 then (g_outValue_132 st) else (some st))))
def g_outValue_100 (x1 : Int32) (x3 : Int32) (st : mT) : Option (mT) := (if x3 = 0 then (g_outValue_116 x1 x3 st) else (if x1 = 34 then ((g_out 116 st).bind (fun q3 => (g_outValue_116 x1 x3 q3))) else (g_outValue_116 x1 x3 st)))
def g_outValue_93 (x1 : Int32) (x3 : Int32) (w0 : Int32) (w1 : Int32) (st : mT) : Option (mT) := ((g_outFour w1 w0 116 59 st).bind (fun q1 => (g_outValue_100 x1 x3 q1)))
def g_outValue_22 (x1 : Int32) (w0 : Int32) (st : mT) : Option (mT) := (if w0 = 0 then ((g_out x1 st).bind (fun q6 => (g_outValue_100 x1 w0 q6))) else (if x1 = 38 then ((g_outFour 38 97 109 112 st).bind (fun q5 => (g_outValue_100 x1 w0 q5))) else (if x1 = 34 then ((g_outFour 38 113 117 111 st).bind (fun q4 => (g_outValue_100 x1 w0 q4))) else (if x1 = 60 then (g_outValue_93 x1 w0 108 38 st) else (g_outValue_93 x1 w0 103 38 st)))))
def g_outValue_17 (x1 : Int32) (st : mT) : Option (mT) := (g_outValue_22 x1 1 st)
def g_outValue (y1 : Int32) (y2 : Int32) (st : mT) : Option (mT) := (if y1 = 38 then (g_outValue_17 y1 st) else (if y1 = 60 then (g_outValue_17 y1 st) else (if y1 = y2 then (g_outValue_17 y1 st) else (g_outValue_22 y1 0 st))))
set_option maxRecDepth 100000 in
set_option maxHeartbeats 8000000 in
theorem cm_outValue (l : Launch) (D : va_G) (dA : Nat → ClassId) (s0 : State) (hE : ms_EV D dA s0) (h0 : hm_T) (r : Nat) (M : Nat → Nat) (hM : mm_ok r M) (z0 : hz_T) (y1 : Int32) (y2 : Int32) (st : mT) (q : mT) (hg : g_outValue y1 y2 st = some q) : ht_C l D s0 yM117 bM117 4 (Option.none : Option Jvm.ClassFile.FieldType) 2 45 0 0 [.ref r, .int y1, .int y2] (fun h z => h = mm_h dA h0 r M st ∧ z = z0) (fun h z vv h1 z1 => vv = none ∧ h1 = mm_h dA h0 r M q ∧ z1 = z0) := by
  refine ht_C.mk hE.1 (by decide) (Nat.le_of_ble_eq_true rfl) [(0, .ref r), (1, .int y1), (2, .int y2)] rfl ?_
  intro p e s m below meth c ls h z X hin hpre I hl
  have hx := X.1
  have hb := X.2.1
  have hml := X.2.2.1
  have hown : s.vm.findClass "MarkupStoreModel" = some m.cls := X.2.2.2.1
  have hts := X.2.2.2.2.2.2.1
  have hK := X.2.2.2.2.2.2.2.2.1
  rw [hpre.1, hpre.2] at I
  clear hpre
  have b132 : ∀ (ls : Array Slot) (st : mT) (H : Heap) (locs : List Loc), g_outValue_132 st = some q → lv_has ls 4 [(0, .ref r)] → hm_I D s0 s (mm_h dA h0 r M st) z0 H locs → W p l e { frames := 2, cells := 0, slots := 0, locals := 45 } s m ([.ref r, .int y1, .int y2] : List Value).toArray below meth c H locs 0 0 (MQ below (ht_Q D s0 (fun vv h1 z1 => vv = none ∧ h1 = mm_h dA h0 r M q ∧ z1 = z0)) ([.ref r, .int y1, .int y2] : List Value).toArray s 0 0 (fun q => s0.heap.size ≤ q)) (F0 m 132 ls []) := by
    intro ls st H locs hF hl I
    unfold g_outValue_132 at hF
    refine lv_aload_n hx hb d117_132 rfl (lv_at hl 0 rfl) ?_
    refine lv_bipush (v := 59) hx hb d117_133 (by decide) ?_
    obtain ⟨q2, e9, hF⟩ := mm_bd hF
    refine ht_V (C := "MarkupStoreModel") (rest := []) (as := [.int 59]) X hl (cm_out l D dA s0 hE h0 r M hM z0 59 st q2 e9) (List.forall_mem_cons.mpr ⟨ms_k1808, List.forall_mem_cons.mpr ⟨ms_k1810, List.forall_mem_cons.mpr ⟨ms_p102, List.forall_mem_cons.mpr ⟨ms_k7, List.forall_mem_cons.mpr ⟨ms_k1811, fun _ h => absurd h List.not_mem_nil⟩⟩⟩⟩⟩) ⟨rfl, by decide +kernel, by decide +kernel, (by decide +kernel : (parseMethodDescriptor "(I)V").map (fun d => d.parameters.length) = some 1)⟩ (hm_recv hK I rfl mm_hr) I ⟨rfl, rfl⟩ ⟨⟨Nat.le_of_ble_eq_true rfl, Nat.le_of_ble_eq_true rfl⟩, Nat.le_of_ble_eq_true rfl, Nat.le_of_ble_eq_true rfl⟩ rfl (Nat.le_of_ble_eq_true rfl) d117_135 (fun vv h1 z1 H locs hR I9 => ?_)
    obtain ⟨e1, e2, e3⟩ := hR
    rw [e2, e3] at I9
    clear I e2 e3 e9
    have I := I9
    clear I9
    subst e1
    refine W.eq (g2 := F0 m 138 ls []) rfl ?_
    exact ht_vret X d117_138 I (Nat.le_of_ble_eq_true rfl) (Nat.le_of_ble_eq_true rfl) (mm_finV hF)
  have b116 : ∀ (ls : Array Slot) (x1 : Int32) (x3 : Int32) (st : mT) (H : Heap) (locs : List Loc), g_outValue_116 x1 x3 st = some q → lv_has ls 4 [(0, .ref r), (1, .int x1), (3, .int x3)] → hm_I D s0 s (mm_h dA h0 r M st) z0 H locs → W p l e { frames := 2, cells := 0, slots := 0, locals := 45 } s m ([.ref r, .int y1, .int y2] : List Value).toArray below meth c H locs 0 0 (MQ below (ht_Q D s0 (fun vv h1 z1 => vv = none ∧ h1 = mm_h dA h0 r M q ∧ z1 = z0)) ([.ref r, .int y1, .int y2] : List Value).toArray s 0 0 (fun q => s0.heap.size ≤ q)) (F0 m 116 ls []) := by
    intro ls x1 x3 st H locs hF hl I
    unfold g_outValue_116 at hF
    refine lv_iload_n hx hb d117_116 rfl (lv_at hl 2 rfl) ?_
    refine lv_if_eq hx hb d117_117 rfl (fun h9 => ?_) (fun h9 => ?_)
    · have hF := (if_pos h9).symm.trans hF
      exact ht_vret X d117_138 I (Nat.le_of_ble_eq_true rfl) (Nat.le_of_ble_eq_true rfl) (mm_finV hF)
    · have hF := (if_neg h9).symm.trans hF
      refine lv_iload_n hx hb d117_120 rfl (lv_at hl 1 rfl) ?_
      refine lv_bipush (v := 38) hx hb d117_121 (by decide) ?_
      refine lv_icmp_eq hx hb d117_123 rfl (fun h9 => ?_) (fun h9 => ?_)
      · have hF := (if_pos h9).symm.trans hF
        exact b132 ls st _ _ hF (hl.sub [0] rfl) I
      · have hF := (if_neg h9).symm.trans hF
        refine lv_iload_n hx hb d117_126 rfl (lv_at hl 1 rfl) ?_
        refine lv_bipush (v := 34) hx hb d117_127 (by decide) ?_
        refine lv_icmp_ne hx hb d117_129 rfl (fun h9 => ?_) (fun h9 => ?_)
        · have hF := (if_neg h9).symm.trans hF
          exact ht_vret X d117_138 I (Nat.le_of_ble_eq_true rfl) (Nat.le_of_ble_eq_true rfl) (mm_finV hF)
        · have hF := (if_pos h9).symm.trans hF
          exact b132 ls st _ _ hF (hl.sub [0] rfl) I
  have b100 : ∀ (ls : Array Slot) (x1 : Int32) (x3 : Int32) (st : mT) (H : Heap) (locs : List Loc), g_outValue_100 x1 x3 st = some q → lv_has ls 4 [(0, .ref r), (1, .int x1), (3, .int x3)] → hm_I D s0 s (mm_h dA h0 r M st) z0 H locs → W p l e { frames := 2, cells := 0, slots := 0, locals := 45 } s m ([.ref r, .int y1, .int y2] : List Value).toArray below meth c H locs 0 0 (MQ below (ht_Q D s0 (fun vv h1 z1 => vv = none ∧ h1 = mm_h dA h0 r M q ∧ z1 = z0)) ([.ref r, .int y1, .int y2] : List Value).toArray s 0 0 (fun q => s0.heap.size ≤ q)) (F0 m 100 ls []) := by
    intro ls x1 x3 st H locs hF hl I
    unfold g_outValue_100 at hF
    refine lv_iload_n hx hb d117_100 rfl (lv_at hl 2 rfl) ?_
    refine lv_if_eq hx hb d117_101 rfl (fun h9 => ?_) (fun h9 => ?_)
    · have hF := (if_pos h9).symm.trans hF
      exact b116 ls x1 x3 st _ _ hF (hl.sub [0, 1, 2] rfl) I
    · have hF := (if_neg h9).symm.trans hF
      refine lv_iload_n hx hb d117_104 rfl (lv_at hl 1 rfl) ?_
      refine lv_bipush (v := 34) hx hb d117_105 (by decide) ?_
      refine lv_icmp_ne hx hb d117_107 rfl (fun h9 => ?_) (fun h9 => ?_)
      · have hF := (if_neg h9).symm.trans hF
        exact b116 ls x1 x3 st _ _ hF (hl.sub [0, 1, 2] rfl) I
      · have hF := (if_pos h9).symm.trans hF
        refine lv_aload_n hx hb d117_110 rfl (lv_at hl 0 rfl) ?_
        refine lv_bipush (v := 116) hx hb d117_111 (by decide) ?_
        obtain ⟨q3, e9, hF⟩ := mm_bd hF
        refine ht_V (C := "MarkupStoreModel") (rest := []) (as := [.int 116]) X hl (cm_out l D dA s0 hE h0 r M hM z0 116 st q3 e9) (List.forall_mem_cons.mpr ⟨ms_k1808, List.forall_mem_cons.mpr ⟨ms_k1810, List.forall_mem_cons.mpr ⟨ms_p102, List.forall_mem_cons.mpr ⟨ms_k7, List.forall_mem_cons.mpr ⟨ms_k1811, fun _ h => absurd h List.not_mem_nil⟩⟩⟩⟩⟩) ⟨rfl, by decide +kernel, by decide +kernel, (by decide +kernel : (parseMethodDescriptor "(I)V").map (fun d => d.parameters.length) = some 1)⟩ (hm_recv hK I rfl mm_hr) I ⟨rfl, rfl⟩ ⟨⟨Nat.le_of_ble_eq_true rfl, Nat.le_of_ble_eq_true rfl⟩, Nat.le_of_ble_eq_true rfl, Nat.le_of_ble_eq_true rfl⟩ rfl (Nat.le_of_ble_eq_true rfl) d117_113 (fun vv h1 z1 H locs hR I9 => ?_)
        obtain ⟨e1, e2, e3⟩ := hR
        rw [e2, e3] at I9
        clear I e2 e3 e9
        have I := I9
        clear I9
        subst e1
        refine W.eq (g2 := F0 m 116 ls []) rfl ?_
        exact b116 ls x1 x3 q3 _ _ hF (hl.sub [0, 1, 2] rfl) I
  have b93 : ∀ (ls : Array Slot) (x1 : Int32) (x3 : Int32) (w0 : Int32) (w1 : Int32) (st : mT) (H : Heap) (locs : List Loc), g_outValue_93 x1 x3 w0 w1 st = some q → lv_has ls 4 [(0, .ref r), (1, .int x1), (3, .int x3)] → hm_I D s0 s (mm_h dA h0 r M st) z0 H locs → W p l e { frames := 2, cells := 0, slots := 0, locals := 45 } s m ([.ref r, .int y1, .int y2] : List Value).toArray below meth c H locs 0 0 (MQ below (ht_Q D s0 (fun vv h1 z1 => vv = none ∧ h1 = mm_h dA h0 r M q ∧ z1 = z0)) ([.ref r, .int y1, .int y2] : List Value).toArray s 0 0 (fun q => s0.heap.size ≤ q)) (F0 m 93 ls [.int w0, .int w1, .ref r]) := by
    intro ls x1 x3 w0 w1 st H locs hF hl I
    unfold g_outValue_93 at hF
    refine lv_bipush (v := 116) hx hb d117_93 (by decide) ?_
    refine lv_bipush (v := 59) hx hb d117_95 (by decide) ?_
    obtain ⟨q1, e9, hF⟩ := mm_bd hF
    refine ht_V (C := "MarkupStoreModel") (rest := []) (as := [.int w1, .int w0, .int 116, .int 59]) X hl (cm_outFour l D dA s0 hE h0 r M hM z0 w1 w0 116 59 st q1 e9) (List.forall_mem_cons.mpr ⟨ms_k1816, List.forall_mem_cons.mpr ⟨ms_k1818, List.forall_mem_cons.mpr ⟨ms_p104, List.forall_mem_cons.mpr ⟨ms_k7, List.forall_mem_cons.mpr ⟨ms_k1819, fun _ h => absurd h List.not_mem_nil⟩⟩⟩⟩⟩) ⟨rfl, by decide +kernel, by decide +kernel, (by decide +kernel : (parseMethodDescriptor "(IIII)V").map (fun d => d.parameters.length) = some 4)⟩ (hm_recv hK I rfl mm_hr) I ⟨rfl, rfl⟩ ⟨⟨Nat.le_of_ble_eq_true rfl, Nat.le_of_ble_eq_true rfl⟩, Nat.le_of_ble_eq_true rfl, Nat.le_of_ble_eq_true rfl⟩ rfl (Nat.le_of_ble_eq_true rfl) d117_97 (fun vv h1 z1 H locs hR I9 => ?_)
    obtain ⟨e1, e2, e3⟩ := hR
    rw [e2, e3] at I9
    clear I e2 e3 e9
    have I := I9
    clear I9
    subst e1
    refine W.eq (g2 := F0 m 100 ls []) rfl ?_
    exact b100 ls x1 x3 q1 _ _ hF (hl.sub [0, 1, 2] rfl) I
  have b22 : ∀ (ls : Array Slot) (x1 : Int32) (w0 : Int32) (st : mT) (H : Heap) (locs : List Loc), g_outValue_22 x1 w0 st = some q → lv_has ls 4 [(0, .ref r), (1, .int x1)] → hm_I D s0 s (mm_h dA h0 r M st) z0 H locs → W p l e { frames := 2, cells := 0, slots := 0, locals := 45 } s m ([.ref r, .int y1, .int y2] : List Value).toArray below meth c H locs 0 0 (MQ below (ht_Q D s0 (fun vv h1 z1 => vv = none ∧ h1 = mm_h dA h0 r M q ∧ z1 = z0)) ([.ref r, .int y1, .int y2] : List Value).toArray s 0 0 (fun q => s0.heap.size ≤ q)) (F0 m 22 ls [.int w0]) := by
    intro ls x1 w0 st H locs hF hl I
    unfold g_outValue_22 at hF
    refine lv_istore_n hx hb d117_22 rfl hl (by decide) rfl (fun ls hl => ?_)
    have hl : lv_has ls 4 [(3, .int w0), (0, .ref r), (1, .int x1)] := hl
    refine lv_iload_n hx hb d117_23 rfl (lv_at hl 0 rfl) ?_
    refine lv_if_ne hx hb d117_24 rfl (fun h9 => ?_) (fun h9 => ?_)
    · have hF := (if_neg h9).symm.trans hF
      refine lv_iload_n hx hb d117_35 rfl (lv_at hl 2 rfl) ?_
      refine lv_bipush (v := 38) hx hb d117_36 (by decide) ?_
      refine lv_icmp_ne hx hb d117_38 rfl (fun h9 => ?_) (fun h9 => ?_)
      · have hF := (if_neg h9).symm.trans hF
        refine lv_iload_n hx hb d117_56 rfl (lv_at hl 2 rfl) ?_
        refine lv_bipush (v := 34) hx hb d117_57 (by decide) ?_
        refine lv_icmp_ne hx hb d117_59 rfl (fun h9 => ?_) (fun h9 => ?_)
        · have hF := (if_neg h9).symm.trans hF
          refine lv_aload_n hx hb d117_77 rfl (lv_at hl 1 rfl) ?_
          refine lv_bipush (v := 38) hx hb d117_78 (by decide) ?_
          refine lv_iload_n hx hb d117_80 rfl (lv_at hl 2 rfl) ?_
          refine lv_bipush (v := 60) hx hb d117_81 (by decide) ?_
          refine lv_icmp_ne hx hb d117_83 rfl (fun h9 => ?_) (fun h9 => ?_)
          · have hF := (if_neg h9).symm.trans hF
            refine lv_bipush (v := 103) hx hb d117_91 (by decide) ?_
            exact b93 ls x1 w0 103 38 st _ _ hF (hl.sub [1, 2, 0] rfl) I
          · have hF := (if_pos h9).symm.trans hF
            refine lv_bipush (v := 108) hx hb d117_86 (by decide) ?_
            refine lv_goto hx hb d117_88 rfl ?_
            exact b93 ls x1 w0 108 38 st _ _ hF (hl.sub [1, 2, 0] rfl) I
        · have hF := (if_pos h9).symm.trans hF
          refine lv_aload_n hx hb d117_62 rfl (lv_at hl 1 rfl) ?_
          refine lv_bipush (v := 38) hx hb d117_63 (by decide) ?_
          refine lv_bipush (v := 113) hx hb d117_65 (by decide) ?_
          refine lv_bipush (v := 117) hx hb d117_67 (by decide) ?_
          refine lv_bipush (v := 111) hx hb d117_69 (by decide) ?_
          obtain ⟨q4, e9, hF⟩ := mm_bd hF
          refine ht_V (C := "MarkupStoreModel") (rest := []) (as := [.int 38, .int 113, .int 117, .int 111]) X hl (cm_outFour l D dA s0 hE h0 r M hM z0 38 113 117 111 st q4 e9) (List.forall_mem_cons.mpr ⟨ms_k1816, List.forall_mem_cons.mpr ⟨ms_k1818, List.forall_mem_cons.mpr ⟨ms_p104, List.forall_mem_cons.mpr ⟨ms_k7, List.forall_mem_cons.mpr ⟨ms_k1819, fun _ h => absurd h List.not_mem_nil⟩⟩⟩⟩⟩) ⟨rfl, by decide +kernel, by decide +kernel, (by decide +kernel : (parseMethodDescriptor "(IIII)V").map (fun d => d.parameters.length) = some 4)⟩ (hm_recv hK I rfl mm_hr) I ⟨rfl, rfl⟩ ⟨⟨Nat.le_of_ble_eq_true rfl, Nat.le_of_ble_eq_true rfl⟩, Nat.le_of_ble_eq_true rfl, Nat.le_of_ble_eq_true rfl⟩ rfl (Nat.le_of_ble_eq_true rfl) d117_71 (fun vv h1 z1 H locs hR I9 => ?_)
          obtain ⟨e1, e2, e3⟩ := hR
          rw [e2, e3] at I9
          clear I e2 e3 e9
          have I := I9
          clear I9
          subst e1
          refine W.eq (g2 := F0 m 74 ls []) rfl ?_
          refine lv_goto hx hb d117_74 rfl ?_
          exact b100 ls x1 w0 q4 _ _ hF (hl.sub [1, 2, 0] rfl) I
      · have hF := (if_pos h9).symm.trans hF
        refine lv_aload_n hx hb d117_41 rfl (lv_at hl 1 rfl) ?_
        refine lv_bipush (v := 38) hx hb d117_42 (by decide) ?_
        refine lv_bipush (v := 97) hx hb d117_44 (by decide) ?_
        refine lv_bipush (v := 109) hx hb d117_46 (by decide) ?_
        refine lv_bipush (v := 112) hx hb d117_48 (by decide) ?_
        obtain ⟨q5, e9, hF⟩ := mm_bd hF
        refine ht_V (C := "MarkupStoreModel") (rest := []) (as := [.int 38, .int 97, .int 109, .int 112]) X hl (cm_outFour l D dA s0 hE h0 r M hM z0 38 97 109 112 st q5 e9) (List.forall_mem_cons.mpr ⟨ms_k1816, List.forall_mem_cons.mpr ⟨ms_k1818, List.forall_mem_cons.mpr ⟨ms_p104, List.forall_mem_cons.mpr ⟨ms_k7, List.forall_mem_cons.mpr ⟨ms_k1819, fun _ h => absurd h List.not_mem_nil⟩⟩⟩⟩⟩) ⟨rfl, by decide +kernel, by decide +kernel, (by decide +kernel : (parseMethodDescriptor "(IIII)V").map (fun d => d.parameters.length) = some 4)⟩ (hm_recv hK I rfl mm_hr) I ⟨rfl, rfl⟩ ⟨⟨Nat.le_of_ble_eq_true rfl, Nat.le_of_ble_eq_true rfl⟩, Nat.le_of_ble_eq_true rfl, Nat.le_of_ble_eq_true rfl⟩ rfl (Nat.le_of_ble_eq_true rfl) d117_50 (fun vv h1 z1 H locs hR I9 => ?_)
        obtain ⟨e1, e2, e3⟩ := hR
        rw [e2, e3] at I9
        clear I e2 e3 e9
        have I := I9
        clear I9
        subst e1
        refine W.eq (g2 := F0 m 53 ls []) rfl ?_
        refine lv_goto hx hb d117_53 rfl ?_
        exact b100 ls x1 w0 q5 _ _ hF (hl.sub [1, 2, 0] rfl) I
    · have hF := (if_pos h9).symm.trans hF
      refine lv_aload_n hx hb d117_27 rfl (lv_at hl 1 rfl) ?_
      refine lv_iload_n hx hb d117_28 rfl (lv_at hl 2 rfl) ?_
      obtain ⟨q6, e9, hF⟩ := mm_bd hF
      refine ht_V (C := "MarkupStoreModel") (rest := []) (as := [.int x1]) X hl (cm_out l D dA s0 hE h0 r M hM z0 x1 st q6 e9) (List.forall_mem_cons.mpr ⟨ms_k1808, List.forall_mem_cons.mpr ⟨ms_k1810, List.forall_mem_cons.mpr ⟨ms_p102, List.forall_mem_cons.mpr ⟨ms_k7, List.forall_mem_cons.mpr ⟨ms_k1811, fun _ h => absurd h List.not_mem_nil⟩⟩⟩⟩⟩) ⟨rfl, by decide +kernel, by decide +kernel, (by decide +kernel : (parseMethodDescriptor "(I)V").map (fun d => d.parameters.length) = some 1)⟩ (hm_recv hK I rfl mm_hr) I ⟨rfl, rfl⟩ ⟨⟨Nat.le_of_ble_eq_true rfl, Nat.le_of_ble_eq_true rfl⟩, Nat.le_of_ble_eq_true rfl, Nat.le_of_ble_eq_true rfl⟩ rfl (Nat.le_of_ble_eq_true rfl) d117_29 (fun vv h1 z1 H locs hR I9 => ?_)
      obtain ⟨e1, e2, e3⟩ := hR
      rw [e2, e3] at I9
      clear I e2 e3 e9
      have I := I9
      clear I9
      subst e1
      refine W.eq (g2 := F0 m 32 ls []) rfl ?_
      refine lv_goto hx hb d117_32 rfl ?_
      exact b100 ls x1 w0 q6 _ _ hF (hl.sub [1, 2, 0] rfl) I
  have b17 : ∀ (ls : Array Slot) (x1 : Int32) (st : mT) (H : Heap) (locs : List Loc), g_outValue_17 x1 st = some q → lv_has ls 4 [(0, .ref r), (1, .int x1)] → hm_I D s0 s (mm_h dA h0 r M st) z0 H locs → W p l e { frames := 2, cells := 0, slots := 0, locals := 45 } s m ([.ref r, .int y1, .int y2] : List Value).toArray below meth c H locs 0 0 (MQ below (ht_Q D s0 (fun vv h1 z1 => vv = none ∧ h1 = mm_h dA h0 r M q ∧ z1 = z0)) ([.ref r, .int y1, .int y2] : List Value).toArray s 0 0 (fun q => s0.heap.size ≤ q)) (F0 m 17 ls []) := by
    intro ls x1 st H locs hF hl I
    unfold g_outValue_17 at hF
    refine lv_iconst (v := 1) hx hb d117_17 (by decide) ?_
    refine lv_goto hx hb d117_18 rfl ?_
    exact b22 ls x1 1 st _ _ hF (hl.sub [0, 1] rfl) I
  have hF := hg
  unfold g_outValue at hF
  refine lv_iload_n hx hb d117_0 rfl (lv_at hl 1 rfl) ?_
  refine lv_bipush (v := 38) hx hb d117_1 (by decide) ?_
  refine lv_icmp_eq hx hb d117_3 rfl (fun h9 => ?_) (fun h9 => ?_)
  · have hF := (if_pos h9).symm.trans hF
    exact b17 ls y1 st _ _ hF (hl.sub [0, 1] rfl) I
  · have hF := (if_neg h9).symm.trans hF
    refine lv_iload_n hx hb d117_6 rfl (lv_at hl 1 rfl) ?_
    refine lv_bipush (v := 60) hx hb d117_7 (by decide) ?_
    refine lv_icmp_eq hx hb d117_9 rfl (fun h9 => ?_) (fun h9 => ?_)
    · have hF := (if_pos h9).symm.trans hF
      exact b17 ls y1 st _ _ hF (hl.sub [0, 1] rfl) I
    · have hF := (if_neg h9).symm.trans hF
      refine lv_iload_n hx hb d117_12 rfl (lv_at hl 1 rfl) ?_
      refine lv_iload_n hx hb d117_13 rfl (lv_at hl 2 rfl) ?_
      refine lv_icmp_ne hx hb d117_14 rfl (fun h9 => ?_) (fun h9 => ?_)
      · have hF := (if_neg h9).symm.trans hF
        refine lv_iconst (v := 0) hx hb d117_21 (by decide) ?_
        exact b22 ls y1 0 st _ _ hF (hl.sub [0, 1] rfl) I
      · have hF := (if_pos h9).symm.trans hF
        exact b17 ls y1 st _ _ hF (hl.sub [0, 1] rfl) I

def g_outName_2 : Nat → Int32 → Int32 → mT → Option (mT)
  | 0, _, _, _ => none
  | n9 + 1, x1, x2, st => ((g_f x1 3 st).bind (fun q1 => (if q1.1 ≤ x2 then (some q1.2) else ((g_f x1 (8 + x2) q1.2).bind (fun q2 => ((g_out q2.1 q2.2).bind (fun q3 => ((g_outName_2 n9) x1 (x2 + 1) q3))))))))
def g_outName (y1 : Int32) (st : mT) : Option (mT) := (g_outName_2 mF y1 0 st)
set_option maxRecDepth 100000 in
set_option maxHeartbeats 8000000 in
theorem cm_outName (l : Launch) (D : va_G) (dA : Nat → ClassId) (s0 : State) (hE : ms_EV D dA s0) (h0 : hm_T) (r : Nat) (M : Nat → Nat) (hM : mm_ok r M) (z0 : hz_T) (y1 : Int32) (st : mT) (q : mT) (hg : g_outName y1 st = some q) : ht_C l D s0 yM118 bM118 3 (Option.none : Option Jvm.ClassFile.FieldType) 1 22 0 0 [.ref r, .int y1] (fun h z => h = mm_h dA h0 r M st ∧ z = z0) (fun h z vv h1 z1 => vv = none ∧ h1 = mm_h dA h0 r M q ∧ z1 = z0) := by
  refine ht_C.mk hE.1 (by decide) (Nat.le_of_ble_eq_true rfl) [(0, .ref r), (1, .int y1)] rfl ?_
  intro p e s m below meth c ls h z X hin hpre I hl
  have hx := X.1
  have hb := X.2.1
  have hml := X.2.2.1
  have hown : s.vm.findClass "MarkupStoreModel" = some m.cls := X.2.2.2.1
  have hts := X.2.2.2.2.2.2.1
  have hK := X.2.2.2.2.2.2.2.2.1
  rw [hpre.1, hpre.2] at I
  clear hpre
  have b2 : ∀ n9 : Nat, ∀ (ls : Array Slot) (x1 : Int32) (x2 : Int32) (st : mT) (H : Heap) (locs : List Loc), g_outName_2 n9 x1 x2 st = some q → lv_has ls 3 [(0, .ref r), (1, .int x1), (2, .int x2)] → hm_I D s0 s (mm_h dA h0 r M st) z0 H locs → W p l e { frames := 1, cells := 0, slots := 0, locals := 22 } s m ([.ref r, .int y1] : List Value).toArray below meth c H locs 0 0 (MQ below (ht_Q D s0 (fun vv h1 z1 => vv = none ∧ h1 = mm_h dA h0 r M q ∧ z1 = z0)) ([.ref r, .int y1] : List Value).toArray s 0 0 (fun q => s0.heap.size ≤ q)) (F0 m 2 ls []) := by
    intro n9
    induction n9 with
    | zero => intro ls x1 x2 st H locs hF; cases hF
    | succ n9 hk2 =>
    intro ls x1 x2 st H locs hF hl I
    unfold g_outName_2 at hF
    refine lv_iload_n hx hb d118_2 rfl (lv_at hl 2 rfl) ?_
    refine lv_aload_n hx hb d118_3 rfl (lv_at hl 0 rfl) ?_
    refine lv_iload_n hx hb d118_4 rfl (lv_at hl 1 rfl) ?_
    refine lv_iconst (v := 3) hx hb d118_5 (by decide) ?_
    obtain ⟨q1, e9, hF⟩ := mm_bd hF
    refine ht_V (C := "MarkupStoreModel") (rest := [.int x2]) (as := [.int x1, .int 3]) X hl (cm_f l D dA s0 hE h0 r M hM z0 x1 3 st q1 e9) (List.forall_mem_cons.mpr ⟨ms_k1587, List.forall_mem_cons.mpr ⟨ms_k1589, List.forall_mem_cons.mpr ⟨ms_p63, List.forall_mem_cons.mpr ⟨ms_k7, List.forall_mem_cons.mpr ⟨ms_k1590, fun _ h => absurd h List.not_mem_nil⟩⟩⟩⟩⟩) ⟨rfl, by decide +kernel, by decide +kernel, (by decide +kernel : (parseMethodDescriptor "(II)I").map (fun d => d.parameters.length) = some 2)⟩ (hm_recv hK I rfl mm_hr) I ⟨rfl, rfl⟩ ⟨⟨Nat.le_of_ble_eq_true rfl, Nat.le_of_ble_eq_true rfl⟩, Nat.le_of_ble_eq_true rfl, Nat.le_of_ble_eq_true rfl⟩ rfl (Nat.le_of_ble_eq_true rfl) d118_6 (fun vv h1 z1 H locs hR I9 => ?_)
    obtain ⟨e1, e2, e3⟩ := hR
    rw [e2, e3] at I9
    clear I e2 e3 e9
    have I := I9
    clear I9
    subst e1
    refine W.eq (g2 := F0 m 9 ls [.int q1.1, .int x2]) rfl ?_
    refine lv_icmp_ge hx hb d118_9 rfl (fun h9 => ?_) (fun h9 => ?_)
    · have hF := (if_pos h9).symm.trans hF
      exact ht_vret X d118_31 I (Nat.le_of_ble_eq_true rfl) (Nat.le_of_ble_eq_true rfl) (mm_finV hF)
    · have hF := (if_neg h9).symm.trans hF
      refine lv_aload_n hx hb d118_12 rfl (lv_at hl 0 rfl) ?_
      refine lv_aload_n hx hb d118_13 rfl (lv_at hl 0 rfl) ?_
      refine lv_iload_n hx hb d118_14 rfl (lv_at hl 1 rfl) ?_
      refine lv_bipush (v := 8) hx hb d118_15 (by decide) ?_
      refine lv_iload_n hx hb d118_17 rfl (lv_at hl 2 rfl) ?_
      refine lv_iadd hx hb d118_18 ?_
      obtain ⟨q2, e9, hF⟩ := mm_bd hF
      refine ht_V (C := "MarkupStoreModel") (rest := [.ref r]) (as := [.int x1, .int (8 + x2)]) X hl (cm_f l D dA s0 hE h0 r M hM z0 x1 (8 + x2) q1.2 q2 e9) (List.forall_mem_cons.mpr ⟨ms_k1587, List.forall_mem_cons.mpr ⟨ms_k1589, List.forall_mem_cons.mpr ⟨ms_p63, List.forall_mem_cons.mpr ⟨ms_k7, List.forall_mem_cons.mpr ⟨ms_k1590, fun _ h => absurd h List.not_mem_nil⟩⟩⟩⟩⟩) ⟨rfl, by decide +kernel, by decide +kernel, (by decide +kernel : (parseMethodDescriptor "(II)I").map (fun d => d.parameters.length) = some 2)⟩ (hm_recv hK I rfl mm_hr) I ⟨rfl, rfl⟩ ⟨⟨Nat.le_of_ble_eq_true rfl, Nat.le_of_ble_eq_true rfl⟩, Nat.le_of_ble_eq_true rfl, Nat.le_of_ble_eq_true rfl⟩ rfl (Nat.le_of_ble_eq_true rfl) d118_19 (fun vv h1 z1 H locs hR I9 => ?_)
      obtain ⟨e1, e2, e3⟩ := hR
      rw [e2, e3] at I9
      clear I e2 e3 e9
      have I := I9
      clear I9
      subst e1
      refine W.eq (g2 := F0 m 22 ls [.int q2.1, .ref r]) rfl ?_
      obtain ⟨q3, e9, hF⟩ := mm_bd hF
      refine ht_V (C := "MarkupStoreModel") (rest := []) (as := [.int q2.1]) X hl (cm_out l D dA s0 hE h0 r M hM z0 q2.1 q2.2 q3 e9) (List.forall_mem_cons.mpr ⟨ms_k1808, List.forall_mem_cons.mpr ⟨ms_k1810, List.forall_mem_cons.mpr ⟨ms_p102, List.forall_mem_cons.mpr ⟨ms_k7, List.forall_mem_cons.mpr ⟨ms_k1811, fun _ h => absurd h List.not_mem_nil⟩⟩⟩⟩⟩) ⟨rfl, by decide +kernel, by decide +kernel, (by decide +kernel : (parseMethodDescriptor "(I)V").map (fun d => d.parameters.length) = some 1)⟩ (hm_recv hK I rfl mm_hr) I ⟨rfl, rfl⟩ ⟨⟨Nat.le_of_ble_eq_true rfl, Nat.le_of_ble_eq_true rfl⟩, Nat.le_of_ble_eq_true rfl, Nat.le_of_ble_eq_true rfl⟩ rfl (Nat.le_of_ble_eq_true rfl) d118_22 (fun vv h1 z1 H locs hR I9 => ?_)
      obtain ⟨e1, e2, e3⟩ := hR
      rw [e2, e3] at I9
      clear I e2 e3 e9
      have I := I9
      clear I9
      subst e1
      refine W.eq (g2 := F0 m 25 ls []) rfl ?_
      refine lv_iinc (k := 2) (v := (x2 + 1)) hx hb d118_25 hl rfl (rfl) (by decide) rfl (fun ls hl => ?_)
      have hl : lv_has ls 3 [(2, .int (x2 + 1)), (0, .ref r), (1, .int x1)] := hl
      refine lv_goto hx hb d118_28 rfl ?_
      exact hk2 ls x1 (x2 + 1) q3 _ _ hF (hl.sub [1, 2, 0] rfl) I
  have hF := hg
  unfold g_outName at hF
  refine lv_iconst (v := 0) hx hb d118_0 (by decide) ?_
  refine lv_istore_n hx hb d118_1 rfl hl (by decide) rfl (fun ls hl => ?_)
  have hl : lv_has ls 3 [(2, .int 0), (0, .ref r), (1, .int y1)] := hl
  exact b2 mF ls y1 0 st _ _ hF (hl.sub [1, 2, 0] rfl) I

def g_outTag_85 (k13 : Int32 → Int32 → mT → Option (mT)) : Nat → Int32 → Int32 → Int32 → Int32 → mT → Option (mT)
  | 0, _, _, _, _, _ => none
  | n9 + 1, x1, x2, x3, x4, st => ((g_f x1 (x3 + 7) st).bind (fun q7 => (if q7.1 ≤ x4 then ((g_out 34 q7.2).bind (fun q8 => (k13 x1 (x2 + 1) q8))) else ((g_f x1 ((x3 + 8) + x4) q7.2).bind (fun q9 => ((g_outValue q9.1 34 q9.2).bind (fun q10 => ((g_outTag_85 k13 n9) x1 x2 x3 (x4 + 1) q10))))))))
def g_outTag_40 (k13 : Int32 → Int32 → mT → Option (mT)) : Nat → Int32 → Int32 → Int32 → Int32 → mT → Option (mT)
  | 0, _, _, _, _, _ => none
  | n9 + 1, x1, x2, x3, x4, st => ((g_f x1 x3 st).bind (fun q5 => (if q5.1 ≤ x4 then ((g_outFour 61 34 0 0 q5.2).bind (fun q6 => (g_outTag_85 k13 mF x1 x2 x3 0 q6))) else ((g_f x1 ((x3 + 1) + x4) q5.2).bind (fun q11 => ((g_out q11.1 q11.2).bind (fun q12 => ((g_outTag_40 k13 n9) x1 x2 x3 (x4 + 1) q12))))))))
def g_outTag_13 : Nat → Int32 → Int32 → mT → Option (mT)
  | 0, _, _, _ => none
  | n9 + 1, x1, x2, st => ((g_f x1 5 st).bind (fun q3 => (if q3.1 ≤ x2 then (some q3.2) else ((g_out 32 q3.2).bind (fun q4 => (g_outTag_40 (g_outTag_13 n9) mF x1 x2 (44 + (28 * x2)) 0 q4))))))
def g_outTag (y1 : Int32) (st : mT) : Option (mT) := ((g_out 60 st).bind (fun q1 => ((g_outName y1 q1).bind (fun q2 => (g_outTag_13 mF y1 0 q2)))))
set_option maxRecDepth 100000 in
set_option maxHeartbeats 8000000 in
theorem cm_outTag (l : Launch) (D : va_G) (dA : Nat → ClassId) (s0 : State) (hE : ms_EV D dA s0) (h0 : hm_T) (r : Nat) (M : Nat → Nat) (hM : mm_ok r M) (z0 : hz_T) (y1 : Int32) (st : mT) (q : mT) (hg : g_outTag y1 st = some q) : ht_C l D s0 yM119 bM119 5 (Option.none : Option Jvm.ClassFile.FieldType) 3 68 0 0 [.ref r, .int y1] (fun h z => h = mm_h dA h0 r M st ∧ z = z0) (fun h z vv h1 z1 => vv = none ∧ h1 = mm_h dA h0 r M q ∧ z1 = z0) := by
  refine ht_C.mk hE.1 (by decide) (Nat.le_of_ble_eq_true rfl) [(0, .ref r), (1, .int y1)] rfl ?_
  intro p e s m below meth c ls h z X hin hpre I hl
  have hx := X.1
  have hb := X.2.1
  have hml := X.2.2.1
  have hown : s.vm.findClass "MarkupStoreModel" = some m.cls := X.2.2.2.1
  have hts := X.2.2.2.2.2.2.1
  have hK := X.2.2.2.2.2.2.2.2.1
  rw [hpre.1, hpre.2] at I
  clear hpre
  have b85 : ∀ (k13 : Int32 → Int32 → mT → Option (mT)), (∀ (ls : Array Slot) (x1 : Int32) (x2 : Int32) (st : mT) (H : Heap) (locs : List Loc), k13 x1 x2 st = some q → lv_has ls 5 [(0, .ref r), (1, .int x1), (2, .int x2)] → hm_I D s0 s (mm_h dA h0 r M st) z0 H locs → W p l e { frames := 3, cells := 0, slots := 0, locals := 68 } s m ([.ref r, .int y1] : List Value).toArray below meth c H locs 0 0 (MQ below (ht_Q D s0 (fun vv h1 z1 => vv = none ∧ h1 = mm_h dA h0 r M q ∧ z1 = z0)) ([.ref r, .int y1] : List Value).toArray s 0 0 (fun q => s0.heap.size ≤ q)) (F0 m 13 ls [])) → ∀ n9 : Nat, ∀ (ls : Array Slot) (x1 : Int32) (x2 : Int32) (x3 : Int32) (x4 : Int32) (st : mT) (H : Heap) (locs : List Loc), g_outTag_85 k13 n9 x1 x2 x3 x4 st = some q → lv_has ls 5 [(0, .ref r), (1, .int x1), (2, .int x2), (3, .int x3), (4, .int x4)] → hm_I D s0 s (mm_h dA h0 r M st) z0 H locs → W p l e { frames := 3, cells := 0, slots := 0, locals := 68 } s m ([.ref r, .int y1] : List Value).toArray below meth c H locs 0 0 (MQ below (ht_Q D s0 (fun vv h1 z1 => vv = none ∧ h1 = mm_h dA h0 r M q ∧ z1 = z0)) ([.ref r, .int y1] : List Value).toArray s 0 0 (fun q => s0.heap.size ≤ q)) (F0 m 85 ls []) := by
    intro k13 hk13 n9
    induction n9 with
    | zero => intro ls x1 x2 x3 x4 st H locs hF; cases hF
    | succ n9 hk85 =>
    intro ls x1 x2 x3 x4 st H locs hF hl I
    unfold g_outTag_85 at hF
    refine lv_iload hx hb d119_85 (lv_at hl 4 rfl) ?_
    refine lv_aload_n hx hb d119_87 rfl (lv_at hl 0 rfl) ?_
    refine lv_iload_n hx hb d119_88 rfl (lv_at hl 1 rfl) ?_
    refine lv_iload_n hx hb d119_89 rfl (lv_at hl 3 rfl) ?_
    refine lv_bipush (v := 7) hx hb d119_90 (by decide) ?_
    refine lv_iadd hx hb d119_92 ?_
    obtain ⟨q7, e9, hF⟩ := mm_bd hF
    refine ht_V (C := "MarkupStoreModel") (rest := [.int x4]) (as := [.int x1, .int (x3 + 7)]) X hl (cm_f l D dA s0 hE h0 r M hM z0 x1 (x3 + 7) st q7 e9) (List.forall_mem_cons.mpr ⟨ms_k1587, List.forall_mem_cons.mpr ⟨ms_k1589, List.forall_mem_cons.mpr ⟨ms_p63, List.forall_mem_cons.mpr ⟨ms_k7, List.forall_mem_cons.mpr ⟨ms_k1590, fun _ h => absurd h List.not_mem_nil⟩⟩⟩⟩⟩) ⟨rfl, by decide +kernel, by decide +kernel, (by decide +kernel : (parseMethodDescriptor "(II)I").map (fun d => d.parameters.length) = some 2)⟩ (hm_recv hK I rfl mm_hr) I ⟨rfl, rfl⟩ ⟨⟨Nat.le_of_ble_eq_true rfl, Nat.le_of_ble_eq_true rfl⟩, Nat.le_of_ble_eq_true rfl, Nat.le_of_ble_eq_true rfl⟩ rfl (Nat.le_of_ble_eq_true rfl) d119_93 (fun vv h1 z1 H locs hR I9 => ?_)
    obtain ⟨e1, e2, e3⟩ := hR
    rw [e2, e3] at I9
    clear I e2 e3 e9
    have I := I9
    clear I9
    subst e1
    refine W.eq (g2 := F0 m 96 ls [.int q7.1, .int x4]) rfl ?_
    refine lv_icmp_ge hx hb d119_96 rfl (fun h9 => ?_) (fun h9 => ?_)
    · have hF := (if_pos h9).symm.trans hF
      refine lv_aload_n hx hb d119_123 rfl (lv_at hl 0 rfl) ?_
      refine lv_bipush (v := 34) hx hb d119_124 (by decide) ?_
      obtain ⟨q8, e9, hF⟩ := mm_bd hF
      refine ht_V (C := "MarkupStoreModel") (rest := []) (as := [.int 34]) X hl (cm_out l D dA s0 hE h0 r M hM z0 34 q7.2 q8 e9) (List.forall_mem_cons.mpr ⟨ms_k1808, List.forall_mem_cons.mpr ⟨ms_k1810, List.forall_mem_cons.mpr ⟨ms_p102, List.forall_mem_cons.mpr ⟨ms_k7, List.forall_mem_cons.mpr ⟨ms_k1811, fun _ h => absurd h List.not_mem_nil⟩⟩⟩⟩⟩) ⟨rfl, by decide +kernel, by decide +kernel, (by decide +kernel : (parseMethodDescriptor "(I)V").map (fun d => d.parameters.length) = some 1)⟩ (hm_recv hK I rfl mm_hr) I ⟨rfl, rfl⟩ ⟨⟨Nat.le_of_ble_eq_true rfl, Nat.le_of_ble_eq_true rfl⟩, Nat.le_of_ble_eq_true rfl, Nat.le_of_ble_eq_true rfl⟩ rfl (Nat.le_of_ble_eq_true rfl) d119_126 (fun vv h1 z1 H locs hR I9 => ?_)
      obtain ⟨e1, e2, e3⟩ := hR
      rw [e2, e3] at I9
      clear I e2 e3 e9
      have I := I9
      clear I9
      subst e1
      refine W.eq (g2 := F0 m 129 ls []) rfl ?_
      refine lv_iinc (k := 2) (v := (x2 + 1)) hx hb d119_129 hl rfl (rfl) (by decide) rfl (fun ls hl => ?_)
      have hl : lv_has ls 5 [(2, .int (x2 + 1)), (0, .ref r), (1, .int x1), (3, .int x3), (4, .int x4)] := hl
      refine lv_goto hx hb d119_132 rfl ?_
      exact hk13 ls x1 (x2 + 1) q8 _ _ hF (hl.sub [1, 2, 0] rfl) I
    · have hF := (if_neg h9).symm.trans hF
      refine lv_aload_n hx hb d119_99 rfl (lv_at hl 0 rfl) ?_
      refine lv_aload_n hx hb d119_100 rfl (lv_at hl 0 rfl) ?_
      refine lv_iload_n hx hb d119_101 rfl (lv_at hl 1 rfl) ?_
      refine lv_iload_n hx hb d119_102 rfl (lv_at hl 3 rfl) ?_
      refine lv_bipush (v := 8) hx hb d119_103 (by decide) ?_
      refine lv_iadd hx hb d119_105 ?_
      refine lv_iload hx hb d119_106 (lv_at hl 4 rfl) ?_
      refine lv_iadd hx hb d119_108 ?_
      obtain ⟨q9, e9, hF⟩ := mm_bd hF
      refine ht_V (C := "MarkupStoreModel") (rest := [.ref r]) (as := [.int x1, .int ((x3 + 8) + x4)]) X hl (cm_f l D dA s0 hE h0 r M hM z0 x1 ((x3 + 8) + x4) q7.2 q9 e9) (List.forall_mem_cons.mpr ⟨ms_k1587, List.forall_mem_cons.mpr ⟨ms_k1589, List.forall_mem_cons.mpr ⟨ms_p63, List.forall_mem_cons.mpr ⟨ms_k7, List.forall_mem_cons.mpr ⟨ms_k1590, fun _ h => absurd h List.not_mem_nil⟩⟩⟩⟩⟩) ⟨rfl, by decide +kernel, by decide +kernel, (by decide +kernel : (parseMethodDescriptor "(II)I").map (fun d => d.parameters.length) = some 2)⟩ (hm_recv hK I rfl mm_hr) I ⟨rfl, rfl⟩ ⟨⟨Nat.le_of_ble_eq_true rfl, Nat.le_of_ble_eq_true rfl⟩, Nat.le_of_ble_eq_true rfl, Nat.le_of_ble_eq_true rfl⟩ rfl (Nat.le_of_ble_eq_true rfl) d119_109 (fun vv h1 z1 H locs hR I9 => ?_)
      obtain ⟨e1, e2, e3⟩ := hR
      rw [e2, e3] at I9
      clear I e2 e3 e9
      have I := I9
      clear I9
      subst e1
      refine W.eq (g2 := F0 m 112 ls [.int q9.1, .ref r]) rfl ?_
      refine lv_bipush (v := 34) hx hb d119_112 (by decide) ?_
      obtain ⟨q10, e9, hF⟩ := mm_bd hF
      refine ht_V (C := "MarkupStoreModel") (rest := []) (as := [.int q9.1, .int 34]) X hl (cm_outValue l D dA s0 hE h0 r M hM z0 q9.1 34 q9.2 q10 e9) (List.forall_mem_cons.mpr ⟨ms_k1820, List.forall_mem_cons.mpr ⟨ms_k1822, List.forall_mem_cons.mpr ⟨ms_p105, List.forall_mem_cons.mpr ⟨ms_k7, List.forall_mem_cons.mpr ⟨ms_k1823, fun _ h => absurd h List.not_mem_nil⟩⟩⟩⟩⟩) ⟨rfl, by decide +kernel, by decide +kernel, (by decide +kernel : (parseMethodDescriptor "(IC)V").map (fun d => d.parameters.length) = some 2)⟩ (hm_recv hK I rfl mm_hr) I ⟨rfl, rfl⟩ ⟨⟨Nat.le_of_ble_eq_true rfl, Nat.le_of_ble_eq_true rfl⟩, Nat.le_of_ble_eq_true rfl, Nat.le_of_ble_eq_true rfl⟩ rfl (Nat.le_of_ble_eq_true rfl) d119_114 (fun vv h1 z1 H locs hR I9 => ?_)
      obtain ⟨e1, e2, e3⟩ := hR
      rw [e2, e3] at I9
      clear I e2 e3 e9
      have I := I9
      clear I9
      subst e1
      refine W.eq (g2 := F0 m 117 ls []) rfl ?_
      refine lv_iinc (k := 4) (v := (x4 + 1)) hx hb d119_117 hl rfl (rfl) (by decide) rfl (fun ls hl => ?_)
      have hl : lv_has ls 5 [(4, .int (x4 + 1)), (0, .ref r), (1, .int x1), (2, .int x2), (3, .int x3)] := hl
      refine lv_goto hx hb d119_120 rfl ?_
      exact hk85 ls x1 x2 x3 (x4 + 1) q10 _ _ hF (hl.sub [1, 2, 3, 4, 0] rfl) I
  have b40 : ∀ (k13 : Int32 → Int32 → mT → Option (mT)), (∀ (ls : Array Slot) (x1 : Int32) (x2 : Int32) (st : mT) (H : Heap) (locs : List Loc), k13 x1 x2 st = some q → lv_has ls 5 [(0, .ref r), (1, .int x1), (2, .int x2)] → hm_I D s0 s (mm_h dA h0 r M st) z0 H locs → W p l e { frames := 3, cells := 0, slots := 0, locals := 68 } s m ([.ref r, .int y1] : List Value).toArray below meth c H locs 0 0 (MQ below (ht_Q D s0 (fun vv h1 z1 => vv = none ∧ h1 = mm_h dA h0 r M q ∧ z1 = z0)) ([.ref r, .int y1] : List Value).toArray s 0 0 (fun q => s0.heap.size ≤ q)) (F0 m 13 ls [])) → ∀ n9 : Nat, ∀ (ls : Array Slot) (x1 : Int32) (x2 : Int32) (x3 : Int32) (x4 : Int32) (st : mT) (H : Heap) (locs : List Loc), g_outTag_40 k13 n9 x1 x2 x3 x4 st = some q → lv_has ls 5 [(0, .ref r), (1, .int x1), (2, .int x2), (3, .int x3), (4, .int x4)] → hm_I D s0 s (mm_h dA h0 r M st) z0 H locs → W p l e { frames := 3, cells := 0, slots := 0, locals := 68 } s m ([.ref r, .int y1] : List Value).toArray below meth c H locs 0 0 (MQ below (ht_Q D s0 (fun vv h1 z1 => vv = none ∧ h1 = mm_h dA h0 r M q ∧ z1 = z0)) ([.ref r, .int y1] : List Value).toArray s 0 0 (fun q => s0.heap.size ≤ q)) (F0 m 40 ls []) := by
    intro k13 hk13 n9
    induction n9 with
    | zero => intro ls x1 x2 x3 x4 st H locs hF; cases hF
    | succ n9 hk40 =>
    intro ls x1 x2 x3 x4 st H locs hF hl I
    unfold g_outTag_40 at hF
    refine lv_iload hx hb d119_40 (lv_at hl 4 rfl) ?_
    refine lv_aload_n hx hb d119_42 rfl (lv_at hl 0 rfl) ?_
    refine lv_iload_n hx hb d119_43 rfl (lv_at hl 1 rfl) ?_
    refine lv_iload_n hx hb d119_44 rfl (lv_at hl 3 rfl) ?_
    obtain ⟨q5, e9, hF⟩ := mm_bd hF
    refine ht_V (C := "MarkupStoreModel") (rest := [.int x4]) (as := [.int x1, .int x3]) X hl (cm_f l D dA s0 hE h0 r M hM z0 x1 x3 st q5 e9) (List.forall_mem_cons.mpr ⟨ms_k1587, List.forall_mem_cons.mpr ⟨ms_k1589, List.forall_mem_cons.mpr ⟨ms_p63, List.forall_mem_cons.mpr ⟨ms_k7, List.forall_mem_cons.mpr ⟨ms_k1590, fun _ h => absurd h List.not_mem_nil⟩⟩⟩⟩⟩) ⟨rfl, by decide +kernel, by decide +kernel, (by decide +kernel : (parseMethodDescriptor "(II)I").map (fun d => d.parameters.length) = some 2)⟩ (hm_recv hK I rfl mm_hr) I ⟨rfl, rfl⟩ ⟨⟨Nat.le_of_ble_eq_true rfl, Nat.le_of_ble_eq_true rfl⟩, Nat.le_of_ble_eq_true rfl, Nat.le_of_ble_eq_true rfl⟩ rfl (Nat.le_of_ble_eq_true rfl) d119_45 (fun vv h1 z1 H locs hR I9 => ?_)
    obtain ⟨e1, e2, e3⟩ := hR
    rw [e2, e3] at I9
    clear I e2 e3 e9
    have I := I9
    clear I9
    subst e1
    refine W.eq (g2 := F0 m 48 ls [.int q5.1, .int x4]) rfl ?_
    refine lv_icmp_ge hx hb d119_48 rfl (fun h9 => ?_) (fun h9 => ?_)
    · have hF := (if_pos h9).symm.trans hF
      refine lv_aload_n hx hb d119_72 rfl (lv_at hl 0 rfl) ?_
      refine lv_bipush (v := 61) hx hb d119_73 (by decide) ?_
      refine lv_bipush (v := 34) hx hb d119_75 (by decide) ?_
      refine lv_iconst (v := 0) hx hb d119_77 (by decide) ?_
      refine lv_iconst (v := 0) hx hb d119_78 (by decide) ?_
      obtain ⟨q6, e9, hF⟩ := mm_bd hF
      refine ht_V (C := "MarkupStoreModel") (rest := []) (as := [.int 61, .int 34, .int 0, .int 0]) X hl (cm_outFour l D dA s0 hE h0 r M hM z0 61 34 0 0 q5.2 q6 e9) (List.forall_mem_cons.mpr ⟨ms_k1816, List.forall_mem_cons.mpr ⟨ms_k1818, List.forall_mem_cons.mpr ⟨ms_p104, List.forall_mem_cons.mpr ⟨ms_k7, List.forall_mem_cons.mpr ⟨ms_k1819, fun _ h => absurd h List.not_mem_nil⟩⟩⟩⟩⟩) ⟨rfl, by decide +kernel, by decide +kernel, (by decide +kernel : (parseMethodDescriptor "(IIII)V").map (fun d => d.parameters.length) = some 4)⟩ (hm_recv hK I rfl mm_hr) I ⟨rfl, rfl⟩ ⟨⟨Nat.le_of_ble_eq_true rfl, Nat.le_of_ble_eq_true rfl⟩, Nat.le_of_ble_eq_true rfl, Nat.le_of_ble_eq_true rfl⟩ rfl (Nat.le_of_ble_eq_true rfl) d119_79 (fun vv h1 z1 H locs hR I9 => ?_)
      obtain ⟨e1, e2, e3⟩ := hR
      rw [e2, e3] at I9
      clear I e2 e3 e9
      have I := I9
      clear I9
      subst e1
      refine W.eq (g2 := F0 m 82 ls []) rfl ?_
      refine lv_iconst (v := 0) hx hb d119_82 (by decide) ?_
      refine lv_istore hx hb d119_83 hl (by decide) rfl (fun ls hl => ?_)
      have hl : lv_has ls 5 [(4, .int 0), (0, .ref r), (1, .int x1), (2, .int x2), (3, .int x3)] := hl
      exact b85 k13 hk13 mF ls x1 x2 x3 0 q6 _ _ hF (hl.sub [1, 2, 3, 4, 0] rfl) I
    · have hF := (if_neg h9).symm.trans hF
      refine lv_aload_n hx hb d119_51 rfl (lv_at hl 0 rfl) ?_
      refine lv_aload_n hx hb d119_52 rfl (lv_at hl 0 rfl) ?_
      refine lv_iload_n hx hb d119_53 rfl (lv_at hl 1 rfl) ?_
      refine lv_iload_n hx hb d119_54 rfl (lv_at hl 3 rfl) ?_
      refine lv_iconst (v := 1) hx hb d119_55 (by decide) ?_
      refine lv_iadd hx hb d119_56 ?_
      refine lv_iload hx hb d119_57 (lv_at hl 4 rfl) ?_
      refine lv_iadd hx hb d119_59 ?_
      obtain ⟨q11, e9, hF⟩ := mm_bd hF
      refine ht_V (C := "MarkupStoreModel") (rest := [.ref r]) (as := [.int x1, .int ((x3 + 1) + x4)]) X hl (cm_f l D dA s0 hE h0 r M hM z0 x1 ((x3 + 1) + x4) q5.2 q11 e9) (List.forall_mem_cons.mpr ⟨ms_k1587, List.forall_mem_cons.mpr ⟨ms_k1589, List.forall_mem_cons.mpr ⟨ms_p63, List.forall_mem_cons.mpr ⟨ms_k7, List.forall_mem_cons.mpr ⟨ms_k1590, fun _ h => absurd h List.not_mem_nil⟩⟩⟩⟩⟩) ⟨rfl, by decide +kernel, by decide +kernel, (by decide +kernel : (parseMethodDescriptor "(II)I").map (fun d => d.parameters.length) = some 2)⟩ (hm_recv hK I rfl mm_hr) I ⟨rfl, rfl⟩ ⟨⟨Nat.le_of_ble_eq_true rfl, Nat.le_of_ble_eq_true rfl⟩, Nat.le_of_ble_eq_true rfl, Nat.le_of_ble_eq_true rfl⟩ rfl (Nat.le_of_ble_eq_true rfl) d119_60 (fun vv h1 z1 H locs hR I9 => ?_)
      obtain ⟨e1, e2, e3⟩ := hR
      rw [e2, e3] at I9
      clear I e2 e3 e9
      have I := I9
      clear I9
      subst e1
      refine W.eq (g2 := F0 m 63 ls [.int q11.1, .ref r]) rfl ?_
      obtain ⟨q12, e9, hF⟩ := mm_bd hF
      refine ht_V (C := "MarkupStoreModel") (rest := []) (as := [.int q11.1]) X hl (cm_out l D dA s0 hE h0 r M hM z0 q11.1 q11.2 q12 e9) (List.forall_mem_cons.mpr ⟨ms_k1808, List.forall_mem_cons.mpr ⟨ms_k1810, List.forall_mem_cons.mpr ⟨ms_p102, List.forall_mem_cons.mpr ⟨ms_k7, List.forall_mem_cons.mpr ⟨ms_k1811, fun _ h => absurd h List.not_mem_nil⟩⟩⟩⟩⟩) ⟨rfl, by decide +kernel, by decide +kernel, (by decide +kernel : (parseMethodDescriptor "(I)V").map (fun d => d.parameters.length) = some 1)⟩ (hm_recv hK I rfl mm_hr) I ⟨rfl, rfl⟩ ⟨⟨Nat.le_of_ble_eq_true rfl, Nat.le_of_ble_eq_true rfl⟩, Nat.le_of_ble_eq_true rfl, Nat.le_of_ble_eq_true rfl⟩ rfl (Nat.le_of_ble_eq_true rfl) d119_63 (fun vv h1 z1 H locs hR I9 => ?_)
      obtain ⟨e1, e2, e3⟩ := hR
      rw [e2, e3] at I9
      clear I e2 e3 e9
      have I := I9
      clear I9
      subst e1
      refine W.eq (g2 := F0 m 66 ls []) rfl ?_
      refine lv_iinc (k := 4) (v := (x4 + 1)) hx hb d119_66 hl rfl (rfl) (by decide) rfl (fun ls hl => ?_)
      have hl : lv_has ls 5 [(4, .int (x4 + 1)), (0, .ref r), (1, .int x1), (2, .int x2), (3, .int x3)] := hl
      refine lv_goto hx hb d119_69 rfl ?_
      exact hk40 ls x1 x2 x3 (x4 + 1) q12 _ _ hF (hl.sub [1, 2, 3, 4, 0] rfl) I
  have b13 : ∀ n9 : Nat, ∀ (ls : Array Slot) (x1 : Int32) (x2 : Int32) (st : mT) (H : Heap) (locs : List Loc), g_outTag_13 n9 x1 x2 st = some q → lv_has ls 5 [(0, .ref r), (1, .int x1), (2, .int x2)] → hm_I D s0 s (mm_h dA h0 r M st) z0 H locs → W p l e { frames := 3, cells := 0, slots := 0, locals := 68 } s m ([.ref r, .int y1] : List Value).toArray below meth c H locs 0 0 (MQ below (ht_Q D s0 (fun vv h1 z1 => vv = none ∧ h1 = mm_h dA h0 r M q ∧ z1 = z0)) ([.ref r, .int y1] : List Value).toArray s 0 0 (fun q => s0.heap.size ≤ q)) (F0 m 13 ls []) := by
    intro n9
    induction n9 with
    | zero => intro ls x1 x2 st H locs hF; cases hF
    | succ n9 hk13 =>
    intro ls x1 x2 st H locs hF hl I
    unfold g_outTag_13 at hF
    refine lv_iload_n hx hb d119_13 rfl (lv_at hl 2 rfl) ?_
    refine lv_aload_n hx hb d119_14 rfl (lv_at hl 0 rfl) ?_
    refine lv_iload_n hx hb d119_15 rfl (lv_at hl 1 rfl) ?_
    refine lv_iconst (v := 5) hx hb d119_16 (by decide) ?_
    obtain ⟨q3, e9, hF⟩ := mm_bd hF
    refine ht_V (C := "MarkupStoreModel") (rest := [.int x2]) (as := [.int x1, .int 5]) X hl (cm_f l D dA s0 hE h0 r M hM z0 x1 5 st q3 e9) (List.forall_mem_cons.mpr ⟨ms_k1587, List.forall_mem_cons.mpr ⟨ms_k1589, List.forall_mem_cons.mpr ⟨ms_p63, List.forall_mem_cons.mpr ⟨ms_k7, List.forall_mem_cons.mpr ⟨ms_k1590, fun _ h => absurd h List.not_mem_nil⟩⟩⟩⟩⟩) ⟨rfl, by decide +kernel, by decide +kernel, (by decide +kernel : (parseMethodDescriptor "(II)I").map (fun d => d.parameters.length) = some 2)⟩ (hm_recv hK I rfl mm_hr) I ⟨rfl, rfl⟩ ⟨⟨Nat.le_of_ble_eq_true rfl, Nat.le_of_ble_eq_true rfl⟩, Nat.le_of_ble_eq_true rfl, Nat.le_of_ble_eq_true rfl⟩ rfl (Nat.le_of_ble_eq_true rfl) d119_17 (fun vv h1 z1 H locs hR I9 => ?_)
    obtain ⟨e1, e2, e3⟩ := hR
    rw [e2, e3] at I9
    clear I e2 e3 e9
    have I := I9
    clear I9
    subst e1
    refine W.eq (g2 := F0 m 20 ls [.int q3.1, .int x2]) rfl ?_
    refine lv_icmp_ge hx hb d119_20 rfl (fun h9 => ?_) (fun h9 => ?_)
    · have hF := (if_pos h9).symm.trans hF
      exact ht_vret X d119_135 I (Nat.le_of_ble_eq_true rfl) (Nat.le_of_ble_eq_true rfl) (mm_finV hF)
    · have hF := (if_neg h9).symm.trans hF
      refine lv_bipush (v := 44) hx hb d119_23 (by decide) ?_
      refine lv_bipush (v := 28) hx hb d119_25 (by decide) ?_
      refine lv_iload_n hx hb d119_27 rfl (lv_at hl 2 rfl) ?_
      refine lv_imul hx hb d119_28 ?_
      refine lv_iadd hx hb d119_29 ?_
      refine lv_istore_n hx hb d119_30 rfl hl (by decide) rfl (fun ls hl => ?_)
      have hl : lv_has ls 5 [(3, .int (44 + (28 * x2))), (0, .ref r), (1, .int x1), (2, .int x2)] := hl
      refine lv_aload_n hx hb d119_31 rfl (lv_at hl 1 rfl) ?_
      refine lv_bipush (v := 32) hx hb d119_32 (by decide) ?_
      obtain ⟨q4, e9, hF⟩ := mm_bd hF
      refine ht_V (C := "MarkupStoreModel") (rest := []) (as := [.int 32]) X hl (cm_out l D dA s0 hE h0 r M hM z0 32 q3.2 q4 e9) (List.forall_mem_cons.mpr ⟨ms_k1808, List.forall_mem_cons.mpr ⟨ms_k1810, List.forall_mem_cons.mpr ⟨ms_p102, List.forall_mem_cons.mpr ⟨ms_k7, List.forall_mem_cons.mpr ⟨ms_k1811, fun _ h => absurd h List.not_mem_nil⟩⟩⟩⟩⟩) ⟨rfl, by decide +kernel, by decide +kernel, (by decide +kernel : (parseMethodDescriptor "(I)V").map (fun d => d.parameters.length) = some 1)⟩ (hm_recv hK I rfl mm_hr) I ⟨rfl, rfl⟩ ⟨⟨Nat.le_of_ble_eq_true rfl, Nat.le_of_ble_eq_true rfl⟩, Nat.le_of_ble_eq_true rfl, Nat.le_of_ble_eq_true rfl⟩ rfl (Nat.le_of_ble_eq_true rfl) d119_34 (fun vv h1 z1 H locs hR I9 => ?_)
      obtain ⟨e1, e2, e3⟩ := hR
      rw [e2, e3] at I9
      clear I e2 e3 e9
      have I := I9
      clear I9
      subst e1
      refine W.eq (g2 := F0 m 37 ls []) rfl ?_
      refine lv_iconst (v := 0) hx hb d119_37 (by decide) ?_
      refine lv_istore hx hb d119_38 hl (by decide) rfl (fun ls hl => ?_)
      have hl : lv_has ls 5 [(4, .int 0), (3, .int (44 + (28 * x2))), (0, .ref r), (1, .int x1), (2, .int x2)] := hl
      exact b40 (g_outTag_13 n9) hk13 mF ls x1 x2 (44 + (28 * x2)) 0 q4 _ _ hF (hl.sub [2, 3, 4, 1, 0] rfl) I
  have hF := hg
  unfold g_outTag at hF
  refine lv_aload_n hx hb d119_0 rfl (lv_at hl 0 rfl) ?_
  refine lv_bipush (v := 60) hx hb d119_1 (by decide) ?_
  obtain ⟨q1, e9, hF⟩ := mm_bd hF
  refine ht_V (C := "MarkupStoreModel") (rest := []) (as := [.int 60]) X hl (cm_out l D dA s0 hE h0 r M hM z0 60 st q1 e9) (List.forall_mem_cons.mpr ⟨ms_k1808, List.forall_mem_cons.mpr ⟨ms_k1810, List.forall_mem_cons.mpr ⟨ms_p102, List.forall_mem_cons.mpr ⟨ms_k7, List.forall_mem_cons.mpr ⟨ms_k1811, fun _ h => absurd h List.not_mem_nil⟩⟩⟩⟩⟩) ⟨rfl, by decide +kernel, by decide +kernel, (by decide +kernel : (parseMethodDescriptor "(I)V").map (fun d => d.parameters.length) = some 1)⟩ (hm_recv hK I rfl mm_hr) I ⟨rfl, rfl⟩ ⟨⟨Nat.le_of_ble_eq_true rfl, Nat.le_of_ble_eq_true rfl⟩, Nat.le_of_ble_eq_true rfl, Nat.le_of_ble_eq_true rfl⟩ rfl (Nat.le_of_ble_eq_true rfl) d119_3 (fun vv h1 z1 H locs hR I9 => ?_)
  obtain ⟨e1, e2, e3⟩ := hR
  rw [e2, e3] at I9
  clear I e2 e3 e9
  have I := I9
  clear I9
  subst e1
  refine W.eq (g2 := F0 m 6 ls []) rfl ?_
  refine lv_aload_n hx hb d119_6 rfl (lv_at hl 0 rfl) ?_
  refine lv_iload_n hx hb d119_7 rfl (lv_at hl 1 rfl) ?_
  obtain ⟨q2, e9, hF⟩ := mm_bd hF
  refine ht_V (C := "MarkupStoreModel") (rest := []) (as := [.int y1]) X hl (cm_outName l D dA s0 hE h0 r M hM z0 y1 q1 q2 e9) (List.forall_mem_cons.mpr ⟨ms_k1812, List.forall_mem_cons.mpr ⟨ms_k1814, List.forall_mem_cons.mpr ⟨ms_p103, List.forall_mem_cons.mpr ⟨ms_k7, List.forall_mem_cons.mpr ⟨ms_k1815, fun _ h => absurd h List.not_mem_nil⟩⟩⟩⟩⟩) ⟨rfl, by decide +kernel, by decide +kernel, (by decide +kernel : (parseMethodDescriptor "(I)V").map (fun d => d.parameters.length) = some 1)⟩ (hm_recv hK I rfl mm_hr) I ⟨rfl, rfl⟩ ⟨⟨Nat.le_of_ble_eq_true rfl, Nat.le_of_ble_eq_true rfl⟩, Nat.le_of_ble_eq_true rfl, Nat.le_of_ble_eq_true rfl⟩ rfl (Nat.le_of_ble_eq_true rfl) d119_8 (fun vv h1 z1 H locs hR I9 => ?_)
  obtain ⟨e1, e2, e3⟩ := hR
  rw [e2, e3] at I9
  clear I e2 e3 e9
  have I := I9
  clear I9
  subst e1
  refine W.eq (g2 := F0 m 11 ls []) rfl ?_
  refine lv_iconst (v := 0) hx hb d119_11 (by decide) ?_
  refine lv_istore_n hx hb d119_12 rfl hl (by decide) rfl (fun ls hl => ?_)
  have hl : lv_has ls 5 [(2, .int 0), (0, .ref r), (1, .int y1)] := hl
  exact b13 mF ls y1 0 q2 _ _ hF (hl.sub [1, 2, 0] rfl) I

def g_outComment (y1 : Int32) (st : mT) : Option (mT) := ((g_outFour 60 33 45 45 st).bind (fun q1 => ((g_outName y1 q1).bind (fun q2 => ((g_outFour 45 45 62 0 q2).bind (fun q3 => (some q3)))))))
set_option maxRecDepth 100000 in
set_option maxHeartbeats 8000000 in
theorem cm_outComment (l : Launch) (D : va_G) (dA : Nat → ClassId) (s0 : State) (hE : ms_EV D dA s0) (h0 : hm_T) (r : Nat) (M : Nat → Nat) (hM : mm_ok r M) (z0 : hz_T) (y1 : Int32) (st : mT) (q : mT) (hg : g_outComment y1 st = some q) : ht_C l D s0 yM120 bM120 2 (Option.none : Option Jvm.ClassFile.FieldType) 2 45 0 0 [.ref r, .int y1] (fun h z => h = mm_h dA h0 r M st ∧ z = z0) (fun h z vv h1 z1 => vv = none ∧ h1 = mm_h dA h0 r M q ∧ z1 = z0) := by
  refine ht_C.mk hE.1 (by decide) (Nat.le_of_ble_eq_true rfl) [(0, .ref r), (1, .int y1)] rfl ?_
  intro p e s m below meth c ls h z X hin hpre I hl
  have hx := X.1
  have hb := X.2.1
  have hml := X.2.2.1
  have hown : s.vm.findClass "MarkupStoreModel" = some m.cls := X.2.2.2.1
  have hts := X.2.2.2.2.2.2.1
  have hK := X.2.2.2.2.2.2.2.2.1
  rw [hpre.1, hpre.2] at I
  clear hpre
  have hF := hg
  unfold g_outComment at hF
  refine lv_aload_n hx hb d120_0 rfl (lv_at hl 0 rfl) ?_
  refine lv_bipush (v := 60) hx hb d120_1 (by decide) ?_
  refine lv_bipush (v := 33) hx hb d120_3 (by decide) ?_
  refine lv_bipush (v := 45) hx hb d120_5 (by decide) ?_
  refine lv_bipush (v := 45) hx hb d120_7 (by decide) ?_
  obtain ⟨q1, e9, hF⟩ := mm_bd hF
  refine ht_V (C := "MarkupStoreModel") (rest := []) (as := [.int 60, .int 33, .int 45, .int 45]) X hl (cm_outFour l D dA s0 hE h0 r M hM z0 60 33 45 45 st q1 e9) (List.forall_mem_cons.mpr ⟨ms_k1816, List.forall_mem_cons.mpr ⟨ms_k1818, List.forall_mem_cons.mpr ⟨ms_p104, List.forall_mem_cons.mpr ⟨ms_k7, List.forall_mem_cons.mpr ⟨ms_k1819, fun _ h => absurd h List.not_mem_nil⟩⟩⟩⟩⟩) ⟨rfl, by decide +kernel, by decide +kernel, (by decide +kernel : (parseMethodDescriptor "(IIII)V").map (fun d => d.parameters.length) = some 4)⟩ (hm_recv hK I rfl mm_hr) I ⟨rfl, rfl⟩ ⟨⟨Nat.le_of_ble_eq_true rfl, Nat.le_of_ble_eq_true rfl⟩, Nat.le_of_ble_eq_true rfl, Nat.le_of_ble_eq_true rfl⟩ rfl (Nat.le_of_ble_eq_true rfl) d120_9 (fun vv h1 z1 H locs hR I9 => ?_)
  obtain ⟨e1, e2, e3⟩ := hR
  rw [e2, e3] at I9
  clear I e2 e3 e9
  have I := I9
  clear I9
  subst e1
  refine W.eq (g2 := F0 m 12 ls []) rfl ?_
  refine lv_aload_n hx hb d120_12 rfl (lv_at hl 0 rfl) ?_
  refine lv_iload_n hx hb d120_13 rfl (lv_at hl 1 rfl) ?_
  obtain ⟨q2, e9, hF⟩ := mm_bd hF
  refine ht_V (C := "MarkupStoreModel") (rest := []) (as := [.int y1]) X hl (cm_outName l D dA s0 hE h0 r M hM z0 y1 q1 q2 e9) (List.forall_mem_cons.mpr ⟨ms_k1812, List.forall_mem_cons.mpr ⟨ms_k1814, List.forall_mem_cons.mpr ⟨ms_p103, List.forall_mem_cons.mpr ⟨ms_k7, List.forall_mem_cons.mpr ⟨ms_k1815, fun _ h => absurd h List.not_mem_nil⟩⟩⟩⟩⟩) ⟨rfl, by decide +kernel, by decide +kernel, (by decide +kernel : (parseMethodDescriptor "(I)V").map (fun d => d.parameters.length) = some 1)⟩ (hm_recv hK I rfl mm_hr) I ⟨rfl, rfl⟩ ⟨⟨Nat.le_of_ble_eq_true rfl, Nat.le_of_ble_eq_true rfl⟩, Nat.le_of_ble_eq_true rfl, Nat.le_of_ble_eq_true rfl⟩ rfl (Nat.le_of_ble_eq_true rfl) d120_14 (fun vv h1 z1 H locs hR I9 => ?_)
  obtain ⟨e1, e2, e3⟩ := hR
  rw [e2, e3] at I9
  clear I e2 e3 e9
  have I := I9
  clear I9
  subst e1
  refine W.eq (g2 := F0 m 17 ls []) rfl ?_
  refine lv_aload_n hx hb d120_17 rfl (lv_at hl 0 rfl) ?_
  refine lv_bipush (v := 45) hx hb d120_18 (by decide) ?_
  refine lv_bipush (v := 45) hx hb d120_20 (by decide) ?_
  refine lv_bipush (v := 62) hx hb d120_22 (by decide) ?_
  refine lv_iconst (v := 0) hx hb d120_24 (by decide) ?_
  obtain ⟨q3, e9, hF⟩ := mm_bd hF
  refine ht_V (C := "MarkupStoreModel") (rest := []) (as := [.int 45, .int 45, .int 62, .int 0]) X hl (cm_outFour l D dA s0 hE h0 r M hM z0 45 45 62 0 q2 q3 e9) (List.forall_mem_cons.mpr ⟨ms_k1816, List.forall_mem_cons.mpr ⟨ms_k1818, List.forall_mem_cons.mpr ⟨ms_p104, List.forall_mem_cons.mpr ⟨ms_k7, List.forall_mem_cons.mpr ⟨ms_k1819, fun _ h => absurd h List.not_mem_nil⟩⟩⟩⟩⟩) ⟨rfl, by decide +kernel, by decide +kernel, (by decide +kernel : (parseMethodDescriptor "(IIII)V").map (fun d => d.parameters.length) = some 4)⟩ (hm_recv hK I rfl mm_hr) I ⟨rfl, rfl⟩ ⟨⟨Nat.le_of_ble_eq_true rfl, Nat.le_of_ble_eq_true rfl⟩, Nat.le_of_ble_eq_true rfl, Nat.le_of_ble_eq_true rfl⟩ rfl (Nat.le_of_ble_eq_true rfl) d120_25 (fun vv h1 z1 H locs hR I9 => ?_)
  obtain ⟨e1, e2, e3⟩ := hR
  rw [e2, e3] at I9
  clear I e2 e3 e9
  have I := I9
  clear I9
  subst e1
  refine W.eq (g2 := F0 m 28 ls []) rfl ?_
  exact ht_vret X d120_28 I (Nat.le_of_ble_eq_true rfl) (Nat.le_of_ble_eq_true rfl) (mm_finV hF)

def g_write_213 (k17 : Int32 → mT → Option (mT)) (x2 : Int32) (st : mT) : Option (mT) := (k17 (x2 + 1) st)
def g_write_153 (k17 : Int32 → mT → Option (mT)) : Nat → Int32 → Int32 → Int32 → mT → Option (mT)
  | 0, _, _, _, _ => none
  | n9 + 1, x2, x4, x5, st => (if x5 < 0 then (g_write_213 k17 x2 st) else (if x4 = 0 then (g_write_213 k17 x2 st) else ((g_order x5 st).bind (fun q11 => ((g_end q11.1 q11.2).bind (fun q12 => (if q12.1 = (x2 + 1) then ((g_outFour 60 47 0 0 q12.2).bind (fun q13 => ((g_outName x5 q13).bind (fun q14 => ((g_out 62 q14).bind (fun q15 => ((g_f x5 2 q15).bind (fun q16 => ((g_write_153 k17 n9) x2 x4 q16.1 q16.2))))))))) else (g_write_213 k17 x2 q12.2))))))))
def g_write_145 (k17 : Int32 → mT → Option (mT)) (x2 : Int32) (x3 : Int32) (x4 : Int32) (st : mT) : Option (mT) := ((g_f x3 2 st).bind (fun q10 => (g_write_153 k17 mF x2 x4 q10.1 q10.2)))
def g_write_102 (k17 : Int32 → mT → Option (mT)) : Nat → Int32 → Int32 → Int32 → Int32 → mT → Option (mT)
  | 0, _, _, _, _, _ => none
  | n9 + 1, x2, x3, x4, x5, st => ((g_f x3 3 st).bind (fun q9 => (if q9.1 ≤ x5 then (g_write_145 k17 x2 x3 x4 q9.2) else ((g_f x3 1 q9.2).bind (fun q17 => (if q17.1 = 2 then ((g_f x3 (8 + x5) q17.2).bind (fun q18 => ((g_outValue q18.1 62 q18.2).bind (fun q19 => ((g_write_102 k17 n9) x2 x3 x4 (x5 + 1) q19))))) else (g_write_145 k17 x2 x3 x4 q17.2)))))))
def g_write_99 (k17 : Int32 → mT → Option (mT)) (x2 : Int32) (x3 : Int32) (x4 : Int32) (st : mT) : Option (mT) := (g_write_102 k17 mF x2 x3 x4 0 st)
def g_write_75 (k17 : Int32 → mT → Option (mT)) (x2 : Int32) (x3 : Int32) (x4 : Int32) (st : mT) : Option (mT) := ((g_out 62 st).bind (fun q22 => (g_write_99 k17 x2 x3 x4 q22)))
def g_write_47 (k17 : Int32 → mT → Option (mT)) (x2 : Int32) (x3 : Int32) (w0 : Int32) (st : mT) : Option (mT) := ((g_f x3 1 st).bind (fun q7 => (if q7.1 = 1 then ((g_outTag x3 q7.2).bind (fun q21 => (if w0 = 0 then (g_write_75 k17 x2 x3 w0 q21) else ((g_out 47 q21).bind (fun q23 => (g_write_75 k17 x2 x3 w0 q23)))))) else ((g_f x3 1 q7.2).bind (fun q8 => (if q8.1 = 3 then ((g_outComment x3 q8.2).bind (fun q20 => (g_write_99 k17 x2 x3 w0 q20))) else (g_write_99 k17 x2 x3 w0 q8.2)))))))
def g_write_17 : Nat → Int32 → mT → Option (mT)
  | 0, _, _ => none
  | n9 + 1, x2, st => ((g_count st).bind (fun q4 => (if q4.1 ≤ x2 then (some q4.2) else ((g_doc x2 q4.2).bind (fun q5 => ((g_end x2 q5.2).bind (fun q6 => (if q6.1 = (x2 + 1) then (g_write_47 (g_write_17 n9) x2 q5.1 1 q6.2) else (g_write_47 (g_write_17 n9) x2 q5.1 0 q6.2)))))))))
def g_write (y1 : Int32) (st : mT) : Option (mT) := (mm_lt (mm_F st 58 y1) (fun st1 => (mm_lt (mm_F st1 57 0) (fun st2 => (mm_lt (mm_F st2 59 0) (fun st3 => (g_write_17 mF 0 st3)))))))
set_option maxRecDepth 100000 in
set_option maxHeartbeats 8000000 in
theorem cm_write (l : Launch) (D : va_G) (dA : Nat → ClassId) (s0 : State) (hE : ms_EV D dA s0) (h0 : hm_T) (r : Nat) (M : Nat → Nat) (hM : mm_ok r M) (z0 : hz_T) (y1 : Int32) (st : mT) (q : mT) (hg : g_write y1 st = some q) : ht_C l D s0 yM121 bM121 6 (Option.none : Option Jvm.ClassFile.FieldType) 4 92 0 0 [.ref r, .int y1] (fun h z => h = mm_h dA h0 r M st ∧ z = z0) (fun h z vv h1 z1 => vv = none ∧ h1 = mm_h dA h0 r M q ∧ z1 = z0) := by
  refine ht_C.mk hE.1 (by decide) (Nat.le_of_ble_eq_true rfl) [(0, .ref r), (1, .int y1)] rfl ?_
  intro p e s m below meth c ls h z X hin hpre I hl
  have hx := X.1
  have hb := X.2.1
  have hml := X.2.2.1
  have hown : s.vm.findClass "MarkupStoreModel" = some m.cls := X.2.2.2.1
  have hts := X.2.2.2.2.2.2.1
  have hK := X.2.2.2.2.2.2.2.2.1
  rw [hpre.1, hpre.2] at I
  clear hpre
  have b213 : ∀ (k17 : Int32 → mT → Option (mT)), (∀ (ls : Array Slot) (x2 : Int32) (st : mT) (H : Heap) (locs : List Loc), k17 x2 st = some q → lv_has ls 6 [(0, .ref r), (2, .int x2)] → hm_I D s0 s (mm_h dA h0 r M st) z0 H locs → W p l e { frames := 4, cells := 0, slots := 0, locals := 92 } s m ([.ref r, .int y1] : List Value).toArray below meth c H locs 0 0 (MQ below (ht_Q D s0 (fun vv h1 z1 => vv = none ∧ h1 = mm_h dA h0 r M q ∧ z1 = z0)) ([.ref r, .int y1] : List Value).toArray s 0 0 (fun q => s0.heap.size ≤ q)) (F0 m 17 ls [])) → ∀ (ls : Array Slot) (x2 : Int32) (st : mT) (H : Heap) (locs : List Loc), g_write_213 k17 x2 st = some q → lv_has ls 6 [(0, .ref r), (2, .int x2)] → hm_I D s0 s (mm_h dA h0 r M st) z0 H locs → W p l e { frames := 4, cells := 0, slots := 0, locals := 92 } s m ([.ref r, .int y1] : List Value).toArray below meth c H locs 0 0 (MQ below (ht_Q D s0 (fun vv h1 z1 => vv = none ∧ h1 = mm_h dA h0 r M q ∧ z1 = z0)) ([.ref r, .int y1] : List Value).toArray s 0 0 (fun q => s0.heap.size ≤ q)) (F0 m 213 ls []) := by
    intro k17 hk17 ls x2 st H locs hF hl I
    unfold g_write_213 at hF
    refine lv_iinc (k := 1) (v := (x2 + 1)) hx hb d121_213 hl rfl (rfl) (by decide) rfl (fun ls hl => ?_)
    have hl : lv_has ls 6 [(2, .int (x2 + 1)), (0, .ref r)] := hl
    refine lv_goto hx hb d121_216 rfl ?_
    exact hk17 ls (x2 + 1) st _ _ hF (hl.sub [1, 0] rfl) I
  have b153 : ∀ (k17 : Int32 → mT → Option (mT)), (∀ (ls : Array Slot) (x2 : Int32) (st : mT) (H : Heap) (locs : List Loc), k17 x2 st = some q → lv_has ls 6 [(0, .ref r), (2, .int x2)] → hm_I D s0 s (mm_h dA h0 r M st) z0 H locs → W p l e { frames := 4, cells := 0, slots := 0, locals := 92 } s m ([.ref r, .int y1] : List Value).toArray below meth c H locs 0 0 (MQ below (ht_Q D s0 (fun vv h1 z1 => vv = none ∧ h1 = mm_h dA h0 r M q ∧ z1 = z0)) ([.ref r, .int y1] : List Value).toArray s 0 0 (fun q => s0.heap.size ≤ q)) (F0 m 17 ls [])) → ∀ n9 : Nat, ∀ (ls : Array Slot) (x2 : Int32) (x4 : Int32) (x5 : Int32) (st : mT) (H : Heap) (locs : List Loc), g_write_153 k17 n9 x2 x4 x5 st = some q → lv_has ls 6 [(0, .ref r), (2, .int x2), (4, .int x4), (5, .int x5)] → hm_I D s0 s (mm_h dA h0 r M st) z0 H locs → W p l e { frames := 4, cells := 0, slots := 0, locals := 92 } s m ([.ref r, .int y1] : List Value).toArray below meth c H locs 0 0 (MQ below (ht_Q D s0 (fun vv h1 z1 => vv = none ∧ h1 = mm_h dA h0 r M q ∧ z1 = z0)) ([.ref r, .int y1] : List Value).toArray s 0 0 (fun q => s0.heap.size ≤ q)) (F0 m 153 ls []) := by
    intro k17 hk17 n9
    induction n9 with
    | zero => intro ls x2 x4 x5 st H locs hF; cases hF
    | succ n9 hk153 =>
    intro ls x2 x4 x5 st H locs hF hl I
    unfold g_write_153 at hF
    refine lv_iload hx hb d121_153 (lv_at hl 3 rfl) ?_
    refine lv_if_lt hx hb d121_155 rfl (fun h9 => ?_) (fun h9 => ?_)
    · have hF := (if_pos h9).symm.trans hF
      exact b213 k17 hk17 ls x2 st _ _ hF (hl.sub [0, 1] rfl) I
    · have hF := (if_neg h9).symm.trans hF
      refine lv_iload hx hb d121_158 (lv_at hl 2 rfl) ?_
      refine lv_if_eq hx hb d121_160 rfl (fun h9 => ?_) (fun h9 => ?_)
      · have hF := (if_pos h9).symm.trans hF
        exact b213 k17 hk17 ls x2 st _ _ hF (hl.sub [0, 1] rfl) I
      · have hF := (if_neg h9).symm.trans hF
        refine lv_aload_n hx hb d121_163 rfl (lv_at hl 0 rfl) ?_
        refine lv_aload_n hx hb d121_164 rfl (lv_at hl 0 rfl) ?_
        refine lv_iload hx hb d121_165 (lv_at hl 3 rfl) ?_
        obtain ⟨q11, e9, hF⟩ := mm_bd hF
        refine ht_V (C := "MarkupStoreModel") (rest := [.ref r]) (as := [.int x5]) X hl (cm_order l D dA s0 hE h0 r M hM z0 x5 st q11 e9) (List.forall_mem_cons.mpr ⟨ms_k1623, List.forall_mem_cons.mpr ⟨ms_k1625, List.forall_mem_cons.mpr ⟨ms_p71, List.forall_mem_cons.mpr ⟨ms_k7, List.forall_mem_cons.mpr ⟨ms_k1626, fun _ h => absurd h List.not_mem_nil⟩⟩⟩⟩⟩) ⟨rfl, by decide +kernel, by decide +kernel, (by decide +kernel : (parseMethodDescriptor "(I)I").map (fun d => d.parameters.length) = some 1)⟩ (hm_recv hK I rfl mm_hr) I ⟨rfl, rfl⟩ ⟨⟨Nat.le_of_ble_eq_true rfl, Nat.le_of_ble_eq_true rfl⟩, Nat.le_of_ble_eq_true rfl, Nat.le_of_ble_eq_true rfl⟩ rfl (Nat.le_of_ble_eq_true rfl) d121_167 (fun vv h1 z1 H locs hR I9 => ?_)
        obtain ⟨e1, e2, e3⟩ := hR
        rw [e2, e3] at I9
        clear I e2 e3 e9
        have I := I9
        clear I9
        subst e1
        refine W.eq (g2 := F0 m 170 ls [.int q11.1, .ref r]) rfl ?_
        obtain ⟨q12, e9, hF⟩ := mm_bd hF
        refine ht_V (C := "MarkupStoreModel") (rest := []) (as := [.int q11.1]) X hl (cm_end l D dA s0 hE h0 r M hM z0 q11.1 q11.2 q12 e9) (List.forall_mem_cons.mpr ⟨ms_k1650, List.forall_mem_cons.mpr ⟨ms_k1652, List.forall_mem_cons.mpr ⟨ms_p77, List.forall_mem_cons.mpr ⟨ms_k7, List.forall_mem_cons.mpr ⟨ms_k1653, fun _ h => absurd h List.not_mem_nil⟩⟩⟩⟩⟩) ⟨rfl, by decide +kernel, by decide +kernel, (by decide +kernel : (parseMethodDescriptor "(I)I").map (fun d => d.parameters.length) = some 1)⟩ (hm_recv hK I rfl mm_hr) I ⟨rfl, rfl⟩ ⟨⟨Nat.le_of_ble_eq_true rfl, Nat.le_of_ble_eq_true rfl⟩, Nat.le_of_ble_eq_true rfl, Nat.le_of_ble_eq_true rfl⟩ rfl (Nat.le_of_ble_eq_true rfl) d121_170 (fun vv h1 z1 H locs hR I9 => ?_)
        obtain ⟨e1, e2, e3⟩ := hR
        rw [e2, e3] at I9
        clear I e2 e3 e9
        have I := I9
        clear I9
        subst e1
        refine W.eq (g2 := F0 m 173 ls [.int q12.1]) rfl ?_
        refine lv_iload_n hx hb d121_173 rfl (lv_at hl 1 rfl) ?_
        refine lv_iconst (v := 1) hx hb d121_174 (by decide) ?_
        refine lv_iadd hx hb d121_175 ?_
        refine lv_icmp_ne hx hb d121_176 rfl (fun h9 => ?_) (fun h9 => ?_)
        · have hF := (if_neg h9).symm.trans hF
          exact b213 k17 hk17 ls x2 q12.2 _ _ hF (hl.sub [0, 1] rfl) I
        · have hF := (if_pos h9).symm.trans hF
          refine lv_aload_n hx hb d121_179 rfl (lv_at hl 0 rfl) ?_
          refine lv_bipush (v := 60) hx hb d121_180 (by decide) ?_
          refine lv_bipush (v := 47) hx hb d121_182 (by decide) ?_
          refine lv_iconst (v := 0) hx hb d121_184 (by decide) ?_
          refine lv_iconst (v := 0) hx hb d121_185 (by decide) ?_
          obtain ⟨q13, e9, hF⟩ := mm_bd hF
          refine ht_V (C := "MarkupStoreModel") (rest := []) (as := [.int 60, .int 47, .int 0, .int 0]) X hl (cm_outFour l D dA s0 hE h0 r M hM z0 60 47 0 0 q12.2 q13 e9) (List.forall_mem_cons.mpr ⟨ms_k1816, List.forall_mem_cons.mpr ⟨ms_k1818, List.forall_mem_cons.mpr ⟨ms_p104, List.forall_mem_cons.mpr ⟨ms_k7, List.forall_mem_cons.mpr ⟨ms_k1819, fun _ h => absurd h List.not_mem_nil⟩⟩⟩⟩⟩) ⟨rfl, by decide +kernel, by decide +kernel, (by decide +kernel : (parseMethodDescriptor "(IIII)V").map (fun d => d.parameters.length) = some 4)⟩ (hm_recv hK I rfl mm_hr) I ⟨rfl, rfl⟩ ⟨⟨Nat.le_of_ble_eq_true rfl, Nat.le_of_ble_eq_true rfl⟩, Nat.le_of_ble_eq_true rfl, Nat.le_of_ble_eq_true rfl⟩ rfl (Nat.le_of_ble_eq_true rfl) d121_186 (fun vv h1 z1 H locs hR I9 => ?_)
          obtain ⟨e1, e2, e3⟩ := hR
          rw [e2, e3] at I9
          clear I e2 e3 e9
          have I := I9
          clear I9
          subst e1
          refine W.eq (g2 := F0 m 189 ls []) rfl ?_
          refine lv_aload_n hx hb d121_189 rfl (lv_at hl 0 rfl) ?_
          refine lv_iload hx hb d121_190 (lv_at hl 3 rfl) ?_
          obtain ⟨q14, e9, hF⟩ := mm_bd hF
          refine ht_V (C := "MarkupStoreModel") (rest := []) (as := [.int x5]) X hl (cm_outName l D dA s0 hE h0 r M hM z0 x5 q13 q14 e9) (List.forall_mem_cons.mpr ⟨ms_k1812, List.forall_mem_cons.mpr ⟨ms_k1814, List.forall_mem_cons.mpr ⟨ms_p103, List.forall_mem_cons.mpr ⟨ms_k7, List.forall_mem_cons.mpr ⟨ms_k1815, fun _ h => absurd h List.not_mem_nil⟩⟩⟩⟩⟩) ⟨rfl, by decide +kernel, by decide +kernel, (by decide +kernel : (parseMethodDescriptor "(I)V").map (fun d => d.parameters.length) = some 1)⟩ (hm_recv hK I rfl mm_hr) I ⟨rfl, rfl⟩ ⟨⟨Nat.le_of_ble_eq_true rfl, Nat.le_of_ble_eq_true rfl⟩, Nat.le_of_ble_eq_true rfl, Nat.le_of_ble_eq_true rfl⟩ rfl (Nat.le_of_ble_eq_true rfl) d121_192 (fun vv h1 z1 H locs hR I9 => ?_)
          obtain ⟨e1, e2, e3⟩ := hR
          rw [e2, e3] at I9
          clear I e2 e3 e9
          have I := I9
          clear I9
          subst e1
          refine W.eq (g2 := F0 m 195 ls []) rfl ?_
          refine lv_aload_n hx hb d121_195 rfl (lv_at hl 0 rfl) ?_
          refine lv_bipush (v := 62) hx hb d121_196 (by decide) ?_
          obtain ⟨q15, e9, hF⟩ := mm_bd hF
          refine ht_V (C := "MarkupStoreModel") (rest := []) (as := [.int 62]) X hl (cm_out l D dA s0 hE h0 r M hM z0 62 q14 q15 e9) (List.forall_mem_cons.mpr ⟨ms_k1808, List.forall_mem_cons.mpr ⟨ms_k1810, List.forall_mem_cons.mpr ⟨ms_p102, List.forall_mem_cons.mpr ⟨ms_k7, List.forall_mem_cons.mpr ⟨ms_k1811, fun _ h => absurd h List.not_mem_nil⟩⟩⟩⟩⟩) ⟨rfl, by decide +kernel, by decide +kernel, (by decide +kernel : (parseMethodDescriptor "(I)V").map (fun d => d.parameters.length) = some 1)⟩ (hm_recv hK I rfl mm_hr) I ⟨rfl, rfl⟩ ⟨⟨Nat.le_of_ble_eq_true rfl, Nat.le_of_ble_eq_true rfl⟩, Nat.le_of_ble_eq_true rfl, Nat.le_of_ble_eq_true rfl⟩ rfl (Nat.le_of_ble_eq_true rfl) d121_198 (fun vv h1 z1 H locs hR I9 => ?_)
          obtain ⟨e1, e2, e3⟩ := hR
          rw [e2, e3] at I9
          clear I e2 e3 e9
          have I := I9
          clear I9
          subst e1
          refine W.eq (g2 := F0 m 201 ls []) rfl ?_
          refine lv_aload_n hx hb d121_201 rfl (lv_at hl 0 rfl) ?_
          refine lv_iload hx hb d121_202 (lv_at hl 3 rfl) ?_
          refine lv_iconst (v := 2) hx hb d121_204 (by decide) ?_
          obtain ⟨q16, e9, hF⟩ := mm_bd hF
          refine ht_V (C := "MarkupStoreModel") (rest := []) (as := [.int x5, .int 2]) X hl (cm_f l D dA s0 hE h0 r M hM z0 x5 2 q15 q16 e9) (List.forall_mem_cons.mpr ⟨ms_k1587, List.forall_mem_cons.mpr ⟨ms_k1589, List.forall_mem_cons.mpr ⟨ms_p63, List.forall_mem_cons.mpr ⟨ms_k7, List.forall_mem_cons.mpr ⟨ms_k1590, fun _ h => absurd h List.not_mem_nil⟩⟩⟩⟩⟩) ⟨rfl, by decide +kernel, by decide +kernel, (by decide +kernel : (parseMethodDescriptor "(II)I").map (fun d => d.parameters.length) = some 2)⟩ (hm_recv hK I rfl mm_hr) I ⟨rfl, rfl⟩ ⟨⟨Nat.le_of_ble_eq_true rfl, Nat.le_of_ble_eq_true rfl⟩, Nat.le_of_ble_eq_true rfl, Nat.le_of_ble_eq_true rfl⟩ rfl (Nat.le_of_ble_eq_true rfl) d121_205 (fun vv h1 z1 H locs hR I9 => ?_)
          obtain ⟨e1, e2, e3⟩ := hR
          rw [e2, e3] at I9
          clear I e2 e3 e9
          have I := I9
          clear I9
          subst e1
          refine W.eq (g2 := F0 m 208 ls [.int q16.1]) rfl ?_
          refine lv_istore hx hb d121_208 hl (by decide) rfl (fun ls hl => ?_)
          have hl : lv_has ls 6 [(5, .int q16.1), (0, .ref r), (2, .int x2), (4, .int x4)] := hl
          refine lv_goto hx hb d121_210 rfl ?_
          exact hk153 ls x2 x4 q16.1 q16.2 _ _ hF (hl.sub [1, 2, 3, 0] rfl) I
  have b145 : ∀ (k17 : Int32 → mT → Option (mT)), (∀ (ls : Array Slot) (x2 : Int32) (st : mT) (H : Heap) (locs : List Loc), k17 x2 st = some q → lv_has ls 6 [(0, .ref r), (2, .int x2)] → hm_I D s0 s (mm_h dA h0 r M st) z0 H locs → W p l e { frames := 4, cells := 0, slots := 0, locals := 92 } s m ([.ref r, .int y1] : List Value).toArray below meth c H locs 0 0 (MQ below (ht_Q D s0 (fun vv h1 z1 => vv = none ∧ h1 = mm_h dA h0 r M q ∧ z1 = z0)) ([.ref r, .int y1] : List Value).toArray s 0 0 (fun q => s0.heap.size ≤ q)) (F0 m 17 ls [])) → ∀ (ls : Array Slot) (x2 : Int32) (x3 : Int32) (x4 : Int32) (st : mT) (H : Heap) (locs : List Loc), g_write_145 k17 x2 x3 x4 st = some q → lv_has ls 6 [(0, .ref r), (2, .int x2), (3, .int x3), (4, .int x4)] → hm_I D s0 s (mm_h dA h0 r M st) z0 H locs → W p l e { frames := 4, cells := 0, slots := 0, locals := 92 } s m ([.ref r, .int y1] : List Value).toArray below meth c H locs 0 0 (MQ below (ht_Q D s0 (fun vv h1 z1 => vv = none ∧ h1 = mm_h dA h0 r M q ∧ z1 = z0)) ([.ref r, .int y1] : List Value).toArray s 0 0 (fun q => s0.heap.size ≤ q)) (F0 m 145 ls []) := by
    intro k17 hk17 ls x2 x3 x4 st H locs hF hl I
    unfold g_write_145 at hF
    refine lv_aload_n hx hb d121_145 rfl (lv_at hl 0 rfl) ?_
    refine lv_iload_n hx hb d121_146 rfl (lv_at hl 2 rfl) ?_
    refine lv_iconst (v := 2) hx hb d121_147 (by decide) ?_
    obtain ⟨q10, e9, hF⟩ := mm_bd hF
    refine ht_V (C := "MarkupStoreModel") (rest := []) (as := [.int x3, .int 2]) X hl (cm_f l D dA s0 hE h0 r M hM z0 x3 2 st q10 e9) (List.forall_mem_cons.mpr ⟨ms_k1587, List.forall_mem_cons.mpr ⟨ms_k1589, List.forall_mem_cons.mpr ⟨ms_p63, List.forall_mem_cons.mpr ⟨ms_k7, List.forall_mem_cons.mpr ⟨ms_k1590, fun _ h => absurd h List.not_mem_nil⟩⟩⟩⟩⟩) ⟨rfl, by decide +kernel, by decide +kernel, (by decide +kernel : (parseMethodDescriptor "(II)I").map (fun d => d.parameters.length) = some 2)⟩ (hm_recv hK I rfl mm_hr) I ⟨rfl, rfl⟩ ⟨⟨Nat.le_of_ble_eq_true rfl, Nat.le_of_ble_eq_true rfl⟩, Nat.le_of_ble_eq_true rfl, Nat.le_of_ble_eq_true rfl⟩ rfl (Nat.le_of_ble_eq_true rfl) d121_148 (fun vv h1 z1 H locs hR I9 => ?_)
    obtain ⟨e1, e2, e3⟩ := hR
    rw [e2, e3] at I9
    clear I e2 e3 e9
    have I := I9
    clear I9
    subst e1
    refine W.eq (g2 := F0 m 151 ls [.int q10.1]) rfl ?_
    refine lv_istore hx hb d121_151 hl (by decide) rfl (fun ls hl => ?_)
    have hl : lv_has ls 6 [(5, .int q10.1), (0, .ref r), (2, .int x2), (3, .int x3), (4, .int x4)] := hl
    exact b153 k17 hk17 mF ls x2 x4 q10.1 q10.2 _ _ hF (hl.sub [1, 2, 4, 0] rfl) I
  have b102 : ∀ (k17 : Int32 → mT → Option (mT)), (∀ (ls : Array Slot) (x2 : Int32) (st : mT) (H : Heap) (locs : List Loc), k17 x2 st = some q → lv_has ls 6 [(0, .ref r), (2, .int x2)] → hm_I D s0 s (mm_h dA h0 r M st) z0 H locs → W p l e { frames := 4, cells := 0, slots := 0, locals := 92 } s m ([.ref r, .int y1] : List Value).toArray below meth c H locs 0 0 (MQ below (ht_Q D s0 (fun vv h1 z1 => vv = none ∧ h1 = mm_h dA h0 r M q ∧ z1 = z0)) ([.ref r, .int y1] : List Value).toArray s 0 0 (fun q => s0.heap.size ≤ q)) (F0 m 17 ls [])) → ∀ n9 : Nat, ∀ (ls : Array Slot) (x2 : Int32) (x3 : Int32) (x4 : Int32) (x5 : Int32) (st : mT) (H : Heap) (locs : List Loc), g_write_102 k17 n9 x2 x3 x4 x5 st = some q → lv_has ls 6 [(0, .ref r), (2, .int x2), (3, .int x3), (4, .int x4), (5, .int x5)] → hm_I D s0 s (mm_h dA h0 r M st) z0 H locs → W p l e { frames := 4, cells := 0, slots := 0, locals := 92 } s m ([.ref r, .int y1] : List Value).toArray below meth c H locs 0 0 (MQ below (ht_Q D s0 (fun vv h1 z1 => vv = none ∧ h1 = mm_h dA h0 r M q ∧ z1 = z0)) ([.ref r, .int y1] : List Value).toArray s 0 0 (fun q => s0.heap.size ≤ q)) (F0 m 102 ls []) := by
    intro k17 hk17 n9
    induction n9 with
    | zero => intro ls x2 x3 x4 x5 st H locs hF; cases hF
    | succ n9 hk102 =>
    intro ls x2 x3 x4 x5 st H locs hF hl I
    unfold g_write_102 at hF
    refine lv_iload hx hb d121_102 (lv_at hl 4 rfl) ?_
    refine lv_aload_n hx hb d121_104 rfl (lv_at hl 0 rfl) ?_
    refine lv_iload_n hx hb d121_105 rfl (lv_at hl 2 rfl) ?_
    refine lv_iconst (v := 3) hx hb d121_106 (by decide) ?_
    obtain ⟨q9, e9, hF⟩ := mm_bd hF
    refine ht_V (C := "MarkupStoreModel") (rest := [.int x5]) (as := [.int x3, .int 3]) X hl (cm_f l D dA s0 hE h0 r M hM z0 x3 3 st q9 e9) (List.forall_mem_cons.mpr ⟨ms_k1587, List.forall_mem_cons.mpr ⟨ms_k1589, List.forall_mem_cons.mpr ⟨ms_p63, List.forall_mem_cons.mpr ⟨ms_k7, List.forall_mem_cons.mpr ⟨ms_k1590, fun _ h => absurd h List.not_mem_nil⟩⟩⟩⟩⟩) ⟨rfl, by decide +kernel, by decide +kernel, (by decide +kernel : (parseMethodDescriptor "(II)I").map (fun d => d.parameters.length) = some 2)⟩ (hm_recv hK I rfl mm_hr) I ⟨rfl, rfl⟩ ⟨⟨Nat.le_of_ble_eq_true rfl, Nat.le_of_ble_eq_true rfl⟩, Nat.le_of_ble_eq_true rfl, Nat.le_of_ble_eq_true rfl⟩ rfl (Nat.le_of_ble_eq_true rfl) d121_107 (fun vv h1 z1 H locs hR I9 => ?_)
    obtain ⟨e1, e2, e3⟩ := hR
    rw [e2, e3] at I9
    clear I e2 e3 e9
    have I := I9
    clear I9
    subst e1
    refine W.eq (g2 := F0 m 110 ls [.int q9.1, .int x5]) rfl ?_
    refine lv_icmp_ge hx hb d121_110 rfl (fun h9 => ?_) (fun h9 => ?_)
    · have hF := (if_pos h9).symm.trans hF
      exact b145 k17 hk17 ls x2 x3 x4 q9.2 _ _ hF (hl.sub [0, 1, 2, 3] rfl) I
    · have hF := (if_neg h9).symm.trans hF
      refine lv_aload_n hx hb d121_113 rfl (lv_at hl 0 rfl) ?_
      refine lv_iload_n hx hb d121_114 rfl (lv_at hl 2 rfl) ?_
      refine lv_iconst (v := 1) hx hb d121_115 (by decide) ?_
      obtain ⟨q17, e9, hF⟩ := mm_bd hF
      refine ht_V (C := "MarkupStoreModel") (rest := []) (as := [.int x3, .int 1]) X hl (cm_f l D dA s0 hE h0 r M hM z0 x3 1 q9.2 q17 e9) (List.forall_mem_cons.mpr ⟨ms_k1587, List.forall_mem_cons.mpr ⟨ms_k1589, List.forall_mem_cons.mpr ⟨ms_p63, List.forall_mem_cons.mpr ⟨ms_k7, List.forall_mem_cons.mpr ⟨ms_k1590, fun _ h => absurd h List.not_mem_nil⟩⟩⟩⟩⟩) ⟨rfl, by decide +kernel, by decide +kernel, (by decide +kernel : (parseMethodDescriptor "(II)I").map (fun d => d.parameters.length) = some 2)⟩ (hm_recv hK I rfl mm_hr) I ⟨rfl, rfl⟩ ⟨⟨Nat.le_of_ble_eq_true rfl, Nat.le_of_ble_eq_true rfl⟩, Nat.le_of_ble_eq_true rfl, Nat.le_of_ble_eq_true rfl⟩ rfl (Nat.le_of_ble_eq_true rfl) d121_116 (fun vv h1 z1 H locs hR I9 => ?_)
      obtain ⟨e1, e2, e3⟩ := hR
      rw [e2, e3] at I9
      clear I e2 e3 e9
      have I := I9
      clear I9
      subst e1
      refine W.eq (g2 := F0 m 119 ls [.int q17.1]) rfl ?_
      refine lv_iconst (v := 2) hx hb d121_119 (by decide) ?_
      refine lv_icmp_ne hx hb d121_120 rfl (fun h9 => ?_) (fun h9 => ?_)
      · have hF := (if_neg h9).symm.trans hF
        exact b145 k17 hk17 ls x2 x3 x4 q17.2 _ _ hF (hl.sub [0, 1, 2, 3] rfl) I
      · have hF := (if_pos h9).symm.trans hF
        refine lv_aload_n hx hb d121_123 rfl (lv_at hl 0 rfl) ?_
        refine lv_aload_n hx hb d121_124 rfl (lv_at hl 0 rfl) ?_
        refine lv_iload_n hx hb d121_125 rfl (lv_at hl 2 rfl) ?_
        refine lv_bipush (v := 8) hx hb d121_126 (by decide) ?_
        refine lv_iload hx hb d121_128 (lv_at hl 4 rfl) ?_
        refine lv_iadd hx hb d121_130 ?_
        obtain ⟨q18, e9, hF⟩ := mm_bd hF
        refine ht_V (C := "MarkupStoreModel") (rest := [.ref r]) (as := [.int x3, .int (8 + x5)]) X hl (cm_f l D dA s0 hE h0 r M hM z0 x3 (8 + x5) q17.2 q18 e9) (List.forall_mem_cons.mpr ⟨ms_k1587, List.forall_mem_cons.mpr ⟨ms_k1589, List.forall_mem_cons.mpr ⟨ms_p63, List.forall_mem_cons.mpr ⟨ms_k7, List.forall_mem_cons.mpr ⟨ms_k1590, fun _ h => absurd h List.not_mem_nil⟩⟩⟩⟩⟩) ⟨rfl, by decide +kernel, by decide +kernel, (by decide +kernel : (parseMethodDescriptor "(II)I").map (fun d => d.parameters.length) = some 2)⟩ (hm_recv hK I rfl mm_hr) I ⟨rfl, rfl⟩ ⟨⟨Nat.le_of_ble_eq_true rfl, Nat.le_of_ble_eq_true rfl⟩, Nat.le_of_ble_eq_true rfl, Nat.le_of_ble_eq_true rfl⟩ rfl (Nat.le_of_ble_eq_true rfl) d121_131 (fun vv h1 z1 H locs hR I9 => ?_)
        obtain ⟨e1, e2, e3⟩ := hR
        rw [e2, e3] at I9
        clear I e2 e3 e9
        have I := I9
        clear I9
        subst e1
        refine W.eq (g2 := F0 m 134 ls [.int q18.1, .ref r]) rfl ?_
        refine lv_bipush (v := 62) hx hb d121_134 (by decide) ?_
        obtain ⟨q19, e9, hF⟩ := mm_bd hF
        refine ht_V (C := "MarkupStoreModel") (rest := []) (as := [.int q18.1, .int 62]) X hl (cm_outValue l D dA s0 hE h0 r M hM z0 q18.1 62 q18.2 q19 e9) (List.forall_mem_cons.mpr ⟨ms_k1820, List.forall_mem_cons.mpr ⟨ms_k1822, List.forall_mem_cons.mpr ⟨ms_p105, List.forall_mem_cons.mpr ⟨ms_k7, List.forall_mem_cons.mpr ⟨ms_k1823, fun _ h => absurd h List.not_mem_nil⟩⟩⟩⟩⟩) ⟨rfl, by decide +kernel, by decide +kernel, (by decide +kernel : (parseMethodDescriptor "(IC)V").map (fun d => d.parameters.length) = some 2)⟩ (hm_recv hK I rfl mm_hr) I ⟨rfl, rfl⟩ ⟨⟨Nat.le_of_ble_eq_true rfl, Nat.le_of_ble_eq_true rfl⟩, Nat.le_of_ble_eq_true rfl, Nat.le_of_ble_eq_true rfl⟩ rfl (Nat.le_of_ble_eq_true rfl) d121_136 (fun vv h1 z1 H locs hR I9 => ?_)
        obtain ⟨e1, e2, e3⟩ := hR
        rw [e2, e3] at I9
        clear I e2 e3 e9
        have I := I9
        clear I9
        subst e1
        refine W.eq (g2 := F0 m 139 ls []) rfl ?_
        refine lv_iinc (k := 4) (v := (x5 + 1)) hx hb d121_139 hl rfl (rfl) (by decide) rfl (fun ls hl => ?_)
        have hl : lv_has ls 6 [(5, .int (x5 + 1)), (0, .ref r), (2, .int x2), (3, .int x3), (4, .int x4)] := hl
        refine lv_goto hx hb d121_142 rfl ?_
        exact hk102 ls x2 x3 x4 (x5 + 1) q19 _ _ hF (hl.sub [1, 2, 3, 4, 0] rfl) I
  have b99 : ∀ (k17 : Int32 → mT → Option (mT)), (∀ (ls : Array Slot) (x2 : Int32) (st : mT) (H : Heap) (locs : List Loc), k17 x2 st = some q → lv_has ls 6 [(0, .ref r), (2, .int x2)] → hm_I D s0 s (mm_h dA h0 r M st) z0 H locs → W p l e { frames := 4, cells := 0, slots := 0, locals := 92 } s m ([.ref r, .int y1] : List Value).toArray below meth c H locs 0 0 (MQ below (ht_Q D s0 (fun vv h1 z1 => vv = none ∧ h1 = mm_h dA h0 r M q ∧ z1 = z0)) ([.ref r, .int y1] : List Value).toArray s 0 0 (fun q => s0.heap.size ≤ q)) (F0 m 17 ls [])) → ∀ (ls : Array Slot) (x2 : Int32) (x3 : Int32) (x4 : Int32) (st : mT) (H : Heap) (locs : List Loc), g_write_99 k17 x2 x3 x4 st = some q → lv_has ls 6 [(0, .ref r), (2, .int x2), (3, .int x3), (4, .int x4)] → hm_I D s0 s (mm_h dA h0 r M st) z0 H locs → W p l e { frames := 4, cells := 0, slots := 0, locals := 92 } s m ([.ref r, .int y1] : List Value).toArray below meth c H locs 0 0 (MQ below (ht_Q D s0 (fun vv h1 z1 => vv = none ∧ h1 = mm_h dA h0 r M q ∧ z1 = z0)) ([.ref r, .int y1] : List Value).toArray s 0 0 (fun q => s0.heap.size ≤ q)) (F0 m 99 ls []) := by
    intro k17 hk17 ls x2 x3 x4 st H locs hF hl I
    unfold g_write_99 at hF
    refine lv_iconst (v := 0) hx hb d121_99 (by decide) ?_
    refine lv_istore hx hb d121_100 hl (by decide) rfl (fun ls hl => ?_)
    have hl : lv_has ls 6 [(5, .int 0), (0, .ref r), (2, .int x2), (3, .int x3), (4, .int x4)] := hl
    exact b102 k17 hk17 mF ls x2 x3 x4 0 st _ _ hF (hl.sub [1, 2, 3, 4, 0] rfl) I
  have b75 : ∀ (k17 : Int32 → mT → Option (mT)), (∀ (ls : Array Slot) (x2 : Int32) (st : mT) (H : Heap) (locs : List Loc), k17 x2 st = some q → lv_has ls 6 [(0, .ref r), (2, .int x2)] → hm_I D s0 s (mm_h dA h0 r M st) z0 H locs → W p l e { frames := 4, cells := 0, slots := 0, locals := 92 } s m ([.ref r, .int y1] : List Value).toArray below meth c H locs 0 0 (MQ below (ht_Q D s0 (fun vv h1 z1 => vv = none ∧ h1 = mm_h dA h0 r M q ∧ z1 = z0)) ([.ref r, .int y1] : List Value).toArray s 0 0 (fun q => s0.heap.size ≤ q)) (F0 m 17 ls [])) → ∀ (ls : Array Slot) (x2 : Int32) (x3 : Int32) (x4 : Int32) (st : mT) (H : Heap) (locs : List Loc), g_write_75 k17 x2 x3 x4 st = some q → lv_has ls 6 [(0, .ref r), (2, .int x2), (3, .int x3), (4, .int x4)] → hm_I D s0 s (mm_h dA h0 r M st) z0 H locs → W p l e { frames := 4, cells := 0, slots := 0, locals := 92 } s m ([.ref r, .int y1] : List Value).toArray below meth c H locs 0 0 (MQ below (ht_Q D s0 (fun vv h1 z1 => vv = none ∧ h1 = mm_h dA h0 r M q ∧ z1 = z0)) ([.ref r, .int y1] : List Value).toArray s 0 0 (fun q => s0.heap.size ≤ q)) (F0 m 75 ls []) := by
    intro k17 hk17 ls x2 x3 x4 st H locs hF hl I
    unfold g_write_75 at hF
    refine lv_aload_n hx hb d121_75 rfl (lv_at hl 0 rfl) ?_
    refine lv_bipush (v := 62) hx hb d121_76 (by decide) ?_
    obtain ⟨q22, e9, hF⟩ := mm_bd hF
    refine ht_V (C := "MarkupStoreModel") (rest := []) (as := [.int 62]) X hl (cm_out l D dA s0 hE h0 r M hM z0 62 st q22 e9) (List.forall_mem_cons.mpr ⟨ms_k1808, List.forall_mem_cons.mpr ⟨ms_k1810, List.forall_mem_cons.mpr ⟨ms_p102, List.forall_mem_cons.mpr ⟨ms_k7, List.forall_mem_cons.mpr ⟨ms_k1811, fun _ h => absurd h List.not_mem_nil⟩⟩⟩⟩⟩) ⟨rfl, by decide +kernel, by decide +kernel, (by decide +kernel : (parseMethodDescriptor "(I)V").map (fun d => d.parameters.length) = some 1)⟩ (hm_recv hK I rfl mm_hr) I ⟨rfl, rfl⟩ ⟨⟨Nat.le_of_ble_eq_true rfl, Nat.le_of_ble_eq_true rfl⟩, Nat.le_of_ble_eq_true rfl, Nat.le_of_ble_eq_true rfl⟩ rfl (Nat.le_of_ble_eq_true rfl) d121_78 (fun vv h1 z1 H locs hR I9 => ?_)
    obtain ⟨e1, e2, e3⟩ := hR
    rw [e2, e3] at I9
    clear I e2 e3 e9
    have I := I9
    clear I9
    subst e1
    refine W.eq (g2 := F0 m 81 ls []) rfl ?_
    refine lv_goto hx hb d121_81 rfl ?_
    exact b99 k17 hk17 ls x2 x3 x4 q22 _ _ hF (hl.sub [0, 1, 2, 3] rfl) I
  have b47 : ∀ (k17 : Int32 → mT → Option (mT)), (∀ (ls : Array Slot) (x2 : Int32) (st : mT) (H : Heap) (locs : List Loc), k17 x2 st = some q → lv_has ls 6 [(0, .ref r), (2, .int x2)] → hm_I D s0 s (mm_h dA h0 r M st) z0 H locs → W p l e { frames := 4, cells := 0, slots := 0, locals := 92 } s m ([.ref r, .int y1] : List Value).toArray below meth c H locs 0 0 (MQ below (ht_Q D s0 (fun vv h1 z1 => vv = none ∧ h1 = mm_h dA h0 r M q ∧ z1 = z0)) ([.ref r, .int y1] : List Value).toArray s 0 0 (fun q => s0.heap.size ≤ q)) (F0 m 17 ls [])) → ∀ (ls : Array Slot) (x2 : Int32) (x3 : Int32) (w0 : Int32) (st : mT) (H : Heap) (locs : List Loc), g_write_47 k17 x2 x3 w0 st = some q → lv_has ls 6 [(0, .ref r), (2, .int x2), (3, .int x3)] → hm_I D s0 s (mm_h dA h0 r M st) z0 H locs → W p l e { frames := 4, cells := 0, slots := 0, locals := 92 } s m ([.ref r, .int y1] : List Value).toArray below meth c H locs 0 0 (MQ below (ht_Q D s0 (fun vv h1 z1 => vv = none ∧ h1 = mm_h dA h0 r M q ∧ z1 = z0)) ([.ref r, .int y1] : List Value).toArray s 0 0 (fun q => s0.heap.size ≤ q)) (F0 m 47 ls [.int w0]) := by
    intro k17 hk17 ls x2 x3 w0 st H locs hF hl I
    unfold g_write_47 at hF
    refine lv_istore hx hb d121_47 hl (by decide) rfl (fun ls hl => ?_)
    have hl : lv_has ls 6 [(4, .int w0), (0, .ref r), (2, .int x2), (3, .int x3)] := hl
    refine lv_aload_n hx hb d121_49 rfl (lv_at hl 1 rfl) ?_
    refine lv_iload_n hx hb d121_50 rfl (lv_at hl 3 rfl) ?_
    refine lv_iconst (v := 1) hx hb d121_51 (by decide) ?_
    obtain ⟨q7, e9, hF⟩ := mm_bd hF
    refine ht_V (C := "MarkupStoreModel") (rest := []) (as := [.int x3, .int 1]) X hl (cm_f l D dA s0 hE h0 r M hM z0 x3 1 st q7 e9) (List.forall_mem_cons.mpr ⟨ms_k1587, List.forall_mem_cons.mpr ⟨ms_k1589, List.forall_mem_cons.mpr ⟨ms_p63, List.forall_mem_cons.mpr ⟨ms_k7, List.forall_mem_cons.mpr ⟨ms_k1590, fun _ h => absurd h List.not_mem_nil⟩⟩⟩⟩⟩) ⟨rfl, by decide +kernel, by decide +kernel, (by decide +kernel : (parseMethodDescriptor "(II)I").map (fun d => d.parameters.length) = some 2)⟩ (hm_recv hK I rfl mm_hr) I ⟨rfl, rfl⟩ ⟨⟨Nat.le_of_ble_eq_true rfl, Nat.le_of_ble_eq_true rfl⟩, Nat.le_of_ble_eq_true rfl, Nat.le_of_ble_eq_true rfl⟩ rfl (Nat.le_of_ble_eq_true rfl) d121_52 (fun vv h1 z1 H locs hR I9 => ?_)
    obtain ⟨e1, e2, e3⟩ := hR
    rw [e2, e3] at I9
    clear I e2 e3 e9
    have I := I9
    clear I9
    subst e1
    refine W.eq (g2 := F0 m 55 ls [.int q7.1]) rfl ?_
    refine lv_iconst (v := 1) hx hb d121_55 (by decide) ?_
    refine lv_icmp_ne hx hb d121_56 rfl (fun h9 => ?_) (fun h9 => ?_)
    · have hF := (if_neg h9).symm.trans hF
      refine lv_aload_n hx hb d121_84 rfl (lv_at hl 1 rfl) ?_
      refine lv_iload_n hx hb d121_85 rfl (lv_at hl 3 rfl) ?_
      refine lv_iconst (v := 1) hx hb d121_86 (by decide) ?_
      obtain ⟨q8, e9, hF⟩ := mm_bd hF
      refine ht_V (C := "MarkupStoreModel") (rest := []) (as := [.int x3, .int 1]) X hl (cm_f l D dA s0 hE h0 r M hM z0 x3 1 q7.2 q8 e9) (List.forall_mem_cons.mpr ⟨ms_k1587, List.forall_mem_cons.mpr ⟨ms_k1589, List.forall_mem_cons.mpr ⟨ms_p63, List.forall_mem_cons.mpr ⟨ms_k7, List.forall_mem_cons.mpr ⟨ms_k1590, fun _ h => absurd h List.not_mem_nil⟩⟩⟩⟩⟩) ⟨rfl, by decide +kernel, by decide +kernel, (by decide +kernel : (parseMethodDescriptor "(II)I").map (fun d => d.parameters.length) = some 2)⟩ (hm_recv hK I rfl mm_hr) I ⟨rfl, rfl⟩ ⟨⟨Nat.le_of_ble_eq_true rfl, Nat.le_of_ble_eq_true rfl⟩, Nat.le_of_ble_eq_true rfl, Nat.le_of_ble_eq_true rfl⟩ rfl (Nat.le_of_ble_eq_true rfl) d121_87 (fun vv h1 z1 H locs hR I9 => ?_)
      obtain ⟨e1, e2, e3⟩ := hR
      rw [e2, e3] at I9
      clear I e2 e3 e9
      have I := I9
      clear I9
      subst e1
      refine W.eq (g2 := F0 m 90 ls [.int q8.1]) rfl ?_
      refine lv_iconst (v := 3) hx hb d121_90 (by decide) ?_
      refine lv_icmp_ne hx hb d121_91 rfl (fun h9 => ?_) (fun h9 => ?_)
      · have hF := (if_neg h9).symm.trans hF
        exact b99 k17 hk17 ls x2 x3 w0 q8.2 _ _ hF (hl.sub [1, 2, 3, 0] rfl) I
      · have hF := (if_pos h9).symm.trans hF
        refine lv_aload_n hx hb d121_94 rfl (lv_at hl 1 rfl) ?_
        refine lv_iload_n hx hb d121_95 rfl (lv_at hl 3 rfl) ?_
        obtain ⟨q20, e9, hF⟩ := mm_bd hF
        refine ht_V (C := "MarkupStoreModel") (rest := []) (as := [.int x3]) X hl (cm_outComment l D dA s0 hE h0 r M hM z0 x3 q8.2 q20 e9) (List.forall_mem_cons.mpr ⟨ms_k1824, List.forall_mem_cons.mpr ⟨ms_k1826, List.forall_mem_cons.mpr ⟨ms_p106, List.forall_mem_cons.mpr ⟨ms_k7, List.forall_mem_cons.mpr ⟨ms_k1827, fun _ h => absurd h List.not_mem_nil⟩⟩⟩⟩⟩) ⟨rfl, by decide +kernel, by decide +kernel, (by decide +kernel : (parseMethodDescriptor "(I)V").map (fun d => d.parameters.length) = some 1)⟩ (hm_recv hK I rfl mm_hr) I ⟨rfl, rfl⟩ ⟨⟨Nat.le_of_ble_eq_true rfl, Nat.le_of_ble_eq_true rfl⟩, Nat.le_of_ble_eq_true rfl, Nat.le_of_ble_eq_true rfl⟩ rfl (Nat.le_of_ble_eq_true rfl) d121_96 (fun vv h1 z1 H locs hR I9 => ?_)
        obtain ⟨e1, e2, e3⟩ := hR
        rw [e2, e3] at I9
        clear I e2 e3 e9
        have I := I9
        clear I9
        subst e1
        refine W.eq (g2 := F0 m 99 ls []) rfl ?_
        exact b99 k17 hk17 ls x2 x3 w0 q20 _ _ hF (hl.sub [1, 2, 3, 0] rfl) I
    · have hF := (if_pos h9).symm.trans hF
      refine lv_aload_n hx hb d121_59 rfl (lv_at hl 1 rfl) ?_
      refine lv_iload_n hx hb d121_60 rfl (lv_at hl 3 rfl) ?_
      obtain ⟨q21, e9, hF⟩ := mm_bd hF
      refine ht_V (C := "MarkupStoreModel") (rest := []) (as := [.int x3]) X hl (cm_outTag l D dA s0 hE h0 r M hM z0 x3 q7.2 q21 e9) (List.forall_mem_cons.mpr ⟨ms_k1804, List.forall_mem_cons.mpr ⟨ms_k1806, List.forall_mem_cons.mpr ⟨ms_p101, List.forall_mem_cons.mpr ⟨ms_k7, List.forall_mem_cons.mpr ⟨ms_k1807, fun _ h => absurd h List.not_mem_nil⟩⟩⟩⟩⟩) ⟨rfl, by decide +kernel, by decide +kernel, (by decide +kernel : (parseMethodDescriptor "(I)V").map (fun d => d.parameters.length) = some 1)⟩ (hm_recv hK I rfl mm_hr) I ⟨rfl, rfl⟩ ⟨⟨Nat.le_of_ble_eq_true rfl, Nat.le_of_ble_eq_true rfl⟩, Nat.le_of_ble_eq_true rfl, Nat.le_of_ble_eq_true rfl⟩ rfl (Nat.le_of_ble_eq_true rfl) d121_61 (fun vv h1 z1 H locs hR I9 => ?_)
      obtain ⟨e1, e2, e3⟩ := hR
      rw [e2, e3] at I9
      clear I e2 e3 e9
      have I := I9
      clear I9
      subst e1
      refine W.eq (g2 := F0 m 64 ls []) rfl ?_
      refine lv_iload hx hb d121_64 (lv_at hl 0 rfl) ?_
      refine lv_if_eq hx hb d121_66 rfl (fun h9 => ?_) (fun h9 => ?_)
      · have hF := (if_pos h9).symm.trans hF
        exact b75 k17 hk17 ls x2 x3 w0 q21 _ _ hF (hl.sub [1, 2, 3, 0] rfl) I
      · have hF := (if_neg h9).symm.trans hF
        refine lv_aload_n hx hb d121_69 rfl (lv_at hl 1 rfl) ?_
        refine lv_bipush (v := 47) hx hb d121_70 (by decide) ?_
        obtain ⟨q23, e9, hF⟩ := mm_bd hF
        refine ht_V (C := "MarkupStoreModel") (rest := []) (as := [.int 47]) X hl (cm_out l D dA s0 hE h0 r M hM z0 47 q21 q23 e9) (List.forall_mem_cons.mpr ⟨ms_k1808, List.forall_mem_cons.mpr ⟨ms_k1810, List.forall_mem_cons.mpr ⟨ms_p102, List.forall_mem_cons.mpr ⟨ms_k7, List.forall_mem_cons.mpr ⟨ms_k1811, fun _ h => absurd h List.not_mem_nil⟩⟩⟩⟩⟩) ⟨rfl, by decide +kernel, by decide +kernel, (by decide +kernel : (parseMethodDescriptor "(I)V").map (fun d => d.parameters.length) = some 1)⟩ (hm_recv hK I rfl mm_hr) I ⟨rfl, rfl⟩ ⟨⟨Nat.le_of_ble_eq_true rfl, Nat.le_of_ble_eq_true rfl⟩, Nat.le_of_ble_eq_true rfl, Nat.le_of_ble_eq_true rfl⟩ rfl (Nat.le_of_ble_eq_true rfl) d121_72 (fun vv h1 z1 H locs hR I9 => ?_)
        obtain ⟨e1, e2, e3⟩ := hR
        rw [e2, e3] at I9
        clear I e2 e3 e9
        have I := I9
        clear I9
        subst e1
        refine W.eq (g2 := F0 m 75 ls []) rfl ?_
        exact b75 k17 hk17 ls x2 x3 w0 q23 _ _ hF (hl.sub [1, 2, 3, 0] rfl) I
  have b17 : ∀ n9 : Nat, ∀ (ls : Array Slot) (x2 : Int32) (st : mT) (H : Heap) (locs : List Loc), g_write_17 n9 x2 st = some q → lv_has ls 6 [(0, .ref r), (2, .int x2)] → hm_I D s0 s (mm_h dA h0 r M st) z0 H locs → W p l e { frames := 4, cells := 0, slots := 0, locals := 92 } s m ([.ref r, .int y1] : List Value).toArray below meth c H locs 0 0 (MQ below (ht_Q D s0 (fun vv h1 z1 => vv = none ∧ h1 = mm_h dA h0 r M q ∧ z1 = z0)) ([.ref r, .int y1] : List Value).toArray s 0 0 (fun q => s0.heap.size ≤ q)) (F0 m 17 ls []) := by
    intro n9
    induction n9 with
    | zero => intro ls x2 st H locs hF; cases hF
    | succ n9 hk17 =>
    intro ls x2 st H locs hF hl I
    unfold g_write_17 at hF
    refine lv_iload_n hx hb d121_17 rfl (lv_at hl 1 rfl) ?_
    refine lv_aload_n hx hb d121_18 rfl (lv_at hl 0 rfl) ?_
    obtain ⟨q4, e9, hF⟩ := mm_bd hF
    refine ht_V (C := "MarkupStoreModel") (rest := [.int x2]) (as := []) X hl (cm_count l D dA s0 hE h0 r M hM z0 st q4 e9) (List.forall_mem_cons.mpr ⟨ms_k1583, List.forall_mem_cons.mpr ⟨ms_k1585, List.forall_mem_cons.mpr ⟨ms_p62, List.forall_mem_cons.mpr ⟨ms_k7, List.forall_mem_cons.mpr ⟨ms_k1586, fun _ h => absurd h List.not_mem_nil⟩⟩⟩⟩⟩) ⟨rfl, by decide +kernel, by decide +kernel, (by decide +kernel : (parseMethodDescriptor "()I").map (fun d => d.parameters.length) = some 0)⟩ (hm_recv hK I rfl mm_hr) I ⟨rfl, rfl⟩ ⟨⟨Nat.le_of_ble_eq_true rfl, Nat.le_of_ble_eq_true rfl⟩, Nat.le_of_ble_eq_true rfl, Nat.le_of_ble_eq_true rfl⟩ rfl (Nat.le_of_ble_eq_true rfl) d121_19 (fun vv h1 z1 H locs hR I9 => ?_)
    obtain ⟨e1, e2, e3⟩ := hR
    rw [e2, e3] at I9
    clear I e2 e3 e9
    have I := I9
    clear I9
    subst e1
    refine W.eq (g2 := F0 m 22 ls [.int q4.1, .int x2]) rfl ?_
    refine lv_icmp_ge hx hb d121_22 rfl (fun h9 => ?_) (fun h9 => ?_)
    · have hF := (if_pos h9).symm.trans hF
      exact ht_vret X d121_219 I (Nat.le_of_ble_eq_true rfl) (Nat.le_of_ble_eq_true rfl) (mm_finV hF)
    · have hF := (if_neg h9).symm.trans hF
      refine lv_aload_n hx hb d121_25 rfl (lv_at hl 0 rfl) ?_
      refine lv_iload_n hx hb d121_26 rfl (lv_at hl 1 rfl) ?_
      obtain ⟨q5, e9, hF⟩ := mm_bd hF
      refine ht_V (C := "MarkupStoreModel") (rest := []) (as := [.int x2]) X hl (cm_doc l D dA s0 hE h0 r M hM z0 x2 q4.2 q5 e9) (List.forall_mem_cons.mpr ⟨ms_k1607, List.forall_mem_cons.mpr ⟨ms_k1609, List.forall_mem_cons.mpr ⟨ms_p67, List.forall_mem_cons.mpr ⟨ms_k7, List.forall_mem_cons.mpr ⟨ms_k1610, fun _ h => absurd h List.not_mem_nil⟩⟩⟩⟩⟩) ⟨rfl, by decide +kernel, by decide +kernel, (by decide +kernel : (parseMethodDescriptor "(I)I").map (fun d => d.parameters.length) = some 1)⟩ (hm_recv hK I rfl mm_hr) I ⟨rfl, rfl⟩ ⟨⟨Nat.le_of_ble_eq_true rfl, Nat.le_of_ble_eq_true rfl⟩, Nat.le_of_ble_eq_true rfl, Nat.le_of_ble_eq_true rfl⟩ rfl (Nat.le_of_ble_eq_true rfl) d121_27 (fun vv h1 z1 H locs hR I9 => ?_)
      obtain ⟨e1, e2, e3⟩ := hR
      rw [e2, e3] at I9
      clear I e2 e3 e9
      have I := I9
      clear I9
      subst e1
      refine W.eq (g2 := F0 m 30 ls [.int q5.1]) rfl ?_
      refine lv_istore_n hx hb d121_30 rfl hl (by decide) rfl (fun ls hl => ?_)
      have hl : lv_has ls 6 [(3, .int q5.1), (0, .ref r), (2, .int x2)] := hl
      refine lv_aload_n hx hb d121_31 rfl (lv_at hl 1 rfl) ?_
      refine lv_iload_n hx hb d121_32 rfl (lv_at hl 2 rfl) ?_
      obtain ⟨q6, e9, hF⟩ := mm_bd hF
      refine ht_V (C := "MarkupStoreModel") (rest := []) (as := [.int x2]) X hl (cm_end l D dA s0 hE h0 r M hM z0 x2 q5.2 q6 e9) (List.forall_mem_cons.mpr ⟨ms_k1650, List.forall_mem_cons.mpr ⟨ms_k1652, List.forall_mem_cons.mpr ⟨ms_p77, List.forall_mem_cons.mpr ⟨ms_k7, List.forall_mem_cons.mpr ⟨ms_k1653, fun _ h => absurd h List.not_mem_nil⟩⟩⟩⟩⟩) ⟨rfl, by decide +kernel, by decide +kernel, (by decide +kernel : (parseMethodDescriptor "(I)I").map (fun d => d.parameters.length) = some 1)⟩ (hm_recv hK I rfl mm_hr) I ⟨rfl, rfl⟩ ⟨⟨Nat.le_of_ble_eq_true rfl, Nat.le_of_ble_eq_true rfl⟩, Nat.le_of_ble_eq_true rfl, Nat.le_of_ble_eq_true rfl⟩ rfl (Nat.le_of_ble_eq_true rfl) d121_33 (fun vv h1 z1 H locs hR I9 => ?_)
      obtain ⟨e1, e2, e3⟩ := hR
      rw [e2, e3] at I9
      clear I e2 e3 e9
      have I := I9
      clear I9
      subst e1
      refine W.eq (g2 := F0 m 36 ls [.int q6.1]) rfl ?_
      refine lv_iload_n hx hb d121_36 rfl (lv_at hl 2 rfl) ?_
      refine lv_iconst (v := 1) hx hb d121_37 (by decide) ?_
      refine lv_iadd hx hb d121_38 ?_
      refine lv_icmp_ne hx hb d121_39 rfl (fun h9 => ?_) (fun h9 => ?_)
      · have hF := (if_neg h9).symm.trans hF
        refine lv_iconst (v := 0) hx hb d121_46 (by decide) ?_
        exact b47 (g_write_17 n9) hk17 ls x2 q5.1 0 q6.2 _ _ hF (hl.sub [1, 2, 0] rfl) I
      · have hF := (if_pos h9).symm.trans hF
        refine lv_iconst (v := 1) hx hb d121_42 (by decide) ?_
        refine lv_goto hx hb d121_43 rfl ?_
        exact b47 (g_write_17 n9) hk17 ls x2 q5.1 1 q6.2 _ _ hF (hl.sub [1, 2, 0] rfl) I
  have hF := hg
  unfold g_write at hF
  refine lv_aload_n hx hb d121_0 rfl (lv_at hl 0 rfl) ?_
  refine lv_iload_n hx hb d121_1 rfl (lv_at hl 1 rfl) ?_
  obtain ⟨st1, e9, hF⟩ := mm_lt_some hF
  refine mm_put (k := 58) (ty := .int) X I (by decide) ms_k1374 rfl rfl (by decide +kernel) ⟨rfl, rfl⟩ rfl e9 d121_2 (fun H locs I => ?_)
  clear e9
  refine lv_aload_n hx hb d121_5 rfl (lv_at hl 0 rfl) ?_
  refine lv_iconst (v := 0) hx hb d121_6 (by decide) ?_
  obtain ⟨st2, e9, hF⟩ := mm_lt_some hF
  refine mm_put (k := 57) (ty := .int) X I (by decide) ms_k1373 rfl rfl (by decide +kernel) ⟨rfl, rfl⟩ rfl e9 d121_7 (fun H locs I => ?_)
  clear e9
  refine lv_aload_n hx hb d121_10 rfl (lv_at hl 0 rfl) ?_
  refine lv_iconst (v := 0) hx hb d121_11 (by decide) ?_
  obtain ⟨st3, e9, hF⟩ := mm_lt_some hF
  refine mm_put (k := 59) (ty := .int) X I (by decide) ms_k1375 rfl rfl (by decide +kernel) ⟨rfl, rfl⟩ rfl e9 d121_12 (fun H locs I => ?_)
  clear e9
  refine lv_iconst (v := 0) hx hb d121_15 (by decide) ?_
  refine lv_istore_n hx hb d121_16 rfl hl (by decide) rfl (fun ls hl => ?_)
  have hl : lv_has ls 6 [(2, .int 0), (0, .ref r), (1, .int y1)] := hl
  exact b17 mF ls 0 st3 _ _ hF (hl.sub [1, 0] rfl) I

def g_length (st : mT) : Option (Int32 × mT) := ((g_write (-1) st).bind (fun q1 => (some ((q1.1 57), q1))))
set_option maxRecDepth 100000 in
set_option maxHeartbeats 8000000 in
theorem cm_length (l : Launch) (D : va_G) (dA : Nat → ClassId) (s0 : State) (hE : ms_EV D dA s0) (h0 : hm_T) (r : Nat) (M : Nat → Nat) (hM : mm_ok r M) (z0 : hz_T) (st : mT) (q : Int32 × mT) (hg : g_length st = some q) : ht_C l D s0 yM122 bM122 1 (Option.some Jvm.ClassFile.FieldType.int) 5 117 0 0 [.ref r] (fun h z => h = mm_h dA h0 r M st ∧ z = z0) (fun h z vv h1 z1 => vv = some (.int q.1) ∧ h1 = mm_h dA h0 r M q.2 ∧ z1 = z0) := by
  refine ht_C.mk hE.1 (by decide) (Nat.le_of_ble_eq_true rfl) [(0, .ref r)] rfl ?_
  intro p e s m below meth c ls h z X hin hpre I hl
  have hx := X.1
  have hb := X.2.1
  have hml := X.2.2.1
  have hown : s.vm.findClass "MarkupStoreModel" = some m.cls := X.2.2.2.1
  have hts := X.2.2.2.2.2.2.1
  have hK := X.2.2.2.2.2.2.2.2.1
  rw [hpre.1, hpre.2] at I
  clear hpre
  have hF := hg
  unfold g_length at hF
  refine lv_aload_n hx hb d122_0 rfl (lv_at hl 0 rfl) ?_
  refine lv_iconst (v := (-1)) hx hb d122_1 (by decide) ?_
  obtain ⟨q1, e9, hF⟩ := mm_bd hF
  refine ht_V (C := "MarkupStoreModel") (rest := []) (as := [.int (-1)]) X hl (cm_write l D dA s0 hE h0 r M hM z0 (-1) st q1 e9) (List.forall_mem_cons.mpr ⟨ms_k1800, List.forall_mem_cons.mpr ⟨ms_k1802, List.forall_mem_cons.mpr ⟨ms_p100, List.forall_mem_cons.mpr ⟨ms_k7, List.forall_mem_cons.mpr ⟨ms_k1803, fun _ h => absurd h List.not_mem_nil⟩⟩⟩⟩⟩) ⟨rfl, by decide +kernel, by decide +kernel, (by decide +kernel : (parseMethodDescriptor "(I)V").map (fun d => d.parameters.length) = some 1)⟩ (hm_recv hK I rfl mm_hr) I ⟨rfl, rfl⟩ ⟨⟨Nat.le_of_ble_eq_true rfl, Nat.le_of_ble_eq_true rfl⟩, Nat.le_of_ble_eq_true rfl, Nat.le_of_ble_eq_true rfl⟩ rfl (Nat.le_of_ble_eq_true rfl) d122_2 (fun vv h1 z1 H locs hR I9 => ?_)
  obtain ⟨e1, e2, e3⟩ := hR
  rw [e2, e3] at I9
  clear I e2 e3 e9
  have I := I9
  clear I9
  subst e1
  refine W.eq (g2 := F0 m 5 ls []) rfl ?_
  refine lv_aload_n hx hb d122_5 rfl (lv_at hl 0 rfl) ?_
  refine va_get (D := D) (ci := 2) (v := .int (q1.1 57)) (C := kR2) (T := kT2) (N := 60) hx hb hts ku2 hown hK (hm_one I.1 mm_hr) 0 rfl rfl 57 (by decide) (hts _ ms_k1373) (fun _ h => h) rfl d122_6 ?_
  exact ht_iret X d122_9 I (Nat.le_of_ble_eq_true rfl) (Nat.le_of_ble_eq_true rfl) (mm_fin hF)

def g_written (y1 : Int32) (st : mT) : Option (Int32 × mT) := ((g_write y1 st).bind (fun q1 => (some ((q1.1 59), q1))))
set_option maxRecDepth 100000 in
set_option maxHeartbeats 8000000 in
theorem cm_written (l : Launch) (D : va_G) (dA : Nat → ClassId) (s0 : State) (hE : ms_EV D dA s0) (h0 : hm_T) (r : Nat) (M : Nat → Nat) (hM : mm_ok r M) (z0 : hz_T) (y1 : Int32) (st : mT) (q : Int32 × mT) (hg : g_written y1 st = some q) : ht_C l D s0 yM123 bM123 2 (Option.some Jvm.ClassFile.FieldType.int) 5 117 0 0 [.ref r, .int y1] (fun h z => h = mm_h dA h0 r M st ∧ z = z0) (fun h z vv h1 z1 => vv = some (.int q.1) ∧ h1 = mm_h dA h0 r M q.2 ∧ z1 = z0) := by
  refine ht_C.mk hE.1 (by decide) (Nat.le_of_ble_eq_true rfl) [(0, .ref r), (1, .int y1)] rfl ?_
  intro p e s m below meth c ls h z X hin hpre I hl
  have hx := X.1
  have hb := X.2.1
  have hml := X.2.2.1
  have hown : s.vm.findClass "MarkupStoreModel" = some m.cls := X.2.2.2.1
  have hts := X.2.2.2.2.2.2.1
  have hK := X.2.2.2.2.2.2.2.2.1
  rw [hpre.1, hpre.2] at I
  clear hpre
  have hF := hg
  unfold g_written at hF
  refine lv_aload_n hx hb d123_0 rfl (lv_at hl 0 rfl) ?_
  refine lv_iload_n hx hb d123_1 rfl (lv_at hl 1 rfl) ?_
  obtain ⟨q1, e9, hF⟩ := mm_bd hF
  refine ht_V (C := "MarkupStoreModel") (rest := []) (as := [.int y1]) X hl (cm_write l D dA s0 hE h0 r M hM z0 y1 st q1 e9) (List.forall_mem_cons.mpr ⟨ms_k1800, List.forall_mem_cons.mpr ⟨ms_k1802, List.forall_mem_cons.mpr ⟨ms_p100, List.forall_mem_cons.mpr ⟨ms_k7, List.forall_mem_cons.mpr ⟨ms_k1803, fun _ h => absurd h List.not_mem_nil⟩⟩⟩⟩⟩) ⟨rfl, by decide +kernel, by decide +kernel, (by decide +kernel : (parseMethodDescriptor "(I)V").map (fun d => d.parameters.length) = some 1)⟩ (hm_recv hK I rfl mm_hr) I ⟨rfl, rfl⟩ ⟨⟨Nat.le_of_ble_eq_true rfl, Nat.le_of_ble_eq_true rfl⟩, Nat.le_of_ble_eq_true rfl, Nat.le_of_ble_eq_true rfl⟩ rfl (Nat.le_of_ble_eq_true rfl) d123_2 (fun vv h1 z1 H locs hR I9 => ?_)
  obtain ⟨e1, e2, e3⟩ := hR
  rw [e2, e3] at I9
  clear I e2 e3 e9
  have I := I9
  clear I9
  subst e1
  refine W.eq (g2 := F0 m 5 ls []) rfl ?_
  refine lv_aload_n hx hb d123_5 rfl (lv_at hl 0 rfl) ?_
  refine va_get (D := D) (ci := 2) (v := .int (q1.1 59)) (C := kR2) (T := kT2) (N := 60) hx hb hts ku2 hown hK (hm_one I.1 mm_hr) 0 rfl rfl 59 (by decide) (hts _ ms_k1375) (fun _ h => h) rfl d123_6 ?_
  exact ht_iret X d123_9 I (Nat.le_of_ble_eq_true rfl) (Nat.le_of_ble_eq_true rfl) (mm_fin hF)
