theorem ms_k1371 : (Jvm.Cond.fieldLink "MarkupStoreModel" (379 : Nat) "MarkupStoreModel" "results" "I") ∈ ms_tb := ms_i6 171 (by decide +kernel) (by decide +kernel)
theorem ms_k1372 : (Jvm.Cond.fieldLink "MarkupStoreModel" (112 : Nat) "MarkupStoreModel" "result" "[I") ∈ ms_tb := ms_i6 172 (by decide +kernel) (by decide +kernel)
theorem ms_k1670 : (Jvm.Cond.methodLink "MarkupStoreModel" (382 : Nat) ({ cls := "MarkupStoreModel", name := "asked", desc := "(I)I" } : Jvm.MethodName)) ∈ ms_tb := ms_i7 230 (by decide +kernel) (by decide +kernel)
theorem ms_k1672 : (Jvm.Cond.instanceMethod ({ cls := "MarkupStoreModel", name := "asked", desc := "(I)I" } : Jvm.MethodName)) ∈ ms_tb := ms_i7 232 (by decide +kernel) (by decide +kernel)
theorem ms_k1673 : (Jvm.Cond.code ({ cls := "MarkupStoreModel", name := "asked", desc := "(I)I" } : Jvm.MethodName) prog_14_method_65_code (5 : Nat) (Option.some Jvm.ClassFile.FieldType.int)) ∈ ms_tb := ms_i7 233 (by decide +kernel) (by decide +kernel)
theorem ms_k1674 : (Jvm.Cond.methodLink "MarkupStoreModel" (373 : Nat) ({ cls := "MarkupStoreModel", name := "readPath", desc := "()V" } : Jvm.MethodName)) ∈ ms_tb := ms_i7 234 (by decide +kernel) (by decide +kernel)
theorem ms_k1676 : (Jvm.Cond.instanceMethod ({ cls := "MarkupStoreModel", name := "readPath", desc := "()V" } : Jvm.MethodName)) ∈ ms_tb := ms_i7 236 (by decide +kernel) (by decide +kernel)
theorem ms_k1677 : (Jvm.Cond.code ({ cls := "MarkupStoreModel", name := "readPath", desc := "()V" } : Jvm.MethodName) prog_14_method_53_code (1 : Nat) (Option.none : Option Jvm.ClassFile.FieldType)) ∈ ms_tb := ms_i7 237 (by decide +kernel) (by decide +kernel)
theorem ms_k1708 : (Jvm.Cond.methodLink "MarkupStoreModel" (376 : Nat) ({ cls := "MarkupStoreModel", name := "fill", desc := "(I)V" } : Jvm.MethodName)) ∈ ms_tb := ms_i8 28 (by decide +kernel) (by decide +kernel)
theorem ms_k1710 : (Jvm.Cond.instanceMethod ({ cls := "MarkupStoreModel", name := "fill", desc := "(I)V" } : Jvm.MethodName)) ∈ ms_tb := ms_i8 30 (by decide +kernel) (by decide +kernel)
theorem ms_k1711 : (Jvm.Cond.code ({ cls := "MarkupStoreModel", name := "fill", desc := "(I)V" } : Jvm.MethodName) prog_14_method_64_code (9 : Nat) (Option.none : Option Jvm.ClassFile.FieldType)) ∈ ms_tb := ms_i8 31 (by decide +kernel) (by decide +kernel)
theorem ms_k1712 : (Jvm.Cond.methodLink "MarkupStoreModel" (366 : Nat) ({ cls := "MarkupStoreModel", name := "lead", desc := "(II)J" } : Jvm.MethodName)) ∈ ms_tb := ms_i8 32 (by decide +kernel) (by decide +kernel)
theorem ms_k1714 : (Jvm.Cond.instanceMethod ({ cls := "MarkupStoreModel", name := "lead", desc := "(II)J" } : Jvm.MethodName)) ∈ ms_tb := ms_i8 34 (by decide +kernel) (by decide +kernel)
theorem ms_k1715 : (Jvm.Cond.code ({ cls := "MarkupStoreModel", name := "lead", desc := "(II)J" } : Jvm.MethodName) prog_14_method_62_code (9 : Nat) (Option.some Jvm.ClassFile.FieldType.long)) ∈ ms_tb := ms_i8 35 (by decide +kernel) (by decide +kernel)
theorem ms_k1716 : (Jvm.Cond.methodLink "MarkupStoreModel" (362 : Nat) ({ cls := "MarkupStoreModel", name := "walk", desc := "(II)J" } : Jvm.MethodName)) ∈ ms_tb := ms_i8 36 (by decide +kernel) (by decide +kernel)
theorem ms_k1718 : (Jvm.Cond.instanceMethod ({ cls := "MarkupStoreModel", name := "walk", desc := "(II)J" } : Jvm.MethodName)) ∈ ms_tb := ms_i8 38 (by decide +kernel) (by decide +kernel)
theorem ms_k1719 : (Jvm.Cond.code ({ cls := "MarkupStoreModel", name := "walk", desc := "(II)J" } : Jvm.MethodName) prog_14_method_61_code (7 : Nat) (Option.some Jvm.ClassFile.FieldType.long)) ∈ ms_tb := ms_i8 39 (by decide +kernel) (by decide +kernel)
theorem ms_k1752 : (Jvm.Cond.methodLink "MarkupStoreModel" (369 : Nat) ({ cls := "MarkupStoreModel", name := "reads", desc := "(IIIZ)Z" } : Jvm.MethodName)) ∈ ms_tb := ms_i8 72 (by decide +kernel) (by decide +kernel)
theorem ms_k1754 : (Jvm.Cond.instanceMethod ({ cls := "MarkupStoreModel", name := "reads", desc := "(IIIZ)Z" } : Jvm.MethodName)) ∈ ms_tb := ms_i8 74 (by decide +kernel) (by decide +kernel)
theorem ms_k1755 : (Jvm.Cond.code ({ cls := "MarkupStoreModel", name := "reads", desc := "(IIIZ)Z" } : Jvm.MethodName) prog_14_method_63_code (12 : Nat) (Option.some Jvm.ClassFile.FieldType.boolean)) ∈ ms_tb := ms_i8 75 (by decide +kernel) (by decide +kernel)
theorem ms_k1776 : (Jvm.Cond.methodLink "MarkupStoreModel" (385 : Nat) ({ cls := "MarkupStoreModel", name := "kids", desc := "(IZ)I" } : Jvm.MethodName)) ∈ ms_tb := ms_i8 96 (by decide +kernel) (by decide +kernel)
theorem ms_k1778 : (Jvm.Cond.instanceMethod ({ cls := "MarkupStoreModel", name := "kids", desc := "(IZ)I" } : Jvm.MethodName)) ∈ ms_tb := ms_i8 98 (by decide +kernel) (by decide +kernel)
theorem ms_k1779 : (Jvm.Cond.code ({ cls := "MarkupStoreModel", name := "kids", desc := "(IZ)I" } : Jvm.MethodName) prog_14_method_71_code (6 : Nat) (Option.some Jvm.ClassFile.FieldType.int)) ∈ ms_tb := ms_i8 99 (by decide +kernel) (by decide +kernel)
theorem ms_p79 : Cond.selects "MarkupStoreModel" (⟨"MarkupStoreModel", "asked", "(I)I"⟩ : MethodName) (⟨"MarkupStoreModel", "asked", "(I)I"⟩ : MethodName) ∈ ms_tb := ms_inP 79 (by decide +kernel) (by decide +kernel)
theorem ms_p80 : Cond.selects "MarkupStoreModel" (⟨"MarkupStoreModel", "readPath", "()V"⟩ : MethodName) (⟨"MarkupStoreModel", "readPath", "()V"⟩ : MethodName) ∈ ms_tb := ms_inP 80 (by decide +kernel) (by decide +kernel)
theorem ms_p87 : Cond.selects "MarkupStoreModel" (⟨"MarkupStoreModel", "fill", "(I)V"⟩ : MethodName) (⟨"MarkupStoreModel", "fill", "(I)V"⟩ : MethodName) ∈ ms_tb := ms_inP 87 (by decide +kernel) (by decide +kernel)
theorem ms_p88 : Cond.selects "MarkupStoreModel" (⟨"MarkupStoreModel", "lead", "(II)J"⟩ : MethodName) (⟨"MarkupStoreModel", "lead", "(II)J"⟩ : MethodName) ∈ ms_tb := ms_inP 88 (by decide +kernel) (by decide +kernel)
theorem ms_p89 : Cond.selects "MarkupStoreModel" (⟨"MarkupStoreModel", "walk", "(II)J"⟩ : MethodName) (⟨"MarkupStoreModel", "walk", "(II)J"⟩ : MethodName) ∈ ms_tb := ms_inP 89 (by decide +kernel) (by decide +kernel)
theorem ms_p98 : Cond.selects "MarkupStoreModel" (⟨"MarkupStoreModel", "reads", "(IIIZ)Z"⟩ : MethodName) (⟨"MarkupStoreModel", "reads", "(IIIZ)Z"⟩ : MethodName) ∈ ms_tb := ms_inP 98 (by decide +kernel) (by decide +kernel)
theorem ms_p99 : Cond.selects "MarkupStoreModel" (⟨"MarkupStoreModel", "kids", "(IZ)I"⟩ : MethodName) (⟨"MarkupStoreModel", "kids", "(IZ)I"⟩ : MethodName) ∈ ms_tb := ms_inP 99 (by decide +kernel) (by decide +kernel)
abbrev bM100 : ByteArray := prog_14_method_62_code
def yM100 : MethodName := ⟨"MarkupStoreModel", "lead", "(II)J"⟩
abbrev bM101 : ByteArray := prog_14_method_63_code
def yM101 : MethodName := ⟨"MarkupStoreModel", "reads", "(IIIZ)Z"⟩
abbrev bM102 : ByteArray := prog_14_method_64_code
def yM102 : MethodName := ⟨"MarkupStoreModel", "fill", "(I)V"⟩
abbrev bM103 : ByteArray := prog_14_method_65_code
def yM103 : MethodName := ⟨"MarkupStoreModel", "asked", "(I)I"⟩
abbrev bM104 : ByteArray := prog_14_method_66_code
def yM104 : MethodName := ⟨"MarkupStoreModel", "query", "(I)I"⟩
abbrev bM105 : ByteArray := prog_14_method_67_code
def yM105 : MethodName := ⟨"MarkupStoreModel", "result", "(I)I"⟩
abbrev bM106 : ByteArray := prog_14_method_68_code
def yM106 : MethodName := ⟨"MarkupStoreModel", "commit", "()I"⟩
abbrev bM107 : ByteArray := prog_14_method_69_code
def yM107 : MethodName := ⟨"MarkupStoreModel", "crash", "()I"⟩
abbrev bM108 : ByteArray := prog_14_method_70_code
def yM108 : MethodName := ⟨"MarkupStoreModel", "kind", "(I)I"⟩
abbrev bM109 : ByteArray := prog_14_method_71_code
def yM109 : MethodName := ⟨"MarkupStoreModel", "kids", "(IZ)I"⟩
abbrev bM110 : ByteArray := prog_14_method_72_code
def yM110 : MethodName := ⟨"MarkupStoreModel", "node", "(II)I"⟩
abbrev bM111 : ByteArray := prog_14_method_73_code
def yM111 : MethodName := ⟨"MarkupStoreModel", "letter", "(II)I"⟩
theorem d100_0 : decode bM100 0 = .ok (.aload_n 0, 1) := by decide +kernel
theorem d100_1 : decode bM100 1 = .ok (.iload_n 1, 1) := by decide +kernel
theorem d100_2 : decode bM100 2 = .ok (.iload_n 2, 1) := by decide +kernel
theorem d100_3 : decode bM100 3 = .ok (.invokevirtual 362, 3) := by decide +kernel
theorem d100_6 : decode bM100 6 = .ok (.lstore_n 3, 1) := by decide +kernel
theorem d100_7 : decode bM100 7 = .ok (.aload_n 0, 1) := by decide +kernel
theorem d100_8 : decode bM100 8 = .ok (.getfield 59, 3) := by decide +kernel
theorem d100_11 : decode bM100 11 = .ok (.iload_n 1, 1) := by decide +kernel
theorem d100_12 : decode bM100 12 = .ok (.iaload, 1) := by decide +kernel
theorem d100_13 : decode bM100 13 = .ok (.istore 5, 2) := by decide +kernel
theorem d100_15 : decode bM100 15 = .ok (.iload 5, 2) := by decide +kernel
theorem d100_17 : decode bM100 17 = .ok (.ifCond .lt 68, 3) := by decide +kernel
theorem d100_20 : decode bM100 20 = .ok (.lconst 0, 1) := by decide +kernel
theorem d100_21 : decode bM100 21 = .ok (.lstore 6, 2) := by decide +kernel
theorem d100_23 : decode bM100 23 = .ok (.iconst 0, 1) := by decide +kernel
theorem d100_24 : decode bM100 24 = .ok (.istore 8, 2) := by decide +kernel
theorem d100_26 : decode bM100 26 = .ok (.iload 8, 2) := by decide +kernel
theorem d100_28 : decode bM100 28 = .ok (.aload_n 0, 1) := by decide +kernel
theorem d100_29 : decode bM100 29 = .ok (.invokevirtual 115, 3) := by decide +kernel
theorem d100_32 : decode bM100 32 = .ok (.if_icmp .ge 38, 3) := by decide +kernel
theorem d100_35 : decode bM100 35 = .ok (.lload_n 3, 1) := by decide +kernel
theorem d100_36 : decode bM100 36 = .ok (.iload 8, 2) := by decide +kernel
theorem d100_38 : decode bM100 38 = .ok (.lshr, 1) := by decide +kernel
theorem d100_39 : decode bM100 39 = .ok (.lconst 1, 1) := by decide +kernel
theorem d100_40 : decode bM100 40 = .ok (.land, 1) := by decide +kernel
theorem d100_41 : decode bM100 41 = .ok (.lconst 1, 1) := by decide +kernel
theorem d100_42 : decode bM100 42 = .ok (.lcmp, 1) := by decide +kernel
theorem d100_43 : decode bM100 43 = .ok (.ifCond .ne 17, 3) := by decide +kernel
theorem d100_46 : decode bM100 46 = .ok (.lload 6, 2) := by decide +kernel
theorem d100_48 : decode bM100 48 = .ok (.aload_n 0, 1) := by decide +kernel
theorem d100_49 : decode bM100 49 = .ok (.iload 5, 2) := by decide +kernel
theorem d100_51 : decode bM100 51 = .ok (.iload 8, 2) := by decide +kernel
theorem d100_53 : decode bM100 53 = .ok (.invokevirtual 362, 3) := by decide +kernel
theorem d100_56 : decode bM100 56 = .ok (.lor, 1) := by decide +kernel
theorem d100_57 : decode bM100 57 = .ok (.goto 5, 3) := by decide +kernel
theorem d100_60 : decode bM100 60 = .ok (.lload 6, 2) := by decide +kernel
theorem d100_62 : decode bM100 62 = .ok (.lstore 6, 2) := by decide +kernel
theorem d100_64 : decode bM100 64 = .ok (.iinc 8 1, 3) := by decide +kernel
theorem d100_67 : decode bM100 67 = .ok (.goto (-41), 3) := by decide +kernel
theorem d100_70 : decode bM100 70 = .ok (.lload 6, 2) := by decide +kernel
theorem d100_72 : decode bM100 72 = .ok (.lstore_n 3, 1) := by decide +kernel
theorem d100_73 : decode bM100 73 = .ok (.aload_n 0, 1) := by decide +kernel
theorem d100_74 : decode bM100 74 = .ok (.getfield 59, 3) := by decide +kernel
theorem d100_77 : decode bM100 77 = .ok (.iload 5, 2) := by decide +kernel
theorem d100_79 : decode bM100 79 = .ok (.iaload, 1) := by decide +kernel
theorem d100_80 : decode bM100 80 = .ok (.istore 5, 2) := by decide +kernel
theorem d100_82 : decode bM100 82 = .ok (.goto (-67), 3) := by decide +kernel
theorem d100_85 : decode bM100 85 = .ok (.lload_n 3, 1) := by decide +kernel
theorem d100_86 : decode bM100 86 = .ok (.lreturn, 1) := by decide +kernel
theorem d101_0 : decode bM101 0 = .ok (.iconst 0, 1) := by decide +kernel
theorem d101_1 : decode bM101 1 = .ok (.istore 5, 2) := by decide +kernel
theorem d101_3 : decode bM101 3 = .ok (.iconst 1, 1) := by decide +kernel
theorem d101_4 : decode bM101 4 = .ok (.istore 6, 2) := by decide +kernel
theorem d101_6 : decode bM101 6 = .ok (.aload_n 0, 1) := by decide +kernel
theorem d101_7 : decode bM101 7 = .ok (.iload_n 1, 1) := by decide +kernel
theorem d101_8 : decode bM101 8 = .ok (.invokevirtual 272, 3) := by decide +kernel
theorem d101_11 : decode bM101 11 = .ok (.istore 7, 2) := by decide +kernel
theorem d101_13 : decode bM101 13 = .ok (.iload_n 1, 1) := by decide +kernel
theorem d101_14 : decode bM101 14 = .ok (.istore 8, 2) := by decide +kernel
theorem d101_16 : decode bM101 16 = .ok (.iload 8, 2) := by decide +kernel
theorem d101_18 : decode bM101 18 = .ok (.iload 7, 2) := by decide +kernel
theorem d101_20 : decode bM101 20 = .ok (.if_icmp .ge 131, 3) := by decide +kernel
theorem d101_23 : decode bM101 23 = .ok (.iload 6, 2) := by decide +kernel
theorem d101_25 : decode bM101 25 = .ok (.ifCond .eq 126, 3) := by decide +kernel
theorem d101_28 : decode bM101 28 = .ok (.aload_n 0, 1) := by decide +kernel
theorem d101_29 : decode bM101 29 = .ok (.iload 8, 2) := by decide +kernel
theorem d101_31 : decode bM101 31 = .ok (.invokevirtual 119, 3) := by decide +kernel
theorem d101_34 : decode bM101 34 = .ok (.istore 9, 2) := by decide +kernel
theorem d101_36 : decode bM101 36 = .ok (.aload_n 0, 1) := by decide +kernel
theorem d101_37 : decode bM101 37 = .ok (.iload 9, 2) := by decide +kernel
theorem d101_39 : decode bM101 39 = .ok (.iconst 1, 1) := by decide +kernel
theorem d101_40 : decode bM101 40 = .ok (.invokevirtual 123, 3) := by decide +kernel
theorem d101_43 : decode bM101 43 = .ok (.iconst 2, 1) := by decide +kernel
theorem d101_44 : decode bM101 44 = .ok (.if_icmp .eq 20, 3) := by decide +kernel
theorem d101_47 : decode bM101 47 = .ok (.iload 8, 2) := by decide +kernel
theorem d101_49 : decode bM101 49 = .ok (.iload_n 1, 1) := by decide +kernel
theorem d101_50 : decode bM101 50 = .ok (.if_icmp .ne 18, 3) := by decide +kernel
theorem d101_53 : decode bM101 53 = .ok (.aload_n 0, 1) := by decide +kernel
theorem d101_54 : decode bM101 54 = .ok (.iload 9, 2) := by decide +kernel
theorem d101_56 : decode bM101 56 = .ok (.iconst 1, 1) := by decide +kernel
theorem d101_57 : decode bM101 57 = .ok (.invokevirtual 123, 3) := by decide +kernel
theorem d101_60 : decode bM101 60 = .ok (.iconst 3, 1) := by decide +kernel
theorem d101_61 : decode bM101 61 = .ok (.if_icmp .ne 7, 3) := by decide +kernel
theorem d101_64 : decode bM101 64 = .ok (.iconst 1, 1) := by decide +kernel
theorem d101_65 : decode bM101 65 = .ok (.goto 4, 3) := by decide +kernel
theorem d101_68 : decode bM101 68 = .ok (.iconst 0, 1) := by decide +kernel
theorem d101_69 : decode bM101 69 = .ok (.istore 10, 2) := by decide +kernel
theorem d101_71 : decode bM101 71 = .ok (.iconst 0, 1) := by decide +kernel
theorem d101_72 : decode bM101 72 = .ok (.istore 11, 2) := by decide +kernel
theorem d101_74 : decode bM101 74 = .ok (.iload 11, 2) := by decide +kernel
theorem d101_76 : decode bM101 76 = .ok (.aload_n 0, 1) := by decide +kernel
theorem d101_77 : decode bM101 77 = .ok (.iload 9, 2) := by decide +kernel
theorem d101_79 : decode bM101 79 = .ok (.iconst 3, 1) := by decide +kernel
theorem d101_80 : decode bM101 80 = .ok (.invokevirtual 123, 3) := by decide +kernel
theorem d101_83 : decode bM101 83 = .ok (.if_icmp .ge 62, 3) := by decide +kernel
theorem d101_86 : decode bM101 86 = .ok (.iload 10, 2) := by decide +kernel
theorem d101_88 : decode bM101 88 = .ok (.ifCond .eq 57, 3) := by decide +kernel
theorem d101_91 : decode bM101 91 = .ok (.iload 6, 2) := by decide +kernel
theorem d101_93 : decode bM101 93 = .ok (.ifCond .eq 52, 3) := by decide +kernel
theorem d101_96 : decode bM101 96 = .ok (.iload 5, 2) := by decide +kernel
theorem d101_98 : decode bM101 98 = .ok (.iload_n 3, 1) := by decide +kernel
theorem d101_99 : decode bM101 99 = .ok (.if_icmp .ge 33, 3) := by decide +kernel
theorem d101_102 : decode bM101 102 = .ok (.aload_n 0, 1) := by decide +kernel
theorem d101_103 : decode bM101 103 = .ok (.iload 9, 2) := by decide +kernel
theorem d101_105 : decode bM101 105 = .ok (.bipush 8, 2) := by decide +kernel
theorem d101_107 : decode bM101 107 = .ok (.iload 11, 2) := by decide +kernel
theorem d101_109 : decode bM101 109 = .ok (.iadd, 1) := by decide +kernel
theorem d101_110 : decode bM101 110 = .ok (.invokevirtual 123, 3) := by decide +kernel
theorem d101_113 : decode bM101 113 = .ok (.aload_n 0, 1) := by decide +kernel
theorem d101_114 : decode bM101 114 = .ok (.iload_n 2, 1) := by decide +kernel
theorem d101_115 : decode bM101 115 = .ok (.iload 5, 2) := by decide +kernel
theorem d101_117 : decode bM101 117 = .ok (.iadd, 1) := by decide +kernel
theorem d101_118 : decode bM101 118 = .ok (.invokevirtual 140, 3) := by decide +kernel
theorem d101_121 : decode bM101 121 = .ok (.if_icmp .ne 7, 3) := by decide +kernel
theorem d101_124 : decode bM101 124 = .ok (.iconst 1, 1) := by decide +kernel
theorem d101_125 : decode bM101 125 = .ok (.goto 9, 3) := by decide +kernel
theorem d101_128 : decode bM101 128 = .ok (.iconst 0, 1) := by decide +kernel
theorem d101_129 : decode bM101 129 = .ok (.goto 5, 3) := by decide +kernel
theorem d101_132 : decode bM101 132 = .ok (.iload 4, 2) := by decide +kernel
theorem d101_134 : decode bM101 134 = .ok (.istore 6, 2) := by decide +kernel
theorem d101_136 : decode bM101 136 = .ok (.iinc 5 1, 3) := by decide +kernel
theorem d101_139 : decode bM101 139 = .ok (.iinc 11 1, 3) := by decide +kernel
theorem d101_142 : decode bM101 142 = .ok (.goto (-68), 3) := by decide +kernel
theorem d101_145 : decode bM101 145 = .ok (.iinc 8 1, 3) := by decide +kernel
theorem d101_148 : decode bM101 148 = .ok (.goto (-132), 3) := by decide +kernel
theorem d101_151 : decode bM101 151 = .ok (.iload 6, 2) := by decide +kernel
theorem d101_153 : decode bM101 153 = .ok (.ifCond .eq 13, 3) := by decide +kernel
theorem d101_156 : decode bM101 156 = .ok (.iload 5, 2) := by decide +kernel
theorem d101_158 : decode bM101 158 = .ok (.iload_n 3, 1) := by decide +kernel
theorem d101_159 : decode bM101 159 = .ok (.if_icmp .lt 7, 3) := by decide +kernel
theorem d101_162 : decode bM101 162 = .ok (.iconst 1, 1) := by decide +kernel
theorem d101_163 : decode bM101 163 = .ok (.goto 4, 3) := by decide +kernel
theorem d101_166 : decode bM101 166 = .ok (.iconst 0, 1) := by decide +kernel
theorem d101_167 : decode bM101 167 = .ok (.ireturn, 1) := by decide +kernel
theorem d102_0 : decode bM102 0 = .ok (.lconst 0, 1) := by decide +kernel
theorem d102_1 : decode bM102 1 = .ok (.lstore_n 2, 1) := by decide +kernel
theorem d102_2 : decode bM102 2 = .ok (.iconst 0, 1) := by decide +kernel
theorem d102_3 : decode bM102 3 = .ok (.istore 4, 2) := by decide +kernel
theorem d102_5 : decode bM102 5 = .ok (.iload 4, 2) := by decide +kernel
theorem d102_7 : decode bM102 7 = .ok (.aload_n 0, 1) := by decide +kernel
theorem d102_8 : decode bM102 8 = .ok (.invokevirtual 115, 3) := by decide +kernel
theorem d102_11 : decode bM102 11 = .ok (.if_icmp .ge 165, 3) := by decide +kernel
theorem d102_14 : decode bM102 14 = .ok (.aload_n 0, 1) := by decide +kernel
theorem d102_15 : decode bM102 15 = .ok (.aload_n 0, 1) := by decide +kernel
theorem d102_16 : decode bM102 16 = .ok (.getfield 80, 3) := by decide +kernel
theorem d102_19 : decode bM102 19 = .ok (.iload_n 1, 1) := by decide +kernel
theorem d102_20 : decode bM102 20 = .ok (.iaload, 1) := by decide +kernel
theorem d102_21 : decode bM102 21 = .ok (.aload_n 0, 1) := by decide +kernel
theorem d102_22 : decode bM102 22 = .ok (.getfield 90, 3) := by decide +kernel
theorem d102_25 : decode bM102 25 = .ok (.iload_n 1, 1) := by decide +kernel
theorem d102_26 : decode bM102 26 = .ok (.baload, 1) := by decide +kernel
theorem d102_27 : decode bM102 27 = .ok (.ifCond .eq 7, 3) := by decide +kernel
theorem d102_30 : decode bM102 30 = .ok (.iconst (-1), 1) := by decide +kernel
theorem d102_31 : decode bM102 31 = .ok (.goto 5, 3) := by decide +kernel
theorem d102_34 : decode bM102 34 = .ok (.iload 4, 2) := by decide +kernel
theorem d102_36 : decode bM102 36 = .ok (.invokevirtual 366, 3) := by decide +kernel
theorem d102_39 : decode bM102 39 = .ok (.lstore 5, 2) := by decide +kernel
theorem d102_41 : decode bM102 41 = .ok (.aload_n 0, 1) := by decide +kernel
theorem d102_42 : decode bM102 42 = .ok (.getfield 62, 3) := by decide +kernel
theorem d102_45 : decode bM102 45 = .ok (.iload_n 1, 1) := by decide +kernel
theorem d102_46 : decode bM102 46 = .ok (.iaload, 1) := by decide +kernel
theorem d102_47 : decode bM102 47 = .ok (.iconst 4, 1) := by decide +kernel
theorem d102_48 : decode bM102 48 = .ok (.if_icmp .ne 14, 3) := by decide +kernel
theorem d102_51 : decode bM102 51 = .ok (.lload 5, 2) := by decide +kernel
theorem d102_53 : decode bM102 53 = .ok (.lconst 0, 1) := by decide +kernel
theorem d102_54 : decode bM102 54 = .ok (.lcmp, 1) := by decide +kernel
theorem d102_55 : decode bM102 55 = .ok (.ifCond .eq 7, 3) := by decide +kernel
theorem d102_58 : decode bM102 58 = .ok (.iconst 1, 1) := by decide +kernel
theorem d102_59 : decode bM102 59 = .ok (.goto 4, 3) := by decide +kernel
theorem d102_62 : decode bM102 62 = .ok (.iconst 0, 1) := by decide +kernel
theorem d102_63 : decode bM102 63 = .ok (.istore 7, 2) := by decide +kernel
theorem d102_65 : decode bM102 65 = .ok (.iconst 0, 1) := by decide +kernel
theorem d102_66 : decode bM102 66 = .ok (.istore 8, 2) := by decide +kernel
theorem d102_68 : decode bM102 68 = .ok (.iload 8, 2) := by decide +kernel
theorem d102_70 : decode bM102 70 = .ok (.aload_n 0, 1) := by decide +kernel
theorem d102_71 : decode bM102 71 = .ok (.invokevirtual 115, 3) := by decide +kernel
theorem d102_74 : decode bM102 74 = .ok (.if_icmp .ge 80, 3) := by decide +kernel
theorem d102_77 : decode bM102 77 = .ok (.aload_n 0, 1) := by decide +kernel
theorem d102_78 : decode bM102 78 = .ok (.getfield 62, 3) := by decide +kernel
theorem d102_81 : decode bM102 81 = .ok (.iload_n 1, 1) := by decide +kernel
theorem d102_82 : decode bM102 82 = .ok (.iaload, 1) := by decide +kernel
theorem d102_83 : decode bM102 83 = .ok (.iconst 4, 1) := by decide +kernel
theorem d102_84 : decode bM102 84 = .ok (.if_icmp .le 70, 3) := by decide +kernel
theorem d102_87 : decode bM102 87 = .ok (.iload 7, 2) := by decide +kernel
theorem d102_89 : decode bM102 89 = .ok (.ifCond .ne 52, 3) := by decide +kernel
theorem d102_92 : decode bM102 92 = .ok (.lload 5, 2) := by decide +kernel
theorem d102_94 : decode bM102 94 = .ok (.iload 8, 2) := by decide +kernel
theorem d102_96 : decode bM102 96 = .ok (.lshr, 1) := by decide +kernel
theorem d102_97 : decode bM102 97 = .ok (.lconst 1, 1) := by decide +kernel
theorem d102_98 : decode bM102 98 = .ok (.land, 1) := by decide +kernel
theorem d102_99 : decode bM102 99 = .ok (.lconst 1, 1) := by decide +kernel
theorem d102_100 : decode bM102 100 = .ok (.lcmp, 1) := by decide +kernel
theorem d102_101 : decode bM102 101 = .ok (.ifCond .ne 44, 3) := by decide +kernel
theorem d102_104 : decode bM102 104 = .ok (.aload_n 0, 1) := by decide +kernel
theorem d102_105 : decode bM102 105 = .ok (.iload 8, 2) := by decide +kernel
theorem d102_107 : decode bM102 107 = .ok (.aload_n 0, 1) := by decide +kernel
theorem d102_108 : decode bM102 108 = .ok (.getfield 74, 3) := by decide +kernel
theorem d102_111 : decode bM102 111 = .ok (.iload_n 1, 1) := by decide +kernel
theorem d102_112 : decode bM102 112 = .ok (.iaload, 1) := by decide +kernel
theorem d102_113 : decode bM102 113 = .ok (.aload_n 0, 1) := by decide +kernel
theorem d102_114 : decode bM102 114 = .ok (.getfield 77, 3) := by decide +kernel
theorem d102_117 : decode bM102 117 = .ok (.iload_n 1, 1) := by decide +kernel
theorem d102_118 : decode bM102 118 = .ok (.iaload, 1) := by decide +kernel
theorem d102_119 : decode bM102 119 = .ok (.aload_n 0, 1) := by decide +kernel
theorem d102_120 : decode bM102 120 = .ok (.getfield 62, 3) := by decide +kernel
theorem d102_123 : decode bM102 123 = .ok (.iload_n 1, 1) := by decide +kernel
theorem d102_124 : decode bM102 124 = .ok (.iaload, 1) := by decide +kernel
theorem d102_125 : decode bM102 125 = .ok (.bipush 6, 2) := by decide +kernel
theorem d102_127 : decode bM102 127 = .ok (.if_icmp .ne 7, 3) := by decide +kernel
theorem d102_130 : decode bM102 130 = .ok (.iconst 1, 1) := by decide +kernel
theorem d102_131 : decode bM102 131 = .ok (.goto 4, 3) := by decide +kernel
theorem d102_134 : decode bM102 134 = .ok (.iconst 0, 1) := by decide +kernel
theorem d102_135 : decode bM102 135 = .ok (.invokevirtual 369, 3) := by decide +kernel
theorem d102_138 : decode bM102 138 = .ok (.ifCond .eq 7, 3) := by decide +kernel
theorem d102_141 : decode bM102 141 = .ok (.iconst 1, 1) := by decide +kernel
theorem d102_142 : decode bM102 142 = .ok (.goto 4, 3) := by decide +kernel
theorem d102_145 : decode bM102 145 = .ok (.iconst 0, 1) := by decide +kernel
theorem d102_146 : decode bM102 146 = .ok (.istore 7, 2) := by decide +kernel
theorem d102_148 : decode bM102 148 = .ok (.iinc 8 1, 3) := by decide +kernel
theorem d102_151 : decode bM102 151 = .ok (.goto (-83), 3) := by decide +kernel
theorem d102_154 : decode bM102 154 = .ok (.iload 7, 2) := by decide +kernel
theorem d102_156 : decode bM102 156 = .ok (.ifCond .eq 12, 3) := by decide +kernel
theorem d102_159 : decode bM102 159 = .ok (.lload_n 2, 1) := by decide +kernel
theorem d102_160 : decode bM102 160 = .ok (.lconst 1, 1) := by decide +kernel
theorem d102_161 : decode bM102 161 = .ok (.iload 4, 2) := by decide +kernel
theorem d102_163 : decode bM102 163 = .ok (.lshl, 1) := by decide +kernel
theorem d102_164 : decode bM102 164 = .ok (.lor, 1) := by decide +kernel
theorem d102_165 : decode bM102 165 = .ok (.goto 4, 3) := by decide +kernel
theorem d102_168 : decode bM102 168 = .ok (.lload_n 2, 1) := by decide +kernel
theorem d102_169 : decode bM102 169 = .ok (.lstore_n 2, 1) := by decide +kernel
theorem d102_170 : decode bM102 170 = .ok (.iinc 4 1, 3) := by decide +kernel
theorem d102_173 : decode bM102 173 = .ok (.goto (-168), 3) := by decide +kernel
theorem d102_176 : decode bM102 176 = .ok (.aload_n 0, 1) := by decide +kernel
theorem d102_177 : decode bM102 177 = .ok (.getfield 93, 3) := by decide +kernel
theorem d102_180 : decode bM102 180 = .ok (.iload_n 1, 1) := by decide +kernel
theorem d102_181 : decode bM102 181 = .ok (.lload_n 2, 1) := by decide +kernel
theorem d102_182 : decode bM102 182 = .ok (.lastore, 1) := by decide +kernel
theorem d102_183 : decode bM102 183 = .ok (.return_, 1) := by decide +kernel
theorem d103_0 : decode bM103 0 = .ok (.aload_n 0, 1) := by decide +kernel
theorem d103_1 : decode bM103 1 = .ok (.invokevirtual 373, 3) := by decide +kernel
theorem d103_4 : decode bM103 4 = .ok (.aload_n 0, 1) := by decide +kernel
theorem d103_5 : decode bM103 5 = .ok (.getfield 137, 3) := by decide +kernel
theorem d103_8 : decode bM103 8 = .ok (.ifCond .lt 10, 3) := by decide +kernel
theorem d103_11 : decode bM103 11 = .ok (.iconst (-1), 1) := by decide +kernel
theorem d103_12 : decode bM103 12 = .ok (.aload_n 0, 1) := by decide +kernel
theorem d103_13 : decode bM103 13 = .ok (.getfield 137, 3) := by decide +kernel
theorem d103_16 : decode bM103 16 = .ok (.isub, 1) := by decide +kernel
theorem d103_17 : decode bM103 17 = .ok (.ireturn, 1) := by decide +kernel
theorem d103_18 : decode bM103 18 = .ok (.iconst 0, 1) := by decide +kernel
theorem d103_19 : decode bM103 19 = .ok (.istore_n 2, 1) := by decide +kernel
theorem d103_20 : decode bM103 20 = .ok (.iload_n 2, 1) := by decide +kernel
theorem d103_21 : decode bM103 21 = .ok (.aload_n 0, 1) := by decide +kernel
theorem d103_22 : decode bM103 22 = .ok (.getfield 309, 3) := by decide +kernel
theorem d103_25 : decode bM103 25 = .ok (.if_icmp .ge 19, 3) := by decide +kernel
theorem d103_28 : decode bM103 28 = .ok (.aload_n 0, 1) := by decide +kernel
theorem d103_29 : decode bM103 29 = .ok (.aload_n 0, 1) := by decide +kernel
theorem d103_30 : decode bM103 30 = .ok (.getfield 97, 3) := by decide +kernel
theorem d103_33 : decode bM103 33 = .ok (.iload_n 2, 1) := by decide +kernel
theorem d103_34 : decode bM103 34 = .ok (.iaload, 1) := by decide +kernel
theorem d103_35 : decode bM103 35 = .ok (.invokevirtual 376, 3) := by decide +kernel
theorem d103_38 : decode bM103 38 = .ok (.iinc 2 1, 3) := by decide +kernel
theorem d103_41 : decode bM103 41 = .ok (.goto (-21), 3) := by decide +kernel
theorem d103_44 : decode bM103 44 = .ok (.aload_n 0, 1) := by decide +kernel
theorem d103_45 : decode bM103 45 = .ok (.aload_n 0, 1) := by decide +kernel
theorem d103_46 : decode bM103 46 = .ok (.getfield 300, 3) := by decide +kernel
theorem d103_49 : decode bM103 49 = .ok (.aload_n 0, 1) := by decide +kernel
theorem d103_50 : decode bM103 50 = .ok (.getfield 287, 3) := by decide +kernel
theorem d103_53 : decode bM103 53 = .ok (.ifCond .eq 7, 3) := by decide +kernel
theorem d103_56 : decode bM103 56 = .ok (.iconst (-1), 1) := by decide +kernel
theorem d103_57 : decode bM103 57 = .ok (.goto 8, 3) := by decide +kernel
theorem d103_60 : decode bM103 60 = .ok (.aload_n 0, 1) := by decide +kernel
theorem d103_61 : decode bM103 61 = .ok (.iload_n 1, 1) := by decide +kernel
theorem d103_62 : decode bM103 62 = .ok (.invokevirtual 130, 3) := by decide +kernel
theorem d103_65 : decode bM103 65 = .ok (.invokevirtual 366, 3) := by decide +kernel
theorem d103_68 : decode bM103 68 = .ok (.lstore_n 2, 1) := by decide +kernel
theorem d103_69 : decode bM103 69 = .ok (.aload_n 0, 1) := by decide +kernel
theorem d103_70 : decode bM103 70 = .ok (.iconst 0, 1) := by decide +kernel
theorem d103_71 : decode bM103 71 = .ok (.putfield 379, 3) := by decide +kernel
theorem d103_74 : decode bM103 74 = .ok (.iconst 0, 1) := by decide +kernel
theorem d103_75 : decode bM103 75 = .ok (.istore 4, 2) := by decide +kernel
theorem d103_77 : decode bM103 77 = .ok (.iload 4, 2) := by decide +kernel
theorem d103_79 : decode bM103 79 = .ok (.aload_n 0, 1) := by decide +kernel
theorem d103_80 : decode bM103 80 = .ok (.invokevirtual 115, 3) := by decide +kernel
theorem d103_83 : decode bM103 83 = .ok (.if_icmp .ge 52, 3) := by decide +kernel
theorem d103_86 : decode bM103 86 = .ok (.lload_n 2, 1) := by decide +kernel
theorem d103_87 : decode bM103 87 = .ok (.iload 4, 2) := by decide +kernel
theorem d103_89 : decode bM103 89 = .ok (.lshr, 1) := by decide +kernel
theorem d103_90 : decode bM103 90 = .ok (.lconst 1, 1) := by decide +kernel
theorem d103_91 : decode bM103 91 = .ok (.land, 1) := by decide +kernel
theorem d103_92 : decode bM103 92 = .ok (.lconst 1, 1) := by decide +kernel
theorem d103_93 : decode bM103 93 = .ok (.lcmp, 1) := by decide +kernel
theorem d103_94 : decode bM103 94 = .ok (.ifCond .ne 35, 3) := by decide +kernel
theorem d103_97 : decode bM103 97 = .ok (.aload_n 0, 1) := by decide +kernel
theorem d103_98 : decode bM103 98 = .ok (.getfield 112, 3) := by decide +kernel
theorem d103_101 : decode bM103 101 = .ok (.aload_n 0, 1) := by decide +kernel
theorem d103_102 : decode bM103 102 = .ok (.getfield 379, 3) := by decide +kernel
theorem d103_105 : decode bM103 105 = .ok (.aload_n 0, 1) := by decide +kernel
theorem d103_106 : decode bM103 106 = .ok (.aload_n 0, 1) := by decide +kernel
theorem d103_107 : decode bM103 107 = .ok (.iload 4, 2) := by decide +kernel
theorem d103_109 : decode bM103 109 = .ok (.invokevirtual 119, 3) := by decide +kernel
theorem d103_112 : decode bM103 112 = .ok (.iconst 0, 1) := by decide +kernel
theorem d103_113 : decode bM103 113 = .ok (.invokevirtual 123, 3) := by decide +kernel
theorem d103_116 : decode bM103 116 = .ok (.iconst 1, 1) := by decide +kernel
theorem d103_117 : decode bM103 117 = .ok (.isub, 1) := by decide +kernel
theorem d103_118 : decode bM103 118 = .ok (.iastore, 1) := by decide +kernel
theorem d103_119 : decode bM103 119 = .ok (.aload_n 0, 1) := by decide +kernel
theorem d103_120 : decode bM103 120 = .ok (.dup, 1) := by decide +kernel
theorem d103_121 : decode bM103 121 = .ok (.getfield 379, 3) := by decide +kernel
theorem d103_124 : decode bM103 124 = .ok (.iconst 1, 1) := by decide +kernel
theorem d103_125 : decode bM103 125 = .ok (.iadd, 1) := by decide +kernel
theorem d103_126 : decode bM103 126 = .ok (.putfield 379, 3) := by decide +kernel
theorem d103_129 : decode bM103 129 = .ok (.iinc 4 1, 3) := by decide +kernel
theorem d103_132 : decode bM103 132 = .ok (.goto (-55), 3) := by decide +kernel
theorem d103_135 : decode bM103 135 = .ok (.aload_n 0, 1) := by decide +kernel
theorem d103_136 : decode bM103 136 = .ok (.getfield 379, 3) := by decide +kernel
theorem d103_139 : decode bM103 139 = .ok (.ireturn, 1) := by decide +kernel
theorem d104_0 : decode bM104 0 = .ok (.aload_n 0, 1) := by decide +kernel
theorem d104_1 : decode bM104 1 = .ok (.iload_n 1, 1) := by decide +kernel
theorem d104_2 : decode bM104 2 = .ok (.invokevirtual 275, 3) := by decide +kernel
theorem d104_5 : decode bM104 5 = .ok (.istore_n 2, 1) := by decide +kernel
theorem d104_6 : decode bM104 6 = .ok (.iload_n 2, 1) := by decide +kernel
theorem d104_7 : decode bM104 7 = .ok (.ifCond .ge 9, 3) := by decide +kernel
theorem d104_10 : decode bM104 10 = .ok (.sipush (-1000), 3) := by decide +kernel
theorem d104_13 : decode bM104 13 = .ok (.goto 8, 3) := by decide +kernel
theorem d104_16 : decode bM104 16 = .ok (.aload_n 0, 1) := by decide +kernel
theorem d104_17 : decode bM104 17 = .ok (.iload_n 2, 1) := by decide +kernel
theorem d104_18 : decode bM104 18 = .ok (.invokevirtual 382, 3) := by decide +kernel
theorem d104_21 : decode bM104 21 = .ok (.istore_n 3, 1) := by decide +kernel
theorem d104_22 : decode bM104 22 = .ok (.aload_n 0, 1) := by decide +kernel
theorem d104_23 : decode bM104 23 = .ok (.iconst 0, 1) := by decide +kernel
theorem d104_24 : decode bM104 24 = .ok (.putfield 133, 3) := by decide +kernel
theorem d104_27 : decode bM104 27 = .ok (.iload_n 3, 1) := by decide +kernel
theorem d104_28 : decode bM104 28 = .ok (.ireturn, 1) := by decide +kernel
theorem d105_0 : decode bM105 0 = .ok (.iload_n 1, 1) := by decide +kernel
theorem d105_1 : decode bM105 1 = .ok (.ifCond .lt 20, 3) := by decide +kernel
theorem d105_4 : decode bM105 4 = .ok (.iload_n 1, 1) := by decide +kernel
theorem d105_5 : decode bM105 5 = .ok (.aload_n 0, 1) := by decide +kernel
theorem d105_6 : decode bM105 6 = .ok (.getfield 379, 3) := by decide +kernel
theorem d105_9 : decode bM105 9 = .ok (.if_icmp .ge 12, 3) := by decide +kernel
theorem d105_12 : decode bM105 12 = .ok (.aload_n 0, 1) := by decide +kernel
theorem d105_13 : decode bM105 13 = .ok (.getfield 112, 3) := by decide +kernel
theorem d105_16 : decode bM105 16 = .ok (.iload_n 1, 1) := by decide +kernel
theorem d105_17 : decode bM105 17 = .ok (.iaload, 1) := by decide +kernel
theorem d105_18 : decode bM105 18 = .ok (.goto 6, 3) := by decide +kernel
theorem d105_21 : decode bM105 21 = .ok (.sipush (-1000), 3) := by decide +kernel
theorem d105_24 : decode bM105 24 = .ok (.ireturn, 1) := by decide +kernel
theorem d106_0 : decode bM106 0 = .ok (.aload_n 0, 1) := by decide +kernel
theorem d106_1 : decode bM106 1 = .ok (.getfield 239, 3) := by decide +kernel
theorem d106_4 : decode bM106 4 = .ok (.istore_n 1, 1) := by decide +kernel
theorem d106_5 : decode bM106 5 = .ok (.aload_n 0, 1) := by decide +kernel
theorem d106_6 : decode bM106 6 = .ok (.invokevirtual 250, 3) := by decide +kernel
theorem d106_9 : decode bM106 9 = .ok (.iload_n 1, 1) := by decide +kernel
theorem d106_10 : decode bM106 10 = .ok (.ireturn, 1) := by decide +kernel
theorem d107_0 : decode bM107 0 = .ok (.aload_n 0, 1) := by decide +kernel
theorem d107_1 : decode bM107 1 = .ok (.getfield 239, 3) := by decide +kernel
theorem d107_4 : decode bM107 4 = .ok (.istore_n 1, 1) := by decide +kernel
theorem d107_5 : decode bM107 5 = .ok (.iconst 0, 1) := by decide +kernel
theorem d107_6 : decode bM107 6 = .ok (.istore_n 2, 1) := by decide +kernel
theorem d107_7 : decode bM107 7 = .ok (.iload_n 2, 1) := by decide +kernel
theorem d107_8 : decode bM107 8 = .ok (.sipush 5161, 3) := by decide +kernel
theorem d107_11 : decode bM107 11 = .ok (.if_icmp .ge 21, 3) := by decide +kernel
theorem d107_14 : decode bM107 14 = .ok (.aload_n 0, 1) := by decide +kernel
theorem d107_15 : decode bM107 15 = .ok (.getfield 7, 3) := by decide +kernel
theorem d107_18 : decode bM107 18 = .ok (.iload_n 2, 1) := by decide +kernel
theorem d107_19 : decode bM107 19 = .ok (.aload_n 0, 1) := by decide +kernel
theorem d107_20 : decode bM107 20 = .ok (.getfield 13, 3) := by decide +kernel
theorem d107_23 : decode bM107 23 = .ok (.iload_n 2, 1) := by decide +kernel
theorem d107_24 : decode bM107 24 = .ok (.iaload, 1) := by decide +kernel
theorem d107_25 : decode bM107 25 = .ok (.iastore, 1) := by decide +kernel
theorem d107_26 : decode bM107 26 = .ok (.iinc 2 1, 3) := by decide +kernel
theorem d107_29 : decode bM107 29 = .ok (.goto (-22), 3) := by decide +kernel
theorem d107_32 : decode bM107 32 = .ok (.aload_n 0, 1) := by decide +kernel
theorem d107_33 : decode bM107 33 = .ok (.iconst 0, 1) := by decide +kernel
theorem d107_34 : decode bM107 34 = .ok (.putfield 239, 3) := by decide +kernel
theorem d107_37 : decode bM107 37 = .ok (.aload_n 0, 1) := by decide +kernel
theorem d107_38 : decode bM107 38 = .ok (.iconst 0, 1) := by decide +kernel
theorem d107_39 : decode bM107 39 = .ok (.putfield 133, 3) := by decide +kernel
theorem d107_42 : decode bM107 42 = .ok (.iload_n 1, 1) := by decide +kernel
theorem d107_43 : decode bM107 43 = .ok (.ireturn, 1) := by decide +kernel
theorem d108_0 : decode bM108 0 = .ok (.aload_n 0, 1) := by decide +kernel
theorem d108_1 : decode bM108 1 = .ok (.iload_n 1, 1) := by decide +kernel
theorem d108_2 : decode bM108 2 = .ok (.invokevirtual 275, 3) := by decide +kernel
theorem d108_5 : decode bM108 5 = .ok (.istore_n 2, 1) := by decide +kernel
theorem d108_6 : decode bM108 6 = .ok (.iload_n 2, 1) := by decide +kernel
theorem d108_7 : decode bM108 7 = .ok (.ifCond .ge 9, 3) := by decide +kernel
theorem d108_10 : decode bM108 10 = .ok (.sipush (-1000), 3) := by decide +kernel
theorem d108_13 : decode bM108 13 = .ok (.goto 9, 3) := by decide +kernel
theorem d108_16 : decode bM108 16 = .ok (.aload_n 0, 1) := by decide +kernel
theorem d108_17 : decode bM108 17 = .ok (.iload_n 2, 1) := by decide +kernel
theorem d108_18 : decode bM108 18 = .ok (.iconst 1, 1) := by decide +kernel
theorem d108_19 : decode bM108 19 = .ok (.invokevirtual 123, 3) := by decide +kernel
theorem d108_22 : decode bM108 22 = .ok (.ireturn, 1) := by decide +kernel
theorem d109_0 : decode bM109 0 = .ok (.iconst 0, 1) := by decide +kernel
theorem d109_1 : decode bM109 1 = .ok (.istore_n 3, 1) := by decide +kernel
theorem d109_2 : decode bM109 2 = .ok (.iload_n 2, 1) := by decide +kernel
theorem d109_3 : decode bM109 3 = .ok (.ifCond .eq 10, 3) := by decide +kernel
theorem d109_6 : decode bM109 6 = .ok (.aload_n 0, 1) := by decide +kernel
theorem d109_7 : decode bM109 7 = .ok (.invokevirtual 115, 3) := by decide +kernel
theorem d109_10 : decode bM109 10 = .ok (.goto 8, 3) := by decide +kernel
theorem d109_13 : decode bM109 13 = .ok (.aload_n 0, 1) := by decide +kernel
theorem d109_14 : decode bM109 14 = .ok (.iload_n 1, 1) := by decide +kernel
theorem d109_15 : decode bM109 15 = .ok (.invokevirtual 130, 3) := by decide +kernel
theorem d109_18 : decode bM109 18 = .ok (.istore 4, 2) := by decide +kernel
theorem d109_20 : decode bM109 20 = .ok (.iconst 0, 1) := by decide +kernel
theorem d109_21 : decode bM109 21 = .ok (.istore 5, 2) := by decide +kernel
theorem d109_23 : decode bM109 23 = .ok (.iload 5, 2) := by decide +kernel
theorem d109_25 : decode bM109 25 = .ok (.iload 4, 2) := by decide +kernel
theorem d109_27 : decode bM109 27 = .ok (.if_icmp .ge 45, 3) := by decide +kernel
theorem d109_30 : decode bM109 30 = .ok (.aload_n 0, 1) := by decide +kernel
theorem d109_31 : decode bM109 31 = .ok (.aload_n 0, 1) := by decide +kernel
theorem d109_32 : decode bM109 32 = .ok (.iload 5, 2) := by decide +kernel
theorem d109_34 : decode bM109 34 = .ok (.invokevirtual 119, 3) := by decide +kernel
theorem d109_37 : decode bM109 37 = .ok (.iconst 2, 1) := by decide +kernel
theorem d109_38 : decode bM109 38 = .ok (.invokevirtual 123, 3) := by decide +kernel
theorem d109_41 : decode bM109 41 = .ok (.iload_n 2, 1) := by decide +kernel
theorem d109_42 : decode bM109 42 = .ok (.ifCond .eq 7, 3) := by decide +kernel
theorem d109_45 : decode bM109 45 = .ok (.iload_n 1, 1) := by decide +kernel
theorem d109_46 : decode bM109 46 = .ok (.goto 9, 3) := by decide +kernel
theorem d109_49 : decode bM109 49 = .ok (.aload_n 0, 1) := by decide +kernel
theorem d109_50 : decode bM109 50 = .ok (.iload_n 1, 1) := by decide +kernel
theorem d109_51 : decode bM109 51 = .ok (.iconst 2, 1) := by decide +kernel
theorem d109_52 : decode bM109 52 = .ok (.invokevirtual 123, 3) := by decide +kernel
theorem d109_55 : decode bM109 55 = .ok (.if_icmp .ne 9, 3) := by decide +kernel
theorem d109_58 : decode bM109 58 = .ok (.iload_n 3, 1) := by decide +kernel
theorem d109_59 : decode bM109 59 = .ok (.iconst 1, 1) := by decide +kernel
theorem d109_60 : decode bM109 60 = .ok (.iadd, 1) := by decide +kernel
theorem d109_61 : decode bM109 61 = .ok (.goto 4, 3) := by decide +kernel
theorem d109_64 : decode bM109 64 = .ok (.iload_n 3, 1) := by decide +kernel
theorem d109_65 : decode bM109 65 = .ok (.istore_n 3, 1) := by decide +kernel
theorem d109_66 : decode bM109 66 = .ok (.iinc 5 1, 3) := by decide +kernel
theorem d109_69 : decode bM109 69 = .ok (.goto (-46), 3) := by decide +kernel
theorem d109_72 : decode bM109 72 = .ok (.iload_n 3, 1) := by decide +kernel
theorem d109_73 : decode bM109 73 = .ok (.ireturn, 1) := by decide +kernel
theorem d110_0 : decode bM110 0 = .ok (.aload_n 0, 1) := by decide +kernel
theorem d110_1 : decode bM110 1 = .ok (.iload_n 1, 1) := by decide +kernel
theorem d110_2 : decode bM110 2 = .ok (.invokevirtual 275, 3) := by decide +kernel
theorem d110_5 : decode bM110 5 = .ok (.istore_n 3, 1) := by decide +kernel
theorem d110_6 : decode bM110 6 = .ok (.iload_n 3, 1) := by decide +kernel
theorem d110_7 : decode bM110 7 = .ok (.ifCond .ge 7, 3) := by decide +kernel
theorem d110_10 : decode bM110 10 = .ok (.sipush (-1000), 3) := by decide +kernel
theorem d110_13 : decode bM110 13 = .ok (.ireturn, 1) := by decide +kernel
theorem d110_14 : decode bM110 14 = .ok (.iload_n 2, 1) := by decide +kernel
theorem d110_15 : decode bM110 15 = .ok (.tableswitch 109 0 6 #[41, 68, 75, 82, 89, 96, 103], 41) := by decide +kernel
theorem d110_56 : decode bM110 56 = .ok (.aload_n 0, 1) := by decide +kernel
theorem d110_57 : decode bM110 57 = .ok (.iload_n 3, 1) := by decide +kernel
theorem d110_58 : decode bM110 58 = .ok (.iconst 2, 1) := by decide +kernel
theorem d110_59 : decode bM110 59 = .ok (.invokevirtual 123, 3) := by decide +kernel
theorem d110_62 : decode bM110 62 = .ok (.ifCond .ge 7, 3) := by decide +kernel
theorem d110_65 : decode bM110 65 = .ok (.iconst (-1), 1) := by decide +kernel
theorem d110_66 : decode bM110 66 = .ok (.goto 16, 3) := by decide +kernel
theorem d110_69 : decode bM110 69 = .ok (.aload_n 0, 1) := by decide +kernel
theorem d110_70 : decode bM110 70 = .ok (.aload_n 0, 1) := by decide +kernel
theorem d110_71 : decode bM110 71 = .ok (.iload_n 3, 1) := by decide +kernel
theorem d110_72 : decode bM110 72 = .ok (.iconst 2, 1) := by decide +kernel
theorem d110_73 : decode bM110 73 = .ok (.invokevirtual 123, 3) := by decide +kernel
theorem d110_76 : decode bM110 76 = .ok (.iconst 0, 1) := by decide +kernel
theorem d110_77 : decode bM110 77 = .ok (.invokevirtual 123, 3) := by decide +kernel
theorem d110_80 : decode bM110 80 = .ok (.iconst 1, 1) := by decide +kernel
theorem d110_81 : decode bM110 81 = .ok (.isub, 1) := by decide +kernel
theorem d110_82 : decode bM110 82 = .ok (.ireturn, 1) := by decide +kernel
theorem d110_83 : decode bM110 83 = .ok (.aload_n 0, 1) := by decide +kernel
theorem d110_84 : decode bM110 84 = .ok (.iload_n 3, 1) := by decide +kernel
theorem d110_85 : decode bM110 85 = .ok (.iconst 1, 1) := by decide +kernel
theorem d110_86 : decode bM110 86 = .ok (.invokevirtual 385, 3) := by decide +kernel
theorem d110_89 : decode bM110 89 = .ok (.ireturn, 1) := by decide +kernel
theorem d110_90 : decode bM110 90 = .ok (.aload_n 0, 1) := by decide +kernel
theorem d110_91 : decode bM110 91 = .ok (.iload_n 3, 1) := by decide +kernel
theorem d110_92 : decode bM110 92 = .ok (.iconst 0, 1) := by decide +kernel
theorem d110_93 : decode bM110 93 = .ok (.invokevirtual 385, 3) := by decide +kernel
theorem d110_96 : decode bM110 96 = .ok (.ireturn, 1) := by decide +kernel
theorem d110_97 : decode bM110 97 = .ok (.aload_n 0, 1) := by decide +kernel
theorem d110_98 : decode bM110 98 = .ok (.iload_n 3, 1) := by decide +kernel
theorem d110_99 : decode bM110 99 = .ok (.iconst 5, 1) := by decide +kernel
theorem d110_100 : decode bM110 100 = .ok (.invokevirtual 123, 3) := by decide +kernel
theorem d110_103 : decode bM110 103 = .ok (.ireturn, 1) := by decide +kernel
theorem d110_104 : decode bM110 104 = .ok (.aload_n 0, 1) := by decide +kernel
theorem d110_105 : decode bM110 105 = .ok (.iload_n 3, 1) := by decide +kernel
theorem d110_106 : decode bM110 106 = .ok (.iconst 3, 1) := by decide +kernel
theorem d110_107 : decode bM110 107 = .ok (.invokevirtual 123, 3) := by decide +kernel
theorem d110_110 : decode bM110 110 = .ok (.ireturn, 1) := by decide +kernel
theorem d110_111 : decode bM110 111 = .ok (.aload_n 0, 1) := by decide +kernel
theorem d110_112 : decode bM110 112 = .ok (.iload_n 3, 1) := by decide +kernel
theorem d110_113 : decode bM110 113 = .ok (.iconst 4, 1) := by decide +kernel
theorem d110_114 : decode bM110 114 = .ok (.invokevirtual 123, 3) := by decide +kernel
theorem d110_117 : decode bM110 117 = .ok (.ireturn, 1) := by decide +kernel
theorem d110_118 : decode bM110 118 = .ok (.aload_n 0, 1) := by decide +kernel
theorem d110_119 : decode bM110 119 = .ok (.iload_n 3, 1) := by decide +kernel
theorem d110_120 : decode bM110 120 = .ok (.invokevirtual 130, 3) := by decide +kernel
theorem d110_123 : decode bM110 123 = .ok (.ireturn, 1) := by decide +kernel
theorem d110_124 : decode bM110 124 = .ok (.sipush (-1000), 3) := by decide +kernel
theorem d110_127 : decode bM110 127 = .ok (.ireturn, 1) := by decide +kernel
theorem d111_0 : decode bM111 0 = .ok (.aload_n 0, 1) := by decide +kernel
theorem d111_1 : decode bM111 1 = .ok (.iload_n 1, 1) := by decide +kernel
theorem d111_2 : decode bM111 2 = .ok (.invokevirtual 275, 3) := by decide +kernel
theorem d111_5 : decode bM111 5 = .ok (.istore_n 3, 1) := by decide +kernel
theorem d111_6 : decode bM111 6 = .ok (.iload_n 3, 1) := by decide +kernel
theorem d111_7 : decode bM111 7 = .ok (.ifCond .lt 17, 3) := by decide +kernel
theorem d111_10 : decode bM111 10 = .ok (.iload_n 2, 1) := by decide +kernel
theorem d111_11 : decode bM111 11 = .ok (.ifCond .lt 13, 3) := by decide +kernel
theorem d111_14 : decode bM111 14 = .ok (.iload_n 2, 1) := by decide +kernel
theorem d111_15 : decode bM111 15 = .ok (.aload_n 0, 1) := by decide +kernel
theorem d111_16 : decode bM111 16 = .ok (.iload_n 3, 1) := by decide +kernel
theorem d111_17 : decode bM111 17 = .ok (.iconst 3, 1) := by decide +kernel
theorem d111_18 : decode bM111 18 = .ok (.invokevirtual 123, 3) := by decide +kernel
theorem d111_21 : decode bM111 21 = .ok (.if_icmp .lt 7, 3) := by decide +kernel
theorem d111_24 : decode bM111 24 = .ok (.iconst 0, 1) := by decide +kernel
theorem d111_25 : decode bM111 25 = .ok (.goto 12, 3) := by decide +kernel
theorem d111_28 : decode bM111 28 = .ok (.aload_n 0, 1) := by decide +kernel
theorem d111_29 : decode bM111 29 = .ok (.iload_n 3, 1) := by decide +kernel
theorem d111_30 : decode bM111 30 = .ok (.bipush 8, 2) := by decide +kernel
theorem d111_32 : decode bM111 32 = .ok (.iload_n 2, 1) := by decide +kernel
theorem d111_33 : decode bM111 33 = .ok (.iadd, 1) := by decide +kernel
theorem d111_34 : decode bM111 34 = .ok (.invokevirtual 123, 3) := by decide +kernel
theorem d111_37 : decode bM111 37 = .ok (.ireturn, 1) := by decide +kernel
def g_lead_62 (k15 : Int64 → Int32 → mT → Option (Int64 × mT)) (k26 : Int64 → Int32 → Int64 → Int32 → mT → Option (Int64 × mT)) (x3 : Int64) (x5 : Int32) (x8 : Int32) (w0 : Int64) (st : mT) : Option (Int64 × mT) := (k26 x3 x5 w0 (x8 + 1) st)
def g_lead_26 (k15 : Int64 → Int32 → mT → Option (Int64 × mT)) : Nat → Int64 → Int32 → Int64 → Int32 → mT → Option (Int64 × mT)
  | 0, _, _, _, _, _ => none
  | n9 + 1, x3, x5, x6, x8, st => ((g_count st).bind (fun q3 => (if q3.1 ≤ x8 then (mm_ld (q3.2.2.1 30) 130 x5 (fun v4 => (k15 x6 v4 q3.2))) else (if (mm_cmp ((x3 >>> (x8.toInt64 &&& 63)) &&& (1 : Int64)) (1 : Int64)) = 0 then ((g_walk x5 x8 q3.2).bind (fun q5 => (g_lead_62 k15 (g_lead_26 k15 n9) x3 x5 x8 (x6 ||| q5.1) q5.2))) else (g_lead_62 k15 (g_lead_26 k15 n9) x3 x5 x8 x6 q3.2)))))
def g_lead_15 : Nat → Int64 → Int32 → mT → Option (Int64 × mT)
  | 0, _, _, _ => none
  | n9 + 1, x3, x5, st => (if x5 < 0 then (some (x3, st)) else (g_lead_26 (g_lead_15 n9) mF x3 x5 (0 : Int64) 0 st))
def g_lead (y1 : Int32) (y2 : Int32) (st : mT) : Option (Int64 × mT) := ((g_walk y1 y2 st).bind (fun q1 => (mm_ld (q1.2.2.1 30) 130 y1 (fun v2 => (g_lead_15 mF q1.1 v2 q1.2)))))
set_option maxRecDepth 100000 in
set_option maxHeartbeats 8000000 in
theorem cm_lead (l : Launch) (D : va_G) (dA : Nat → ClassId) (s0 : State) (hE : ms_EV D dA s0) (h0 : hm_T) (r : Nat) (M : Nat → Nat) (hM : mm_ok r M) (z0 : hz_T) (y1 : Int32) (y2 : Int32) (st : mT) (q : Int64 × mT) (hg : g_lead y1 y2 st = some q) : ht_C l D s0 yM100 bM100 9 (Option.some Jvm.ClassFile.FieldType.long) 5 124 0 0 [.ref r, .int y1, .int y2] (fun h z => h = mm_h dA h0 r M st ∧ z = z0) (fun h z vv h1 z1 => vv = some (.long q.1) ∧ h1 = mm_h dA h0 r M q.2 ∧ z1 = z0) := by
  refine ht_C.mk hE.1 (by decide) (Nat.le_of_ble_eq_true rfl) [(0, .ref r), (1, .int y1), (2, .int y2)] rfl ?_
  intro p e s m below meth c ls h z X hin hpre I hl
  have hx := X.1
  have hb := X.2.1
  have hml := X.2.2.1
  have hown : s.vm.findClass "MarkupStoreModel" = some m.cls := X.2.2.2.1
  have hts := X.2.2.2.2.2.2.1
  have hK := X.2.2.2.2.2.2.2.2.1
  rw [hpre.1, hpre.2] at I
  clear hpre
  have b62 : ∀ (k15 : Int64 → Int32 → mT → Option (Int64 × mT)), (∀ (ls : Array Slot) (x3 : Int64) (x5 : Int32) (st : mT) (H : Heap) (locs : List Loc), k15 x3 x5 st = some q → lv_has ls 9 [(0, .ref r), (3, .long x3), (5, .int x5)] → hm_I D s0 s (mm_h dA h0 r M st) z0 H locs → W p l e { frames := 5, cells := 0, slots := 0, locals := 124 } s m ([.ref r, .int y1, .int y2] : List Value).toArray below meth c H locs 0 0 (MQ below (ht_Q D s0 (fun vv h1 z1 => vv = some (.long q.1) ∧ h1 = mm_h dA h0 r M q.2 ∧ z1 = z0)) ([.ref r, .int y1, .int y2] : List Value).toArray s 0 0 (fun q => s0.heap.size ≤ q)) (F0 m 15 ls [])) → ∀ (k26 : Int64 → Int32 → Int64 → Int32 → mT → Option (Int64 × mT)), (∀ (ls : Array Slot) (x3 : Int64) (x5 : Int32) (x6 : Int64) (x8 : Int32) (st : mT) (H : Heap) (locs : List Loc), k26 x3 x5 x6 x8 st = some q → lv_has ls 9 [(0, .ref r), (3, .long x3), (5, .int x5), (6, .long x6), (8, .int x8)] → hm_I D s0 s (mm_h dA h0 r M st) z0 H locs → W p l e { frames := 5, cells := 0, slots := 0, locals := 124 } s m ([.ref r, .int y1, .int y2] : List Value).toArray below meth c H locs 0 0 (MQ below (ht_Q D s0 (fun vv h1 z1 => vv = some (.long q.1) ∧ h1 = mm_h dA h0 r M q.2 ∧ z1 = z0)) ([.ref r, .int y1, .int y2] : List Value).toArray s 0 0 (fun q => s0.heap.size ≤ q)) (F0 m 26 ls [])) → ∀ (ls : Array Slot) (x3 : Int64) (x5 : Int32) (x8 : Int32) (w0 : Int64) (st : mT) (H : Heap) (locs : List Loc), g_lead_62 k15 k26 x3 x5 x8 w0 st = some q → lv_has ls 9 [(0, .ref r), (3, .long x3), (5, .int x5), (8, .int x8)] → hm_I D s0 s (mm_h dA h0 r M st) z0 H locs → W p l e { frames := 5, cells := 0, slots := 0, locals := 124 } s m ([.ref r, .int y1, .int y2] : List Value).toArray below meth c H locs 0 0 (MQ below (ht_Q D s0 (fun vv h1 z1 => vv = some (.long q.1) ∧ h1 = mm_h dA h0 r M q.2 ∧ z1 = z0)) ([.ref r, .int y1, .int y2] : List Value).toArray s 0 0 (fun q => s0.heap.size ≤ q)) (F0 m 62 ls [.long w0]) := by
    intro k15 hk15 k26 hk26 ls x3 x5 x8 w0 st H locs hF hl I
    unfold g_lead_62 at hF
    refine lv_lstore hx hb d100_62 hl (by decide) rfl (fun ls hl => ?_)
    have hl : lv_has ls 9 [(6, .long w0), (0, .ref r), (3, .long x3), (5, .int x5), (8, .int x8)] := hl
    refine lv_iinc (k := 4) (v := (x8 + 1)) hx hb d100_64 hl rfl (rfl) (by decide) rfl (fun ls hl => ?_)
    have hl : lv_has ls 9 [(8, .int (x8 + 1)), (6, .long w0), (0, .ref r), (3, .long x3), (5, .int x5)] := hl
    refine lv_goto hx hb d100_67 rfl ?_
    exact hk26 ls x3 x5 w0 (x8 + 1) st _ _ hF (hl.sub [2, 3, 4, 1, 0] rfl) I
  have b26 : ∀ (k15 : Int64 → Int32 → mT → Option (Int64 × mT)), (∀ (ls : Array Slot) (x3 : Int64) (x5 : Int32) (st : mT) (H : Heap) (locs : List Loc), k15 x3 x5 st = some q → lv_has ls 9 [(0, .ref r), (3, .long x3), (5, .int x5)] → hm_I D s0 s (mm_h dA h0 r M st) z0 H locs → W p l e { frames := 5, cells := 0, slots := 0, locals := 124 } s m ([.ref r, .int y1, .int y2] : List Value).toArray below meth c H locs 0 0 (MQ below (ht_Q D s0 (fun vv h1 z1 => vv = some (.long q.1) ∧ h1 = mm_h dA h0 r M q.2 ∧ z1 = z0)) ([.ref r, .int y1, .int y2] : List Value).toArray s 0 0 (fun q => s0.heap.size ≤ q)) (F0 m 15 ls [])) → ∀ n9 : Nat, ∀ (ls : Array Slot) (x3 : Int64) (x5 : Int32) (x6 : Int64) (x8 : Int32) (st : mT) (H : Heap) (locs : List Loc), g_lead_26 k15 n9 x3 x5 x6 x8 st = some q → lv_has ls 9 [(0, .ref r), (3, .long x3), (5, .int x5), (6, .long x6), (8, .int x8)] → hm_I D s0 s (mm_h dA h0 r M st) z0 H locs → W p l e { frames := 5, cells := 0, slots := 0, locals := 124 } s m ([.ref r, .int y1, .int y2] : List Value).toArray below meth c H locs 0 0 (MQ below (ht_Q D s0 (fun vv h1 z1 => vv = some (.long q.1) ∧ h1 = mm_h dA h0 r M q.2 ∧ z1 = z0)) ([.ref r, .int y1, .int y2] : List Value).toArray s 0 0 (fun q => s0.heap.size ≤ q)) (F0 m 26 ls []) := by
    intro k15 hk15 n9
    induction n9 with
    | zero => intro ls x3 x5 x6 x8 st H locs hF; cases hF
    | succ n9 hk26 =>
    intro ls x3 x5 x6 x8 st H locs hF hl I
    unfold g_lead_26 at hF
    refine lv_iload hx hb d100_26 (lv_at hl 4 rfl) ?_
    refine lv_aload_n hx hb d100_28 rfl (lv_at hl 0 rfl) ?_
    obtain ⟨q3, e9, hF⟩ := mm_bd hF
    refine ht_V (C := "MarkupStoreModel") (rest := [.int x8]) (as := []) X hl (cm_count l D dA s0 hE h0 r M hM z0 st q3 e9) (List.forall_mem_cons.mpr ⟨ms_k1583, List.forall_mem_cons.mpr ⟨ms_k1585, List.forall_mem_cons.mpr ⟨ms_p62, List.forall_mem_cons.mpr ⟨ms_k7, List.forall_mem_cons.mpr ⟨ms_k1586, fun _ h => absurd h List.not_mem_nil⟩⟩⟩⟩⟩) ⟨rfl, by decide +kernel, by decide +kernel, (by decide +kernel : (parseMethodDescriptor "()I").map (fun d => d.parameters.length) = some 0)⟩ (hm_recv hK I rfl mm_hr) I ⟨rfl, rfl⟩ ⟨⟨Nat.le_of_ble_eq_true rfl, Nat.le_of_ble_eq_true rfl⟩, Nat.le_of_ble_eq_true rfl, Nat.le_of_ble_eq_true rfl⟩ rfl (Nat.le_of_ble_eq_true rfl) d100_29 (fun vv h1 z1 H locs hR I9 => ?_)
    obtain ⟨e1, e2, e3⟩ := hR
    rw [e2, e3] at I9
    clear I e2 e3 e9
    have I := I9
    clear I9
    subst e1
    refine W.eq (g2 := F0 m 32 ls [.int q3.1, .int x8]) rfl ?_
    refine lv_icmp_ge hx hb d100_32 rfl (fun h9 => ?_) (fun h9 => ?_)
    · have hF := (if_pos h9).symm.trans hF
      refine lv_lload hx hb d100_70 (lv_at hl 3 rfl) ?_
      refine lv_lstore_n hx hb d100_72 rfl hl (by decide) rfl (fun ls hl => ?_)
      have hl : lv_has ls 9 [(3, .long x6), (0, .ref r), (5, .int x5), (6, .long x6), (8, .int x8)] := hl
      refine lv_aload_n hx hb d100_73 rfl (lv_at hl 1 rfl) ?_
      refine va_get (D := D) (ci := 2) (v := .ref (M 30)) (C := kR2) (T := kT2) (N := 60) hx hb hts ku2 hown hK (hm_one I.1 mm_hr) 0 rfl rfl 30 (by decide) (hts _ ms_k1346) (fun _ h => h) rfl d100_74 ?_
      refine lv_iload hx hb d100_77 (lv_at hl 2 rfl) ?_
      obtain ⟨v4, i9, e9, hF⟩ := mm_ld_some hF
      refine va_iald hx hb hK (hm_one I.1 (mm_a30 hM)) 0 0 rfl rfl i9 d100_79 ?_
      refine ms_top (y := v4) e9 ?_
      clear e9 i9
      refine lv_istore hx hb d100_80 hl (by decide) rfl (fun ls hl => ?_)
      have hl : lv_has ls 9 [(5, .int v4), (3, .long x6), (0, .ref r), (6, .long x6), (8, .int x8)] := hl
      refine lv_goto hx hb d100_82 rfl ?_
      exact hk15 ls x6 v4 q3.2 _ _ hF (hl.sub [2, 1, 0] rfl) I
    · have hF := (if_neg h9).symm.trans hF
      refine lv_lload_n hx hb d100_35 rfl (lv_at hl 1 rfl) ?_
      refine lv_iload hx hb d100_36 (lv_at hl 4 rfl) ?_
      refine lv_lshr (v := (x3 >>> (x8.toInt64 &&& 63))) hx hb d100_38 rfl ?_
      refine lv_lconst (v := (1 : Int64)) hx hb d100_39 (by decide) ?_
      refine lv_land hx hb d100_40 ?_
      refine lv_lconst (v := (1 : Int64)) hx hb d100_41 (by decide) ?_
      refine lv_lcmp hx hb d100_42 ?_
      refine lv_if_ne hx hb d100_43 rfl (fun h9 => ?_) (fun h9 => ?_)
      · have hF := (if_neg h9).symm.trans hF
        refine lv_lload hx hb d100_60 (lv_at hl 3 rfl) ?_
        exact b62 k15 hk15 (g_lead_26 k15 n9) hk26 ls x3 x5 x8 x6 q3.2 _ _ hF (hl.sub [0, 1, 2, 4] rfl) I
      · have hF := (if_pos h9).symm.trans hF
        refine lv_lload hx hb d100_46 (lv_at hl 3 rfl) ?_
        refine lv_aload_n hx hb d100_48 rfl (lv_at hl 0 rfl) ?_
        refine lv_iload hx hb d100_49 (lv_at hl 2 rfl) ?_
        refine lv_iload hx hb d100_51 (lv_at hl 4 rfl) ?_
        obtain ⟨q5, e9, hF⟩ := mm_bd hF
        refine ht_V (C := "MarkupStoreModel") (rest := [.long x6]) (as := [.int x5, .int x8]) X hl (cm_walk l D dA s0 hE h0 r M hM z0 x5 x8 q3.2 q5 e9) (List.forall_mem_cons.mpr ⟨ms_k1716, List.forall_mem_cons.mpr ⟨ms_k1718, List.forall_mem_cons.mpr ⟨ms_p89, List.forall_mem_cons.mpr ⟨ms_k7, List.forall_mem_cons.mpr ⟨ms_k1719, fun _ h => absurd h List.not_mem_nil⟩⟩⟩⟩⟩) ⟨rfl, by decide +kernel, by decide +kernel, (by decide +kernel : (parseMethodDescriptor "(II)J").map (fun d => d.parameters.length) = some 2)⟩ (hm_recv hK I rfl mm_hr) I ⟨rfl, rfl⟩ ⟨⟨Nat.le_of_ble_eq_true rfl, Nat.le_of_ble_eq_true rfl⟩, Nat.le_of_ble_eq_true rfl, Nat.le_of_ble_eq_true rfl⟩ rfl (Nat.le_of_ble_eq_true rfl) d100_53 (fun vv h1 z1 H locs hR I9 => ?_)
        obtain ⟨e1, e2, e3⟩ := hR
        rw [e2, e3] at I9
        clear I e2 e3 e9
        have I := I9
        clear I9
        subst e1
        refine W.eq (g2 := F0 m 56 ls [.long q5.1, .long x6]) rfl ?_
        refine lv_lor hx hb d100_56 ?_
        refine lv_goto hx hb d100_57 rfl ?_
        exact b62 k15 hk15 (g_lead_26 k15 n9) hk26 ls x3 x5 x8 (x6 ||| q5.1) q5.2 _ _ hF (hl.sub [0, 1, 2, 4] rfl) I
  have b15 : ∀ n9 : Nat, ∀ (ls : Array Slot) (x3 : Int64) (x5 : Int32) (st : mT) (H : Heap) (locs : List Loc), g_lead_15 n9 x3 x5 st = some q → lv_has ls 9 [(0, .ref r), (3, .long x3), (5, .int x5)] → hm_I D s0 s (mm_h dA h0 r M st) z0 H locs → W p l e { frames := 5, cells := 0, slots := 0, locals := 124 } s m ([.ref r, .int y1, .int y2] : List Value).toArray below meth c H locs 0 0 (MQ below (ht_Q D s0 (fun vv h1 z1 => vv = some (.long q.1) ∧ h1 = mm_h dA h0 r M q.2 ∧ z1 = z0)) ([.ref r, .int y1, .int y2] : List Value).toArray s 0 0 (fun q => s0.heap.size ≤ q)) (F0 m 15 ls []) := by
    intro n9
    induction n9 with
    | zero => intro ls x3 x5 st H locs hF; cases hF
    | succ n9 hk15 =>
    intro ls x3 x5 st H locs hF hl I
    unfold g_lead_15 at hF
    refine lv_iload hx hb d100_15 (lv_at hl 2 rfl) ?_
    refine lv_if_lt hx hb d100_17 rfl (fun h9 => ?_) (fun h9 => ?_)
    · have hF := (if_pos h9).symm.trans hF
      refine lv_lload_n hx hb d100_85 rfl (lv_at hl 1 rfl) ?_
      exact ht_lret X d100_86 I (Nat.le_of_ble_eq_true rfl) (Nat.le_of_ble_eq_true rfl) (mm_finL hF)
    · have hF := (if_neg h9).symm.trans hF
      refine lv_lconst (v := (0 : Int64)) hx hb d100_20 (by decide) ?_
      refine lv_lstore hx hb d100_21 hl (by decide) rfl (fun ls hl => ?_)
      have hl : lv_has ls 9 [(6, .long (0 : Int64)), (0, .ref r), (3, .long x3), (5, .int x5)] := hl
      refine lv_iconst (v := 0) hx hb d100_23 (by decide) ?_
      refine lv_istore hx hb d100_24 hl (by decide) rfl (fun ls hl => ?_)
      have hl : lv_has ls 9 [(8, .int 0), (6, .long (0 : Int64)), (0, .ref r), (3, .long x3), (5, .int x5)] := hl
      exact b26 (g_lead_15 n9) hk15 mF ls x3 x5 (0 : Int64) 0 st _ _ hF (hl.sub [2, 3, 4, 1, 0] rfl) I
  have hF := hg
  unfold g_lead at hF
  refine lv_aload_n hx hb d100_0 rfl (lv_at hl 0 rfl) ?_
  refine lv_iload_n hx hb d100_1 rfl (lv_at hl 1 rfl) ?_
  refine lv_iload_n hx hb d100_2 rfl (lv_at hl 2 rfl) ?_
  obtain ⟨q1, e9, hF⟩ := mm_bd hF
  refine ht_V (C := "MarkupStoreModel") (rest := []) (as := [.int y1, .int y2]) X hl (cm_walk l D dA s0 hE h0 r M hM z0 y1 y2 st q1 e9) (List.forall_mem_cons.mpr ⟨ms_k1716, List.forall_mem_cons.mpr ⟨ms_k1718, List.forall_mem_cons.mpr ⟨ms_p89, List.forall_mem_cons.mpr ⟨ms_k7, List.forall_mem_cons.mpr ⟨ms_k1719, fun _ h => absurd h List.not_mem_nil⟩⟩⟩⟩⟩) ⟨rfl, by decide +kernel, by decide +kernel, (by decide +kernel : (parseMethodDescriptor "(II)J").map (fun d => d.parameters.length) = some 2)⟩ (hm_recv hK I rfl mm_hr) I ⟨rfl, rfl⟩ ⟨⟨Nat.le_of_ble_eq_true rfl, Nat.le_of_ble_eq_true rfl⟩, Nat.le_of_ble_eq_true rfl, Nat.le_of_ble_eq_true rfl⟩ rfl (Nat.le_of_ble_eq_true rfl) d100_3 (fun vv h1 z1 H locs hR I9 => ?_)
  obtain ⟨e1, e2, e3⟩ := hR
  rw [e2, e3] at I9
  clear I e2 e3 e9
  have I := I9
  clear I9
  subst e1
  refine W.eq (g2 := F0 m 6 ls [.long q1.1]) rfl ?_
  refine lv_lstore_n hx hb d100_6 rfl hl (by decide) rfl (fun ls hl => ?_)
  have hl : lv_has ls 9 [(3, .long q1.1), (0, .ref r), (1, .int y1), (2, .int y2)] := hl
  refine lv_aload_n hx hb d100_7 rfl (lv_at hl 1 rfl) ?_
  refine va_get (D := D) (ci := 2) (v := .ref (M 30)) (C := kR2) (T := kT2) (N := 60) hx hb hts ku2 hown hK (hm_one I.1 mm_hr) 0 rfl rfl 30 (by decide) (hts _ ms_k1346) (fun _ h => h) rfl d100_8 ?_
  refine lv_iload_n hx hb d100_11 rfl (lv_at hl 2 rfl) ?_
  obtain ⟨v2, i9, e9, hF⟩ := mm_ld_some hF
  refine va_iald hx hb hK (hm_one I.1 (mm_a30 hM)) 0 0 rfl rfl i9 d100_12 ?_
  refine ms_top (y := v2) e9 ?_
  clear e9 i9
  refine lv_istore hx hb d100_13 hl (by decide) rfl (fun ls hl => ?_)
  have hl : lv_has ls 9 [(5, .int v2), (3, .long q1.1), (0, .ref r), (1, .int y1), (2, .int y2)] := hl
  exact b15 mF ls q1.1 v2 q1.2 _ _ hF (hl.sub [2, 1, 0] rfl) I

def g_reads_166 (st : mT) : Option (Int32 × mT) := (some (0, st))
def g_reads_151 (x3 : Int32) (x5 : Int32) (x6 : Int32) (st : mT) : Option (Int32 × mT) := (if x6 = 0 then (g_reads_166 st) else (if x5 < x3 then (g_reads_166 st) else (some (1, st))))
def g_reads_145 (k16 : Int32 → Int32 → Int32 → Int32 → Int32 → Int32 → Int32 → Int32 → mT → Option (Int32 × mT)) (x1 : Int32) (x2 : Int32) (x3 : Int32) (x4 : Int32) (x5 : Int32) (x6 : Int32) (x7 : Int32) (x8 : Int32) (st : mT) : Option (Int32 × mT) := (k16 x1 x2 x3 x4 x5 x6 x7 (x8 + 1) st)
def g_reads_134 (k16 : Int32 → Int32 → Int32 → Int32 → Int32 → Int32 → Int32 → Int32 → mT → Option (Int32 × mT)) (k74 : Int32 → Int32 → Int32 → Int32 → Int32 → Int32 → Int32 → Int32 → Int32 → Int32 → Int32 → mT → Option (Int32 × mT)) (x1 : Int32) (x2 : Int32) (x3 : Int32) (x4 : Int32) (x5 : Int32) (x7 : Int32) (x8 : Int32) (x9 : Int32) (x10 : Int32) (x11 : Int32) (w0 : Int32) (st : mT) : Option (Int32 × mT) := (k74 x1 x2 x3 x4 (x5 + 1) w0 x7 x8 x9 x10 (x11 + 1) st)
def g_reads_74 (k16 : Int32 → Int32 → Int32 → Int32 → Int32 → Int32 → Int32 → Int32 → mT → Option (Int32 × mT)) : Nat → Int32 → Int32 → Int32 → Int32 → Int32 → Int32 → Int32 → Int32 → Int32 → Int32 → Int32 → mT → Option (Int32 × mT)
  | 0, _, _, _, _, _, _, _, _, _, _, _, _ => none
  | n9 + 1, x1, x2, x3, x4, x5, x6, x7, x8, x9, x10, x11, st => ((g_f x9 3 st).bind (fun q4 => (if q4.1 ≤ x11 then (g_reads_145 k16 x1 x2 x3 x4 x5 x6 x7 x8 q4.2) else (if x10 = 0 then (g_reads_145 k16 x1 x2 x3 x4 x5 x6 x7 x8 q4.2) else (if x6 = 0 then (g_reads_145 k16 x1 x2 x3 x4 x5 x6 x7 x8 q4.2) else (if x3 ≤ x5 then (g_reads_134 k16 (g_reads_74 k16 n9) x1 x2 x3 x4 x5 x7 x8 x9 x10 x11 x4 q4.2) else ((g_f x9 (8 + x11) q4.2).bind (fun q5 => ((g_look (x2 + x5) q5.2).bind (fun q6 => (if q5.1 = q6.1 then (g_reads_134 k16 (g_reads_74 k16 n9) x1 x2 x3 x4 x5 x7 x8 x9 x10 x11 1 q6.2) else (g_reads_134 k16 (g_reads_74 k16 n9) x1 x2 x3 x4 x5 x7 x8 x9 x10 x11 0 q6.2))))))))))))
def g_reads_69 (k16 : Int32 → Int32 → Int32 → Int32 → Int32 → Int32 → Int32 → Int32 → mT → Option (Int32 × mT)) (x1 : Int32) (x2 : Int32) (x3 : Int32) (x4 : Int32) (x5 : Int32) (x6 : Int32) (x7 : Int32) (x8 : Int32) (x9 : Int32) (w0 : Int32) (st : mT) : Option (Int32 × mT) := (g_reads_74 k16 mF x1 x2 x3 x4 x5 x6 x7 x8 x9 w0 0 st)
def g_reads_64 (k16 : Int32 → Int32 → Int32 → Int32 → Int32 → Int32 → Int32 → Int32 → mT → Option (Int32 × mT)) (x1 : Int32) (x2 : Int32) (x3 : Int32) (x4 : Int32) (x5 : Int32) (x6 : Int32) (x7 : Int32) (x8 : Int32) (x9 : Int32) (st : mT) : Option (Int32 × mT) := (g_reads_69 k16 x1 x2 x3 x4 x5 x6 x7 x8 x9 1 st)
def g_reads_68 (k16 : Int32 → Int32 → Int32 → Int32 → Int32 → Int32 → Int32 → Int32 → mT → Option (Int32 × mT)) (x1 : Int32) (x2 : Int32) (x3 : Int32) (x4 : Int32) (x5 : Int32) (x6 : Int32) (x7 : Int32) (x8 : Int32) (x9 : Int32) (st : mT) : Option (Int32 × mT) := (g_reads_69 k16 x1 x2 x3 x4 x5 x6 x7 x8 x9 0 st)
def g_reads_16 : Nat → Int32 → Int32 → Int32 → Int32 → Int32 → Int32 → Int32 → Int32 → mT → Option (Int32 × mT)
  | 0, _, _, _, _, _, _, _, _, _ => none
  | n9 + 1, x1, x2, x3, x4, x5, x6, x7, x8, st => (if x7 ≤ x8 then (g_reads_151 x3 x5 x6 st) else (if x6 = 0 then (g_reads_151 x3 x5 x6 st) else ((g_doc x8 st).bind (fun q2 => ((g_f q2.1 1 q2.2).bind (fun q3 => (if q3.1 = 2 then (g_reads_64 (g_reads_16 n9) x1 x2 x3 x4 x5 x6 x7 x8 q2.1 q3.2) else (if x8 = x1 then ((g_f q2.1 1 q3.2).bind (fun q7 => (if q7.1 = 3 then (g_reads_64 (g_reads_16 n9) x1 x2 x3 x4 x5 x6 x7 x8 q2.1 q7.2) else (g_reads_68 (g_reads_16 n9) x1 x2 x3 x4 x5 x6 x7 x8 q2.1 q7.2)))) else (g_reads_68 (g_reads_16 n9) x1 x2 x3 x4 x5 x6 x7 x8 q2.1 q3.2)))))))))
def g_reads (y1 : Int32) (y2 : Int32) (y3 : Int32) (y4 : Int32) (st : mT) : Option (Int32 × mT) := ((g_end y1 st).bind (fun q1 => (g_reads_16 mF y1 y2 y3 y4 0 1 q1.1 y1 q1.2)))
set_option maxRecDepth 100000 in
set_option maxHeartbeats 8000000 in
theorem cm_reads (l : Launch) (D : va_G) (dA : Nat → ClassId) (s0 : State) (hE : ms_EV D dA s0) (h0 : hm_T) (r : Nat) (M : Nat → Nat) (hM : mm_ok r M) (z0 : hz_T) (y1 : Int32) (y2 : Int32) (y3 : Int32) (y4 : Int32) (st : mT) (q : Int32 × mT) (hg : g_reads y1 y2 y3 y4 st = some q) : ht_C l D s0 yM101 bM101 12 (Option.some Jvm.ClassFile.FieldType.boolean) 3 68 0 0 [.ref r, .int y1, .int y2, .int y3, .int y4] (fun h z => h = mm_h dA h0 r M st ∧ z = z0) (fun h z vv h1 z1 => vv = some (.int q.1) ∧ h1 = mm_h dA h0 r M q.2 ∧ z1 = z0) := by
  refine ht_C.mk hE.1 (by decide) (Nat.le_of_ble_eq_true rfl) [(0, .ref r), (1, .int y1), (2, .int y2), (3, .int y3), (4, .int y4)] rfl ?_
  intro p e s m below meth c ls h z X hin hpre I hl
  have hx := X.1
  have hb := X.2.1
  have hml := X.2.2.1
  have hown : s.vm.findClass "MarkupStoreModel" = some m.cls := X.2.2.2.1
  have hts := X.2.2.2.2.2.2.1
  have hK := X.2.2.2.2.2.2.2.2.1
  rw [hpre.1, hpre.2] at I
  clear hpre
  have b166 : ∀ (ls : Array Slot) (st : mT) (H : Heap) (locs : List Loc), g_reads_166 st = some q → lv_has ls 12 [] → hm_I D s0 s (mm_h dA h0 r M st) z0 H locs → W p l e { frames := 3, cells := 0, slots := 0, locals := 68 } s m ([.ref r, .int y1, .int y2, .int y3, .int y4] : List Value).toArray below meth c H locs 0 0 (MQ below (ht_Q D s0 (fun vv h1 z1 => vv = some (.int q.1) ∧ h1 = mm_h dA h0 r M q.2 ∧ z1 = z0)) ([.ref r, .int y1, .int y2, .int y3, .int y4] : List Value).toArray s 0 0 (fun q => s0.heap.size ≤ q)) (F0 m 166 ls []) := by
    intro ls st H locs hF hl I
    unfold g_reads_166 at hF
    refine lv_iconst (v := 0) hx hb d101_166 (by decide) ?_
    exact ht_zret X d101_167 I (Nat.le_of_ble_eq_true rfl) (Nat.le_of_ble_eq_true rfl) (mm_fin hF) rfl
  have b151 : ∀ (ls : Array Slot) (x3 : Int32) (x5 : Int32) (x6 : Int32) (st : mT) (H : Heap) (locs : List Loc), g_reads_151 x3 x5 x6 st = some q → lv_has ls 12 [(3, .int x3), (5, .int x5), (6, .int x6)] → hm_I D s0 s (mm_h dA h0 r M st) z0 H locs → W p l e { frames := 3, cells := 0, slots := 0, locals := 68 } s m ([.ref r, .int y1, .int y2, .int y3, .int y4] : List Value).toArray below meth c H locs 0 0 (MQ below (ht_Q D s0 (fun vv h1 z1 => vv = some (.int q.1) ∧ h1 = mm_h dA h0 r M q.2 ∧ z1 = z0)) ([.ref r, .int y1, .int y2, .int y3, .int y4] : List Value).toArray s 0 0 (fun q => s0.heap.size ≤ q)) (F0 m 151 ls []) := by
    intro ls x3 x5 x6 st H locs hF hl I
    unfold g_reads_151 at hF
    refine lv_iload hx hb d101_151 (lv_at hl 2 rfl) ?_
    refine lv_if_eq hx hb d101_153 rfl (fun h9 => ?_) (fun h9 => ?_)
    · have hF := (if_pos h9).symm.trans hF
      exact b166 ls st _ _ hF (hl.sub [] rfl) I
    · have hF := (if_neg h9).symm.trans hF
      refine lv_iload hx hb d101_156 (lv_at hl 1 rfl) ?_
      refine lv_iload_n hx hb d101_158 rfl (lv_at hl 0 rfl) ?_
      refine lv_icmp_lt hx hb d101_159 rfl (fun h9 => ?_) (fun h9 => ?_)
      · have hF := (if_pos h9).symm.trans hF
        exact b166 ls st _ _ hF (hl.sub [] rfl) I
      · have hF := (if_neg h9).symm.trans hF
        refine lv_iconst (v := 1) hx hb d101_162 (by decide) ?_
        refine lv_goto hx hb d101_163 rfl ?_
        exact ht_zret X d101_167 I (Nat.le_of_ble_eq_true rfl) (Nat.le_of_ble_eq_true rfl) (mm_fin hF) rfl
  have b145 : ∀ (k16 : Int32 → Int32 → Int32 → Int32 → Int32 → Int32 → Int32 → Int32 → mT → Option (Int32 × mT)), (∀ (ls : Array Slot) (x1 : Int32) (x2 : Int32) (x3 : Int32) (x4 : Int32) (x5 : Int32) (x6 : Int32) (x7 : Int32) (x8 : Int32) (st : mT) (H : Heap) (locs : List Loc), k16 x1 x2 x3 x4 x5 x6 x7 x8 st = some q → lv_has ls 12 [(0, .ref r), (1, .int x1), (2, .int x2), (3, .int x3), (4, .int x4), (5, .int x5), (6, .int x6), (7, .int x7), (8, .int x8)] → hm_I D s0 s (mm_h dA h0 r M st) z0 H locs → W p l e { frames := 3, cells := 0, slots := 0, locals := 68 } s m ([.ref r, .int y1, .int y2, .int y3, .int y4] : List Value).toArray below meth c H locs 0 0 (MQ below (ht_Q D s0 (fun vv h1 z1 => vv = some (.int q.1) ∧ h1 = mm_h dA h0 r M q.2 ∧ z1 = z0)) ([.ref r, .int y1, .int y2, .int y3, .int y4] : List Value).toArray s 0 0 (fun q => s0.heap.size ≤ q)) (F0 m 16 ls [])) → ∀ (ls : Array Slot) (x1 : Int32) (x2 : Int32) (x3 : Int32) (x4 : Int32) (x5 : Int32) (x6 : Int32) (x7 : Int32) (x8 : Int32) (st : mT) (H : Heap) (locs : List Loc), g_reads_145 k16 x1 x2 x3 x4 x5 x6 x7 x8 st = some q → lv_has ls 12 [(0, .ref r), (1, .int x1), (2, .int x2), (3, .int x3), (4, .int x4), (5, .int x5), (6, .int x6), (7, .int x7), (8, .int x8)] → hm_I D s0 s (mm_h dA h0 r M st) z0 H locs → W p l e { frames := 3, cells := 0, slots := 0, locals := 68 } s m ([.ref r, .int y1, .int y2, .int y3, .int y4] : List Value).toArray below meth c H locs 0 0 (MQ below (ht_Q D s0 (fun vv h1 z1 => vv = some (.int q.1) ∧ h1 = mm_h dA h0 r M q.2 ∧ z1 = z0)) ([.ref r, .int y1, .int y2, .int y3, .int y4] : List Value).toArray s 0 0 (fun q => s0.heap.size ≤ q)) (F0 m 145 ls []) := by
    intro k16 hk16 ls x1 x2 x3 x4 x5 x6 x7 x8 st H locs hF hl I
    unfold g_reads_145 at hF
    refine lv_iinc (k := 8) (v := (x8 + 1)) hx hb d101_145 hl rfl (rfl) (by decide) rfl (fun ls hl => ?_)
    have hl : lv_has ls 12 [(8, .int (x8 + 1)), (0, .ref r), (1, .int x1), (2, .int x2), (3, .int x3), (4, .int x4), (5, .int x5), (6, .int x6), (7, .int x7)] := hl
    refine lv_goto hx hb d101_148 rfl ?_
    exact hk16 ls x1 x2 x3 x4 x5 x6 x7 (x8 + 1) st _ _ hF (hl.sub [1, 2, 3, 4, 5, 6, 7, 8, 0] rfl) I
  have b134 : ∀ (k16 : Int32 → Int32 → Int32 → Int32 → Int32 → Int32 → Int32 → Int32 → mT → Option (Int32 × mT)), (∀ (ls : Array Slot) (x1 : Int32) (x2 : Int32) (x3 : Int32) (x4 : Int32) (x5 : Int32) (x6 : Int32) (x7 : Int32) (x8 : Int32) (st : mT) (H : Heap) (locs : List Loc), k16 x1 x2 x3 x4 x5 x6 x7 x8 st = some q → lv_has ls 12 [(0, .ref r), (1, .int x1), (2, .int x2), (3, .int x3), (4, .int x4), (5, .int x5), (6, .int x6), (7, .int x7), (8, .int x8)] → hm_I D s0 s (mm_h dA h0 r M st) z0 H locs → W p l e { frames := 3, cells := 0, slots := 0, locals := 68 } s m ([.ref r, .int y1, .int y2, .int y3, .int y4] : List Value).toArray below meth c H locs 0 0 (MQ below (ht_Q D s0 (fun vv h1 z1 => vv = some (.int q.1) ∧ h1 = mm_h dA h0 r M q.2 ∧ z1 = z0)) ([.ref r, .int y1, .int y2, .int y3, .int y4] : List Value).toArray s 0 0 (fun q => s0.heap.size ≤ q)) (F0 m 16 ls [])) → ∀ (k74 : Int32 → Int32 → Int32 → Int32 → Int32 → Int32 → Int32 → Int32 → Int32 → Int32 → Int32 → mT → Option (Int32 × mT)), (∀ (ls : Array Slot) (x1 : Int32) (x2 : Int32) (x3 : Int32) (x4 : Int32) (x5 : Int32) (x6 : Int32) (x7 : Int32) (x8 : Int32) (x9 : Int32) (x10 : Int32) (x11 : Int32) (st : mT) (H : Heap) (locs : List Loc), k74 x1 x2 x3 x4 x5 x6 x7 x8 x9 x10 x11 st = some q → lv_has ls 12 [(0, .ref r), (1, .int x1), (2, .int x2), (3, .int x3), (4, .int x4), (5, .int x5), (6, .int x6), (7, .int x7), (8, .int x8), (9, .int x9), (10, .int x10), (11, .int x11)] → hm_I D s0 s (mm_h dA h0 r M st) z0 H locs → W p l e { frames := 3, cells := 0, slots := 0, locals := 68 } s m ([.ref r, .int y1, .int y2, .int y3, .int y4] : List Value).toArray below meth c H locs 0 0 (MQ below (ht_Q D s0 (fun vv h1 z1 => vv = some (.int q.1) ∧ h1 = mm_h dA h0 r M q.2 ∧ z1 = z0)) ([.ref r, .int y1, .int y2, .int y3, .int y4] : List Value).toArray s 0 0 (fun q => s0.heap.size ≤ q)) (F0 m 74 ls [])) → ∀ (ls : Array Slot) (x1 : Int32) (x2 : Int32) (x3 : Int32) (x4 : Int32) (x5 : Int32) (x7 : Int32) (x8 : Int32) (x9 : Int32) (x10 : Int32) (x11 : Int32) (w0 : Int32) (st : mT) (H : Heap) (locs : List Loc), g_reads_134 k16 k74 x1 x2 x3 x4 x5 x7 x8 x9 x10 x11 w0 st = some q → lv_has ls 12 [(0, .ref r), (1, .int x1), (2, .int x2), (3, .int x3), (4, .int x4), (5, .int x5), (7, .int x7), (8, .int x8), (9, .int x9), (10, .int x10), (11, .int x11)] → hm_I D s0 s (mm_h dA h0 r M st) z0 H locs → W p l e { frames := 3, cells := 0, slots := 0, locals := 68 } s m ([.ref r, .int y1, .int y2, .int y3, .int y4] : List Value).toArray below meth c H locs 0 0 (MQ below (ht_Q D s0 (fun vv h1 z1 => vv = some (.int q.1) ∧ h1 = mm_h dA h0 r M q.2 ∧ z1 = z0)) ([.ref r, .int y1, .int y2, .int y3, .int y4] : List Value).toArray s 0 0 (fun q => s0.heap.size ≤ q)) (F0 m 134 ls [.int w0]) := by
    intro k16 hk16 k74 hk74 ls x1 x2 x3 x4 x5 x7 x8 x9 x10 x11 w0 st H locs hF hl I
    unfold g_reads_134 at hF
    refine lv_istore hx hb d101_134 hl (by decide) rfl (fun ls hl => ?_)
    have hl : lv_has ls 12 [(6, .int w0), (0, .ref r), (1, .int x1), (2, .int x2), (3, .int x3), (4, .int x4), (5, .int x5), (7, .int x7), (8, .int x8), (9, .int x9), (10, .int x10), (11, .int x11)] := hl
    refine lv_iinc (k := 6) (v := (x5 + 1)) hx hb d101_136 hl rfl (rfl) (by decide) rfl (fun ls hl => ?_)
    have hl : lv_has ls 12 [(5, .int (x5 + 1)), (6, .int w0), (0, .ref r), (1, .int x1), (2, .int x2), (3, .int x3), (4, .int x4), (7, .int x7), (8, .int x8), (9, .int x9), (10, .int x10), (11, .int x11)] := hl
    refine lv_iinc (k := 11) (v := (x11 + 1)) hx hb d101_139 hl rfl (rfl) (by decide) rfl (fun ls hl => ?_)
    have hl : lv_has ls 12 [(11, .int (x11 + 1)), (5, .int (x5 + 1)), (6, .int w0), (0, .ref r), (1, .int x1), (2, .int x2), (3, .int x3), (4, .int x4), (7, .int x7), (8, .int x8), (9, .int x9), (10, .int x10)] := hl
    refine lv_goto hx hb d101_142 rfl ?_
    exact hk74 ls x1 x2 x3 x4 (x5 + 1) w0 x7 x8 x9 x10 (x11 + 1) st _ _ hF (hl.sub [3, 4, 5, 6, 7, 1, 2, 8, 9, 10, 11, 0] rfl) I
  have b74 : ∀ (k16 : Int32 → Int32 → Int32 → Int32 → Int32 → Int32 → Int32 → Int32 → mT → Option (Int32 × mT)), (∀ (ls : Array Slot) (x1 : Int32) (x2 : Int32) (x3 : Int32) (x4 : Int32) (x5 : Int32) (x6 : Int32) (x7 : Int32) (x8 : Int32) (st : mT) (H : Heap) (locs : List Loc), k16 x1 x2 x3 x4 x5 x6 x7 x8 st = some q → lv_has ls 12 [(0, .ref r), (1, .int x1), (2, .int x2), (3, .int x3), (4, .int x4), (5, .int x5), (6, .int x6), (7, .int x7), (8, .int x8)] → hm_I D s0 s (mm_h dA h0 r M st) z0 H locs → W p l e { frames := 3, cells := 0, slots := 0, locals := 68 } s m ([.ref r, .int y1, .int y2, .int y3, .int y4] : List Value).toArray below meth c H locs 0 0 (MQ below (ht_Q D s0 (fun vv h1 z1 => vv = some (.int q.1) ∧ h1 = mm_h dA h0 r M q.2 ∧ z1 = z0)) ([.ref r, .int y1, .int y2, .int y3, .int y4] : List Value).toArray s 0 0 (fun q => s0.heap.size ≤ q)) (F0 m 16 ls [])) → ∀ n9 : Nat, ∀ (ls : Array Slot) (x1 : Int32) (x2 : Int32) (x3 : Int32) (x4 : Int32) (x5 : Int32) (x6 : Int32) (x7 : Int32) (x8 : Int32) (x9 : Int32) (x10 : Int32) (x11 : Int32) (st : mT) (H : Heap) (locs : List Loc), g_reads_74 k16 n9 x1 x2 x3 x4 x5 x6 x7 x8 x9 x10 x11 st = some q → lv_has ls 12 [(0, .ref r), (1, .int x1), (2, .int x2), (3, .int x3), (4, .int x4), (5, .int x5), (6, .int x6), (7, .int x7), (8, .int x8), (9, .int x9), (10, .int x10), (11, .int x11)] → hm_I D s0 s (mm_h dA h0 r M st) z0 H locs → W p l e { frames := 3, cells := 0, slots := 0, locals := 68 } s m ([.ref r, .int y1, .int y2, .int y3, .int y4] : List Value).toArray below meth c H locs 0 0 (MQ below (ht_Q D s0 (fun vv h1 z1 => vv = some (.int q.1) ∧ h1 = mm_h dA h0 r M q.2 ∧ z1 = z0)) ([.ref r, .int y1, .int y2, .int y3, .int y4] : List Value).toArray s 0 0 (fun q => s0.heap.size ≤ q)) (F0 m 74 ls []) := by
    intro k16 hk16 n9
    induction n9 with
    | zero => intro ls x1 x2 x3 x4 x5 x6 x7 x8 x9 x10 x11 st H locs hF; cases hF
    | succ n9 hk74 =>
    intro ls x1 x2 x3 x4 x5 x6 x7 x8 x9 x10 x11 st H locs hF hl I
    unfold g_reads_74 at hF
    refine lv_iload hx hb d101_74 (lv_at hl 11 rfl) ?_
    refine lv_aload_n hx hb d101_76 rfl (lv_at hl 0 rfl) ?_
    refine lv_iload hx hb d101_77 (lv_at hl 9 rfl) ?_
    refine lv_iconst (v := 3) hx hb d101_79 (by decide) ?_
    obtain ⟨q4, e9, hF⟩ := mm_bd hF
    refine ht_V (C := "MarkupStoreModel") (rest := [.int x11]) (as := [.int x9, .int 3]) X hl (cm_f l D dA s0 hE h0 r M hM z0 x9 3 st q4 e9) (List.forall_mem_cons.mpr ⟨ms_k1587, List.forall_mem_cons.mpr ⟨ms_k1589, List.forall_mem_cons.mpr ⟨ms_p63, List.forall_mem_cons.mpr ⟨ms_k7, List.forall_mem_cons.mpr ⟨ms_k1590, fun _ h => absurd h List.not_mem_nil⟩⟩⟩⟩⟩) ⟨rfl, by decide +kernel, by decide +kernel, (by decide +kernel : (parseMethodDescriptor "(II)I").map (fun d => d.parameters.length) = some 2)⟩ (hm_recv hK I rfl mm_hr) I ⟨rfl, rfl⟩ ⟨⟨Nat.le_of_ble_eq_true rfl, Nat.le_of_ble_eq_true rfl⟩, Nat.le_of_ble_eq_true rfl, Nat.le_of_ble_eq_true rfl⟩ rfl (Nat.le_of_ble_eq_true rfl) d101_80 (fun vv h1 z1 H locs hR I9 => ?_)
    obtain ⟨e1, e2, e3⟩ := hR
    rw [e2, e3] at I9
    clear I e2 e3 e9
    have I := I9
    clear I9
    subst e1
    refine W.eq (g2 := F0 m 83 ls [.int q4.1, .int x11]) rfl ?_
    refine lv_icmp_ge hx hb d101_83 rfl (fun h9 => ?_) (fun h9 => ?_)
    · have hF := (if_pos h9).symm.trans hF
      exact b145 k16 hk16 ls x1 x2 x3 x4 x5 x6 x7 x8 q4.2 _ _ hF (hl.sub [0, 1, 2, 3, 4, 5, 6, 7, 8] rfl) I
    · have hF := (if_neg h9).symm.trans hF
      refine lv_iload hx hb d101_86 (lv_at hl 10 rfl) ?_
      refine lv_if_eq hx hb d101_88 rfl (fun h9 => ?_) (fun h9 => ?_)
      · have hF := (if_pos h9).symm.trans hF
        exact b145 k16 hk16 ls x1 x2 x3 x4 x5 x6 x7 x8 q4.2 _ _ hF (hl.sub [0, 1, 2, 3, 4, 5, 6, 7, 8] rfl) I
      · have hF := (if_neg h9).symm.trans hF
        refine lv_iload hx hb d101_91 (lv_at hl 6 rfl) ?_
        refine lv_if_eq hx hb d101_93 rfl (fun h9 => ?_) (fun h9 => ?_)
        · have hF := (if_pos h9).symm.trans hF
          exact b145 k16 hk16 ls x1 x2 x3 x4 x5 x6 x7 x8 q4.2 _ _ hF (hl.sub [0, 1, 2, 3, 4, 5, 6, 7, 8] rfl) I
        · have hF := (if_neg h9).symm.trans hF
          refine lv_iload hx hb d101_96 (lv_at hl 5 rfl) ?_
          refine lv_iload_n hx hb d101_98 rfl (lv_at hl 3 rfl) ?_
          refine lv_icmp_ge hx hb d101_99 rfl (fun h9 => ?_) (fun h9 => ?_)
          · have hF := (if_pos h9).symm.trans hF
            refine lv_iload hx hb d101_132 (lv_at hl 4 rfl) ?_
            exact b134 k16 hk16 (g_reads_74 k16 n9) hk74 ls x1 x2 x3 x4 x5 x7 x8 x9 x10 x11 x4 q4.2 _ _ hF (hl.sub [0, 1, 2, 3, 4, 5, 7, 8, 9, 10, 11] rfl) I
          · have hF := (if_neg h9).symm.trans hF
            refine lv_aload_n hx hb d101_102 rfl (lv_at hl 0 rfl) ?_
            refine lv_iload hx hb d101_103 (lv_at hl 9 rfl) ?_
            refine lv_bipush (v := 8) hx hb d101_105 (by decide) ?_
            refine lv_iload hx hb d101_107 (lv_at hl 11 rfl) ?_
            refine lv_iadd hx hb d101_109 ?_
            obtain ⟨q5, e9, hF⟩ := mm_bd hF
            refine ht_V (C := "MarkupStoreModel") (rest := []) (as := [.int x9, .int (8 + x11)]) X hl (cm_f l D dA s0 hE h0 r M hM z0 x9 (8 + x11) q4.2 q5 e9) (List.forall_mem_cons.mpr ⟨ms_k1587, List.forall_mem_cons.mpr ⟨ms_k1589, List.forall_mem_cons.mpr ⟨ms_p63, List.forall_mem_cons.mpr ⟨ms_k7, List.forall_mem_cons.mpr ⟨ms_k1590, fun _ h => absurd h List.not_mem_nil⟩⟩⟩⟩⟩) ⟨rfl, by decide +kernel, by decide +kernel, (by decide +kernel : (parseMethodDescriptor "(II)I").map (fun d => d.parameters.length) = some 2)⟩ (hm_recv hK I rfl mm_hr) I ⟨rfl, rfl⟩ ⟨⟨Nat.le_of_ble_eq_true rfl, Nat.le_of_ble_eq_true rfl⟩, Nat.le_of_ble_eq_true rfl, Nat.le_of_ble_eq_true rfl⟩ rfl (Nat.le_of_ble_eq_true rfl) d101_110 (fun vv h1 z1 H locs hR I9 => ?_)
            obtain ⟨e1, e2, e3⟩ := hR
            rw [e2, e3] at I9
            clear I e2 e3 e9
            have I := I9
            clear I9
            subst e1
            refine W.eq (g2 := F0 m 113 ls [.int q5.1]) rfl ?_
            refine lv_aload_n hx hb d101_113 rfl (lv_at hl 0 rfl) ?_
            refine lv_iload_n hx hb d101_114 rfl (lv_at hl 2 rfl) ?_
            refine lv_iload hx hb d101_115 (lv_at hl 5 rfl) ?_
            refine lv_iadd hx hb d101_117 ?_
            obtain ⟨q6, e9, hF⟩ := mm_bd hF
            refine ht_V (C := "MarkupStoreModel") (rest := [.int q5.1]) (as := [.int (x2 + x5)]) X hl (cm_look l D dA s0 hE h0 r M hM z0 (x2 + x5) q5.2 q6 e9) (List.forall_mem_cons.mpr ⟨ms_k1516, List.forall_mem_cons.mpr ⟨ms_k1518, List.forall_mem_cons.mpr ⟨ms_p46, List.forall_mem_cons.mpr ⟨ms_k7, List.forall_mem_cons.mpr ⟨ms_k1519, fun _ h => absurd h List.not_mem_nil⟩⟩⟩⟩⟩) ⟨rfl, by decide +kernel, by decide +kernel, (by decide +kernel : (parseMethodDescriptor "(I)C").map (fun d => d.parameters.length) = some 1)⟩ (hm_recv hK I rfl mm_hr) I ⟨rfl, rfl⟩ ⟨⟨Nat.le_of_ble_eq_true rfl, Nat.le_of_ble_eq_true rfl⟩, Nat.le_of_ble_eq_true rfl, Nat.le_of_ble_eq_true rfl⟩ rfl (Nat.le_of_ble_eq_true rfl) d101_118 (fun vv h1 z1 H locs hR I9 => ?_)
            obtain ⟨e1, e2, e3⟩ := hR
            rw [e2, e3] at I9
            clear I e2 e3 e9
            have I := I9
            clear I9
            subst e1
            refine W.eq (g2 := F0 m 121 ls [.int q6.1, .int q5.1]) rfl ?_
            refine lv_icmp_ne hx hb d101_121 rfl (fun h9 => ?_) (fun h9 => ?_)
            · have hF := (if_neg h9).symm.trans hF
              refine lv_iconst (v := 0) hx hb d101_128 (by decide) ?_
              refine lv_goto hx hb d101_129 rfl ?_
              exact b134 k16 hk16 (g_reads_74 k16 n9) hk74 ls x1 x2 x3 x4 x5 x7 x8 x9 x10 x11 0 q6.2 _ _ hF (hl.sub [0, 1, 2, 3, 4, 5, 7, 8, 9, 10, 11] rfl) I
            · have hF := (if_pos h9).symm.trans hF
              refine lv_iconst (v := 1) hx hb d101_124 (by decide) ?_
              refine lv_goto hx hb d101_125 rfl ?_
              exact b134 k16 hk16 (g_reads_74 k16 n9) hk74 ls x1 x2 x3 x4 x5 x7 x8 x9 x10 x11 1 q6.2 _ _ hF (hl.sub [0, 1, 2, 3, 4, 5, 7, 8, 9, 10, 11] rfl) I
  have b69 : ∀ (k16 : Int32 → Int32 → Int32 → Int32 → Int32 → Int32 → Int32 → Int32 → mT → Option (Int32 × mT)), (∀ (ls : Array Slot) (x1 : Int32) (x2 : Int32) (x3 : Int32) (x4 : Int32) (x5 : Int32) (x6 : Int32) (x7 : Int32) (x8 : Int32) (st : mT) (H : Heap) (locs : List Loc), k16 x1 x2 x3 x4 x5 x6 x7 x8 st = some q → lv_has ls 12 [(0, .ref r), (1, .int x1), (2, .int x2), (3, .int x3), (4, .int x4), (5, .int x5), (6, .int x6), (7, .int x7), (8, .int x8)] → hm_I D s0 s (mm_h dA h0 r M st) z0 H locs → W p l e { frames := 3, cells := 0, slots := 0, locals := 68 } s m ([.ref r, .int y1, .int y2, .int y3, .int y4] : List Value).toArray below meth c H locs 0 0 (MQ below (ht_Q D s0 (fun vv h1 z1 => vv = some (.int q.1) ∧ h1 = mm_h dA h0 r M q.2 ∧ z1 = z0)) ([.ref r, .int y1, .int y2, .int y3, .int y4] : List Value).toArray s 0 0 (fun q => s0.heap.size ≤ q)) (F0 m 16 ls [])) → ∀ (ls : Array Slot) (x1 : Int32) (x2 : Int32) (x3 : Int32) (x4 : Int32) (x5 : Int32) (x6 : Int32) (x7 : Int32) (x8 : Int32) (x9 : Int32) (w0 : Int32) (st : mT) (H : Heap) (locs : List Loc), g_reads_69 k16 x1 x2 x3 x4 x5 x6 x7 x8 x9 w0 st = some q → lv_has ls 12 [(0, .ref r), (1, .int x1), (2, .int x2), (3, .int x3), (4, .int x4), (5, .int x5), (6, .int x6), (7, .int x7), (8, .int x8), (9, .int x9)] → hm_I D s0 s (mm_h dA h0 r M st) z0 H locs → W p l e { frames := 3, cells := 0, slots := 0, locals := 68 } s m ([.ref r, .int y1, .int y2, .int y3, .int y4] : List Value).toArray below meth c H locs 0 0 (MQ below (ht_Q D s0 (fun vv h1 z1 => vv = some (.int q.1) ∧ h1 = mm_h dA h0 r M q.2 ∧ z1 = z0)) ([.ref r, .int y1, .int y2, .int y3, .int y4] : List Value).toArray s 0 0 (fun q => s0.heap.size ≤ q)) (F0 m 69 ls [.int w0]) := by
    intro k16 hk16 ls x1 x2 x3 x4 x5 x6 x7 x8 x9 w0 st H locs hF hl I
    unfold g_reads_69 at hF
    refine lv_istore hx hb d101_69 hl (by decide) rfl (fun ls hl => ?_)
    have hl : lv_has ls 12 [(10, .int w0), (0, .ref r), (1, .int x1), (2, .int x2), (3, .int x3), (4, .int x4), (5, .int x5), (6, .int x6), (7, .int x7), (8, .int x8), (9, .int x9)] := hl
    refine lv_iconst (v := 0) hx hb d101_71 (by decide) ?_
    refine lv_istore hx hb d101_72 hl (by decide) rfl (fun ls hl => ?_)
    have hl : lv_has ls 12 [(11, .int 0), (10, .int w0), (0, .ref r), (1, .int x1), (2, .int x2), (3, .int x3), (4, .int x4), (5, .int x5), (6, .int x6), (7, .int x7), (8, .int x8), (9, .int x9)] := hl
    exact b74 k16 hk16 mF ls x1 x2 x3 x4 x5 x6 x7 x8 x9 w0 0 st _ _ hF (hl.sub [2, 3, 4, 5, 6, 7, 8, 9, 10, 11, 1, 0] rfl) I
  have b64 : ∀ (k16 : Int32 → Int32 → Int32 → Int32 → Int32 → Int32 → Int32 → Int32 → mT → Option (Int32 × mT)), (∀ (ls : Array Slot) (x1 : Int32) (x2 : Int32) (x3 : Int32) (x4 : Int32) (x5 : Int32) (x6 : Int32) (x7 : Int32) (x8 : Int32) (st : mT) (H : Heap) (locs : List Loc), k16 x1 x2 x3 x4 x5 x6 x7 x8 st = some q → lv_has ls 12 [(0, .ref r), (1, .int x1), (2, .int x2), (3, .int x3), (4, .int x4), (5, .int x5), (6, .int x6), (7, .int x7), (8, .int x8)] → hm_I D s0 s (mm_h dA h0 r M st) z0 H locs → W p l e { frames := 3, cells := 0, slots := 0, locals := 68 } s m ([.ref r, .int y1, .int y2, .int y3, .int y4] : List Value).toArray below meth c H locs 0 0 (MQ below (ht_Q D s0 (fun vv h1 z1 => vv = some (.int q.1) ∧ h1 = mm_h dA h0 r M q.2 ∧ z1 = z0)) ([.ref r, .int y1, .int y2, .int y3, .int y4] : List Value).toArray s 0 0 (fun q => s0.heap.size ≤ q)) (F0 m 16 ls [])) → ∀ (ls : Array Slot) (x1 : Int32) (x2 : Int32) (x3 : Int32) (x4 : Int32) (x5 : Int32) (x6 : Int32) (x7 : Int32) (x8 : Int32) (x9 : Int32) (st : mT) (H : Heap) (locs : List Loc), g_reads_64 k16 x1 x2 x3 x4 x5 x6 x7 x8 x9 st = some q → lv_has ls 12 [(0, .ref r), (1, .int x1), (2, .int x2), (3, .int x3), (4, .int x4), (5, .int x5), (6, .int x6), (7, .int x7), (8, .int x8), (9, .int x9)] → hm_I D s0 s (mm_h dA h0 r M st) z0 H locs → W p l e { frames := 3, cells := 0, slots := 0, locals := 68 } s m ([.ref r, .int y1, .int y2, .int y3, .int y4] : List Value).toArray below meth c H locs 0 0 (MQ below (ht_Q D s0 (fun vv h1 z1 => vv = some (.int q.1) ∧ h1 = mm_h dA h0 r M q.2 ∧ z1 = z0)) ([.ref r, .int y1, .int y2, .int y3, .int y4] : List Value).toArray s 0 0 (fun q => s0.heap.size ≤ q)) (F0 m 64 ls []) := by
    intro k16 hk16 ls x1 x2 x3 x4 x5 x6 x7 x8 x9 st H locs hF hl I
    unfold g_reads_64 at hF
    refine lv_iconst (v := 1) hx hb d101_64 (by decide) ?_
    refine lv_goto hx hb d101_65 rfl ?_
    exact b69 k16 hk16 ls x1 x2 x3 x4 x5 x6 x7 x8 x9 1 st _ _ hF (hl.sub [0, 1, 2, 3, 4, 5, 6, 7, 8, 9] rfl) I
  have b68 : ∀ (k16 : Int32 → Int32 → Int32 → Int32 → Int32 → Int32 → Int32 → Int32 → mT → Option (Int32 × mT)), (∀ (ls : Array Slot) (x1 : Int32) (x2 : Int32) (x3 : Int32) (x4 : Int32) (x5 : Int32) (x6 : Int32) (x7 : Int32) (x8 : Int32) (st : mT) (H : Heap) (locs : List Loc), k16 x1 x2 x3 x4 x5 x6 x7 x8 st = some q → lv_has ls 12 [(0, .ref r), (1, .int x1), (2, .int x2), (3, .int x3), (4, .int x4), (5, .int x5), (6, .int x6), (7, .int x7), (8, .int x8)] → hm_I D s0 s (mm_h dA h0 r M st) z0 H locs → W p l e { frames := 3, cells := 0, slots := 0, locals := 68 } s m ([.ref r, .int y1, .int y2, .int y3, .int y4] : List Value).toArray below meth c H locs 0 0 (MQ below (ht_Q D s0 (fun vv h1 z1 => vv = some (.int q.1) ∧ h1 = mm_h dA h0 r M q.2 ∧ z1 = z0)) ([.ref r, .int y1, .int y2, .int y3, .int y4] : List Value).toArray s 0 0 (fun q => s0.heap.size ≤ q)) (F0 m 16 ls [])) → ∀ (ls : Array Slot) (x1 : Int32) (x2 : Int32) (x3 : Int32) (x4 : Int32) (x5 : Int32) (x6 : Int32) (x7 : Int32) (x8 : Int32) (x9 : Int32) (st : mT) (H : Heap) (locs : List Loc), g_reads_68 k16 x1 x2 x3 x4 x5 x6 x7 x8 x9 st = some q → lv_has ls 12 [(0, .ref r), (1, .int x1), (2, .int x2), (3, .int x3), (4, .int x4), (5, .int x5), (6, .int x6), (7, .int x7), (8, .int x8), (9, .int x9)] → hm_I D s0 s (mm_h dA h0 r M st) z0 H locs → W p l e { frames := 3, cells := 0, slots := 0, locals := 68 } s m ([.ref r, .int y1, .int y2, .int y3, .int y4] : List Value).toArray below meth c H locs 0 0 (MQ below (ht_Q D s0 (fun vv h1 z1 => vv = some (.int q.1) ∧ h1 = mm_h dA h0 r M q.2 ∧ z1 = z0)) ([.ref r, .int y1, .int y2, .int y3, .int y4] : List Value).toArray s 0 0 (fun q => s0.heap.size ≤ q)) (F0 m 68 ls []) := by
    intro k16 hk16 ls x1 x2 x3 x4 x5 x6 x7 x8 x9 st H locs hF hl I
    unfold g_reads_68 at hF
    refine lv_iconst (v := 0) hx hb d101_68 (by decide) ?_
    exact b69 k16 hk16 ls x1 x2 x3 x4 x5 x6 x7 x8 x9 0 st _ _ hF (hl.sub [0, 1, 2, 3, 4, 5, 6, 7, 8, 9] rfl) I
  have b16 : ∀ n9 : Nat, ∀ (ls : Array Slot) (x1 : Int32) (x2 : Int32) (x3 : Int32) (x4 : Int32) (x5 : Int32) (x6 : Int32) (x7 : Int32) (x8 : Int32) (st : mT) (H : Heap) (locs : List Loc), g_reads_16 n9 x1 x2 x3 x4 x5 x6 x7 x8 st = some q → lv_has ls 12 [(0, .ref r), (1, .int x1), (2, .int x2), (3, .int x3), (4, .int x4), (5, .int x5), (6, .int x6), (7, .int x7), (8, .int x8)] → hm_I D s0 s (mm_h dA h0 r M st) z0 H locs → W p l e { frames := 3, cells := 0, slots := 0, locals := 68 } s m ([.ref r, .int y1, .int y2, .int y3, .int y4] : List Value).toArray below meth c H locs 0 0 (MQ below (ht_Q D s0 (fun vv h1 z1 => vv = some (.int q.1) ∧ h1 = mm_h dA h0 r M q.2 ∧ z1 = z0)) ([.ref r, .int y1, .int y2, .int y3, .int y4] : List Value).toArray s 0 0 (fun q => s0.heap.size ≤ q)) (F0 m 16 ls []) := by
    intro n9
    induction n9 with
    | zero => intro ls x1 x2 x3 x4 x5 x6 x7 x8 st H locs hF; cases hF
    | succ n9 hk16 =>
    intro ls x1 x2 x3 x4 x5 x6 x7 x8 st H locs hF hl I
    unfold g_reads_16 at hF
    refine lv_iload hx hb d101_16 (lv_at hl 8 rfl) ?_
    refine lv_iload hx hb d101_18 (lv_at hl 7 rfl) ?_
    refine lv_icmp_ge hx hb d101_20 rfl (fun h9 => ?_) (fun h9 => ?_)
    · have hF := (if_pos h9).symm.trans hF
      exact b151 ls x3 x5 x6 st _ _ hF (hl.sub [3, 5, 6] rfl) I
    · have hF := (if_neg h9).symm.trans hF
      refine lv_iload hx hb d101_23 (lv_at hl 6 rfl) ?_
      refine lv_if_eq hx hb d101_25 rfl (fun h9 => ?_) (fun h9 => ?_)
      · have hF := (if_pos h9).symm.trans hF
        exact b151 ls x3 x5 x6 st _ _ hF (hl.sub [3, 5, 6] rfl) I
      · have hF := (if_neg h9).symm.trans hF
        refine lv_aload_n hx hb d101_28 rfl (lv_at hl 0 rfl) ?_
        refine lv_iload hx hb d101_29 (lv_at hl 8 rfl) ?_
        obtain ⟨q2, e9, hF⟩ := mm_bd hF
        refine ht_V (C := "MarkupStoreModel") (rest := []) (as := [.int x8]) X hl (cm_doc l D dA s0 hE h0 r M hM z0 x8 st q2 e9) (List.forall_mem_cons.mpr ⟨ms_k1607, List.forall_mem_cons.mpr ⟨ms_k1609, List.forall_mem_cons.mpr ⟨ms_p67, List.forall_mem_cons.mpr ⟨ms_k7, List.forall_mem_cons.mpr ⟨ms_k1610, fun _ h => absurd h List.not_mem_nil⟩⟩⟩⟩⟩) ⟨rfl, by decide +kernel, by decide +kernel, (by decide +kernel : (parseMethodDescriptor "(I)I").map (fun d => d.parameters.length) = some 1)⟩ (hm_recv hK I rfl mm_hr) I ⟨rfl, rfl⟩ ⟨⟨Nat.le_of_ble_eq_true rfl, Nat.le_of_ble_eq_true rfl⟩, Nat.le_of_ble_eq_true rfl, Nat.le_of_ble_eq_true rfl⟩ rfl (Nat.le_of_ble_eq_true rfl) d101_31 (fun vv h1 z1 H locs hR I9 => ?_)
        obtain ⟨e1, e2, e3⟩ := hR
        rw [e2, e3] at I9
        clear I e2 e3 e9
        have I := I9
        clear I9
        subst e1
        refine W.eq (g2 := F0 m 34 ls [.int q2.1]) rfl ?_
        refine lv_istore hx hb d101_34 hl (by decide) rfl (fun ls hl => ?_)
        have hl : lv_has ls 12 [(9, .int q2.1), (0, .ref r), (1, .int x1), (2, .int x2), (3, .int x3), (4, .int x4), (5, .int x5), (6, .int x6), (7, .int x7), (8, .int x8)] := hl
        refine lv_aload_n hx hb d101_36 rfl (lv_at hl 1 rfl) ?_
        refine lv_iload hx hb d101_37 (lv_at hl 0 rfl) ?_
        refine lv_iconst (v := 1) hx hb d101_39 (by decide) ?_
        obtain ⟨q3, e9, hF⟩ := mm_bd hF
        refine ht_V (C := "MarkupStoreModel") (rest := []) (as := [.int q2.1, .int 1]) X hl (cm_f l D dA s0 hE h0 r M hM z0 q2.1 1 q2.2 q3 e9) (List.forall_mem_cons.mpr ⟨ms_k1587, List.forall_mem_cons.mpr ⟨ms_k1589, List.forall_mem_cons.mpr ⟨ms_p63, List.forall_mem_cons.mpr ⟨ms_k7, List.forall_mem_cons.mpr ⟨ms_k1590, fun _ h => absurd h List.not_mem_nil⟩⟩⟩⟩⟩) ⟨rfl, by decide +kernel, by decide +kernel, (by decide +kernel : (parseMethodDescriptor "(II)I").map (fun d => d.parameters.length) = some 2)⟩ (hm_recv hK I rfl mm_hr) I ⟨rfl, rfl⟩ ⟨⟨Nat.le_of_ble_eq_true rfl, Nat.le_of_ble_eq_true rfl⟩, Nat.le_of_ble_eq_true rfl, Nat.le_of_ble_eq_true rfl⟩ rfl (Nat.le_of_ble_eq_true rfl) d101_40 (fun vv h1 z1 H locs hR I9 => ?_)
        obtain ⟨e1, e2, e3⟩ := hR
        rw [e2, e3] at I9
        clear I e2 e3 e9
        have I := I9
        clear I9
        subst e1
        refine W.eq (g2 := F0 m 43 ls [.int q3.1]) rfl ?_
        refine lv_iconst (v := 2) hx hb d101_43 (by decide) ?_
        refine lv_icmp_eq hx hb d101_44 rfl (fun h9 => ?_) (fun h9 => ?_)
        · have hF := (if_pos h9).symm.trans hF
          exact b64 (g_reads_16 n9) hk16 ls x1 x2 x3 x4 x5 x6 x7 x8 q2.1 q3.2 _ _ hF (hl.sub [1, 2, 3, 4, 5, 6, 7, 8, 9, 0] rfl) I
        · have hF := (if_neg h9).symm.trans hF
          refine lv_iload hx hb d101_47 (lv_at hl 9 rfl) ?_
          refine lv_iload_n hx hb d101_49 rfl (lv_at hl 2 rfl) ?_
          refine lv_icmp_ne hx hb d101_50 rfl (fun h9 => ?_) (fun h9 => ?_)
          · have hF := (if_neg h9).symm.trans hF
            exact b68 (g_reads_16 n9) hk16 ls x1 x2 x3 x4 x5 x6 x7 x8 q2.1 q3.2 _ _ hF (hl.sub [1, 2, 3, 4, 5, 6, 7, 8, 9, 0] rfl) I
          · have hF := (if_pos h9).symm.trans hF
            refine lv_aload_n hx hb d101_53 rfl (lv_at hl 1 rfl) ?_
            refine lv_iload hx hb d101_54 (lv_at hl 0 rfl) ?_
            refine lv_iconst (v := 1) hx hb d101_56 (by decide) ?_
            obtain ⟨q7, e9, hF⟩ := mm_bd hF
            refine ht_V (C := "MarkupStoreModel") (rest := []) (as := [.int q2.1, .int 1]) X hl (cm_f l D dA s0 hE h0 r M hM z0 q2.1 1 q3.2 q7 e9) (List.forall_mem_cons.mpr ⟨ms_k1587, List.forall_mem_cons.mpr ⟨ms_k1589, List.forall_mem_cons.mpr ⟨ms_p63, List.forall_mem_cons.mpr ⟨ms_k7, List.forall_mem_cons.mpr ⟨ms_k1590, fun _ h => absurd h List.not_mem_nil⟩⟩⟩⟩⟩) ⟨rfl, by decide +kernel, by decide +kernel, (by decide +kernel : (parseMethodDescriptor "(II)I").map (fun d => d.parameters.length) = some 2)⟩ (hm_recv hK I rfl mm_hr) I ⟨rfl, rfl⟩ ⟨⟨Nat.le_of_ble_eq_true rfl, Nat.le_of_ble_eq_true rfl⟩, Nat.le_of_ble_eq_true rfl, Nat.le_of_ble_eq_true rfl⟩ rfl (Nat.le_of_ble_eq_true rfl) d101_57 (fun vv h1 z1 H locs hR I9 => ?_)
            obtain ⟨e1, e2, e3⟩ := hR
            rw [e2, e3] at I9
            clear I e2 e3 e9
            have I := I9
            clear I9
            subst e1
            refine W.eq (g2 := F0 m 60 ls [.int q7.1]) rfl ?_
            refine lv_iconst (v := 3) hx hb d101_60 (by decide) ?_
            refine lv_icmp_ne hx hb d101_61 rfl (fun h9 => ?_) (fun h9 => ?_)
            · have hF := (if_neg h9).symm.trans hF
              exact b68 (g_reads_16 n9) hk16 ls x1 x2 x3 x4 x5 x6 x7 x8 q2.1 q7.2 _ _ hF (hl.sub [1, 2, 3, 4, 5, 6, 7, 8, 9, 0] rfl) I
            · have hF := (if_pos h9).symm.trans hF
              exact b64 (g_reads_16 n9) hk16 ls x1 x2 x3 x4 x5 x6 x7 x8 q2.1 q7.2 _ _ hF (hl.sub [1, 2, 3, 4, 5, 6, 7, 8, 9, 0] rfl) I
  have hF := hg
  unfold g_reads at hF
  refine lv_iconst (v := 0) hx hb d101_0 (by decide) ?_
  refine lv_istore hx hb d101_1 hl (by decide) rfl (fun ls hl => ?_)
  have hl : lv_has ls 12 [(5, .int 0), (0, .ref r), (1, .int y1), (2, .int y2), (3, .int y3), (4, .int y4)] := hl
  refine lv_iconst (v := 1) hx hb d101_3 (by decide) ?_
  refine lv_istore hx hb d101_4 hl (by decide) rfl (fun ls hl => ?_)
  have hl : lv_has ls 12 [(6, .int 1), (5, .int 0), (0, .ref r), (1, .int y1), (2, .int y2), (3, .int y3), (4, .int y4)] := hl
  refine lv_aload_n hx hb d101_6 rfl (lv_at hl 2 rfl) ?_
  refine lv_iload_n hx hb d101_7 rfl (lv_at hl 3 rfl) ?_
  obtain ⟨q1, e9, hF⟩ := mm_bd hF
  refine ht_V (C := "MarkupStoreModel") (rest := []) (as := [.int y1]) X hl (cm_end l D dA s0 hE h0 r M hM z0 y1 st q1 e9) (List.forall_mem_cons.mpr ⟨ms_k1650, List.forall_mem_cons.mpr ⟨ms_k1652, List.forall_mem_cons.mpr ⟨ms_p77, List.forall_mem_cons.mpr ⟨ms_k7, List.forall_mem_cons.mpr ⟨ms_k1653, fun _ h => absurd h List.not_mem_nil⟩⟩⟩⟩⟩) ⟨rfl, by decide +kernel, by decide +kernel, (by decide +kernel : (parseMethodDescriptor "(I)I").map (fun d => d.parameters.length) = some 1)⟩ (hm_recv hK I rfl mm_hr) I ⟨rfl, rfl⟩ ⟨⟨Nat.le_of_ble_eq_true rfl, Nat.le_of_ble_eq_true rfl⟩, Nat.le_of_ble_eq_true rfl, Nat.le_of_ble_eq_true rfl⟩ rfl (Nat.le_of_ble_eq_true rfl) d101_8 (fun vv h1 z1 H locs hR I9 => ?_)
  obtain ⟨e1, e2, e3⟩ := hR
  rw [e2, e3] at I9
  clear I e2 e3 e9
  have I := I9
  clear I9
  subst e1
  refine W.eq (g2 := F0 m 11 ls [.int q1.1]) rfl ?_
  refine lv_istore hx hb d101_11 hl (by decide) rfl (fun ls hl => ?_)
  have hl : lv_has ls 12 [(7, .int q1.1), (6, .int 1), (5, .int 0), (0, .ref r), (1, .int y1), (2, .int y2), (3, .int y3), (4, .int y4)] := hl
  refine lv_iload_n hx hb d101_13 rfl (lv_at hl 4 rfl) ?_
  refine lv_istore hx hb d101_14 hl (by decide) rfl (fun ls hl => ?_)
  have hl : lv_has ls 12 [(8, .int y1), (7, .int q1.1), (6, .int 1), (5, .int 0), (0, .ref r), (1, .int y1), (2, .int y2), (3, .int y3), (4, .int y4)] := hl
  exact b16 mF ls y1 y2 y3 y4 0 1 q1.1 y1 q1.2 _ _ hF (hl.sub [4, 5, 6, 7, 8, 3, 2, 1, 0] rfl) I

def g_fill_169 (k5 : Int32 → Int64 → Int32 → mT → Option (mT)) (x1 : Int32) (x4 : Int32) (w0 : Int64) (st : mT) : Option (mT) := (k5 x1 w0 (x4 + 1) st)
def g_fill_154 (k5 : Int32 → Int64 → Int32 → mT → Option (mT)) (x1 : Int32) (x2 : Int64) (x4 : Int32) (x7 : Int32) (st : mT) : Option (mT) := (if x7 = 0 then (g_fill_169 k5 x1 x4 x2 st) else (g_fill_169 k5 x1 x4 (x2 ||| ((1 : Int64) <<< (x4.toInt64 &&& 63))) st))
def g_fill_146 (k5 : Int32 → Int64 → Int32 → mT → Option (mT)) (k68 : Int32 → Int64 → Int32 → Int64 → Int32 → Int32 → mT → Option (mT)) (x1 : Int32) (x2 : Int64) (x4 : Int32) (x5 : Int64) (x8 : Int32) (w0 : Int32) (st : mT) : Option (mT) := (k68 x1 x2 x4 x5 w0 (x8 + 1) st)
def g_fill_141 (k5 : Int32 → Int64 → Int32 → mT → Option (mT)) (k68 : Int32 → Int64 → Int32 → Int64 → Int32 → Int32 → mT → Option (mT)) (x1 : Int32) (x2 : Int64) (x4 : Int32) (x5 : Int64) (x8 : Int32) (st : mT) : Option (mT) := (g_fill_146 k5 k68 x1 x2 x4 x5 x8 1 st)
def g_fill_145 (k5 : Int32 → Int64 → Int32 → mT → Option (mT)) (k68 : Int32 → Int64 → Int32 → Int64 → Int32 → Int32 → mT → Option (mT)) (x1 : Int32) (x2 : Int64) (x4 : Int32) (x5 : Int64) (x8 : Int32) (st : mT) : Option (mT) := (g_fill_146 k5 k68 x1 x2 x4 x5 x8 0 st)
def g_fill_135 (k5 : Int32 → Int64 → Int32 → mT → Option (mT)) (k68 : Int32 → Int64 → Int32 → Int64 → Int32 → Int32 → mT → Option (mT)) (x1 : Int32) (x2 : Int64) (x4 : Int32) (x5 : Int64) (x8 : Int32) (w0 : Int32) (w1 : Int32) (w2 : Int32) (w3 : Int32) (st : mT) : Option (mT) := ((g_reads w3 w2 w1 w0 st).bind (fun q13 => (if q13.1 = 0 then (g_fill_145 k5 k68 x1 x2 x4 x5 x8 q13.2) else (g_fill_141 k5 k68 x1 x2 x4 x5 x8 q13.2))))
def g_fill_68 (k5 : Int32 → Int64 → Int32 → mT → Option (mT)) : Nat → Int32 → Int64 → Int32 → Int64 → Int32 → Int32 → mT → Option (mT)
  | 0, _, _, _, _, _, _, _ => none
  | n9 + 1, x1, x2, x4, x5, x7, x8, st => ((g_count st).bind (fun q8 => (if q8.1 ≤ x8 then (g_fill_154 k5 x1 x2 x4 x7 q8.2) else (mm_ld (q8.2.2.1 32) 65 x1 (fun v9 => (if v9 ≤ 4 then (g_fill_154 k5 x1 x2 x4 x7 q8.2) else (if x7 = 0 then (if (mm_cmp ((x5 >>> (x8.toInt64 &&& 63)) &&& (1 : Int64)) (1 : Int64)) = 0 then (mm_ld (q8.2.2.1 36) 65 x1 (fun v10 => (mm_ld (q8.2.2.1 37) 65 x1 (fun v11 => (mm_ld (q8.2.2.1 32) 65 x1 (fun v12 => (if v12 = 6 then (g_fill_135 k5 (g_fill_68 k5 n9) x1 x2 x4 x5 x8 1 v11 v10 x8 q8.2) else (g_fill_135 k5 (g_fill_68 k5 n9) x1 x2 x4 x5 x8 0 v11 v10 x8 q8.2)))))))) else (g_fill_145 k5 (g_fill_68 k5 n9) x1 x2 x4 x5 x8 q8.2)) else (g_fill_141 k5 (g_fill_68 k5 n9) x1 x2 x4 x5 x8 q8.2))))))))
def g_fill_63 (k5 : Int32 → Int64 → Int32 → mT → Option (mT)) (x1 : Int32) (x2 : Int64) (x4 : Int32) (x5 : Int64) (w0 : Int32) (st : mT) : Option (mT) := (g_fill_68 k5 mF x1 x2 x4 x5 w0 0 st)
def g_fill_62 (k5 : Int32 → Int64 → Int32 → mT → Option (mT)) (x1 : Int32) (x2 : Int64) (x4 : Int32) (x5 : Int64) (st : mT) : Option (mT) := (g_fill_63 k5 x1 x2 x4 x5 0 st)
def g_fill_36 (k5 : Int32 → Int64 → Int32 → mT → Option (mT)) (x1 : Int32) (x2 : Int64) (x4 : Int32) (w0 : Int32) (w1 : Int32) (st : mT) : Option (mT) := ((g_lead w1 w0 st).bind (fun q6 => (mm_ld (q6.2.2.1 32) 65 x1 (fun v7 => (if v7 = 4 then (if (mm_cmp q6.1 (0 : Int64)) = 0 then (g_fill_62 k5 x1 x2 x4 q6.1 q6.2) else (g_fill_63 k5 x1 x2 x4 q6.1 1 q6.2)) else (g_fill_62 k5 x1 x2 x4 q6.1 q6.2))))))
def g_fill_5 : Nat → Int32 → Int64 → Int32 → mT → Option (mT)
  | 0, _, _, _, _ => none
  | n9 + 1, x1, x2, x4, st => ((g_count st).bind (fun q1 => (if q1.1 ≤ x4 then (mm_ix 65 x1 (fun j3 => mm_lt (mm_J q1.2 j3 x2) (fun st2 => (some st2)))) else (mm_ld (q1.2.2.1 38) 65 x1 (fun v4 => (mm_ld (q1.2.2.1 41) 65 x1 (fun v5 => (if v5 = 0 then (g_fill_36 (g_fill_5 n9) x1 x2 x4 x4 v4 q1.2) else (g_fill_36 (g_fill_5 n9) x1 x2 x4 (-1) v4 q1.2)))))))))
def g_fill (y1 : Int32) (st : mT) : Option (mT) := (g_fill_5 mF y1 (0 : Int64) 0 st)
set_option maxRecDepth 100000 in
set_option maxHeartbeats 8000000 in
theorem cm_fill (l : Launch) (D : va_G) (dA : Nat → ClassId) (s0 : State) (hE : ms_EV D dA s0) (h0 : hm_T) (r : Nat) (M : Nat → Nat) (hM : mm_ok r M) (z0 : hz_T) (y1 : Int32) (st : mT) (q : mT) (hg : g_fill y1 st = some q) : ht_C l D s0 yM102 bM102 9 (Option.none : Option Jvm.ClassFile.FieldType) 6 152 0 0 [.ref r, .int y1] (fun h z => h = mm_h dA h0 r M st ∧ z = z0) (fun h z vv h1 z1 => vv = none ∧ h1 = mm_h dA h0 r M q ∧ z1 = z0) := by
  refine ht_C.mk hE.1 (by decide) (Nat.le_of_ble_eq_true rfl) [(0, .ref r), (1, .int y1)] rfl ?_
  intro p e s m below meth c ls h z X hin hpre I hl
  have hx := X.1
  have hb := X.2.1
  have hml := X.2.2.1
  have hown : s.vm.findClass "MarkupStoreModel" = some m.cls := X.2.2.2.1
  have hts := X.2.2.2.2.2.2.1
  have hK := X.2.2.2.2.2.2.2.2.1
  rw [hpre.1, hpre.2] at I
  clear hpre
  have b169 : ∀ (k5 : Int32 → Int64 → Int32 → mT → Option (mT)), (∀ (ls : Array Slot) (x1 : Int32) (x2 : Int64) (x4 : Int32) (st : mT) (H : Heap) (locs : List Loc), k5 x1 x2 x4 st = some q → lv_has ls 9 [(0, .ref r), (1, .int x1), (2, .long x2), (4, .int x4)] → hm_I D s0 s (mm_h dA h0 r M st) z0 H locs → W p l e { frames := 6, cells := 0, slots := 0, locals := 152 } s m ([.ref r, .int y1] : List Value).toArray below meth c H locs 0 0 (MQ below (ht_Q D s0 (fun vv h1 z1 => vv = none ∧ h1 = mm_h dA h0 r M q ∧ z1 = z0)) ([.ref r, .int y1] : List Value).toArray s 0 0 (fun q => s0.heap.size ≤ q)) (F0 m 5 ls [])) → ∀ (ls : Array Slot) (x1 : Int32) (x4 : Int32) (w0 : Int64) (st : mT) (H : Heap) (locs : List Loc), g_fill_169 k5 x1 x4 w0 st = some q → lv_has ls 9 [(0, .ref r), (1, .int x1), (4, .int x4)] → hm_I D s0 s (mm_h dA h0 r M st) z0 H locs → W p l e { frames := 6, cells := 0, slots := 0, locals := 152 } s m ([.ref r, .int y1] : List Value).toArray below meth c H locs 0 0 (MQ below (ht_Q D s0 (fun vv h1 z1 => vv = none ∧ h1 = mm_h dA h0 r M q ∧ z1 = z0)) ([.ref r, .int y1] : List Value).toArray s 0 0 (fun q => s0.heap.size ≤ q)) (F0 m 169 ls [.long w0]) := by
    intro k5 hk5 ls x1 x4 w0 st H locs hF hl I
    unfold g_fill_169 at hF
    refine lv_lstore_n hx hb d102_169 rfl hl (by decide) rfl (fun ls hl => ?_)
    have hl : lv_has ls 9 [(2, .long w0), (0, .ref r), (1, .int x1), (4, .int x4)] := hl
    refine lv_iinc (k := 3) (v := (x4 + 1)) hx hb d102_170 hl rfl (rfl) (by decide) rfl (fun ls hl => ?_)
    have hl : lv_has ls 9 [(4, .int (x4 + 1)), (2, .long w0), (0, .ref r), (1, .int x1)] := hl
    refine lv_goto hx hb d102_173 rfl ?_
    exact hk5 ls x1 w0 (x4 + 1) st _ _ hF (hl.sub [2, 3, 1, 0] rfl) I
  have b154 : ∀ (k5 : Int32 → Int64 → Int32 → mT → Option (mT)), (∀ (ls : Array Slot) (x1 : Int32) (x2 : Int64) (x4 : Int32) (st : mT) (H : Heap) (locs : List Loc), k5 x1 x2 x4 st = some q → lv_has ls 9 [(0, .ref r), (1, .int x1), (2, .long x2), (4, .int x4)] → hm_I D s0 s (mm_h dA h0 r M st) z0 H locs → W p l e { frames := 6, cells := 0, slots := 0, locals := 152 } s m ([.ref r, .int y1] : List Value).toArray below meth c H locs 0 0 (MQ below (ht_Q D s0 (fun vv h1 z1 => vv = none ∧ h1 = mm_h dA h0 r M q ∧ z1 = z0)) ([.ref r, .int y1] : List Value).toArray s 0 0 (fun q => s0.heap.size ≤ q)) (F0 m 5 ls [])) → ∀ (ls : Array Slot) (x1 : Int32) (x2 : Int64) (x4 : Int32) (x7 : Int32) (st : mT) (H : Heap) (locs : List Loc), g_fill_154 k5 x1 x2 x4 x7 st = some q → lv_has ls 9 [(0, .ref r), (1, .int x1), (2, .long x2), (4, .int x4), (7, .int x7)] → hm_I D s0 s (mm_h dA h0 r M st) z0 H locs → W p l e { frames := 6, cells := 0, slots := 0, locals := 152 } s m ([.ref r, .int y1] : List Value).toArray below meth c H locs 0 0 (MQ below (ht_Q D s0 (fun vv h1 z1 => vv = none ∧ h1 = mm_h dA h0 r M q ∧ z1 = z0)) ([.ref r, .int y1] : List Value).toArray s 0 0 (fun q => s0.heap.size ≤ q)) (F0 m 154 ls []) := by
    intro k5 hk5 ls x1 x2 x4 x7 st H locs hF hl I
    unfold g_fill_154 at hF
    refine lv_iload hx hb d102_154 (lv_at hl 4 rfl) ?_
    refine lv_if_eq hx hb d102_156 rfl (fun h9 => ?_) (fun h9 => ?_)
    · have hF := (if_pos h9).symm.trans hF
      refine lv_lload_n hx hb d102_168 rfl (lv_at hl 2 rfl) ?_
      exact b169 k5 hk5 ls x1 x4 x2 st _ _ hF (hl.sub [0, 1, 3] rfl) I
    · have hF := (if_neg h9).symm.trans hF
      refine lv_lload_n hx hb d102_159 rfl (lv_at hl 2 rfl) ?_
      refine lv_lconst (v := (1 : Int64)) hx hb d102_160 (by decide) ?_
      refine lv_iload hx hb d102_161 (lv_at hl 3 rfl) ?_
      refine lv_lshl (v := ((1 : Int64) <<< (x4.toInt64 &&& 63))) hx hb d102_163 rfl ?_
      refine lv_lor hx hb d102_164 ?_
      refine lv_goto hx hb d102_165 rfl ?_
      exact b169 k5 hk5 ls x1 x4 (x2 ||| ((1 : Int64) <<< (x4.toInt64 &&& 63))) st _ _ hF (hl.sub [0, 1, 3] rfl) I
  have b146 : ∀ (k5 : Int32 → Int64 → Int32 → mT → Option (mT)), (∀ (ls : Array Slot) (x1 : Int32) (x2 : Int64) (x4 : Int32) (st : mT) (H : Heap) (locs : List Loc), k5 x1 x2 x4 st = some q → lv_has ls 9 [(0, .ref r), (1, .int x1), (2, .long x2), (4, .int x4)] → hm_I D s0 s (mm_h dA h0 r M st) z0 H locs → W p l e { frames := 6, cells := 0, slots := 0, locals := 152 } s m ([.ref r, .int y1] : List Value).toArray below meth c H locs 0 0 (MQ below (ht_Q D s0 (fun vv h1 z1 => vv = none ∧ h1 = mm_h dA h0 r M q ∧ z1 = z0)) ([.ref r, .int y1] : List Value).toArray s 0 0 (fun q => s0.heap.size ≤ q)) (F0 m 5 ls [])) → ∀ (k68 : Int32 → Int64 → Int32 → Int64 → Int32 → Int32 → mT → Option (mT)), (∀ (ls : Array Slot) (x1 : Int32) (x2 : Int64) (x4 : Int32) (x5 : Int64) (x7 : Int32) (x8 : Int32) (st : mT) (H : Heap) (locs : List Loc), k68 x1 x2 x4 x5 x7 x8 st = some q → lv_has ls 9 [(0, .ref r), (1, .int x1), (2, .long x2), (4, .int x4), (5, .long x5), (7, .int x7), (8, .int x8)] → hm_I D s0 s (mm_h dA h0 r M st) z0 H locs → W p l e { frames := 6, cells := 0, slots := 0, locals := 152 } s m ([.ref r, .int y1] : List Value).toArray below meth c H locs 0 0 (MQ below (ht_Q D s0 (fun vv h1 z1 => vv = none ∧ h1 = mm_h dA h0 r M q ∧ z1 = z0)) ([.ref r, .int y1] : List Value).toArray s 0 0 (fun q => s0.heap.size ≤ q)) (F0 m 68 ls [])) → ∀ (ls : Array Slot) (x1 : Int32) (x2 : Int64) (x4 : Int32) (x5 : Int64) (x8 : Int32) (w0 : Int32) (st : mT) (H : Heap) (locs : List Loc), g_fill_146 k5 k68 x1 x2 x4 x5 x8 w0 st = some q → lv_has ls 9 [(0, .ref r), (1, .int x1), (2, .long x2), (4, .int x4), (5, .long x5), (8, .int x8)] → hm_I D s0 s (mm_h dA h0 r M st) z0 H locs → W p l e { frames := 6, cells := 0, slots := 0, locals := 152 } s m ([.ref r, .int y1] : List Value).toArray below meth c H locs 0 0 (MQ below (ht_Q D s0 (fun vv h1 z1 => vv = none ∧ h1 = mm_h dA h0 r M q ∧ z1 = z0)) ([.ref r, .int y1] : List Value).toArray s 0 0 (fun q => s0.heap.size ≤ q)) (F0 m 146 ls [.int w0]) := by
    intro k5 hk5 k68 hk68 ls x1 x2 x4 x5 x8 w0 st H locs hF hl I
    unfold g_fill_146 at hF
    refine lv_istore hx hb d102_146 hl (by decide) rfl (fun ls hl => ?_)
    have hl : lv_has ls 9 [(7, .int w0), (0, .ref r), (1, .int x1), (2, .long x2), (4, .int x4), (5, .long x5), (8, .int x8)] := hl
    refine lv_iinc (k := 6) (v := (x8 + 1)) hx hb d102_148 hl rfl (rfl) (by decide) rfl (fun ls hl => ?_)
    have hl : lv_has ls 9 [(8, .int (x8 + 1)), (7, .int w0), (0, .ref r), (1, .int x1), (2, .long x2), (4, .int x4), (5, .long x5)] := hl
    refine lv_goto hx hb d102_151 rfl ?_
    exact hk68 ls x1 x2 x4 x5 w0 (x8 + 1) st _ _ hF (hl.sub [2, 3, 4, 5, 6, 1, 0] rfl) I
  have b141 : ∀ (k5 : Int32 → Int64 → Int32 → mT → Option (mT)), (∀ (ls : Array Slot) (x1 : Int32) (x2 : Int64) (x4 : Int32) (st : mT) (H : Heap) (locs : List Loc), k5 x1 x2 x4 st = some q → lv_has ls 9 [(0, .ref r), (1, .int x1), (2, .long x2), (4, .int x4)] → hm_I D s0 s (mm_h dA h0 r M st) z0 H locs → W p l e { frames := 6, cells := 0, slots := 0, locals := 152 } s m ([.ref r, .int y1] : List Value).toArray below meth c H locs 0 0 (MQ below (ht_Q D s0 (fun vv h1 z1 => vv = none ∧ h1 = mm_h dA h0 r M q ∧ z1 = z0)) ([.ref r, .int y1] : List Value).toArray s 0 0 (fun q => s0.heap.size ≤ q)) (F0 m 5 ls [])) → ∀ (k68 : Int32 → Int64 → Int32 → Int64 → Int32 → Int32 → mT → Option (mT)), (∀ (ls : Array Slot) (x1 : Int32) (x2 : Int64) (x4 : Int32) (x5 : Int64) (x7 : Int32) (x8 : Int32) (st : mT) (H : Heap) (locs : List Loc), k68 x1 x2 x4 x5 x7 x8 st = some q → lv_has ls 9 [(0, .ref r), (1, .int x1), (2, .long x2), (4, .int x4), (5, .long x5), (7, .int x7), (8, .int x8)] → hm_I D s0 s (mm_h dA h0 r M st) z0 H locs → W p l e { frames := 6, cells := 0, slots := 0, locals := 152 } s m ([.ref r, .int y1] : List Value).toArray below meth c H locs 0 0 (MQ below (ht_Q D s0 (fun vv h1 z1 => vv = none ∧ h1 = mm_h dA h0 r M q ∧ z1 = z0)) ([.ref r, .int y1] : List Value).toArray s 0 0 (fun q => s0.heap.size ≤ q)) (F0 m 68 ls [])) → ∀ (ls : Array Slot) (x1 : Int32) (x2 : Int64) (x4 : Int32) (x5 : Int64) (x8 : Int32) (st : mT) (H : Heap) (locs : List Loc), g_fill_141 k5 k68 x1 x2 x4 x5 x8 st = some q → lv_has ls 9 [(0, .ref r), (1, .int x1), (2, .long x2), (4, .int x4), (5, .long x5), (8, .int x8)] → hm_I D s0 s (mm_h dA h0 r M st) z0 H locs → W p l e { frames := 6, cells := 0, slots := 0, locals := 152 } s m ([.ref r, .int y1] : List Value).toArray below meth c H locs 0 0 (MQ below (ht_Q D s0 (fun vv h1 z1 => vv = none ∧ h1 = mm_h dA h0 r M q ∧ z1 = z0)) ([.ref r, .int y1] : List Value).toArray s 0 0 (fun q => s0.heap.size ≤ q)) (F0 m 141 ls []) := by
    intro k5 hk5 k68 hk68 ls x1 x2 x4 x5 x8 st H locs hF hl I
    unfold g_fill_141 at hF
    refine lv_iconst (v := 1) hx hb d102_141 (by decide) ?_
    refine lv_goto hx hb d102_142 rfl ?_
    exact b146 k5 hk5 k68 hk68 ls x1 x2 x4 x5 x8 1 st _ _ hF (hl.sub [0, 1, 2, 3, 4, 5] rfl) I
  have b145 : ∀ (k5 : Int32 → Int64 → Int32 → mT → Option (mT)), (∀ (ls : Array Slot) (x1 : Int32) (x2 : Int64) (x4 : Int32) (st : mT) (H : Heap) (locs : List Loc), k5 x1 x2 x4 st = some q → lv_has ls 9 [(0, .ref r), (1, .int x1), (2, .long x2), (4, .int x4)] → hm_I D s0 s (mm_h dA h0 r M st) z0 H locs → W p l e { frames := 6, cells := 0, slots := 0, locals := 152 } s m ([.ref r, .int y1] : List Value).toArray below meth c H locs 0 0 (MQ below (ht_Q D s0 (fun vv h1 z1 => vv = none ∧ h1 = mm_h dA h0 r M q ∧ z1 = z0)) ([.ref r, .int y1] : List Value).toArray s 0 0 (fun q => s0.heap.size ≤ q)) (F0 m 5 ls [])) → ∀ (k68 : Int32 → Int64 → Int32 → Int64 → Int32 → Int32 → mT → Option (mT)), (∀ (ls : Array Slot) (x1 : Int32) (x2 : Int64) (x4 : Int32) (x5 : Int64) (x7 : Int32) (x8 : Int32) (st : mT) (H : Heap) (locs : List Loc), k68 x1 x2 x4 x5 x7 x8 st = some q → lv_has ls 9 [(0, .ref r), (1, .int x1), (2, .long x2), (4, .int x4), (5, .long x5), (7, .int x7), (8, .int x8)] → hm_I D s0 s (mm_h dA h0 r M st) z0 H locs → W p l e { frames := 6, cells := 0, slots := 0, locals := 152 } s m ([.ref r, .int y1] : List Value).toArray below meth c H locs 0 0 (MQ below (ht_Q D s0 (fun vv h1 z1 => vv = none ∧ h1 = mm_h dA h0 r M q ∧ z1 = z0)) ([.ref r, .int y1] : List Value).toArray s 0 0 (fun q => s0.heap.size ≤ q)) (F0 m 68 ls [])) → ∀ (ls : Array Slot) (x1 : Int32) (x2 : Int64) (x4 : Int32) (x5 : Int64) (x8 : Int32) (st : mT) (H : Heap) (locs : List Loc), g_fill_145 k5 k68 x1 x2 x4 x5 x8 st = some q → lv_has ls 9 [(0, .ref r), (1, .int x1), (2, .long x2), (4, .int x4), (5, .long x5), (8, .int x8)] → hm_I D s0 s (mm_h dA h0 r M st) z0 H locs → W p l e { frames := 6, cells := 0, slots := 0, locals := 152 } s m ([.ref r, .int y1] : List Value).toArray below meth c H locs 0 0 (MQ below (ht_Q D s0 (fun vv h1 z1 => vv = none ∧ h1 = mm_h dA h0 r M q ∧ z1 = z0)) ([.ref r, .int y1] : List Value).toArray s 0 0 (fun q => s0.heap.size ≤ q)) (F0 m 145 ls []) := by
    intro k5 hk5 k68 hk68 ls x1 x2 x4 x5 x8 st H locs hF hl I
    unfold g_fill_145 at hF
    refine lv_iconst (v := 0) hx hb d102_145 (by decide) ?_
    exact b146 k5 hk5 k68 hk68 ls x1 x2 x4 x5 x8 0 st _ _ hF (hl.sub [0, 1, 2, 3, 4, 5] rfl) I
  have b135 : ∀ (k5 : Int32 → Int64 → Int32 → mT → Option (mT)), (∀ (ls : Array Slot) (x1 : Int32) (x2 : Int64) (x4 : Int32) (st : mT) (H : Heap) (locs : List Loc), k5 x1 x2 x4 st = some q → lv_has ls 9 [(0, .ref r), (1, .int x1), (2, .long x2), (4, .int x4)] → hm_I D s0 s (mm_h dA h0 r M st) z0 H locs → W p l e { frames := 6, cells := 0, slots := 0, locals := 152 } s m ([.ref r, .int y1] : List Value).toArray below meth c H locs 0 0 (MQ below (ht_Q D s0 (fun vv h1 z1 => vv = none ∧ h1 = mm_h dA h0 r M q ∧ z1 = z0)) ([.ref r, .int y1] : List Value).toArray s 0 0 (fun q => s0.heap.size ≤ q)) (F0 m 5 ls [])) → ∀ (k68 : Int32 → Int64 → Int32 → Int64 → Int32 → Int32 → mT → Option (mT)), (∀ (ls : Array Slot) (x1 : Int32) (x2 : Int64) (x4 : Int32) (x5 : Int64) (x7 : Int32) (x8 : Int32) (st : mT) (H : Heap) (locs : List Loc), k68 x1 x2 x4 x5 x7 x8 st = some q → lv_has ls 9 [(0, .ref r), (1, .int x1), (2, .long x2), (4, .int x4), (5, .long x5), (7, .int x7), (8, .int x8)] → hm_I D s0 s (mm_h dA h0 r M st) z0 H locs → W p l e { frames := 6, cells := 0, slots := 0, locals := 152 } s m ([.ref r, .int y1] : List Value).toArray below meth c H locs 0 0 (MQ below (ht_Q D s0 (fun vv h1 z1 => vv = none ∧ h1 = mm_h dA h0 r M q ∧ z1 = z0)) ([.ref r, .int y1] : List Value).toArray s 0 0 (fun q => s0.heap.size ≤ q)) (F0 m 68 ls [])) → ∀ (ls : Array Slot) (x1 : Int32) (x2 : Int64) (x4 : Int32) (x5 : Int64) (x8 : Int32) (w0 : Int32) (w1 : Int32) (w2 : Int32) (w3 : Int32) (st : mT) (H : Heap) (locs : List Loc), g_fill_135 k5 k68 x1 x2 x4 x5 x8 w0 w1 w2 w3 st = some q → lv_has ls 9 [(0, .ref r), (1, .int x1), (2, .long x2), (4, .int x4), (5, .long x5), (8, .int x8)] → hm_I D s0 s (mm_h dA h0 r M st) z0 H locs → W p l e { frames := 6, cells := 0, slots := 0, locals := 152 } s m ([.ref r, .int y1] : List Value).toArray below meth c H locs 0 0 (MQ below (ht_Q D s0 (fun vv h1 z1 => vv = none ∧ h1 = mm_h dA h0 r M q ∧ z1 = z0)) ([.ref r, .int y1] : List Value).toArray s 0 0 (fun q => s0.heap.size ≤ q)) (F0 m 135 ls [.int w0, .int w1, .int w2, .int w3, .ref r]) := by
    intro k5 hk5 k68 hk68 ls x1 x2 x4 x5 x8 w0 w1 w2 w3 st H locs hF hl I
    unfold g_fill_135 at hF
    obtain ⟨q13, e9, hF⟩ := mm_bd hF
    refine ht_V (C := "MarkupStoreModel") (rest := []) (as := [.int w3, .int w2, .int w1, .int w0]) X hl (cm_reads l D dA s0 hE h0 r M hM z0 w3 w2 w1 w0 st q13 e9) (List.forall_mem_cons.mpr ⟨ms_k1752, List.forall_mem_cons.mpr ⟨ms_k1754, List.forall_mem_cons.mpr ⟨ms_p98, List.forall_mem_cons.mpr ⟨ms_k7, List.forall_mem_cons.mpr ⟨ms_k1755, fun _ h => absurd h List.not_mem_nil⟩⟩⟩⟩⟩) ⟨rfl, by decide +kernel, by decide +kernel, (by decide +kernel : (parseMethodDescriptor "(IIIZ)Z").map (fun d => d.parameters.length) = some 4)⟩ (hm_recv hK I rfl mm_hr) I ⟨rfl, rfl⟩ ⟨⟨Nat.le_of_ble_eq_true rfl, Nat.le_of_ble_eq_true rfl⟩, Nat.le_of_ble_eq_true rfl, Nat.le_of_ble_eq_true rfl⟩ rfl (Nat.le_of_ble_eq_true rfl) d102_135 (fun vv h1 z1 H locs hR I9 => ?_)
    obtain ⟨e1, e2, e3⟩ := hR
    rw [e2, e3] at I9
    clear I e2 e3 e9
    have I := I9
    clear I9
    subst e1
    refine W.eq (g2 := F0 m 138 ls [.int q13.1]) rfl ?_
    refine lv_if_eq hx hb d102_138 rfl (fun h9 => ?_) (fun h9 => ?_)
    · have hF := (if_pos h9).symm.trans hF
      exact b145 k5 hk5 k68 hk68 ls x1 x2 x4 x5 x8 q13.2 _ _ hF (hl.sub [0, 1, 2, 3, 4, 5] rfl) I
    · have hF := (if_neg h9).symm.trans hF
      exact b141 k5 hk5 k68 hk68 ls x1 x2 x4 x5 x8 q13.2 _ _ hF (hl.sub [0, 1, 2, 3, 4, 5] rfl) I
  have b68 : ∀ (k5 : Int32 → Int64 → Int32 → mT → Option (mT)), (∀ (ls : Array Slot) (x1 : Int32) (x2 : Int64) (x4 : Int32) (st : mT) (H : Heap) (locs : List Loc), k5 x1 x2 x4 st = some q → lv_has ls 9 [(0, .ref r), (1, .int x1), (2, .long x2), (4, .int x4)] → hm_I D s0 s (mm_h dA h0 r M st) z0 H locs → W p l e { frames := 6, cells := 0, slots := 0, locals := 152 } s m ([.ref r, .int y1] : List Value).toArray below meth c H locs 0 0 (MQ below (ht_Q D s0 (fun vv h1 z1 => vv = none ∧ h1 = mm_h dA h0 r M q ∧ z1 = z0)) ([.ref r, .int y1] : List Value).toArray s 0 0 (fun q => s0.heap.size ≤ q)) (F0 m 5 ls [])) → ∀ n9 : Nat, ∀ (ls : Array Slot) (x1 : Int32) (x2 : Int64) (x4 : Int32) (x5 : Int64) (x7 : Int32) (x8 : Int32) (st : mT) (H : Heap) (locs : List Loc), g_fill_68 k5 n9 x1 x2 x4 x5 x7 x8 st = some q → lv_has ls 9 [(0, .ref r), (1, .int x1), (2, .long x2), (4, .int x4), (5, .long x5), (7, .int x7), (8, .int x8)] → hm_I D s0 s (mm_h dA h0 r M st) z0 H locs → W p l e { frames := 6, cells := 0, slots := 0, locals := 152 } s m ([.ref r, .int y1] : List Value).toArray below meth c H locs 0 0 (MQ below (ht_Q D s0 (fun vv h1 z1 => vv = none ∧ h1 = mm_h dA h0 r M q ∧ z1 = z0)) ([.ref r, .int y1] : List Value).toArray s 0 0 (fun q => s0.heap.size ≤ q)) (F0 m 68 ls []) := by
    intro k5 hk5 n9
    induction n9 with
    | zero => intro ls x1 x2 x4 x5 x7 x8 st H locs hF; cases hF
    | succ n9 hk68 =>
    intro ls x1 x2 x4 x5 x7 x8 st H locs hF hl I
    unfold g_fill_68 at hF
    refine lv_iload hx hb d102_68 (lv_at hl 6 rfl) ?_
    refine lv_aload_n hx hb d102_70 rfl (lv_at hl 0 rfl) ?_
    obtain ⟨q8, e9, hF⟩ := mm_bd hF
    refine ht_V (C := "MarkupStoreModel") (rest := [.int x8]) (as := []) X hl (cm_count l D dA s0 hE h0 r M hM z0 st q8 e9) (List.forall_mem_cons.mpr ⟨ms_k1583, List.forall_mem_cons.mpr ⟨ms_k1585, List.forall_mem_cons.mpr ⟨ms_p62, List.forall_mem_cons.mpr ⟨ms_k7, List.forall_mem_cons.mpr ⟨ms_k1586, fun _ h => absurd h List.not_mem_nil⟩⟩⟩⟩⟩) ⟨rfl, by decide +kernel, by decide +kernel, (by decide +kernel : (parseMethodDescriptor "()I").map (fun d => d.parameters.length) = some 0)⟩ (hm_recv hK I rfl mm_hr) I ⟨rfl, rfl⟩ ⟨⟨Nat.le_of_ble_eq_true rfl, Nat.le_of_ble_eq_true rfl⟩, Nat.le_of_ble_eq_true rfl, Nat.le_of_ble_eq_true rfl⟩ rfl (Nat.le_of_ble_eq_true rfl) d102_71 (fun vv h1 z1 H locs hR I9 => ?_)
    obtain ⟨e1, e2, e3⟩ := hR
    rw [e2, e3] at I9
    clear I e2 e3 e9
    have I := I9
    clear I9
    subst e1
    refine W.eq (g2 := F0 m 74 ls [.int q8.1, .int x8]) rfl ?_
    refine lv_icmp_ge hx hb d102_74 rfl (fun h9 => ?_) (fun h9 => ?_)
    · have hF := (if_pos h9).symm.trans hF
      exact b154 k5 hk5 ls x1 x2 x4 x7 q8.2 _ _ hF (hl.sub [0, 1, 2, 3, 5] rfl) I
    · have hF := (if_neg h9).symm.trans hF
      refine lv_aload_n hx hb d102_77 rfl (lv_at hl 0 rfl) ?_
      refine va_get (D := D) (ci := 2) (v := .ref (M 32)) (C := kR2) (T := kT2) (N := 60) hx hb hts ku2 hown hK (hm_one I.1 mm_hr) 0 rfl rfl 32 (by decide) (hts _ ms_k1348) (fun _ h => h) rfl d102_78 ?_
      refine lv_iload_n hx hb d102_81 rfl (lv_at hl 1 rfl) ?_
      obtain ⟨v9, i9, e9, hF⟩ := mm_ld_some hF
      refine va_iald hx hb hK (hm_one I.1 (mm_a32 hM)) 0 0 rfl rfl i9 d102_82 ?_
      refine ms_top (y := v9) e9 ?_
      clear e9 i9
      refine lv_iconst (v := 4) hx hb d102_83 (by decide) ?_
      refine lv_icmp_le hx hb d102_84 rfl (fun h9 => ?_) (fun h9 => ?_)
      · have hF := (if_pos h9).symm.trans hF
        exact b154 k5 hk5 ls x1 x2 x4 x7 q8.2 _ _ hF (hl.sub [0, 1, 2, 3, 5] rfl) I
      · have hF := (if_neg h9).symm.trans hF
        refine lv_iload hx hb d102_87 (lv_at hl 5 rfl) ?_
        refine lv_if_ne hx hb d102_89 rfl (fun h9 => ?_) (fun h9 => ?_)
        · have hF := (if_neg h9).symm.trans hF
          exact b141 k5 hk5 (g_fill_68 k5 n9) hk68 ls x1 x2 x4 x5 x8 q8.2 _ _ hF (hl.sub [0, 1, 2, 3, 4, 6] rfl) I
        · have hF := (if_pos h9).symm.trans hF
          refine lv_lload hx hb d102_92 (lv_at hl 4 rfl) ?_
          refine lv_iload hx hb d102_94 (lv_at hl 6 rfl) ?_
          refine lv_lshr (v := (x5 >>> (x8.toInt64 &&& 63))) hx hb d102_96 rfl ?_
          refine lv_lconst (v := (1 : Int64)) hx hb d102_97 (by decide) ?_
          refine lv_land hx hb d102_98 ?_
          refine lv_lconst (v := (1 : Int64)) hx hb d102_99 (by decide) ?_
          refine lv_lcmp hx hb d102_100 ?_
          refine lv_if_ne hx hb d102_101 rfl (fun h9 => ?_) (fun h9 => ?_)
          · have hF := (if_neg h9).symm.trans hF
            exact b145 k5 hk5 (g_fill_68 k5 n9) hk68 ls x1 x2 x4 x5 x8 q8.2 _ _ hF (hl.sub [0, 1, 2, 3, 4, 6] rfl) I
          · have hF := (if_pos h9).symm.trans hF
            refine lv_aload_n hx hb d102_104 rfl (lv_at hl 0 rfl) ?_
            refine lv_iload hx hb d102_105 (lv_at hl 6 rfl) ?_
            refine lv_aload_n hx hb d102_107 rfl (lv_at hl 0 rfl) ?_
            refine va_get (D := D) (ci := 2) (v := .ref (M 36)) (C := kR2) (T := kT2) (N := 60) hx hb hts ku2 hown hK (hm_one I.1 mm_hr) 0 rfl rfl 36 (by decide) (hts _ ms_k1352) (fun _ h => h) rfl d102_108 ?_
            refine lv_iload_n hx hb d102_111 rfl (lv_at hl 1 rfl) ?_
            obtain ⟨v10, i9, e9, hF⟩ := mm_ld_some hF
            refine va_iald hx hb hK (hm_one I.1 (mm_a36 hM)) 0 0 rfl rfl i9 d102_112 ?_
            refine ms_top (y := v10) e9 ?_
            clear e9 i9
            refine lv_aload_n hx hb d102_113 rfl (lv_at hl 0 rfl) ?_
            refine va_get (D := D) (ci := 2) (v := .ref (M 37)) (C := kR2) (T := kT2) (N := 60) hx hb hts ku2 hown hK (hm_one I.1 mm_hr) 0 rfl rfl 37 (by decide) (hts _ ms_k1353) (fun _ h => h) rfl d102_114 ?_
            refine lv_iload_n hx hb d102_117 rfl (lv_at hl 1 rfl) ?_
            obtain ⟨v11, i9, e9, hF⟩ := mm_ld_some hF
            refine va_iald hx hb hK (hm_one I.1 (mm_a37 hM)) 0 0 rfl rfl i9 d102_118 ?_
            refine ms_top (y := v11) e9 ?_
            clear e9 i9
            refine lv_aload_n hx hb d102_119 rfl (lv_at hl 0 rfl) ?_
            refine va_get (D := D) (ci := 2) (v := .ref (M 32)) (C := kR2) (T := kT2) (N := 60) hx hb hts ku2 hown hK (hm_one I.1 mm_hr) 0 rfl rfl 32 (by decide) (hts _ ms_k1348) (fun _ h => h) rfl d102_120 ?_
            refine lv_iload_n hx hb d102_123 rfl (lv_at hl 1 rfl) ?_
            obtain ⟨v12, i9, e9, hF⟩ := mm_ld_some hF
            refine va_iald hx hb hK (hm_one I.1 (mm_a32 hM)) 0 0 rfl rfl i9 d102_124 ?_
            refine ms_top (y := v12) e9 ?_
            clear e9 i9
            refine lv_bipush (v := 6) hx hb d102_125 (by decide) ?_
            refine lv_icmp_ne hx hb d102_127 rfl (fun h9 => ?_) (fun h9 => ?_)
            · have hF := (if_neg h9).symm.trans hF
              refine lv_iconst (v := 0) hx hb d102_134 (by decide) ?_
              exact b135 k5 hk5 (g_fill_68 k5 n9) hk68 ls x1 x2 x4 x5 x8 0 v11 v10 x8 q8.2 _ _ hF (hl.sub [0, 1, 2, 3, 4, 6] rfl) I
            · have hF := (if_pos h9).symm.trans hF
              refine lv_iconst (v := 1) hx hb d102_130 (by decide) ?_
              refine lv_goto hx hb d102_131 rfl ?_
              exact b135 k5 hk5 (g_fill_68 k5 n9) hk68 ls x1 x2 x4 x5 x8 1 v11 v10 x8 q8.2 _ _ hF (hl.sub [0, 1, 2, 3, 4, 6] rfl) I
  have b63 : ∀ (k5 : Int32 → Int64 → Int32 → mT → Option (mT)), (∀ (ls : Array Slot) (x1 : Int32) (x2 : Int64) (x4 : Int32) (st : mT) (H : Heap) (locs : List Loc), k5 x1 x2 x4 st = some q → lv_has ls 9 [(0, .ref r), (1, .int x1), (2, .long x2), (4, .int x4)] → hm_I D s0 s (mm_h dA h0 r M st) z0 H locs → W p l e { frames := 6, cells := 0, slots := 0, locals := 152 } s m ([.ref r, .int y1] : List Value).toArray below meth c H locs 0 0 (MQ below (ht_Q D s0 (fun vv h1 z1 => vv = none ∧ h1 = mm_h dA h0 r M q ∧ z1 = z0)) ([.ref r, .int y1] : List Value).toArray s 0 0 (fun q => s0.heap.size ≤ q)) (F0 m 5 ls [])) → ∀ (ls : Array Slot) (x1 : Int32) (x2 : Int64) (x4 : Int32) (x5 : Int64) (w0 : Int32) (st : mT) (H : Heap) (locs : List Loc), g_fill_63 k5 x1 x2 x4 x5 w0 st = some q → lv_has ls 9 [(0, .ref r), (1, .int x1), (2, .long x2), (4, .int x4), (5, .long x5)] → hm_I D s0 s (mm_h dA h0 r M st) z0 H locs → W p l e { frames := 6, cells := 0, slots := 0, locals := 152 } s m ([.ref r, .int y1] : List Value).toArray below meth c H locs 0 0 (MQ below (ht_Q D s0 (fun vv h1 z1 => vv = none ∧ h1 = mm_h dA h0 r M q ∧ z1 = z0)) ([.ref r, .int y1] : List Value).toArray s 0 0 (fun q => s0.heap.size ≤ q)) (F0 m 63 ls [.int w0]) := by
    intro k5 hk5 ls x1 x2 x4 x5 w0 st H locs hF hl I
    unfold g_fill_63 at hF
    refine lv_istore hx hb d102_63 hl (by decide) rfl (fun ls hl => ?_)
    have hl : lv_has ls 9 [(7, .int w0), (0, .ref r), (1, .int x1), (2, .long x2), (4, .int x4), (5, .long x5)] := hl
    refine lv_iconst (v := 0) hx hb d102_65 (by decide) ?_
    refine lv_istore hx hb d102_66 hl (by decide) rfl (fun ls hl => ?_)
    have hl : lv_has ls 9 [(8, .int 0), (7, .int w0), (0, .ref r), (1, .int x1), (2, .long x2), (4, .int x4), (5, .long x5)] := hl
    exact b68 k5 hk5 mF ls x1 x2 x4 x5 w0 0 st _ _ hF (hl.sub [2, 3, 4, 5, 6, 1, 0] rfl) I
  have b62 : ∀ (k5 : Int32 → Int64 → Int32 → mT → Option (mT)), (∀ (ls : Array Slot) (x1 : Int32) (x2 : Int64) (x4 : Int32) (st : mT) (H : Heap) (locs : List Loc), k5 x1 x2 x4 st = some q → lv_has ls 9 [(0, .ref r), (1, .int x1), (2, .long x2), (4, .int x4)] → hm_I D s0 s (mm_h dA h0 r M st) z0 H locs → W p l e { frames := 6, cells := 0, slots := 0, locals := 152 } s m ([.ref r, .int y1] : List Value).toArray below meth c H locs 0 0 (MQ below (ht_Q D s0 (fun vv h1 z1 => vv = none ∧ h1 = mm_h dA h0 r M q ∧ z1 = z0)) ([.ref r, .int y1] : List Value).toArray s 0 0 (fun q => s0.heap.size ≤ q)) (F0 m 5 ls [])) → ∀ (ls : Array Slot) (x1 : Int32) (x2 : Int64) (x4 : Int32) (x5 : Int64) (st : mT) (H : Heap) (locs : List Loc), g_fill_62 k5 x1 x2 x4 x5 st = some q → lv_has ls 9 [(0, .ref r), (1, .int x1), (2, .long x2), (4, .int x4), (5, .long x5)] → hm_I D s0 s (mm_h dA h0 r M st) z0 H locs → W p l e { frames := 6, cells := 0, slots := 0, locals := 152 } s m ([.ref r, .int y1] : List Value).toArray below meth c H locs 0 0 (MQ below (ht_Q D s0 (fun vv h1 z1 => vv = none ∧ h1 = mm_h dA h0 r M q ∧ z1 = z0)) ([.ref r, .int y1] : List Value).toArray s 0 0 (fun q => s0.heap.size ≤ q)) (F0 m 62 ls []) := by
    intro k5 hk5 ls x1 x2 x4 x5 st H locs hF hl I
    unfold g_fill_62 at hF
    refine lv_iconst (v := 0) hx hb d102_62 (by decide) ?_
    exact b63 k5 hk5 ls x1 x2 x4 x5 0 st _ _ hF (hl.sub [0, 1, 2, 3, 4] rfl) I
  have b36 : ∀ (k5 : Int32 → Int64 → Int32 → mT → Option (mT)), (∀ (ls : Array Slot) (x1 : Int32) (x2 : Int64) (x4 : Int32) (st : mT) (H : Heap) (locs : List Loc), k5 x1 x2 x4 st = some q → lv_has ls 9 [(0, .ref r), (1, .int x1), (2, .long x2), (4, .int x4)] → hm_I D s0 s (mm_h dA h0 r M st) z0 H locs → W p l e { frames := 6, cells := 0, slots := 0, locals := 152 } s m ([.ref r, .int y1] : List Value).toArray below meth c H locs 0 0 (MQ below (ht_Q D s0 (fun vv h1 z1 => vv = none ∧ h1 = mm_h dA h0 r M q ∧ z1 = z0)) ([.ref r, .int y1] : List Value).toArray s 0 0 (fun q => s0.heap.size ≤ q)) (F0 m 5 ls [])) → ∀ (ls : Array Slot) (x1 : Int32) (x2 : Int64) (x4 : Int32) (w0 : Int32) (w1 : Int32) (st : mT) (H : Heap) (locs : List Loc), g_fill_36 k5 x1 x2 x4 w0 w1 st = some q → lv_has ls 9 [(0, .ref r), (1, .int x1), (2, .long x2), (4, .int x4)] → hm_I D s0 s (mm_h dA h0 r M st) z0 H locs → W p l e { frames := 6, cells := 0, slots := 0, locals := 152 } s m ([.ref r, .int y1] : List Value).toArray below meth c H locs 0 0 (MQ below (ht_Q D s0 (fun vv h1 z1 => vv = none ∧ h1 = mm_h dA h0 r M q ∧ z1 = z0)) ([.ref r, .int y1] : List Value).toArray s 0 0 (fun q => s0.heap.size ≤ q)) (F0 m 36 ls [.int w0, .int w1, .ref r]) := by
    intro k5 hk5 ls x1 x2 x4 w0 w1 st H locs hF hl I
    unfold g_fill_36 at hF
    obtain ⟨q6, e9, hF⟩ := mm_bd hF
    refine ht_V (C := "MarkupStoreModel") (rest := []) (as := [.int w1, .int w0]) X hl (cm_lead l D dA s0 hE h0 r M hM z0 w1 w0 st q6 e9) (List.forall_mem_cons.mpr ⟨ms_k1712, List.forall_mem_cons.mpr ⟨ms_k1714, List.forall_mem_cons.mpr ⟨ms_p88, List.forall_mem_cons.mpr ⟨ms_k7, List.forall_mem_cons.mpr ⟨ms_k1715, fun _ h => absurd h List.not_mem_nil⟩⟩⟩⟩⟩) ⟨rfl, by decide +kernel, by decide +kernel, (by decide +kernel : (parseMethodDescriptor "(II)J").map (fun d => d.parameters.length) = some 2)⟩ (hm_recv hK I rfl mm_hr) I ⟨rfl, rfl⟩ ⟨⟨Nat.le_of_ble_eq_true rfl, Nat.le_of_ble_eq_true rfl⟩, Nat.le_of_ble_eq_true rfl, Nat.le_of_ble_eq_true rfl⟩ rfl (Nat.le_of_ble_eq_true rfl) d102_36 (fun vv h1 z1 H locs hR I9 => ?_)
    obtain ⟨e1, e2, e3⟩ := hR
    rw [e2, e3] at I9
    clear I e2 e3 e9
    have I := I9
    clear I9
    subst e1
    refine W.eq (g2 := F0 m 39 ls [.long q6.1]) rfl ?_
    refine lv_lstore hx hb d102_39 hl (by decide) rfl (fun ls hl => ?_)
    have hl : lv_has ls 9 [(5, .long q6.1), (0, .ref r), (1, .int x1), (2, .long x2), (4, .int x4)] := hl
    refine lv_aload_n hx hb d102_41 rfl (lv_at hl 1 rfl) ?_
    refine va_get (D := D) (ci := 2) (v := .ref (M 32)) (C := kR2) (T := kT2) (N := 60) hx hb hts ku2 hown hK (hm_one I.1 mm_hr) 0 rfl rfl 32 (by decide) (hts _ ms_k1348) (fun _ h => h) rfl d102_42 ?_
    refine lv_iload_n hx hb d102_45 rfl (lv_at hl 2 rfl) ?_
    obtain ⟨v7, i9, e9, hF⟩ := mm_ld_some hF
    refine va_iald hx hb hK (hm_one I.1 (mm_a32 hM)) 0 0 rfl rfl i9 d102_46 ?_
    refine ms_top (y := v7) e9 ?_
    clear e9 i9
    refine lv_iconst (v := 4) hx hb d102_47 (by decide) ?_
    refine lv_icmp_ne hx hb d102_48 rfl (fun h9 => ?_) (fun h9 => ?_)
    · have hF := (if_neg h9).symm.trans hF
      exact b62 k5 hk5 ls x1 x2 x4 q6.1 q6.2 _ _ hF (hl.sub [1, 2, 3, 4, 0] rfl) I
    · have hF := (if_pos h9).symm.trans hF
      refine lv_lload hx hb d102_51 (lv_at hl 0 rfl) ?_
      refine lv_lconst (v := (0 : Int64)) hx hb d102_53 (by decide) ?_
      refine lv_lcmp hx hb d102_54 ?_
      refine lv_if_eq hx hb d102_55 rfl (fun h9 => ?_) (fun h9 => ?_)
      · have hF := (if_pos h9).symm.trans hF
        exact b62 k5 hk5 ls x1 x2 x4 q6.1 q6.2 _ _ hF (hl.sub [1, 2, 3, 4, 0] rfl) I
      · have hF := (if_neg h9).symm.trans hF
        refine lv_iconst (v := 1) hx hb d102_58 (by decide) ?_
        refine lv_goto hx hb d102_59 rfl ?_
        exact b63 k5 hk5 ls x1 x2 x4 q6.1 1 q6.2 _ _ hF (hl.sub [1, 2, 3, 4, 0] rfl) I
  have b5 : ∀ n9 : Nat, ∀ (ls : Array Slot) (x1 : Int32) (x2 : Int64) (x4 : Int32) (st : mT) (H : Heap) (locs : List Loc), g_fill_5 n9 x1 x2 x4 st = some q → lv_has ls 9 [(0, .ref r), (1, .int x1), (2, .long x2), (4, .int x4)] → hm_I D s0 s (mm_h dA h0 r M st) z0 H locs → W p l e { frames := 6, cells := 0, slots := 0, locals := 152 } s m ([.ref r, .int y1] : List Value).toArray below meth c H locs 0 0 (MQ below (ht_Q D s0 (fun vv h1 z1 => vv = none ∧ h1 = mm_h dA h0 r M q ∧ z1 = z0)) ([.ref r, .int y1] : List Value).toArray s 0 0 (fun q => s0.heap.size ≤ q)) (F0 m 5 ls []) := by
    intro n9
    induction n9 with
    | zero => intro ls x1 x2 x4 st H locs hF; cases hF
    | succ n9 hk5 =>
    intro ls x1 x2 x4 st H locs hF hl I
    unfold g_fill_5 at hF
    refine lv_iload hx hb d102_5 (lv_at hl 3 rfl) ?_
    refine lv_aload_n hx hb d102_7 rfl (lv_at hl 0 rfl) ?_
    obtain ⟨q1, e9, hF⟩ := mm_bd hF
    refine ht_V (C := "MarkupStoreModel") (rest := [.int x4]) (as := []) X hl (cm_count l D dA s0 hE h0 r M hM z0 st q1 e9) (List.forall_mem_cons.mpr ⟨ms_k1583, List.forall_mem_cons.mpr ⟨ms_k1585, List.forall_mem_cons.mpr ⟨ms_p62, List.forall_mem_cons.mpr ⟨ms_k7, List.forall_mem_cons.mpr ⟨ms_k1586, fun _ h => absurd h List.not_mem_nil⟩⟩⟩⟩⟩) ⟨rfl, by decide +kernel, by decide +kernel, (by decide +kernel : (parseMethodDescriptor "()I").map (fun d => d.parameters.length) = some 0)⟩ (hm_recv hK I rfl mm_hr) I ⟨rfl, rfl⟩ ⟨⟨Nat.le_of_ble_eq_true rfl, Nat.le_of_ble_eq_true rfl⟩, Nat.le_of_ble_eq_true rfl, Nat.le_of_ble_eq_true rfl⟩ rfl (Nat.le_of_ble_eq_true rfl) d102_8 (fun vv h1 z1 H locs hR I9 => ?_)
    obtain ⟨e1, e2, e3⟩ := hR
    rw [e2, e3] at I9
    clear I e2 e3 e9
    have I := I9
    clear I9
    subst e1
    refine W.eq (g2 := F0 m 11 ls [.int q1.1, .int x4]) rfl ?_
    refine lv_icmp_ge hx hb d102_11 rfl (fun h9 => ?_) (fun h9 => ?_)
    · have hF := (if_pos h9).symm.trans hF
      refine lv_aload_n hx hb d102_176 rfl (lv_at hl 0 rfl) ?_
      refine va_get (D := D) (ci := 2) (v := .ref (M 42)) (C := kR2) (T := kT2) (N := 60) hx hb hts ku2 hown hK (hm_one I.1 mm_hr) 0 rfl rfl 42 (by decide) (hts _ ms_k1358) (fun _ h => h) rfl d102_177 ?_
      refine lv_iload_n hx hb d102_180 rfl (lv_at hl 1 rfl) ?_
      refine lv_lload_n hx hb d102_181 rfl (lv_at hl 2 rfl) ?_
      obtain ⟨i9, hF⟩ := mm_ix_some hF
      obtain ⟨st2, e9, hF⟩ := mm_lt_some hF
      refine mm_last X I hM 4 rfl i9 e9 d102_182 (fun H locs I => ?_)
      clear e9 i9
      exact ht_vret X d102_183 I (Nat.le_of_ble_eq_true rfl) (Nat.le_of_ble_eq_true rfl) (mm_finV hF)
    · have hF := (if_neg h9).symm.trans hF
      refine lv_aload_n hx hb d102_14 rfl (lv_at hl 0 rfl) ?_
      refine lv_aload_n hx hb d102_15 rfl (lv_at hl 0 rfl) ?_
      refine va_get (D := D) (ci := 2) (v := .ref (M 38)) (C := kR2) (T := kT2) (N := 60) hx hb hts ku2 hown hK (hm_one I.1 mm_hr) 0 rfl rfl 38 (by decide) (hts _ ms_k1354) (fun _ h => h) rfl d102_16 ?_
      refine lv_iload_n hx hb d102_19 rfl (lv_at hl 1 rfl) ?_
      obtain ⟨v4, i9, e9, hF⟩ := mm_ld_some hF
      refine va_iald hx hb hK (hm_one I.1 (mm_a38 hM)) 0 0 rfl rfl i9 d102_20 ?_
      refine ms_top (y := v4) e9 ?_
      clear e9 i9
      refine lv_aload_n hx hb d102_21 rfl (lv_at hl 0 rfl) ?_
      refine va_get (D := D) (ci := 2) (v := .ref (M 41)) (C := kR2) (T := kT2) (N := 60) hx hb hts ku2 hown hK (hm_one I.1 mm_hr) 0 rfl rfl 41 (by decide) (hts _ ms_k1357) (fun _ h => h) rfl d102_22 ?_
      refine lv_iload_n hx hb d102_25 rfl (lv_at hl 1 rfl) ?_
      obtain ⟨v5, i9, e9, hF⟩ := mm_ld_some hF
      refine va_zald hx hb hK (hm_one I.1 (mm_a41 hM)) 0 3 rfl rfl i9 d102_26 ?_
      refine ms_top (y := v5) e9 ?_
      clear e9 i9
      refine lv_if_eq hx hb d102_27 rfl (fun h9 => ?_) (fun h9 => ?_)
      · have hF := (if_pos h9).symm.trans hF
        refine lv_iload hx hb d102_34 (lv_at hl 3 rfl) ?_
        exact b36 (g_fill_5 n9) hk5 ls x1 x2 x4 x4 v4 q1.2 _ _ hF (hl.sub [0, 1, 2, 3] rfl) I
      · have hF := (if_neg h9).symm.trans hF
        refine lv_iconst (v := (-1)) hx hb d102_30 (by decide) ?_
        refine lv_goto hx hb d102_31 rfl ?_
        exact b36 (g_fill_5 n9) hk5 ls x1 x2 x4 (-1) v4 q1.2 _ _ hF (hl.sub [0, 1, 2, 3] rfl) I
  have hF := hg
  unfold g_fill at hF
  refine lv_lconst (v := (0 : Int64)) hx hb d102_0 (by decide) ?_
  refine lv_lstore_n hx hb d102_1 rfl hl (by decide) rfl (fun ls hl => ?_)
  have hl : lv_has ls 9 [(2, .long (0 : Int64)), (0, .ref r), (1, .int y1)] := hl
  refine lv_iconst (v := 0) hx hb d102_2 (by decide) ?_
  refine lv_istore hx hb d102_3 hl (by decide) rfl (fun ls hl => ?_)
  have hl : lv_has ls 9 [(4, .int 0), (2, .long (0 : Int64)), (0, .ref r), (1, .int y1)] := hl
  exact b5 mF ls y1 (0 : Int64) 0 st _ _ hF (hl.sub [2, 3, 1, 0] rfl) I

def g_asked_129 (k77 : Int64 → Int32 → mT → Option (Int32 × mT)) (x2 : Int64) (x4 : Int32) (st : mT) : Option (Int32 × mT) := (k77 x2 (x4 + 1) st)
def g_asked_77 : Nat → Int64 → Int32 → mT → Option (Int32 × mT)
  | 0, _, _, _ => none
  | n9 + 1, x2, x4, st => ((g_count st).bind (fun q5 => (if q5.1 ≤ x4 then (some ((q5.2.1 55), q5.2)) else (if (mm_cmp ((x2 >>> (x4.toInt64 &&& 63)) &&& (1 : Int64)) (1 : Int64)) = 0 then ((g_doc x4 q5.2).bind (fun q6 => ((g_f q6.1 0 q6.2).bind (fun q7 => (mm_ix 40 (q5.2.1 55) (fun j9 => mm_lt (mm_G q7.2 56 j9 (q7.1 - 1)) (fun st8 => (mm_lt (mm_F st8 55 ((st8.1 55) + 1)) (fun st10 => (g_asked_129 (g_asked_77 n9) x2 x4 st10)))))))))) else (g_asked_129 (g_asked_77 n9) x2 x4 q5.2)))))
def g_asked_65 (w0 : Int32) (w1 : Int32) (st : mT) : Option (Int32 × mT) := ((g_lead w1 w0 st).bind (fun q3 => (mm_lt (mm_F q3.2 55 0) (fun st4 => (g_asked_77 mF q3.1 0 st4)))))
def g_asked_20 : Nat → Int32 → Int32 → mT → Option (Int32 × mT)
  | 0, _, _, _ => none
  | n9 + 1, x1, x2, st => (if (st.1 43) ≤ x2 then (if (st.1 49) = 0 then ((g_order x1 st).bind (fun q2 => (g_asked_65 q2.1 (st.1 48) q2.2))) else (g_asked_65 (-1) (st.1 48) st)) else (mm_ld (st.2.1 44) 65 x2 (fun v11 => ((g_fill v11 st).bind (fun q12 => ((g_asked_20 n9) x1 (x2 + 1) q12))))))
def g_asked (y1 : Int32) (st : mT) : Option (Int32 × mT) := ((g_readPath st).bind (fun q1 => (if (q1.1 9) < 0 then (g_asked_20 mF y1 0 q1) else (some (((-1) - (q1.1 9)), q1)))))
set_option maxRecDepth 100000 in
set_option maxHeartbeats 8000000 in
theorem cm_asked (l : Launch) (D : va_G) (dA : Nat → ClassId) (s0 : State) (hE : ms_EV D dA s0) (h0 : hm_T) (r : Nat) (M : Nat → Nat) (hM : mm_ok r M) (z0 : hz_T) (y1 : Int32) (st : mT) (q : Int32 × mT) (hg : g_asked y1 st = some q) : ht_C l D s0 yM103 bM103 5 (Option.some Jvm.ClassFile.FieldType.int) 7 180 0 0 [.ref r, .int y1] (fun h z => h = mm_h dA h0 r M st ∧ z = z0) (fun h z vv h1 z1 => vv = some (.int q.1) ∧ h1 = mm_h dA h0 r M q.2 ∧ z1 = z0) := by
  refine ht_C.mk hE.1 (by decide) (Nat.le_of_ble_eq_true rfl) [(0, .ref r), (1, .int y1)] rfl ?_
  intro p e s m below meth c ls h z X hin hpre I hl
  have hx := X.1
  have hb := X.2.1
  have hml := X.2.2.1
  have hown : s.vm.findClass "MarkupStoreModel" = some m.cls := X.2.2.2.1
  have hts := X.2.2.2.2.2.2.1
  have hK := X.2.2.2.2.2.2.2.2.1
  rw [hpre.1, hpre.2] at I
  clear hpre
  have b129 : ∀ (k77 : Int64 → Int32 → mT → Option (Int32 × mT)), (∀ (ls : Array Slot) (x2 : Int64) (x4 : Int32) (st : mT) (H : Heap) (locs : List Loc), k77 x2 x4 st = some q → lv_has ls 5 [(0, .ref r), (2, .long x2), (4, .int x4)] → hm_I D s0 s (mm_h dA h0 r M st) z0 H locs → W p l e { frames := 7, cells := 0, slots := 0, locals := 180 } s m ([.ref r, .int y1] : List Value).toArray below meth c H locs 0 0 (MQ below (ht_Q D s0 (fun vv h1 z1 => vv = some (.int q.1) ∧ h1 = mm_h dA h0 r M q.2 ∧ z1 = z0)) ([.ref r, .int y1] : List Value).toArray s 0 0 (fun q => s0.heap.size ≤ q)) (F0 m 77 ls [])) → ∀ (ls : Array Slot) (x2 : Int64) (x4 : Int32) (st : mT) (H : Heap) (locs : List Loc), g_asked_129 k77 x2 x4 st = some q → lv_has ls 5 [(0, .ref r), (2, .long x2), (4, .int x4)] → hm_I D s0 s (mm_h dA h0 r M st) z0 H locs → W p l e { frames := 7, cells := 0, slots := 0, locals := 180 } s m ([.ref r, .int y1] : List Value).toArray below meth c H locs 0 0 (MQ below (ht_Q D s0 (fun vv h1 z1 => vv = some (.int q.1) ∧ h1 = mm_h dA h0 r M q.2 ∧ z1 = z0)) ([.ref r, .int y1] : List Value).toArray s 0 0 (fun q => s0.heap.size ≤ q)) (F0 m 129 ls []) := by
    intro k77 hk77 ls x2 x4 st H locs hF hl I
    unfold g_asked_129 at hF
    refine lv_iinc (k := 2) (v := (x4 + 1)) hx hb d103_129 hl rfl (rfl) (by decide) rfl (fun ls hl => ?_)
    have hl : lv_has ls 5 [(4, .int (x4 + 1)), (0, .ref r), (2, .long x2)] := hl
    refine lv_goto hx hb d103_132 rfl ?_
    exact hk77 ls x2 (x4 + 1) st _ _ hF (hl.sub [1, 2, 0] rfl) I
  have b77 : ∀ n9 : Nat, ∀ (ls : Array Slot) (x2 : Int64) (x4 : Int32) (st : mT) (H : Heap) (locs : List Loc), g_asked_77 n9 x2 x4 st = some q → lv_has ls 5 [(0, .ref r), (2, .long x2), (4, .int x4)] → hm_I D s0 s (mm_h dA h0 r M st) z0 H locs → W p l e { frames := 7, cells := 0, slots := 0, locals := 180 } s m ([.ref r, .int y1] : List Value).toArray below meth c H locs 0 0 (MQ below (ht_Q D s0 (fun vv h1 z1 => vv = some (.int q.1) ∧ h1 = mm_h dA h0 r M q.2 ∧ z1 = z0)) ([.ref r, .int y1] : List Value).toArray s 0 0 (fun q => s0.heap.size ≤ q)) (F0 m 77 ls []) := by
    intro n9
    induction n9 with
    | zero => intro ls x2 x4 st H locs hF; cases hF
    | succ n9 hk77 =>
    intro ls x2 x4 st H locs hF hl I
    unfold g_asked_77 at hF
    refine lv_iload hx hb d103_77 (lv_at hl 2 rfl) ?_
    refine lv_aload_n hx hb d103_79 rfl (lv_at hl 0 rfl) ?_
    obtain ⟨q5, e9, hF⟩ := mm_bd hF
    refine ht_V (C := "MarkupStoreModel") (rest := [.int x4]) (as := []) X hl (cm_count l D dA s0 hE h0 r M hM z0 st q5 e9) (List.forall_mem_cons.mpr ⟨ms_k1583, List.forall_mem_cons.mpr ⟨ms_k1585, List.forall_mem_cons.mpr ⟨ms_p62, List.forall_mem_cons.mpr ⟨ms_k7, List.forall_mem_cons.mpr ⟨ms_k1586, fun _ h => absurd h List.not_mem_nil⟩⟩⟩⟩⟩) ⟨rfl, by decide +kernel, by decide +kernel, (by decide +kernel : (parseMethodDescriptor "()I").map (fun d => d.parameters.length) = some 0)⟩ (hm_recv hK I rfl mm_hr) I ⟨rfl, rfl⟩ ⟨⟨Nat.le_of_ble_eq_true rfl, Nat.le_of_ble_eq_true rfl⟩, Nat.le_of_ble_eq_true rfl, Nat.le_of_ble_eq_true rfl⟩ rfl (Nat.le_of_ble_eq_true rfl) d103_80 (fun vv h1 z1 H locs hR I9 => ?_)
    obtain ⟨e1, e2, e3⟩ := hR
    rw [e2, e3] at I9
    clear I e2 e3 e9
    have I := I9
    clear I9
    subst e1
    refine W.eq (g2 := F0 m 83 ls [.int q5.1, .int x4]) rfl ?_
    refine lv_icmp_ge hx hb d103_83 rfl (fun h9 => ?_) (fun h9 => ?_)
    · have hF := (if_pos h9).symm.trans hF
      refine lv_aload_n hx hb d103_135 rfl (lv_at hl 0 rfl) ?_
      refine va_get (D := D) (ci := 2) (v := .int (q5.2.1 55)) (C := kR2) (T := kT2) (N := 60) hx hb hts ku2 hown hK (hm_one I.1 mm_hr) 0 rfl rfl 55 (by decide) (hts _ ms_k1371) (fun _ h => h) rfl d103_136 ?_
      exact ht_iret X d103_139 I (Nat.le_of_ble_eq_true rfl) (Nat.le_of_ble_eq_true rfl) (mm_fin hF)
    · have hF := (if_neg h9).symm.trans hF
      refine lv_lload_n hx hb d103_86 rfl (lv_at hl 1 rfl) ?_
      refine lv_iload hx hb d103_87 (lv_at hl 2 rfl) ?_
      refine lv_lshr (v := (x2 >>> (x4.toInt64 &&& 63))) hx hb d103_89 rfl ?_
      refine lv_lconst (v := (1 : Int64)) hx hb d103_90 (by decide) ?_
      refine lv_land hx hb d103_91 ?_
      refine lv_lconst (v := (1 : Int64)) hx hb d103_92 (by decide) ?_
      refine lv_lcmp hx hb d103_93 ?_
      refine lv_if_ne hx hb d103_94 rfl (fun h9 => ?_) (fun h9 => ?_)
      · have hF := (if_neg h9).symm.trans hF
        exact b129 (g_asked_77 n9) hk77 ls x2 x4 q5.2 _ _ hF (hl.sub [0, 1, 2] rfl) I
      · have hF := (if_pos h9).symm.trans hF
        refine lv_aload_n hx hb d103_97 rfl (lv_at hl 0 rfl) ?_
        refine va_get (D := D) (ci := 2) (v := .ref (M 56)) (C := kR2) (T := kT2) (N := 60) hx hb hts ku2 hown hK (hm_one I.1 mm_hr) 0 rfl rfl 56 (by decide) (hts _ ms_k1372) (fun _ h => h) rfl d103_98 ?_
        refine lv_aload_n hx hb d103_101 rfl (lv_at hl 0 rfl) ?_
        refine va_get (D := D) (ci := 2) (v := .int (q5.2.1 55)) (C := kR2) (T := kT2) (N := 60) hx hb hts ku2 hown hK (hm_one I.1 mm_hr) 0 rfl rfl 55 (by decide) (hts _ ms_k1371) (fun _ h => h) rfl d103_102 ?_
        refine lv_aload_n hx hb d103_105 rfl (lv_at hl 0 rfl) ?_
        refine lv_aload_n hx hb d103_106 rfl (lv_at hl 0 rfl) ?_
        refine lv_iload hx hb d103_107 (lv_at hl 2 rfl) ?_
        obtain ⟨q6, e9, hF⟩ := mm_bd hF
        refine ht_V (C := "MarkupStoreModel") (rest := [.ref r, .int (q5.2.1 55), .ref (M 56)]) (as := [.int x4]) X hl (cm_doc l D dA s0 hE h0 r M hM z0 x4 q5.2 q6 e9) (List.forall_mem_cons.mpr ⟨ms_k1607, List.forall_mem_cons.mpr ⟨ms_k1609, List.forall_mem_cons.mpr ⟨ms_p67, List.forall_mem_cons.mpr ⟨ms_k7, List.forall_mem_cons.mpr ⟨ms_k1610, fun _ h => absurd h List.not_mem_nil⟩⟩⟩⟩⟩) ⟨rfl, by decide +kernel, by decide +kernel, (by decide +kernel : (parseMethodDescriptor "(I)I").map (fun d => d.parameters.length) = some 1)⟩ (hm_recv hK I rfl mm_hr) I ⟨rfl, rfl⟩ ⟨⟨Nat.le_of_ble_eq_true rfl, Nat.le_of_ble_eq_true rfl⟩, Nat.le_of_ble_eq_true rfl, Nat.le_of_ble_eq_true rfl⟩ rfl (Nat.le_of_ble_eq_true rfl) d103_109 (fun vv h1 z1 H locs hR I9 => ?_)
        obtain ⟨e1, e2, e3⟩ := hR
        rw [e2, e3] at I9
        clear I e2 e3 e9
        have I := I9
        clear I9
        subst e1
        refine W.eq (g2 := F0 m 112 ls [.int q6.1, .ref r, .int (q5.2.1 55), .ref (M 56)]) rfl ?_
        refine lv_iconst (v := 0) hx hb d103_112 (by decide) ?_
        obtain ⟨q7, e9, hF⟩ := mm_bd hF
        refine ht_V (C := "MarkupStoreModel") (rest := [.int (q5.2.1 55), .ref (M 56)]) (as := [.int q6.1, .int 0]) X hl (cm_f l D dA s0 hE h0 r M hM z0 q6.1 0 q6.2 q7 e9) (List.forall_mem_cons.mpr ⟨ms_k1587, List.forall_mem_cons.mpr ⟨ms_k1589, List.forall_mem_cons.mpr ⟨ms_p63, List.forall_mem_cons.mpr ⟨ms_k7, List.forall_mem_cons.mpr ⟨ms_k1590, fun _ h => absurd h List.not_mem_nil⟩⟩⟩⟩⟩) ⟨rfl, by decide +kernel, by decide +kernel, (by decide +kernel : (parseMethodDescriptor "(II)I").map (fun d => d.parameters.length) = some 2)⟩ (hm_recv hK I rfl mm_hr) I ⟨rfl, rfl⟩ ⟨⟨Nat.le_of_ble_eq_true rfl, Nat.le_of_ble_eq_true rfl⟩, Nat.le_of_ble_eq_true rfl, Nat.le_of_ble_eq_true rfl⟩ rfl (Nat.le_of_ble_eq_true rfl) d103_113 (fun vv h1 z1 H locs hR I9 => ?_)
        obtain ⟨e1, e2, e3⟩ := hR
        rw [e2, e3] at I9
        clear I e2 e3 e9
        have I := I9
        clear I9
        subst e1
        refine W.eq (g2 := F0 m 116 ls [.int q7.1, .int (q5.2.1 55), .ref (M 56)]) rfl ?_
        refine lv_iconst (v := 1) hx hb d103_116 (by decide) ?_
        refine lv_isub hx hb d103_117 ?_
        obtain ⟨i9, hF⟩ := mm_ix_some hF
        obtain ⟨st8, e9, hF⟩ := mm_lt_some hF
        refine mm_iast (k := 56) X I hM (by decide) 0 (fun _ => rfl) rfl i9 e9 d103_118 (fun H locs I => ?_)
        clear e9 i9
        refine lv_aload_n hx hb d103_119 rfl (lv_at hl 0 rfl) ?_
        refine lv_dup hx hb d103_120 rfl ?_
        refine va_get (D := D) (ci := 2) (v := .int (st8.1 55)) (C := kR2) (T := kT2) (N := 60) hx hb hts ku2 hown hK (hm_one I.1 mm_hr) 0 rfl rfl 55 (by decide) (hts _ ms_k1371) (fun _ h => h) rfl d103_121 ?_
        refine lv_iconst (v := 1) hx hb d103_124 (by decide) ?_
        refine lv_iadd hx hb d103_125 ?_
        obtain ⟨st10, e9, hF⟩ := mm_lt_some hF
        refine mm_put (k := 55) (ty := .int) X I (by decide) ms_k1371 rfl rfl (by decide +kernel) ⟨rfl, rfl⟩ rfl e9 d103_126 (fun H locs I => ?_)
        clear e9
        exact b129 (g_asked_77 n9) hk77 ls x2 x4 st10 _ _ hF (hl.sub [0, 1, 2] rfl) I
  have b65 : ∀ (ls : Array Slot) (w0 : Int32) (w1 : Int32) (st : mT) (H : Heap) (locs : List Loc), g_asked_65 w0 w1 st = some q → lv_has ls 5 [(0, .ref r)] → hm_I D s0 s (mm_h dA h0 r M st) z0 H locs → W p l e { frames := 7, cells := 0, slots := 0, locals := 180 } s m ([.ref r, .int y1] : List Value).toArray below meth c H locs 0 0 (MQ below (ht_Q D s0 (fun vv h1 z1 => vv = some (.int q.1) ∧ h1 = mm_h dA h0 r M q.2 ∧ z1 = z0)) ([.ref r, .int y1] : List Value).toArray s 0 0 (fun q => s0.heap.size ≤ q)) (F0 m 65 ls [.int w0, .int w1, .ref r]) := by
    intro ls w0 w1 st H locs hF hl I
    unfold g_asked_65 at hF
    obtain ⟨q3, e9, hF⟩ := mm_bd hF
    refine ht_V (C := "MarkupStoreModel") (rest := []) (as := [.int w1, .int w0]) X hl (cm_lead l D dA s0 hE h0 r M hM z0 w1 w0 st q3 e9) (List.forall_mem_cons.mpr ⟨ms_k1712, List.forall_mem_cons.mpr ⟨ms_k1714, List.forall_mem_cons.mpr ⟨ms_p88, List.forall_mem_cons.mpr ⟨ms_k7, List.forall_mem_cons.mpr ⟨ms_k1715, fun _ h => absurd h List.not_mem_nil⟩⟩⟩⟩⟩) ⟨rfl, by decide +kernel, by decide +kernel, (by decide +kernel : (parseMethodDescriptor "(II)J").map (fun d => d.parameters.length) = some 2)⟩ (hm_recv hK I rfl mm_hr) I ⟨rfl, rfl⟩ ⟨⟨Nat.le_of_ble_eq_true rfl, Nat.le_of_ble_eq_true rfl⟩, Nat.le_of_ble_eq_true rfl, Nat.le_of_ble_eq_true rfl⟩ rfl (Nat.le_of_ble_eq_true rfl) d103_65 (fun vv h1 z1 H locs hR I9 => ?_)
    obtain ⟨e1, e2, e3⟩ := hR
    rw [e2, e3] at I9
    clear I e2 e3 e9
    have I := I9
    clear I9
    subst e1
    refine W.eq (g2 := F0 m 68 ls [.long q3.1]) rfl ?_
    refine lv_lstore_n hx hb d103_68 rfl hl (by decide) rfl (fun ls hl => ?_)
    have hl : lv_has ls 5 [(2, .long q3.1), (0, .ref r)] := hl
    refine lv_aload_n hx hb d103_69 rfl (lv_at hl 1 rfl) ?_
    refine lv_iconst (v := 0) hx hb d103_70 (by decide) ?_
    obtain ⟨st4, e9, hF⟩ := mm_lt_some hF
    refine mm_put (k := 55) (ty := .int) X I (by decide) ms_k1371 rfl rfl (by decide +kernel) ⟨rfl, rfl⟩ rfl e9 d103_71 (fun H locs I => ?_)
    clear e9
    refine lv_iconst (v := 0) hx hb d103_74 (by decide) ?_
    refine lv_istore hx hb d103_75 hl (by decide) rfl (fun ls hl => ?_)
    have hl : lv_has ls 5 [(4, .int 0), (2, .long q3.1), (0, .ref r)] := hl
    exact b77 mF ls q3.1 0 st4 _ _ hF (hl.sub [2, 1, 0] rfl) I
  have b20 : ∀ n9 : Nat, ∀ (ls : Array Slot) (x1 : Int32) (x2 : Int32) (st : mT) (H : Heap) (locs : List Loc), g_asked_20 n9 x1 x2 st = some q → lv_has ls 5 [(0, .ref r), (1, .int x1), (2, .int x2)] → hm_I D s0 s (mm_h dA h0 r M st) z0 H locs → W p l e { frames := 7, cells := 0, slots := 0, locals := 180 } s m ([.ref r, .int y1] : List Value).toArray below meth c H locs 0 0 (MQ below (ht_Q D s0 (fun vv h1 z1 => vv = some (.int q.1) ∧ h1 = mm_h dA h0 r M q.2 ∧ z1 = z0)) ([.ref r, .int y1] : List Value).toArray s 0 0 (fun q => s0.heap.size ≤ q)) (F0 m 20 ls []) := by
    intro n9
    induction n9 with
    | zero => intro ls x1 x2 st H locs hF; cases hF
    | succ n9 hk20 =>
    intro ls x1 x2 st H locs hF hl I
    unfold g_asked_20 at hF
    refine lv_iload_n hx hb d103_20 rfl (lv_at hl 2 rfl) ?_
    refine lv_aload_n hx hb d103_21 rfl (lv_at hl 0 rfl) ?_
    refine va_get (D := D) (ci := 2) (v := .int (st.1 43)) (C := kR2) (T := kT2) (N := 60) hx hb hts ku2 hown hK (hm_one I.1 mm_hr) 0 rfl rfl 43 (by decide) (hts _ ms_k1359) (fun _ h => h) rfl d103_22 ?_
    refine lv_icmp_ge hx hb d103_25 rfl (fun h9 => ?_) (fun h9 => ?_)
    · have hF := (if_pos h9).symm.trans hF
      refine lv_aload_n hx hb d103_44 rfl (lv_at hl 0 rfl) ?_
      refine lv_aload_n hx hb d103_45 rfl (lv_at hl 0 rfl) ?_
      refine va_get (D := D) (ci := 2) (v := .int (st.1 48)) (C := kR2) (T := kT2) (N := 60) hx hb hts ku2 hown hK (hm_one I.1 mm_hr) 0 rfl rfl 48 (by decide) (hts _ ms_k1364) (fun _ h => h) rfl d103_46 ?_
      refine lv_aload_n hx hb d103_49 rfl (lv_at hl 0 rfl) ?_
      refine va_get (D := D) (ci := 2) (v := .int (st.1 49)) (C := kR2) (T := kT2) (N := 60) hx hb hts ku2 hown hK (hm_one I.1 mm_hr) 0 rfl rfl 49 (by decide) (hts _ ms_k1365) (fun _ h => h) rfl d103_50 ?_
      refine lv_if_eq hx hb d103_53 rfl (fun h9 => ?_) (fun h9 => ?_)
      · have hF := (if_pos h9).symm.trans hF
        refine lv_aload_n hx hb d103_60 rfl (lv_at hl 0 rfl) ?_
        refine lv_iload_n hx hb d103_61 rfl (lv_at hl 1 rfl) ?_
        obtain ⟨q2, e9, hF⟩ := mm_bd hF
        refine ht_V (C := "MarkupStoreModel") (rest := [.int (st.1 48), .ref r]) (as := [.int x1]) X hl (cm_order l D dA s0 hE h0 r M hM z0 x1 st q2 e9) (List.forall_mem_cons.mpr ⟨ms_k1623, List.forall_mem_cons.mpr ⟨ms_k1625, List.forall_mem_cons.mpr ⟨ms_p71, List.forall_mem_cons.mpr ⟨ms_k7, List.forall_mem_cons.mpr ⟨ms_k1626, fun _ h => absurd h List.not_mem_nil⟩⟩⟩⟩⟩) ⟨rfl, by decide +kernel, by decide +kernel, (by decide +kernel : (parseMethodDescriptor "(I)I").map (fun d => d.parameters.length) = some 1)⟩ (hm_recv hK I rfl mm_hr) I ⟨rfl, rfl⟩ ⟨⟨Nat.le_of_ble_eq_true rfl, Nat.le_of_ble_eq_true rfl⟩, Nat.le_of_ble_eq_true rfl, Nat.le_of_ble_eq_true rfl⟩ rfl (Nat.le_of_ble_eq_true rfl) d103_62 (fun vv h1 z1 H locs hR I9 => ?_)
        obtain ⟨e1, e2, e3⟩ := hR
        rw [e2, e3] at I9
        clear I e2 e3 e9
        have I := I9
        clear I9
        subst e1
        refine W.eq (g2 := F0 m 65 ls [.int q2.1, .int (st.1 48), .ref r]) rfl ?_
        exact b65 ls q2.1 (st.1 48) q2.2 _ _ hF (hl.sub [0] rfl) I
      · have hF := (if_neg h9).symm.trans hF
        refine lv_iconst (v := (-1)) hx hb d103_56 (by decide) ?_
        refine lv_goto hx hb d103_57 rfl ?_
        exact b65 ls (-1) (st.1 48) st _ _ hF (hl.sub [0] rfl) I
    · have hF := (if_neg h9).symm.trans hF
      refine lv_aload_n hx hb d103_28 rfl (lv_at hl 0 rfl) ?_
      refine lv_aload_n hx hb d103_29 rfl (lv_at hl 0 rfl) ?_
      refine va_get (D := D) (ci := 2) (v := .ref (M 44)) (C := kR2) (T := kT2) (N := 60) hx hb hts ku2 hown hK (hm_one I.1 mm_hr) 0 rfl rfl 44 (by decide) (hts _ ms_k1360) (fun _ h => h) rfl d103_30 ?_
      refine lv_iload_n hx hb d103_33 rfl (lv_at hl 2 rfl) ?_
      obtain ⟨v11, i9, e9, hF⟩ := mm_ld_some hF
      refine va_iald hx hb hK (hm_one I.1 (mm_a44 hM)) 0 0 rfl rfl i9 d103_34 ?_
      refine ms_top (y := v11) e9 ?_
      clear e9 i9
      obtain ⟨q12, e9, hF⟩ := mm_bd hF
      refine ht_V (C := "MarkupStoreModel") (rest := []) (as := [.int v11]) X hl (cm_fill l D dA s0 hE h0 r M hM z0 v11 st q12 e9) (List.forall_mem_cons.mpr ⟨ms_k1708, List.forall_mem_cons.mpr ⟨ms_k1710, List.forall_mem_cons.mpr ⟨ms_p87, List.forall_mem_cons.mpr ⟨ms_k7, List.forall_mem_cons.mpr ⟨ms_k1711, fun _ h => absurd h List.not_mem_nil⟩⟩⟩⟩⟩) ⟨rfl, by decide +kernel, by decide +kernel, (by decide +kernel : (parseMethodDescriptor "(I)V").map (fun d => d.parameters.length) = some 1)⟩ (hm_recv hK I rfl mm_hr) I ⟨rfl, rfl⟩ ⟨⟨Nat.le_of_ble_eq_true rfl, Nat.le_of_ble_eq_true rfl⟩, Nat.le_of_ble_eq_true rfl, Nat.le_of_ble_eq_true rfl⟩ rfl (Nat.le_of_ble_eq_true rfl) d103_35 (fun vv h1 z1 H locs hR I9 => ?_)
      obtain ⟨e1, e2, e3⟩ := hR
      rw [e2, e3] at I9
      clear I e2 e3 e9
      have I := I9
      clear I9
      subst e1
      refine W.eq (g2 := F0 m 38 ls []) rfl ?_
      refine lv_iinc (k := 2) (v := (x2 + 1)) hx hb d103_38 hl rfl (rfl) (by decide) rfl (fun ls hl => ?_)
      have hl : lv_has ls 5 [(2, .int (x2 + 1)), (0, .ref r), (1, .int x1)] := hl
      refine lv_goto hx hb d103_41 rfl ?_
      exact hk20 ls x1 (x2 + 1) q12 _ _ hF (hl.sub [1, 2, 0] rfl) I
  have hF := hg
  unfold g_asked at hF
  refine lv_aload_n hx hb d103_0 rfl (lv_at hl 0 rfl) ?_
  obtain ⟨q1, e9, hF⟩ := mm_bd hF
  refine ht_V (C := "MarkupStoreModel") (rest := []) (as := []) X hl (cm_readPath l D dA s0 hE h0 r M hM z0 st q1 e9) (List.forall_mem_cons.mpr ⟨ms_k1674, List.forall_mem_cons.mpr ⟨ms_k1676, List.forall_mem_cons.mpr ⟨ms_p80, List.forall_mem_cons.mpr ⟨ms_k7, List.forall_mem_cons.mpr ⟨ms_k1677, fun _ h => absurd h List.not_mem_nil⟩⟩⟩⟩⟩) ⟨rfl, by decide +kernel, by decide +kernel, (by decide +kernel : (parseMethodDescriptor "()V").map (fun d => d.parameters.length) = some 0)⟩ (hm_recv hK I rfl mm_hr) I ⟨rfl, rfl⟩ ⟨⟨Nat.le_of_ble_eq_true rfl, Nat.le_of_ble_eq_true rfl⟩, Nat.le_of_ble_eq_true rfl, Nat.le_of_ble_eq_true rfl⟩ rfl (Nat.le_of_ble_eq_true rfl) d103_1 (fun vv h1 z1 H locs hR I9 => ?_)
  obtain ⟨e1, e2, e3⟩ := hR
  rw [e2, e3] at I9
  clear I e2 e3 e9
  have I := I9
  clear I9
  subst e1
  refine W.eq (g2 := F0 m 4 ls []) rfl ?_
  refine lv_aload_n hx hb d103_4 rfl (lv_at hl 0 rfl) ?_
  refine va_get (D := D) (ci := 2) (v := .int (q1.1 9)) (C := kR2) (T := kT2) (N := 60) hx hb hts ku2 hown hK (hm_one I.1 mm_hr) 0 rfl rfl 9 (by decide) (hts _ ms_k1325) (fun _ h => h) rfl d103_5 ?_
  refine lv_if_lt hx hb d103_8 rfl (fun h9 => ?_) (fun h9 => ?_)
  · have hF := (if_pos h9).symm.trans hF
    refine lv_iconst (v := 0) hx hb d103_18 (by decide) ?_
    refine lv_istore_n hx hb d103_19 rfl hl (by decide) rfl (fun ls hl => ?_)
    have hl : lv_has ls 5 [(2, .int 0), (0, .ref r), (1, .int y1)] := hl
    exact b20 mF ls y1 0 q1 _ _ hF (hl.sub [1, 2, 0] rfl) I
  · have hF := (if_neg h9).symm.trans hF
    refine lv_iconst (v := (-1)) hx hb d103_11 (by decide) ?_
    refine lv_aload_n hx hb d103_12 rfl (lv_at hl 0 rfl) ?_
    refine va_get (D := D) (ci := 2) (v := .int (q1.1 9)) (C := kR2) (T := kT2) (N := 60) hx hb hts ku2 hown hK (hm_one I.1 mm_hr) 0 rfl rfl 9 (by decide) (hts _ ms_k1325) (fun _ h => h) rfl d103_13 ?_
    refine lv_isub hx hb d103_16 ?_
    exact ht_iret X d103_17 I (Nat.le_of_ble_eq_true rfl) (Nat.le_of_ble_eq_true rfl) (mm_fin hF)

def g_query_21 (w0 : Int32) (st : mT) : Option (Int32 × mT) := (mm_lt (mm_F st 7 0) (fun st3 => (some (w0, st3))))
def g_query (y1 : Int32) (st : mT) : Option (Int32 × mT) := ((g_place y1 st).bind (fun q1 => (if 0 ≤ q1.1 then ((g_asked q1.1 q1.2).bind (fun q2 => (g_query_21 q2.1 q2.2))) else (g_query_21 (-1000) q1.2))))
set_option maxRecDepth 100000 in
set_option maxHeartbeats 8000000 in
theorem cm_query (l : Launch) (D : va_G) (dA : Nat → ClassId) (s0 : State) (hE : ms_EV D dA s0) (h0 : hm_T) (r : Nat) (M : Nat → Nat) (hM : mm_ok r M) (z0 : hz_T) (y1 : Int32) (st : mT) (q : Int32 × mT) (hg : g_query y1 st = some q) : ht_C l D s0 yM104 bM104 4 (Option.some Jvm.ClassFile.FieldType.int) 8 204 0 0 [.ref r, .int y1] (fun h z => h = mm_h dA h0 r M st ∧ z = z0) (fun h z vv h1 z1 => vv = some (.int q.1) ∧ h1 = mm_h dA h0 r M q.2 ∧ z1 = z0) := by
  refine ht_C.mk hE.1 (by decide) (Nat.le_of_ble_eq_true rfl) [(0, .ref r), (1, .int y1)] rfl ?_
  intro p e s m below meth c ls h z X hin hpre I hl
  have hx := X.1
  have hb := X.2.1
  have hml := X.2.2.1
  have hown : s.vm.findClass "MarkupStoreModel" = some m.cls := X.2.2.2.1
  have hts := X.2.2.2.2.2.2.1
  have hK := X.2.2.2.2.2.2.2.2.1
  rw [hpre.1, hpre.2] at I
  clear hpre
  have b21 : ∀ (ls : Array Slot) (w0 : Int32) (st : mT) (H : Heap) (locs : List Loc), g_query_21 w0 st = some q → lv_has ls 4 [(0, .ref r)] → hm_I D s0 s (mm_h dA h0 r M st) z0 H locs → W p l e { frames := 8, cells := 0, slots := 0, locals := 204 } s m ([.ref r, .int y1] : List Value).toArray below meth c H locs 0 0 (MQ below (ht_Q D s0 (fun vv h1 z1 => vv = some (.int q.1) ∧ h1 = mm_h dA h0 r M q.2 ∧ z1 = z0)) ([.ref r, .int y1] : List Value).toArray s 0 0 (fun q => s0.heap.size ≤ q)) (F0 m 21 ls [.int w0]) := by
    intro ls w0 st H locs hF hl I
    unfold g_query_21 at hF
    refine lv_istore_n hx hb d104_21 rfl hl (by decide) rfl (fun ls hl => ?_)
    have hl : lv_has ls 4 [(3, .int w0), (0, .ref r)] := hl
    refine lv_aload_n hx hb d104_22 rfl (lv_at hl 1 rfl) ?_
    refine lv_iconst (v := 0) hx hb d104_23 (by decide) ?_
    obtain ⟨st3, e9, hF⟩ := mm_lt_some hF
    refine mm_put (k := 7) (ty := .int) X I (by decide) ms_k1323 rfl rfl (by decide +kernel) ⟨rfl, rfl⟩ rfl e9 d104_24 (fun H locs I => ?_)
    clear e9
    refine lv_iload_n hx hb d104_27 rfl (lv_at hl 0 rfl) ?_
    exact ht_iret X d104_28 I (Nat.le_of_ble_eq_true rfl) (Nat.le_of_ble_eq_true rfl) (mm_fin hF)
  have hF := hg
  unfold g_query at hF
  refine lv_aload_n hx hb d104_0 rfl (lv_at hl 0 rfl) ?_
  refine lv_iload_n hx hb d104_1 rfl (lv_at hl 1 rfl) ?_
  obtain ⟨q1, e9, hF⟩ := mm_bd hF
  refine ht_V (C := "MarkupStoreModel") (rest := []) (as := [.int y1]) X hl (cm_place l D dA s0 hE h0 r M hM z0 y1 st q1 e9) (List.forall_mem_cons.mpr ⟨ms_k1603, List.forall_mem_cons.mpr ⟨ms_k1605, List.forall_mem_cons.mpr ⟨ms_p66, List.forall_mem_cons.mpr ⟨ms_k7, List.forall_mem_cons.mpr ⟨ms_k1606, fun _ h => absurd h List.not_mem_nil⟩⟩⟩⟩⟩) ⟨rfl, by decide +kernel, by decide +kernel, (by decide +kernel : (parseMethodDescriptor "(I)I").map (fun d => d.parameters.length) = some 1)⟩ (hm_recv hK I rfl mm_hr) I ⟨rfl, rfl⟩ ⟨⟨Nat.le_of_ble_eq_true rfl, Nat.le_of_ble_eq_true rfl⟩, Nat.le_of_ble_eq_true rfl, Nat.le_of_ble_eq_true rfl⟩ rfl (Nat.le_of_ble_eq_true rfl) d104_2 (fun vv h1 z1 H locs hR I9 => ?_)
  obtain ⟨e1, e2, e3⟩ := hR
  rw [e2, e3] at I9
  clear I e2 e3 e9
  have I := I9
  clear I9
  subst e1
  refine W.eq (g2 := F0 m 5 ls [.int q1.1]) rfl ?_
  refine lv_istore_n hx hb d104_5 rfl hl (by decide) rfl (fun ls hl => ?_)
  have hl : lv_has ls 4 [(2, .int q1.1), (0, .ref r), (1, .int y1)] := hl
  refine lv_iload_n hx hb d104_6 rfl (lv_at hl 0 rfl) ?_
  refine lv_if_ge hx hb d104_7 rfl (fun h9 => ?_) (fun h9 => ?_)
  · have hF := (if_pos h9).symm.trans hF
    refine lv_aload_n hx hb d104_16 rfl (lv_at hl 1 rfl) ?_
    refine lv_iload_n hx hb d104_17 rfl (lv_at hl 0 rfl) ?_
    obtain ⟨q2, e9, hF⟩ := mm_bd hF
    refine ht_V (C := "MarkupStoreModel") (rest := []) (as := [.int q1.1]) X hl (cm_asked l D dA s0 hE h0 r M hM z0 q1.1 q1.2 q2 e9) (List.forall_mem_cons.mpr ⟨ms_k1670, List.forall_mem_cons.mpr ⟨ms_k1672, List.forall_mem_cons.mpr ⟨ms_p79, List.forall_mem_cons.mpr ⟨ms_k7, List.forall_mem_cons.mpr ⟨ms_k1673, fun _ h => absurd h List.not_mem_nil⟩⟩⟩⟩⟩) ⟨rfl, by decide +kernel, by decide +kernel, (by decide +kernel : (parseMethodDescriptor "(I)I").map (fun d => d.parameters.length) = some 1)⟩ (hm_recv hK I rfl mm_hr) I ⟨rfl, rfl⟩ ⟨⟨Nat.le_of_ble_eq_true rfl, Nat.le_of_ble_eq_true rfl⟩, Nat.le_of_ble_eq_true rfl, Nat.le_of_ble_eq_true rfl⟩ rfl (Nat.le_of_ble_eq_true rfl) d104_18 (fun vv h1 z1 H locs hR I9 => ?_)
    obtain ⟨e1, e2, e3⟩ := hR
    rw [e2, e3] at I9
    clear I e2 e3 e9
    have I := I9
    clear I9
    subst e1
    refine W.eq (g2 := F0 m 21 ls [.int q2.1]) rfl ?_
    exact b21 ls q2.1 q2.2 _ _ hF (hl.sub [1] rfl) I
  · have hF := (if_neg h9).symm.trans hF
    refine lv_sipush (v := (-1000)) hx hb d104_10 (by decide) ?_
    refine lv_goto hx hb d104_13 rfl ?_
    exact b21 ls (-1000) q1.2 _ _ hF (hl.sub [1] rfl) I

def g_result_21 (st : mT) : Option (Int32 × mT) := (some ((-1000), st))
def g_result (y1 : Int32) (st : mT) : Option (Int32 × mT) := (if y1 < 0 then (g_result_21 st) else (if (st.1 55) ≤ y1 then (g_result_21 st) else (mm_ld (st.2.1 56) 40 y1 (fun v1 => (some (v1, st))))))
set_option maxRecDepth 100000 in
set_option maxHeartbeats 8000000 in
theorem cm_result (l : Launch) (D : va_G) (dA : Nat → ClassId) (s0 : State) (hE : ms_EV D dA s0) (h0 : hm_T) (r : Nat) (M : Nat → Nat) (hM : mm_ok r M) (z0 : hz_T) (y1 : Int32) (st : mT) (q : Int32 × mT) (hg : g_result y1 st = some q) : ht_C l D s0 yM105 bM105 2 (Option.some Jvm.ClassFile.FieldType.int) 0 0 0 0 [.ref r, .int y1] (fun h z => h = mm_h dA h0 r M st ∧ z = z0) (fun h z vv h1 z1 => vv = some (.int q.1) ∧ h1 = mm_h dA h0 r M q.2 ∧ z1 = z0) := by
  refine ht_C.mk hE.1 (by decide) (Nat.le_of_ble_eq_true rfl) [(0, .ref r), (1, .int y1)] rfl ?_
  intro p e s m below meth c ls h z X hin hpre I hl
  have hx := X.1
  have hb := X.2.1
  have hml := X.2.2.1
  have hown : s.vm.findClass "MarkupStoreModel" = some m.cls := X.2.2.2.1
  have hts := X.2.2.2.2.2.2.1
  have hK := X.2.2.2.2.2.2.2.2.1
  rw [hpre.1, hpre.2] at I
  clear hpre
  have b21 : ∀ (ls : Array Slot) (st : mT) (H : Heap) (locs : List Loc), g_result_21 st = some q → lv_has ls 2 [] → hm_I D s0 s (mm_h dA h0 r M st) z0 H locs → W p l e { frames := 0, cells := 0, slots := 0, locals := 0 } s m ([.ref r, .int y1] : List Value).toArray below meth c H locs 0 0 (MQ below (ht_Q D s0 (fun vv h1 z1 => vv = some (.int q.1) ∧ h1 = mm_h dA h0 r M q.2 ∧ z1 = z0)) ([.ref r, .int y1] : List Value).toArray s 0 0 (fun q => s0.heap.size ≤ q)) (F0 m 21 ls []) := by
    intro ls st H locs hF hl I
    unfold g_result_21 at hF
    refine lv_sipush (v := (-1000)) hx hb d105_21 (by decide) ?_
    exact ht_iret X d105_24 I (Nat.le_of_ble_eq_true rfl) (Nat.le_of_ble_eq_true rfl) (mm_fin hF)
  have hF := hg
  unfold g_result at hF
  refine lv_iload_n hx hb d105_0 rfl (lv_at hl 1 rfl) ?_
  refine lv_if_lt hx hb d105_1 rfl (fun h9 => ?_) (fun h9 => ?_)
  · have hF := (if_pos h9).symm.trans hF
    exact b21 ls st _ _ hF (hl.sub [] rfl) I
  · have hF := (if_neg h9).symm.trans hF
    refine lv_iload_n hx hb d105_4 rfl (lv_at hl 1 rfl) ?_
    refine lv_aload_n hx hb d105_5 rfl (lv_at hl 0 rfl) ?_
    refine va_get (D := D) (ci := 2) (v := .int (st.1 55)) (C := kR2) (T := kT2) (N := 60) hx hb hts ku2 hown hK (hm_one I.1 mm_hr) 0 rfl rfl 55 (by decide) (hts _ ms_k1371) (fun _ h => h) rfl d105_6 ?_
    refine lv_icmp_ge hx hb d105_9 rfl (fun h9 => ?_) (fun h9 => ?_)
    · have hF := (if_pos h9).symm.trans hF
      exact b21 ls st _ _ hF (hl.sub [] rfl) I
    · have hF := (if_neg h9).symm.trans hF
      refine lv_aload_n hx hb d105_12 rfl (lv_at hl 0 rfl) ?_
      refine va_get (D := D) (ci := 2) (v := .ref (M 56)) (C := kR2) (T := kT2) (N := 60) hx hb hts ku2 hown hK (hm_one I.1 mm_hr) 0 rfl rfl 56 (by decide) (hts _ ms_k1372) (fun _ h => h) rfl d105_13 ?_
      refine lv_iload_n hx hb d105_16 rfl (lv_at hl 1 rfl) ?_
      obtain ⟨v1, i9, e9, hF⟩ := mm_ld_some hF
      refine va_iald hx hb hK (hm_one I.1 (mm_a56 hM)) 0 0 rfl rfl i9 d105_17 ?_
      refine ms_top (y := v1) e9 ?_
      clear e9 i9
      refine lv_goto hx hb d105_18 rfl ?_
      exact ht_iret X d105_24 I (Nat.le_of_ble_eq_true rfl) (Nat.le_of_ble_eq_true rfl) (mm_fin hF)

def g_commit (st : mT) : Option (Int32 × mT) := ((g_save st).bind (fun q1 => (some ((st.1 5), q1))))
set_option maxRecDepth 100000 in
set_option maxHeartbeats 8000000 in
theorem cm_commit (l : Launch) (D : va_G) (dA : Nat → ClassId) (s0 : State) (hE : ms_EV D dA s0) (h0 : hm_T) (r : Nat) (M : Nat → Nat) (hM : mm_ok r M) (z0 : hz_T) (st : mT) (q : Int32 × mT) (hg : g_commit st = some q) : ht_C l D s0 yM106 bM106 2 (Option.some Jvm.ClassFile.FieldType.int) 1 21 0 0 [.ref r] (fun h z => h = mm_h dA h0 r M st ∧ z = z0) (fun h z vv h1 z1 => vv = some (.int q.1) ∧ h1 = mm_h dA h0 r M q.2 ∧ z1 = z0) := by
  refine ht_C.mk hE.1 (by decide) (Nat.le_of_ble_eq_true rfl) [(0, .ref r)] rfl ?_
  intro p e s m below meth c ls h z X hin hpre I hl
  have hx := X.1
  have hb := X.2.1
  have hml := X.2.2.1
  have hown : s.vm.findClass "MarkupStoreModel" = some m.cls := X.2.2.2.1
  have hts := X.2.2.2.2.2.2.1
  have hK := X.2.2.2.2.2.2.2.2.1
  rw [hpre.1, hpre.2] at I
  clear hpre
  have hF := hg
  unfold g_commit at hF
  refine lv_aload_n hx hb d106_0 rfl (lv_at hl 0 rfl) ?_
  refine va_get (D := D) (ci := 2) (v := .int (st.1 5)) (C := kR2) (T := kT2) (N := 60) hx hb hts ku2 hown hK (hm_one I.1 mm_hr) 0 rfl rfl 5 (by decide) (hts _ ms_k1321) (fun _ h => h) rfl d106_1 ?_
  refine lv_istore_n hx hb d106_4 rfl hl (by decide) rfl (fun ls hl => ?_)
  have hl : lv_has ls 2 [(1, .int (st.1 5)), (0, .ref r)] := hl
  refine lv_aload_n hx hb d106_5 rfl (lv_at hl 1 rfl) ?_
  obtain ⟨q1, e9, hF⟩ := mm_bd hF
  refine ht_V (C := "MarkupStoreModel") (rest := []) (as := []) X hl (cm_save l D dA s0 hE h0 r M hM z0 st q1 e9) (List.forall_mem_cons.mpr ⟨ms_k1595, List.forall_mem_cons.mpr ⟨ms_k1597, List.forall_mem_cons.mpr ⟨ms_p65, List.forall_mem_cons.mpr ⟨ms_k7, List.forall_mem_cons.mpr ⟨ms_k1598, fun _ h => absurd h List.not_mem_nil⟩⟩⟩⟩⟩) ⟨rfl, by decide +kernel, by decide +kernel, (by decide +kernel : (parseMethodDescriptor "()V").map (fun d => d.parameters.length) = some 0)⟩ (hm_recv hK I rfl mm_hr) I ⟨rfl, rfl⟩ ⟨⟨Nat.le_of_ble_eq_true rfl, Nat.le_of_ble_eq_true rfl⟩, Nat.le_of_ble_eq_true rfl, Nat.le_of_ble_eq_true rfl⟩ rfl (Nat.le_of_ble_eq_true rfl) d106_6 (fun vv h1 z1 H locs hR I9 => ?_)
  obtain ⟨e1, e2, e3⟩ := hR
  rw [e2, e3] at I9
  clear I e2 e3 e9
  have I := I9
  clear I9
  subst e1
  refine W.eq (g2 := F0 m 9 ls []) rfl ?_
  refine lv_iload_n hx hb d106_9 rfl (lv_at hl 0 rfl) ?_
  exact ht_iret X d106_10 I (Nat.le_of_ble_eq_true rfl) (Nat.le_of_ble_eq_true rfl) (mm_fin hF)

def g_crash_7 : Nat → Int32 → Int32 → mT → Option (Int32 × mT)
  | 0, _, _, _ => none
  | n9 + 1, x1, x2, st => (if 5161 ≤ x2 then (mm_lt (mm_F st 5 0) (fun st1 => (mm_lt (mm_F st1 7 0) (fun st2 => (some (x1, st2)))))) else (mm_ld (st.2.1 1) 5161 x2 (fun v3 => (mm_ix 5161 x2 (fun j5 => mm_lt (mm_G st 0 j5 v3) (fun st4 => ((g_crash_7 n9) x1 (x2 + 1) st4)))))))
def g_crash (st : mT) : Option (Int32 × mT) := (g_crash_7 mF (st.1 5) 0 st)
set_option maxRecDepth 100000 in
set_option maxHeartbeats 8000000 in
theorem cm_crash (l : Launch) (D : va_G) (dA : Nat → ClassId) (s0 : State) (hE : ms_EV D dA s0) (h0 : hm_T) (r : Nat) (M : Nat → Nat) (hM : mm_ok r M) (z0 : hz_T) (st : mT) (q : Int32 × mT) (hg : g_crash st = some q) : ht_C l D s0 yM107 bM107 3 (Option.some Jvm.ClassFile.FieldType.int) 0 0 0 0 [.ref r] (fun h z => h = mm_h dA h0 r M st ∧ z = z0) (fun h z vv h1 z1 => vv = some (.int q.1) ∧ h1 = mm_h dA h0 r M q.2 ∧ z1 = z0) := by
  refine ht_C.mk hE.1 (by decide) (Nat.le_of_ble_eq_true rfl) [(0, .ref r)] rfl ?_
  intro p e s m below meth c ls h z X hin hpre I hl
  have hx := X.1
  have hb := X.2.1
  have hml := X.2.2.1
  have hown : s.vm.findClass "MarkupStoreModel" = some m.cls := X.2.2.2.1
  have hts := X.2.2.2.2.2.2.1
  have hK := X.2.2.2.2.2.2.2.2.1
  rw [hpre.1, hpre.2] at I
  clear hpre
  have b7 : ∀ n9 : Nat, ∀ (ls : Array Slot) (x1 : Int32) (x2 : Int32) (st : mT) (H : Heap) (locs : List Loc), g_crash_7 n9 x1 x2 st = some q → lv_has ls 3 [(0, .ref r), (1, .int x1), (2, .int x2)] → hm_I D s0 s (mm_h dA h0 r M st) z0 H locs → W p l e { frames := 0, cells := 0, slots := 0, locals := 0 } s m ([.ref r] : List Value).toArray below meth c H locs 0 0 (MQ below (ht_Q D s0 (fun vv h1 z1 => vv = some (.int q.1) ∧ h1 = mm_h dA h0 r M q.2 ∧ z1 = z0)) ([.ref r] : List Value).toArray s 0 0 (fun q => s0.heap.size ≤ q)) (F0 m 7 ls []) := by
    intro n9
    induction n9 with
    | zero => intro ls x1 x2 st H locs hF; cases hF
    | succ n9 hk7 =>
    intro ls x1 x2 st H locs hF hl I
    unfold g_crash_7 at hF
    refine lv_iload_n hx hb d107_7 rfl (lv_at hl 2 rfl) ?_
    refine lv_sipush (v := 5161) hx hb d107_8 (by decide) ?_
    refine lv_icmp_ge hx hb d107_11 rfl (fun h9 => ?_) (fun h9 => ?_)
    · have hF := (if_pos h9).symm.trans hF
      refine lv_aload_n hx hb d107_32 rfl (lv_at hl 0 rfl) ?_
      refine lv_iconst (v := 0) hx hb d107_33 (by decide) ?_
      obtain ⟨st1, e9, hF⟩ := mm_lt_some hF
      refine mm_put (k := 5) (ty := .int) X I (by decide) ms_k1321 rfl rfl (by decide +kernel) ⟨rfl, rfl⟩ rfl e9 d107_34 (fun H locs I => ?_)
      clear e9
      refine lv_aload_n hx hb d107_37 rfl (lv_at hl 0 rfl) ?_
      refine lv_iconst (v := 0) hx hb d107_38 (by decide) ?_
      obtain ⟨st2, e9, hF⟩ := mm_lt_some hF
      refine mm_put (k := 7) (ty := .int) X I (by decide) ms_k1323 rfl rfl (by decide +kernel) ⟨rfl, rfl⟩ rfl e9 d107_39 (fun H locs I => ?_)
      clear e9
      refine lv_iload_n hx hb d107_42 rfl (lv_at hl 1 rfl) ?_
      exact ht_iret X d107_43 I (Nat.le_of_ble_eq_true rfl) (Nat.le_of_ble_eq_true rfl) (mm_fin hF)
    · have hF := (if_neg h9).symm.trans hF
      refine lv_aload_n hx hb d107_14 rfl (lv_at hl 0 rfl) ?_
      refine va_get (D := D) (ci := 2) (v := .ref (M 0)) (C := kR2) (T := kT2) (N := 60) hx hb hts ku2 hown hK (hm_one I.1 mm_hr) 0 rfl rfl 0 (by decide) (hts _ ms_k1316) (fun _ h => h) rfl d107_15 ?_
      refine lv_iload_n hx hb d107_18 rfl (lv_at hl 2 rfl) ?_
      refine lv_aload_n hx hb d107_19 rfl (lv_at hl 0 rfl) ?_
      refine va_get (D := D) (ci := 2) (v := .ref (M 1)) (C := kR2) (T := kT2) (N := 60) hx hb hts ku2 hown hK (hm_one I.1 mm_hr) 0 rfl rfl 1 (by decide) (hts _ ms_k1317) (fun _ h => h) rfl d107_20 ?_
      refine lv_iload_n hx hb d107_23 rfl (lv_at hl 2 rfl) ?_
      obtain ⟨v3, i9, e9, hF⟩ := mm_ld_some hF
      refine va_iald hx hb hK (hm_one I.1 (mm_a1 hM)) 0 0 rfl rfl i9 d107_24 ?_
      refine ms_top (y := v3) e9 ?_
      clear e9 i9
      obtain ⟨i9, hF⟩ := mm_ix_some hF
      obtain ⟨st4, e9, hF⟩ := mm_lt_some hF
      refine mm_iast (k := 0) X I hM (by decide) 0 (fun _ => rfl) rfl i9 e9 d107_25 (fun H locs I => ?_)
      clear e9 i9
      refine lv_iinc (k := 2) (v := (x2 + 1)) hx hb d107_26 hl rfl (rfl) (by decide) rfl (fun ls hl => ?_)
      have hl : lv_has ls 3 [(2, .int (x2 + 1)), (0, .ref r), (1, .int x1)] := hl
      refine lv_goto hx hb d107_29 rfl ?_
      exact hk7 ls x1 (x2 + 1) st4 _ _ hF (hl.sub [1, 2, 0] rfl) I
  have hF := hg
  unfold g_crash at hF
  refine lv_aload_n hx hb d107_0 rfl (lv_at hl 0 rfl) ?_
  refine va_get (D := D) (ci := 2) (v := .int (st.1 5)) (C := kR2) (T := kT2) (N := 60) hx hb hts ku2 hown hK (hm_one I.1 mm_hr) 0 rfl rfl 5 (by decide) (hts _ ms_k1321) (fun _ h => h) rfl d107_1 ?_
  refine lv_istore_n hx hb d107_4 rfl hl (by decide) rfl (fun ls hl => ?_)
  have hl : lv_has ls 3 [(1, .int (st.1 5)), (0, .ref r)] := hl
  refine lv_iconst (v := 0) hx hb d107_5 (by decide) ?_
  refine lv_istore_n hx hb d107_6 rfl hl (by decide) rfl (fun ls hl => ?_)
  have hl : lv_has ls 3 [(2, .int 0), (1, .int (st.1 5)), (0, .ref r)] := hl
  exact b7 mF ls (st.1 5) 0 st _ _ hF (hl.sub [2, 1, 0] rfl) I

def g_kind (y1 : Int32) (st : mT) : Option (Int32 × mT) := ((g_place y1 st).bind (fun q1 => (if 0 ≤ q1.1 then ((g_f q1.1 1 q1.2).bind (fun q2 => (some (q2.1, q2.2)))) else (some ((-1000), q1.2)))))
set_option maxRecDepth 100000 in
set_option maxHeartbeats 8000000 in
theorem cm_kind (l : Launch) (D : va_G) (dA : Nat → ClassId) (s0 : State) (hE : ms_EV D dA s0) (h0 : hm_T) (r : Nat) (M : Nat → Nat) (hM : mm_ok r M) (z0 : hz_T) (y1 : Int32) (st : mT) (q : Int32 × mT) (hg : g_kind y1 st = some q) : ht_C l D s0 yM108 bM108 3 (Option.some Jvm.ClassFile.FieldType.int) 2 44 0 0 [.ref r, .int y1] (fun h z => h = mm_h dA h0 r M st ∧ z = z0) (fun h z vv h1 z1 => vv = some (.int q.1) ∧ h1 = mm_h dA h0 r M q.2 ∧ z1 = z0) := by
  refine ht_C.mk hE.1 (by decide) (Nat.le_of_ble_eq_true rfl) [(0, .ref r), (1, .int y1)] rfl ?_
  intro p e s m below meth c ls h z X hin hpre I hl
  have hx := X.1
  have hb := X.2.1
  have hml := X.2.2.1
  have hown : s.vm.findClass "MarkupStoreModel" = some m.cls := X.2.2.2.1
  have hts := X.2.2.2.2.2.2.1
  have hK := X.2.2.2.2.2.2.2.2.1
  rw [hpre.1, hpre.2] at I
  clear hpre
  have hF := hg
  unfold g_kind at hF
  refine lv_aload_n hx hb d108_0 rfl (lv_at hl 0 rfl) ?_
  refine lv_iload_n hx hb d108_1 rfl (lv_at hl 1 rfl) ?_
  obtain ⟨q1, e9, hF⟩ := mm_bd hF
  refine ht_V (C := "MarkupStoreModel") (rest := []) (as := [.int y1]) X hl (cm_place l D dA s0 hE h0 r M hM z0 y1 st q1 e9) (List.forall_mem_cons.mpr ⟨ms_k1603, List.forall_mem_cons.mpr ⟨ms_k1605, List.forall_mem_cons.mpr ⟨ms_p66, List.forall_mem_cons.mpr ⟨ms_k7, List.forall_mem_cons.mpr ⟨ms_k1606, fun _ h => absurd h List.not_mem_nil⟩⟩⟩⟩⟩) ⟨rfl, by decide +kernel, by decide +kernel, (by decide +kernel : (parseMethodDescriptor "(I)I").map (fun d => d.parameters.length) = some 1)⟩ (hm_recv hK I rfl mm_hr) I ⟨rfl, rfl⟩ ⟨⟨Nat.le_of_ble_eq_true rfl, Nat.le_of_ble_eq_true rfl⟩, Nat.le_of_ble_eq_true rfl, Nat.le_of_ble_eq_true rfl⟩ rfl (Nat.le_of_ble_eq_true rfl) d108_2 (fun vv h1 z1 H locs hR I9 => ?_)
  obtain ⟨e1, e2, e3⟩ := hR
  rw [e2, e3] at I9
  clear I e2 e3 e9
  have I := I9
  clear I9
  subst e1
  refine W.eq (g2 := F0 m 5 ls [.int q1.1]) rfl ?_
  refine lv_istore_n hx hb d108_5 rfl hl (by decide) rfl (fun ls hl => ?_)
  have hl : lv_has ls 3 [(2, .int q1.1), (0, .ref r), (1, .int y1)] := hl
  refine lv_iload_n hx hb d108_6 rfl (lv_at hl 0 rfl) ?_
  refine lv_if_ge hx hb d108_7 rfl (fun h9 => ?_) (fun h9 => ?_)
  · have hF := (if_pos h9).symm.trans hF
    refine lv_aload_n hx hb d108_16 rfl (lv_at hl 1 rfl) ?_
    refine lv_iload_n hx hb d108_17 rfl (lv_at hl 0 rfl) ?_
    refine lv_iconst (v := 1) hx hb d108_18 (by decide) ?_
    obtain ⟨q2, e9, hF⟩ := mm_bd hF
    refine ht_V (C := "MarkupStoreModel") (rest := []) (as := [.int q1.1, .int 1]) X hl (cm_f l D dA s0 hE h0 r M hM z0 q1.1 1 q1.2 q2 e9) (List.forall_mem_cons.mpr ⟨ms_k1587, List.forall_mem_cons.mpr ⟨ms_k1589, List.forall_mem_cons.mpr ⟨ms_p63, List.forall_mem_cons.mpr ⟨ms_k7, List.forall_mem_cons.mpr ⟨ms_k1590, fun _ h => absurd h List.not_mem_nil⟩⟩⟩⟩⟩) ⟨rfl, by decide +kernel, by decide +kernel, (by decide +kernel : (parseMethodDescriptor "(II)I").map (fun d => d.parameters.length) = some 2)⟩ (hm_recv hK I rfl mm_hr) I ⟨rfl, rfl⟩ ⟨⟨Nat.le_of_ble_eq_true rfl, Nat.le_of_ble_eq_true rfl⟩, Nat.le_of_ble_eq_true rfl, Nat.le_of_ble_eq_true rfl⟩ rfl (Nat.le_of_ble_eq_true rfl) d108_19 (fun vv h1 z1 H locs hR I9 => ?_)
    obtain ⟨e1, e2, e3⟩ := hR
    rw [e2, e3] at I9
    clear I e2 e3 e9
    have I := I9
    clear I9
    subst e1
    refine W.eq (g2 := F0 m 22 ls [.int q2.1]) rfl ?_
    exact ht_iret X d108_22 I (Nat.le_of_ble_eq_true rfl) (Nat.le_of_ble_eq_true rfl) (mm_fin hF)
  · have hF := (if_neg h9).symm.trans hF
    refine lv_sipush (v := (-1000)) hx hb d108_10 (by decide) ?_
    refine lv_goto hx hb d108_13 rfl ?_
    exact ht_iret X d108_22 I (Nat.le_of_ble_eq_true rfl) (Nat.le_of_ble_eq_true rfl) (mm_fin hF)

def g_kids_65 (k23 : Int32 → Int32 → Int32 → Int32 → Int32 → mT → Option (Int32 × mT)) (x1 : Int32) (x2 : Int32) (x4 : Int32) (x5 : Int32) (w0 : Int32) (st : mT) : Option (Int32 × mT) := (k23 x1 x2 w0 x4 (x5 + 1) st)
def g_kids_55 (k23 : Int32 → Int32 → Int32 → Int32 → Int32 → mT → Option (Int32 × mT)) (x1 : Int32) (x2 : Int32) (x3 : Int32) (x4 : Int32) (x5 : Int32) (w0 : Int32) (w1 : Int32) (st : mT) : Option (Int32 × mT) := (if w1 = w0 then (g_kids_65 k23 x1 x2 x4 x5 (x3 + 1) st) else (g_kids_65 k23 x1 x2 x4 x5 x3 st))
def g_kids_23 : Nat → Int32 → Int32 → Int32 → Int32 → Int32 → mT → Option (Int32 × mT)
  | 0, _, _, _, _, _, _ => none
  | n9 + 1, x1, x2, x3, x4, x5, st => (if x4 ≤ x5 then (some (x3, st)) else ((g_doc x5 st).bind (fun q2 => ((g_f q2.1 2 q2.2).bind (fun q3 => (if x2 = 0 then ((g_f x1 2 q3.2).bind (fun q4 => (g_kids_55 (g_kids_23 n9) x1 x2 x3 x4 x5 q4.1 q3.1 q4.2))) else (g_kids_55 (g_kids_23 n9) x1 x2 x3 x4 x5 x1 q3.1 q3.2)))))))
def g_kids_18 (x1 : Int32) (x2 : Int32) (x3 : Int32) (w0 : Int32) (st : mT) : Option (Int32 × mT) := (g_kids_23 mF x1 x2 x3 w0 0 st)
def g_kids (y1 : Int32) (y2 : Int32) (st : mT) : Option (Int32 × mT) := (if y2 = 0 then ((g_order y1 st).bind (fun q1 => (g_kids_18 y1 y2 0 q1.1 q1.2))) else ((g_count st).bind (fun q5 => (g_kids_18 y1 y2 0 q5.1 q5.2))))
set_option maxRecDepth 100000 in
set_option maxHeartbeats 8000000 in
theorem cm_kids (l : Launch) (D : va_G) (dA : Nat → ClassId) (s0 : State) (hE : ms_EV D dA s0) (h0 : hm_T) (r : Nat) (M : Nat → Nat) (hM : mm_ok r M) (z0 : hz_T) (y1 : Int32) (y2 : Int32) (st : mT) (q : Int32 × mT) (hg : g_kids y1 y2 st = some q) : ht_C l D s0 yM109 bM109 6 (Option.some Jvm.ClassFile.FieldType.int) 2 43 0 0 [.ref r, .int y1, .int y2] (fun h z => h = mm_h dA h0 r M st ∧ z = z0) (fun h z vv h1 z1 => vv = some (.int q.1) ∧ h1 = mm_h dA h0 r M q.2 ∧ z1 = z0) := by
  refine ht_C.mk hE.1 (by decide) (Nat.le_of_ble_eq_true rfl) [(0, .ref r), (1, .int y1), (2, .int y2)] rfl ?_
  intro p e s m below meth c ls h z X hin hpre I hl
  have hx := X.1
  have hb := X.2.1
  have hml := X.2.2.1
  have hown : s.vm.findClass "MarkupStoreModel" = some m.cls := X.2.2.2.1
  have hts := X.2.2.2.2.2.2.1
  have hK := X.2.2.2.2.2.2.2.2.1
  rw [hpre.1, hpre.2] at I
  clear hpre
  have b65 : ∀ (k23 : Int32 → Int32 → Int32 → Int32 → Int32 → mT → Option (Int32 × mT)), (∀ (ls : Array Slot) (x1 : Int32) (x2 : Int32) (x3 : Int32) (x4 : Int32) (x5 : Int32) (st : mT) (H : Heap) (locs : List Loc), k23 x1 x2 x3 x4 x5 st = some q → lv_has ls 6 [(0, .ref r), (1, .int x1), (2, .int x2), (3, .int x3), (4, .int x4), (5, .int x5)] → hm_I D s0 s (mm_h dA h0 r M st) z0 H locs → W p l e { frames := 2, cells := 0, slots := 0, locals := 43 } s m ([.ref r, .int y1, .int y2] : List Value).toArray below meth c H locs 0 0 (MQ below (ht_Q D s0 (fun vv h1 z1 => vv = some (.int q.1) ∧ h1 = mm_h dA h0 r M q.2 ∧ z1 = z0)) ([.ref r, .int y1, .int y2] : List Value).toArray s 0 0 (fun q => s0.heap.size ≤ q)) (F0 m 23 ls [])) → ∀ (ls : Array Slot) (x1 : Int32) (x2 : Int32) (x4 : Int32) (x5 : Int32) (w0 : Int32) (st : mT) (H : Heap) (locs : List Loc), g_kids_65 k23 x1 x2 x4 x5 w0 st = some q → lv_has ls 6 [(0, .ref r), (1, .int x1), (2, .int x2), (4, .int x4), (5, .int x5)] → hm_I D s0 s (mm_h dA h0 r M st) z0 H locs → W p l e { frames := 2, cells := 0, slots := 0, locals := 43 } s m ([.ref r, .int y1, .int y2] : List Value).toArray below meth c H locs 0 0 (MQ below (ht_Q D s0 (fun vv h1 z1 => vv = some (.int q.1) ∧ h1 = mm_h dA h0 r M q.2 ∧ z1 = z0)) ([.ref r, .int y1, .int y2] : List Value).toArray s 0 0 (fun q => s0.heap.size ≤ q)) (F0 m 65 ls [.int w0]) := by
    intro k23 hk23 ls x1 x2 x4 x5 w0 st H locs hF hl I
    unfold g_kids_65 at hF
    refine lv_istore_n hx hb d109_65 rfl hl (by decide) rfl (fun ls hl => ?_)
    have hl : lv_has ls 6 [(3, .int w0), (0, .ref r), (1, .int x1), (2, .int x2), (4, .int x4), (5, .int x5)] := hl
    refine lv_iinc (k := 5) (v := (x5 + 1)) hx hb d109_66 hl rfl (rfl) (by decide) rfl (fun ls hl => ?_)
    have hl : lv_has ls 6 [(5, .int (x5 + 1)), (3, .int w0), (0, .ref r), (1, .int x1), (2, .int x2), (4, .int x4)] := hl
    refine lv_goto hx hb d109_69 rfl ?_
    exact hk23 ls x1 x2 w0 x4 (x5 + 1) st _ _ hF (hl.sub [2, 3, 4, 1, 5, 0] rfl) I
  have b55 : ∀ (k23 : Int32 → Int32 → Int32 → Int32 → Int32 → mT → Option (Int32 × mT)), (∀ (ls : Array Slot) (x1 : Int32) (x2 : Int32) (x3 : Int32) (x4 : Int32) (x5 : Int32) (st : mT) (H : Heap) (locs : List Loc), k23 x1 x2 x3 x4 x5 st = some q → lv_has ls 6 [(0, .ref r), (1, .int x1), (2, .int x2), (3, .int x3), (4, .int x4), (5, .int x5)] → hm_I D s0 s (mm_h dA h0 r M st) z0 H locs → W p l e { frames := 2, cells := 0, slots := 0, locals := 43 } s m ([.ref r, .int y1, .int y2] : List Value).toArray below meth c H locs 0 0 (MQ below (ht_Q D s0 (fun vv h1 z1 => vv = some (.int q.1) ∧ h1 = mm_h dA h0 r M q.2 ∧ z1 = z0)) ([.ref r, .int y1, .int y2] : List Value).toArray s 0 0 (fun q => s0.heap.size ≤ q)) (F0 m 23 ls [])) → ∀ (ls : Array Slot) (x1 : Int32) (x2 : Int32) (x3 : Int32) (x4 : Int32) (x5 : Int32) (w0 : Int32) (w1 : Int32) (st : mT) (H : Heap) (locs : List Loc), g_kids_55 k23 x1 x2 x3 x4 x5 w0 w1 st = some q → lv_has ls 6 [(0, .ref r), (1, .int x1), (2, .int x2), (3, .int x3), (4, .int x4), (5, .int x5)] → hm_I D s0 s (mm_h dA h0 r M st) z0 H locs → W p l e { frames := 2, cells := 0, slots := 0, locals := 43 } s m ([.ref r, .int y1, .int y2] : List Value).toArray below meth c H locs 0 0 (MQ below (ht_Q D s0 (fun vv h1 z1 => vv = some (.int q.1) ∧ h1 = mm_h dA h0 r M q.2 ∧ z1 = z0)) ([.ref r, .int y1, .int y2] : List Value).toArray s 0 0 (fun q => s0.heap.size ≤ q)) (F0 m 55 ls [.int w0, .int w1]) := by
    intro k23 hk23 ls x1 x2 x3 x4 x5 w0 w1 st H locs hF hl I
    unfold g_kids_55 at hF
    refine lv_icmp_ne hx hb d109_55 rfl (fun h9 => ?_) (fun h9 => ?_)
    · have hF := (if_neg h9).symm.trans hF
      refine lv_iload_n hx hb d109_64 rfl (lv_at hl 3 rfl) ?_
      exact b65 k23 hk23 ls x1 x2 x4 x5 x3 st _ _ hF (hl.sub [0, 1, 2, 4, 5] rfl) I
    · have hF := (if_pos h9).symm.trans hF
      refine lv_iload_n hx hb d109_58 rfl (lv_at hl 3 rfl) ?_
      refine lv_iconst (v := 1) hx hb d109_59 (by decide) ?_
      refine lv_iadd hx hb d109_60 ?_
      refine lv_goto hx hb d109_61 rfl ?_
      exact b65 k23 hk23 ls x1 x2 x4 x5 (x3 + 1) st _ _ hF (hl.sub [0, 1, 2, 4, 5] rfl) I
  have b23 : ∀ n9 : Nat, ∀ (ls : Array Slot) (x1 : Int32) (x2 : Int32) (x3 : Int32) (x4 : Int32) (x5 : Int32) (st : mT) (H : Heap) (locs : List Loc), g_kids_23 n9 x1 x2 x3 x4 x5 st = some q → lv_has ls 6 [(0, .ref r), (1, .int x1), (2, .int x2), (3, .int x3), (4, .int x4), (5, .int x5)] → hm_I D s0 s (mm_h dA h0 r M st) z0 H locs → W p l e { frames := 2, cells := 0, slots := 0, locals := 43 } s m ([.ref r, .int y1, .int y2] : List Value).toArray below meth c H locs 0 0 (MQ below (ht_Q D s0 (fun vv h1 z1 => vv = some (.int q.1) ∧ h1 = mm_h dA h0 r M q.2 ∧ z1 = z0)) ([.ref r, .int y1, .int y2] : List Value).toArray s 0 0 (fun q => s0.heap.size ≤ q)) (F0 m 23 ls []) := by
    intro n9
    induction n9 with
    | zero => intro ls x1 x2 x3 x4 x5 st H locs hF; cases hF
    | succ n9 hk23 =>
    intro ls x1 x2 x3 x4 x5 st H locs hF hl I
    unfold g_kids_23 at hF
    refine lv_iload hx hb d109_23 (lv_at hl 5 rfl) ?_
    refine lv_iload hx hb d109_25 (lv_at hl 4 rfl) ?_
    refine lv_icmp_ge hx hb d109_27 rfl (fun h9 => ?_) (fun h9 => ?_)
    · have hF := (if_pos h9).symm.trans hF
      refine lv_iload_n hx hb d109_72 rfl (lv_at hl 3 rfl) ?_
      exact ht_iret X d109_73 I (Nat.le_of_ble_eq_true rfl) (Nat.le_of_ble_eq_true rfl) (mm_fin hF)
    · have hF := (if_neg h9).symm.trans hF
      refine lv_aload_n hx hb d109_30 rfl (lv_at hl 0 rfl) ?_
      refine lv_aload_n hx hb d109_31 rfl (lv_at hl 0 rfl) ?_
      refine lv_iload hx hb d109_32 (lv_at hl 5 rfl) ?_
      obtain ⟨q2, e9, hF⟩ := mm_bd hF
      refine ht_V (C := "MarkupStoreModel") (rest := [.ref r]) (as := [.int x5]) X hl (cm_doc l D dA s0 hE h0 r M hM z0 x5 st q2 e9) (List.forall_mem_cons.mpr ⟨ms_k1607, List.forall_mem_cons.mpr ⟨ms_k1609, List.forall_mem_cons.mpr ⟨ms_p67, List.forall_mem_cons.mpr ⟨ms_k7, List.forall_mem_cons.mpr ⟨ms_k1610, fun _ h => absurd h List.not_mem_nil⟩⟩⟩⟩⟩) ⟨rfl, by decide +kernel, by decide +kernel, (by decide +kernel : (parseMethodDescriptor "(I)I").map (fun d => d.parameters.length) = some 1)⟩ (hm_recv hK I rfl mm_hr) I ⟨rfl, rfl⟩ ⟨⟨Nat.le_of_ble_eq_true rfl, Nat.le_of_ble_eq_true rfl⟩, Nat.le_of_ble_eq_true rfl, Nat.le_of_ble_eq_true rfl⟩ rfl (Nat.le_of_ble_eq_true rfl) d109_34 (fun vv h1 z1 H locs hR I9 => ?_)
      obtain ⟨e1, e2, e3⟩ := hR
      rw [e2, e3] at I9
      clear I e2 e3 e9
      have I := I9
      clear I9
      subst e1
      refine W.eq (g2 := F0 m 37 ls [.int q2.1, .ref r]) rfl ?_
      refine lv_iconst (v := 2) hx hb d109_37 (by decide) ?_
      obtain ⟨q3, e9, hF⟩ := mm_bd hF
      refine ht_V (C := "MarkupStoreModel") (rest := []) (as := [.int q2.1, .int 2]) X hl (cm_f l D dA s0 hE h0 r M hM z0 q2.1 2 q2.2 q3 e9) (List.forall_mem_cons.mpr ⟨ms_k1587, List.forall_mem_cons.mpr ⟨ms_k1589, List.forall_mem_cons.mpr ⟨ms_p63, List.forall_mem_cons.mpr ⟨ms_k7, List.forall_mem_cons.mpr ⟨ms_k1590, fun _ h => absurd h List.not_mem_nil⟩⟩⟩⟩⟩) ⟨rfl, by decide +kernel, by decide +kernel, (by decide +kernel : (parseMethodDescriptor "(II)I").map (fun d => d.parameters.length) = some 2)⟩ (hm_recv hK I rfl mm_hr) I ⟨rfl, rfl⟩ ⟨⟨Nat.le_of_ble_eq_true rfl, Nat.le_of_ble_eq_true rfl⟩, Nat.le_of_ble_eq_true rfl, Nat.le_of_ble_eq_true rfl⟩ rfl (Nat.le_of_ble_eq_true rfl) d109_38 (fun vv h1 z1 H locs hR I9 => ?_)
      obtain ⟨e1, e2, e3⟩ := hR
      rw [e2, e3] at I9
      clear I e2 e3 e9
      have I := I9
      clear I9
      subst e1
      refine W.eq (g2 := F0 m 41 ls [.int q3.1]) rfl ?_
      refine lv_iload_n hx hb d109_41 rfl (lv_at hl 2 rfl) ?_
      refine lv_if_eq hx hb d109_42 rfl (fun h9 => ?_) (fun h9 => ?_)
      · have hF := (if_pos h9).symm.trans hF
        refine lv_aload_n hx hb d109_49 rfl (lv_at hl 0 rfl) ?_
        refine lv_iload_n hx hb d109_50 rfl (lv_at hl 1 rfl) ?_
        refine lv_iconst (v := 2) hx hb d109_51 (by decide) ?_
        obtain ⟨q4, e9, hF⟩ := mm_bd hF
        refine ht_V (C := "MarkupStoreModel") (rest := [.int q3.1]) (as := [.int x1, .int 2]) X hl (cm_f l D dA s0 hE h0 r M hM z0 x1 2 q3.2 q4 e9) (List.forall_mem_cons.mpr ⟨ms_k1587, List.forall_mem_cons.mpr ⟨ms_k1589, List.forall_mem_cons.mpr ⟨ms_p63, List.forall_mem_cons.mpr ⟨ms_k7, List.forall_mem_cons.mpr ⟨ms_k1590, fun _ h => absurd h List.not_mem_nil⟩⟩⟩⟩⟩) ⟨rfl, by decide +kernel, by decide +kernel, (by decide +kernel : (parseMethodDescriptor "(II)I").map (fun d => d.parameters.length) = some 2)⟩ (hm_recv hK I rfl mm_hr) I ⟨rfl, rfl⟩ ⟨⟨Nat.le_of_ble_eq_true rfl, Nat.le_of_ble_eq_true rfl⟩, Nat.le_of_ble_eq_true rfl, Nat.le_of_ble_eq_true rfl⟩ rfl (Nat.le_of_ble_eq_true rfl) d109_52 (fun vv h1 z1 H locs hR I9 => ?_)
        obtain ⟨e1, e2, e3⟩ := hR
        rw [e2, e3] at I9
        clear I e2 e3 e9
        have I := I9
        clear I9
        subst e1
        refine W.eq (g2 := F0 m 55 ls [.int q4.1, .int q3.1]) rfl ?_
        exact b55 (g_kids_23 n9) hk23 ls x1 x2 x3 x4 x5 q4.1 q3.1 q4.2 _ _ hF (hl.sub [0, 1, 2, 3, 4, 5] rfl) I
      · have hF := (if_neg h9).symm.trans hF
        refine lv_iload_n hx hb d109_45 rfl (lv_at hl 1 rfl) ?_
        refine lv_goto hx hb d109_46 rfl ?_
        exact b55 (g_kids_23 n9) hk23 ls x1 x2 x3 x4 x5 x1 q3.1 q3.2 _ _ hF (hl.sub [0, 1, 2, 3, 4, 5] rfl) I
  have b18 : ∀ (ls : Array Slot) (x1 : Int32) (x2 : Int32) (x3 : Int32) (w0 : Int32) (st : mT) (H : Heap) (locs : List Loc), g_kids_18 x1 x2 x3 w0 st = some q → lv_has ls 6 [(0, .ref r), (1, .int x1), (2, .int x2), (3, .int x3)] → hm_I D s0 s (mm_h dA h0 r M st) z0 H locs → W p l e { frames := 2, cells := 0, slots := 0, locals := 43 } s m ([.ref r, .int y1, .int y2] : List Value).toArray below meth c H locs 0 0 (MQ below (ht_Q D s0 (fun vv h1 z1 => vv = some (.int q.1) ∧ h1 = mm_h dA h0 r M q.2 ∧ z1 = z0)) ([.ref r, .int y1, .int y2] : List Value).toArray s 0 0 (fun q => s0.heap.size ≤ q)) (F0 m 18 ls [.int w0]) := by
    intro ls x1 x2 x3 w0 st H locs hF hl I
    unfold g_kids_18 at hF
    refine lv_istore hx hb d109_18 hl (by decide) rfl (fun ls hl => ?_)
    have hl : lv_has ls 6 [(4, .int w0), (0, .ref r), (1, .int x1), (2, .int x2), (3, .int x3)] := hl
    refine lv_iconst (v := 0) hx hb d109_20 (by decide) ?_
    refine lv_istore hx hb d109_21 hl (by decide) rfl (fun ls hl => ?_)
    have hl : lv_has ls 6 [(5, .int 0), (4, .int w0), (0, .ref r), (1, .int x1), (2, .int x2), (3, .int x3)] := hl
    exact b23 mF ls x1 x2 x3 w0 0 st _ _ hF (hl.sub [2, 3, 4, 5, 1, 0] rfl) I
  have hF := hg
  unfold g_kids at hF
  refine lv_iconst (v := 0) hx hb d109_0 (by decide) ?_
  refine lv_istore_n hx hb d109_1 rfl hl (by decide) rfl (fun ls hl => ?_)
  have hl : lv_has ls 6 [(3, .int 0), (0, .ref r), (1, .int y1), (2, .int y2)] := hl
  refine lv_iload_n hx hb d109_2 rfl (lv_at hl 3 rfl) ?_
  refine lv_if_eq hx hb d109_3 rfl (fun h9 => ?_) (fun h9 => ?_)
  · have hF := (if_pos h9).symm.trans hF
    refine lv_aload_n hx hb d109_13 rfl (lv_at hl 1 rfl) ?_
    refine lv_iload_n hx hb d109_14 rfl (lv_at hl 2 rfl) ?_
    obtain ⟨q1, e9, hF⟩ := mm_bd hF
    refine ht_V (C := "MarkupStoreModel") (rest := []) (as := [.int y1]) X hl (cm_order l D dA s0 hE h0 r M hM z0 y1 st q1 e9) (List.forall_mem_cons.mpr ⟨ms_k1623, List.forall_mem_cons.mpr ⟨ms_k1625, List.forall_mem_cons.mpr ⟨ms_p71, List.forall_mem_cons.mpr ⟨ms_k7, List.forall_mem_cons.mpr ⟨ms_k1626, fun _ h => absurd h List.not_mem_nil⟩⟩⟩⟩⟩) ⟨rfl, by decide +kernel, by decide +kernel, (by decide +kernel : (parseMethodDescriptor "(I)I").map (fun d => d.parameters.length) = some 1)⟩ (hm_recv hK I rfl mm_hr) I ⟨rfl, rfl⟩ ⟨⟨Nat.le_of_ble_eq_true rfl, Nat.le_of_ble_eq_true rfl⟩, Nat.le_of_ble_eq_true rfl, Nat.le_of_ble_eq_true rfl⟩ rfl (Nat.le_of_ble_eq_true rfl) d109_15 (fun vv h1 z1 H locs hR I9 => ?_)
    obtain ⟨e1, e2, e3⟩ := hR
    rw [e2, e3] at I9
    clear I e2 e3 e9
    have I := I9
    clear I9
    subst e1
    refine W.eq (g2 := F0 m 18 ls [.int q1.1]) rfl ?_
    exact b18 ls y1 y2 0 q1.1 q1.2 _ _ hF (hl.sub [1, 2, 3, 0] rfl) I
  · have hF := (if_neg h9).symm.trans hF
    refine lv_aload_n hx hb d109_6 rfl (lv_at hl 1 rfl) ?_
    obtain ⟨q5, e9, hF⟩ := mm_bd hF
    refine ht_V (C := "MarkupStoreModel") (rest := []) (as := []) X hl (cm_count l D dA s0 hE h0 r M hM z0 st q5 e9) (List.forall_mem_cons.mpr ⟨ms_k1583, List.forall_mem_cons.mpr ⟨ms_k1585, List.forall_mem_cons.mpr ⟨ms_p62, List.forall_mem_cons.mpr ⟨ms_k7, List.forall_mem_cons.mpr ⟨ms_k1586, fun _ h => absurd h List.not_mem_nil⟩⟩⟩⟩⟩) ⟨rfl, by decide +kernel, by decide +kernel, (by decide +kernel : (parseMethodDescriptor "()I").map (fun d => d.parameters.length) = some 0)⟩ (hm_recv hK I rfl mm_hr) I ⟨rfl, rfl⟩ ⟨⟨Nat.le_of_ble_eq_true rfl, Nat.le_of_ble_eq_true rfl⟩, Nat.le_of_ble_eq_true rfl, Nat.le_of_ble_eq_true rfl⟩ rfl (Nat.le_of_ble_eq_true rfl) d109_7 (fun vv h1 z1 H locs hR I9 => ?_)
    obtain ⟨e1, e2, e3⟩ := hR
    rw [e2, e3] at I9
    clear I e2 e3 e9
    have I := I9
    clear I9
    subst e1
    refine W.eq (g2 := F0 m 10 ls [.int q5.1]) rfl ?_
    refine lv_goto hx hb d109_10 rfl ?_
    exact b18 ls y1 y2 0 q5.1 q5.2 _ _ hF (hl.sub [1, 2, 3, 0] rfl) I

def g_node (y1 : Int32) (y2 : Int32) (st : mT) : Option (Int32 × mT) := ((g_place y1 st).bind (fun q1 => (if 0 ≤ q1.1 then (if y2 = 0 then ((g_f q1.1 2 q1.2).bind (fun q2 => (if 0 ≤ q2.1 then ((g_f q1.1 2 q2.2).bind (fun q3 => ((g_f q3.1 0 q3.2).bind (fun q4 => (some ((q4.1 - 1), q4.2)))))) else (some ((-1), q2.2))))) else (if y2 = 1 then ((g_kids q1.1 1 q1.2).bind (fun q5 => (some (q5.1, q5.2)))) else (if y2 = 2 then ((g_kids q1.1 0 q1.2).bind (fun q6 => (some (q6.1, q6.2)))) else (if y2 = 3 then ((g_f q1.1 5 q1.2).bind (fun q7 => (some (q7.1, q7.2)))) else (if y2 = 4 then ((g_f q1.1 3 q1.2).bind (fun q8 => (some (q8.1, q8.2)))) else (if y2 = 5 then ((g_f q1.1 4 q1.2).bind (fun q9 => (some (q9.1, q9.2)))) else (if y2 = 6 then ((g_order q1.1 q1.2).bind (fun q10 => (some (q10.1, q10.2)))) else (some ((-1000), q1.2))))))))) else (some ((-1000), q1.2)))))
set_option maxRecDepth 100000 in
set_option maxHeartbeats 8000000 in
theorem cm_node (l : Launch) (D : va_G) (dA : Nat → ClassId) (s0 : State) (hE : ms_EV D dA s0) (h0 : hm_T) (r : Nat) (M : Nat → Nat) (hM : mm_ok r M) (z0 : hz_T) (y1 : Int32) (y2 : Int32) (st : mT) (q : Int32 × mT) (hg : g_node y1 y2 st = some q) : ht_C l D s0 yM110 bM110 4 (Option.some Jvm.ClassFile.FieldType.int) 3 68 0 0 [.ref r, .int y1, .int y2] (fun h z => h = mm_h dA h0 r M st ∧ z = z0) (fun h z vv h1 z1 => vv = some (.int q.1) ∧ h1 = mm_h dA h0 r M q.2 ∧ z1 = z0) := by
  refine ht_C.mk hE.1 (by decide) (Nat.le_of_ble_eq_true rfl) [(0, .ref r), (1, .int y1), (2, .int y2)] rfl ?_
  intro p e s m below meth c ls h z X hin hpre I hl
  have hx := X.1
  have hb := X.2.1
  have hml := X.2.2.1
  have hown : s.vm.findClass "MarkupStoreModel" = some m.cls := X.2.2.2.1
  have hts := X.2.2.2.2.2.2.1
  have hK := X.2.2.2.2.2.2.2.2.1
  rw [hpre.1, hpre.2] at I
  clear hpre
  have hF := hg
  unfold g_node at hF
  refine lv_aload_n hx hb d110_0 rfl (lv_at hl 0 rfl) ?_
  refine lv_iload_n hx hb d110_1 rfl (lv_at hl 1 rfl) ?_
  obtain ⟨q1, e9, hF⟩ := mm_bd hF
  refine ht_V (C := "MarkupStoreModel") (rest := []) (as := [.int y1]) X hl (cm_place l D dA s0 hE h0 r M hM z0 y1 st q1 e9) (List.forall_mem_cons.mpr ⟨ms_k1603, List.forall_mem_cons.mpr ⟨ms_k1605, List.forall_mem_cons.mpr ⟨ms_p66, List.forall_mem_cons.mpr ⟨ms_k7, List.forall_mem_cons.mpr ⟨ms_k1606, fun _ h => absurd h List.not_mem_nil⟩⟩⟩⟩⟩) ⟨rfl, by decide +kernel, by decide +kernel, (by decide +kernel : (parseMethodDescriptor "(I)I").map (fun d => d.parameters.length) = some 1)⟩ (hm_recv hK I rfl mm_hr) I ⟨rfl, rfl⟩ ⟨⟨Nat.le_of_ble_eq_true rfl, Nat.le_of_ble_eq_true rfl⟩, Nat.le_of_ble_eq_true rfl, Nat.le_of_ble_eq_true rfl⟩ rfl (Nat.le_of_ble_eq_true rfl) d110_2 (fun vv h1 z1 H locs hR I9 => ?_)
  obtain ⟨e1, e2, e3⟩ := hR
  rw [e2, e3] at I9
  clear I e2 e3 e9
  have I := I9
  clear I9
  subst e1
  refine W.eq (g2 := F0 m 5 ls [.int q1.1]) rfl ?_
  refine lv_istore_n hx hb d110_5 rfl hl (by decide) rfl (fun ls hl => ?_)
  have hl : lv_has ls 4 [(3, .int q1.1), (0, .ref r), (1, .int y1), (2, .int y2)] := hl
  refine lv_iload_n hx hb d110_6 rfl (lv_at hl 0 rfl) ?_
  refine lv_if_ge hx hb d110_7 rfl (fun h9 => ?_) (fun h9 => ?_)
  · have hF := (if_pos h9).symm.trans hF
    refine lv_iload_n hx hb d110_14 rfl (lv_at hl 3 rfl) ?_
    by_cases h9_0 : y2 = 0
    · have hF := (if_pos h9_0).symm.trans hF
      refine lv_tableIn (off := 41) (tgt := 56) hx hb d110_15 (by rw [h9_0]; decide) (by rw [h9_0]; decide) (by rw [h9_0]; rfl) (by decide) ?_
      refine lv_aload_n hx hb d110_56 rfl (lv_at hl 1 rfl) ?_
      refine lv_iload_n hx hb d110_57 rfl (lv_at hl 0 rfl) ?_
      refine lv_iconst (v := 2) hx hb d110_58 (by decide) ?_
      obtain ⟨q2, e9, hF⟩ := mm_bd hF
      refine ht_V (C := "MarkupStoreModel") (rest := []) (as := [.int q1.1, .int 2]) X hl (cm_f l D dA s0 hE h0 r M hM z0 q1.1 2 q1.2 q2 e9) (List.forall_mem_cons.mpr ⟨ms_k1587, List.forall_mem_cons.mpr ⟨ms_k1589, List.forall_mem_cons.mpr ⟨ms_p63, List.forall_mem_cons.mpr ⟨ms_k7, List.forall_mem_cons.mpr ⟨ms_k1590, fun _ h => absurd h List.not_mem_nil⟩⟩⟩⟩⟩) ⟨rfl, by decide +kernel, by decide +kernel, (by decide +kernel : (parseMethodDescriptor "(II)I").map (fun d => d.parameters.length) = some 2)⟩ (hm_recv hK I rfl mm_hr) I ⟨rfl, rfl⟩ ⟨⟨Nat.le_of_ble_eq_true rfl, Nat.le_of_ble_eq_true rfl⟩, Nat.le_of_ble_eq_true rfl, Nat.le_of_ble_eq_true rfl⟩ rfl (Nat.le_of_ble_eq_true rfl) d110_59 (fun vv h1 z1 H locs hR I9 => ?_)
      obtain ⟨e1, e2, e3⟩ := hR
      rw [e2, e3] at I9
      clear I e2 e3 e9
      have I := I9
      clear I9
      subst e1
      refine W.eq (g2 := F0 m 62 ls [.int q2.1]) rfl ?_
      refine lv_if_ge hx hb d110_62 rfl (fun h9 => ?_) (fun h9 => ?_)
      · have hF := (if_pos h9).symm.trans hF
        refine lv_aload_n hx hb d110_69 rfl (lv_at hl 1 rfl) ?_
        refine lv_aload_n hx hb d110_70 rfl (lv_at hl 1 rfl) ?_
        refine lv_iload_n hx hb d110_71 rfl (lv_at hl 0 rfl) ?_
        refine lv_iconst (v := 2) hx hb d110_72 (by decide) ?_
        obtain ⟨q3, e9, hF⟩ := mm_bd hF
        refine ht_V (C := "MarkupStoreModel") (rest := [.ref r]) (as := [.int q1.1, .int 2]) X hl (cm_f l D dA s0 hE h0 r M hM z0 q1.1 2 q2.2 q3 e9) (List.forall_mem_cons.mpr ⟨ms_k1587, List.forall_mem_cons.mpr ⟨ms_k1589, List.forall_mem_cons.mpr ⟨ms_p63, List.forall_mem_cons.mpr ⟨ms_k7, List.forall_mem_cons.mpr ⟨ms_k1590, fun _ h => absurd h List.not_mem_nil⟩⟩⟩⟩⟩) ⟨rfl, by decide +kernel, by decide +kernel, (by decide +kernel : (parseMethodDescriptor "(II)I").map (fun d => d.parameters.length) = some 2)⟩ (hm_recv hK I rfl mm_hr) I ⟨rfl, rfl⟩ ⟨⟨Nat.le_of_ble_eq_true rfl, Nat.le_of_ble_eq_true rfl⟩, Nat.le_of_ble_eq_true rfl, Nat.le_of_ble_eq_true rfl⟩ rfl (Nat.le_of_ble_eq_true rfl) d110_73 (fun vv h1 z1 H locs hR I9 => ?_)
        obtain ⟨e1, e2, e3⟩ := hR
        rw [e2, e3] at I9
        clear I e2 e3 e9
        have I := I9
        clear I9
        subst e1
        refine W.eq (g2 := F0 m 76 ls [.int q3.1, .ref r]) rfl ?_
        refine lv_iconst (v := 0) hx hb d110_76 (by decide) ?_
        obtain ⟨q4, e9, hF⟩ := mm_bd hF
        refine ht_V (C := "MarkupStoreModel") (rest := []) (as := [.int q3.1, .int 0]) X hl (cm_f l D dA s0 hE h0 r M hM z0 q3.1 0 q3.2 q4 e9) (List.forall_mem_cons.mpr ⟨ms_k1587, List.forall_mem_cons.mpr ⟨ms_k1589, List.forall_mem_cons.mpr ⟨ms_p63, List.forall_mem_cons.mpr ⟨ms_k7, List.forall_mem_cons.mpr ⟨ms_k1590, fun _ h => absurd h List.not_mem_nil⟩⟩⟩⟩⟩) ⟨rfl, by decide +kernel, by decide +kernel, (by decide +kernel : (parseMethodDescriptor "(II)I").map (fun d => d.parameters.length) = some 2)⟩ (hm_recv hK I rfl mm_hr) I ⟨rfl, rfl⟩ ⟨⟨Nat.le_of_ble_eq_true rfl, Nat.le_of_ble_eq_true rfl⟩, Nat.le_of_ble_eq_true rfl, Nat.le_of_ble_eq_true rfl⟩ rfl (Nat.le_of_ble_eq_true rfl) d110_77 (fun vv h1 z1 H locs hR I9 => ?_)
        obtain ⟨e1, e2, e3⟩ := hR
        rw [e2, e3] at I9
        clear I e2 e3 e9
        have I := I9
        clear I9
        subst e1
        refine W.eq (g2 := F0 m 80 ls [.int q4.1]) rfl ?_
        refine lv_iconst (v := 1) hx hb d110_80 (by decide) ?_
        refine lv_isub hx hb d110_81 ?_
        exact ht_iret X d110_82 I (Nat.le_of_ble_eq_true rfl) (Nat.le_of_ble_eq_true rfl) (mm_fin hF)
      · have hF := (if_neg h9).symm.trans hF
        refine lv_iconst (v := (-1)) hx hb d110_65 (by decide) ?_
        refine lv_goto hx hb d110_66 rfl ?_
        exact ht_iret X d110_82 I (Nat.le_of_ble_eq_true rfl) (Nat.le_of_ble_eq_true rfl) (mm_fin hF)
    have hF := (if_neg h9_0).symm.trans hF
    by_cases h9_1 : y2 = 1
    · have hF := (if_pos h9_1).symm.trans hF
      refine lv_tableIn (off := 68) (tgt := 83) hx hb d110_15 (by rw [h9_1]; decide) (by rw [h9_1]; decide) (by rw [h9_1]; rfl) (by decide) ?_
      refine lv_aload_n hx hb d110_83 rfl (lv_at hl 1 rfl) ?_
      refine lv_iload_n hx hb d110_84 rfl (lv_at hl 0 rfl) ?_
      refine lv_iconst (v := 1) hx hb d110_85 (by decide) ?_
      obtain ⟨q5, e9, hF⟩ := mm_bd hF
      refine ht_V (C := "MarkupStoreModel") (rest := []) (as := [.int q1.1, .int 1]) X hl (cm_kids l D dA s0 hE h0 r M hM z0 q1.1 1 q1.2 q5 e9) (List.forall_mem_cons.mpr ⟨ms_k1776, List.forall_mem_cons.mpr ⟨ms_k1778, List.forall_mem_cons.mpr ⟨ms_p99, List.forall_mem_cons.mpr ⟨ms_k7, List.forall_mem_cons.mpr ⟨ms_k1779, fun _ h => absurd h List.not_mem_nil⟩⟩⟩⟩⟩) ⟨rfl, by decide +kernel, by decide +kernel, (by decide +kernel : (parseMethodDescriptor "(IZ)I").map (fun d => d.parameters.length) = some 2)⟩ (hm_recv hK I rfl mm_hr) I ⟨rfl, rfl⟩ ⟨⟨Nat.le_of_ble_eq_true rfl, Nat.le_of_ble_eq_true rfl⟩, Nat.le_of_ble_eq_true rfl, Nat.le_of_ble_eq_true rfl⟩ rfl (Nat.le_of_ble_eq_true rfl) d110_86 (fun vv h1 z1 H locs hR I9 => ?_)
      obtain ⟨e1, e2, e3⟩ := hR
      rw [e2, e3] at I9
      clear I e2 e3 e9
      have I := I9
      clear I9
      subst e1
      refine W.eq (g2 := F0 m 89 ls [.int q5.1]) rfl ?_
      exact ht_iret X d110_89 I (Nat.le_of_ble_eq_true rfl) (Nat.le_of_ble_eq_true rfl) (mm_fin hF)
    have hF := (if_neg h9_1).symm.trans hF
    by_cases h9_2 : y2 = 2
    · have hF := (if_pos h9_2).symm.trans hF
      refine lv_tableIn (off := 75) (tgt := 90) hx hb d110_15 (by rw [h9_2]; decide) (by rw [h9_2]; decide) (by rw [h9_2]; rfl) (by decide) ?_
      refine lv_aload_n hx hb d110_90 rfl (lv_at hl 1 rfl) ?_
      refine lv_iload_n hx hb d110_91 rfl (lv_at hl 0 rfl) ?_
      refine lv_iconst (v := 0) hx hb d110_92 (by decide) ?_
      obtain ⟨q6, e9, hF⟩ := mm_bd hF
      refine ht_V (C := "MarkupStoreModel") (rest := []) (as := [.int q1.1, .int 0]) X hl (cm_kids l D dA s0 hE h0 r M hM z0 q1.1 0 q1.2 q6 e9) (List.forall_mem_cons.mpr ⟨ms_k1776, List.forall_mem_cons.mpr ⟨ms_k1778, List.forall_mem_cons.mpr ⟨ms_p99, List.forall_mem_cons.mpr ⟨ms_k7, List.forall_mem_cons.mpr ⟨ms_k1779, fun _ h => absurd h List.not_mem_nil⟩⟩⟩⟩⟩) ⟨rfl, by decide +kernel, by decide +kernel, (by decide +kernel : (parseMethodDescriptor "(IZ)I").map (fun d => d.parameters.length) = some 2)⟩ (hm_recv hK I rfl mm_hr) I ⟨rfl, rfl⟩ ⟨⟨Nat.le_of_ble_eq_true rfl, Nat.le_of_ble_eq_true rfl⟩, Nat.le_of_ble_eq_true rfl, Nat.le_of_ble_eq_true rfl⟩ rfl (Nat.le_of_ble_eq_true rfl) d110_93 (fun vv h1 z1 H locs hR I9 => ?_)
      obtain ⟨e1, e2, e3⟩ := hR
      rw [e2, e3] at I9
      clear I e2 e3 e9
      have I := I9
      clear I9
      subst e1
      refine W.eq (g2 := F0 m 96 ls [.int q6.1]) rfl ?_
      exact ht_iret X d110_96 I (Nat.le_of_ble_eq_true rfl) (Nat.le_of_ble_eq_true rfl) (mm_fin hF)
    have hF := (if_neg h9_2).symm.trans hF
    by_cases h9_3 : y2 = 3
    · have hF := (if_pos h9_3).symm.trans hF
      refine lv_tableIn (off := 82) (tgt := 97) hx hb d110_15 (by rw [h9_3]; decide) (by rw [h9_3]; decide) (by rw [h9_3]; rfl) (by decide) ?_
      refine lv_aload_n hx hb d110_97 rfl (lv_at hl 1 rfl) ?_
      refine lv_iload_n hx hb d110_98 rfl (lv_at hl 0 rfl) ?_
      refine lv_iconst (v := 5) hx hb d110_99 (by decide) ?_
      obtain ⟨q7, e9, hF⟩ := mm_bd hF
      refine ht_V (C := "MarkupStoreModel") (rest := []) (as := [.int q1.1, .int 5]) X hl (cm_f l D dA s0 hE h0 r M hM z0 q1.1 5 q1.2 q7 e9) (List.forall_mem_cons.mpr ⟨ms_k1587, List.forall_mem_cons.mpr ⟨ms_k1589, List.forall_mem_cons.mpr ⟨ms_p63, List.forall_mem_cons.mpr ⟨ms_k7, List.forall_mem_cons.mpr ⟨ms_k1590, fun _ h => absurd h List.not_mem_nil⟩⟩⟩⟩⟩) ⟨rfl, by decide +kernel, by decide +kernel, (by decide +kernel : (parseMethodDescriptor "(II)I").map (fun d => d.parameters.length) = some 2)⟩ (hm_recv hK I rfl mm_hr) I ⟨rfl, rfl⟩ ⟨⟨Nat.le_of_ble_eq_true rfl, Nat.le_of_ble_eq_true rfl⟩, Nat.le_of_ble_eq_true rfl, Nat.le_of_ble_eq_true rfl⟩ rfl (Nat.le_of_ble_eq_true rfl) d110_100 (fun vv h1 z1 H locs hR I9 => ?_)
      obtain ⟨e1, e2, e3⟩ := hR
      rw [e2, e3] at I9
      clear I e2 e3 e9
      have I := I9
      clear I9
      subst e1
      refine W.eq (g2 := F0 m 103 ls [.int q7.1]) rfl ?_
      exact ht_iret X d110_103 I (Nat.le_of_ble_eq_true rfl) (Nat.le_of_ble_eq_true rfl) (mm_fin hF)
    have hF := (if_neg h9_3).symm.trans hF
    by_cases h9_4 : y2 = 4
    · have hF := (if_pos h9_4).symm.trans hF
      refine lv_tableIn (off := 89) (tgt := 104) hx hb d110_15 (by rw [h9_4]; decide) (by rw [h9_4]; decide) (by rw [h9_4]; rfl) (by decide) ?_
      refine lv_aload_n hx hb d110_104 rfl (lv_at hl 1 rfl) ?_
      refine lv_iload_n hx hb d110_105 rfl (lv_at hl 0 rfl) ?_
      refine lv_iconst (v := 3) hx hb d110_106 (by decide) ?_
      obtain ⟨q8, e9, hF⟩ := mm_bd hF
      refine ht_V (C := "MarkupStoreModel") (rest := []) (as := [.int q1.1, .int 3]) X hl (cm_f l D dA s0 hE h0 r M hM z0 q1.1 3 q1.2 q8 e9) (List.forall_mem_cons.mpr ⟨ms_k1587, List.forall_mem_cons.mpr ⟨ms_k1589, List.forall_mem_cons.mpr ⟨ms_p63, List.forall_mem_cons.mpr ⟨ms_k7, List.forall_mem_cons.mpr ⟨ms_k1590, fun _ h => absurd h List.not_mem_nil⟩⟩⟩⟩⟩) ⟨rfl, by decide +kernel, by decide +kernel, (by decide +kernel : (parseMethodDescriptor "(II)I").map (fun d => d.parameters.length) = some 2)⟩ (hm_recv hK I rfl mm_hr) I ⟨rfl, rfl⟩ ⟨⟨Nat.le_of_ble_eq_true rfl, Nat.le_of_ble_eq_true rfl⟩, Nat.le_of_ble_eq_true rfl, Nat.le_of_ble_eq_true rfl⟩ rfl (Nat.le_of_ble_eq_true rfl) d110_107 (fun vv h1 z1 H locs hR I9 => ?_)
      obtain ⟨e1, e2, e3⟩ := hR
      rw [e2, e3] at I9
      clear I e2 e3 e9
      have I := I9
      clear I9
      subst e1
      refine W.eq (g2 := F0 m 110 ls [.int q8.1]) rfl ?_
      exact ht_iret X d110_110 I (Nat.le_of_ble_eq_true rfl) (Nat.le_of_ble_eq_true rfl) (mm_fin hF)
    have hF := (if_neg h9_4).symm.trans hF
    by_cases h9_5 : y2 = 5
    · have hF := (if_pos h9_5).symm.trans hF
      refine lv_tableIn (off := 96) (tgt := 111) hx hb d110_15 (by rw [h9_5]; decide) (by rw [h9_5]; decide) (by rw [h9_5]; rfl) (by decide) ?_
      refine lv_aload_n hx hb d110_111 rfl (lv_at hl 1 rfl) ?_
      refine lv_iload_n hx hb d110_112 rfl (lv_at hl 0 rfl) ?_
      refine lv_iconst (v := 4) hx hb d110_113 (by decide) ?_
      obtain ⟨q9, e9, hF⟩ := mm_bd hF
      refine ht_V (C := "MarkupStoreModel") (rest := []) (as := [.int q1.1, .int 4]) X hl (cm_f l D dA s0 hE h0 r M hM z0 q1.1 4 q1.2 q9 e9) (List.forall_mem_cons.mpr ⟨ms_k1587, List.forall_mem_cons.mpr ⟨ms_k1589, List.forall_mem_cons.mpr ⟨ms_p63, List.forall_mem_cons.mpr ⟨ms_k7, List.forall_mem_cons.mpr ⟨ms_k1590, fun _ h => absurd h List.not_mem_nil⟩⟩⟩⟩⟩) ⟨rfl, by decide +kernel, by decide +kernel, (by decide +kernel : (parseMethodDescriptor "(II)I").map (fun d => d.parameters.length) = some 2)⟩ (hm_recv hK I rfl mm_hr) I ⟨rfl, rfl⟩ ⟨⟨Nat.le_of_ble_eq_true rfl, Nat.le_of_ble_eq_true rfl⟩, Nat.le_of_ble_eq_true rfl, Nat.le_of_ble_eq_true rfl⟩ rfl (Nat.le_of_ble_eq_true rfl) d110_114 (fun vv h1 z1 H locs hR I9 => ?_)
      obtain ⟨e1, e2, e3⟩ := hR
      rw [e2, e3] at I9
      clear I e2 e3 e9
      have I := I9
      clear I9
      subst e1
      refine W.eq (g2 := F0 m 117 ls [.int q9.1]) rfl ?_
      exact ht_iret X d110_117 I (Nat.le_of_ble_eq_true rfl) (Nat.le_of_ble_eq_true rfl) (mm_fin hF)
    have hF := (if_neg h9_5).symm.trans hF
    by_cases h9_6 : y2 = 6
    · have hF := (if_pos h9_6).symm.trans hF
      refine lv_tableIn (off := 103) (tgt := 118) hx hb d110_15 (by rw [h9_6]; decide) (by rw [h9_6]; decide) (by rw [h9_6]; rfl) (by decide) ?_
      refine lv_aload_n hx hb d110_118 rfl (lv_at hl 1 rfl) ?_
      refine lv_iload_n hx hb d110_119 rfl (lv_at hl 0 rfl) ?_
      obtain ⟨q10, e9, hF⟩ := mm_bd hF
      refine ht_V (C := "MarkupStoreModel") (rest := []) (as := [.int q1.1]) X hl (cm_order l D dA s0 hE h0 r M hM z0 q1.1 q1.2 q10 e9) (List.forall_mem_cons.mpr ⟨ms_k1623, List.forall_mem_cons.mpr ⟨ms_k1625, List.forall_mem_cons.mpr ⟨ms_p71, List.forall_mem_cons.mpr ⟨ms_k7, List.forall_mem_cons.mpr ⟨ms_k1626, fun _ h => absurd h List.not_mem_nil⟩⟩⟩⟩⟩) ⟨rfl, by decide +kernel, by decide +kernel, (by decide +kernel : (parseMethodDescriptor "(I)I").map (fun d => d.parameters.length) = some 1)⟩ (hm_recv hK I rfl mm_hr) I ⟨rfl, rfl⟩ ⟨⟨Nat.le_of_ble_eq_true rfl, Nat.le_of_ble_eq_true rfl⟩, Nat.le_of_ble_eq_true rfl, Nat.le_of_ble_eq_true rfl⟩ rfl (Nat.le_of_ble_eq_true rfl) d110_120 (fun vv h1 z1 H locs hR I9 => ?_)
      obtain ⟨e1, e2, e3⟩ := hR
      rw [e2, e3] at I9
      clear I e2 e3 e9
      have I := I9
      clear I9
      subst e1
      refine W.eq (g2 := F0 m 123 ls [.int q10.1]) rfl ?_
      exact ht_iret X d110_123 I (Nat.le_of_ble_eq_true rfl) (Nat.le_of_ble_eq_true rfl) (mm_fin hF)
    have hF := (if_neg h9_6).symm.trans hF
    refine lv_tableOut (tgt := 124) hx hb d110_15 (by have i0 : (y2).toInt ≠ 0 := mm_ti (k := 0) h9_0; have i1 : (y2).toInt ≠ 1 := mm_ti (k := 1) h9_1; have i2 : (y2).toInt ≠ 2 := mm_ti (k := 2) h9_2; have i3 : (y2).toInt ≠ 3 := mm_ti (k := 3) h9_3; have i4 : (y2).toInt ≠ 4 := mm_ti (k := 4) h9_4; have i5 : (y2).toInt ≠ 5 := mm_ti (k := 5) h9_5; have i6 : (y2).toInt ≠ 6 := mm_ti (k := 6) h9_6; omega) (by decide) ?_
    refine lv_sipush (v := (-1000)) hx hb d110_124 (by decide) ?_
    exact ht_iret X d110_127 I (Nat.le_of_ble_eq_true rfl) (Nat.le_of_ble_eq_true rfl) (mm_fin hF)
  · have hF := (if_neg h9).symm.trans hF
    refine lv_sipush (v := (-1000)) hx hb d110_10 (by decide) ?_
    exact ht_iret X d110_13 I (Nat.le_of_ble_eq_true rfl) (Nat.le_of_ble_eq_true rfl) (mm_fin hF)

def g_letter_24 (st : mT) : Option (Int32 × mT) := (some (0, st))
def g_letter (y1 : Int32) (y2 : Int32) (st : mT) : Option (Int32 × mT) := ((g_place y1 st).bind (fun q1 => (if q1.1 < 0 then (g_letter_24 q1.2) else (if y2 < 0 then (g_letter_24 q1.2) else ((g_f q1.1 3 q1.2).bind (fun q2 => (if y2 < q2.1 then ((g_f q1.1 (8 + y2) q2.2).bind (fun q3 => (some (q3.1, q3.2)))) else (g_letter_24 q2.2))))))))
set_option maxRecDepth 100000 in
set_option maxHeartbeats 8000000 in
theorem cm_letter (l : Launch) (D : va_G) (dA : Nat → ClassId) (s0 : State) (hE : ms_EV D dA s0) (h0 : hm_T) (r : Nat) (M : Nat → Nat) (hM : mm_ok r M) (z0 : hz_T) (y1 : Int32) (y2 : Int32) (st : mT) (q : Int32 × mT) (hg : g_letter y1 y2 st = some q) : ht_C l D s0 yM111 bM111 4 (Option.some Jvm.ClassFile.FieldType.int) 2 44 0 0 [.ref r, .int y1, .int y2] (fun h z => h = mm_h dA h0 r M st ∧ z = z0) (fun h z vv h1 z1 => vv = some (.int q.1) ∧ h1 = mm_h dA h0 r M q.2 ∧ z1 = z0) := by
  refine ht_C.mk hE.1 (by decide) (Nat.le_of_ble_eq_true rfl) [(0, .ref r), (1, .int y1), (2, .int y2)] rfl ?_
  intro p e s m below meth c ls h z X hin hpre I hl
  have hx := X.1
  have hb := X.2.1
  have hml := X.2.2.1
  have hown : s.vm.findClass "MarkupStoreModel" = some m.cls := X.2.2.2.1
  have hts := X.2.2.2.2.2.2.1
  have hK := X.2.2.2.2.2.2.2.2.1
  rw [hpre.1, hpre.2] at I
  clear hpre
  have b24 : ∀ (ls : Array Slot) (st : mT) (H : Heap) (locs : List Loc), g_letter_24 st = some q → lv_has ls 4 [] → hm_I D s0 s (mm_h dA h0 r M st) z0 H locs → W p l e { frames := 2, cells := 0, slots := 0, locals := 44 } s m ([.ref r, .int y1, .int y2] : List Value).toArray below meth c H locs 0 0 (MQ below (ht_Q D s0 (fun vv h1 z1 => vv = some (.int q.1) ∧ h1 = mm_h dA h0 r M q.2 ∧ z1 = z0)) ([.ref r, .int y1, .int y2] : List Value).toArray s 0 0 (fun q => s0.heap.size ≤ q)) (F0 m 24 ls []) := by
    intro ls st H locs hF hl I
    unfold g_letter_24 at hF
    refine lv_iconst (v := 0) hx hb d111_24 (by decide) ?_
    refine lv_goto hx hb d111_25 rfl ?_
    exact ht_iret X d111_37 I (Nat.le_of_ble_eq_true rfl) (Nat.le_of_ble_eq_true rfl) (mm_fin hF)
  have hF := hg
  unfold g_letter at hF
  refine lv_aload_n hx hb d111_0 rfl (lv_at hl 0 rfl) ?_
  refine lv_iload_n hx hb d111_1 rfl (lv_at hl 1 rfl) ?_
  obtain ⟨q1, e9, hF⟩ := mm_bd hF
  refine ht_V (C := "MarkupStoreModel") (rest := []) (as := [.int y1]) X hl (cm_place l D dA s0 hE h0 r M hM z0 y1 st q1 e9) (List.forall_mem_cons.mpr ⟨ms_k1603, List.forall_mem_cons.mpr ⟨ms_k1605, List.forall_mem_cons.mpr ⟨ms_p66, List.forall_mem_cons.mpr ⟨ms_k7, List.forall_mem_cons.mpr ⟨ms_k1606, fun _ h => absurd h List.not_mem_nil⟩⟩⟩⟩⟩) ⟨rfl, by decide +kernel, by decide +kernel, (by decide +kernel : (parseMethodDescriptor "(I)I").map (fun d => d.parameters.length) = some 1)⟩ (hm_recv hK I rfl mm_hr) I ⟨rfl, rfl⟩ ⟨⟨Nat.le_of_ble_eq_true rfl, Nat.le_of_ble_eq_true rfl⟩, Nat.le_of_ble_eq_true rfl, Nat.le_of_ble_eq_true rfl⟩ rfl (Nat.le_of_ble_eq_true rfl) d111_2 (fun vv h1 z1 H locs hR I9 => ?_)
  obtain ⟨e1, e2, e3⟩ := hR
  rw [e2, e3] at I9
  clear I e2 e3 e9
  have I := I9
  clear I9
  subst e1
  refine W.eq (g2 := F0 m 5 ls [.int q1.1]) rfl ?_
  refine lv_istore_n hx hb d111_5 rfl hl (by decide) rfl (fun ls hl => ?_)
  have hl : lv_has ls 4 [(3, .int q1.1), (0, .ref r), (1, .int y1), (2, .int y2)] := hl
  refine lv_iload_n hx hb d111_6 rfl (lv_at hl 0 rfl) ?_
  refine lv_if_lt hx hb d111_7 rfl (fun h9 => ?_) (fun h9 => ?_)
  · have hF := (if_pos h9).symm.trans hF
    exact b24 ls q1.2 _ _ hF (hl.sub [] rfl) I
  · have hF := (if_neg h9).symm.trans hF
    refine lv_iload_n hx hb d111_10 rfl (lv_at hl 3 rfl) ?_
    refine lv_if_lt hx hb d111_11 rfl (fun h9 => ?_) (fun h9 => ?_)
    · have hF := (if_pos h9).symm.trans hF
      exact b24 ls q1.2 _ _ hF (hl.sub [] rfl) I
    · have hF := (if_neg h9).symm.trans hF
      refine lv_iload_n hx hb d111_14 rfl (lv_at hl 3 rfl) ?_
      refine lv_aload_n hx hb d111_15 rfl (lv_at hl 1 rfl) ?_
      refine lv_iload_n hx hb d111_16 rfl (lv_at hl 0 rfl) ?_
      refine lv_iconst (v := 3) hx hb d111_17 (by decide) ?_
      obtain ⟨q2, e9, hF⟩ := mm_bd hF
      refine ht_V (C := "MarkupStoreModel") (rest := [.int y2]) (as := [.int q1.1, .int 3]) X hl (cm_f l D dA s0 hE h0 r M hM z0 q1.1 3 q1.2 q2 e9) (List.forall_mem_cons.mpr ⟨ms_k1587, List.forall_mem_cons.mpr ⟨ms_k1589, List.forall_mem_cons.mpr ⟨ms_p63, List.forall_mem_cons.mpr ⟨ms_k7, List.forall_mem_cons.mpr ⟨ms_k1590, fun _ h => absurd h List.not_mem_nil⟩⟩⟩⟩⟩) ⟨rfl, by decide +kernel, by decide +kernel, (by decide +kernel : (parseMethodDescriptor "(II)I").map (fun d => d.parameters.length) = some 2)⟩ (hm_recv hK I rfl mm_hr) I ⟨rfl, rfl⟩ ⟨⟨Nat.le_of_ble_eq_true rfl, Nat.le_of_ble_eq_true rfl⟩, Nat.le_of_ble_eq_true rfl, Nat.le_of_ble_eq_true rfl⟩ rfl (Nat.le_of_ble_eq_true rfl) d111_18 (fun vv h1 z1 H locs hR I9 => ?_)
      obtain ⟨e1, e2, e3⟩ := hR
      rw [e2, e3] at I9
      clear I e2 e3 e9
      have I := I9
      clear I9
      subst e1
      refine W.eq (g2 := F0 m 21 ls [.int q2.1, .int y2]) rfl ?_
      refine lv_icmp_lt hx hb d111_21 rfl (fun h9 => ?_) (fun h9 => ?_)
      · have hF := (if_pos h9).symm.trans hF
        refine lv_aload_n hx hb d111_28 rfl (lv_at hl 1 rfl) ?_
        refine lv_iload_n hx hb d111_29 rfl (lv_at hl 0 rfl) ?_
        refine lv_bipush (v := 8) hx hb d111_30 (by decide) ?_
        refine lv_iload_n hx hb d111_32 rfl (lv_at hl 3 rfl) ?_
        refine lv_iadd hx hb d111_33 ?_
        obtain ⟨q3, e9, hF⟩ := mm_bd hF
        refine ht_V (C := "MarkupStoreModel") (rest := []) (as := [.int q1.1, .int (8 + y2)]) X hl (cm_f l D dA s0 hE h0 r M hM z0 q1.1 (8 + y2) q2.2 q3 e9) (List.forall_mem_cons.mpr ⟨ms_k1587, List.forall_mem_cons.mpr ⟨ms_k1589, List.forall_mem_cons.mpr ⟨ms_p63, List.forall_mem_cons.mpr ⟨ms_k7, List.forall_mem_cons.mpr ⟨ms_k1590, fun _ h => absurd h List.not_mem_nil⟩⟩⟩⟩⟩) ⟨rfl, by decide +kernel, by decide +kernel, (by decide +kernel : (parseMethodDescriptor "(II)I").map (fun d => d.parameters.length) = some 2)⟩ (hm_recv hK I rfl mm_hr) I ⟨rfl, rfl⟩ ⟨⟨Nat.le_of_ble_eq_true rfl, Nat.le_of_ble_eq_true rfl⟩, Nat.le_of_ble_eq_true rfl, Nat.le_of_ble_eq_true rfl⟩ rfl (Nat.le_of_ble_eq_true rfl) d111_34 (fun vv h1 z1 H locs hR I9 => ?_)
        obtain ⟨e1, e2, e3⟩ := hR
        rw [e2, e3] at I9
        clear I e2 e3 e9
        have I := I9
        clear I9
        subst e1
        refine W.eq (g2 := F0 m 37 ls [.int q3.1]) rfl ?_
        exact ht_iret X d111_37 I (Nat.le_of_ble_eq_true rfl) (Nat.le_of_ble_eq_true rfl) (mm_fin hF)
      · have hF := (if_neg h9).symm.trans hF
        exact b24 ls q2.2 _ _ hF (hl.sub [] rfl) I
