theorem ms_k7 : (Jvm.Cond.initialized "MarkupStoreModel") ∈ ms_tb := ms_i1 7 (by decide +kernel) (by decide +kernel)
theorem ms_k1316 : (Jvm.Cond.fieldLink "MarkupStoreModel" (7 : Nat) "MarkupStoreModel" "t" "[I") ∈ ms_tb := ms_i6 116 (by decide +kernel) (by decide +kernel)
theorem ms_k1322 : (Jvm.Cond.fieldLink "MarkupStoreModel" (22 : Nat) "MarkupStoreModel" "buffer" "[C") ∈ ms_tb := ms_i6 122 (by decide +kernel) (by decide +kernel)
theorem ms_k1323 : (Jvm.Cond.fieldLink "MarkupStoreModel" (133 : Nat) "MarkupStoreModel" "size" "I") ∈ ms_tb := ms_i6 123 (by decide +kernel) (by decide +kernel)
theorem ms_k1583 : (Jvm.Cond.methodLink "MarkupStoreModel" (115 : Nat) ({ cls := "MarkupStoreModel", name := "count", desc := "()I" } : Jvm.MethodName)) ∈ ms_tb := ms_i7 143 (by decide +kernel) (by decide +kernel)
theorem ms_k1585 : (Jvm.Cond.instanceMethod ({ cls := "MarkupStoreModel", name := "count", desc := "()I" } : Jvm.MethodName)) ∈ ms_tb := ms_i7 145 (by decide +kernel) (by decide +kernel)
theorem ms_k1586 : (Jvm.Cond.code ({ cls := "MarkupStoreModel", name := "count", desc := "()I" } : Jvm.MethodName) prog_14_method_4_code (1 : Nat) (Option.some Jvm.ClassFile.FieldType.int)) ∈ ms_tb := ms_i7 146 (by decide +kernel) (by decide +kernel)
theorem ms_k1587 : (Jvm.Cond.methodLink "MarkupStoreModel" (123 : Nat) ({ cls := "MarkupStoreModel", name := "f", desc := "(II)I" } : Jvm.MethodName)) ∈ ms_tb := ms_i7 147 (by decide +kernel) (by decide +kernel)
theorem ms_k1589 : (Jvm.Cond.instanceMethod ({ cls := "MarkupStoreModel", name := "f", desc := "(II)I" } : Jvm.MethodName)) ∈ ms_tb := ms_i7 149 (by decide +kernel) (by decide +kernel)
theorem ms_k1590 : (Jvm.Cond.code ({ cls := "MarkupStoreModel", name := "f", desc := "(II)I" } : Jvm.MethodName) prog_14_method_2_code (3 : Nat) (Option.some Jvm.ClassFile.FieldType.int)) ∈ ms_tb := ms_i7 150 (by decide +kernel) (by decide +kernel)
theorem ms_k1607 : (Jvm.Cond.methodLink "MarkupStoreModel" (119 : Nat) ({ cls := "MarkupStoreModel", name := "doc", desc := "(I)I" } : Jvm.MethodName)) ∈ ms_tb := ms_i7 167 (by decide +kernel) (by decide +kernel)
theorem ms_k1609 : (Jvm.Cond.instanceMethod ({ cls := "MarkupStoreModel", name := "doc", desc := "(I)I" } : Jvm.MethodName)) ∈ ms_tb := ms_i7 169 (by decide +kernel) (by decide +kernel)
theorem ms_k1610 : (Jvm.Cond.code ({ cls := "MarkupStoreModel", name := "doc", desc := "(I)I" } : Jvm.MethodName) prog_14_method_5_code (2 : Nat) (Option.some Jvm.ClassFile.FieldType.int)) ∈ ms_tb := ms_i7 170 (by decide +kernel) (by decide +kernel)
theorem ms_k1615 : (Jvm.Cond.methodLink "MarkupStoreModel" (127 : Nat) ({ cls := "MarkupStoreModel", name := "depth", desc := "(I)I" } : Jvm.MethodName)) ∈ ms_tb := ms_i7 175 (by decide +kernel) (by decide +kernel)
theorem ms_k1617 : (Jvm.Cond.instanceMethod ({ cls := "MarkupStoreModel", name := "depth", desc := "(I)I" } : Jvm.MethodName)) ∈ ms_tb := ms_i7 177 (by decide +kernel) (by decide +kernel)
theorem ms_k1618 : (Jvm.Cond.code ({ cls := "MarkupStoreModel", name := "depth", desc := "(I)I" } : Jvm.MethodName) prog_14_method_8_code (4 : Nat) (Option.some Jvm.ClassFile.FieldType.int)) ∈ ms_tb := ms_i7 178 (by decide +kernel) (by decide +kernel)
theorem ms_k1623 : (Jvm.Cond.methodLink "MarkupStoreModel" (130 : Nat) ({ cls := "MarkupStoreModel", name := "order", desc := "(I)I" } : Jvm.MethodName)) ∈ ms_tb := ms_i7 183 (by decide +kernel) (by decide +kernel)
theorem ms_k1625 : (Jvm.Cond.instanceMethod ({ cls := "MarkupStoreModel", name := "order", desc := "(I)I" } : Jvm.MethodName)) ∈ ms_tb := ms_i7 185 (by decide +kernel) (by decide +kernel)
theorem ms_k1626 : (Jvm.Cond.code ({ cls := "MarkupStoreModel", name := "order", desc := "(I)I" } : Jvm.MethodName) prog_14_method_7_code (3 : Nat) (Option.some Jvm.ClassFile.FieldType.int)) ∈ ms_tb := ms_i7 186 (by decide +kernel) (by decide +kernel)
theorem ms_p62 : Cond.selects "MarkupStoreModel" (⟨"MarkupStoreModel", "count", "()I"⟩ : MethodName) (⟨"MarkupStoreModel", "count", "()I"⟩ : MethodName) ∈ ms_tb := ms_inP 62 (by decide +kernel) (by decide +kernel)
theorem ms_p63 : Cond.selects "MarkupStoreModel" (⟨"MarkupStoreModel", "f", "(II)I"⟩ : MethodName) (⟨"MarkupStoreModel", "f", "(II)I"⟩ : MethodName) ∈ ms_tb := ms_inP 63 (by decide +kernel) (by decide +kernel)
theorem ms_p67 : Cond.selects "MarkupStoreModel" (⟨"MarkupStoreModel", "doc", "(I)I"⟩ : MethodName) (⟨"MarkupStoreModel", "doc", "(I)I"⟩ : MethodName) ∈ ms_tb := ms_inP 67 (by decide +kernel) (by decide +kernel)
theorem ms_p69 : Cond.selects "MarkupStoreModel" (⟨"MarkupStoreModel", "depth", "(I)I"⟩ : MethodName) (⟨"MarkupStoreModel", "depth", "(I)I"⟩ : MethodName) ∈ ms_tb := ms_inP 69 (by decide +kernel) (by decide +kernel)
theorem ms_p71 : Cond.selects "MarkupStoreModel" (⟨"MarkupStoreModel", "order", "(I)I"⟩ : MethodName) (⟨"MarkupStoreModel", "order", "(I)I"⟩ : MethodName) ∈ ms_tb := ms_inP 71 (by decide +kernel) (by decide +kernel)
abbrev bM40 : ByteArray := prog_14_method_2_code
def yM40 : MethodName := ⟨"MarkupStoreModel", "f", "(II)I"⟩
abbrev bM41 : ByteArray := prog_14_method_3_code
def yM41 : MethodName := ⟨"MarkupStoreModel", "set", "(III)V"⟩
abbrev bM42 : ByteArray := prog_14_method_4_code
def yM42 : MethodName := ⟨"MarkupStoreModel", "count", "()I"⟩
abbrev bM43 : ByteArray := prog_14_method_5_code
def yM43 : MethodName := ⟨"MarkupStoreModel", "doc", "(I)I"⟩
abbrev bM44 : ByteArray := prog_14_method_6_code
def yM44 : MethodName := ⟨"MarkupStoreModel", "place", "(I)I"⟩
abbrev bM45 : ByteArray := prog_14_method_7_code
def yM45 : MethodName := ⟨"MarkupStoreModel", "order", "(I)I"⟩
abbrev bM46 : ByteArray := prog_14_method_8_code
def yM46 : MethodName := ⟨"MarkupStoreModel", "depth", "(I)I"⟩
abbrev bM47 : ByteArray := prog_14_method_9_code
def yM47 : MethodName := ⟨"MarkupStoreModel", "end", "(I)I"⟩
abbrev bM48 : ByteArray := prog_14_method_10_code
def yM48 : MethodName := ⟨"MarkupStoreModel", "sibling", "(II)I"⟩
abbrev bM49 : ByteArray := prog_14_method_11_code
def yM49 : MethodName := ⟨"MarkupStoreModel", "child", "(II)I"⟩
abbrev bM50 : ByteArray := prog_14_method_12_code
def yM50 : MethodName := ⟨"MarkupStoreModel", "look", "(I)C"⟩
abbrev bM51 : ByteArray := prog_14_method_13_code
def yM51 : MethodName := ⟨"MarkupStoreModel", "small", "(C)Z"⟩
theorem d40_0 : decode bM40 0 = .ok (.aload_n 0, 1) := by decide +kernel
theorem d40_1 : decode bM40 1 = .ok (.getfield 7, 3) := by decide +kernel
theorem d40_4 : decode bM40 4 = .ok (.sipush 128, 3) := by decide +kernel
theorem d40_7 : decode bM40 7 = .ok (.iload_n 1, 1) := by decide +kernel
theorem d40_8 : decode bM40 8 = .ok (.imul, 1) := by decide +kernel
theorem d40_9 : decode bM40 9 = .ok (.iload_n 2, 1) := by decide +kernel
theorem d40_10 : decode bM40 10 = .ok (.iadd, 1) := by decide +kernel
theorem d40_11 : decode bM40 11 = .ok (.iaload, 1) := by decide +kernel
theorem d40_12 : decode bM40 12 = .ok (.ireturn, 1) := by decide +kernel
theorem d41_0 : decode bM41 0 = .ok (.aload_n 0, 1) := by decide +kernel
theorem d41_1 : decode bM41 1 = .ok (.getfield 7, 3) := by decide +kernel
theorem d41_4 : decode bM41 4 = .ok (.sipush 128, 3) := by decide +kernel
theorem d41_7 : decode bM41 7 = .ok (.iload_n 1, 1) := by decide +kernel
theorem d41_8 : decode bM41 8 = .ok (.imul, 1) := by decide +kernel
theorem d41_9 : decode bM41 9 = .ok (.iload_n 2, 1) := by decide +kernel
theorem d41_10 : decode bM41 10 = .ok (.iadd, 1) := by decide +kernel
theorem d41_11 : decode bM41 11 = .ok (.iload_n 3, 1) := by decide +kernel
theorem d41_12 : decode bM41 12 = .ok (.iastore, 1) := by decide +kernel
theorem d41_13 : decode bM41 13 = .ok (.return_, 1) := by decide +kernel
theorem d42_0 : decode bM42 0 = .ok (.aload_n 0, 1) := by decide +kernel
theorem d42_1 : decode bM42 1 = .ok (.getfield 7, 3) := by decide +kernel
theorem d42_4 : decode bM42 4 = .ok (.sipush 5160, 3) := by decide +kernel
theorem d42_7 : decode bM42 7 = .ok (.iaload, 1) := by decide +kernel
theorem d42_8 : decode bM42 8 = .ok (.ireturn, 1) := by decide +kernel
theorem d43_0 : decode bM43 0 = .ok (.aload_n 0, 1) := by decide +kernel
theorem d43_1 : decode bM43 1 = .ok (.getfield 7, 3) := by decide +kernel
theorem d43_4 : decode bM43 4 = .ok (.sipush 5120, 3) := by decide +kernel
theorem d43_7 : decode bM43 7 = .ok (.iload_n 1, 1) := by decide +kernel
theorem d43_8 : decode bM43 8 = .ok (.iadd, 1) := by decide +kernel
theorem d43_9 : decode bM43 9 = .ok (.iaload, 1) := by decide +kernel
theorem d43_10 : decode bM43 10 = .ok (.ireturn, 1) := by decide +kernel
theorem d44_0 : decode bM44 0 = .ok (.iconst 0, 1) := by decide +kernel
theorem d44_1 : decode bM44 1 = .ok (.istore_n 2, 1) := by decide +kernel
theorem d44_2 : decode bM44 2 = .ok (.iload_n 2, 1) := by decide +kernel
theorem d44_3 : decode bM44 3 = .ok (.aload_n 0, 1) := by decide +kernel
theorem d44_4 : decode bM44 4 = .ok (.invokevirtual 115, 3) := by decide +kernel
theorem d44_7 : decode bM44 7 = .ok (.if_icmp .ge 31, 3) := by decide +kernel
theorem d44_10 : decode bM44 10 = .ok (.aload_n 0, 1) := by decide +kernel
theorem d44_11 : decode bM44 11 = .ok (.aload_n 0, 1) := by decide +kernel
theorem d44_12 : decode bM44 12 = .ok (.iload_n 2, 1) := by decide +kernel
theorem d44_13 : decode bM44 13 = .ok (.invokevirtual 119, 3) := by decide +kernel
theorem d44_16 : decode bM44 16 = .ok (.iconst 0, 1) := by decide +kernel
theorem d44_17 : decode bM44 17 = .ok (.invokevirtual 123, 3) := by decide +kernel
theorem d44_20 : decode bM44 20 = .ok (.iconst 1, 1) := by decide +kernel
theorem d44_21 : decode bM44 21 = .ok (.isub, 1) := by decide +kernel
theorem d44_22 : decode bM44 22 = .ok (.iload_n 1, 1) := by decide +kernel
theorem d44_23 : decode bM44 23 = .ok (.if_icmp .ne 9, 3) := by decide +kernel
theorem d44_26 : decode bM44 26 = .ok (.aload_n 0, 1) := by decide +kernel
theorem d44_27 : decode bM44 27 = .ok (.iload_n 2, 1) := by decide +kernel
theorem d44_28 : decode bM44 28 = .ok (.invokevirtual 119, 3) := by decide +kernel
theorem d44_31 : decode bM44 31 = .ok (.ireturn, 1) := by decide +kernel
theorem d44_32 : decode bM44 32 = .ok (.iinc 2 1, 3) := by decide +kernel
theorem d44_35 : decode bM44 35 = .ok (.goto (-33), 3) := by decide +kernel
theorem d44_38 : decode bM44 38 = .ok (.iconst (-1), 1) := by decide +kernel
theorem d44_39 : decode bM44 39 = .ok (.ireturn, 1) := by decide +kernel
theorem d45_0 : decode bM45 0 = .ok (.iconst 0, 1) := by decide +kernel
theorem d45_1 : decode bM45 1 = .ok (.istore_n 2, 1) := by decide +kernel
theorem d45_2 : decode bM45 2 = .ok (.iload_n 2, 1) := by decide +kernel
theorem d45_3 : decode bM45 3 = .ok (.aload_n 0, 1) := by decide +kernel
theorem d45_4 : decode bM45 4 = .ok (.invokevirtual 115, 3) := by decide +kernel
theorem d45_7 : decode bM45 7 = .ok (.if_icmp .ge 18, 3) := by decide +kernel
theorem d45_10 : decode bM45 10 = .ok (.aload_n 0, 1) := by decide +kernel
theorem d45_11 : decode bM45 11 = .ok (.iload_n 2, 1) := by decide +kernel
theorem d45_12 : decode bM45 12 = .ok (.invokevirtual 119, 3) := by decide +kernel
theorem d45_15 : decode bM45 15 = .ok (.iload_n 1, 1) := by decide +kernel
theorem d45_16 : decode bM45 16 = .ok (.if_icmp .eq 9, 3) := by decide +kernel
theorem d45_19 : decode bM45 19 = .ok (.iinc 2 1, 3) := by decide +kernel
theorem d45_22 : decode bM45 22 = .ok (.goto (-20), 3) := by decide +kernel
theorem d45_25 : decode bM45 25 = .ok (.iload_n 2, 1) := by decide +kernel
theorem d45_26 : decode bM45 26 = .ok (.ireturn, 1) := by decide +kernel
theorem d46_0 : decode bM46 0 = .ok (.iconst 0, 1) := by decide +kernel
theorem d46_1 : decode bM46 1 = .ok (.istore_n 2, 1) := by decide +kernel
theorem d46_2 : decode bM46 2 = .ok (.aload_n 0, 1) := by decide +kernel
theorem d46_3 : decode bM46 3 = .ok (.iload_n 1, 1) := by decide +kernel
theorem d46_4 : decode bM46 4 = .ok (.iconst 2, 1) := by decide +kernel
theorem d46_5 : decode bM46 5 = .ok (.invokevirtual 123, 3) := by decide +kernel
theorem d46_8 : decode bM46 8 = .ok (.istore_n 3, 1) := by decide +kernel
theorem d46_9 : decode bM46 9 = .ok (.iload_n 3, 1) := by decide +kernel
theorem d46_10 : decode bM46 10 = .ok (.ifCond .lt 16, 3) := by decide +kernel
theorem d46_13 : decode bM46 13 = .ok (.iinc 2 1, 3) := by decide +kernel
theorem d46_16 : decode bM46 16 = .ok (.aload_n 0, 1) := by decide +kernel
theorem d46_17 : decode bM46 17 = .ok (.iload_n 3, 1) := by decide +kernel
theorem d46_18 : decode bM46 18 = .ok (.iconst 2, 1) := by decide +kernel
theorem d46_19 : decode bM46 19 = .ok (.invokevirtual 123, 3) := by decide +kernel
theorem d46_22 : decode bM46 22 = .ok (.istore_n 3, 1) := by decide +kernel
theorem d46_23 : decode bM46 23 = .ok (.goto (-14), 3) := by decide +kernel
theorem d46_26 : decode bM46 26 = .ok (.iload_n 2, 1) := by decide +kernel
theorem d46_27 : decode bM46 27 = .ok (.ireturn, 1) := by decide +kernel
theorem d47_0 : decode bM47 0 = .ok (.aload_n 0, 1) := by decide +kernel
theorem d47_1 : decode bM47 1 = .ok (.aload_n 0, 1) := by decide +kernel
theorem d47_2 : decode bM47 2 = .ok (.iload_n 1, 1) := by decide +kernel
theorem d47_3 : decode bM47 3 = .ok (.invokevirtual 119, 3) := by decide +kernel
theorem d47_6 : decode bM47 6 = .ok (.invokevirtual 127, 3) := by decide +kernel
theorem d47_9 : decode bM47 9 = .ok (.istore_n 2, 1) := by decide +kernel
theorem d47_10 : decode bM47 10 = .ok (.iload_n 1, 1) := by decide +kernel
theorem d47_11 : decode bM47 11 = .ok (.iconst 1, 1) := by decide +kernel
theorem d47_12 : decode bM47 12 = .ok (.iadd, 1) := by decide +kernel
theorem d47_13 : decode bM47 13 = .ok (.istore_n 3, 1) := by decide +kernel
theorem d47_14 : decode bM47 14 = .ok (.iload_n 3, 1) := by decide +kernel
theorem d47_15 : decode bM47 15 = .ok (.aload_n 0, 1) := by decide +kernel
theorem d47_16 : decode bM47 16 = .ok (.invokevirtual 115, 3) := by decide +kernel
theorem d47_19 : decode bM47 19 = .ok (.if_icmp .ge 22, 3) := by decide +kernel
theorem d47_22 : decode bM47 22 = .ok (.aload_n 0, 1) := by decide +kernel
theorem d47_23 : decode bM47 23 = .ok (.aload_n 0, 1) := by decide +kernel
theorem d47_24 : decode bM47 24 = .ok (.iload_n 3, 1) := by decide +kernel
theorem d47_25 : decode bM47 25 = .ok (.invokevirtual 119, 3) := by decide +kernel
theorem d47_28 : decode bM47 28 = .ok (.invokevirtual 127, 3) := by decide +kernel
theorem d47_31 : decode bM47 31 = .ok (.iload_n 2, 1) := by decide +kernel
theorem d47_32 : decode bM47 32 = .ok (.if_icmp .le 9, 3) := by decide +kernel
theorem d47_35 : decode bM47 35 = .ok (.iinc 3 1, 3) := by decide +kernel
theorem d47_38 : decode bM47 38 = .ok (.goto (-24), 3) := by decide +kernel
theorem d47_41 : decode bM47 41 = .ok (.iload_n 3, 1) := by decide +kernel
theorem d47_42 : decode bM47 42 = .ok (.ireturn, 1) := by decide +kernel
theorem d48_0 : decode bM48 0 = .ok (.aload_n 0, 1) := by decide +kernel
theorem d48_1 : decode bM48 1 = .ok (.iload_n 1, 1) := by decide +kernel
theorem d48_2 : decode bM48 2 = .ok (.invokevirtual 130, 3) := by decide +kernel
theorem d48_5 : decode bM48 5 = .ok (.iload_n 2, 1) := by decide +kernel
theorem d48_6 : decode bM48 6 = .ok (.iadd, 1) := by decide +kernel
theorem d48_7 : decode bM48 7 = .ok (.istore_n 3, 1) := by decide +kernel
theorem d48_8 : decode bM48 8 = .ok (.iload_n 3, 1) := by decide +kernel
theorem d48_9 : decode bM48 9 = .ok (.ifCond .lt 43, 3) := by decide +kernel
theorem d48_12 : decode bM48 12 = .ok (.iload_n 3, 1) := by decide +kernel
theorem d48_13 : decode bM48 13 = .ok (.aload_n 0, 1) := by decide +kernel
theorem d48_14 : decode bM48 14 = .ok (.invokevirtual 115, 3) := by decide +kernel
theorem d48_17 : decode bM48 17 = .ok (.if_icmp .ge 35, 3) := by decide +kernel
theorem d48_20 : decode bM48 20 = .ok (.aload_n 0, 1) := by decide +kernel
theorem d48_21 : decode bM48 21 = .ok (.aload_n 0, 1) := by decide +kernel
theorem d48_22 : decode bM48 22 = .ok (.iload_n 3, 1) := by decide +kernel
theorem d48_23 : decode bM48 23 = .ok (.invokevirtual 119, 3) := by decide +kernel
theorem d48_26 : decode bM48 26 = .ok (.iconst 2, 1) := by decide +kernel
theorem d48_27 : decode bM48 27 = .ok (.invokevirtual 123, 3) := by decide +kernel
theorem d48_30 : decode bM48 30 = .ok (.aload_n 0, 1) := by decide +kernel
theorem d48_31 : decode bM48 31 = .ok (.iload_n 1, 1) := by decide +kernel
theorem d48_32 : decode bM48 32 = .ok (.iconst 2, 1) := by decide +kernel
theorem d48_33 : decode bM48 33 = .ok (.invokevirtual 123, 3) := by decide +kernel
theorem d48_36 : decode bM48 36 = .ok (.if_icmp .ne 9, 3) := by decide +kernel
theorem d48_39 : decode bM48 39 = .ok (.aload_n 0, 1) := by decide +kernel
theorem d48_40 : decode bM48 40 = .ok (.iload_n 3, 1) := by decide +kernel
theorem d48_41 : decode bM48 41 = .ok (.invokevirtual 119, 3) := by decide +kernel
theorem d48_44 : decode bM48 44 = .ok (.ireturn, 1) := by decide +kernel
theorem d48_45 : decode bM48 45 = .ok (.iload_n 3, 1) := by decide +kernel
theorem d48_46 : decode bM48 46 = .ok (.iload_n 2, 1) := by decide +kernel
theorem d48_47 : decode bM48 47 = .ok (.iadd, 1) := by decide +kernel
theorem d48_48 : decode bM48 48 = .ok (.istore_n 3, 1) := by decide +kernel
theorem d48_49 : decode bM48 49 = .ok (.goto (-41), 3) := by decide +kernel
theorem d48_52 : decode bM48 52 = .ok (.iconst (-1), 1) := by decide +kernel
theorem d48_53 : decode bM48 53 = .ok (.ireturn, 1) := by decide +kernel
theorem d49_0 : decode bM49 0 = .ok (.iconst (-1), 1) := by decide +kernel
theorem d49_1 : decode bM49 1 = .ok (.istore_n 3, 1) := by decide +kernel
theorem d49_2 : decode bM49 2 = .ok (.iconst 0, 1) := by decide +kernel
theorem d49_3 : decode bM49 3 = .ok (.istore 4, 2) := by decide +kernel
theorem d49_5 : decode bM49 5 = .ok (.iload 4, 2) := by decide +kernel
theorem d49_7 : decode bM49 7 = .ok (.aload_n 0, 1) := by decide +kernel
theorem d49_8 : decode bM49 8 = .ok (.invokevirtual 115, 3) := by decide +kernel
theorem d49_11 : decode bM49 11 = .ok (.if_icmp .ge 43, 3) := by decide +kernel
theorem d49_14 : decode bM49 14 = .ok (.aload_n 0, 1) := by decide +kernel
theorem d49_15 : decode bM49 15 = .ok (.aload_n 0, 1) := by decide +kernel
theorem d49_16 : decode bM49 16 = .ok (.iload 4, 2) := by decide +kernel
theorem d49_18 : decode bM49 18 = .ok (.invokevirtual 119, 3) := by decide +kernel
theorem d49_21 : decode bM49 21 = .ok (.iconst 2, 1) := by decide +kernel
theorem d49_22 : decode bM49 22 = .ok (.invokevirtual 123, 3) := by decide +kernel
theorem d49_25 : decode bM49 25 = .ok (.iload_n 1, 1) := by decide +kernel
theorem d49_26 : decode bM49 26 = .ok (.if_icmp .ne 20, 3) := by decide +kernel
theorem d49_29 : decode bM49 29 = .ok (.iload_n 3, 1) := by decide +kernel
theorem d49_30 : decode bM49 30 = .ok (.ifCond .lt 7, 3) := by decide +kernel
theorem d49_33 : decode bM49 33 = .ok (.iload_n 2, 1) := by decide +kernel
theorem d49_34 : decode bM49 34 = .ok (.ifCond .ge 12, 3) := by decide +kernel
theorem d49_37 : decode bM49 37 = .ok (.aload_n 0, 1) := by decide +kernel
theorem d49_38 : decode bM49 38 = .ok (.iload 4, 2) := by decide +kernel
theorem d49_40 : decode bM49 40 = .ok (.invokevirtual 119, 3) := by decide +kernel
theorem d49_43 : decode bM49 43 = .ok (.goto 4, 3) := by decide +kernel
theorem d49_46 : decode bM49 46 = .ok (.iload_n 3, 1) := by decide +kernel
theorem d49_47 : decode bM49 47 = .ok (.istore_n 3, 1) := by decide +kernel
theorem d49_48 : decode bM49 48 = .ok (.iinc 4 1, 3) := by decide +kernel
theorem d49_51 : decode bM49 51 = .ok (.goto (-46), 3) := by decide +kernel
theorem d49_54 : decode bM49 54 = .ok (.iload_n 3, 1) := by decide +kernel
theorem d49_55 : decode bM49 55 = .ok (.ireturn, 1) := by decide +kernel
theorem d50_0 : decode bM50 0 = .ok (.iload_n 1, 1) := by decide +kernel
theorem d50_1 : decode bM50 1 = .ok (.ifCond .lt 20, 3) := by decide +kernel
theorem d50_4 : decode bM50 4 = .ok (.iload_n 1, 1) := by decide +kernel
theorem d50_5 : decode bM50 5 = .ok (.aload_n 0, 1) := by decide +kernel
theorem d50_6 : decode bM50 6 = .ok (.getfield 133, 3) := by decide +kernel
theorem d50_9 : decode bM50 9 = .ok (.if_icmp .ge 12, 3) := by decide +kernel
theorem d50_12 : decode bM50 12 = .ok (.aload_n 0, 1) := by decide +kernel
theorem d50_13 : decode bM50 13 = .ok (.getfield 22, 3) := by decide +kernel
theorem d50_16 : decode bM50 16 = .ok (.iload_n 1, 1) := by decide +kernel
theorem d50_17 : decode bM50 17 = .ok (.caload, 1) := by decide +kernel
theorem d50_18 : decode bM50 18 = .ok (.goto 4, 3) := by decide +kernel
theorem d50_21 : decode bM50 21 = .ok (.iconst 0, 1) := by decide +kernel
theorem d50_22 : decode bM50 22 = .ok (.ireturn, 1) := by decide +kernel
theorem d51_0 : decode bM51 0 = .ok (.iload_n 0, 1) := by decide +kernel
theorem d51_1 : decode bM51 1 = .ok (.bipush 97, 2) := by decide +kernel
theorem d51_3 : decode bM51 3 = .ok (.if_icmp .lt 13, 3) := by decide +kernel
theorem d51_6 : decode bM51 6 = .ok (.iload_n 0, 1) := by decide +kernel
theorem d51_7 : decode bM51 7 = .ok (.bipush 122, 2) := by decide +kernel
theorem d51_9 : decode bM51 9 = .ok (.if_icmp .gt 7, 3) := by decide +kernel
theorem d51_12 : decode bM51 12 = .ok (.iconst 1, 1) := by decide +kernel
theorem d51_13 : decode bM51 13 = .ok (.goto 4, 3) := by decide +kernel
theorem d51_16 : decode bM51 16 = .ok (.iconst 0, 1) := by decide +kernel
theorem d51_17 : decode bM51 17 = .ok (.ireturn, 1) := by decide +kernel
def g_f (y1 : Int32) (y2 : Int32) (st : mT) : Option (Int32 × mT) := (mm_ld (st.2.1 0) 5161 ((128 * y1) + y2) (fun v1 => (some (v1, st))))
set_option maxRecDepth 100000 in
set_option maxHeartbeats 8000000 in
theorem cm_f (l : Launch) (D : va_G) (dA : Nat → ClassId) (s0 : State) (hE : ms_EV D dA s0) (h0 : hm_T) (r : Nat) (M : Nat → Nat) (hM : mm_ok r M) (z0 : hz_T) (y1 : Int32) (y2 : Int32) (st : mT) (q : Int32 × mT) (hg : g_f y1 y2 st = some q) : ht_C l D s0 yM40 bM40 3 (Option.some Jvm.ClassFile.FieldType.int) 0 0 0 0 [.ref r, .int y1, .int y2] (fun h z => h = mm_h dA h0 r M st ∧ z = z0) (fun h z vv h1 z1 => vv = some (.int q.1) ∧ h1 = mm_h dA h0 r M q.2 ∧ z1 = z0) := by
  refine ht_C.mk hE.1 (by decide) (Nat.le_of_ble_eq_true rfl) [(0, .ref r), (1, .int y1), (2, .int y2)] rfl ?_
  intro p e s m below meth c ls h z X hin hpre I hl
  have hx := X.1
  have hb := X.2.1
  have hml := X.2.2.1
  have hown : s.vm.findClass "MarkupStoreModel" = some m.cls := X.2.2.2.1
  have hts := X.2.2.2.2.2.2.1
  have hK := X.2.2.2.2.2.2.2.2.1
  rw [hpre.1, hpre.2] at I
  clear hpre
  have hF := hg
  unfold g_f at hF
  refine lv_aload_n hx hb d40_0 rfl (lv_at hl 0 rfl) ?_
  refine va_get (D := D) (ci := 2) (v := .ref (M 0)) (C := kR2) (T := kT2) (N := 60) hx hb hts ku2 hown hK (hm_one I.1 mm_hr) 0 rfl rfl 0 (by decide) (hts _ ms_k1316) (fun _ h => h) rfl d40_1 ?_
  refine lv_sipush (v := 128) hx hb d40_4 (by decide) ?_
  refine lv_iload_n hx hb d40_7 rfl (lv_at hl 1 rfl) ?_
  refine lv_imul hx hb d40_8 ?_
  refine lv_iload_n hx hb d40_9 rfl (lv_at hl 2 rfl) ?_
  refine lv_iadd hx hb d40_10 ?_
  obtain ⟨v1, i9, e9, hF⟩ := mm_ld_some hF
  refine va_iald hx hb hK (hm_one I.1 (mm_a0 hM)) 0 0 rfl rfl i9 d40_11 ?_
  refine ms_top (y := v1) e9 ?_
  clear e9 i9
  exact ht_iret X d40_12 I (Nat.le_of_ble_eq_true rfl) (Nat.le_of_ble_eq_true rfl) (mm_fin hF)

def g_set (y1 : Int32) (y2 : Int32) (y3 : Int32) (st : mT) : Option (mT) := (mm_ix 5161 ((128 * y1) + y2) (fun j2 => mm_lt (mm_G st 0 j2 y3) (fun st1 => (some st1))))
set_option maxRecDepth 100000 in
set_option maxHeartbeats 8000000 in
theorem cm_set (l : Launch) (D : va_G) (dA : Nat → ClassId) (s0 : State) (hE : ms_EV D dA s0) (h0 : hm_T) (r : Nat) (M : Nat → Nat) (hM : mm_ok r M) (z0 : hz_T) (y1 : Int32) (y2 : Int32) (y3 : Int32) (st : mT) (q : mT) (hg : g_set y1 y2 y3 st = some q) : ht_C l D s0 yM41 bM41 4 (Option.none : Option Jvm.ClassFile.FieldType) 0 0 0 0 [.ref r, .int y1, .int y2, .int y3] (fun h z => h = mm_h dA h0 r M st ∧ z = z0) (fun h z vv h1 z1 => vv = none ∧ h1 = mm_h dA h0 r M q ∧ z1 = z0) := by
  refine ht_C.mk hE.1 (by decide) (Nat.le_of_ble_eq_true rfl) [(0, .ref r), (1, .int y1), (2, .int y2), (3, .int y3)] rfl ?_
  intro p e s m below meth c ls h z X hin hpre I hl
  have hx := X.1
  have hb := X.2.1
  have hml := X.2.2.1
  have hown : s.vm.findClass "MarkupStoreModel" = some m.cls := X.2.2.2.1
  have hts := X.2.2.2.2.2.2.1
  have hK := X.2.2.2.2.2.2.2.2.1
  rw [hpre.1, hpre.2] at I
  clear hpre
  have hF := hg
  unfold g_set at hF
  refine lv_aload_n hx hb d41_0 rfl (lv_at hl 0 rfl) ?_
  refine va_get (D := D) (ci := 2) (v := .ref (M 0)) (C := kR2) (T := kT2) (N := 60) hx hb hts ku2 hown hK (hm_one I.1 mm_hr) 0 rfl rfl 0 (by decide) (hts _ ms_k1316) (fun _ h => h) rfl d41_1 ?_
  refine lv_sipush (v := 128) hx hb d41_4 (by decide) ?_
  refine lv_iload_n hx hb d41_7 rfl (lv_at hl 1 rfl) ?_
  refine lv_imul hx hb d41_8 ?_
  refine lv_iload_n hx hb d41_9 rfl (lv_at hl 2 rfl) ?_
  refine lv_iadd hx hb d41_10 ?_
  refine lv_iload_n hx hb d41_11 rfl (lv_at hl 3 rfl) ?_
  obtain ⟨i9, hF⟩ := mm_ix_some hF
  obtain ⟨st1, e9, hF⟩ := mm_lt_some hF
  refine mm_iast (k := 0) X I hM (by decide) 0 (fun _ => rfl) rfl i9 e9 d41_12 (fun H locs I => ?_)
  clear e9 i9
  exact ht_vret X d41_13 I (Nat.le_of_ble_eq_true rfl) (Nat.le_of_ble_eq_true rfl) (mm_finV hF)

def g_count (st : mT) : Option (Int32 × mT) := (mm_ld (st.2.1 0) 5161 5160 (fun v1 => (some (v1, st))))
set_option maxRecDepth 100000 in
set_option maxHeartbeats 8000000 in
theorem cm_count (l : Launch) (D : va_G) (dA : Nat → ClassId) (s0 : State) (hE : ms_EV D dA s0) (h0 : hm_T) (r : Nat) (M : Nat → Nat) (hM : mm_ok r M) (z0 : hz_T) (st : mT) (q : Int32 × mT) (hg : g_count st = some q) : ht_C l D s0 yM42 bM42 1 (Option.some Jvm.ClassFile.FieldType.int) 0 0 0 0 [.ref r] (fun h z => h = mm_h dA h0 r M st ∧ z = z0) (fun h z vv h1 z1 => vv = some (.int q.1) ∧ h1 = mm_h dA h0 r M q.2 ∧ z1 = z0) := by
  refine ht_C.mk hE.1 (by decide) (Nat.le_of_ble_eq_true rfl) [(0, .ref r)] rfl ?_
  intro p e s m below meth c ls h z X hin hpre I hl
  have hx := X.1
  have hb := X.2.1
  have hml := X.2.2.1
  have hown : s.vm.findClass "MarkupStoreModel" = some m.cls := X.2.2.2.1
  have hts := X.2.2.2.2.2.2.1
  have hK := X.2.2.2.2.2.2.2.2.1
  rw [hpre.1, hpre.2] at I
  clear hpre
  have hF := hg
  unfold g_count at hF
  refine lv_aload_n hx hb d42_0 rfl (lv_at hl 0 rfl) ?_
  refine va_get (D := D) (ci := 2) (v := .ref (M 0)) (C := kR2) (T := kT2) (N := 60) hx hb hts ku2 hown hK (hm_one I.1 mm_hr) 0 rfl rfl 0 (by decide) (hts _ ms_k1316) (fun _ h => h) rfl d42_1 ?_
  refine lv_sipush (v := 5160) hx hb d42_4 (by decide) ?_
  obtain ⟨v1, i9, e9, hF⟩ := mm_ld_some hF
  refine va_iald hx hb hK (hm_one I.1 (mm_a0 hM)) 0 0 rfl rfl i9 d42_7 ?_
  refine ms_top (y := v1) e9 ?_
  clear e9 i9
  exact ht_iret X d42_8 I (Nat.le_of_ble_eq_true rfl) (Nat.le_of_ble_eq_true rfl) (mm_fin hF)

def g_doc (y1 : Int32) (st : mT) : Option (Int32 × mT) := (mm_ld (st.2.1 0) 5161 (5120 + y1) (fun v1 => (some (v1, st))))
set_option maxRecDepth 100000 in
set_option maxHeartbeats 8000000 in
theorem cm_doc (l : Launch) (D : va_G) (dA : Nat → ClassId) (s0 : State) (hE : ms_EV D dA s0) (h0 : hm_T) (r : Nat) (M : Nat → Nat) (hM : mm_ok r M) (z0 : hz_T) (y1 : Int32) (st : mT) (q : Int32 × mT) (hg : g_doc y1 st = some q) : ht_C l D s0 yM43 bM43 2 (Option.some Jvm.ClassFile.FieldType.int) 0 0 0 0 [.ref r, .int y1] (fun h z => h = mm_h dA h0 r M st ∧ z = z0) (fun h z vv h1 z1 => vv = some (.int q.1) ∧ h1 = mm_h dA h0 r M q.2 ∧ z1 = z0) := by
  refine ht_C.mk hE.1 (by decide) (Nat.le_of_ble_eq_true rfl) [(0, .ref r), (1, .int y1)] rfl ?_
  intro p e s m below meth c ls h z X hin hpre I hl
  have hx := X.1
  have hb := X.2.1
  have hml := X.2.2.1
  have hown : s.vm.findClass "MarkupStoreModel" = some m.cls := X.2.2.2.1
  have hts := X.2.2.2.2.2.2.1
  have hK := X.2.2.2.2.2.2.2.2.1
  rw [hpre.1, hpre.2] at I
  clear hpre
  have hF := hg
  unfold g_doc at hF
  refine lv_aload_n hx hb d43_0 rfl (lv_at hl 0 rfl) ?_
  refine va_get (D := D) (ci := 2) (v := .ref (M 0)) (C := kR2) (T := kT2) (N := 60) hx hb hts ku2 hown hK (hm_one I.1 mm_hr) 0 rfl rfl 0 (by decide) (hts _ ms_k1316) (fun _ h => h) rfl d43_1 ?_
  refine lv_sipush (v := 5120) hx hb d43_4 (by decide) ?_
  refine lv_iload_n hx hb d43_7 rfl (lv_at hl 1 rfl) ?_
  refine lv_iadd hx hb d43_8 ?_
  obtain ⟨v1, i9, e9, hF⟩ := mm_ld_some hF
  refine va_iald hx hb hK (hm_one I.1 (mm_a0 hM)) 0 0 rfl rfl i9 d43_9 ?_
  refine ms_top (y := v1) e9 ?_
  clear e9 i9
  exact ht_iret X d43_10 I (Nat.le_of_ble_eq_true rfl) (Nat.le_of_ble_eq_true rfl) (mm_fin hF)

def g_place_2 : Nat → Int32 → Int32 → mT → Option (Int32 × mT)
  | 0, _, _, _ => none
  | n9 + 1, x1, x2, st => ((g_count st).bind (fun q1 => (if q1.1 ≤ x2 then (some ((-1), q1.2)) else ((g_doc x2 q1.2).bind (fun q2 => ((g_f q2.1 0 q2.2).bind (fun q3 => (if (q3.1 - 1) = x1 then ((g_doc x2 q3.2).bind (fun q4 => (some (q4.1, q4.2)))) else ((g_place_2 n9) x1 (x2 + 1) q3.2)))))))))
def g_place (y1 : Int32) (st : mT) : Option (Int32 × mT) := (g_place_2 mF y1 0 st)
set_option maxRecDepth 100000 in
set_option maxHeartbeats 8000000 in
theorem cm_place (l : Launch) (D : va_G) (dA : Nat → ClassId) (s0 : State) (hE : ms_EV D dA s0) (h0 : hm_T) (r : Nat) (M : Nat → Nat) (hM : mm_ok r M) (z0 : hz_T) (y1 : Int32) (st : mT) (q : Int32 × mT) (hg : g_place y1 st = some q) : ht_C l D s0 yM44 bM44 3 (Option.some Jvm.ClassFile.FieldType.int) 1 22 0 0 [.ref r, .int y1] (fun h z => h = mm_h dA h0 r M st ∧ z = z0) (fun h z vv h1 z1 => vv = some (.int q.1) ∧ h1 = mm_h dA h0 r M q.2 ∧ z1 = z0) := by
  refine ht_C.mk hE.1 (by decide) (Nat.le_of_ble_eq_true rfl) [(0, .ref r), (1, .int y1)] rfl ?_
  intro p e s m below meth c ls h z X hin hpre I hl
  have hx := X.1
  have hb := X.2.1
  have hml := X.2.2.1
  have hown : s.vm.findClass "MarkupStoreModel" = some m.cls := X.2.2.2.1
  have hts := X.2.2.2.2.2.2.1
  have hK := X.2.2.2.2.2.2.2.2.1
  rw [hpre.1, hpre.2] at I
  clear hpre
  have b2 : ∀ n9 : Nat, ∀ (ls : Array Slot) (x1 : Int32) (x2 : Int32) (st : mT) (H : Heap) (locs : List Loc), g_place_2 n9 x1 x2 st = some q → lv_has ls 3 [(0, .ref r), (1, .int x1), (2, .int x2)] → hm_I D s0 s (mm_h dA h0 r M st) z0 H locs → W p l e { frames := 1, cells := 0, slots := 0, locals := 22 } s m ([.ref r, .int y1] : List Value).toArray below meth c H locs 0 0 (MQ below (ht_Q D s0 (fun vv h1 z1 => vv = some (.int q.1) ∧ h1 = mm_h dA h0 r M q.2 ∧ z1 = z0)) ([.ref r, .int y1] : List Value).toArray s 0 0 (fun q => s0.heap.size ≤ q)) (F0 m 2 ls []) := by
    intro n9
    induction n9 with
    | zero => intro ls x1 x2 st H locs hF; cases hF
    | succ n9 hk2 =>
    intro ls x1 x2 st H locs hF hl I
    unfold g_place_2 at hF
    refine lv_iload_n hx hb d44_2 rfl (lv_at hl 2 rfl) ?_
    refine lv_aload_n hx hb d44_3 rfl (lv_at hl 0 rfl) ?_
    obtain ⟨q1, e9, hF⟩ := mm_bd hF
    refine ht_V (C := "MarkupStoreModel") (rest := [.int x2]) (as := []) X hl (cm_count l D dA s0 hE h0 r M hM z0 st q1 e9) (List.forall_mem_cons.mpr ⟨ms_k1583, List.forall_mem_cons.mpr ⟨ms_k1585, List.forall_mem_cons.mpr ⟨ms_p62, List.forall_mem_cons.mpr ⟨ms_k7, List.forall_mem_cons.mpr ⟨ms_k1586, fun _ h => absurd h List.not_mem_nil⟩⟩⟩⟩⟩) ⟨rfl, by decide +kernel, by decide +kernel, (by decide +kernel : (parseMethodDescriptor "()I").map (fun d => d.parameters.length) = some 0)⟩ (hm_recv hK I rfl mm_hr) I ⟨rfl, rfl⟩ ⟨⟨Nat.le_of_ble_eq_true rfl, Nat.le_of_ble_eq_true rfl⟩, Nat.le_of_ble_eq_true rfl, Nat.le_of_ble_eq_true rfl⟩ rfl (Nat.le_of_ble_eq_true rfl) d44_4 (fun vv h1 z1 H locs hR I9 => ?_)
    obtain ⟨e1, e2, e3⟩ := hR
    rw [e2, e3] at I9
    clear I e2 e3 e9
    have I := I9
    clear I9
    subst e1
    refine W.eq (g2 := F0 m 7 ls [.int q1.1, .int x2]) rfl ?_
    refine lv_icmp_ge hx hb d44_7 rfl (fun h9 => ?_) (fun h9 => ?_)
    · have hF := (if_pos h9).symm.trans hF
      refine lv_iconst (v := (-1)) hx hb d44_38 (by decide) ?_
      exact ht_iret X d44_39 I (Nat.le_of_ble_eq_true rfl) (Nat.le_of_ble_eq_true rfl) (mm_fin hF)
    · have hF := (if_neg h9).symm.trans hF
      refine lv_aload_n hx hb d44_10 rfl (lv_at hl 0 rfl) ?_
      refine lv_aload_n hx hb d44_11 rfl (lv_at hl 0 rfl) ?_
      refine lv_iload_n hx hb d44_12 rfl (lv_at hl 2 rfl) ?_
      obtain ⟨q2, e9, hF⟩ := mm_bd hF
      refine ht_V (C := "MarkupStoreModel") (rest := [.ref r]) (as := [.int x2]) X hl (cm_doc l D dA s0 hE h0 r M hM z0 x2 q1.2 q2 e9) (List.forall_mem_cons.mpr ⟨ms_k1607, List.forall_mem_cons.mpr ⟨ms_k1609, List.forall_mem_cons.mpr ⟨ms_p67, List.forall_mem_cons.mpr ⟨ms_k7, List.forall_mem_cons.mpr ⟨ms_k1610, fun _ h => absurd h List.not_mem_nil⟩⟩⟩⟩⟩) ⟨rfl, by decide +kernel, by decide +kernel, (by decide +kernel : (parseMethodDescriptor "(I)I").map (fun d => d.parameters.length) = some 1)⟩ (hm_recv hK I rfl mm_hr) I ⟨rfl, rfl⟩ ⟨⟨Nat.le_of_ble_eq_true rfl, Nat.le_of_ble_eq_true rfl⟩, Nat.le_of_ble_eq_true rfl, Nat.le_of_ble_eq_true rfl⟩ rfl (Nat.le_of_ble_eq_true rfl) d44_13 (fun vv h1 z1 H locs hR I9 => ?_)
      obtain ⟨e1, e2, e3⟩ := hR
      rw [e2, e3] at I9
      clear I e2 e3 e9
      have I := I9
      clear I9
      subst e1
      refine W.eq (g2 := F0 m 16 ls [.int q2.1, .ref r]) rfl ?_
      refine lv_iconst (v := 0) hx hb d44_16 (by decide) ?_
      obtain ⟨q3, e9, hF⟩ := mm_bd hF
      refine ht_V (C := "MarkupStoreModel") (rest := []) (as := [.int q2.1, .int 0]) X hl (cm_f l D dA s0 hE h0 r M hM z0 q2.1 0 q2.2 q3 e9) (List.forall_mem_cons.mpr ⟨ms_k1587, List.forall_mem_cons.mpr ⟨ms_k1589, List.forall_mem_cons.mpr ⟨ms_p63, List.forall_mem_cons.mpr ⟨ms_k7, List.forall_mem_cons.mpr ⟨ms_k1590, fun _ h => absurd h List.not_mem_nil⟩⟩⟩⟩⟩) ⟨rfl, by decide +kernel, by decide +kernel, (by decide +kernel : (parseMethodDescriptor "(II)I").map (fun d => d.parameters.length) = some 2)⟩ (hm_recv hK I rfl mm_hr) I ⟨rfl, rfl⟩ ⟨⟨Nat.le_of_ble_eq_true rfl, Nat.le_of_ble_eq_true rfl⟩, Nat.le_of_ble_eq_true rfl, Nat.le_of_ble_eq_true rfl⟩ rfl (Nat.le_of_ble_eq_true rfl) d44_17 (fun vv h1 z1 H locs hR I9 => ?_)
      obtain ⟨e1, e2, e3⟩ := hR
      rw [e2, e3] at I9
      clear I e2 e3 e9
      have I := I9
      clear I9
      subst e1
      refine W.eq (g2 := F0 m 20 ls [.int q3.1]) rfl ?_
      refine lv_iconst (v := 1) hx hb d44_20 (by decide) ?_
      refine lv_isub hx hb d44_21 ?_
      refine lv_iload_n hx hb d44_22 rfl (lv_at hl 1 rfl) ?_
      refine lv_icmp_ne hx hb d44_23 rfl (fun h9 => ?_) (fun h9 => ?_)
      · have hF := (if_neg h9).symm.trans hF
        refine lv_iinc (k := 2) (v := (x2 + 1)) hx hb d44_32 hl rfl (rfl) (by decide) rfl (fun ls hl => ?_)
        have hl : lv_has ls 3 [(2, .int (x2 + 1)), (0, .ref r), (1, .int x1)] := hl
        refine lv_goto hx hb d44_35 rfl ?_
        exact hk2 ls x1 (x2 + 1) q3.2 _ _ hF (hl.sub [1, 2, 0] rfl) I
      · have hF := (if_pos h9).symm.trans hF
        refine lv_aload_n hx hb d44_26 rfl (lv_at hl 0 rfl) ?_
        refine lv_iload_n hx hb d44_27 rfl (lv_at hl 2 rfl) ?_
        obtain ⟨q4, e9, hF⟩ := mm_bd hF
        refine ht_V (C := "MarkupStoreModel") (rest := []) (as := [.int x2]) X hl (cm_doc l D dA s0 hE h0 r M hM z0 x2 q3.2 q4 e9) (List.forall_mem_cons.mpr ⟨ms_k1607, List.forall_mem_cons.mpr ⟨ms_k1609, List.forall_mem_cons.mpr ⟨ms_p67, List.forall_mem_cons.mpr ⟨ms_k7, List.forall_mem_cons.mpr ⟨ms_k1610, fun _ h => absurd h List.not_mem_nil⟩⟩⟩⟩⟩) ⟨rfl, by decide +kernel, by decide +kernel, (by decide +kernel : (parseMethodDescriptor "(I)I").map (fun d => d.parameters.length) = some 1)⟩ (hm_recv hK I rfl mm_hr) I ⟨rfl, rfl⟩ ⟨⟨Nat.le_of_ble_eq_true rfl, Nat.le_of_ble_eq_true rfl⟩, Nat.le_of_ble_eq_true rfl, Nat.le_of_ble_eq_true rfl⟩ rfl (Nat.le_of_ble_eq_true rfl) d44_28 (fun vv h1 z1 H locs hR I9 => ?_)
        obtain ⟨e1, e2, e3⟩ := hR
        rw [e2, e3] at I9
        clear I e2 e3 e9
        have I := I9
        clear I9
        subst e1
        refine W.eq (g2 := F0 m 31 ls [.int q4.1]) rfl ?_
        exact ht_iret X d44_31 I (Nat.le_of_ble_eq_true rfl) (Nat.le_of_ble_eq_true rfl) (mm_fin hF)
  have hF := hg
  unfold g_place at hF
  refine lv_iconst (v := 0) hx hb d44_0 (by decide) ?_
  refine lv_istore_n hx hb d44_1 rfl hl (by decide) rfl (fun ls hl => ?_)
  have hl : lv_has ls 3 [(2, .int 0), (0, .ref r), (1, .int y1)] := hl
  exact b2 mF ls y1 0 st _ _ hF (hl.sub [1, 2, 0] rfl) I

def g_order_25 (x2 : Int32) (st : mT) : Option (Int32 × mT) := (some (x2, st))
def g_order_2 : Nat → Int32 → Int32 → mT → Option (Int32 × mT)
  | 0, _, _, _ => none
  | n9 + 1, x1, x2, st => ((g_count st).bind (fun q1 => (if q1.1 ≤ x2 then (g_order_25 x2 q1.2) else ((g_doc x2 q1.2).bind (fun q2 => (if q2.1 = x1 then (g_order_25 x2 q2.2) else ((g_order_2 n9) x1 (x2 + 1) q2.2)))))))
def g_order (y1 : Int32) (st : mT) : Option (Int32 × mT) := (g_order_2 mF y1 0 st)
set_option maxRecDepth 100000 in
set_option maxHeartbeats 8000000 in
theorem cm_order (l : Launch) (D : va_G) (dA : Nat → ClassId) (s0 : State) (hE : ms_EV D dA s0) (h0 : hm_T) (r : Nat) (M : Nat → Nat) (hM : mm_ok r M) (z0 : hz_T) (y1 : Int32) (st : mT) (q : Int32 × mT) (hg : g_order y1 st = some q) : ht_C l D s0 yM45 bM45 3 (Option.some Jvm.ClassFile.FieldType.int) 1 21 0 0 [.ref r, .int y1] (fun h z => h = mm_h dA h0 r M st ∧ z = z0) (fun h z vv h1 z1 => vv = some (.int q.1) ∧ h1 = mm_h dA h0 r M q.2 ∧ z1 = z0) := by
  refine ht_C.mk hE.1 (by decide) (Nat.le_of_ble_eq_true rfl) [(0, .ref r), (1, .int y1)] rfl ?_
  intro p e s m below meth c ls h z X hin hpre I hl
  have hx := X.1
  have hb := X.2.1
  have hml := X.2.2.1
  have hown : s.vm.findClass "MarkupStoreModel" = some m.cls := X.2.2.2.1
  have hts := X.2.2.2.2.2.2.1
  have hK := X.2.2.2.2.2.2.2.2.1
  rw [hpre.1, hpre.2] at I
  clear hpre
  have b25 : ∀ (ls : Array Slot) (x2 : Int32) (st : mT) (H : Heap) (locs : List Loc), g_order_25 x2 st = some q → lv_has ls 3 [(2, .int x2)] → hm_I D s0 s (mm_h dA h0 r M st) z0 H locs → W p l e { frames := 1, cells := 0, slots := 0, locals := 21 } s m ([.ref r, .int y1] : List Value).toArray below meth c H locs 0 0 (MQ below (ht_Q D s0 (fun vv h1 z1 => vv = some (.int q.1) ∧ h1 = mm_h dA h0 r M q.2 ∧ z1 = z0)) ([.ref r, .int y1] : List Value).toArray s 0 0 (fun q => s0.heap.size ≤ q)) (F0 m 25 ls []) := by
    intro ls x2 st H locs hF hl I
    unfold g_order_25 at hF
    refine lv_iload_n hx hb d45_25 rfl (lv_at hl 0 rfl) ?_
    exact ht_iret X d45_26 I (Nat.le_of_ble_eq_true rfl) (Nat.le_of_ble_eq_true rfl) (mm_fin hF)
  have b2 : ∀ n9 : Nat, ∀ (ls : Array Slot) (x1 : Int32) (x2 : Int32) (st : mT) (H : Heap) (locs : List Loc), g_order_2 n9 x1 x2 st = some q → lv_has ls 3 [(0, .ref r), (1, .int x1), (2, .int x2)] → hm_I D s0 s (mm_h dA h0 r M st) z0 H locs → W p l e { frames := 1, cells := 0, slots := 0, locals := 21 } s m ([.ref r, .int y1] : List Value).toArray below meth c H locs 0 0 (MQ below (ht_Q D s0 (fun vv h1 z1 => vv = some (.int q.1) ∧ h1 = mm_h dA h0 r M q.2 ∧ z1 = z0)) ([.ref r, .int y1] : List Value).toArray s 0 0 (fun q => s0.heap.size ≤ q)) (F0 m 2 ls []) := by
    intro n9
    induction n9 with
    | zero => intro ls x1 x2 st H locs hF; cases hF
    | succ n9 hk2 =>
    intro ls x1 x2 st H locs hF hl I
    unfold g_order_2 at hF
    refine lv_iload_n hx hb d45_2 rfl (lv_at hl 2 rfl) ?_
    refine lv_aload_n hx hb d45_3 rfl (lv_at hl 0 rfl) ?_
    obtain ⟨q1, e9, hF⟩ := mm_bd hF
    refine ht_V (C := "MarkupStoreModel") (rest := [.int x2]) (as := []) X hl (cm_count l D dA s0 hE h0 r M hM z0 st q1 e9) (List.forall_mem_cons.mpr ⟨ms_k1583, List.forall_mem_cons.mpr ⟨ms_k1585, List.forall_mem_cons.mpr ⟨ms_p62, List.forall_mem_cons.mpr ⟨ms_k7, List.forall_mem_cons.mpr ⟨ms_k1586, fun _ h => absurd h List.not_mem_nil⟩⟩⟩⟩⟩) ⟨rfl, by decide +kernel, by decide +kernel, (by decide +kernel : (parseMethodDescriptor "()I").map (fun d => d.parameters.length) = some 0)⟩ (hm_recv hK I rfl mm_hr) I ⟨rfl, rfl⟩ ⟨⟨Nat.le_of_ble_eq_true rfl, Nat.le_of_ble_eq_true rfl⟩, Nat.le_of_ble_eq_true rfl, Nat.le_of_ble_eq_true rfl⟩ rfl (Nat.le_of_ble_eq_true rfl) d45_4 (fun vv h1 z1 H locs hR I9 => ?_)
    obtain ⟨e1, e2, e3⟩ := hR
    rw [e2, e3] at I9
    clear I e2 e3 e9
    have I := I9
    clear I9
    subst e1
    refine W.eq (g2 := F0 m 7 ls [.int q1.1, .int x2]) rfl ?_
    refine lv_icmp_ge hx hb d45_7 rfl (fun h9 => ?_) (fun h9 => ?_)
    · have hF := (if_pos h9).symm.trans hF
      exact b25 ls x2 q1.2 _ _ hF (hl.sub [2] rfl) I
    · have hF := (if_neg h9).symm.trans hF
      refine lv_aload_n hx hb d45_10 rfl (lv_at hl 0 rfl) ?_
      refine lv_iload_n hx hb d45_11 rfl (lv_at hl 2 rfl) ?_
      obtain ⟨q2, e9, hF⟩ := mm_bd hF
      refine ht_V (C := "MarkupStoreModel") (rest := []) (as := [.int x2]) X hl (cm_doc l D dA s0 hE h0 r M hM z0 x2 q1.2 q2 e9) (List.forall_mem_cons.mpr ⟨ms_k1607, List.forall_mem_cons.mpr ⟨ms_k1609, List.forall_mem_cons.mpr ⟨ms_p67, List.forall_mem_cons.mpr ⟨ms_k7, List.forall_mem_cons.mpr ⟨ms_k1610, fun _ h => absurd h List.not_mem_nil⟩⟩⟩⟩⟩) ⟨rfl, by decide +kernel, by decide +kernel, (by decide +kernel : (parseMethodDescriptor "(I)I").map (fun d => d.parameters.length) = some 1)⟩ (hm_recv hK I rfl mm_hr) I ⟨rfl, rfl⟩ ⟨⟨Nat.le_of_ble_eq_true rfl, Nat.le_of_ble_eq_true rfl⟩, Nat.le_of_ble_eq_true rfl, Nat.le_of_ble_eq_true rfl⟩ rfl (Nat.le_of_ble_eq_true rfl) d45_12 (fun vv h1 z1 H locs hR I9 => ?_)
      obtain ⟨e1, e2, e3⟩ := hR
      rw [e2, e3] at I9
      clear I e2 e3 e9
      have I := I9
      clear I9
      subst e1
      refine W.eq (g2 := F0 m 15 ls [.int q2.1]) rfl ?_
      refine lv_iload_n hx hb d45_15 rfl (lv_at hl 1 rfl) ?_
      refine lv_icmp_eq hx hb d45_16 rfl (fun h9 => ?_) (fun h9 => ?_)
      · have hF := (if_pos h9).symm.trans hF
        exact b25 ls x2 q2.2 _ _ hF (hl.sub [2] rfl) I
      · have hF := (if_neg h9).symm.trans hF
        refine lv_iinc (k := 2) (v := (x2 + 1)) hx hb d45_19 hl rfl (rfl) (by decide) rfl (fun ls hl => ?_)
        have hl : lv_has ls 3 [(2, .int (x2 + 1)), (0, .ref r), (1, .int x1)] := hl
        refine lv_goto hx hb d45_22 rfl ?_
        exact hk2 ls x1 (x2 + 1) q2.2 _ _ hF (hl.sub [1, 2, 0] rfl) I
  have hF := hg
  unfold g_order at hF
  refine lv_iconst (v := 0) hx hb d45_0 (by decide) ?_
  refine lv_istore_n hx hb d45_1 rfl hl (by decide) rfl (fun ls hl => ?_)
  have hl : lv_has ls 3 [(2, .int 0), (0, .ref r), (1, .int y1)] := hl
  exact b2 mF ls y1 0 st _ _ hF (hl.sub [1, 2, 0] rfl) I

def g_depth_9 : Nat → Int32 → Int32 → mT → Option (Int32 × mT)
  | 0, _, _, _ => none
  | n9 + 1, x2, x3, st => (if x3 < 0 then (some (x2, st)) else ((g_f x3 2 st).bind (fun q2 => ((g_depth_9 n9) (x2 + 1) q2.1 q2.2))))
def g_depth (y1 : Int32) (st : mT) : Option (Int32 × mT) := ((g_f y1 2 st).bind (fun q1 => (g_depth_9 mF 0 q1.1 q1.2)))
set_option maxRecDepth 100000 in
set_option maxHeartbeats 8000000 in
theorem cm_depth (l : Launch) (D : va_G) (dA : Nat → ClassId) (s0 : State) (hE : ms_EV D dA s0) (h0 : hm_T) (r : Nat) (M : Nat → Nat) (hM : mm_ok r M) (z0 : hz_T) (y1 : Int32) (st : mT) (q : Int32 × mT) (hg : g_depth y1 st = some q) : ht_C l D s0 yM46 bM46 4 (Option.some Jvm.ClassFile.FieldType.int) 1 22 0 0 [.ref r, .int y1] (fun h z => h = mm_h dA h0 r M st ∧ z = z0) (fun h z vv h1 z1 => vv = some (.int q.1) ∧ h1 = mm_h dA h0 r M q.2 ∧ z1 = z0) := by
  refine ht_C.mk hE.1 (by decide) (Nat.le_of_ble_eq_true rfl) [(0, .ref r), (1, .int y1)] rfl ?_
  intro p e s m below meth c ls h z X hin hpre I hl
  have hx := X.1
  have hb := X.2.1
  have hml := X.2.2.1
  have hown : s.vm.findClass "MarkupStoreModel" = some m.cls := X.2.2.2.1
  have hts := X.2.2.2.2.2.2.1
  have hK := X.2.2.2.2.2.2.2.2.1
  rw [hpre.1, hpre.2] at I
  clear hpre
  have b9 : ∀ n9 : Nat, ∀ (ls : Array Slot) (x2 : Int32) (x3 : Int32) (st : mT) (H : Heap) (locs : List Loc), g_depth_9 n9 x2 x3 st = some q → lv_has ls 4 [(0, .ref r), (2, .int x2), (3, .int x3)] → hm_I D s0 s (mm_h dA h0 r M st) z0 H locs → W p l e { frames := 1, cells := 0, slots := 0, locals := 22 } s m ([.ref r, .int y1] : List Value).toArray below meth c H locs 0 0 (MQ below (ht_Q D s0 (fun vv h1 z1 => vv = some (.int q.1) ∧ h1 = mm_h dA h0 r M q.2 ∧ z1 = z0)) ([.ref r, .int y1] : List Value).toArray s 0 0 (fun q => s0.heap.size ≤ q)) (F0 m 9 ls []) := by
    intro n9
    induction n9 with
    | zero => intro ls x2 x3 st H locs hF; cases hF
    | succ n9 hk9 =>
    intro ls x2 x3 st H locs hF hl I
    unfold g_depth_9 at hF
    refine lv_iload_n hx hb d46_9 rfl (lv_at hl 2 rfl) ?_
    refine lv_if_lt hx hb d46_10 rfl (fun h9 => ?_) (fun h9 => ?_)
    · have hF := (if_pos h9).symm.trans hF
      refine lv_iload_n hx hb d46_26 rfl (lv_at hl 1 rfl) ?_
      exact ht_iret X d46_27 I (Nat.le_of_ble_eq_true rfl) (Nat.le_of_ble_eq_true rfl) (mm_fin hF)
    · have hF := (if_neg h9).symm.trans hF
      refine lv_iinc (k := 1) (v := (x2 + 1)) hx hb d46_13 hl rfl (rfl) (by decide) rfl (fun ls hl => ?_)
      have hl : lv_has ls 4 [(2, .int (x2 + 1)), (0, .ref r), (3, .int x3)] := hl
      refine lv_aload_n hx hb d46_16 rfl (lv_at hl 1 rfl) ?_
      refine lv_iload_n hx hb d46_17 rfl (lv_at hl 2 rfl) ?_
      refine lv_iconst (v := 2) hx hb d46_18 (by decide) ?_
      obtain ⟨q2, e9, hF⟩ := mm_bd hF
      refine ht_V (C := "MarkupStoreModel") (rest := []) (as := [.int x3, .int 2]) X hl (cm_f l D dA s0 hE h0 r M hM z0 x3 2 st q2 e9) (List.forall_mem_cons.mpr ⟨ms_k1587, List.forall_mem_cons.mpr ⟨ms_k1589, List.forall_mem_cons.mpr ⟨ms_p63, List.forall_mem_cons.mpr ⟨ms_k7, List.forall_mem_cons.mpr ⟨ms_k1590, fun _ h => absurd h List.not_mem_nil⟩⟩⟩⟩⟩) ⟨rfl, by decide +kernel, by decide +kernel, (by decide +kernel : (parseMethodDescriptor "(II)I").map (fun d => d.parameters.length) = some 2)⟩ (hm_recv hK I rfl mm_hr) I ⟨rfl, rfl⟩ ⟨⟨Nat.le_of_ble_eq_true rfl, Nat.le_of_ble_eq_true rfl⟩, Nat.le_of_ble_eq_true rfl, Nat.le_of_ble_eq_true rfl⟩ rfl (Nat.le_of_ble_eq_true rfl) d46_19 (fun vv h1 z1 H locs hR I9 => ?_)
      obtain ⟨e1, e2, e3⟩ := hR
      rw [e2, e3] at I9
      clear I e2 e3 e9
      have I := I9
      clear I9
      subst e1
      refine W.eq (g2 := F0 m 22 ls [.int q2.1]) rfl ?_
      refine lv_istore_n hx hb d46_22 rfl hl (by decide) rfl (fun ls hl => ?_)
      have hl : lv_has ls 4 [(3, .int q2.1), (2, .int (x2 + 1)), (0, .ref r)] := hl
      refine lv_goto hx hb d46_23 rfl ?_
      exact hk9 ls (x2 + 1) q2.1 q2.2 _ _ hF (hl.sub [2, 1, 0] rfl) I
  have hF := hg
  unfold g_depth at hF
  refine lv_iconst (v := 0) hx hb d46_0 (by decide) ?_
  refine lv_istore_n hx hb d46_1 rfl hl (by decide) rfl (fun ls hl => ?_)
  have hl : lv_has ls 4 [(2, .int 0), (0, .ref r), (1, .int y1)] := hl
  refine lv_aload_n hx hb d46_2 rfl (lv_at hl 1 rfl) ?_
  refine lv_iload_n hx hb d46_3 rfl (lv_at hl 2 rfl) ?_
  refine lv_iconst (v := 2) hx hb d46_4 (by decide) ?_
  obtain ⟨q1, e9, hF⟩ := mm_bd hF
  refine ht_V (C := "MarkupStoreModel") (rest := []) (as := [.int y1, .int 2]) X hl (cm_f l D dA s0 hE h0 r M hM z0 y1 2 st q1 e9) (List.forall_mem_cons.mpr ⟨ms_k1587, List.forall_mem_cons.mpr ⟨ms_k1589, List.forall_mem_cons.mpr ⟨ms_p63, List.forall_mem_cons.mpr ⟨ms_k7, List.forall_mem_cons.mpr ⟨ms_k1590, fun _ h => absurd h List.not_mem_nil⟩⟩⟩⟩⟩) ⟨rfl, by decide +kernel, by decide +kernel, (by decide +kernel : (parseMethodDescriptor "(II)I").map (fun d => d.parameters.length) = some 2)⟩ (hm_recv hK I rfl mm_hr) I ⟨rfl, rfl⟩ ⟨⟨Nat.le_of_ble_eq_true rfl, Nat.le_of_ble_eq_true rfl⟩, Nat.le_of_ble_eq_true rfl, Nat.le_of_ble_eq_true rfl⟩ rfl (Nat.le_of_ble_eq_true rfl) d46_5 (fun vv h1 z1 H locs hR I9 => ?_)
  obtain ⟨e1, e2, e3⟩ := hR
  rw [e2, e3] at I9
  clear I e2 e3 e9
  have I := I9
  clear I9
  subst e1
  refine W.eq (g2 := F0 m 8 ls [.int q1.1]) rfl ?_
  refine lv_istore_n hx hb d46_8 rfl hl (by decide) rfl (fun ls hl => ?_)
  have hl : lv_has ls 4 [(3, .int q1.1), (2, .int 0), (0, .ref r), (1, .int y1)] := hl
  exact b9 mF ls 0 q1.1 q1.2 _ _ hF (hl.sub [2, 1, 0] rfl) I

def g_end_41 (x3 : Int32) (st : mT) : Option (Int32 × mT) := (some (x3, st))
def g_end_14 : Nat → Int32 → Int32 → mT → Option (Int32 × mT)
  | 0, _, _, _ => none
  | n9 + 1, x2, x3, st => ((g_count st).bind (fun q3 => (if q3.1 ≤ x3 then (g_end_41 x3 q3.2) else ((g_doc x3 q3.2).bind (fun q4 => ((g_depth q4.1 q4.2).bind (fun q5 => (if q5.1 ≤ x2 then (g_end_41 x3 q5.2) else ((g_end_14 n9) x2 (x3 + 1) q5.2)))))))))
def g_end (y1 : Int32) (st : mT) : Option (Int32 × mT) := ((g_doc y1 st).bind (fun q1 => ((g_depth q1.1 q1.2).bind (fun q2 => (g_end_14 mF q2.1 (y1 + 1) q2.2)))))
set_option maxRecDepth 100000 in
set_option maxHeartbeats 8000000 in
theorem cm_end (l : Launch) (D : va_G) (dA : Nat → ClassId) (s0 : State) (hE : ms_EV D dA s0) (h0 : hm_T) (r : Nat) (M : Nat → Nat) (hM : mm_ok r M) (z0 : hz_T) (y1 : Int32) (st : mT) (q : Int32 × mT) (hg : g_end y1 st = some q) : ht_C l D s0 yM47 bM47 4 (Option.some Jvm.ClassFile.FieldType.int) 2 45 0 0 [.ref r, .int y1] (fun h z => h = mm_h dA h0 r M st ∧ z = z0) (fun h z vv h1 z1 => vv = some (.int q.1) ∧ h1 = mm_h dA h0 r M q.2 ∧ z1 = z0) := by
  refine ht_C.mk hE.1 (by decide) (Nat.le_of_ble_eq_true rfl) [(0, .ref r), (1, .int y1)] rfl ?_
  intro p e s m below meth c ls h z X hin hpre I hl
  have hx := X.1
  have hb := X.2.1
  have hml := X.2.2.1
  have hown : s.vm.findClass "MarkupStoreModel" = some m.cls := X.2.2.2.1
  have hts := X.2.2.2.2.2.2.1
  have hK := X.2.2.2.2.2.2.2.2.1
  rw [hpre.1, hpre.2] at I
  clear hpre
  have b41 : ∀ (ls : Array Slot) (x3 : Int32) (st : mT) (H : Heap) (locs : List Loc), g_end_41 x3 st = some q → lv_has ls 4 [(3, .int x3)] → hm_I D s0 s (mm_h dA h0 r M st) z0 H locs → W p l e { frames := 2, cells := 0, slots := 0, locals := 45 } s m ([.ref r, .int y1] : List Value).toArray below meth c H locs 0 0 (MQ below (ht_Q D s0 (fun vv h1 z1 => vv = some (.int q.1) ∧ h1 = mm_h dA h0 r M q.2 ∧ z1 = z0)) ([.ref r, .int y1] : List Value).toArray s 0 0 (fun q => s0.heap.size ≤ q)) (F0 m 41 ls []) := by
    intro ls x3 st H locs hF hl I
    unfold g_end_41 at hF
    refine lv_iload_n hx hb d47_41 rfl (lv_at hl 0 rfl) ?_
    exact ht_iret X d47_42 I (Nat.le_of_ble_eq_true rfl) (Nat.le_of_ble_eq_true rfl) (mm_fin hF)
  have b14 : ∀ n9 : Nat, ∀ (ls : Array Slot) (x2 : Int32) (x3 : Int32) (st : mT) (H : Heap) (locs : List Loc), g_end_14 n9 x2 x3 st = some q → lv_has ls 4 [(0, .ref r), (2, .int x2), (3, .int x3)] → hm_I D s0 s (mm_h dA h0 r M st) z0 H locs → W p l e { frames := 2, cells := 0, slots := 0, locals := 45 } s m ([.ref r, .int y1] : List Value).toArray below meth c H locs 0 0 (MQ below (ht_Q D s0 (fun vv h1 z1 => vv = some (.int q.1) ∧ h1 = mm_h dA h0 r M q.2 ∧ z1 = z0)) ([.ref r, .int y1] : List Value).toArray s 0 0 (fun q => s0.heap.size ≤ q)) (F0 m 14 ls []) := by
    intro n9
    induction n9 with
    | zero => intro ls x2 x3 st H locs hF; cases hF
    | succ n9 hk14 =>
    intro ls x2 x3 st H locs hF hl I
    unfold g_end_14 at hF
    refine lv_iload_n hx hb d47_14 rfl (lv_at hl 2 rfl) ?_
    refine lv_aload_n hx hb d47_15 rfl (lv_at hl 0 rfl) ?_
    obtain ⟨q3, e9, hF⟩ := mm_bd hF
    refine ht_V (C := "MarkupStoreModel") (rest := [.int x3]) (as := []) X hl (cm_count l D dA s0 hE h0 r M hM z0 st q3 e9) (List.forall_mem_cons.mpr ⟨ms_k1583, List.forall_mem_cons.mpr ⟨ms_k1585, List.forall_mem_cons.mpr ⟨ms_p62, List.forall_mem_cons.mpr ⟨ms_k7, List.forall_mem_cons.mpr ⟨ms_k1586, fun _ h => absurd h List.not_mem_nil⟩⟩⟩⟩⟩) ⟨rfl, by decide +kernel, by decide +kernel, (by decide +kernel : (parseMethodDescriptor "()I").map (fun d => d.parameters.length) = some 0)⟩ (hm_recv hK I rfl mm_hr) I ⟨rfl, rfl⟩ ⟨⟨Nat.le_of_ble_eq_true rfl, Nat.le_of_ble_eq_true rfl⟩, Nat.le_of_ble_eq_true rfl, Nat.le_of_ble_eq_true rfl⟩ rfl (Nat.le_of_ble_eq_true rfl) d47_16 (fun vv h1 z1 H locs hR I9 => ?_)
    obtain ⟨e1, e2, e3⟩ := hR
    rw [e2, e3] at I9
    clear I e2 e3 e9
    have I := I9
    clear I9
    subst e1
    refine W.eq (g2 := F0 m 19 ls [.int q3.1, .int x3]) rfl ?_
    refine lv_icmp_ge hx hb d47_19 rfl (fun h9 => ?_) (fun h9 => ?_)
    · have hF := (if_pos h9).symm.trans hF
      exact b41 ls x3 q3.2 _ _ hF (hl.sub [2] rfl) I
    · have hF := (if_neg h9).symm.trans hF
      refine lv_aload_n hx hb d47_22 rfl (lv_at hl 0 rfl) ?_
      refine lv_aload_n hx hb d47_23 rfl (lv_at hl 0 rfl) ?_
      refine lv_iload_n hx hb d47_24 rfl (lv_at hl 2 rfl) ?_
      obtain ⟨q4, e9, hF⟩ := mm_bd hF
      refine ht_V (C := "MarkupStoreModel") (rest := [.ref r]) (as := [.int x3]) X hl (cm_doc l D dA s0 hE h0 r M hM z0 x3 q3.2 q4 e9) (List.forall_mem_cons.mpr ⟨ms_k1607, List.forall_mem_cons.mpr ⟨ms_k1609, List.forall_mem_cons.mpr ⟨ms_p67, List.forall_mem_cons.mpr ⟨ms_k7, List.forall_mem_cons.mpr ⟨ms_k1610, fun _ h => absurd h List.not_mem_nil⟩⟩⟩⟩⟩) ⟨rfl, by decide +kernel, by decide +kernel, (by decide +kernel : (parseMethodDescriptor "(I)I").map (fun d => d.parameters.length) = some 1)⟩ (hm_recv hK I rfl mm_hr) I ⟨rfl, rfl⟩ ⟨⟨Nat.le_of_ble_eq_true rfl, Nat.le_of_ble_eq_true rfl⟩, Nat.le_of_ble_eq_true rfl, Nat.le_of_ble_eq_true rfl⟩ rfl (Nat.le_of_ble_eq_true rfl) d47_25 (fun vv h1 z1 H locs hR I9 => ?_)
      obtain ⟨e1, e2, e3⟩ := hR
      rw [e2, e3] at I9
      clear I e2 e3 e9
      have I := I9
      clear I9
      subst e1
      refine W.eq (g2 := F0 m 28 ls [.int q4.1, .ref r]) rfl ?_
      obtain ⟨q5, e9, hF⟩ := mm_bd hF
      refine ht_V (C := "MarkupStoreModel") (rest := []) (as := [.int q4.1]) X hl (cm_depth l D dA s0 hE h0 r M hM z0 q4.1 q4.2 q5 e9) (List.forall_mem_cons.mpr ⟨ms_k1615, List.forall_mem_cons.mpr ⟨ms_k1617, List.forall_mem_cons.mpr ⟨ms_p69, List.forall_mem_cons.mpr ⟨ms_k7, List.forall_mem_cons.mpr ⟨ms_k1618, fun _ h => absurd h List.not_mem_nil⟩⟩⟩⟩⟩) ⟨rfl, by decide +kernel, by decide +kernel, (by decide +kernel : (parseMethodDescriptor "(I)I").map (fun d => d.parameters.length) = some 1)⟩ (hm_recv hK I rfl mm_hr) I ⟨rfl, rfl⟩ ⟨⟨Nat.le_of_ble_eq_true rfl, Nat.le_of_ble_eq_true rfl⟩, Nat.le_of_ble_eq_true rfl, Nat.le_of_ble_eq_true rfl⟩ rfl (Nat.le_of_ble_eq_true rfl) d47_28 (fun vv h1 z1 H locs hR I9 => ?_)
      obtain ⟨e1, e2, e3⟩ := hR
      rw [e2, e3] at I9
      clear I e2 e3 e9
      have I := I9
      clear I9
      subst e1
      refine W.eq (g2 := F0 m 31 ls [.int q5.1]) rfl ?_
      refine lv_iload_n hx hb d47_31 rfl (lv_at hl 1 rfl) ?_
      refine lv_icmp_le hx hb d47_32 rfl (fun h9 => ?_) (fun h9 => ?_)
      · have hF := (if_pos h9).symm.trans hF
        exact b41 ls x3 q5.2 _ _ hF (hl.sub [2] rfl) I
      · have hF := (if_neg h9).symm.trans hF
        refine lv_iinc (k := 2) (v := (x3 + 1)) hx hb d47_35 hl rfl (rfl) (by decide) rfl (fun ls hl => ?_)
        have hl : lv_has ls 4 [(3, .int (x3 + 1)), (0, .ref r), (2, .int x2)] := hl
        refine lv_goto hx hb d47_38 rfl ?_
        exact hk14 ls x2 (x3 + 1) q5.2 _ _ hF (hl.sub [1, 2, 0] rfl) I
  have hF := hg
  unfold g_end at hF
  refine lv_aload_n hx hb d47_0 rfl (lv_at hl 0 rfl) ?_
  refine lv_aload_n hx hb d47_1 rfl (lv_at hl 0 rfl) ?_
  refine lv_iload_n hx hb d47_2 rfl (lv_at hl 1 rfl) ?_
  obtain ⟨q1, e9, hF⟩ := mm_bd hF
  refine ht_V (C := "MarkupStoreModel") (rest := [.ref r]) (as := [.int y1]) X hl (cm_doc l D dA s0 hE h0 r M hM z0 y1 st q1 e9) (List.forall_mem_cons.mpr ⟨ms_k1607, List.forall_mem_cons.mpr ⟨ms_k1609, List.forall_mem_cons.mpr ⟨ms_p67, List.forall_mem_cons.mpr ⟨ms_k7, List.forall_mem_cons.mpr ⟨ms_k1610, fun _ h => absurd h List.not_mem_nil⟩⟩⟩⟩⟩) ⟨rfl, by decide +kernel, by decide +kernel, (by decide +kernel : (parseMethodDescriptor "(I)I").map (fun d => d.parameters.length) = some 1)⟩ (hm_recv hK I rfl mm_hr) I ⟨rfl, rfl⟩ ⟨⟨Nat.le_of_ble_eq_true rfl, Nat.le_of_ble_eq_true rfl⟩, Nat.le_of_ble_eq_true rfl, Nat.le_of_ble_eq_true rfl⟩ rfl (Nat.le_of_ble_eq_true rfl) d47_3 (fun vv h1 z1 H locs hR I9 => ?_)
  obtain ⟨e1, e2, e3⟩ := hR
  rw [e2, e3] at I9
  clear I e2 e3 e9
  have I := I9
  clear I9
  subst e1
  refine W.eq (g2 := F0 m 6 ls [.int q1.1, .ref r]) rfl ?_
  obtain ⟨q2, e9, hF⟩ := mm_bd hF
  refine ht_V (C := "MarkupStoreModel") (rest := []) (as := [.int q1.1]) X hl (cm_depth l D dA s0 hE h0 r M hM z0 q1.1 q1.2 q2 e9) (List.forall_mem_cons.mpr ⟨ms_k1615, List.forall_mem_cons.mpr ⟨ms_k1617, List.forall_mem_cons.mpr ⟨ms_p69, List.forall_mem_cons.mpr ⟨ms_k7, List.forall_mem_cons.mpr ⟨ms_k1618, fun _ h => absurd h List.not_mem_nil⟩⟩⟩⟩⟩) ⟨rfl, by decide +kernel, by decide +kernel, (by decide +kernel : (parseMethodDescriptor "(I)I").map (fun d => d.parameters.length) = some 1)⟩ (hm_recv hK I rfl mm_hr) I ⟨rfl, rfl⟩ ⟨⟨Nat.le_of_ble_eq_true rfl, Nat.le_of_ble_eq_true rfl⟩, Nat.le_of_ble_eq_true rfl, Nat.le_of_ble_eq_true rfl⟩ rfl (Nat.le_of_ble_eq_true rfl) d47_6 (fun vv h1 z1 H locs hR I9 => ?_)
  obtain ⟨e1, e2, e3⟩ := hR
  rw [e2, e3] at I9
  clear I e2 e3 e9
  have I := I9
  clear I9
  subst e1
  refine W.eq (g2 := F0 m 9 ls [.int q2.1]) rfl ?_
  refine lv_istore_n hx hb d47_9 rfl hl (by decide) rfl (fun ls hl => ?_)
  have hl : lv_has ls 4 [(2, .int q2.1), (0, .ref r), (1, .int y1)] := hl
  refine lv_iload_n hx hb d47_10 rfl (lv_at hl 2 rfl) ?_
  refine lv_iconst (v := 1) hx hb d47_11 (by decide) ?_
  refine lv_iadd hx hb d47_12 ?_
  refine lv_istore_n hx hb d47_13 rfl hl (by decide) rfl (fun ls hl => ?_)
  have hl : lv_has ls 4 [(3, .int (y1 + 1)), (2, .int q2.1), (0, .ref r), (1, .int y1)] := hl
  exact b14 mF ls q2.1 (y1 + 1) q2.2 _ _ hF (hl.sub [2, 1, 0] rfl) I

def g_sibling_52 (st : mT) : Option (Int32 × mT) := (some ((-1), st))
def g_sibling_8 : Nat → Int32 → Int32 → Int32 → mT → Option (Int32 × mT)
  | 0, _, _, _, _ => none
  | n9 + 1, x1, x2, x3, st => (if x3 < 0 then (g_sibling_52 st) else ((g_count st).bind (fun q2 => (if q2.1 ≤ x3 then (g_sibling_52 q2.2) else ((g_doc x3 q2.2).bind (fun q3 => ((g_f q3.1 2 q3.2).bind (fun q4 => ((g_f x1 2 q4.2).bind (fun q5 => (if q4.1 = q5.1 then ((g_doc x3 q5.2).bind (fun q6 => (some (q6.1, q6.2)))) else ((g_sibling_8 n9) x1 x2 (x3 + x2) q5.2))))))))))))
def g_sibling (y1 : Int32) (y2 : Int32) (st : mT) : Option (Int32 × mT) := ((g_order y1 st).bind (fun q1 => (g_sibling_8 mF y1 y2 (q1.1 + y2) q1.2)))
set_option maxRecDepth 100000 in
set_option maxHeartbeats 8000000 in
theorem cm_sibling (l : Launch) (D : va_G) (dA : Nat → ClassId) (s0 : State) (hE : ms_EV D dA s0) (h0 : hm_T) (r : Nat) (M : Nat → Nat) (hM : mm_ok r M) (z0 : hz_T) (y1 : Int32) (y2 : Int32) (st : mT) (q : Int32 × mT) (hg : g_sibling y1 y2 st = some q) : ht_C l D s0 yM48 bM48 4 (Option.some Jvm.ClassFile.FieldType.int) 2 43 0 0 [.ref r, .int y1, .int y2] (fun h z => h = mm_h dA h0 r M st ∧ z = z0) (fun h z vv h1 z1 => vv = some (.int q.1) ∧ h1 = mm_h dA h0 r M q.2 ∧ z1 = z0) := by
  refine ht_C.mk hE.1 (by decide) (Nat.le_of_ble_eq_true rfl) [(0, .ref r), (1, .int y1), (2, .int y2)] rfl ?_
  intro p e s m below meth c ls h z X hin hpre I hl
  have hx := X.1
  have hb := X.2.1
  have hml := X.2.2.1
  have hown : s.vm.findClass "MarkupStoreModel" = some m.cls := X.2.2.2.1
  have hts := X.2.2.2.2.2.2.1
  have hK := X.2.2.2.2.2.2.2.2.1
  rw [hpre.1, hpre.2] at I
  clear hpre
  have b52 : ∀ (ls : Array Slot) (st : mT) (H : Heap) (locs : List Loc), g_sibling_52 st = some q → lv_has ls 4 [] → hm_I D s0 s (mm_h dA h0 r M st) z0 H locs → W p l e { frames := 2, cells := 0, slots := 0, locals := 43 } s m ([.ref r, .int y1, .int y2] : List Value).toArray below meth c H locs 0 0 (MQ below (ht_Q D s0 (fun vv h1 z1 => vv = some (.int q.1) ∧ h1 = mm_h dA h0 r M q.2 ∧ z1 = z0)) ([.ref r, .int y1, .int y2] : List Value).toArray s 0 0 (fun q => s0.heap.size ≤ q)) (F0 m 52 ls []) := by
    intro ls st H locs hF hl I
    unfold g_sibling_52 at hF
    refine lv_iconst (v := (-1)) hx hb d48_52 (by decide) ?_
    exact ht_iret X d48_53 I (Nat.le_of_ble_eq_true rfl) (Nat.le_of_ble_eq_true rfl) (mm_fin hF)
  have b8 : ∀ n9 : Nat, ∀ (ls : Array Slot) (x1 : Int32) (x2 : Int32) (x3 : Int32) (st : mT) (H : Heap) (locs : List Loc), g_sibling_8 n9 x1 x2 x3 st = some q → lv_has ls 4 [(0, .ref r), (1, .int x1), (2, .int x2), (3, .int x3)] → hm_I D s0 s (mm_h dA h0 r M st) z0 H locs → W p l e { frames := 2, cells := 0, slots := 0, locals := 43 } s m ([.ref r, .int y1, .int y2] : List Value).toArray below meth c H locs 0 0 (MQ below (ht_Q D s0 (fun vv h1 z1 => vv = some (.int q.1) ∧ h1 = mm_h dA h0 r M q.2 ∧ z1 = z0)) ([.ref r, .int y1, .int y2] : List Value).toArray s 0 0 (fun q => s0.heap.size ≤ q)) (F0 m 8 ls []) := by
    intro n9
    induction n9 with
    | zero => intro ls x1 x2 x3 st H locs hF; cases hF
    | succ n9 hk8 =>
    intro ls x1 x2 x3 st H locs hF hl I
    unfold g_sibling_8 at hF
    refine lv_iload_n hx hb d48_8 rfl (lv_at hl 3 rfl) ?_
    refine lv_if_lt hx hb d48_9 rfl (fun h9 => ?_) (fun h9 => ?_)
    · have hF := (if_pos h9).symm.trans hF
      exact b52 ls st _ _ hF (hl.sub [] rfl) I
    · have hF := (if_neg h9).symm.trans hF
      refine lv_iload_n hx hb d48_12 rfl (lv_at hl 3 rfl) ?_
      refine lv_aload_n hx hb d48_13 rfl (lv_at hl 0 rfl) ?_
      obtain ⟨q2, e9, hF⟩ := mm_bd hF
      refine ht_V (C := "MarkupStoreModel") (rest := [.int x3]) (as := []) X hl (cm_count l D dA s0 hE h0 r M hM z0 st q2 e9) (List.forall_mem_cons.mpr ⟨ms_k1583, List.forall_mem_cons.mpr ⟨ms_k1585, List.forall_mem_cons.mpr ⟨ms_p62, List.forall_mem_cons.mpr ⟨ms_k7, List.forall_mem_cons.mpr ⟨ms_k1586, fun _ h => absurd h List.not_mem_nil⟩⟩⟩⟩⟩) ⟨rfl, by decide +kernel, by decide +kernel, (by decide +kernel : (parseMethodDescriptor "()I").map (fun d => d.parameters.length) = some 0)⟩ (hm_recv hK I rfl mm_hr) I ⟨rfl, rfl⟩ ⟨⟨Nat.le_of_ble_eq_true rfl, Nat.le_of_ble_eq_true rfl⟩, Nat.le_of_ble_eq_true rfl, Nat.le_of_ble_eq_true rfl⟩ rfl (Nat.le_of_ble_eq_true rfl) d48_14 (fun vv h1 z1 H locs hR I9 => ?_)
      obtain ⟨e1, e2, e3⟩ := hR
      rw [e2, e3] at I9
      clear I e2 e3 e9
      have I := I9
      clear I9
      subst e1
      refine W.eq (g2 := F0 m 17 ls [.int q2.1, .int x3]) rfl ?_
      refine lv_icmp_ge hx hb d48_17 rfl (fun h9 => ?_) (fun h9 => ?_)
      · have hF := (if_pos h9).symm.trans hF
        exact b52 ls q2.2 _ _ hF (hl.sub [] rfl) I
      · have hF := (if_neg h9).symm.trans hF
        refine lv_aload_n hx hb d48_20 rfl (lv_at hl 0 rfl) ?_
        refine lv_aload_n hx hb d48_21 rfl (lv_at hl 0 rfl) ?_
        refine lv_iload_n hx hb d48_22 rfl (lv_at hl 3 rfl) ?_
        obtain ⟨q3, e9, hF⟩ := mm_bd hF
        refine ht_V (C := "MarkupStoreModel") (rest := [.ref r]) (as := [.int x3]) X hl (cm_doc l D dA s0 hE h0 r M hM z0 x3 q2.2 q3 e9) (List.forall_mem_cons.mpr ⟨ms_k1607, List.forall_mem_cons.mpr ⟨ms_k1609, List.forall_mem_cons.mpr ⟨ms_p67, List.forall_mem_cons.mpr ⟨ms_k7, List.forall_mem_cons.mpr ⟨ms_k1610, fun _ h => absurd h List.not_mem_nil⟩⟩⟩⟩⟩) ⟨rfl, by decide +kernel, by decide +kernel, (by decide +kernel : (parseMethodDescriptor "(I)I").map (fun d => d.parameters.length) = some 1)⟩ (hm_recv hK I rfl mm_hr) I ⟨rfl, rfl⟩ ⟨⟨Nat.le_of_ble_eq_true rfl, Nat.le_of_ble_eq_true rfl⟩, Nat.le_of_ble_eq_true rfl, Nat.le_of_ble_eq_true rfl⟩ rfl (Nat.le_of_ble_eq_true rfl) d48_23 (fun vv h1 z1 H locs hR I9 => ?_)
        obtain ⟨e1, e2, e3⟩ := hR
        rw [e2, e3] at I9
        clear I e2 e3 e9
        have I := I9
        clear I9
        subst e1
        refine W.eq (g2 := F0 m 26 ls [.int q3.1, .ref r]) rfl ?_
        refine lv_iconst (v := 2) hx hb d48_26 (by decide) ?_
        obtain ⟨q4, e9, hF⟩ := mm_bd hF
        refine ht_V (C := "MarkupStoreModel") (rest := []) (as := [.int q3.1, .int 2]) X hl (cm_f l D dA s0 hE h0 r M hM z0 q3.1 2 q3.2 q4 e9) (List.forall_mem_cons.mpr ⟨ms_k1587, List.forall_mem_cons.mpr ⟨ms_k1589, List.forall_mem_cons.mpr ⟨ms_p63, List.forall_mem_cons.mpr ⟨ms_k7, List.forall_mem_cons.mpr ⟨ms_k1590, fun _ h => absurd h List.not_mem_nil⟩⟩⟩⟩⟩) ⟨rfl, by decide +kernel, by decide +kernel, (by decide +kernel : (parseMethodDescriptor "(II)I").map (fun d => d.parameters.length) = some 2)⟩ (hm_recv hK I rfl mm_hr) I ⟨rfl, rfl⟩ ⟨⟨Nat.le_of_ble_eq_true rfl, Nat.le_of_ble_eq_true rfl⟩, Nat.le_of_ble_eq_true rfl, Nat.le_of_ble_eq_true rfl⟩ rfl (Nat.le_of_ble_eq_true rfl) d48_27 (fun vv h1 z1 H locs hR I9 => ?_)
        obtain ⟨e1, e2, e3⟩ := hR
        rw [e2, e3] at I9
        clear I e2 e3 e9
        have I := I9
        clear I9
        subst e1
        refine W.eq (g2 := F0 m 30 ls [.int q4.1]) rfl ?_
        refine lv_aload_n hx hb d48_30 rfl (lv_at hl 0 rfl) ?_
        refine lv_iload_n hx hb d48_31 rfl (lv_at hl 1 rfl) ?_
        refine lv_iconst (v := 2) hx hb d48_32 (by decide) ?_
        obtain ⟨q5, e9, hF⟩ := mm_bd hF
        refine ht_V (C := "MarkupStoreModel") (rest := [.int q4.1]) (as := [.int x1, .int 2]) X hl (cm_f l D dA s0 hE h0 r M hM z0 x1 2 q4.2 q5 e9) (List.forall_mem_cons.mpr ⟨ms_k1587, List.forall_mem_cons.mpr ⟨ms_k1589, List.forall_mem_cons.mpr ⟨ms_p63, List.forall_mem_cons.mpr ⟨ms_k7, List.forall_mem_cons.mpr ⟨ms_k1590, fun _ h => absurd h List.not_mem_nil⟩⟩⟩⟩⟩) ⟨rfl, by decide +kernel, by decide +kernel, (by decide +kernel : (parseMethodDescriptor "(II)I").map (fun d => d.parameters.length) = some 2)⟩ (hm_recv hK I rfl mm_hr) I ⟨rfl, rfl⟩ ⟨⟨Nat.le_of_ble_eq_true rfl, Nat.le_of_ble_eq_true rfl⟩, Nat.le_of_ble_eq_true rfl, Nat.le_of_ble_eq_true rfl⟩ rfl (Nat.le_of_ble_eq_true rfl) d48_33 (fun vv h1 z1 H locs hR I9 => ?_)
        obtain ⟨e1, e2, e3⟩ := hR
        rw [e2, e3] at I9
        clear I e2 e3 e9
        have I := I9
        clear I9
        subst e1
        refine W.eq (g2 := F0 m 36 ls [.int q5.1, .int q4.1]) rfl ?_
        refine lv_icmp_ne hx hb d48_36 rfl (fun h9 => ?_) (fun h9 => ?_)
        · have hF := (if_neg h9).symm.trans hF
          refine lv_iload_n hx hb d48_45 rfl (lv_at hl 3 rfl) ?_
          refine lv_iload_n hx hb d48_46 rfl (lv_at hl 2 rfl) ?_
          refine lv_iadd hx hb d48_47 ?_
          refine lv_istore_n hx hb d48_48 rfl hl (by decide) rfl (fun ls hl => ?_)
          have hl : lv_has ls 4 [(3, .int (x3 + x2)), (0, .ref r), (1, .int x1), (2, .int x2)] := hl
          refine lv_goto hx hb d48_49 rfl ?_
          exact hk8 ls x1 x2 (x3 + x2) q5.2 _ _ hF (hl.sub [1, 2, 3, 0] rfl) I
        · have hF := (if_pos h9).symm.trans hF
          refine lv_aload_n hx hb d48_39 rfl (lv_at hl 0 rfl) ?_
          refine lv_iload_n hx hb d48_40 rfl (lv_at hl 3 rfl) ?_
          obtain ⟨q6, e9, hF⟩ := mm_bd hF
          refine ht_V (C := "MarkupStoreModel") (rest := []) (as := [.int x3]) X hl (cm_doc l D dA s0 hE h0 r M hM z0 x3 q5.2 q6 e9) (List.forall_mem_cons.mpr ⟨ms_k1607, List.forall_mem_cons.mpr ⟨ms_k1609, List.forall_mem_cons.mpr ⟨ms_p67, List.forall_mem_cons.mpr ⟨ms_k7, List.forall_mem_cons.mpr ⟨ms_k1610, fun _ h => absurd h List.not_mem_nil⟩⟩⟩⟩⟩) ⟨rfl, by decide +kernel, by decide +kernel, (by decide +kernel : (parseMethodDescriptor "(I)I").map (fun d => d.parameters.length) = some 1)⟩ (hm_recv hK I rfl mm_hr) I ⟨rfl, rfl⟩ ⟨⟨Nat.le_of_ble_eq_true rfl, Nat.le_of_ble_eq_true rfl⟩, Nat.le_of_ble_eq_true rfl, Nat.le_of_ble_eq_true rfl⟩ rfl (Nat.le_of_ble_eq_true rfl) d48_41 (fun vv h1 z1 H locs hR I9 => ?_)
          obtain ⟨e1, e2, e3⟩ := hR
          rw [e2, e3] at I9
          clear I e2 e3 e9
          have I := I9
          clear I9
          subst e1
          refine W.eq (g2 := F0 m 44 ls [.int q6.1]) rfl ?_
          exact ht_iret X d48_44 I (Nat.le_of_ble_eq_true rfl) (Nat.le_of_ble_eq_true rfl) (mm_fin hF)
  have hF := hg
  unfold g_sibling at hF
  refine lv_aload_n hx hb d48_0 rfl (lv_at hl 0 rfl) ?_
  refine lv_iload_n hx hb d48_1 rfl (lv_at hl 1 rfl) ?_
  obtain ⟨q1, e9, hF⟩ := mm_bd hF
  refine ht_V (C := "MarkupStoreModel") (rest := []) (as := [.int y1]) X hl (cm_order l D dA s0 hE h0 r M hM z0 y1 st q1 e9) (List.forall_mem_cons.mpr ⟨ms_k1623, List.forall_mem_cons.mpr ⟨ms_k1625, List.forall_mem_cons.mpr ⟨ms_p71, List.forall_mem_cons.mpr ⟨ms_k7, List.forall_mem_cons.mpr ⟨ms_k1626, fun _ h => absurd h List.not_mem_nil⟩⟩⟩⟩⟩) ⟨rfl, by decide +kernel, by decide +kernel, (by decide +kernel : (parseMethodDescriptor "(I)I").map (fun d => d.parameters.length) = some 1)⟩ (hm_recv hK I rfl mm_hr) I ⟨rfl, rfl⟩ ⟨⟨Nat.le_of_ble_eq_true rfl, Nat.le_of_ble_eq_true rfl⟩, Nat.le_of_ble_eq_true rfl, Nat.le_of_ble_eq_true rfl⟩ rfl (Nat.le_of_ble_eq_true rfl) d48_2 (fun vv h1 z1 H locs hR I9 => ?_)
  obtain ⟨e1, e2, e3⟩ := hR
  rw [e2, e3] at I9
  clear I e2 e3 e9
  have I := I9
  clear I9
  subst e1
  refine W.eq (g2 := F0 m 5 ls [.int q1.1]) rfl ?_
  refine lv_iload_n hx hb d48_5 rfl (lv_at hl 2 rfl) ?_
  refine lv_iadd hx hb d48_6 ?_
  refine lv_istore_n hx hb d48_7 rfl hl (by decide) rfl (fun ls hl => ?_)
  have hl : lv_has ls 4 [(3, .int (q1.1 + y2)), (0, .ref r), (1, .int y1), (2, .int y2)] := hl
  exact b8 mF ls y1 y2 (q1.1 + y2) q1.2 _ _ hF (hl.sub [1, 2, 3, 0] rfl) I

def g_child_47 (k5 : Int32 → Int32 → Int32 → Int32 → mT → Option (Int32 × mT)) (x1 : Int32) (x2 : Int32) (x4 : Int32) (w0 : Int32) (st : mT) : Option (Int32 × mT) := (k5 x1 x2 w0 (x4 + 1) st)
def g_child_46 (k5 : Int32 → Int32 → Int32 → Int32 → mT → Option (Int32 × mT)) (x1 : Int32) (x2 : Int32) (x3 : Int32) (x4 : Int32) (st : mT) : Option (Int32 × mT) := (g_child_47 k5 x1 x2 x4 x3 st)
def g_child_37 (k5 : Int32 → Int32 → Int32 → Int32 → mT → Option (Int32 × mT)) (x1 : Int32) (x2 : Int32) (x4 : Int32) (st : mT) : Option (Int32 × mT) := ((g_doc x4 st).bind (fun q4 => (g_child_47 k5 x1 x2 x4 q4.1 q4.2)))
def g_child_5 : Nat → Int32 → Int32 → Int32 → Int32 → mT → Option (Int32 × mT)
  | 0, _, _, _, _, _ => none
  | n9 + 1, x1, x2, x3, x4, st => ((g_count st).bind (fun q1 => (if q1.1 ≤ x4 then (some (x3, q1.2)) else ((g_doc x4 q1.2).bind (fun q2 => ((g_f q2.1 2 q2.2).bind (fun q3 => (if q3.1 = x1 then (if x3 < 0 then (g_child_37 (g_child_5 n9) x1 x2 x4 q3.2) else (if 0 ≤ x2 then (g_child_46 (g_child_5 n9) x1 x2 x3 x4 q3.2) else (g_child_37 (g_child_5 n9) x1 x2 x4 q3.2))) else (g_child_46 (g_child_5 n9) x1 x2 x3 x4 q3.2)))))))))
def g_child (y1 : Int32) (y2 : Int32) (st : mT) : Option (Int32 × mT) := (g_child_5 mF y1 y2 (-1) 0 st)
set_option maxRecDepth 100000 in
set_option maxHeartbeats 8000000 in
theorem cm_child (l : Launch) (D : va_G) (dA : Nat → ClassId) (s0 : State) (hE : ms_EV D dA s0) (h0 : hm_T) (r : Nat) (M : Nat → Nat) (hM : mm_ok r M) (z0 : hz_T) (y1 : Int32) (y2 : Int32) (st : mT) (q : Int32 × mT) (hg : g_child y1 y2 st = some q) : ht_C l D s0 yM49 bM49 5 (Option.some Jvm.ClassFile.FieldType.int) 1 22 0 0 [.ref r, .int y1, .int y2] (fun h z => h = mm_h dA h0 r M st ∧ z = z0) (fun h z vv h1 z1 => vv = some (.int q.1) ∧ h1 = mm_h dA h0 r M q.2 ∧ z1 = z0) := by
  refine ht_C.mk hE.1 (by decide) (Nat.le_of_ble_eq_true rfl) [(0, .ref r), (1, .int y1), (2, .int y2)] rfl ?_
  intro p e s m below meth c ls h z X hin hpre I hl
  have hx := X.1
  have hb := X.2.1
  have hml := X.2.2.1
  have hown : s.vm.findClass "MarkupStoreModel" = some m.cls := X.2.2.2.1
  have hts := X.2.2.2.2.2.2.1
  have hK := X.2.2.2.2.2.2.2.2.1
  rw [hpre.1, hpre.2] at I
  clear hpre
  have b47 : ∀ (k5 : Int32 → Int32 → Int32 → Int32 → mT → Option (Int32 × mT)), (∀ (ls : Array Slot) (x1 : Int32) (x2 : Int32) (x3 : Int32) (x4 : Int32) (st : mT) (H : Heap) (locs : List Loc), k5 x1 x2 x3 x4 st = some q → lv_has ls 5 [(0, .ref r), (1, .int x1), (2, .int x2), (3, .int x3), (4, .int x4)] → hm_I D s0 s (mm_h dA h0 r M st) z0 H locs → W p l e { frames := 1, cells := 0, slots := 0, locals := 22 } s m ([.ref r, .int y1, .int y2] : List Value).toArray below meth c H locs 0 0 (MQ below (ht_Q D s0 (fun vv h1 z1 => vv = some (.int q.1) ∧ h1 = mm_h dA h0 r M q.2 ∧ z1 = z0)) ([.ref r, .int y1, .int y2] : List Value).toArray s 0 0 (fun q => s0.heap.size ≤ q)) (F0 m 5 ls [])) → ∀ (ls : Array Slot) (x1 : Int32) (x2 : Int32) (x4 : Int32) (w0 : Int32) (st : mT) (H : Heap) (locs : List Loc), g_child_47 k5 x1 x2 x4 w0 st = some q → lv_has ls 5 [(0, .ref r), (1, .int x1), (2, .int x2), (4, .int x4)] → hm_I D s0 s (mm_h dA h0 r M st) z0 H locs → W p l e { frames := 1, cells := 0, slots := 0, locals := 22 } s m ([.ref r, .int y1, .int y2] : List Value).toArray below meth c H locs 0 0 (MQ below (ht_Q D s0 (fun vv h1 z1 => vv = some (.int q.1) ∧ h1 = mm_h dA h0 r M q.2 ∧ z1 = z0)) ([.ref r, .int y1, .int y2] : List Value).toArray s 0 0 (fun q => s0.heap.size ≤ q)) (F0 m 47 ls [.int w0]) := by
    intro k5 hk5 ls x1 x2 x4 w0 st H locs hF hl I
    unfold g_child_47 at hF
    refine lv_istore_n hx hb d49_47 rfl hl (by decide) rfl (fun ls hl => ?_)
    have hl : lv_has ls 5 [(3, .int w0), (0, .ref r), (1, .int x1), (2, .int x2), (4, .int x4)] := hl
    refine lv_iinc (k := 4) (v := (x4 + 1)) hx hb d49_48 hl rfl (rfl) (by decide) rfl (fun ls hl => ?_)
    have hl : lv_has ls 5 [(4, .int (x4 + 1)), (3, .int w0), (0, .ref r), (1, .int x1), (2, .int x2)] := hl
    refine lv_goto hx hb d49_51 rfl ?_
    exact hk5 ls x1 x2 w0 (x4 + 1) st _ _ hF (hl.sub [2, 3, 4, 1, 0] rfl) I
  have b46 : ∀ (k5 : Int32 → Int32 → Int32 → Int32 → mT → Option (Int32 × mT)), (∀ (ls : Array Slot) (x1 : Int32) (x2 : Int32) (x3 : Int32) (x4 : Int32) (st : mT) (H : Heap) (locs : List Loc), k5 x1 x2 x3 x4 st = some q → lv_has ls 5 [(0, .ref r), (1, .int x1), (2, .int x2), (3, .int x3), (4, .int x4)] → hm_I D s0 s (mm_h dA h0 r M st) z0 H locs → W p l e { frames := 1, cells := 0, slots := 0, locals := 22 } s m ([.ref r, .int y1, .int y2] : List Value).toArray below meth c H locs 0 0 (MQ below (ht_Q D s0 (fun vv h1 z1 => vv = some (.int q.1) ∧ h1 = mm_h dA h0 r M q.2 ∧ z1 = z0)) ([.ref r, .int y1, .int y2] : List Value).toArray s 0 0 (fun q => s0.heap.size ≤ q)) (F0 m 5 ls [])) → ∀ (ls : Array Slot) (x1 : Int32) (x2 : Int32) (x3 : Int32) (x4 : Int32) (st : mT) (H : Heap) (locs : List Loc), g_child_46 k5 x1 x2 x3 x4 st = some q → lv_has ls 5 [(0, .ref r), (1, .int x1), (2, .int x2), (3, .int x3), (4, .int x4)] → hm_I D s0 s (mm_h dA h0 r M st) z0 H locs → W p l e { frames := 1, cells := 0, slots := 0, locals := 22 } s m ([.ref r, .int y1, .int y2] : List Value).toArray below meth c H locs 0 0 (MQ below (ht_Q D s0 (fun vv h1 z1 => vv = some (.int q.1) ∧ h1 = mm_h dA h0 r M q.2 ∧ z1 = z0)) ([.ref r, .int y1, .int y2] : List Value).toArray s 0 0 (fun q => s0.heap.size ≤ q)) (F0 m 46 ls []) := by
    intro k5 hk5 ls x1 x2 x3 x4 st H locs hF hl I
    unfold g_child_46 at hF
    refine lv_iload_n hx hb d49_46 rfl (lv_at hl 3 rfl) ?_
    exact b47 k5 hk5 ls x1 x2 x4 x3 st _ _ hF (hl.sub [0, 1, 2, 4] rfl) I
  have b37 : ∀ (k5 : Int32 → Int32 → Int32 → Int32 → mT → Option (Int32 × mT)), (∀ (ls : Array Slot) (x1 : Int32) (x2 : Int32) (x3 : Int32) (x4 : Int32) (st : mT) (H : Heap) (locs : List Loc), k5 x1 x2 x3 x4 st = some q → lv_has ls 5 [(0, .ref r), (1, .int x1), (2, .int x2), (3, .int x3), (4, .int x4)] → hm_I D s0 s (mm_h dA h0 r M st) z0 H locs → W p l e { frames := 1, cells := 0, slots := 0, locals := 22 } s m ([.ref r, .int y1, .int y2] : List Value).toArray below meth c H locs 0 0 (MQ below (ht_Q D s0 (fun vv h1 z1 => vv = some (.int q.1) ∧ h1 = mm_h dA h0 r M q.2 ∧ z1 = z0)) ([.ref r, .int y1, .int y2] : List Value).toArray s 0 0 (fun q => s0.heap.size ≤ q)) (F0 m 5 ls [])) → ∀ (ls : Array Slot) (x1 : Int32) (x2 : Int32) (x4 : Int32) (st : mT) (H : Heap) (locs : List Loc), g_child_37 k5 x1 x2 x4 st = some q → lv_has ls 5 [(0, .ref r), (1, .int x1), (2, .int x2), (4, .int x4)] → hm_I D s0 s (mm_h dA h0 r M st) z0 H locs → W p l e { frames := 1, cells := 0, slots := 0, locals := 22 } s m ([.ref r, .int y1, .int y2] : List Value).toArray below meth c H locs 0 0 (MQ below (ht_Q D s0 (fun vv h1 z1 => vv = some (.int q.1) ∧ h1 = mm_h dA h0 r M q.2 ∧ z1 = z0)) ([.ref r, .int y1, .int y2] : List Value).toArray s 0 0 (fun q => s0.heap.size ≤ q)) (F0 m 37 ls []) := by
    intro k5 hk5 ls x1 x2 x4 st H locs hF hl I
    unfold g_child_37 at hF
    refine lv_aload_n hx hb d49_37 rfl (lv_at hl 0 rfl) ?_
    refine lv_iload hx hb d49_38 (lv_at hl 3 rfl) ?_
    obtain ⟨q4, e9, hF⟩ := mm_bd hF
    refine ht_V (C := "MarkupStoreModel") (rest := []) (as := [.int x4]) X hl (cm_doc l D dA s0 hE h0 r M hM z0 x4 st q4 e9) (List.forall_mem_cons.mpr ⟨ms_k1607, List.forall_mem_cons.mpr ⟨ms_k1609, List.forall_mem_cons.mpr ⟨ms_p67, List.forall_mem_cons.mpr ⟨ms_k7, List.forall_mem_cons.mpr ⟨ms_k1610, fun _ h => absurd h List.not_mem_nil⟩⟩⟩⟩⟩) ⟨rfl, by decide +kernel, by decide +kernel, (by decide +kernel : (parseMethodDescriptor "(I)I").map (fun d => d.parameters.length) = some 1)⟩ (hm_recv hK I rfl mm_hr) I ⟨rfl, rfl⟩ ⟨⟨Nat.le_of_ble_eq_true rfl, Nat.le_of_ble_eq_true rfl⟩, Nat.le_of_ble_eq_true rfl, Nat.le_of_ble_eq_true rfl⟩ rfl (Nat.le_of_ble_eq_true rfl) d49_40 (fun vv h1 z1 H locs hR I9 => ?_)
    obtain ⟨e1, e2, e3⟩ := hR
    rw [e2, e3] at I9
    clear I e2 e3 e9
    have I := I9
    clear I9
    subst e1
    refine W.eq (g2 := F0 m 43 ls [.int q4.1]) rfl ?_
    refine lv_goto hx hb d49_43 rfl ?_
    exact b47 k5 hk5 ls x1 x2 x4 q4.1 q4.2 _ _ hF (hl.sub [0, 1, 2, 3] rfl) I
  have b5 : ∀ n9 : Nat, ∀ (ls : Array Slot) (x1 : Int32) (x2 : Int32) (x3 : Int32) (x4 : Int32) (st : mT) (H : Heap) (locs : List Loc), g_child_5 n9 x1 x2 x3 x4 st = some q → lv_has ls 5 [(0, .ref r), (1, .int x1), (2, .int x2), (3, .int x3), (4, .int x4)] → hm_I D s0 s (mm_h dA h0 r M st) z0 H locs → W p l e { frames := 1, cells := 0, slots := 0, locals := 22 } s m ([.ref r, .int y1, .int y2] : List Value).toArray below meth c H locs 0 0 (MQ below (ht_Q D s0 (fun vv h1 z1 => vv = some (.int q.1) ∧ h1 = mm_h dA h0 r M q.2 ∧ z1 = z0)) ([.ref r, .int y1, .int y2] : List Value).toArray s 0 0 (fun q => s0.heap.size ≤ q)) (F0 m 5 ls []) := by
    intro n9
    induction n9 with
    | zero => intro ls x1 x2 x3 x4 st H locs hF; cases hF
    | succ n9 hk5 =>
    intro ls x1 x2 x3 x4 st H locs hF hl I
    unfold g_child_5 at hF
    refine lv_iload hx hb d49_5 (lv_at hl 4 rfl) ?_
    refine lv_aload_n hx hb d49_7 rfl (lv_at hl 0 rfl) ?_
    obtain ⟨q1, e9, hF⟩ := mm_bd hF
    refine ht_V (C := "MarkupStoreModel") (rest := [.int x4]) (as := []) X hl (cm_count l D dA s0 hE h0 r M hM z0 st q1 e9) (List.forall_mem_cons.mpr ⟨ms_k1583, List.forall_mem_cons.mpr ⟨ms_k1585, List.forall_mem_cons.mpr ⟨ms_p62, List.forall_mem_cons.mpr ⟨ms_k7, List.forall_mem_cons.mpr ⟨ms_k1586, fun _ h => absurd h List.not_mem_nil⟩⟩⟩⟩⟩) ⟨rfl, by decide +kernel, by decide +kernel, (by decide +kernel : (parseMethodDescriptor "()I").map (fun d => d.parameters.length) = some 0)⟩ (hm_recv hK I rfl mm_hr) I ⟨rfl, rfl⟩ ⟨⟨Nat.le_of_ble_eq_true rfl, Nat.le_of_ble_eq_true rfl⟩, Nat.le_of_ble_eq_true rfl, Nat.le_of_ble_eq_true rfl⟩ rfl (Nat.le_of_ble_eq_true rfl) d49_8 (fun vv h1 z1 H locs hR I9 => ?_)
    obtain ⟨e1, e2, e3⟩ := hR
    rw [e2, e3] at I9
    clear I e2 e3 e9
    have I := I9
    clear I9
    subst e1
    refine W.eq (g2 := F0 m 11 ls [.int q1.1, .int x4]) rfl ?_
    refine lv_icmp_ge hx hb d49_11 rfl (fun h9 => ?_) (fun h9 => ?_)
    · have hF := (if_pos h9).symm.trans hF
      refine lv_iload_n hx hb d49_54 rfl (lv_at hl 3 rfl) ?_
      exact ht_iret X d49_55 I (Nat.le_of_ble_eq_true rfl) (Nat.le_of_ble_eq_true rfl) (mm_fin hF)
    · have hF := (if_neg h9).symm.trans hF
      refine lv_aload_n hx hb d49_14 rfl (lv_at hl 0 rfl) ?_
      refine lv_aload_n hx hb d49_15 rfl (lv_at hl 0 rfl) ?_
      refine lv_iload hx hb d49_16 (lv_at hl 4 rfl) ?_
      obtain ⟨q2, e9, hF⟩ := mm_bd hF
      refine ht_V (C := "MarkupStoreModel") (rest := [.ref r]) (as := [.int x4]) X hl (cm_doc l D dA s0 hE h0 r M hM z0 x4 q1.2 q2 e9) (List.forall_mem_cons.mpr ⟨ms_k1607, List.forall_mem_cons.mpr ⟨ms_k1609, List.forall_mem_cons.mpr ⟨ms_p67, List.forall_mem_cons.mpr ⟨ms_k7, List.forall_mem_cons.mpr ⟨ms_k1610, fun _ h => absurd h List.not_mem_nil⟩⟩⟩⟩⟩) ⟨rfl, by decide +kernel, by decide +kernel, (by decide +kernel : (parseMethodDescriptor "(I)I").map (fun d => d.parameters.length) = some 1)⟩ (hm_recv hK I rfl mm_hr) I ⟨rfl, rfl⟩ ⟨⟨Nat.le_of_ble_eq_true rfl, Nat.le_of_ble_eq_true rfl⟩, Nat.le_of_ble_eq_true rfl, Nat.le_of_ble_eq_true rfl⟩ rfl (Nat.le_of_ble_eq_true rfl) d49_18 (fun vv h1 z1 H locs hR I9 => ?_)
      obtain ⟨e1, e2, e3⟩ := hR
      rw [e2, e3] at I9
      clear I e2 e3 e9
      have I := I9
      clear I9
      subst e1
      refine W.eq (g2 := F0 m 21 ls [.int q2.1, .ref r]) rfl ?_
      refine lv_iconst (v := 2) hx hb d49_21 (by decide) ?_
      obtain ⟨q3, e9, hF⟩ := mm_bd hF
      refine ht_V (C := "MarkupStoreModel") (rest := []) (as := [.int q2.1, .int 2]) X hl (cm_f l D dA s0 hE h0 r M hM z0 q2.1 2 q2.2 q3 e9) (List.forall_mem_cons.mpr ⟨ms_k1587, List.forall_mem_cons.mpr ⟨ms_k1589, List.forall_mem_cons.mpr ⟨ms_p63, List.forall_mem_cons.mpr ⟨ms_k7, List.forall_mem_cons.mpr ⟨ms_k1590, fun _ h => absurd h List.not_mem_nil⟩⟩⟩⟩⟩) ⟨rfl, by decide +kernel, by decide +kernel, (by decide +kernel : (parseMethodDescriptor "(II)I").map (fun d => d.parameters.length) = some 2)⟩ (hm_recv hK I rfl mm_hr) I ⟨rfl, rfl⟩ ⟨⟨Nat.le_of_ble_eq_true rfl, Nat.le_of_ble_eq_true rfl⟩, Nat.le_of_ble_eq_true rfl, Nat.le_of_ble_eq_true rfl⟩ rfl (Nat.le_of_ble_eq_true rfl) d49_22 (fun vv h1 z1 H locs hR I9 => ?_)
      obtain ⟨e1, e2, e3⟩ := hR
      rw [e2, e3] at I9
      clear I e2 e3 e9
      have I := I9
      clear I9
      subst e1
      refine W.eq (g2 := F0 m 25 ls [.int q3.1]) rfl ?_
      refine lv_iload_n hx hb d49_25 rfl (lv_at hl 1 rfl) ?_
      refine lv_icmp_ne hx hb d49_26 rfl (fun h9 => ?_) (fun h9 => ?_)
      · have hF := (if_neg h9).symm.trans hF
        exact b46 (g_child_5 n9) hk5 ls x1 x2 x3 x4 q3.2 _ _ hF (hl.sub [0, 1, 2, 3, 4] rfl) I
      · have hF := (if_pos h9).symm.trans hF
        refine lv_iload_n hx hb d49_29 rfl (lv_at hl 3 rfl) ?_
        refine lv_if_lt hx hb d49_30 rfl (fun h9 => ?_) (fun h9 => ?_)
        · have hF := (if_pos h9).symm.trans hF
          exact b37 (g_child_5 n9) hk5 ls x1 x2 x4 q3.2 _ _ hF (hl.sub [0, 1, 2, 4] rfl) I
        · have hF := (if_neg h9).symm.trans hF
          refine lv_iload_n hx hb d49_33 rfl (lv_at hl 2 rfl) ?_
          refine lv_if_ge hx hb d49_34 rfl (fun h9 => ?_) (fun h9 => ?_)
          · have hF := (if_pos h9).symm.trans hF
            exact b46 (g_child_5 n9) hk5 ls x1 x2 x3 x4 q3.2 _ _ hF (hl.sub [0, 1, 2, 3, 4] rfl) I
          · have hF := (if_neg h9).symm.trans hF
            exact b37 (g_child_5 n9) hk5 ls x1 x2 x4 q3.2 _ _ hF (hl.sub [0, 1, 2, 4] rfl) I
  have hF := hg
  unfold g_child at hF
  refine lv_iconst (v := (-1)) hx hb d49_0 (by decide) ?_
  refine lv_istore_n hx hb d49_1 rfl hl (by decide) rfl (fun ls hl => ?_)
  have hl : lv_has ls 5 [(3, .int (-1)), (0, .ref r), (1, .int y1), (2, .int y2)] := hl
  refine lv_iconst (v := 0) hx hb d49_2 (by decide) ?_
  refine lv_istore hx hb d49_3 hl (by decide) rfl (fun ls hl => ?_)
  have hl : lv_has ls 5 [(4, .int 0), (3, .int (-1)), (0, .ref r), (1, .int y1), (2, .int y2)] := hl
  exact b5 mF ls y1 y2 (-1) 0 st _ _ hF (hl.sub [2, 3, 4, 1, 0] rfl) I

def g_look_21 (st : mT) : Option (Int32 × mT) := (some (0, st))
def g_look (y1 : Int32) (st : mT) : Option (Int32 × mT) := (if y1 < 0 then (g_look_21 st) else (if (st.1 7) ≤ y1 then (g_look_21 st) else (mm_ld (st.2.1 6) 120 y1 (fun v1 => (mm_cc v1 (some (v1, st)))))))
set_option maxRecDepth 100000 in
set_option maxHeartbeats 8000000 in
theorem cm_look (l : Launch) (D : va_G) (dA : Nat → ClassId) (s0 : State) (hE : ms_EV D dA s0) (h0 : hm_T) (r : Nat) (M : Nat → Nat) (hM : mm_ok r M) (z0 : hz_T) (y1 : Int32) (st : mT) (q : Int32 × mT) (hg : g_look y1 st = some q) : ht_C l D s0 yM50 bM50 2 (Option.some Jvm.ClassFile.FieldType.char) 0 0 0 0 [.ref r, .int y1] (fun h z => h = mm_h dA h0 r M st ∧ z = z0) (fun h z vv h1 z1 => vv = some (.int q.1) ∧ h1 = mm_h dA h0 r M q.2 ∧ z1 = z0) := by
  refine ht_C.mk hE.1 (by decide) (Nat.le_of_ble_eq_true rfl) [(0, .ref r), (1, .int y1)] rfl ?_
  intro p e s m below meth c ls h z X hin hpre I hl
  have hx := X.1
  have hb := X.2.1
  have hml := X.2.2.1
  have hown : s.vm.findClass "MarkupStoreModel" = some m.cls := X.2.2.2.1
  have hts := X.2.2.2.2.2.2.1
  have hK := X.2.2.2.2.2.2.2.2.1
  rw [hpre.1, hpre.2] at I
  clear hpre
  have b21 : ∀ (ls : Array Slot) (st : mT) (H : Heap) (locs : List Loc), g_look_21 st = some q → lv_has ls 2 [] → hm_I D s0 s (mm_h dA h0 r M st) z0 H locs → W p l e { frames := 0, cells := 0, slots := 0, locals := 0 } s m ([.ref r, .int y1] : List Value).toArray below meth c H locs 0 0 (MQ below (ht_Q D s0 (fun vv h1 z1 => vv = some (.int q.1) ∧ h1 = mm_h dA h0 r M q.2 ∧ z1 = z0)) ([.ref r, .int y1] : List Value).toArray s 0 0 (fun q => s0.heap.size ≤ q)) (F0 m 21 ls []) := by
    intro ls st H locs hF hl I
    unfold g_look_21 at hF
    refine lv_iconst (v := 0) hx hb d50_21 (by decide) ?_
    exact ht_zret X d50_22 I (Nat.le_of_ble_eq_true rfl) (Nat.le_of_ble_eq_true rfl) (mm_fin hF) rfl
  have hF := hg
  unfold g_look at hF
  refine lv_iload_n hx hb d50_0 rfl (lv_at hl 1 rfl) ?_
  refine lv_if_lt hx hb d50_1 rfl (fun h9 => ?_) (fun h9 => ?_)
  · have hF := (if_pos h9).symm.trans hF
    exact b21 ls st _ _ hF (hl.sub [] rfl) I
  · have hF := (if_neg h9).symm.trans hF
    refine lv_iload_n hx hb d50_4 rfl (lv_at hl 1 rfl) ?_
    refine lv_aload_n hx hb d50_5 rfl (lv_at hl 0 rfl) ?_
    refine va_get (D := D) (ci := 2) (v := .int (st.1 7)) (C := kR2) (T := kT2) (N := 60) hx hb hts ku2 hown hK (hm_one I.1 mm_hr) 0 rfl rfl 7 (by decide) (hts _ ms_k1323) (fun _ h => h) rfl d50_6 ?_
    refine lv_icmp_ge hx hb d50_9 rfl (fun h9 => ?_) (fun h9 => ?_)
    · have hF := (if_pos h9).symm.trans hF
      exact b21 ls st _ _ hF (hl.sub [] rfl) I
    · have hF := (if_neg h9).symm.trans hF
      refine lv_aload_n hx hb d50_12 rfl (lv_at hl 0 rfl) ?_
      refine va_get (D := D) (ci := 2) (v := .ref (M 6)) (C := kR2) (T := kT2) (N := 60) hx hb hts ku2 hown hK (hm_one I.1 mm_hr) 0 rfl rfl 6 (by decide) (hts _ ms_k1322) (fun _ h => h) rfl d50_13 ?_
      refine lv_iload_n hx hb d50_16 rfl (lv_at hl 1 rfl) ?_
      obtain ⟨v1, i9, e9, hF⟩ := mm_ld_some hF
      refine va_cald hx hb hK (hm_one I.1 (mm_a6 hM)) 0 1 rfl rfl i9 d50_17 ?_
      refine ms_top (y := v1) e9 ?_
      clear e9 i9
      refine lv_goto hx hb d50_18 rfl ?_
      obtain ⟨hz9, hF⟩ := mm_cc_some hF
      exact ht_zret X d50_22 I (Nat.le_of_ble_eq_true rfl) (Nat.le_of_ble_eq_true rfl) (mm_fin hF) hz9

def g_small_16 (st : mT) : Option (Int32 × mT) := (some (0, st))
def g_small (y0 : Int32) (st : mT) : Option (Int32 × mT) := (if y0 < 97 then (g_small_16 st) else (if 122 < y0 then (g_small_16 st) else (some (1, st))))
set_option maxRecDepth 100000 in
set_option maxHeartbeats 8000000 in
theorem cm_small (l : Launch) (D : va_G) (dA : Nat → ClassId) (s0 : State) (hE : ms_EV D dA s0) (h0 : hm_T) (r : Nat) (M : Nat → Nat) (hM : mm_ok r M) (z0 : hz_T) (y0 : Int32) (st : mT) (q : Int32 × mT) (hg : g_small y0 st = some q) : ht_C l D s0 yM51 bM51 1 (Option.some Jvm.ClassFile.FieldType.boolean) 0 0 0 0 [.int y0] (fun h z => h = mm_h dA h0 r M st ∧ z = z0) (fun h z vv h1 z1 => vv = some (.int q.1) ∧ h1 = mm_h dA h0 r M q.2 ∧ z1 = z0) := by
  refine ht_C.mk hE.1 (by decide) (Nat.le_of_ble_eq_true rfl) [(0, .int y0)] rfl ?_
  intro p e s m below meth c ls h z X hin hpre I hl
  have hx := X.1
  have hb := X.2.1
  have hml := X.2.2.1
  have hown : s.vm.findClass "MarkupStoreModel" = some m.cls := X.2.2.2.1
  have hts := X.2.2.2.2.2.2.1
  have hK := X.2.2.2.2.2.2.2.2.1
  rw [hpre.1, hpre.2] at I
  clear hpre
  have b16 : ∀ (ls : Array Slot) (st : mT) (H : Heap) (locs : List Loc), g_small_16 st = some q → lv_has ls 1 [] → hm_I D s0 s (mm_h dA h0 r M st) z0 H locs → W p l e { frames := 0, cells := 0, slots := 0, locals := 0 } s m ([.int y0] : List Value).toArray below meth c H locs 0 0 (MQ below (ht_Q D s0 (fun vv h1 z1 => vv = some (.int q.1) ∧ h1 = mm_h dA h0 r M q.2 ∧ z1 = z0)) ([.int y0] : List Value).toArray s 0 0 (fun q => s0.heap.size ≤ q)) (F0 m 16 ls []) := by
    intro ls st H locs hF hl I
    unfold g_small_16 at hF
    refine lv_iconst (v := 0) hx hb d51_16 (by decide) ?_
    exact ht_zret X d51_17 I (Nat.le_of_ble_eq_true rfl) (Nat.le_of_ble_eq_true rfl) (mm_fin hF) rfl
  have hF := hg
  unfold g_small at hF
  refine lv_iload_n hx hb d51_0 rfl (lv_at hl 0 rfl) ?_
  refine lv_bipush (v := 97) hx hb d51_1 (by decide) ?_
  refine lv_icmp_lt hx hb d51_3 rfl (fun h9 => ?_) (fun h9 => ?_)
  · have hF := (if_pos h9).symm.trans hF
    exact b16 ls st _ _ hF (hl.sub [] rfl) I
  · have hF := (if_neg h9).symm.trans hF
    refine lv_iload_n hx hb d51_6 rfl (lv_at hl 0 rfl) ?_
    refine lv_bipush (v := 122) hx hb d51_7 (by decide) ?_
    refine lv_icmp_gt hx hb d51_9 rfl (fun h9 => ?_) (fun h9 => ?_)
    · have hF := (if_pos h9).symm.trans hF
      exact b16 ls st _ _ hF (hl.sub [] rfl) I
    · have hF := (if_neg h9).symm.trans hF
      refine lv_iconst (v := 1) hx hb d51_12 (by decide) ?_
      refine lv_goto hx hb d51_13 rfl ?_
      exact ht_zret X d51_17 I (Nat.le_of_ble_eq_true rfl) (Nat.le_of_ble_eq_true rfl) (mm_fin hF) rfl
