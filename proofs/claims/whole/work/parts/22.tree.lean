theorem ms_k80 : (Jvm.Cond.fieldLink "MarkupStore$Tree" (11 : Nat) "MarkupStore$Tree" "made" "[LMarkupStore$Node;") ∈ ms_tb := ms_i1 80 (by decide +kernel) (by decide +kernel)
theorem ms_k81 : (Jvm.Cond.fieldLink "MarkupStore$Tree" (23 : Nat) "MarkupStore$Tree" "madeSize" "I") ∈ ms_tb := ms_i1 81 (by decide +kernel) (by decide +kernel)
theorem ms_k82 : (Jvm.Cond.fieldLink "MarkupStore$Tree" (17 : Nat) "MarkupStore$Tree" "order" "[LMarkupStore$Node;") ∈ ms_tb := ms_i1 82 (by decide +kernel) (by decide +kernel)
theorem ms_k84 : (Jvm.Cond.fieldLink "MarkupStore$Walker" (54 : Nat) "MarkupStore$Tree" "order" "[LMarkupStore$Node;") ∈ ms_tb := ms_i1 84 (by decide +kernel) (by decide +kernel)
theorem ms_k87 : (Jvm.Cond.fieldLink "MarkupStore$Tree" (30 : Nat) "MarkupStore$Tree" "size" "I") ∈ ms_tb := ms_i1 87 (by decide +kernel) (by decide +kernel)
theorem ms_k88 : (Jvm.Cond.fieldLink "MarkupStore$Walker" (45 : Nat) "MarkupStore$Tree" "size" "I") ∈ ms_tb := ms_i1 88 (by decide +kernel) (by decide +kernel)
theorem ms_k447 : (Jvm.Cond.fieldLink "MarkupStore$Tree" (36 : Nat) "MarkupStore$Node" "parent" "LMarkupStore$Node;") ∈ ms_tb := ms_i2 207 (by decide +kernel) (by decide +kernel)
theorem ms_k448 : (Jvm.Cond.fieldLink "MarkupStore$Walker" (196 : Nat) "MarkupStore$Node" "parent" "LMarkupStore$Node;") ∈ ms_tb := ms_i2 208 (by decide +kernel) (by decide +kernel)
theorem ms_k450 : (Jvm.Cond.fieldLink "MarkupStore$Tree" (33 : Nat) "MarkupStore$Node" "depth" "I") ∈ ms_tb := ms_i2 210 (by decide +kernel) (by decide +kernel)
theorem ms_k463 : (Jvm.Cond.fieldLink "MarkupStore$Tree" (27 : Nat) "MarkupStore$Node" "place" "I") ∈ ms_tb := ms_i2 223 (by decide +kernel) (by decide +kernel)
theorem ms_k465 : (Jvm.Cond.fieldLink "MarkupStore$Walker" (137 : Nat) "MarkupStore$Node" "place" "I") ∈ ms_tb := ms_i2 225 (by decide +kernel) (by decide +kernel)
theorem ms_k1088 : (Jvm.Cond.fieldLink "MarkupStore$Walker" (9 : Nat) "MarkupStore$Walker" "tree" "LMarkupStore$Tree;") ∈ ms_tb := ms_i5 128 (by decide +kernel) (by decide +kernel)
theorem ms_k1252 : (Jvm.Cond.fieldLink "MarkupStore$Scribe" (9 : Nat) "MarkupStore$Scribe" "wanted" "I") ∈ ms_tb := ms_i6 52 (by decide +kernel) (by decide +kernel)
theorem ms_k1253 : (Jvm.Cond.fieldLink "MarkupStore$Scribe" (15 : Nat) "MarkupStore$Scribe" "count" "I") ∈ ms_tb := ms_i6 53 (by decide +kernel) (by decide +kernel)
theorem ms_k1255 : (Jvm.Cond.fieldLink "MarkupStore$Scribe" (18 : Nat) "MarkupStore$Scribe" "seen" "I") ∈ ms_tb := ms_i6 55 (by decide +kernel) (by decide +kernel)
abbrev bM133 : ByteArray := prog_11_method_2_code
def yM133 : MethodName := ⟨"MarkupStore$Tree", "find", "(I)LMarkupStore$Node;"⟩
abbrev bM134 : ByteArray := prog_11_method_3_code
def yM134 : MethodName := ⟨"MarkupStore$Tree", "mayMake", "(I)Z"⟩
abbrev bM135 : ByteArray := prog_11_method_4_code
def yM135 : MethodName := ⟨"MarkupStore$Tree", "endOf", "(LMarkupStore$Node;)I"⟩
abbrev bM136 : ByteArray := prog_11_method_5_code
def yM136 : MethodName := ⟨"MarkupStore$Tree", "childBefore", "(LMarkupStore$Node;I)LMarkupStore$Node;"⟩
abbrev bM137 : ByteArray := prog_11_method_6_code
def yM137 : MethodName := ⟨"MarkupStore$Tree", "childFrom", "(LMarkupStore$Node;I)LMarkupStore$Node;"⟩
abbrev bM138 : ByteArray := prog_11_method_7_code
def yM138 : MethodName := ⟨"MarkupStore$Tree", "childrenWithin", "(LMarkupStore$Node;II)I"⟩
abbrev bM139 : ByteArray := prog_11_method_13_code
def yM139 : MethodName := ⟨"MarkupStore$Tree", "setPlaces", "()V"⟩
abbrev bM140 : ByteArray := prog_8_method_7_code
def yM140 : MethodName := ⟨"MarkupStore$Scribe", "put", "(C)V"⟩
abbrev bM141 : ByteArray := prog_12_method_2_code
def yM141 : MethodName := ⟨"MarkupStore$Walker", "has", "(JI)Z"⟩
abbrev bM142 : ByteArray := prog_12_method_15_code
def yM142 : MethodName := ⟨"MarkupStore$Walker", "documentAxis", "(C)J"⟩
abbrev bM143 : ByteArray := prog_12_method_17_code
def yM143 : MethodName := ⟨"MarkupStore$Walker", "ancestors", "(LMarkupStore$Node;)J"⟩
abbrev bM144 : ByteArray := prog_12_method_18_code
def yM144 : MethodName := ⟨"MarkupStore$Walker", "children", "(LMarkupStore$Node;)J"⟩
abbrev bM145 : ByteArray := prog_12_method_19_code
def yM145 : MethodName := ⟨"MarkupStore$Walker", "range", "(II)J"⟩
theorem d133_0 : decode bM133 0 = .ok (.iload_n 1, 1) := by decide +kernel
theorem d133_1 : decode bM133 1 = .ok (.ifCond .lt 24, 3) := by decide +kernel
theorem d133_4 : decode bM133 4 = .ok (.iload_n 1, 1) := by decide +kernel
theorem d133_5 : decode bM133 5 = .ok (.aload_n 0, 1) := by decide +kernel
theorem d133_6 : decode bM133 6 = .ok (.getfield 23, 3) := by decide +kernel
theorem d133_9 : decode bM133 9 = .ok (.if_icmp .ge 16, 3) := by decide +kernel
theorem d133_12 : decode bM133 12 = .ok (.aload_n 0, 1) := by decide +kernel
theorem d133_13 : decode bM133 13 = .ok (.getfield 11, 3) := by decide +kernel
theorem d133_16 : decode bM133 16 = .ok (.iload_n 1, 1) := by decide +kernel
theorem d133_17 : decode bM133 17 = .ok (.aaload, 1) := by decide +kernel
theorem d133_18 : decode bM133 18 = .ok (.getfield 27, 3) := by decide +kernel
theorem d133_21 : decode bM133 21 = .ok (.iconst (-1), 1) := by decide +kernel
theorem d133_22 : decode bM133 22 = .ok (.if_icmp .ne 5, 3) := by decide +kernel
theorem d133_25 : decode bM133 25 = .ok (.aconst_null, 1) := by decide +kernel
theorem d133_26 : decode bM133 26 = .ok (.areturn, 1) := by decide +kernel
theorem d133_27 : decode bM133 27 = .ok (.aload_n 0, 1) := by decide +kernel
theorem d133_28 : decode bM133 28 = .ok (.getfield 11, 3) := by decide +kernel
theorem d133_31 : decode bM133 31 = .ok (.iload_n 1, 1) := by decide +kernel
theorem d133_32 : decode bM133 32 = .ok (.aaload, 1) := by decide +kernel
theorem d133_33 : decode bM133 33 = .ok (.areturn, 1) := by decide +kernel
theorem d134_0 : decode bM134 0 = .ok (.aload_n 0, 1) := by decide +kernel
theorem d134_1 : decode bM134 1 = .ok (.getfield 23, 3) := by decide +kernel
theorem d134_4 : decode bM134 4 = .ok (.iload_n 1, 1) := by decide +kernel
theorem d134_5 : decode bM134 5 = .ok (.iadd, 1) := by decide +kernel
theorem d134_6 : decode bM134 6 = .ok (.sipush 200, 3) := by decide +kernel
theorem d134_9 : decode bM134 9 = .ok (.if_icmp .gt 7, 3) := by decide +kernel
theorem d134_12 : decode bM134 12 = .ok (.iconst 1, 1) := by decide +kernel
theorem d134_13 : decode bM134 13 = .ok (.goto 4, 3) := by decide +kernel
theorem d134_16 : decode bM134 16 = .ok (.iconst 0, 1) := by decide +kernel
theorem d134_17 : decode bM134 17 = .ok (.ireturn, 1) := by decide +kernel
theorem d135_0 : decode bM135 0 = .ok (.aload_n 1, 1) := by decide +kernel
theorem d135_1 : decode bM135 1 = .ok (.getfield 27, 3) := by decide +kernel
theorem d135_4 : decode bM135 4 = .ok (.iconst 1, 1) := by decide +kernel
theorem d135_5 : decode bM135 5 = .ok (.iadd, 1) := by decide +kernel
theorem d135_6 : decode bM135 6 = .ok (.istore_n 2, 1) := by decide +kernel
theorem d135_7 : decode bM135 7 = .ok (.iload_n 2, 1) := by decide +kernel
theorem d135_8 : decode bM135 8 = .ok (.aload_n 0, 1) := by decide +kernel
theorem d135_9 : decode bM135 9 = .ok (.getfield 30, 3) := by decide +kernel
theorem d135_12 : decode bM135 12 = .ok (.if_icmp .ge 25, 3) := by decide +kernel
theorem d135_15 : decode bM135 15 = .ok (.aload_n 0, 1) := by decide +kernel
theorem d135_16 : decode bM135 16 = .ok (.getfield 17, 3) := by decide +kernel
theorem d135_19 : decode bM135 19 = .ok (.iload_n 2, 1) := by decide +kernel
theorem d135_20 : decode bM135 20 = .ok (.aaload, 1) := by decide +kernel
theorem d135_21 : decode bM135 21 = .ok (.getfield 33, 3) := by decide +kernel
theorem d135_24 : decode bM135 24 = .ok (.aload_n 1, 1) := by decide +kernel
theorem d135_25 : decode bM135 25 = .ok (.getfield 33, 3) := by decide +kernel
theorem d135_28 : decode bM135 28 = .ok (.if_icmp .le 9, 3) := by decide +kernel
theorem d135_31 : decode bM135 31 = .ok (.iinc 2 1, 3) := by decide +kernel
theorem d135_34 : decode bM135 34 = .ok (.goto (-27), 3) := by decide +kernel
theorem d135_37 : decode bM135 37 = .ok (.iload_n 2, 1) := by decide +kernel
theorem d135_38 : decode bM135 38 = .ok (.ireturn, 1) := by decide +kernel
theorem d136_0 : decode bM136 0 = .ok (.iload_n 2, 1) := by decide +kernel
theorem d136_1 : decode bM136 1 = .ok (.iconst 1, 1) := by decide +kernel
theorem d136_2 : decode bM136 2 = .ok (.isub, 1) := by decide +kernel
theorem d136_3 : decode bM136 3 = .ok (.istore_n 3, 1) := by decide +kernel
theorem d136_4 : decode bM136 4 = .ok (.iload_n 3, 1) := by decide +kernel
theorem d136_5 : decode bM136 5 = .ok (.aload_n 1, 1) := by decide +kernel
theorem d136_6 : decode bM136 6 = .ok (.getfield 27, 3) := by decide +kernel
theorem d136_9 : decode bM136 9 = .ok (.if_icmp .le 29, 3) := by decide +kernel
theorem d136_12 : decode bM136 12 = .ok (.aload_n 0, 1) := by decide +kernel
theorem d136_13 : decode bM136 13 = .ok (.getfield 17, 3) := by decide +kernel
theorem d136_16 : decode bM136 16 = .ok (.iload_n 3, 1) := by decide +kernel
theorem d136_17 : decode bM136 17 = .ok (.aaload, 1) := by decide +kernel
theorem d136_18 : decode bM136 18 = .ok (.getfield 36, 3) := by decide +kernel
theorem d136_21 : decode bM136 21 = .ok (.aload_n 1, 1) := by decide +kernel
theorem d136_22 : decode bM136 22 = .ok (.if_acmp .ne 10, 3) := by decide +kernel
theorem d136_25 : decode bM136 25 = .ok (.aload_n 0, 1) := by decide +kernel
theorem d136_26 : decode bM136 26 = .ok (.getfield 17, 3) := by decide +kernel
theorem d136_29 : decode bM136 29 = .ok (.iload_n 3, 1) := by decide +kernel
theorem d136_30 : decode bM136 30 = .ok (.aaload, 1) := by decide +kernel
theorem d136_31 : decode bM136 31 = .ok (.areturn, 1) := by decide +kernel
theorem d136_32 : decode bM136 32 = .ok (.iinc 3 (-1), 3) := by decide +kernel
theorem d136_35 : decode bM136 35 = .ok (.goto (-31), 3) := by decide +kernel
theorem d136_38 : decode bM136 38 = .ok (.aconst_null, 1) := by decide +kernel
theorem d136_39 : decode bM136 39 = .ok (.areturn, 1) := by decide +kernel
theorem d137_0 : decode bM137 0 = .ok (.iload_n 2, 1) := by decide +kernel
theorem d137_1 : decode bM137 1 = .ok (.istore_n 3, 1) := by decide +kernel
theorem d137_2 : decode bM137 2 = .ok (.iload_n 3, 1) := by decide +kernel
theorem d137_3 : decode bM137 3 = .ok (.aload_n 0, 1) := by decide +kernel
theorem d137_4 : decode bM137 4 = .ok (.getfield 30, 3) := by decide +kernel
theorem d137_7 : decode bM137 7 = .ok (.if_icmp .ge 29, 3) := by decide +kernel
theorem d137_10 : decode bM137 10 = .ok (.aload_n 0, 1) := by decide +kernel
theorem d137_11 : decode bM137 11 = .ok (.getfield 17, 3) := by decide +kernel
theorem d137_14 : decode bM137 14 = .ok (.iload_n 3, 1) := by decide +kernel
theorem d137_15 : decode bM137 15 = .ok (.aaload, 1) := by decide +kernel
theorem d137_16 : decode bM137 16 = .ok (.getfield 36, 3) := by decide +kernel
theorem d137_19 : decode bM137 19 = .ok (.aload_n 1, 1) := by decide +kernel
theorem d137_20 : decode bM137 20 = .ok (.if_acmp .ne 10, 3) := by decide +kernel
theorem d137_23 : decode bM137 23 = .ok (.aload_n 0, 1) := by decide +kernel
theorem d137_24 : decode bM137 24 = .ok (.getfield 17, 3) := by decide +kernel
theorem d137_27 : decode bM137 27 = .ok (.iload_n 3, 1) := by decide +kernel
theorem d137_28 : decode bM137 28 = .ok (.aaload, 1) := by decide +kernel
theorem d137_29 : decode bM137 29 = .ok (.areturn, 1) := by decide +kernel
theorem d137_30 : decode bM137 30 = .ok (.iinc 3 1, 3) := by decide +kernel
theorem d137_33 : decode bM137 33 = .ok (.goto (-31), 3) := by decide +kernel
theorem d137_36 : decode bM137 36 = .ok (.aconst_null, 1) := by decide +kernel
theorem d137_37 : decode bM137 37 = .ok (.areturn, 1) := by decide +kernel
theorem d138_0 : decode bM138 0 = .ok (.iconst 0, 1) := by decide +kernel
theorem d138_1 : decode bM138 1 = .ok (.istore 4, 2) := by decide +kernel
theorem d138_3 : decode bM138 3 = .ok (.iload_n 2, 1) := by decide +kernel
theorem d138_4 : decode bM138 4 = .ok (.istore 5, 2) := by decide +kernel
theorem d138_6 : decode bM138 6 = .ok (.iload 5, 2) := by decide +kernel
theorem d138_8 : decode bM138 8 = .ok (.iload_n 3, 1) := by decide +kernel
theorem d138_9 : decode bM138 9 = .ok (.if_icmp .ge 26, 3) := by decide +kernel
theorem d138_12 : decode bM138 12 = .ok (.aload_n 0, 1) := by decide +kernel
theorem d138_13 : decode bM138 13 = .ok (.getfield 17, 3) := by decide +kernel
theorem d138_16 : decode bM138 16 = .ok (.iload 5, 2) := by decide +kernel
theorem d138_18 : decode bM138 18 = .ok (.aaload, 1) := by decide +kernel
theorem d138_19 : decode bM138 19 = .ok (.getfield 36, 3) := by decide +kernel
theorem d138_22 : decode bM138 22 = .ok (.aload_n 1, 1) := by decide +kernel
theorem d138_23 : decode bM138 23 = .ok (.if_acmp .ne 6, 3) := by decide +kernel
theorem d138_26 : decode bM138 26 = .ok (.iinc 4 1, 3) := by decide +kernel
theorem d138_29 : decode bM138 29 = .ok (.iinc 5 1, 3) := by decide +kernel
theorem d138_32 : decode bM138 32 = .ok (.goto (-26), 3) := by decide +kernel
theorem d138_35 : decode bM138 35 = .ok (.iload 4, 2) := by decide +kernel
theorem d138_37 : decode bM138 37 = .ok (.ireturn, 1) := by decide +kernel
theorem d139_0 : decode bM139 0 = .ok (.iconst 0, 1) := by decide +kernel
theorem d139_1 : decode bM139 1 = .ok (.istore_n 1, 1) := by decide +kernel
theorem d139_2 : decode bM139 2 = .ok (.iload_n 1, 1) := by decide +kernel
theorem d139_3 : decode bM139 3 = .ok (.aload_n 0, 1) := by decide +kernel
theorem d139_4 : decode bM139 4 = .ok (.getfield 30, 3) := by decide +kernel
theorem d139_7 : decode bM139 7 = .ok (.if_icmp .ge 19, 3) := by decide +kernel
theorem d139_10 : decode bM139 10 = .ok (.aload_n 0, 1) := by decide +kernel
theorem d139_11 : decode bM139 11 = .ok (.getfield 17, 3) := by decide +kernel
theorem d139_14 : decode bM139 14 = .ok (.iload_n 1, 1) := by decide +kernel
theorem d139_15 : decode bM139 15 = .ok (.aaload, 1) := by decide +kernel
theorem d139_16 : decode bM139 16 = .ok (.iload_n 1, 1) := by decide +kernel
theorem d139_17 : decode bM139 17 = .ok (.putfield 27, 3) := by decide +kernel
theorem d139_20 : decode bM139 20 = .ok (.iinc 1 1, 3) := by decide +kernel
theorem d139_23 : decode bM139 23 = .ok (.goto (-21), 3) := by decide +kernel
theorem d139_26 : decode bM139 26 = .ok (.return_, 1) := by decide +kernel
theorem d140_0 : decode bM140 0 = .ok (.aload_n 0, 1) := by decide +kernel
theorem d140_1 : decode bM140 1 = .ok (.getfield 15, 3) := by decide +kernel
theorem d140_4 : decode bM140 4 = .ok (.aload_n 0, 1) := by decide +kernel
theorem d140_5 : decode bM140 5 = .ok (.getfield 9, 3) := by decide +kernel
theorem d140_8 : decode bM140 8 = .ok (.if_icmp .ne 8, 3) := by decide +kernel
theorem d140_11 : decode bM140 11 = .ok (.aload_n 0, 1) := by decide +kernel
theorem d140_12 : decode bM140 12 = .ok (.iload_n 1, 1) := by decide +kernel
theorem d140_13 : decode bM140 13 = .ok (.putfield 18, 3) := by decide +kernel
theorem d140_16 : decode bM140 16 = .ok (.aload_n 0, 1) := by decide +kernel
theorem d140_17 : decode bM140 17 = .ok (.dup, 1) := by decide +kernel
theorem d140_18 : decode bM140 18 = .ok (.getfield 15, 3) := by decide +kernel
theorem d140_21 : decode bM140 21 = .ok (.iconst 1, 1) := by decide +kernel
theorem d140_22 : decode bM140 22 = .ok (.iadd, 1) := by decide +kernel
theorem d140_23 : decode bM140 23 = .ok (.putfield 15, 3) := by decide +kernel
theorem d140_26 : decode bM140 26 = .ok (.return_, 1) := by decide +kernel
theorem d141_0 : decode bM141 0 = .ok (.lload_n 0, 1) := by decide +kernel
theorem d141_1 : decode bM141 1 = .ok (.iload_n 2, 1) := by decide +kernel
theorem d141_2 : decode bM141 2 = .ok (.lshr, 1) := by decide +kernel
theorem d141_3 : decode bM141 3 = .ok (.lconst 1, 1) := by decide +kernel
theorem d141_4 : decode bM141 4 = .ok (.land, 1) := by decide +kernel
theorem d141_5 : decode bM141 5 = .ok (.lconst 1, 1) := by decide +kernel
theorem d141_6 : decode bM141 6 = .ok (.lcmp, 1) := by decide +kernel
theorem d141_7 : decode bM141 7 = .ok (.ifCond .ne 7, 3) := by decide +kernel
theorem d141_10 : decode bM141 10 = .ok (.iconst 1, 1) := by decide +kernel
theorem d141_11 : decode bM141 11 = .ok (.goto 4, 3) := by decide +kernel
theorem d141_14 : decode bM141 14 = .ok (.iconst 0, 1) := by decide +kernel
theorem d141_15 : decode bM141 15 = .ok (.ireturn, 1) := by decide +kernel
theorem d142_0 : decode bM142 0 = .ok (.iload_n 1, 1) := by decide +kernel
theorem d143_0 : decode bM143 0 = .ok (.lconst 0, 1) := by decide +kernel
theorem d143_1 : decode bM143 1 = .ok (.lstore_n 2, 1) := by decide +kernel
theorem d143_2 : decode bM143 2 = .ok (.aload_n 1, 1) := by decide +kernel
theorem d143_3 : decode bM143 3 = .ok (.getfield 196, 3) := by decide +kernel
theorem d143_6 : decode bM143 6 = .ok (.astore 4, 2) := by decide +kernel
theorem d143_8 : decode bM143 8 = .ok (.aload 4, 2) := by decide +kernel
theorem d143_10 : decode bM143 10 = .ok (.ifnull 23, 3) := by decide +kernel
theorem d143_13 : decode bM143 13 = .ok (.lload_n 2, 1) := by decide +kernel
theorem d143_14 : decode bM143 14 = .ok (.lconst 1, 1) := by decide +kernel
theorem d143_15 : decode bM143 15 = .ok (.aload 4, 2) := by decide +kernel
theorem d143_17 : decode bM143 17 = .ok (.getfield 137, 3) := by decide +kernel
theorem d143_20 : decode bM143 20 = .ok (.lshl, 1) := by decide +kernel
theorem d143_21 : decode bM143 21 = .ok (.lor, 1) := by decide +kernel
theorem d143_22 : decode bM143 22 = .ok (.lstore_n 2, 1) := by decide +kernel
theorem d143_23 : decode bM143 23 = .ok (.aload 4, 2) := by decide +kernel
theorem d143_25 : decode bM143 25 = .ok (.getfield 196, 3) := by decide +kernel
theorem d143_28 : decode bM143 28 = .ok (.astore 4, 2) := by decide +kernel
theorem d143_30 : decode bM143 30 = .ok (.goto (-22), 3) := by decide +kernel
theorem d143_33 : decode bM143 33 = .ok (.lload_n 2, 1) := by decide +kernel
theorem d143_34 : decode bM143 34 = .ok (.lreturn, 1) := by decide +kernel
theorem d144_0 : decode bM144 0 = .ok (.lconst 0, 1) := by decide +kernel
theorem d144_1 : decode bM144 1 = .ok (.lstore_n 2, 1) := by decide +kernel
theorem d144_2 : decode bM144 2 = .ok (.iconst 0, 1) := by decide +kernel
theorem d144_3 : decode bM144 3 = .ok (.istore 4, 2) := by decide +kernel
theorem d144_5 : decode bM144 5 = .ok (.aload_n 1, 1) := by decide +kernel
theorem d144_6 : decode bM144 6 = .ok (.ifnull 49, 3) := by decide +kernel
theorem d144_9 : decode bM144 9 = .ok (.iload 4, 2) := by decide +kernel
theorem d144_11 : decode bM144 11 = .ok (.aload_n 0, 1) := by decide +kernel
theorem d144_12 : decode bM144 12 = .ok (.getfield 9, 3) := by decide +kernel
theorem d144_15 : decode bM144 15 = .ok (.getfield 45, 3) := by decide +kernel
theorem d144_18 : decode bM144 18 = .ok (.if_icmp .ge 37, 3) := by decide +kernel
theorem d144_21 : decode bM144 21 = .ok (.lload_n 2, 1) := by decide +kernel
theorem d144_22 : decode bM144 22 = .ok (.aload_n 0, 1) := by decide +kernel
theorem d144_23 : decode bM144 23 = .ok (.getfield 9, 3) := by decide +kernel
theorem d144_26 : decode bM144 26 = .ok (.getfield 54, 3) := by decide +kernel
theorem d144_29 : decode bM144 29 = .ok (.iload 4, 2) := by decide +kernel
theorem d144_31 : decode bM144 31 = .ok (.aaload, 1) := by decide +kernel
theorem d144_32 : decode bM144 32 = .ok (.getfield 196, 3) := by decide +kernel
theorem d144_35 : decode bM144 35 = .ok (.aload_n 1, 1) := by decide +kernel
theorem d144_36 : decode bM144 36 = .ok (.if_acmp .ne 10, 3) := by decide +kernel
theorem d144_39 : decode bM144 39 = .ok (.lconst 1, 1) := by decide +kernel
theorem d144_40 : decode bM144 40 = .ok (.iload 4, 2) := by decide +kernel
theorem d144_42 : decode bM144 42 = .ok (.lshl, 1) := by decide +kernel
theorem d144_43 : decode bM144 43 = .ok (.goto 4, 3) := by decide +kernel
theorem d144_46 : decode bM144 46 = .ok (.lconst 0, 1) := by decide +kernel
theorem d144_47 : decode bM144 47 = .ok (.lor, 1) := by decide +kernel
theorem d144_48 : decode bM144 48 = .ok (.lstore_n 2, 1) := by decide +kernel
theorem d144_49 : decode bM144 49 = .ok (.iinc 4 1, 3) := by decide +kernel
theorem d144_52 : decode bM144 52 = .ok (.goto (-47), 3) := by decide +kernel
theorem d144_55 : decode bM144 55 = .ok (.lload_n 2, 1) := by decide +kernel
theorem d144_56 : decode bM144 56 = .ok (.lreturn, 1) := by decide +kernel
theorem d145_0 : decode bM145 0 = .ok (.lconst 1, 1) := by decide +kernel
theorem d145_1 : decode bM145 1 = .ok (.iload_n 1, 1) := by decide +kernel
theorem d145_2 : decode bM145 2 = .ok (.lshl, 1) := by decide +kernel
theorem d145_3 : decode bM145 3 = .ok (.lconst 1, 1) := by decide +kernel
theorem d145_4 : decode bM145 4 = .ok (.iload_n 0, 1) := by decide +kernel
theorem d145_5 : decode bM145 5 = .ok (.lshl, 1) := by decide +kernel
theorem d145_6 : decode bM145 6 = .ok (.lsub, 1) := by decide +kernel
theorem d145_7 : decode bM145 7 = .ok (.lreturn, 1) := by decide +kernel
def w_Tree_find_25 (dA : Nat → ClassId) (y0 : Nat) (K : Option Nat → hm_T → hz_T → Prop) (h : hm_T) (z : hz_T) : Prop := (K none h z)
def w_Tree_find (dA : Nat → ClassId) (y0 : Nat) (y1 : Int32) (K : Option Nat → hm_T → hz_T → Prop) (h0 : hm_T) (z0 : hz_T) : Prop := (if y1 < 0 then (w_Tree_find_25 dA y0 K h0 z0) else (cg_I h0 1 1 y0 (fun v1 => (if v1 ≤ y1 then (w_Tree_find_25 dA y0 K h0 z0) else (cg_R h0 1 0 y0 (fun v2 => (cg_d v2 (fun a3 => (cg_ar dA h0 5 a3 y1 (fun v4 => (cg_d v4 (fun a5 => (cg_I h0 8 6 a5 (fun v6 => (if v6 = (-1) then (w_Tree_find_25 dA y0 K h0 z0) else (cg_R h0 1 0 y0 (fun v7 => (cg_d v7 (fun a8 => (cg_ar dA h0 5 a8 y1 (fun v9 => (K v9 h0 z0))))))))))))))))))))))
set_option maxRecDepth 100000 in
set_option maxHeartbeats 8000000 in
theorem cw_Tree_find (l : Launch) (D : va_G) (dA : Nat → ClassId) (s0 : State) (hE : ms_EV D dA s0) (y0 : Nat) (y1 : Int32) (h0 : hm_T) (z0 : hz_T) (K : Option Nat → hm_T → hz_T → Prop) (hg : w_Tree_find dA y0 y1 K h0 z0) : ht_C l D s0 yM133 bM133 2 (Option.some (Jvm.ClassFile.FieldType.object "MarkupStore$Node")) 0 0 0 0 [.ref y0, .int y1] (fun h z => h = h0 ∧ z = z0) (fun h z vv h1 z1 => ∃ v, vv = some (va_rf v) ∧ K v h1 z1) := by
  refine ht_C.mk hE.1 (by decide) (Nat.le_of_ble_eq_true rfl) [(0, .ref y0), (1, .int y1)] rfl ?_
  intro p e s m below meth c ls h z X hin hpre I hl
  have hx := X.1
  have hb := X.2.1
  have hml := X.2.2.1
  have hown : s.vm.findClass "MarkupStore$Tree" = some m.cls := X.2.2.2.1
  have hts := X.2.2.2.2.2.2.1
  have hK := X.2.2.2.2.2.2.2.2.1
  rw [hpre.1, hpre.2] at I
  clear hpre
  have b25 : ∀ (ls : Array Slot) (h : hm_T) (z : hz_T) (H : Heap) (locs : List Loc), w_Tree_find_25 dA y0 K h z → lv_has ls 2 [] → hm_I D s0 s h z H locs → W p l e { frames := 0, cells := 0, slots := 0, locals := 0 } s m ([.ref y0, .int y1] : List Value).toArray below meth c H locs 0 0 (MQ below (ht_Q D s0 (fun vv h1 z1 => ∃ v, vv = some (va_rf v) ∧ K v h1 z1)) ([.ref y0, .int y1] : List Value).toArray s 0 0 (fun q => s0.heap.size ≤ q)) (F0 m 25 ls []) := by
    intro ls h z H locs hF hl I
    unfold w_Tree_find_25 at hF
    refine lv_null hx hb d133_25 ?_
    exact ht_aret X d133_26 I (Nat.le_of_ble_eq_true rfl) (Nat.le_of_ble_eq_true rfl) ⟨none, rfl, hF⟩ (Or.inl ⟨_, rfl⟩) (Or.inl rfl)
  have hF := hg
  unfold w_Tree_find at hF
  clear h z
  refine lv_iload_n hx hb d133_0 rfl (lv_at hl 1 rfl) ?_
  refine lv_if_lt hx hb d133_1 rfl (fun h9 => ?_) (fun h9 => ?_)
  · have hF := Eq.mp (if_pos h9) hF
    exact b25 ls h0 z0 _ _ hF (hl.sub [] rfl) I
  · have hF := Eq.mp (if_neg h9) hF
    refine lv_iload_n hx hb d133_4 rfl (lv_at hl 1 rfl) ?_
    refine lv_aload_n hx hb d133_5 rfl (lv_at hl 0 rfl) ?_
    obtain ⟨fs9, v1, c9, e9, hF⟩ := hF
    refine va_get (D := D) (ci := 1) (v := .int v1) (C := kR1) (T := kT1) (N := 6) hx hb hts ku1 hown hK (hm_one I.1 c9) 0 rfl rfl 1 (by decide) (hts _ ms_k81) (fun _ h => h) e9 d133_6 ?_
    clear e9 c9 fs9
    refine lv_icmp_ge hx hb d133_9 rfl (fun h9 => ?_) (fun h9 => ?_)
    · have hF := Eq.mp (if_pos h9) hF
      exact b25 ls h0 z0 _ _ hF (hl.sub [] rfl) I
    · have hF := Eq.mp (if_neg h9) hF
      refine lv_aload_n hx hb d133_12 rfl (lv_at hl 0 rfl) ?_
      obtain ⟨fs9, v2, c9, e9, hF⟩ := hF
      refine va_get (D := D) (ci := 1) (v := va_rf v2) (C := kR1) (T := kT1) (N := 6) hx hb hts ku1 hown hK (hm_one I.1 c9) 0 rfl rfl 0 (by decide) (hts _ ms_k80) (fun _ h => h) e9 d133_13 ?_
      clear e9 c9 fs9
      refine lv_iload_n hx hb d133_16 rfl (lv_at hl 1 rfl) ?_
      obtain ⟨a3, e9, hF⟩ := hF
      refine W.eq (g2 := F0 m 17 ls [.int y1, .ref a3]) (by rw [e9]; rfl) ?_
      clear e9
      obtain ⟨n8, f8, c9, i9, hF⟩ := hF
      refine va_aldq hx hb hK (hm_one I.1 c9) 0 5 rfl rfl i9 d133_17 ?_
      generalize f8 (Int32.toNatClampNeg y1) = v4 at hF ⊢
      clear c9 i9
      obtain ⟨a5, e9, hF⟩ := hF
      refine W.eq (g2 := F0 m 18 ls [.ref a5]) (by rw [e9]; rfl) ?_
      clear e9
      obtain ⟨fs9, v6, c9, e9, hF⟩ := hF
      refine va_get (D := D) (ci := 8) (v := .int v6) (C := kR8) (T := kT8) (N := 9) hx hb hts ku8 hown hK (hm_one I.1 c9) 0 rfl rfl 6 (by decide) (hts _ ms_k463) (fun _ h => h) e9 d133_18 ?_
      clear e9 c9 fs9
      refine lv_iconst (v := (-1)) hx hb d133_21 (by decide) ?_
      refine lv_icmp_ne hx hb d133_22 rfl (fun h9 => ?_) (fun h9 => ?_)
      · have hF := Eq.mp (if_neg h9) hF
        refine lv_aload_n hx hb d133_27 rfl (lv_at hl 0 rfl) ?_
        obtain ⟨fs9, v7, c9, e9, hF⟩ := hF
        refine va_get (D := D) (ci := 1) (v := va_rf v7) (C := kR1) (T := kT1) (N := 6) hx hb hts ku1 hown hK (hm_one I.1 c9) 0 rfl rfl 0 (by decide) (hts _ ms_k80) (fun _ h => h) e9 d133_28 ?_
        clear e9 c9 fs9
        refine lv_iload_n hx hb d133_31 rfl (lv_at hl 1 rfl) ?_
        obtain ⟨a8, e9, hF⟩ := hF
        refine W.eq (g2 := F0 m 32 ls [.int y1, .ref a8]) (by rw [e9]; rfl) ?_
        clear e9
        obtain ⟨n8, f8, c9, i9, hF⟩ := hF
        refine va_aldq hx hb hK (hm_one I.1 c9) 0 5 rfl rfl i9 d133_32 ?_
        generalize f8 (Int32.toNatClampNeg y1) = v9 at hF ⊢
        clear c9 i9
        exact ht_aret X d133_33 I (Nat.le_of_ble_eq_true rfl) (Nat.le_of_ble_eq_true rfl) ⟨v9, rfl, hF⟩ (Or.inl ⟨_, rfl⟩) (rf_or _)
      · have hF := Eq.mp (if_pos h9) hF
        exact b25 ls h0 z0 _ _ hF (hl.sub [] rfl) I

def w_Tree_mayMake (dA : Nat → ClassId) (y0 : Nat) (y1 : Int32) (K : Int32 → hm_T → hz_T → Prop) (h0 : hm_T) (z0 : hz_T) : Prop := (cg_I h0 1 1 y0 (fun v1 => (if 200 < (v1 + y1) then (K 0 h0 z0) else (K 1 h0 z0))))
set_option maxRecDepth 100000 in
set_option maxHeartbeats 8000000 in
theorem cw_Tree_mayMake (l : Launch) (D : va_G) (dA : Nat → ClassId) (s0 : State) (hE : ms_EV D dA s0) (y0 : Nat) (y1 : Int32) (h0 : hm_T) (z0 : hz_T) (K : Int32 → hm_T → hz_T → Prop) (hg : w_Tree_mayMake dA y0 y1 K h0 z0) : ht_C l D s0 yM134 bM134 2 (Option.some Jvm.ClassFile.FieldType.boolean) 0 0 0 0 [.ref y0, .int y1] (fun h z => h = h0 ∧ z = z0) (fun h z vv h1 z1 => ∃ v, vv = some (.int v) ∧ K v h1 z1) := by
  refine ht_C.mk hE.1 (by decide) (Nat.le_of_ble_eq_true rfl) [(0, .ref y0), (1, .int y1)] rfl ?_
  intro p e s m below meth c ls h z X hin hpre I hl
  have hx := X.1
  have hb := X.2.1
  have hml := X.2.2.1
  have hown : s.vm.findClass "MarkupStore$Tree" = some m.cls := X.2.2.2.1
  have hts := X.2.2.2.2.2.2.1
  have hK := X.2.2.2.2.2.2.2.2.1
  rw [hpre.1, hpre.2] at I
  clear hpre
  have hF := hg
  unfold w_Tree_mayMake at hF
  clear h z
  refine lv_aload_n hx hb d134_0 rfl (lv_at hl 0 rfl) ?_
  obtain ⟨fs9, v1, c9, e9, hF⟩ := hF
  refine va_get (D := D) (ci := 1) (v := .int v1) (C := kR1) (T := kT1) (N := 6) hx hb hts ku1 hown hK (hm_one I.1 c9) 0 rfl rfl 1 (by decide) (hts _ ms_k81) (fun _ h => h) e9 d134_1 ?_
  clear e9 c9 fs9
  refine lv_iload_n hx hb d134_4 rfl (lv_at hl 1 rfl) ?_
  refine lv_iadd hx hb d134_5 ?_
  refine lv_sipush (v := 200) hx hb d134_6 (by decide) ?_
  refine lv_icmp_gt hx hb d134_9 rfl (fun h9 => ?_) (fun h9 => ?_)
  · have hF := Eq.mp (if_pos h9) hF
    refine lv_iconst (v := 0) hx hb d134_16 (by decide) ?_
    exact ht_zret X d134_17 I (Nat.le_of_ble_eq_true rfl) (Nat.le_of_ble_eq_true rfl) ⟨_, rfl, hF⟩ rfl
  · have hF := Eq.mp (if_neg h9) hF
    refine lv_iconst (v := 1) hx hb d134_12 (by decide) ?_
    refine lv_goto hx hb d134_13 rfl ?_
    exact ht_zret X d134_17 I (Nat.le_of_ble_eq_true rfl) (Nat.le_of_ble_eq_true rfl) ⟨_, rfl, hF⟩ rfl

def w_Tree_endOf_37 (dA : Nat → ClassId) (y0 : Nat) (K : Int32 → hm_T → hz_T → Prop) (x2 : Int32) (h : hm_T) (z : hz_T) : Prop := (K x2 h z)
def w_Tree_endOf_7 (dA : Nat → ClassId) (y0 : Nat) (K : Int32 → hm_T → hz_T → Prop) : Nat → Option Nat → Int32 → hm_T → hz_T → Prop
  | 0, _, _, _, _ => False
  | n9 + 1, x1, x2, h, z => (cg_I h 1 3 y0 (fun v3 => (if v3 ≤ x2 then (w_Tree_endOf_37 dA y0 K x2 h z) else (cg_R h 1 2 y0 (fun v4 => (cg_d v4 (fun a5 => (cg_ar dA h 5 a5 x2 (fun v6 => (cg_d v6 (fun a7 => (cg_I h 8 2 a7 (fun v8 => (cg_d x1 (fun a9 => (cg_I h 8 2 a9 (fun v10 => (if v8 ≤ v10 then (w_Tree_endOf_37 dA y0 K x2 h z) else ((w_Tree_endOf_7 dA y0 K n9) x1 (x2 + 1) h z)))))))))))))))))))
def w_Tree_endOf (dA : Nat → ClassId) (y0 : Nat) (y1 : Option Nat) (K : Int32 → hm_T → hz_T → Prop) (h0 : hm_T) (z0 : hz_T) : Prop := (cg_d y1 (fun a1 => (cg_I h0 8 6 a1 (fun v2 => (w_Tree_endOf_7 dA y0 K mF y1 (v2 + 1) h0 z0)))))
set_option maxRecDepth 100000 in
set_option maxHeartbeats 8000000 in
theorem cw_Tree_endOf (l : Launch) (D : va_G) (dA : Nat → ClassId) (s0 : State) (hE : ms_EV D dA s0) (y0 : Nat) (y1 : Option Nat) (h0 : hm_T) (z0 : hz_T) (K : Int32 → hm_T → hz_T → Prop) (hg : w_Tree_endOf dA y0 y1 K h0 z0) : ht_C l D s0 yM135 bM135 3 (Option.some Jvm.ClassFile.FieldType.int) 0 0 0 0 [.ref y0, va_rf y1] (fun h z => h = h0 ∧ z = z0) (fun h z vv h1 z1 => ∃ v, vv = some (.int v) ∧ K v h1 z1) := by
  refine ht_C.mk hE.1 (by decide) (by simp [lg_sl, cat_rf, cat_int, cat_ref, cat_null, cat_long]) [(0, .ref y0), (1, va_rf y1)] (by simp [lv_args, cat_rf, cat_int, cat_ref, cat_null, cat_long]) ?_
  intro p e s m below meth c ls h z X hin hpre I hl
  have hx := X.1
  have hb := X.2.1
  have hml := X.2.2.1
  have hown : s.vm.findClass "MarkupStore$Tree" = some m.cls := X.2.2.2.1
  have hts := X.2.2.2.2.2.2.1
  have hK := X.2.2.2.2.2.2.2.2.1
  rw [hpre.1, hpre.2] at I
  clear hpre
  have b37 : ∀ (ls : Array Slot) (x2 : Int32) (h : hm_T) (z : hz_T) (H : Heap) (locs : List Loc), w_Tree_endOf_37 dA y0 K x2 h z → lv_has ls 3 [(2, .int x2)] → hm_I D s0 s h z H locs → W p l e { frames := 0, cells := 0, slots := 0, locals := 0 } s m ([.ref y0, va_rf y1] : List Value).toArray below meth c H locs 0 0 (MQ below (ht_Q D s0 (fun vv h1 z1 => ∃ v, vv = some (.int v) ∧ K v h1 z1)) ([.ref y0, va_rf y1] : List Value).toArray s 0 0 (fun q => s0.heap.size ≤ q)) (F0 m 37 ls []) := by
    intro ls x2 h z H locs hF hl I
    unfold w_Tree_endOf_37 at hF
    refine lv_iload_n hx hb d135_37 rfl (lv_at hl 0 rfl) ?_
    exact ht_iret X d135_38 I (Nat.le_of_ble_eq_true rfl) (Nat.le_of_ble_eq_true rfl) ⟨_, rfl, hF⟩
  have b7 : ∀ n9 : Nat, ∀ (ls : Array Slot) (x1 : Option Nat) (x2 : Int32) (h : hm_T) (z : hz_T) (H : Heap) (locs : List Loc), w_Tree_endOf_7 dA y0 K n9 x1 x2 h z → lv_has ls 3 [(0, .ref y0), (1, va_rf x1), (2, .int x2)] → hm_I D s0 s h z H locs → W p l e { frames := 0, cells := 0, slots := 0, locals := 0 } s m ([.ref y0, va_rf y1] : List Value).toArray below meth c H locs 0 0 (MQ below (ht_Q D s0 (fun vv h1 z1 => ∃ v, vv = some (.int v) ∧ K v h1 z1)) ([.ref y0, va_rf y1] : List Value).toArray s 0 0 (fun q => s0.heap.size ≤ q)) (F0 m 7 ls []) := by
    intro n9
    induction n9 with
    | zero => intro ls x1 x2 h z H locs hF; cases hF
    | succ n9 hk7 =>
    intro ls x1 x2 h z H locs hF hl I
    unfold w_Tree_endOf_7 at hF
    refine lv_iload_n hx hb d135_7 rfl (lv_at hl 2 rfl) ?_
    refine lv_aload_n hx hb d135_8 rfl (lv_at hl 0 rfl) ?_
    obtain ⟨fs9, v3, c9, e9, hF⟩ := hF
    refine va_get (D := D) (ci := 1) (v := .int v3) (C := kR1) (T := kT1) (N := 6) hx hb hts ku1 hown hK (hm_one I.1 c9) 0 rfl rfl 3 (by decide) (hts _ ms_k87) (fun _ h => h) e9 d135_9 ?_
    clear e9 c9 fs9
    refine lv_icmp_ge hx hb d135_12 rfl (fun h9 => ?_) (fun h9 => ?_)
    · have hF := Eq.mp (if_pos h9) hF
      exact b37 ls x2 h z _ _ hF (hl.sub [2] rfl) I
    · have hF := Eq.mp (if_neg h9) hF
      refine lv_aload_n hx hb d135_15 rfl (lv_at hl 0 rfl) ?_
      obtain ⟨fs9, v4, c9, e9, hF⟩ := hF
      refine va_get (D := D) (ci := 1) (v := va_rf v4) (C := kR1) (T := kT1) (N := 6) hx hb hts ku1 hown hK (hm_one I.1 c9) 0 rfl rfl 2 (by decide) (hts _ ms_k82) (fun _ h => h) e9 d135_16 ?_
      clear e9 c9 fs9
      refine lv_iload_n hx hb d135_19 rfl (lv_at hl 2 rfl) ?_
      obtain ⟨a5, e9, hF⟩ := hF
      refine W.eq (g2 := F0 m 20 ls [.int x2, .ref a5]) (by rw [e9]; rfl) ?_
      clear e9
      obtain ⟨n8, f8, c9, i9, hF⟩ := hF
      refine va_aldq hx hb hK (hm_one I.1 c9) 0 5 rfl rfl i9 d135_20 ?_
      generalize f8 (Int32.toNatClampNeg x2) = v6 at hF ⊢
      clear c9 i9
      obtain ⟨a7, e9, hF⟩ := hF
      refine W.eq (g2 := F0 m 21 ls [.ref a7]) (by rw [e9]; rfl) ?_
      clear e9
      obtain ⟨fs9, v8, c9, e9, hF⟩ := hF
      refine va_get (D := D) (ci := 8) (v := .int v8) (C := kR8) (T := kT8) (N := 9) hx hb hts ku8 hown hK (hm_one I.1 c9) 0 rfl rfl 2 (by decide) (hts _ ms_k450) (fun _ h => h) e9 d135_21 ?_
      clear e9 c9 fs9
      refine lv_aload_nR hx hb d135_24 rfl (lv_at hl 1 rfl) ?_
      obtain ⟨a9, e9, hF⟩ := hF
      refine W.eq (g2 := F0 m 25 ls [.ref a9, .int v8]) (by rw [e9]; rfl) ?_
      clear e9
      obtain ⟨fs9, v10, c9, e9, hF⟩ := hF
      refine va_get (D := D) (ci := 8) (v := .int v10) (C := kR8) (T := kT8) (N := 9) hx hb hts ku8 hown hK (hm_one I.1 c9) 0 rfl rfl 2 (by decide) (hts _ ms_k450) (fun _ h => h) e9 d135_25 ?_
      clear e9 c9 fs9
      refine lv_icmp_le hx hb d135_28 rfl (fun h9 => ?_) (fun h9 => ?_)
      · have hF := Eq.mp (if_pos h9) hF
        exact b37 ls x2 h z _ _ hF (hl.sub [2] rfl) I
      · have hF := Eq.mp (if_neg h9) hF
        refine lv_iinc (k := 2) (v := (x2 + 1)) hx hb d135_31 hl rfl (rfl) (by decide) (show _ = [(2, .int (x2 + 1)), (0, .ref y0), (1, va_rf x1)] by simp [cat_rf, cat_int, cat_ref, cat_null, cat_long]) (fun ls hl => ?_)
        have hl : lv_has ls 3 [(2, .int (x2 + 1)), (0, .ref y0), (1, va_rf x1)] := hl
        refine lv_goto hx hb d135_34 rfl ?_
        exact hk7 ls x1 (x2 + 1) h z _ _ hF (hl.sub [1, 2, 0] rfl) I
  have hF := hg
  unfold w_Tree_endOf at hF
  clear h z
  refine lv_aload_nR hx hb d135_0 rfl (lv_at hl 1 rfl) ?_
  obtain ⟨a1, e9, hF⟩ := hF
  refine W.eq (g2 := F0 m 1 ls [.ref a1]) (by rw [e9]; rfl) ?_
  clear e9
  obtain ⟨fs9, v2, c9, e9, hF⟩ := hF
  refine va_get (D := D) (ci := 8) (v := .int v2) (C := kR8) (T := kT8) (N := 9) hx hb hts ku8 hown hK (hm_one I.1 c9) 0 rfl rfl 6 (by decide) (hts _ ms_k463) (fun _ h => h) e9 d135_1 ?_
  clear e9 c9 fs9
  refine lv_iconst (v := 1) hx hb d135_4 (by decide) ?_
  refine lv_iadd hx hb d135_5 ?_
  refine lv_istore_n hx hb d135_6 rfl hl (by decide) (show _ = [(2, .int (v2 + 1)), (0, .ref y0), (1, va_rf y1)] by simp [cat_rf, cat_int, cat_ref, cat_null, cat_long]) (fun ls hl => ?_)
  have hl : lv_has ls 3 [(2, .int (v2 + 1)), (0, .ref y0), (1, va_rf y1)] := hl
  exact b7 mF ls y1 (v2 + 1) h0 z0 _ _ hF (hl.sub [1, 2, 0] rfl) I

def w_Tree_childBefore_4 (dA : Nat → ClassId) (y0 : Nat) (K : Option Nat → hm_T → hz_T → Prop) : Nat → Option Nat → Int32 → hm_T → hz_T → Prop
  | 0, _, _, _, _ => False
  | n9 + 1, x1, x3, h, z => (cg_d x1 (fun a1 => (cg_I h 8 6 a1 (fun v2 => (if x3 ≤ v2 then (K none h z) else (cg_R h 1 2 y0 (fun v3 => (cg_d v3 (fun a4 => (cg_ar dA h 5 a4 x3 (fun v5 => (cg_d v5 (fun a6 => (cg_R h 8 1 a6 (fun v7 => (if v7 = x1 then (cg_R h 1 2 y0 (fun v8 => (cg_d v8 (fun a9 => (cg_ar dA h 5 a9 x3 (fun v10 => (K v10 h z))))))) else ((w_Tree_childBefore_4 dA y0 K n9) x1 (x3 + (-1)) h z)))))))))))))))))
def w_Tree_childBefore (dA : Nat → ClassId) (y0 : Nat) (y1 : Option Nat) (y2 : Int32) (K : Option Nat → hm_T → hz_T → Prop) (h0 : hm_T) (z0 : hz_T) : Prop := (w_Tree_childBefore_4 dA y0 K mF y1 (y2 - 1) h0 z0)
set_option maxRecDepth 100000 in
set_option maxHeartbeats 8000000 in
theorem cw_Tree_childBefore (l : Launch) (D : va_G) (dA : Nat → ClassId) (s0 : State) (hE : ms_EV D dA s0) (y0 : Nat) (y1 : Option Nat) (y2 : Int32) (h0 : hm_T) (z0 : hz_T) (K : Option Nat → hm_T → hz_T → Prop) (hg : w_Tree_childBefore dA y0 y1 y2 K h0 z0) : ht_C l D s0 yM136 bM136 4 (Option.some (Jvm.ClassFile.FieldType.object "MarkupStore$Node")) 0 0 0 0 [.ref y0, va_rf y1, .int y2] (fun h z => h = h0 ∧ z = z0) (fun h z vv h1 z1 => ∃ v, vv = some (va_rf v) ∧ K v h1 z1) := by
  refine ht_C.mk hE.1 (by decide) (by simp [lg_sl, cat_rf, cat_int, cat_ref, cat_null, cat_long]) [(0, .ref y0), (1, va_rf y1), (2, .int y2)] (by simp [lv_args, cat_rf, cat_int, cat_ref, cat_null, cat_long]) ?_
  intro p e s m below meth c ls h z X hin hpre I hl
  have hx := X.1
  have hb := X.2.1
  have hml := X.2.2.1
  have hown : s.vm.findClass "MarkupStore$Tree" = some m.cls := X.2.2.2.1
  have hts := X.2.2.2.2.2.2.1
  have hK := X.2.2.2.2.2.2.2.2.1
  rw [hpre.1, hpre.2] at I
  clear hpre
  have b4 : ∀ n9 : Nat, ∀ (ls : Array Slot) (x1 : Option Nat) (x3 : Int32) (h : hm_T) (z : hz_T) (H : Heap) (locs : List Loc), w_Tree_childBefore_4 dA y0 K n9 x1 x3 h z → lv_has ls 4 [(0, .ref y0), (1, va_rf x1), (3, .int x3)] → hm_I D s0 s h z H locs → W p l e { frames := 0, cells := 0, slots := 0, locals := 0 } s m ([.ref y0, va_rf y1, .int y2] : List Value).toArray below meth c H locs 0 0 (MQ below (ht_Q D s0 (fun vv h1 z1 => ∃ v, vv = some (va_rf v) ∧ K v h1 z1)) ([.ref y0, va_rf y1, .int y2] : List Value).toArray s 0 0 (fun q => s0.heap.size ≤ q)) (F0 m 4 ls []) := by
    intro n9
    induction n9 with
    | zero => intro ls x1 x3 h z H locs hF; cases hF
    | succ n9 hk4 =>
    intro ls x1 x3 h z H locs hF hl I
    unfold w_Tree_childBefore_4 at hF
    refine lv_iload_n hx hb d136_4 rfl (lv_at hl 2 rfl) ?_
    refine lv_aload_nR hx hb d136_5 rfl (lv_at hl 1 rfl) ?_
    obtain ⟨a1, e9, hF⟩ := hF
    refine W.eq (g2 := F0 m 6 ls [.ref a1, .int x3]) (by rw [e9]; rfl) ?_
    clear e9
    obtain ⟨fs9, v2, c9, e9, hF⟩ := hF
    refine va_get (D := D) (ci := 8) (v := .int v2) (C := kR8) (T := kT8) (N := 9) hx hb hts ku8 hown hK (hm_one I.1 c9) 0 rfl rfl 6 (by decide) (hts _ ms_k463) (fun _ h => h) e9 d136_6 ?_
    clear e9 c9 fs9
    refine lv_icmp_le hx hb d136_9 rfl (fun h9 => ?_) (fun h9 => ?_)
    · have hF := Eq.mp (if_pos h9) hF
      refine lv_null hx hb d136_38 ?_
      exact ht_aret X d136_39 I (Nat.le_of_ble_eq_true rfl) (Nat.le_of_ble_eq_true rfl) ⟨none, rfl, hF⟩ (Or.inl ⟨_, rfl⟩) (Or.inl rfl)
    · have hF := Eq.mp (if_neg h9) hF
      refine lv_aload_n hx hb d136_12 rfl (lv_at hl 0 rfl) ?_
      obtain ⟨fs9, v3, c9, e9, hF⟩ := hF
      refine va_get (D := D) (ci := 1) (v := va_rf v3) (C := kR1) (T := kT1) (N := 6) hx hb hts ku1 hown hK (hm_one I.1 c9) 0 rfl rfl 2 (by decide) (hts _ ms_k82) (fun _ h => h) e9 d136_13 ?_
      clear e9 c9 fs9
      refine lv_iload_n hx hb d136_16 rfl (lv_at hl 2 rfl) ?_
      obtain ⟨a4, e9, hF⟩ := hF
      refine W.eq (g2 := F0 m 17 ls [.int x3, .ref a4]) (by rw [e9]; rfl) ?_
      clear e9
      obtain ⟨n8, f8, c9, i9, hF⟩ := hF
      refine va_aldq hx hb hK (hm_one I.1 c9) 0 5 rfl rfl i9 d136_17 ?_
      generalize f8 (Int32.toNatClampNeg x3) = v5 at hF ⊢
      clear c9 i9
      obtain ⟨a6, e9, hF⟩ := hF
      refine W.eq (g2 := F0 m 18 ls [.ref a6]) (by rw [e9]; rfl) ?_
      clear e9
      obtain ⟨fs9, v7, c9, e9, hF⟩ := hF
      refine va_get (D := D) (ci := 8) (v := va_rf v7) (C := kR8) (T := kT8) (N := 9) hx hb hts ku8 hown hK (hm_one I.1 c9) 0 rfl rfl 1 (by decide) (hts _ ms_k447) (fun _ h => h) e9 d136_18 ?_
      clear e9 c9 fs9
      refine lv_aload_nR hx hb d136_21 rfl (lv_at hl 1 rfl) ?_
      refine lv_acmp_ne (rx := v7) (ry := x1) hx hb d136_22 rfl (fun h9 => ?_) (fun h9 => ?_)
      · have hF := Eq.mp (if_neg h9) hF
        refine lv_iinc (k := 2) (v := (x3 + (-1))) hx hb d136_32 hl rfl (rfl) (by decide) rfl (fun ls hl => ?_)
        have hl : lv_has ls 4 [(3, .int (x3 + (-1))), (0, .ref y0), (1, va_rf x1)] := hl
        refine lv_goto hx hb d136_35 rfl ?_
        exact hk4 ls x1 (x3 + (-1)) h z _ _ hF (hl.sub [1, 2, 0] rfl) I
      · have hF := Eq.mp (if_pos h9) hF
        refine lv_aload_n hx hb d136_25 rfl (lv_at hl 0 rfl) ?_
        obtain ⟨fs9, v8, c9, e9, hF⟩ := hF
        refine va_get (D := D) (ci := 1) (v := va_rf v8) (C := kR1) (T := kT1) (N := 6) hx hb hts ku1 hown hK (hm_one I.1 c9) 0 rfl rfl 2 (by decide) (hts _ ms_k82) (fun _ h => h) e9 d136_26 ?_
        clear e9 c9 fs9
        refine lv_iload_n hx hb d136_29 rfl (lv_at hl 2 rfl) ?_
        obtain ⟨a9, e9, hF⟩ := hF
        refine W.eq (g2 := F0 m 30 ls [.int x3, .ref a9]) (by rw [e9]; rfl) ?_
        clear e9
        obtain ⟨n8, f8, c9, i9, hF⟩ := hF
        refine va_aldq hx hb hK (hm_one I.1 c9) 0 5 rfl rfl i9 d136_30 ?_
        generalize f8 (Int32.toNatClampNeg x3) = v10 at hF ⊢
        clear c9 i9
        exact ht_aret X d136_31 I (Nat.le_of_ble_eq_true rfl) (Nat.le_of_ble_eq_true rfl) ⟨v10, rfl, hF⟩ (Or.inl ⟨_, rfl⟩) (rf_or _)
  have hF := hg
  unfold w_Tree_childBefore at hF
  clear h z
  refine lv_iload_n hx hb d136_0 rfl (lv_at hl 2 rfl) ?_
  refine lv_iconst (v := 1) hx hb d136_1 (by decide) ?_
  refine lv_isub hx hb d136_2 ?_
  refine lv_istore_n hx hb d136_3 rfl hl (by decide) rfl (fun ls hl => ?_)
  have hl : lv_has ls 4 [(3, .int (y2 - 1)), (0, .ref y0), (1, va_rf y1), (2, .int y2)] := hl
  exact b4 mF ls y1 (y2 - 1) h0 z0 _ _ hF (hl.sub [1, 2, 0] rfl) I

def w_Tree_childFrom_2 (dA : Nat → ClassId) (y0 : Nat) (K : Option Nat → hm_T → hz_T → Prop) : Nat → Option Nat → Int32 → hm_T → hz_T → Prop
  | 0, _, _, _, _ => False
  | n9 + 1, x1, x3, h, z => (cg_I h 1 3 y0 (fun v1 => (if v1 ≤ x3 then (K none h z) else (cg_R h 1 2 y0 (fun v2 => (cg_d v2 (fun a3 => (cg_ar dA h 5 a3 x3 (fun v4 => (cg_d v4 (fun a5 => (cg_R h 8 1 a5 (fun v6 => (if v6 = x1 then (cg_R h 1 2 y0 (fun v7 => (cg_d v7 (fun a8 => (cg_ar dA h 5 a8 x3 (fun v9 => (K v9 h z))))))) else ((w_Tree_childFrom_2 dA y0 K n9) x1 (x3 + 1) h z)))))))))))))))
def w_Tree_childFrom (dA : Nat → ClassId) (y0 : Nat) (y1 : Option Nat) (y2 : Int32) (K : Option Nat → hm_T → hz_T → Prop) (h0 : hm_T) (z0 : hz_T) : Prop := (w_Tree_childFrom_2 dA y0 K mF y1 y2 h0 z0)
set_option maxRecDepth 100000 in
set_option maxHeartbeats 8000000 in
theorem cw_Tree_childFrom (l : Launch) (D : va_G) (dA : Nat → ClassId) (s0 : State) (hE : ms_EV D dA s0) (y0 : Nat) (y1 : Option Nat) (y2 : Int32) (h0 : hm_T) (z0 : hz_T) (K : Option Nat → hm_T → hz_T → Prop) (hg : w_Tree_childFrom dA y0 y1 y2 K h0 z0) : ht_C l D s0 yM137 bM137 4 (Option.some (Jvm.ClassFile.FieldType.object "MarkupStore$Node")) 0 0 0 0 [.ref y0, va_rf y1, .int y2] (fun h z => h = h0 ∧ z = z0) (fun h z vv h1 z1 => ∃ v, vv = some (va_rf v) ∧ K v h1 z1) := by
  refine ht_C.mk hE.1 (by decide) (by simp [lg_sl, cat_rf, cat_int, cat_ref, cat_null, cat_long]) [(0, .ref y0), (1, va_rf y1), (2, .int y2)] (by simp [lv_args, cat_rf, cat_int, cat_ref, cat_null, cat_long]) ?_
  intro p e s m below meth c ls h z X hin hpre I hl
  have hx := X.1
  have hb := X.2.1
  have hml := X.2.2.1
  have hown : s.vm.findClass "MarkupStore$Tree" = some m.cls := X.2.2.2.1
  have hts := X.2.2.2.2.2.2.1
  have hK := X.2.2.2.2.2.2.2.2.1
  rw [hpre.1, hpre.2] at I
  clear hpre
  have b2 : ∀ n9 : Nat, ∀ (ls : Array Slot) (x1 : Option Nat) (x3 : Int32) (h : hm_T) (z : hz_T) (H : Heap) (locs : List Loc), w_Tree_childFrom_2 dA y0 K n9 x1 x3 h z → lv_has ls 4 [(0, .ref y0), (1, va_rf x1), (3, .int x3)] → hm_I D s0 s h z H locs → W p l e { frames := 0, cells := 0, slots := 0, locals := 0 } s m ([.ref y0, va_rf y1, .int y2] : List Value).toArray below meth c H locs 0 0 (MQ below (ht_Q D s0 (fun vv h1 z1 => ∃ v, vv = some (va_rf v) ∧ K v h1 z1)) ([.ref y0, va_rf y1, .int y2] : List Value).toArray s 0 0 (fun q => s0.heap.size ≤ q)) (F0 m 2 ls []) := by
    intro n9
    induction n9 with
    | zero => intro ls x1 x3 h z H locs hF; cases hF
    | succ n9 hk2 =>
    intro ls x1 x3 h z H locs hF hl I
    unfold w_Tree_childFrom_2 at hF
    refine lv_iload_n hx hb d137_2 rfl (lv_at hl 2 rfl) ?_
    refine lv_aload_n hx hb d137_3 rfl (lv_at hl 0 rfl) ?_
    obtain ⟨fs9, v1, c9, e9, hF⟩ := hF
    refine va_get (D := D) (ci := 1) (v := .int v1) (C := kR1) (T := kT1) (N := 6) hx hb hts ku1 hown hK (hm_one I.1 c9) 0 rfl rfl 3 (by decide) (hts _ ms_k87) (fun _ h => h) e9 d137_4 ?_
    clear e9 c9 fs9
    refine lv_icmp_ge hx hb d137_7 rfl (fun h9 => ?_) (fun h9 => ?_)
    · have hF := Eq.mp (if_pos h9) hF
      refine lv_null hx hb d137_36 ?_
      exact ht_aret X d137_37 I (Nat.le_of_ble_eq_true rfl) (Nat.le_of_ble_eq_true rfl) ⟨none, rfl, hF⟩ (Or.inl ⟨_, rfl⟩) (Or.inl rfl)
    · have hF := Eq.mp (if_neg h9) hF
      refine lv_aload_n hx hb d137_10 rfl (lv_at hl 0 rfl) ?_
      obtain ⟨fs9, v2, c9, e9, hF⟩ := hF
      refine va_get (D := D) (ci := 1) (v := va_rf v2) (C := kR1) (T := kT1) (N := 6) hx hb hts ku1 hown hK (hm_one I.1 c9) 0 rfl rfl 2 (by decide) (hts _ ms_k82) (fun _ h => h) e9 d137_11 ?_
      clear e9 c9 fs9
      refine lv_iload_n hx hb d137_14 rfl (lv_at hl 2 rfl) ?_
      obtain ⟨a3, e9, hF⟩ := hF
      refine W.eq (g2 := F0 m 15 ls [.int x3, .ref a3]) (by rw [e9]; rfl) ?_
      clear e9
      obtain ⟨n8, f8, c9, i9, hF⟩ := hF
      refine va_aldq hx hb hK (hm_one I.1 c9) 0 5 rfl rfl i9 d137_15 ?_
      generalize f8 (Int32.toNatClampNeg x3) = v4 at hF ⊢
      clear c9 i9
      obtain ⟨a5, e9, hF⟩ := hF
      refine W.eq (g2 := F0 m 16 ls [.ref a5]) (by rw [e9]; rfl) ?_
      clear e9
      obtain ⟨fs9, v6, c9, e9, hF⟩ := hF
      refine va_get (D := D) (ci := 8) (v := va_rf v6) (C := kR8) (T := kT8) (N := 9) hx hb hts ku8 hown hK (hm_one I.1 c9) 0 rfl rfl 1 (by decide) (hts _ ms_k447) (fun _ h => h) e9 d137_16 ?_
      clear e9 c9 fs9
      refine lv_aload_nR hx hb d137_19 rfl (lv_at hl 1 rfl) ?_
      refine lv_acmp_ne (rx := v6) (ry := x1) hx hb d137_20 rfl (fun h9 => ?_) (fun h9 => ?_)
      · have hF := Eq.mp (if_neg h9) hF
        refine lv_iinc (k := 2) (v := (x3 + 1)) hx hb d137_30 hl rfl (rfl) (by decide) rfl (fun ls hl => ?_)
        have hl : lv_has ls 4 [(3, .int (x3 + 1)), (0, .ref y0), (1, va_rf x1)] := hl
        refine lv_goto hx hb d137_33 rfl ?_
        exact hk2 ls x1 (x3 + 1) h z _ _ hF (hl.sub [1, 2, 0] rfl) I
      · have hF := Eq.mp (if_pos h9) hF
        refine lv_aload_n hx hb d137_23 rfl (lv_at hl 0 rfl) ?_
        obtain ⟨fs9, v7, c9, e9, hF⟩ := hF
        refine va_get (D := D) (ci := 1) (v := va_rf v7) (C := kR1) (T := kT1) (N := 6) hx hb hts ku1 hown hK (hm_one I.1 c9) 0 rfl rfl 2 (by decide) (hts _ ms_k82) (fun _ h => h) e9 d137_24 ?_
        clear e9 c9 fs9
        refine lv_iload_n hx hb d137_27 rfl (lv_at hl 2 rfl) ?_
        obtain ⟨a8, e9, hF⟩ := hF
        refine W.eq (g2 := F0 m 28 ls [.int x3, .ref a8]) (by rw [e9]; rfl) ?_
        clear e9
        obtain ⟨n8, f8, c9, i9, hF⟩ := hF
        refine va_aldq hx hb hK (hm_one I.1 c9) 0 5 rfl rfl i9 d137_28 ?_
        generalize f8 (Int32.toNatClampNeg x3) = v9 at hF ⊢
        clear c9 i9
        exact ht_aret X d137_29 I (Nat.le_of_ble_eq_true rfl) (Nat.le_of_ble_eq_true rfl) ⟨v9, rfl, hF⟩ (Or.inl ⟨_, rfl⟩) (rf_or _)
  have hF := hg
  unfold w_Tree_childFrom at hF
  clear h z
  refine lv_iload_n hx hb d137_0 rfl (lv_at hl 2 rfl) ?_
  refine lv_istore_n hx hb d137_1 rfl hl (by decide) rfl (fun ls hl => ?_)
  have hl : lv_has ls 4 [(3, .int y2), (0, .ref y0), (1, va_rf y1), (2, .int y2)] := hl
  exact b2 mF ls y1 y2 h0 z0 _ _ hF (hl.sub [1, 2, 0] rfl) I

def w_Tree_childrenWithin_29 (dA : Nat → ClassId) (y0 : Nat) (K : Int32 → hm_T → hz_T → Prop) (k6 : Option Nat → Int32 → Int32 → Int32 → hm_T → hz_T → Prop) (x1 : Option Nat) (x3 : Int32) (x4 : Int32) (x5 : Int32) (h : hm_T) (z : hz_T) : Prop := (k6 x1 x3 x4 (x5 + 1) h z)
def w_Tree_childrenWithin_6 (dA : Nat → ClassId) (y0 : Nat) (K : Int32 → hm_T → hz_T → Prop) : Nat → Option Nat → Int32 → Int32 → Int32 → hm_T → hz_T → Prop
  | 0, _, _, _, _, _, _ => False
  | n9 + 1, x1, x3, x4, x5, h, z => (if x3 ≤ x5 then (K x4 h z) else (cg_R h 1 2 y0 (fun v1 => (cg_d v1 (fun a2 => (cg_ar dA h 5 a2 x5 (fun v3 => (cg_d v3 (fun a4 => (cg_R h 8 1 a4 (fun v5 => (if v5 = x1 then (w_Tree_childrenWithin_29 dA y0 K (w_Tree_childrenWithin_6 dA y0 K n9) x1 x3 (x4 + 1) x5 h z) else (w_Tree_childrenWithin_29 dA y0 K (w_Tree_childrenWithin_6 dA y0 K n9) x1 x3 x4 x5 h z)))))))))))))
def w_Tree_childrenWithin (dA : Nat → ClassId) (y0 : Nat) (y1 : Option Nat) (y2 : Int32) (y3 : Int32) (K : Int32 → hm_T → hz_T → Prop) (h0 : hm_T) (z0 : hz_T) : Prop := (w_Tree_childrenWithin_6 dA y0 K mF y1 y3 0 y2 h0 z0)
set_option maxRecDepth 100000 in
set_option maxHeartbeats 8000000 in
theorem cw_Tree_childrenWithin (l : Launch) (D : va_G) (dA : Nat → ClassId) (s0 : State) (hE : ms_EV D dA s0) (y0 : Nat) (y1 : Option Nat) (y2 : Int32) (y3 : Int32) (h0 : hm_T) (z0 : hz_T) (K : Int32 → hm_T → hz_T → Prop) (hg : w_Tree_childrenWithin dA y0 y1 y2 y3 K h0 z0) : ht_C l D s0 yM138 bM138 6 (Option.some Jvm.ClassFile.FieldType.int) 0 0 0 0 [.ref y0, va_rf y1, .int y2, .int y3] (fun h z => h = h0 ∧ z = z0) (fun h z vv h1 z1 => ∃ v, vv = some (.int v) ∧ K v h1 z1) := by
  refine ht_C.mk hE.1 (by decide) (by simp [lg_sl, cat_rf, cat_int, cat_ref, cat_null, cat_long]) [(0, .ref y0), (1, va_rf y1), (2, .int y2), (3, .int y3)] (by simp [lv_args, cat_rf, cat_int, cat_ref, cat_null, cat_long]) ?_
  intro p e s m below meth c ls h z X hin hpre I hl
  have hx := X.1
  have hb := X.2.1
  have hml := X.2.2.1
  have hown : s.vm.findClass "MarkupStore$Tree" = some m.cls := X.2.2.2.1
  have hts := X.2.2.2.2.2.2.1
  have hK := X.2.2.2.2.2.2.2.2.1
  rw [hpre.1, hpre.2] at I
  clear hpre
  have b29 : ∀ (k6 : Option Nat → Int32 → Int32 → Int32 → hm_T → hz_T → Prop), (∀ (ls : Array Slot) (x1 : Option Nat) (x3 : Int32) (x4 : Int32) (x5 : Int32) (h : hm_T) (z : hz_T) (H : Heap) (locs : List Loc), k6 x1 x3 x4 x5 h z → lv_has ls 6 [(0, .ref y0), (1, va_rf x1), (3, .int x3), (4, .int x4), (5, .int x5)] → hm_I D s0 s h z H locs → W p l e { frames := 0, cells := 0, slots := 0, locals := 0 } s m ([.ref y0, va_rf y1, .int y2, .int y3] : List Value).toArray below meth c H locs 0 0 (MQ below (ht_Q D s0 (fun vv h1 z1 => ∃ v, vv = some (.int v) ∧ K v h1 z1)) ([.ref y0, va_rf y1, .int y2, .int y3] : List Value).toArray s 0 0 (fun q => s0.heap.size ≤ q)) (F0 m 6 ls [])) → ∀ (ls : Array Slot) (x1 : Option Nat) (x3 : Int32) (x4 : Int32) (x5 : Int32) (h : hm_T) (z : hz_T) (H : Heap) (locs : List Loc), w_Tree_childrenWithin_29 dA y0 K k6 x1 x3 x4 x5 h z → lv_has ls 6 [(0, .ref y0), (1, va_rf x1), (3, .int x3), (4, .int x4), (5, .int x5)] → hm_I D s0 s h z H locs → W p l e { frames := 0, cells := 0, slots := 0, locals := 0 } s m ([.ref y0, va_rf y1, .int y2, .int y3] : List Value).toArray below meth c H locs 0 0 (MQ below (ht_Q D s0 (fun vv h1 z1 => ∃ v, vv = some (.int v) ∧ K v h1 z1)) ([.ref y0, va_rf y1, .int y2, .int y3] : List Value).toArray s 0 0 (fun q => s0.heap.size ≤ q)) (F0 m 29 ls []) := by
    intro k6 hk6 ls x1 x3 x4 x5 h z H locs hF hl I
    unfold w_Tree_childrenWithin_29 at hF
    refine lv_iinc (k := 4) (v := (x5 + 1)) hx hb d138_29 hl rfl (rfl) (by decide) rfl (fun ls hl => ?_)
    have hl : lv_has ls 6 [(5, .int (x5 + 1)), (0, .ref y0), (1, va_rf x1), (3, .int x3), (4, .int x4)] := hl
    refine lv_goto hx hb d138_32 rfl ?_
    exact hk6 ls x1 x3 x4 (x5 + 1) h z _ _ hF (hl.sub [1, 2, 3, 4, 0] rfl) I
  have b6 : ∀ n9 : Nat, ∀ (ls : Array Slot) (x1 : Option Nat) (x3 : Int32) (x4 : Int32) (x5 : Int32) (h : hm_T) (z : hz_T) (H : Heap) (locs : List Loc), w_Tree_childrenWithin_6 dA y0 K n9 x1 x3 x4 x5 h z → lv_has ls 6 [(0, .ref y0), (1, va_rf x1), (3, .int x3), (4, .int x4), (5, .int x5)] → hm_I D s0 s h z H locs → W p l e { frames := 0, cells := 0, slots := 0, locals := 0 } s m ([.ref y0, va_rf y1, .int y2, .int y3] : List Value).toArray below meth c H locs 0 0 (MQ below (ht_Q D s0 (fun vv h1 z1 => ∃ v, vv = some (.int v) ∧ K v h1 z1)) ([.ref y0, va_rf y1, .int y2, .int y3] : List Value).toArray s 0 0 (fun q => s0.heap.size ≤ q)) (F0 m 6 ls []) := by
    intro n9
    induction n9 with
    | zero => intro ls x1 x3 x4 x5 h z H locs hF; cases hF
    | succ n9 hk6 =>
    intro ls x1 x3 x4 x5 h z H locs hF hl I
    unfold w_Tree_childrenWithin_6 at hF
    refine lv_iload hx hb d138_6 (lv_at hl 4 rfl) ?_
    refine lv_iload_n hx hb d138_8 rfl (lv_at hl 2 rfl) ?_
    refine lv_icmp_ge hx hb d138_9 rfl (fun h9 => ?_) (fun h9 => ?_)
    · have hF := Eq.mp (if_pos h9) hF
      refine lv_iload hx hb d138_35 (lv_at hl 3 rfl) ?_
      exact ht_iret X d138_37 I (Nat.le_of_ble_eq_true rfl) (Nat.le_of_ble_eq_true rfl) ⟨_, rfl, hF⟩
    · have hF := Eq.mp (if_neg h9) hF
      refine lv_aload_n hx hb d138_12 rfl (lv_at hl 0 rfl) ?_
      obtain ⟨fs9, v1, c9, e9, hF⟩ := hF
      refine va_get (D := D) (ci := 1) (v := va_rf v1) (C := kR1) (T := kT1) (N := 6) hx hb hts ku1 hown hK (hm_one I.1 c9) 0 rfl rfl 2 (by decide) (hts _ ms_k82) (fun _ h => h) e9 d138_13 ?_
      clear e9 c9 fs9
      refine lv_iload hx hb d138_16 (lv_at hl 4 rfl) ?_
      obtain ⟨a2, e9, hF⟩ := hF
      refine W.eq (g2 := F0 m 18 ls [.int x5, .ref a2]) (by rw [e9]; rfl) ?_
      clear e9
      obtain ⟨n8, f8, c9, i9, hF⟩ := hF
      refine va_aldq hx hb hK (hm_one I.1 c9) 0 5 rfl rfl i9 d138_18 ?_
      generalize f8 (Int32.toNatClampNeg x5) = v3 at hF ⊢
      clear c9 i9
      obtain ⟨a4, e9, hF⟩ := hF
      refine W.eq (g2 := F0 m 19 ls [.ref a4]) (by rw [e9]; rfl) ?_
      clear e9
      obtain ⟨fs9, v5, c9, e9, hF⟩ := hF
      refine va_get (D := D) (ci := 8) (v := va_rf v5) (C := kR8) (T := kT8) (N := 9) hx hb hts ku8 hown hK (hm_one I.1 c9) 0 rfl rfl 1 (by decide) (hts _ ms_k447) (fun _ h => h) e9 d138_19 ?_
      clear e9 c9 fs9
      refine lv_aload_nR hx hb d138_22 rfl (lv_at hl 1 rfl) ?_
      refine lv_acmp_ne (rx := v5) (ry := x1) hx hb d138_23 rfl (fun h9 => ?_) (fun h9 => ?_)
      · have hF := Eq.mp (if_neg h9) hF
        exact b29 (w_Tree_childrenWithin_6 dA y0 K n9) hk6 ls x1 x3 x4 x5 h z _ _ hF (hl.sub [0, 1, 2, 3, 4] rfl) I
      · have hF := Eq.mp (if_pos h9) hF
        refine lv_iinc (k := 3) (v := (x4 + 1)) hx hb d138_26 hl rfl (rfl) (by decide) rfl (fun ls hl => ?_)
        have hl : lv_has ls 6 [(4, .int (x4 + 1)), (0, .ref y0), (1, va_rf x1), (3, .int x3), (5, .int x5)] := hl
        exact b29 (w_Tree_childrenWithin_6 dA y0 K n9) hk6 ls x1 x3 (x4 + 1) x5 h z _ _ hF (hl.sub [1, 2, 3, 0, 4] rfl) I
  have hF := hg
  unfold w_Tree_childrenWithin at hF
  clear h z
  refine lv_iconst (v := 0) hx hb d138_0 (by decide) ?_
  refine lv_istore hx hb d138_1 hl (by decide) rfl (fun ls hl => ?_)
  have hl : lv_has ls 6 [(4, .int 0), (0, .ref y0), (1, va_rf y1), (2, .int y2), (3, .int y3)] := hl
  refine lv_iload_n hx hb d138_3 rfl (lv_at hl 3 rfl) ?_
  refine lv_istore hx hb d138_4 hl (by decide) rfl (fun ls hl => ?_)
  have hl : lv_has ls 6 [(5, .int y2), (4, .int 0), (0, .ref y0), (1, va_rf y1), (2, .int y2), (3, .int y3)] := hl
  exact b6 mF ls y1 y3 0 y2 h0 z0 _ _ hF (hl.sub [2, 3, 5, 1, 0] rfl) I

def w_Tree_setPlaces_2 (dA : Nat → ClassId) (y0 : Nat) (K : hm_T → hz_T → Prop) : Nat → Int32 → hm_T → hz_T → Prop
  | 0, _, _, _ => False
  | n9 + 1, x1, h, z => (cg_I h 1 3 y0 (fun v1 => (if v1 ≤ x1 then (K h z) else (cg_R h 1 2 y0 (fun v2 => (cg_d v2 (fun a3 => (cg_ar dA h 5 a3 x1 (fun v4 => (cg_d v4 (fun a5 => (cg_p h 8 6 a5 (.int x1) (fun h6 => ((w_Tree_setPlaces_2 dA y0 K n9) (x1 + 1) h6 z))))))))))))))
def w_Tree_setPlaces (dA : Nat → ClassId) (y0 : Nat) (K : hm_T → hz_T → Prop) (h0 : hm_T) (z0 : hz_T) : Prop := (w_Tree_setPlaces_2 dA y0 K mF 0 h0 z0)
set_option maxRecDepth 100000 in
set_option maxHeartbeats 8000000 in
theorem cw_Tree_setPlaces (l : Launch) (D : va_G) (dA : Nat → ClassId) (s0 : State) (hE : ms_EV D dA s0) (y0 : Nat) (h0 : hm_T) (z0 : hz_T) (K : hm_T → hz_T → Prop) (hg : w_Tree_setPlaces dA y0 K h0 z0) : ht_C l D s0 yM139 bM139 2 (Option.none : Option Jvm.ClassFile.FieldType) 0 0 0 0 [.ref y0] (fun h z => h = h0 ∧ z = z0) (fun h z vv h1 z1 => vv = none ∧ K h1 z1) := by
  refine ht_C.mk hE.1 (by decide) (Nat.le_of_ble_eq_true rfl) [(0, .ref y0)] rfl ?_
  intro p e s m below meth c ls h z X hin hpre I hl
  have hx := X.1
  have hb := X.2.1
  have hml := X.2.2.1
  have hown : s.vm.findClass "MarkupStore$Tree" = some m.cls := X.2.2.2.1
  have hts := X.2.2.2.2.2.2.1
  have hK := X.2.2.2.2.2.2.2.2.1
  rw [hpre.1, hpre.2] at I
  clear hpre
  have b2 : ∀ n9 : Nat, ∀ (ls : Array Slot) (x1 : Int32) (h : hm_T) (z : hz_T) (H : Heap) (locs : List Loc), w_Tree_setPlaces_2 dA y0 K n9 x1 h z → lv_has ls 2 [(0, .ref y0), (1, .int x1)] → hm_I D s0 s h z H locs → W p l e { frames := 0, cells := 0, slots := 0, locals := 0 } s m ([.ref y0] : List Value).toArray below meth c H locs 0 0 (MQ below (ht_Q D s0 (fun vv h1 z1 => vv = none ∧ K h1 z1)) ([.ref y0] : List Value).toArray s 0 0 (fun q => s0.heap.size ≤ q)) (F0 m 2 ls []) := by
    intro n9
    induction n9 with
    | zero => intro ls x1 h z H locs hF; cases hF
    | succ n9 hk2 =>
    intro ls x1 h z H locs hF hl I
    unfold w_Tree_setPlaces_2 at hF
    refine lv_iload_n hx hb d139_2 rfl (lv_at hl 1 rfl) ?_
    refine lv_aload_n hx hb d139_3 rfl (lv_at hl 0 rfl) ?_
    obtain ⟨fs9, v1, c9, e9, hF⟩ := hF
    refine va_get (D := D) (ci := 1) (v := .int v1) (C := kR1) (T := kT1) (N := 6) hx hb hts ku1 hown hK (hm_one I.1 c9) 0 rfl rfl 3 (by decide) (hts _ ms_k87) (fun _ h => h) e9 d139_4 ?_
    clear e9 c9 fs9
    refine lv_icmp_ge hx hb d139_7 rfl (fun h9 => ?_) (fun h9 => ?_)
    · have hF := Eq.mp (if_pos h9) hF
      exact ht_vret X d139_26 I (Nat.le_of_ble_eq_true rfl) (Nat.le_of_ble_eq_true rfl) ⟨rfl, hF⟩
    · have hF := Eq.mp (if_neg h9) hF
      refine lv_aload_n hx hb d139_10 rfl (lv_at hl 0 rfl) ?_
      obtain ⟨fs9, v2, c9, e9, hF⟩ := hF
      refine va_get (D := D) (ci := 1) (v := va_rf v2) (C := kR1) (T := kT1) (N := 6) hx hb hts ku1 hown hK (hm_one I.1 c9) 0 rfl rfl 2 (by decide) (hts _ ms_k82) (fun _ h => h) e9 d139_11 ?_
      clear e9 c9 fs9
      refine lv_iload_n hx hb d139_14 rfl (lv_at hl 1 rfl) ?_
      obtain ⟨a3, e9, hF⟩ := hF
      refine W.eq (g2 := F0 m 15 ls [.int x1, .ref a3]) (by rw [e9]; rfl) ?_
      clear e9
      obtain ⟨n8, f8, c9, i9, hF⟩ := hF
      refine va_aldq hx hb hK (hm_one I.1 c9) 0 5 rfl rfl i9 d139_15 ?_
      generalize f8 (Int32.toNatClampNeg x1) = v4 at hF ⊢
      clear c9 i9
      refine lv_iload_n hx hb d139_16 rfl (lv_at hl 1 rfl) ?_
      obtain ⟨a5, e9, hF⟩ := hF
      refine W.eq (g2 := F0 m 17 ls [.int x1, .ref a5]) (by rw [e9]; rfl) ?_
      clear e9
      obtain ⟨fs9, c9, k9, hF⟩ := hF
      refine hm_put (ci := 8) (v := .int x1) (ty := .int) (C := kR8) (T := kT8) (N := 9) X I ku8 kt8 kp8 kn8 c9 rfl 6 (by decide) ms_k463 (fun _ h => h) rfl (by decide +kernel) rfl rfl k9 d139_17 (fun h6 H locs e9 f9 I => ?_)
      rw [← hm_eqU e9 f9] at hF
      clear e9 f9 c9 k9
      refine lv_iinc (k := 1) (v := (x1 + 1)) hx hb d139_20 hl rfl (rfl) (by decide) rfl (fun ls hl => ?_)
      have hl : lv_has ls 2 [(1, .int (x1 + 1)), (0, .ref y0)] := hl
      refine lv_goto hx hb d139_23 rfl ?_
      exact hk2 ls (x1 + 1) h6 z _ _ hF (hl.sub [1, 0] rfl) I
  have hF := hg
  unfold w_Tree_setPlaces at hF
  clear h z
  refine lv_iconst (v := 0) hx hb d139_0 (by decide) ?_
  refine lv_istore_n hx hb d139_1 rfl hl (by decide) rfl (fun ls hl => ?_)
  have hl : lv_has ls 2 [(1, .int 0), (0, .ref y0)] := hl
  exact b2 mF ls 0 h0 z0 _ _ hF (hl.sub [1, 0] rfl) I

def w_Scribe_put_16 (dA : Nat → ClassId) (y0 : Nat) (K : hm_T → hz_T → Prop) (h : hm_T) (z : hz_T) : Prop := (cg_I h 7 1 y0 (fun v3 => (cg_p h 7 1 y0 (.int (v3 + 1)) (fun h4 => (K h4 z)))))
def w_Scribe_put (dA : Nat → ClassId) (y0 : Nat) (y1 : Int32) (K : hm_T → hz_T → Prop) (h0 : hm_T) (z0 : hz_T) : Prop := (cg_I h0 7 1 y0 (fun v1 => (cg_I h0 7 0 y0 (fun v2 => (if v1 = v2 then (cg_p h0 7 2 y0 (.int y1) (fun h5 => (w_Scribe_put_16 dA y0 K h5 z0))) else (w_Scribe_put_16 dA y0 K h0 z0))))))
set_option maxRecDepth 100000 in
set_option maxHeartbeats 8000000 in
theorem cw_Scribe_put (l : Launch) (D : va_G) (dA : Nat → ClassId) (s0 : State) (hE : ms_EV D dA s0) (y0 : Nat) (y1 : Int32) (h0 : hm_T) (z0 : hz_T) (K : hm_T → hz_T → Prop) (hg : w_Scribe_put dA y0 y1 K h0 z0) : ht_C l D s0 yM140 bM140 2 (Option.none : Option Jvm.ClassFile.FieldType) 0 0 0 0 [.ref y0, .int y1] (fun h z => h = h0 ∧ z = z0) (fun h z vv h1 z1 => vv = none ∧ K h1 z1) := by
  refine ht_C.mk hE.1 (by decide) (Nat.le_of_ble_eq_true rfl) [(0, .ref y0), (1, .int y1)] rfl ?_
  intro p e s m below meth c ls h z X hin hpre I hl
  have hx := X.1
  have hb := X.2.1
  have hml := X.2.2.1
  have hown : s.vm.findClass "MarkupStore$Scribe" = some m.cls := X.2.2.2.1
  have hts := X.2.2.2.2.2.2.1
  have hK := X.2.2.2.2.2.2.2.2.1
  rw [hpre.1, hpre.2] at I
  clear hpre
  have b16 : ∀ (ls : Array Slot) (h : hm_T) (z : hz_T) (H : Heap) (locs : List Loc), w_Scribe_put_16 dA y0 K h z → lv_has ls 2 [(0, .ref y0)] → hm_I D s0 s h z H locs → W p l e { frames := 0, cells := 0, slots := 0, locals := 0 } s m ([.ref y0, .int y1] : List Value).toArray below meth c H locs 0 0 (MQ below (ht_Q D s0 (fun vv h1 z1 => vv = none ∧ K h1 z1)) ([.ref y0, .int y1] : List Value).toArray s 0 0 (fun q => s0.heap.size ≤ q)) (F0 m 16 ls []) := by
    intro ls h z H locs hF hl I
    unfold w_Scribe_put_16 at hF
    refine lv_aload_n hx hb d140_16 rfl (lv_at hl 0 rfl) ?_
    refine lv_dup hx hb d140_17 rfl ?_
    obtain ⟨fs9, v3, c9, e9, hF⟩ := hF
    refine va_get (D := D) (ci := 7) (v := .int v3) (C := kR7) (T := kT7) (N := 3) hx hb hts ku7 hown hK (hm_one I.1 c9) 0 rfl rfl 1 (by decide) (hts _ ms_k1253) (fun _ h => h) e9 d140_18 ?_
    clear e9 c9 fs9
    refine lv_iconst (v := 1) hx hb d140_21 (by decide) ?_
    refine lv_iadd hx hb d140_22 ?_
    obtain ⟨fs9, c9, k9, hF⟩ := hF
    refine hm_put (ci := 7) (v := .int (v3 + 1)) (ty := .int) (C := kR7) (T := kT7) (N := 3) X I ku7 kt7 kp7 kn7 c9 rfl 1 (by decide) ms_k1253 (fun _ h => h) rfl (by decide +kernel) rfl rfl k9 d140_23 (fun h4 H locs e9 f9 I => ?_)
    rw [← hm_eqU e9 f9] at hF
    clear e9 f9 c9 k9
    exact ht_vret X d140_26 I (Nat.le_of_ble_eq_true rfl) (Nat.le_of_ble_eq_true rfl) ⟨rfl, hF⟩
  have hF := hg
  unfold w_Scribe_put at hF
  clear h z
  refine lv_aload_n hx hb d140_0 rfl (lv_at hl 0 rfl) ?_
  obtain ⟨fs9, v1, c9, e9, hF⟩ := hF
  refine va_get (D := D) (ci := 7) (v := .int v1) (C := kR7) (T := kT7) (N := 3) hx hb hts ku7 hown hK (hm_one I.1 c9) 0 rfl rfl 1 (by decide) (hts _ ms_k1253) (fun _ h => h) e9 d140_1 ?_
  clear e9 c9 fs9
  refine lv_aload_n hx hb d140_4 rfl (lv_at hl 0 rfl) ?_
  obtain ⟨fs9, v2, c9, e9, hF⟩ := hF
  refine va_get (D := D) (ci := 7) (v := .int v2) (C := kR7) (T := kT7) (N := 3) hx hb hts ku7 hown hK (hm_one I.1 c9) 0 rfl rfl 0 (by decide) (hts _ ms_k1252) (fun _ h => h) e9 d140_5 ?_
  clear e9 c9 fs9
  refine lv_icmp_ne hx hb d140_8 rfl (fun h9 => ?_) (fun h9 => ?_)
  · have hF := Eq.mp (if_neg h9) hF
    exact b16 ls h0 z0 _ _ hF (hl.sub [0] rfl) I
  · have hF := Eq.mp (if_pos h9) hF
    refine lv_aload_n hx hb d140_11 rfl (lv_at hl 0 rfl) ?_
    refine lv_iload_n hx hb d140_12 rfl (lv_at hl 1 rfl) ?_
    obtain ⟨fs9, c9, k9, hF⟩ := hF
    refine hm_put (ci := 7) (v := .int y1) (ty := .int) (C := kR7) (T := kT7) (N := 3) X I ku7 kt7 kp7 kn7 c9 rfl 2 (by decide) ms_k1255 (fun _ h => h) rfl (by decide +kernel) rfl rfl k9 d140_13 (fun h5 H locs e9 f9 I => ?_)
    rw [← hm_eqU e9 f9] at hF
    clear e9 f9 c9 k9
    exact b16 ls h5 z0 _ _ hF (hl.sub [0] rfl) I

def w_Walker_has (dA : Nat → ClassId) (y0 : Int64) (y2 : Int32) (K : Int32 → hm_T → hz_T → Prop) (h0 : hm_T) (z0 : hz_T) : Prop := (if (mm_cmp ((y0 >>> (y2.toInt64 &&& 63)) &&& (1 : Int64)) (1 : Int64)) = 0 then (K 1 h0 z0) else (K 0 h0 z0))
set_option maxRecDepth 100000 in
set_option maxHeartbeats 8000000 in
theorem cw_Walker_has (l : Launch) (D : va_G) (dA : Nat → ClassId) (s0 : State) (hE : ms_EV D dA s0) (y0 : Int64) (y2 : Int32) (h0 : hm_T) (z0 : hz_T) (K : Int32 → hm_T → hz_T → Prop) (hg : w_Walker_has dA y0 y2 K h0 z0) : ht_C l D s0 yM141 bM141 3 (Option.some Jvm.ClassFile.FieldType.boolean) 0 0 0 0 [.long y0, .int y2] (fun h z => h = h0 ∧ z = z0) (fun h z vv h1 z1 => ∃ v, vv = some (.int v) ∧ K v h1 z1) := by
  refine ht_C.mk hE.1 (by decide) (Nat.le_of_ble_eq_true rfl) [(0, .long y0), (2, .int y2)] rfl ?_
  intro p e s m below meth c ls h z X hin hpre I hl
  have hx := X.1
  have hb := X.2.1
  have hml := X.2.2.1
  have hown : s.vm.findClass "MarkupStore$Walker" = some m.cls := X.2.2.2.1
  have hts := X.2.2.2.2.2.2.1
  have hK := X.2.2.2.2.2.2.2.2.1
  rw [hpre.1, hpre.2] at I
  clear hpre
  have hF := hg
  unfold w_Walker_has at hF
  clear h z
  refine lv_lload_n hx hb d141_0 rfl (lv_at hl 0 rfl) ?_
  refine lv_iload_n hx hb d141_1 rfl (lv_at hl 1 rfl) ?_
  refine lv_lshr (v := (y0 >>> (y2.toInt64 &&& 63))) hx hb d141_2 rfl ?_
  refine lv_lconst (v := (1 : Int64)) hx hb d141_3 (by decide) ?_
  refine lv_land hx hb d141_4 ?_
  refine lv_lconst (v := (1 : Int64)) hx hb d141_5 (by decide) ?_
  refine lv_lcmp hx hb d141_6 ?_
  refine lv_if_ne hx hb d141_7 rfl (fun h9 => ?_) (fun h9 => ?_)
  · have hF := Eq.mp (if_neg h9) hF
    refine lv_iconst (v := 0) hx hb d141_14 (by decide) ?_
    exact ht_zret X d141_15 I (Nat.le_of_ble_eq_true rfl) (Nat.le_of_ble_eq_true rfl) ⟨_, rfl, hF⟩ rfl
  · have hF := Eq.mp (if_pos h9) hF
    refine lv_iconst (v := 1) hx hb d141_10 (by decide) ?_
    refine lv_goto hx hb d141_11 rfl ?_
    exact ht_zret X d141_15 I (Nat.le_of_ble_eq_true rfl) (Nat.le_of_ble_eq_true rfl) ⟨_, rfl, hF⟩ rfl

def w_Walker_ancestors_8 (dA : Nat → ClassId) (y0 : Nat) (K : Int64 → hm_T → hz_T → Prop) : Nat → Int64 → Option Nat → hm_T → hz_T → Prop
  | 0, _, _, _, _ => False
  | n9 + 1, x2, x4, h, z => (if x4 = none then (K x2 h z) else (cg_d x4 (fun a3 => (cg_I h 8 6 a3 (fun v4 => (cg_d x4 (fun a5 => (cg_R h 8 1 a5 (fun v6 => ((w_Walker_ancestors_8 dA y0 K n9) (x2 ||| ((1 : Int64) <<< (v4.toInt64 &&& 63))) v6 h z))))))))))
def w_Walker_ancestors (dA : Nat → ClassId) (y0 : Nat) (y1 : Option Nat) (K : Int64 → hm_T → hz_T → Prop) (h0 : hm_T) (z0 : hz_T) : Prop := (cg_d y1 (fun a1 => (cg_R h0 8 1 a1 (fun v2 => (w_Walker_ancestors_8 dA y0 K mF (0 : Int64) v2 h0 z0)))))
set_option maxRecDepth 100000 in
set_option maxHeartbeats 8000000 in
theorem cw_Walker_ancestors (l : Launch) (D : va_G) (dA : Nat → ClassId) (s0 : State) (hE : ms_EV D dA s0) (y0 : Nat) (y1 : Option Nat) (h0 : hm_T) (z0 : hz_T) (K : Int64 → hm_T → hz_T → Prop) (hg : w_Walker_ancestors dA y0 y1 K h0 z0) : ht_C l D s0 yM143 bM143 5 (Option.some Jvm.ClassFile.FieldType.long) 0 0 0 0 [.ref y0, va_rf y1] (fun h z => h = h0 ∧ z = z0) (fun h z vv h1 z1 => ∃ v, vv = some (.long v) ∧ K v h1 z1) := by
  refine ht_C.mk hE.1 (by decide) (by simp [lg_sl, cat_rf, cat_int, cat_ref, cat_null, cat_long]) [(0, .ref y0), (1, va_rf y1)] (by simp [lv_args, cat_rf, cat_int, cat_ref, cat_null, cat_long]) ?_
  intro p e s m below meth c ls h z X hin hpre I hl
  have hx := X.1
  have hb := X.2.1
  have hml := X.2.2.1
  have hown : s.vm.findClass "MarkupStore$Walker" = some m.cls := X.2.2.2.1
  have hts := X.2.2.2.2.2.2.1
  have hK := X.2.2.2.2.2.2.2.2.1
  rw [hpre.1, hpre.2] at I
  clear hpre
  have b8 : ∀ n9 : Nat, ∀ (ls : Array Slot) (x2 : Int64) (x4 : Option Nat) (h : hm_T) (z : hz_T) (H : Heap) (locs : List Loc), w_Walker_ancestors_8 dA y0 K n9 x2 x4 h z → lv_has ls 5 [(2, .long x2), (4, va_rf x4)] → hm_I D s0 s h z H locs → W p l e { frames := 0, cells := 0, slots := 0, locals := 0 } s m ([.ref y0, va_rf y1] : List Value).toArray below meth c H locs 0 0 (MQ below (ht_Q D s0 (fun vv h1 z1 => ∃ v, vv = some (.long v) ∧ K v h1 z1)) ([.ref y0, va_rf y1] : List Value).toArray s 0 0 (fun q => s0.heap.size ≤ q)) (F0 m 8 ls []) := by
    intro n9
    induction n9 with
    | zero => intro ls x2 x4 h z H locs hF; cases hF
    | succ n9 hk8 =>
    intro ls x2 x4 h z H locs hF hl I
    unfold w_Walker_ancestors_8 at hF
    refine lv_aloadR hx hb d143_8 (lv_at hl 1 rfl) ?_
    refine lv_ifnullR hx hb d143_10 rfl (fun h9 => ?_) (fun h9 => ?_)
    · have hF := Eq.mp (if_pos h9) hF
      refine lv_lload_n hx hb d143_33 rfl (lv_at hl 0 rfl) ?_
      exact ht_lret X d143_34 I (Nat.le_of_ble_eq_true rfl) (Nat.le_of_ble_eq_true rfl) ⟨_, rfl, hF⟩
    · have hF := Eq.mp (if_neg h9) hF
      refine lv_lload_n hx hb d143_13 rfl (lv_at hl 0 rfl) ?_
      refine lv_lconst (v := (1 : Int64)) hx hb d143_14 (by decide) ?_
      refine lv_aloadR hx hb d143_15 (lv_at hl 1 rfl) ?_
      obtain ⟨a3, e9, hF⟩ := hF
      refine W.eq (g2 := F0 m 17 ls [.ref a3, .long (1 : Int64), .long x2]) (by rw [e9]; rfl) ?_
      clear e9
      obtain ⟨fs9, v4, c9, e9, hF⟩ := hF
      refine va_get (D := D) (ci := 8) (v := .int v4) (C := kR8) (T := kT8) (N := 9) hx hb hts ku8 hown hK (hm_one I.1 c9) 0 rfl rfl 6 (by decide) (hts _ ms_k465) (fun _ h => h) e9 d143_17 ?_
      clear e9 c9 fs9
      refine lv_lshl (v := ((1 : Int64) <<< (v4.toInt64 &&& 63))) hx hb d143_20 rfl ?_
      refine lv_lor hx hb d143_21 ?_
      refine lv_lstore_n hx hb d143_22 rfl hl (by decide) rfl (fun ls hl => ?_)
      have hl : lv_has ls 5 [(2, .long (x2 ||| ((1 : Int64) <<< (v4.toInt64 &&& 63)))), (4, va_rf x4)] := hl
      refine lv_aloadR hx hb d143_23 (lv_at hl 1 rfl) ?_
      obtain ⟨a5, e9, hF⟩ := hF
      refine W.eq (g2 := F0 m 25 ls [.ref a5]) (by rw [e9]; rfl) ?_
      clear e9
      obtain ⟨fs9, v6, c9, e9, hF⟩ := hF
      refine va_get (D := D) (ci := 8) (v := va_rf v6) (C := kR8) (T := kT8) (N := 9) hx hb hts ku8 hown hK (hm_one I.1 c9) 0 rfl rfl 1 (by decide) (hts _ ms_k448) (fun _ h => h) e9 d143_25 ?_
      clear e9 c9 fs9
      refine lv_astoreR hx hb d143_28 hl (by decide) rfl (fun ls hl => ?_)
      have hl : lv_has ls 5 [(4, va_rf v6), (2, .long (x2 ||| ((1 : Int64) <<< (v4.toInt64 &&& 63))))] := hl
      refine lv_goto hx hb d143_30 rfl ?_
      exact hk8 ls (x2 ||| ((1 : Int64) <<< (v4.toInt64 &&& 63))) v6 h z _ _ hF (hl.sub [1, 0] rfl) I
  have hF := hg
  unfold w_Walker_ancestors at hF
  clear h z
  refine lv_lconst (v := (0 : Int64)) hx hb d143_0 (by decide) ?_
  refine lv_lstore_n hx hb d143_1 rfl hl (by decide) (show _ = [(2, .long (0 : Int64)), (0, .ref y0), (1, va_rf y1)] by simp [cat_rf, cat_int, cat_ref, cat_null, cat_long]) (fun ls hl => ?_)
  have hl : lv_has ls 5 [(2, .long (0 : Int64)), (0, .ref y0), (1, va_rf y1)] := hl
  refine lv_aload_nR hx hb d143_2 rfl (lv_at hl 2 rfl) ?_
  obtain ⟨a1, e9, hF⟩ := hF
  refine W.eq (g2 := F0 m 3 ls [.ref a1]) (by rw [e9]; rfl) ?_
  clear e9
  obtain ⟨fs9, v2, c9, e9, hF⟩ := hF
  refine va_get (D := D) (ci := 8) (v := va_rf v2) (C := kR8) (T := kT8) (N := 9) hx hb hts ku8 hown hK (hm_one I.1 c9) 0 rfl rfl 1 (by decide) (hts _ ms_k448) (fun _ h => h) e9 d143_3 ?_
  clear e9 c9 fs9
  refine lv_astoreR hx hb d143_6 hl (by decide) rfl (fun ls hl => ?_)
  have hl : lv_has ls 5 [(4, va_rf v2), (2, .long (0 : Int64)), (0, .ref y0), (1, va_rf y1)] := hl
  exact b8 mF ls (0 : Int64) v2 h0 z0 _ _ hF (hl.sub [1, 0] rfl) I

def w_Walker_children_55 (dA : Nat → ClassId) (y0 : Nat) (K : Int64 → hm_T → hz_T → Prop) (x2 : Int64) (h : hm_T) (z : hz_T) : Prop := (K x2 h z)
def w_Walker_children_47 (dA : Nat → ClassId) (y0 : Nat) (K : Int64 → hm_T → hz_T → Prop) (k5 : Option Nat → Int64 → Int32 → hm_T → hz_T → Prop) (x1 : Option Nat) (x4 : Int32) (w0 : Int64) (w1 : Int64) (h : hm_T) (z : hz_T) : Prop := (k5 x1 (w1 ||| w0) (x4 + 1) h z)
def w_Walker_children_5 (dA : Nat → ClassId) (y0 : Nat) (K : Int64 → hm_T → hz_T → Prop) : Nat → Option Nat → Int64 → Int32 → hm_T → hz_T → Prop
  | 0, _, _, _, _, _ => False
  | n9 + 1, x1, x2, x4, h, z => (if x1 = none then (w_Walker_children_55 dA y0 K x2 h z) else (cg_R h 14 0 y0 (fun v1 => (cg_d v1 (fun a2 => (cg_I h 1 3 a2 (fun v3 => (if v3 ≤ x4 then (w_Walker_children_55 dA y0 K x2 h z) else (cg_R h 14 0 y0 (fun v4 => (cg_d v4 (fun a5 => (cg_R h 1 2 a5 (fun v6 => (cg_d v6 (fun a7 => (cg_ar dA h 5 a7 x4 (fun v8 => (cg_d v8 (fun a9 => (cg_R h 8 1 a9 (fun v10 => (if v10 = x1 then (w_Walker_children_47 dA y0 K (w_Walker_children_5 dA y0 K n9) x1 x4 ((1 : Int64) <<< (x4.toInt64 &&& 63)) x2 h z) else (w_Walker_children_47 dA y0 K (w_Walker_children_5 dA y0 K n9) x1 x4 (0 : Int64) x2 h z))))))))))))))))))))))))
def w_Walker_children (dA : Nat → ClassId) (y0 : Nat) (y1 : Option Nat) (K : Int64 → hm_T → hz_T → Prop) (h0 : hm_T) (z0 : hz_T) : Prop := (w_Walker_children_5 dA y0 K mF y1 (0 : Int64) 0 h0 z0)
set_option maxRecDepth 100000 in
set_option maxHeartbeats 8000000 in
theorem cw_Walker_children (l : Launch) (D : va_G) (dA : Nat → ClassId) (s0 : State) (hE : ms_EV D dA s0) (y0 : Nat) (y1 : Option Nat) (h0 : hm_T) (z0 : hz_T) (K : Int64 → hm_T → hz_T → Prop) (hg : w_Walker_children dA y0 y1 K h0 z0) : ht_C l D s0 yM144 bM144 5 (Option.some Jvm.ClassFile.FieldType.long) 0 0 0 0 [.ref y0, va_rf y1] (fun h z => h = h0 ∧ z = z0) (fun h z vv h1 z1 => ∃ v, vv = some (.long v) ∧ K v h1 z1) := by
  refine ht_C.mk hE.1 (by decide) (by simp [lg_sl, cat_rf, cat_int, cat_ref, cat_null, cat_long]) [(0, .ref y0), (1, va_rf y1)] (by simp [lv_args, cat_rf, cat_int, cat_ref, cat_null, cat_long]) ?_
  intro p e s m below meth c ls h z X hin hpre I hl
  have hx := X.1
  have hb := X.2.1
  have hml := X.2.2.1
  have hown : s.vm.findClass "MarkupStore$Walker" = some m.cls := X.2.2.2.1
  have hts := X.2.2.2.2.2.2.1
  have hK := X.2.2.2.2.2.2.2.2.1
  rw [hpre.1, hpre.2] at I
  clear hpre
  have b55 : ∀ (ls : Array Slot) (x2 : Int64) (h : hm_T) (z : hz_T) (H : Heap) (locs : List Loc), w_Walker_children_55 dA y0 K x2 h z → lv_has ls 5 [(2, .long x2)] → hm_I D s0 s h z H locs → W p l e { frames := 0, cells := 0, slots := 0, locals := 0 } s m ([.ref y0, va_rf y1] : List Value).toArray below meth c H locs 0 0 (MQ below (ht_Q D s0 (fun vv h1 z1 => ∃ v, vv = some (.long v) ∧ K v h1 z1)) ([.ref y0, va_rf y1] : List Value).toArray s 0 0 (fun q => s0.heap.size ≤ q)) (F0 m 55 ls []) := by
    intro ls x2 h z H locs hF hl I
    unfold w_Walker_children_55 at hF
    refine lv_lload_n hx hb d144_55 rfl (lv_at hl 0 rfl) ?_
    exact ht_lret X d144_56 I (Nat.le_of_ble_eq_true rfl) (Nat.le_of_ble_eq_true rfl) ⟨_, rfl, hF⟩
  have b47 : ∀ (k5 : Option Nat → Int64 → Int32 → hm_T → hz_T → Prop), (∀ (ls : Array Slot) (x1 : Option Nat) (x2 : Int64) (x4 : Int32) (h : hm_T) (z : hz_T) (H : Heap) (locs : List Loc), k5 x1 x2 x4 h z → lv_has ls 5 [(0, .ref y0), (1, va_rf x1), (2, .long x2), (4, .int x4)] → hm_I D s0 s h z H locs → W p l e { frames := 0, cells := 0, slots := 0, locals := 0 } s m ([.ref y0, va_rf y1] : List Value).toArray below meth c H locs 0 0 (MQ below (ht_Q D s0 (fun vv h1 z1 => ∃ v, vv = some (.long v) ∧ K v h1 z1)) ([.ref y0, va_rf y1] : List Value).toArray s 0 0 (fun q => s0.heap.size ≤ q)) (F0 m 5 ls [])) → ∀ (ls : Array Slot) (x1 : Option Nat) (x4 : Int32) (w0 : Int64) (w1 : Int64) (h : hm_T) (z : hz_T) (H : Heap) (locs : List Loc), w_Walker_children_47 dA y0 K k5 x1 x4 w0 w1 h z → lv_has ls 5 [(0, .ref y0), (1, va_rf x1), (4, .int x4)] → hm_I D s0 s h z H locs → W p l e { frames := 0, cells := 0, slots := 0, locals := 0 } s m ([.ref y0, va_rf y1] : List Value).toArray below meth c H locs 0 0 (MQ below (ht_Q D s0 (fun vv h1 z1 => ∃ v, vv = some (.long v) ∧ K v h1 z1)) ([.ref y0, va_rf y1] : List Value).toArray s 0 0 (fun q => s0.heap.size ≤ q)) (F0 m 47 ls [.long w0, .long w1]) := by
    intro k5 hk5 ls x1 x4 w0 w1 h z H locs hF hl I
    unfold w_Walker_children_47 at hF
    refine lv_lor hx hb d144_47 ?_
    refine lv_lstore_n hx hb d144_48 rfl hl (by decide) (show _ = [(2, .long (w1 ||| w0)), (0, .ref y0), (1, va_rf x1), (4, .int x4)] by simp [cat_rf, cat_int, cat_ref, cat_null, cat_long]) (fun ls hl => ?_)
    have hl : lv_has ls 5 [(2, .long (w1 ||| w0)), (0, .ref y0), (1, va_rf x1), (4, .int x4)] := hl
    refine lv_iinc (k := 3) (v := (x4 + 1)) hx hb d144_49 hl rfl (rfl) (by decide) rfl (fun ls hl => ?_)
    have hl : lv_has ls 5 [(4, .int (x4 + 1)), (2, .long (w1 ||| w0)), (0, .ref y0), (1, va_rf x1)] := hl
    refine lv_goto hx hb d144_52 rfl ?_
    exact hk5 ls x1 (w1 ||| w0) (x4 + 1) h z _ _ hF (hl.sub [2, 3, 1, 0] rfl) I
  have b5 : ∀ n9 : Nat, ∀ (ls : Array Slot) (x1 : Option Nat) (x2 : Int64) (x4 : Int32) (h : hm_T) (z : hz_T) (H : Heap) (locs : List Loc), w_Walker_children_5 dA y0 K n9 x1 x2 x4 h z → lv_has ls 5 [(0, .ref y0), (1, va_rf x1), (2, .long x2), (4, .int x4)] → hm_I D s0 s h z H locs → W p l e { frames := 0, cells := 0, slots := 0, locals := 0 } s m ([.ref y0, va_rf y1] : List Value).toArray below meth c H locs 0 0 (MQ below (ht_Q D s0 (fun vv h1 z1 => ∃ v, vv = some (.long v) ∧ K v h1 z1)) ([.ref y0, va_rf y1] : List Value).toArray s 0 0 (fun q => s0.heap.size ≤ q)) (F0 m 5 ls []) := by
    intro n9
    induction n9 with
    | zero => intro ls x1 x2 x4 h z H locs hF; cases hF
    | succ n9 hk5 =>
    intro ls x1 x2 x4 h z H locs hF hl I
    unfold w_Walker_children_5 at hF
    refine lv_aload_nR hx hb d144_5 rfl (lv_at hl 1 rfl) ?_
    refine lv_ifnullR hx hb d144_6 rfl (fun h9 => ?_) (fun h9 => ?_)
    · have hF := Eq.mp (if_pos h9) hF
      exact b55 ls x2 h z _ _ hF (hl.sub [2] rfl) I
    · have hF := Eq.mp (if_neg h9) hF
      refine lv_iload hx hb d144_9 (lv_at hl 3 rfl) ?_
      refine lv_aload_n hx hb d144_11 rfl (lv_at hl 0 rfl) ?_
      obtain ⟨fs9, v1, c9, e9, hF⟩ := hF
      refine va_get (D := D) (ci := 14) (v := va_rf v1) (C := kR14) (T := kT14) (N := 1) hx hb hts ku14 hown hK (hm_one I.1 c9) 0 rfl rfl 0 (by decide) (hts _ ms_k1088) (fun _ h => h) e9 d144_12 ?_
      clear e9 c9 fs9
      obtain ⟨a2, e9, hF⟩ := hF
      refine W.eq (g2 := F0 m 15 ls [.ref a2, .int x4]) (by rw [e9]; rfl) ?_
      clear e9
      obtain ⟨fs9, v3, c9, e9, hF⟩ := hF
      refine va_get (D := D) (ci := 1) (v := .int v3) (C := kR1) (T := kT1) (N := 6) hx hb hts ku1 hown hK (hm_one I.1 c9) 0 rfl rfl 3 (by decide) (hts _ ms_k88) (fun _ h => h) e9 d144_15 ?_
      clear e9 c9 fs9
      refine lv_icmp_ge hx hb d144_18 rfl (fun h9 => ?_) (fun h9 => ?_)
      · have hF := Eq.mp (if_pos h9) hF
        exact b55 ls x2 h z _ _ hF (hl.sub [2] rfl) I
      · have hF := Eq.mp (if_neg h9) hF
        refine lv_lload_n hx hb d144_21 rfl (lv_at hl 2 rfl) ?_
        refine lv_aload_n hx hb d144_22 rfl (lv_at hl 0 rfl) ?_
        obtain ⟨fs9, v4, c9, e9, hF⟩ := hF
        refine va_get (D := D) (ci := 14) (v := va_rf v4) (C := kR14) (T := kT14) (N := 1) hx hb hts ku14 hown hK (hm_one I.1 c9) 0 rfl rfl 0 (by decide) (hts _ ms_k1088) (fun _ h => h) e9 d144_23 ?_
        clear e9 c9 fs9
        obtain ⟨a5, e9, hF⟩ := hF
        refine W.eq (g2 := F0 m 26 ls [.ref a5, .long x2]) (by rw [e9]; rfl) ?_
        clear e9
        obtain ⟨fs9, v6, c9, e9, hF⟩ := hF
        refine va_get (D := D) (ci := 1) (v := va_rf v6) (C := kR1) (T := kT1) (N := 6) hx hb hts ku1 hown hK (hm_one I.1 c9) 0 rfl rfl 2 (by decide) (hts _ ms_k84) (fun _ h => h) e9 d144_26 ?_
        clear e9 c9 fs9
        refine lv_iload hx hb d144_29 (lv_at hl 3 rfl) ?_
        obtain ⟨a7, e9, hF⟩ := hF
        refine W.eq (g2 := F0 m 31 ls [.int x4, .ref a7, .long x2]) (by rw [e9]; rfl) ?_
        clear e9
        obtain ⟨n8, f8, c9, i9, hF⟩ := hF
        refine va_aldq hx hb hK (hm_one I.1 c9) 0 5 rfl rfl i9 d144_31 ?_
        generalize f8 (Int32.toNatClampNeg x4) = v8 at hF ⊢
        clear c9 i9
        obtain ⟨a9, e9, hF⟩ := hF
        refine W.eq (g2 := F0 m 32 ls [.ref a9, .long x2]) (by rw [e9]; rfl) ?_
        clear e9
        obtain ⟨fs9, v10, c9, e9, hF⟩ := hF
        refine va_get (D := D) (ci := 8) (v := va_rf v10) (C := kR8) (T := kT8) (N := 9) hx hb hts ku8 hown hK (hm_one I.1 c9) 0 rfl rfl 1 (by decide) (hts _ ms_k448) (fun _ h => h) e9 d144_32 ?_
        clear e9 c9 fs9
        refine lv_aload_nR hx hb d144_35 rfl (lv_at hl 1 rfl) ?_
        refine lv_acmp_ne (rx := v10) (ry := x1) hx hb d144_36 rfl (fun h9 => ?_) (fun h9 => ?_)
        · have hF := Eq.mp (if_neg h9) hF
          refine lv_lconst (v := (0 : Int64)) hx hb d144_46 (by decide) ?_
          exact b47 (w_Walker_children_5 dA y0 K n9) hk5 ls x1 x4 (0 : Int64) x2 h z _ _ hF (hl.sub [0, 1, 3] rfl) I
        · have hF := Eq.mp (if_pos h9) hF
          refine lv_lconst (v := (1 : Int64)) hx hb d144_39 (by decide) ?_
          refine lv_iload hx hb d144_40 (lv_at hl 3 rfl) ?_
          refine lv_lshl (v := ((1 : Int64) <<< (x4.toInt64 &&& 63))) hx hb d144_42 rfl ?_
          refine lv_goto hx hb d144_43 rfl ?_
          exact b47 (w_Walker_children_5 dA y0 K n9) hk5 ls x1 x4 ((1 : Int64) <<< (x4.toInt64 &&& 63)) x2 h z _ _ hF (hl.sub [0, 1, 3] rfl) I
  have hF := hg
  unfold w_Walker_children at hF
  clear h z
  refine lv_lconst (v := (0 : Int64)) hx hb d144_0 (by decide) ?_
  refine lv_lstore_n hx hb d144_1 rfl hl (by decide) (show _ = [(2, .long (0 : Int64)), (0, .ref y0), (1, va_rf y1)] by simp [cat_rf, cat_int, cat_ref, cat_null, cat_long]) (fun ls hl => ?_)
  have hl : lv_has ls 5 [(2, .long (0 : Int64)), (0, .ref y0), (1, va_rf y1)] := hl
  refine lv_iconst (v := 0) hx hb d144_2 (by decide) ?_
  refine lv_istore hx hb d144_3 hl (by decide) rfl (fun ls hl => ?_)
  have hl : lv_has ls 5 [(4, .int 0), (2, .long (0 : Int64)), (0, .ref y0), (1, va_rf y1)] := hl
  exact b5 mF ls y1 (0 : Int64) 0 h0 z0 _ _ hF (hl.sub [2, 3, 1, 0] rfl) I

def w_Walker_range (dA : Nat → ClassId) (y0 : Int32) (y1 : Int32) (K : Int64 → hm_T → hz_T → Prop) (h0 : hm_T) (z0 : hz_T) : Prop := (K (((1 : Int64) <<< (y1.toInt64 &&& 63)) - ((1 : Int64) <<< (y0.toInt64 &&& 63))) h0 z0)
set_option maxRecDepth 100000 in
set_option maxHeartbeats 8000000 in
theorem cw_Walker_range (l : Launch) (D : va_G) (dA : Nat → ClassId) (s0 : State) (hE : ms_EV D dA s0) (y0 : Int32) (y1 : Int32) (h0 : hm_T) (z0 : hz_T) (K : Int64 → hm_T → hz_T → Prop) (hg : w_Walker_range dA y0 y1 K h0 z0) : ht_C l D s0 yM145 bM145 2 (Option.some Jvm.ClassFile.FieldType.long) 0 0 0 0 [.int y0, .int y1] (fun h z => h = h0 ∧ z = z0) (fun h z vv h1 z1 => ∃ v, vv = some (.long v) ∧ K v h1 z1) := by
  refine ht_C.mk hE.1 (by decide) (Nat.le_of_ble_eq_true rfl) [(0, .int y0), (1, .int y1)] rfl ?_
  intro p e s m below meth c ls h z X hin hpre I hl
  have hx := X.1
  have hb := X.2.1
  have hml := X.2.2.1
  have hown : s.vm.findClass "MarkupStore$Walker" = some m.cls := X.2.2.2.1
  have hts := X.2.2.2.2.2.2.1
  have hK := X.2.2.2.2.2.2.2.2.1
  rw [hpre.1, hpre.2] at I
  clear hpre
  have hF := hg
  unfold w_Walker_range at hF
  clear h z
  refine lv_lconst (v := (1 : Int64)) hx hb d145_0 (by decide) ?_
  refine lv_iload_n hx hb d145_1 rfl (lv_at hl 1 rfl) ?_
  refine lv_lshl (v := ((1 : Int64) <<< (y1.toInt64 &&& 63))) hx hb d145_2 rfl ?_
  refine lv_lconst (v := (1 : Int64)) hx hb d145_3 (by decide) ?_
  refine lv_iload_n hx hb d145_4 rfl (lv_at hl 0 rfl) ?_
  refine lv_lshl (v := ((1 : Int64) <<< (y0.toInt64 &&& 63))) hx hb d145_5 rfl ?_
  refine lv_lsub hx hb d145_6 ?_
  exact ht_lret X d145_7 I (Nat.le_of_ble_eq_true rfl) (Nat.le_of_ble_eq_true rfl) ⟨_, rfl, hF⟩
