theorem ms_k3 : (Jvm.Cond.initialized "java/lang/StringBuilder") ∈ ms_tb := ms_i1 3 (by decide +kernel) (by decide +kernel)
theorem ms_k10 : (Jvm.Cond.initialized "java/util/Arrays") ∈ ms_tb := ms_i1 10 (by decide +kernel) (by decide +kernel)
theorem ms_k37 : (Jvm.Cond.instanceMethod ({ cls := "java/lang/Object", name := "<init>", desc := "()V" } : Jvm.MethodName)) ∈ ms_tb := ms_i1 37 (by decide +kernel) (by decide +kernel)
theorem ms_k38 : (Jvm.Cond.code ({ cls := "java/lang/Object", name := "<init>", desc := "()V" } : Jvm.MethodName) object_method_1_code (1 : Nat) (Option.none : Option Jvm.ClassFile.FieldType)) ∈ ms_tb := ms_i1 38 (by decide +kernel) (by decide +kernel)
theorem ms_k59 : (Jvm.Cond.fieldLink "java/lang/AbstractStringBuilder" (73 : Nat) "java/lang/AbstractStringBuilder" "maybeLatin1" "Z") ∈ ms_tb := ms_i1 59 (by decide +kernel) (by decide +kernel)
theorem ms_k130 : (Jvm.Cond.instanceMethod ({ cls := "java/lang/StringBuilder", name := "length", desc := "()I" } : Jvm.MethodName)) ∈ ms_tb := ms_i1 130 (by decide +kernel) (by decide +kernel)
theorem ms_k132 : (Jvm.Cond.code ({ cls := "java/lang/StringBuilder", name := "length", desc := "()I" } : Jvm.MethodName) prog_24_method_93_code (1 : Nat) (Option.some Jvm.ClassFile.FieldType.int)) ∈ ms_tb := ms_i1 132 (by decide +kernel) (by decide +kernel)
theorem ms_k140 : (Jvm.Cond.methodLink "java/lang/StringBuilder" (50 : Nat) ({ cls := "java/lang/AbstractStringBuilder", name := "append", desc := "(C)Ljava/lang/AbstractStringBuilder;" } : Jvm.MethodName)) ∈ ms_tb := ms_i1 140 (by decide +kernel) (by decide +kernel)
theorem ms_k141 : (Jvm.Cond.instanceMethod ({ cls := "java/lang/AbstractStringBuilder", name := "append", desc := "(C)Ljava/lang/AbstractStringBuilder;" } : Jvm.MethodName)) ∈ ms_tb := ms_i1 141 (by decide +kernel) (by decide +kernel)
theorem ms_k142 : (Jvm.Cond.code ({ cls := "java/lang/AbstractStringBuilder", name := "append", desc := "(C)Ljava/lang/AbstractStringBuilder;" } : Jvm.MethodName) prog_16_method_31_code (2 : Nat) (Option.some (Jvm.ClassFile.FieldType.object "java/lang/AbstractStringBuilder"))) ∈ ms_tb := ms_i1 142 (by decide +kernel) (by decide +kernel)
theorem ms_k143 : (Jvm.Cond.methodLink "java/lang/AbstractStringBuilder" (100 : Nat) ({ cls := "java/lang/AbstractStringBuilder", name := "ensureCapacityInternal", desc := "(I)V" } : Jvm.MethodName)) ∈ ms_tb := ms_i1 143 (by decide +kernel) (by decide +kernel)
theorem ms_k145 : (Jvm.Cond.instanceMethod ({ cls := "java/lang/AbstractStringBuilder", name := "ensureCapacityInternal", desc := "(I)V" } : Jvm.MethodName)) ∈ ms_tb := ms_i1 145 (by decide +kernel) (by decide +kernel)
theorem ms_k146 : (Jvm.Cond.code ({ cls := "java/lang/AbstractStringBuilder", name := "ensureCapacityInternal", desc := "(I)V" } : Jvm.MethodName) prog_16_method_9_code (3 : Nat) (Option.none : Option Jvm.ClassFile.FieldType)) ∈ ms_tb := ms_i1 146 (by decide +kernel) (by decide +kernel)
theorem ms_k147 : (Jvm.Cond.methodLink "java/lang/AbstractStringBuilder" (104 : Nat) ({ cls := "java/lang/AbstractStringBuilder", name := "newCapacity", desc := "(I)I" } : Jvm.MethodName)) ∈ ms_tb := ms_i1 147 (by decide +kernel) (by decide +kernel)
theorem ms_k149 : (Jvm.Cond.instanceMethod ({ cls := "java/lang/AbstractStringBuilder", name := "newCapacity", desc := "(I)I" } : Jvm.MethodName)) ∈ ms_tb := ms_i1 149 (by decide +kernel) (by decide +kernel)
theorem ms_k150 : (Jvm.Cond.code ({ cls := "java/lang/AbstractStringBuilder", name := "newCapacity", desc := "(I)I" } : Jvm.MethodName) prog_16_method_10_code (6 : Nat) (Option.some Jvm.ClassFile.FieldType.int)) ∈ ms_tb := ms_i1 150 (by decide +kernel) (by decide +kernel)
theorem ms_k162 : (Jvm.Cond.methodLink "java/lang/AbstractStringBuilder" (108 : Nat) ({ cls := "java/util/Arrays", name := "copyOf", desc := "([BI)[B" } : Jvm.MethodName)) ∈ ms_tb := ms_i1 162 (by decide +kernel) (by decide +kernel)
theorem ms_k163 : (Jvm.Cond.static ({ cls := "java/util/Arrays", name := "copyOf", desc := "([BI)[B" } : Jvm.MethodName)) ∈ ms_tb := ms_i1 163 (by decide +kernel) (by decide +kernel)
theorem ms_k164 : (Jvm.Cond.code ({ cls := "java/util/Arrays", name := "copyOf", desc := "([BI)[B" } : Jvm.MethodName) prog_31_method_121_code (3 : Nat) (Option.some (Jvm.ClassFile.FieldType.array Jvm.ClassFile.FieldType.byte))) ∈ ms_tb := ms_i1 164 (by decide +kernel) (by decide +kernel)
theorem ms_k165 : (Jvm.Cond.methodLink "java/util/Arrays" (310 : Nat) ({ cls := "[B", name := "clone", desc := "()Ljava/lang/Object;" } : Jvm.MethodName)) ∈ ms_tb := ms_i1 165 (by decide +kernel) (by decide +kernel)
theorem ms_k166 : (Jvm.Cond.sameMethod "[B" "java/lang/Object" "clone" "()Ljava/lang/Object;") ∈ ms_tb := ms_i1 166 (by decide +kernel) (by decide +kernel)
theorem ms_k167 : (Jvm.Cond.native ({ cls := "java/lang/Object", name := "clone", desc := "()Ljava/lang/Object;" } : Jvm.MethodName)) ∈ ms_tb := ms_i1 167 (by decide +kernel) (by decide +kernel)
theorem ms_k168 : (Jvm.Cond.instanceMethod ({ cls := "java/lang/Object", name := "clone", desc := "()Ljava/lang/Object;" } : Jvm.MethodName)) ∈ ms_tb := ms_i1 168 (by decide +kernel) (by decide +kernel)
theorem ms_k169 : (Jvm.Cond.selects "[B" ({ cls := "[B", name := "clone", desc := "()Ljava/lang/Object;" } : Jvm.MethodName) ({ cls := "java/lang/Object", name := "clone", desc := "()Ljava/lang/Object;" } : Jvm.MethodName)) ∈ ms_tb := ms_i1 169 (by decide +kernel) (by decide +kernel)
theorem ms_k171 : (Jvm.Cond.classLink "java/util/Arrays" (311 : Nat) "[B") ∈ ms_tb := ms_i1 171 (by decide +kernel) (by decide +kernel)
theorem ms_k178 : (Jvm.Cond.methodLink "java/lang/AbstractStringBuilder" (83 : Nat) ({ cls := "java/lang/AbstractStringBuilder", name := "isLatin1", desc := "()Z" } : Jvm.MethodName)) ∈ ms_tb := ms_i1 178 (by decide +kernel) (by decide +kernel)
theorem ms_k179 : (Jvm.Cond.instanceMethod ({ cls := "java/lang/AbstractStringBuilder", name := "isLatin1", desc := "()Z" } : Jvm.MethodName)) ∈ ms_tb := ms_i1 179 (by decide +kernel) (by decide +kernel)
theorem ms_k180 : (Jvm.Cond.sameMethod "java/lang/AbstractStringBuilder" "java/lang/AbstractStringBuilder" "isLatin1" "()Z") ∈ ms_tb := ms_i1 180 (by decide +kernel) (by decide +kernel)
theorem ms_k181 : (Jvm.Cond.selects "java/lang/StringBuilder" ({ cls := "java/lang/AbstractStringBuilder", name := "isLatin1", desc := "()Z" } : Jvm.MethodName) ({ cls := "java/lang/AbstractStringBuilder", name := "isLatin1", desc := "()Z" } : Jvm.MethodName)) ∈ ms_tb := ms_i1 181 (by decide +kernel) (by decide +kernel)
theorem ms_k182 : (Jvm.Cond.code ({ cls := "java/lang/AbstractStringBuilder", name := "isLatin1", desc := "()Z" } : Jvm.MethodName) prog_16_method_68_code (1 : Nat) (Option.some Jvm.ClassFile.FieldType.boolean)) ∈ ms_tb := ms_i1 182 (by decide +kernel) (by decide +kernel)
theorem ms_k183 : (Jvm.Cond.methodLink "java/lang/AbstractStringBuilder" (191 : Nat) ({ cls := "java/lang/StringLatin1", name := "canEncode", desc := "(C)Z" } : Jvm.MethodName)) ∈ ms_tb := ms_i1 183 (by decide +kernel) (by decide +kernel)
theorem ms_k184 : (Jvm.Cond.static ({ cls := "java/lang/StringLatin1", name := "canEncode", desc := "(C)Z" } : Jvm.MethodName)) ∈ ms_tb := ms_i1 184 (by decide +kernel) (by decide +kernel)
theorem ms_k185 : (Jvm.Cond.code ({ cls := "java/lang/StringLatin1", name := "canEncode", desc := "(C)Z" } : Jvm.MethodName) prog_25_method_3_code (1 : Nat) (Option.some Jvm.ClassFile.FieldType.boolean)) ∈ ms_tb := ms_i1 185 (by decide +kernel) (by decide +kernel)
theorem ms_k245 : (Jvm.Cond.classLink "java/lang/StringBuilder" (18 : Nat) "java/lang/String") ∈ ms_tb := ms_i2 5 (by decide +kernel) (by decide +kernel)
theorem ms_k246 : (Jvm.Cond.instantiable "java/lang/String" (4 : Nat)) ∈ ms_tb := ms_i2 6 (by decide +kernel) (by decide +kernel)
theorem ms_k247 : (Jvm.Cond.methodLink "java/lang/StringBuilder" (137 : Nat) ({ cls := "java/lang/String", name := "<init>", desc := "(Ljava/lang/StringBuilder;)V" } : Jvm.MethodName)) ∈ ms_tb := ms_i2 7 (by decide +kernel) (by decide +kernel)
theorem ms_k248 : (Jvm.Cond.instanceMethod ({ cls := "java/lang/String", name := "<init>", desc := "(Ljava/lang/StringBuilder;)V" } : Jvm.MethodName)) ∈ ms_tb := ms_i2 8 (by decide +kernel) (by decide +kernel)
theorem ms_k249 : (Jvm.Cond.code ({ cls := "java/lang/String", name := "<init>", desc := "(Ljava/lang/StringBuilder;)V" } : Jvm.MethodName) prog_23_method_53_code (2 : Nat) (Option.none : Option Jvm.ClassFile.FieldType)) ∈ ms_tb := ms_i2 9 (by decide +kernel) (by decide +kernel)
theorem ms_k250 : (Jvm.Cond.methodLink "java/lang/String" (489 : Nat) ({ cls := "java/lang/String", name := "<init>", desc := "(Ljava/lang/AbstractStringBuilder;Ljava/lang/Void;)V" } : Jvm.MethodName)) ∈ ms_tb := ms_i2 10 (by decide +kernel) (by decide +kernel)
theorem ms_k251 : (Jvm.Cond.instanceMethod ({ cls := "java/lang/String", name := "<init>", desc := "(Ljava/lang/AbstractStringBuilder;Ljava/lang/Void;)V" } : Jvm.MethodName)) ∈ ms_tb := ms_i2 11 (by decide +kernel) (by decide +kernel)
theorem ms_k252 : (Jvm.Cond.code ({ cls := "java/lang/String", name := "<init>", desc := "(Ljava/lang/AbstractStringBuilder;Ljava/lang/Void;)V" } : Jvm.MethodName) prog_23_method_150_code (5 : Nat) (Option.none : Option Jvm.ClassFile.FieldType)) ∈ ms_tb := ms_i2 12 (by decide +kernel) (by decide +kernel)
theorem ms_k253 : (Jvm.Cond.methodLink "java/lang/String" (1 : Nat) ({ cls := "java/lang/Object", name := "<init>", desc := "()V" } : Jvm.MethodName)) ∈ ms_tb := ms_i2 13 (by decide +kernel) (by decide +kernel)
theorem ms_k254 : (Jvm.Cond.methodLink "java/lang/String" (552 : Nat) ({ cls := "java/lang/AbstractStringBuilder", name := "getValue", desc := "()[B" } : Jvm.MethodName)) ∈ ms_tb := ms_i2 14 (by decide +kernel) (by decide +kernel)
theorem ms_k255 : (Jvm.Cond.instanceMethod ({ cls := "java/lang/AbstractStringBuilder", name := "getValue", desc := "()[B" } : Jvm.MethodName)) ∈ ms_tb := ms_i2 15 (by decide +kernel) (by decide +kernel)
theorem ms_k256 : (Jvm.Cond.sameMethod "java/lang/AbstractStringBuilder" "java/lang/AbstractStringBuilder" "getValue" "()[B") ∈ ms_tb := ms_i2 16 (by decide +kernel) (by decide +kernel)
theorem ms_k257 : (Jvm.Cond.selects "java/lang/StringBuilder" ({ cls := "java/lang/AbstractStringBuilder", name := "getValue", desc := "()[B" } : Jvm.MethodName) ({ cls := "java/lang/AbstractStringBuilder", name := "getValue", desc := "()[B" } : Jvm.MethodName)) ∈ ms_tb := ms_i2 17 (by decide +kernel) (by decide +kernel)
theorem ms_k258 : (Jvm.Cond.code ({ cls := "java/lang/AbstractStringBuilder", name := "getValue", desc := "()[B" } : Jvm.MethodName) prog_16_method_64_code (1 : Nat) (Option.some (Jvm.ClassFile.FieldType.array Jvm.ClassFile.FieldType.byte))) ∈ ms_tb := ms_i2 18 (by decide +kernel) (by decide +kernel)
theorem ms_k259 : (Jvm.Cond.methodLink "java/lang/String" (549 : Nat) ({ cls := "java/lang/AbstractStringBuilder", name := "length", desc := "()I" } : Jvm.MethodName)) ∈ ms_tb := ms_i2 19 (by decide +kernel) (by decide +kernel)
theorem ms_k260 : (Jvm.Cond.methodLink "java/lang/String" (1047 : Nat) ({ cls := "java/lang/AbstractStringBuilder", name := "isLatin1", desc := "()Z" } : Jvm.MethodName)) ∈ ms_tb := ms_i2 20 (by decide +kernel) (by decide +kernel)
theorem ms_k261 : (Jvm.Cond.methodLink "java/lang/String" (54 : Nat) ({ cls := "java/util/Arrays", name := "copyOfRange", desc := "([BII)[B" } : Jvm.MethodName)) ∈ ms_tb := ms_i2 21 (by decide +kernel) (by decide +kernel)
theorem ms_k262 : (Jvm.Cond.static ({ cls := "java/util/Arrays", name := "copyOfRange", desc := "([BII)[B" } : Jvm.MethodName)) ∈ ms_tb := ms_i2 22 (by decide +kernel) (by decide +kernel)
theorem ms_k263 : (Jvm.Cond.code ({ cls := "java/util/Arrays", name := "copyOfRange", desc := "([BII)[B" } : Jvm.MethodName) prog_31_method_132_code (3 : Nat) (Option.some (Jvm.ClassFile.FieldType.array Jvm.ClassFile.FieldType.byte))) ∈ ms_tb := ms_i2 23 (by decide +kernel) (by decide +kernel)
theorem ms_k264 : (Jvm.Cond.methodLink "java/util/Arrays" (339 : Nat) ({ cls := "java/util/Arrays", name := "copyOfRangeByte", desc := "([BII)[B" } : Jvm.MethodName)) ∈ ms_tb := ms_i2 24 (by decide +kernel) (by decide +kernel)
theorem ms_k265 : (Jvm.Cond.static ({ cls := "java/util/Arrays", name := "copyOfRangeByte", desc := "([BII)[B" } : Jvm.MethodName)) ∈ ms_tb := ms_i2 25 (by decide +kernel) (by decide +kernel)
theorem ms_k266 : (Jvm.Cond.code ({ cls := "java/util/Arrays", name := "copyOfRangeByte", desc := "([BII)[B" } : Jvm.MethodName) prog_31_method_133_code (5 : Nat) (Option.some (Jvm.ClassFile.FieldType.array Jvm.ClassFile.FieldType.byte))) ∈ ms_tb := ms_i2 26 (by decide +kernel) (by decide +kernel)
theorem ms_k267 : (Jvm.Cond.methodLink "java/util/Arrays" (343 : Nat) ({ cls := "java/util/Arrays", name := "checkLength", desc := "(II)V" } : Jvm.MethodName)) ∈ ms_tb := ms_i2 27 (by decide +kernel) (by decide +kernel)
theorem ms_k268 : (Jvm.Cond.static ({ cls := "java/util/Arrays", name := "checkLength", desc := "(II)V" } : Jvm.MethodName)) ∈ ms_tb := ms_i2 28 (by decide +kernel) (by decide +kernel)
theorem ms_k269 : (Jvm.Cond.code ({ cls := "java/util/Arrays", name := "checkLength", desc := "(II)V" } : Jvm.MethodName) prog_31_method_131_code (2 : Nat) (Option.none : Option Jvm.ClassFile.FieldType)) ∈ ms_tb := ms_i2 29 (by decide +kernel) (by decide +kernel)
theorem ms_k299 : (Jvm.Cond.methodLink "java/lang/StringBuilder" (333 : Nat) ({ cls := "java/lang/AbstractStringBuilder", name := "setLength", desc := "(I)V" } : Jvm.MethodName)) ∈ ms_tb := ms_i2 59 (by decide +kernel) (by decide +kernel)
theorem ms_k300 : (Jvm.Cond.instanceMethod ({ cls := "java/lang/AbstractStringBuilder", name := "setLength", desc := "(I)V" } : Jvm.MethodName)) ∈ ms_tb := ms_i2 60 (by decide +kernel) (by decide +kernel)
theorem ms_k301 : (Jvm.Cond.code ({ cls := "java/lang/AbstractStringBuilder", name := "setLength", desc := "(I)V" } : Jvm.MethodName) prog_16_method_13_code (2 : Nat) (Option.none : Option Jvm.ClassFile.FieldType)) ∈ ms_tb := ms_i2 61 (by decide +kernel) (by decide +kernel)
theorem ms_k1833 : (Jvm.Cond.sameMethod "java/lang/AbstractStringBuilder" "java/lang/AbstractStringBuilder" "append" "(C)Ljava/lang/AbstractStringBuilder;") ∈ ms_tb := ms_i8 153 (by decide +kernel) (by decide +kernel)
theorem ms_k1834 : (Jvm.Cond.sameMethod "java/lang/AbstractStringBuilder" "java/lang/AbstractStringBuilder" "ensureCapacityInternal" "(I)V") ∈ ms_tb := ms_i8 154 (by decide +kernel) (by decide +kernel)
theorem ms_k1835 : (Jvm.Cond.sameMethod "java/lang/AbstractStringBuilder" "java/lang/AbstractStringBuilder" "newCapacity" "(I)I") ∈ ms_tb := ms_i8 155 (by decide +kernel) (by decide +kernel)
theorem ms_k1837 : (Jvm.Cond.selects "java/lang/StringBuilder" ({ cls := "java/lang/AbstractStringBuilder", name := "length", desc := "()I" } : Jvm.MethodName) ({ cls := "java/lang/StringBuilder", name := "length", desc := "()I" } : Jvm.MethodName)) ∈ ms_tb := ms_i8 157 (by decide +kernel) (by decide +kernel)
theorem ms_k1838 : (Jvm.Cond.sameMethod "java/lang/AbstractStringBuilder" "java/lang/AbstractStringBuilder" "setLength" "(I)V") ∈ ms_tb := ms_i8 158 (by decide +kernel) (by decide +kernel)
abbrev bM17 : ByteArray := prog_16_method_31_code
def yM17 : MethodName := ⟨"java/lang/AbstractStringBuilder", "append", "(C)Ljava/lang/AbstractStringBuilder;"⟩
abbrev bM18 : ByteArray := prog_24_method_14_code
def yM18 : MethodName := ⟨"java/lang/StringBuilder", "append", "(C)Ljava/lang/StringBuilder;"⟩
abbrev bM19 : ByteArray := prog_16_method_13_code
def yM19 : MethodName := ⟨"java/lang/AbstractStringBuilder", "setLength", "(I)V"⟩
abbrev bM20 : ByteArray := prog_24_method_89_code
def yM20 : MethodName := ⟨"java/lang/StringBuilder", "setLength", "(I)V"⟩
abbrev bM21 : ByteArray := prog_31_method_131_code
def yM21 : MethodName := ⟨"java/util/Arrays", "checkLength", "(II)V"⟩
abbrev bM22 : ByteArray := prog_31_method_133_code
def yM22 : MethodName := ⟨"java/util/Arrays", "copyOfRangeByte", "([BII)[B"⟩
abbrev bM23 : ByteArray := prog_31_method_132_code
def yM23 : MethodName := ⟨"java/util/Arrays", "copyOfRange", "([BII)[B"⟩
abbrev bM24 : ByteArray := prog_23_method_150_code
def yM24 : MethodName := ⟨"java/lang/String", "<init>", "(Ljava/lang/AbstractStringBuilder;Ljava/lang/Void;)V"⟩
abbrev bM25 : ByteArray := prog_23_method_53_code
def yM25 : MethodName := ⟨"java/lang/String", "<init>", "(Ljava/lang/StringBuilder;)V"⟩
abbrev bM26 : ByteArray := prog_24_method_42_code
def yM26 : MethodName := ⟨"java/lang/StringBuilder", "toString", "()Ljava/lang/String;"⟩
theorem d5_17 : decode bM5 17 = .ok (.aload_n 0, 1) := by decide +kernel
theorem d5_18 : decode bM5 18 = .ok (.aload_n 0, 1) := by decide +kernel
theorem d5_19 : decode bM5 19 = .ok (.getfield 15, 3) := by decide +kernel
theorem d5_22 : decode bM5 22 = .ok (.aload_n 0, 1) := by decide +kernel
theorem d5_23 : decode bM5 23 = .ok (.iload_n 1, 1) := by decide +kernel
theorem d5_24 : decode bM5 24 = .ok (.invokevirtual 104, 3) := by decide +kernel
theorem d5_27 : decode bM5 27 = .ok (.aload_n 0, 1) := by decide +kernel
theorem d5_28 : decode bM5 28 = .ok (.getfield 22, 3) := by decide +kernel
theorem d5_31 : decode bM5 31 = .ok (.ishl, 1) := by decide +kernel
theorem d5_32 : decode bM5 32 = .ok (.invokestatic 108, 3) := by decide +kernel
theorem d5_35 : decode bM5 35 = .ok (.putfield 15, 3) := by decide +kernel
theorem d17_0 : decode bM17 0 = .ok (.aload_n 0, 1) := by decide +kernel
theorem d17_1 : decode bM17 1 = .ok (.aload_n 0, 1) := by decide +kernel
theorem d17_2 : decode bM17 2 = .ok (.getfield 79, 3) := by decide +kernel
theorem d17_5 : decode bM17 5 = .ok (.iconst 1, 1) := by decide +kernel
theorem d17_6 : decode bM17 6 = .ok (.iadd, 1) := by decide +kernel
theorem d17_7 : decode bM17 7 = .ok (.invokevirtual 100, 3) := by decide +kernel
theorem d17_10 : decode bM17 10 = .ok (.aload_n 0, 1) := by decide +kernel
theorem d17_11 : decode bM17 11 = .ok (.invokevirtual 83, 3) := by decide +kernel
theorem d17_14 : decode bM17 14 = .ok (.ifCond .eq 31, 3) := by decide +kernel
theorem d17_17 : decode bM17 17 = .ok (.iload_n 1, 1) := by decide +kernel
theorem d17_18 : decode bM17 18 = .ok (.invokestatic 191, 3) := by decide +kernel
theorem d17_21 : decode bM17 21 = .ok (.ifCond .eq 24, 3) := by decide +kernel
theorem d17_24 : decode bM17 24 = .ok (.aload_n 0, 1) := by decide +kernel
theorem d17_25 : decode bM17 25 = .ok (.getfield 15, 3) := by decide +kernel
theorem d17_28 : decode bM17 28 = .ok (.aload_n 0, 1) := by decide +kernel
theorem d17_29 : decode bM17 29 = .ok (.dup, 1) := by decide +kernel
theorem d17_30 : decode bM17 30 = .ok (.getfield 79, 3) := by decide +kernel
theorem d17_33 : decode bM17 33 = .ok (.dup_x1, 1) := by decide +kernel
theorem d17_34 : decode bM17 34 = .ok (.iconst 1, 1) := by decide +kernel
theorem d17_35 : decode bM17 35 = .ok (.iadd, 1) := by decide +kernel
theorem d17_36 : decode bM17 36 = .ok (.putfield 79, 3) := by decide +kernel
theorem d17_39 : decode bM17 39 = .ok (.iload_n 1, 1) := by decide +kernel
theorem d17_40 : decode bM17 40 = .ok (.i2b, 1) := by decide +kernel
theorem d17_41 : decode bM17 41 = .ok (.bastore, 1) := by decide +kernel
theorem d17_42 : decode bM17 42 = .ok (.goto 33, 3) := by decide +kernel
theorem d17_75 : decode bM17 75 = .ok (.aload_n 0, 1) := by decide +kernel
theorem d17_76 : decode bM17 76 = .ok (.areturn, 1) := by decide +kernel
theorem d18_0 : decode bM18 0 = .ok (.aload_n 0, 1) := by decide +kernel
theorem d18_1 : decode bM18 1 = .ok (.iload_n 1, 1) := by decide +kernel
theorem d18_2 : decode bM18 2 = .ok (.invokespecial 50, 3) := by decide +kernel
theorem d18_5 : decode bM18 5 = .ok (.pop, 1) := by decide +kernel
theorem d18_6 : decode bM18 6 = .ok (.aload_n 0, 1) := by decide +kernel
theorem d18_7 : decode bM18 7 = .ok (.areturn, 1) := by decide +kernel
theorem d19_0 : decode bM19 0 = .ok (.iload_n 1, 1) := by decide +kernel
theorem d19_1 : decode bM19 1 = .ok (.ifCond .ge 12, 3) := by decide +kernel
theorem d19_13 : decode bM19 13 = .ok (.aload_n 0, 1) := by decide +kernel
theorem d19_14 : decode bM19 14 = .ok (.iload_n 1, 1) := by decide +kernel
theorem d19_15 : decode bM19 15 = .ok (.invokevirtual 100, 3) := by decide +kernel
theorem d19_18 : decode bM19 18 = .ok (.aload_n 0, 1) := by decide +kernel
theorem d19_19 : decode bM19 19 = .ok (.getfield 79, 3) := by decide +kernel
theorem d19_22 : decode bM19 22 = .ok (.iload_n 1, 1) := by decide +kernel
theorem d19_23 : decode bM19 23 = .ok (.if_icmp .ge 40, 3) := by decide +kernel
theorem d19_63 : decode bM19 63 = .ok (.aload_n 0, 1) := by decide +kernel
theorem d19_64 : decode bM19 64 = .ok (.getfield 79, 3) := by decide +kernel
theorem d19_67 : decode bM19 67 = .ok (.iload_n 1, 1) := by decide +kernel
theorem d19_68 : decode bM19 68 = .ok (.if_icmp .le 8, 3) := by decide +kernel
theorem d19_71 : decode bM19 71 = .ok (.aload_n 0, 1) := by decide +kernel
theorem d19_72 : decode bM19 72 = .ok (.iconst 1, 1) := by decide +kernel
theorem d19_73 : decode bM19 73 = .ok (.putfield 73, 3) := by decide +kernel
theorem d19_76 : decode bM19 76 = .ok (.aload_n 0, 1) := by decide +kernel
theorem d19_77 : decode bM19 77 = .ok (.iload_n 1, 1) := by decide +kernel
theorem d19_78 : decode bM19 78 = .ok (.putfield 79, 3) := by decide +kernel
theorem d19_81 : decode bM19 81 = .ok (.return_, 1) := by decide +kernel
theorem d20_0 : decode bM20 0 = .ok (.aload_n 0, 1) := by decide +kernel
theorem d20_1 : decode bM20 1 = .ok (.iload_n 1, 1) := by decide +kernel
theorem d20_2 : decode bM20 2 = .ok (.invokespecial 333, 3) := by decide +kernel
theorem d20_5 : decode bM20 5 = .ok (.return_, 1) := by decide +kernel
theorem d21_0 : decode bM21 0 = .ok (.iload_n 1, 1) := by decide +kernel
theorem d21_1 : decode bM21 1 = .ok (.iload_n 0, 1) := by decide +kernel
theorem d21_2 : decode bM21 2 = .ok (.if_icmp .ge 35, 3) := by decide +kernel
theorem d21_37 : decode bM21 37 = .ok (.return_, 1) := by decide +kernel
theorem d22_0 : decode bM22 0 = .ok (.iload_n 1, 1) := by decide +kernel
theorem d22_1 : decode bM22 1 = .ok (.iload_n 2, 1) := by decide +kernel
theorem d22_2 : decode bM22 2 = .ok (.invokestatic 343, 3) := by decide +kernel
theorem d22_5 : decode bM22 5 = .ok (.iload_n 2, 1) := by decide +kernel
theorem d22_6 : decode bM22 6 = .ok (.iload_n 1, 1) := by decide +kernel
theorem d22_7 : decode bM22 7 = .ok (.isub, 1) := by decide +kernel
theorem d22_8 : decode bM22 8 = .ok (.istore_n 3, 1) := by decide +kernel
theorem d22_9 : decode bM22 9 = .ok (.iload_n 3, 1) := by decide +kernel
theorem d22_10 : decode bM22 10 = .ok (.newarray .byte, 2) := by decide +kernel
theorem d22_12 : decode bM22 12 = .ok (.astore 4, 2) := by decide +kernel
theorem d22_14 : decode bM22 14 = .ok (.aload_n 0, 1) := by decide +kernel
theorem d22_15 : decode bM22 15 = .ok (.iload_n 1, 1) := by decide +kernel
theorem d22_16 : decode bM22 16 = .ok (.aload 4, 2) := by decide +kernel
theorem d22_18 : decode bM22 18 = .ok (.iconst 0, 1) := by decide +kernel
theorem d22_19 : decode bM22 19 = .ok (.aload_n 0, 1) := by decide +kernel
theorem d22_20 : decode bM22 20 = .ok (.arraylength, 1) := by decide +kernel
theorem d22_21 : decode bM22 21 = .ok (.iload_n 1, 1) := by decide +kernel
theorem d22_22 : decode bM22 22 = .ok (.isub, 1) := by decide +kernel
theorem d22_23 : decode bM22 23 = .ok (.iload_n 3, 1) := by decide +kernel
theorem d22_24 : decode bM22 24 = .ok (.invokestatic 304, 3) := by decide +kernel
theorem d22_27 : decode bM22 27 = .ok (.invokestatic 150, 3) := by decide +kernel
theorem d22_30 : decode bM22 30 = .ok (.aload 4, 2) := by decide +kernel
theorem d22_32 : decode bM22 32 = .ok (.areturn, 1) := by decide +kernel
theorem d23_0 : decode bM23 0 = .ok (.iload_n 1, 1) := by decide +kernel
theorem d23_1 : decode bM23 1 = .ok (.ifCond .ne 9, 3) := by decide +kernel
theorem d23_4 : decode bM23 4 = .ok (.iload_n 2, 1) := by decide +kernel
theorem d23_5 : decode bM23 5 = .ok (.aload_n 0, 1) := by decide +kernel
theorem d23_6 : decode bM23 6 = .ok (.arraylength, 1) := by decide +kernel
theorem d23_7 : decode bM23 7 = .ok (.if_icmp .eq 10, 3) := by decide +kernel
theorem d23_10 : decode bM23 10 = .ok (.aload_n 0, 1) := by decide +kernel
theorem d23_11 : decode bM23 11 = .ok (.iload_n 1, 1) := by decide +kernel
theorem d23_12 : decode bM23 12 = .ok (.iload_n 2, 1) := by decide +kernel
theorem d23_13 : decode bM23 13 = .ok (.invokestatic 339, 3) := by decide +kernel
theorem d23_16 : decode bM23 16 = .ok (.areturn, 1) := by decide +kernel
theorem d23_17 : decode bM23 17 = .ok (.aload_n 0, 1) := by decide +kernel
theorem d23_18 : decode bM23 18 = .ok (.invokevirtual 310, 3) := by decide +kernel
theorem d23_21 : decode bM23 21 = .ok (.checkcast 311, 3) := by decide +kernel
theorem d23_24 : decode bM23 24 = .ok (.areturn, 1) := by decide +kernel
theorem d24_0 : decode bM24 0 = .ok (.aload_n 0, 1) := by decide +kernel
theorem d24_1 : decode bM24 1 = .ok (.invokespecial 1, 3) := by decide +kernel
theorem d24_4 : decode bM24 4 = .ok (.aload_n 1, 1) := by decide +kernel
theorem d24_5 : decode bM24 5 = .ok (.invokevirtual 552, 3) := by decide +kernel
theorem d24_8 : decode bM24 8 = .ok (.astore_n 3, 1) := by decide +kernel
theorem d24_9 : decode bM24 9 = .ok (.aload_n 1, 1) := by decide +kernel
theorem d24_10 : decode bM24 10 = .ok (.invokevirtual 549, 3) := by decide +kernel
theorem d24_13 : decode bM24 13 = .ok (.istore 4, 2) := by decide +kernel
theorem d24_15 : decode bM24 15 = .ok (.aload_n 1, 1) := by decide +kernel
theorem d24_16 : decode bM24 16 = .ok (.invokevirtual 1047, 3) := by decide +kernel
theorem d24_19 : decode bM24 19 = .ok (.ifCond .eq 22, 3) := by decide +kernel
theorem d24_22 : decode bM24 22 = .ok (.aload_n 0, 1) := by decide +kernel
theorem d24_23 : decode bM24 23 = .ok (.iconst 0, 1) := by decide +kernel
theorem d24_24 : decode bM24 24 = .ok (.putfield 15, 3) := by decide +kernel
theorem d24_27 : decode bM24 27 = .ok (.aload_n 0, 1) := by decide +kernel
theorem d24_28 : decode bM24 28 = .ok (.aload_n 3, 1) := by decide +kernel
theorem d24_29 : decode bM24 29 = .ok (.iconst 0, 1) := by decide +kernel
theorem d24_30 : decode bM24 30 = .ok (.iload 4, 2) := by decide +kernel
theorem d24_32 : decode bM24 32 = .ok (.invokestatic 54, 3) := by decide +kernel
theorem d24_35 : decode bM24 35 = .ok (.putfield 9, 3) := by decide +kernel
theorem d24_38 : decode bM24 38 = .ok (.goto 59, 3) := by decide +kernel
theorem d24_97 : decode bM24 97 = .ok (.return_, 1) := by decide +kernel
theorem d25_0 : decode bM25 0 = .ok (.aload_n 0, 1) := by decide +kernel
theorem d25_1 : decode bM25 1 = .ok (.aload_n 1, 1) := by decide +kernel
theorem d25_2 : decode bM25 2 = .ok (.aconst_null, 1) := by decide +kernel
theorem d25_3 : decode bM25 3 = .ok (.invokespecial 489, 3) := by decide +kernel
theorem d25_6 : decode bM25 6 = .ok (.return_, 1) := by decide +kernel
theorem d26_0 : decode bM26 0 = .ok (.new 18, 3) := by decide +kernel
theorem d26_3 : decode bM26 3 = .ok (.dup, 1) := by decide +kernel
theorem d26_4 : decode bM26 4 = .ok (.aload_n 0, 1) := by decide +kernel
theorem d26_5 : decode bM26 5 = .ok (.invokespecial 137, 3) := by decide +kernel
theorem d26_8 : decode bM26 8 = .ok (.areturn, 1) := by decide +kernel
/-- a weaker end -/
theorem ms_C.imp {l : Launch} {D : va_G} {s0 : State} {y : MethodName} {b : ByteArray} {n : Nat} {ret : Option FieldType} {fr lo mc ms : Nat} {as : List Value} {ws : va_W} {R1 R2 : Option Value → va_W → Prop} (hM : ms_C l D s0 y b n ret fr lo mc ms as ws R1) (hi : ∀ v w, R1 v w → R2 v w) : ms_C l D s0 y b n ret fr lo mc ms as ws R2 := by
  intro sz p e ha hc hk s m args below hf happ hpre _
  obtain ⟨k, o, g1, g2, g3, ⟨⟨⟨v, w, ho, hR, hP, hD⟩, hF⟩, hL⟩⟩ := hM sz p e ha hc hk s m args below hf happ hpre trivial
  exact ⟨k, o, g1, g2, g3, ⟨⟨v, w, ho, hi v w hR, hP, hD⟩, hF⟩, hL⟩
/-- how long a builder's bytes may be -/
def tx_n (n : Nat) : Prop := n = 16 ∨ n = 34 ∨ n = 70 ∨ n = 142
theorem tx_n_lt {n : Nat} (h : tx_n n) : 16 ≤ n ∧ n ≤ 142 := by
  rcases h with rfl | rfl | rfl | rfl <;> omega
/-- the bytes g hold the letters xs -/
def tx_b (xs : List Nat) (g : Nat → Int32) : Prop := ∀ i, i < xs.length → g i = nI (xs.getD i 0)
/-- a String that was made, and its bytes, become a text that never changes -/
theorem hm_frz0 {D : va_G} {tys : List (ClassId × FieldType)} {s0 s S1 : State} {args : Array Value} {h : hm_T} {z : hz_T} {H : Heap} {locs : List Loc} {t u : Nat} {v3 v4 : Value} {cB : ClassId} {g : Nat → Int32} {xs : List Nat} (hts : ∀ w ∈ ms_tb, w.before args s = true) (hK : va_K D vwCl tys s) (I : hm_P D h H ∧ (∀ (a : Nat) (e : va_E), h a = some e → s0.heap.size ≤ a) ∧ va_S (fun q => s0.heap.size ≤ q) S1.heap H locs ∧ hz_P s0 s h z H) (c1 : h t = some (.inr (5, [.ref u, .int 0, v3, v4]))) (c2 : h u = some (.inl (cB, xs.length, .inl g))) (k : Nat) (ht : tys[k]? = some (cB, .byte)) (hg : tx_b xs g) :
    ∃ (h1 : hm_T) (z1 : hz_T), (hm_P D h1 H ∧ (∀ (a : Nat) (e : va_E), h1 a = some e → s0.heap.size ≤ a) ∧ va_S (fun q => s0.heap.size ≤ q) S1.heap H locs ∧ hz_P s0 s h1 z1 H) ∧ z1 t = some (u, xs) ∧ (∀ a, a ≠ t → z1 a = z a) ∧ (∀ a, a ≠ t → a ≠ u → h1 a = h a) ∧ h1 t = none ∧ h1 u = none ∧ z t = none := by
  have hzt : z t = none := by
    cases q : z t with
    | none => rfl
    | some x => have := (I.2.2.2.1 t x.1 x.2 q).2.1; rw [c1] at this; cases this
  have hst : st_at s H t u xs := by
    obtain ⟨r, h1, cell, q1, q2, q3, q4⟩ := I.1 t _ c1
    have hr : r = (kR5, kT5, 4) := Option.some.inj (h1.symm.trans rfl)
    subst hr
    obtain ⟨hS, hfc, kC, hkC, hkind⟩ := hK.1 5 _ rfl
    refine ⟨⟨cell, q1, by rw [q3]; rfl, by rw [q2]; exact hfc, fun h => h⟩, ?_, ?_, ?_⟩
    · obtain ⟨cf, kf, fi, f, hi, hsl⟩ := hS 1 (by decide)
      exact ⟨cf, kf, fi, f, cell, hi, (u_facts hfc hkC (u_lays hts ku5 (by decide)) hi).1, q1, (by rw [q3]; exact fun h => by cases h), by rw [hsl, q4 1 (by decide)]; rfl, fun h => h⟩
    · obtain ⟨cf, kf, fi, f, hi, hsl⟩ := hS 0 (by decide)
      exact ⟨cf, kf, fi, f, cell, hi, (u_facts hfc hkC (u_lays hts ku5 (by decide)) hi).1, q1, (by rw [q3]; exact fun h => by cases h), by rw [hsl, q4 0 (by decide)]; rfl, fun h => h⟩
    · refine ⟨vp_cell cB (xs.length, .inl g), I.1 u _ c2, (hK.2 k _ ht).1 xs.length (fun j => .int (g j)), (fun h => by cases h), ?_, ?_, fun j hj => ?_, fun h => h⟩
      · show _ ≤ (arrV _ _ _).slots.size; rw [arrV_size]; exact Nat.le_refl _
      · show (arrV _ _ _).slots.size.toInt32 = _; rw [arrV_size]
      · show (arrV _ _ _).slots[j]? = _; rw [arrV_read _ _ hj, hg j hj]
  refine ⟨fun a => if a = t ∨ a = u then none else h a, fun a => if a = t then some (u, xs) else z a, ⟨fun a e ha => ?_, fun a e ha => ?_, I.2.2.1, fun a v ys ha => ?_, fun k q a u hk h1 h2 => ?_⟩, by simp, fun a hn => by simp [hn], fun a h1 h2 => by simp [h1, h2], by simp, by simp, hzt⟩
  · by_cases q : a = t ∨ a = u
    · simp [q] at ha
    · simp only [q, if_false] at ha
      exact I.1 a e ha
  · by_cases q : a = t ∨ a = u
    · simp [q] at ha
    · simp only [q, if_false] at ha
      exact I.2.1 a e ha
  · by_cases q : a = t
    · subst q
      simp at ha
      obtain ⟨rfl, rfl⟩ := ha
      exact ⟨hst, by simp, by simp⟩
    · simp only [q, if_false] at ha
      obtain ⟨g1, g2, g3⟩ := I.2.2.2.1 a v ys ha
      exact ⟨g1, by simp [g2], by simp [g3]⟩
  · have h3 := I.2.2.2.2 k q a u hk h1 h2
    have h4 : a ≠ t := fun e => by rw [e, hzt] at h3; cases h3
    simp only [h4, if_false]
    exact h3
theorem hm_frz {D : va_G} {tys : List (ClassId × FieldType)} {s0 s : State} {p : Program} {m : MethodId} {args : Array Value} {meth : Method} {c : Code} {A : Nat → Prop} {y : MethodName} {b : ByteArray} {n : Nat} {ret : Option FieldType} {h : hm_T} {z : hz_T} {H : Heap} {locs : List Loc} {t u : Nat} {v3 v4 : Value} {cB : ClassId} {g : Nat → Int32} {xs : List Nat} (X : ms_X D tys s0 p s m args meth c A y b n ret) (I : hm_I D s0 s h z H locs) (c1 : h t = some (.inr (5, [.ref u, .int 0, v3, v4]))) (c2 : h u = some (.inl (cB, xs.length, .inl g))) (k : Nat) (ht : tys[k]? = some (cB, .byte)) (hg : tx_b xs g) :
    ∃ (h1 : hm_T) (z1 : hz_T), hm_I D s0 s h1 z1 H locs ∧ z1 t = some (u, xs) ∧ (∀ a, a ≠ t → z1 a = z a) ∧ (∀ a, a ≠ t → a ≠ u → h1 a = h a) ∧ h1 t = none ∧ h1 u = none ∧ z t = none :=
  hm_frz0 (S1 := s) X.2.2.2.2.2.2.1 X.2.2.2.2.2.2.2.2.1 I c1 c2 k ht hg
/-- a method over ws that makes one String of the letters xs and leaves ws as it was: a text is new, the map is the same -/
theorem ms_C.liftZ {l : Launch} {D : va_G} {tys : List (ClassId × FieldType)} {s0 : State} {y : MethodName} {b : ByteArray} {n : Nat} {ret : Option FieldType} {fr lo mc ms : Nat} {as : List Value} {ws : va_W} {Rr : Option Value → va_W → Prop} {cB : ClassId} {xs : List Nat} (hE : ms_E D tys s0) (k : Nat) (ht : tys[k]? = some (cB, .byte)) (hM : ms_C l D s0 y b n ret fr lo mc ms as ws Rr) (hR : ∀ v w, Rr v w → ∃ (t u : Nat) (g : Nat → Int32), v = some (.ref t) ∧ w = ws ++ [(t, .inr (5, [.ref u, .int 0, .int 0, .int 0])), (u, .inl (cB, xs.length, .inl g))] ∧ tx_b xs g) :
    ht_C l D s0 y b n ret fr lo mc ms as (fun h _ => hm_has h ws) (fun h z v h1 z1 => (∀ (a : Nat) (x : va_E), h a = some x → h1 a = some x) ∧ ∃ t u : Nat, v = some (.ref t) ∧ z1 t = some (u, xs) ∧ ∀ (a : Nat) (q : Nat × List Nat), z a = some q → z1 a = some q) := by
  intro h z hh p e ha hc hk s m args below hf happ hpre _
  obtain ⟨j, o, g1, g2, g3, ⟨⟨⟨v, h1, z1, ho, ⟨w, hw, haf, rfl⟩, hP1, hB1, hZ1⟩, hF⟩, L, hL, hLf⟩⟩ := hM.lift h z hh p e ha hc hk s m args below hf happ hpre trivial
  obtain ⟨t, u, g, rfl, rfl, hg⟩ := hR v w hw
  have hB := hpre.2.2.2.2
  have hW := hB.1.trans hL.2.1
  have ct := haf.1 ws.length (t, .inr (5, [.ref u, .int 0, .int 0, .int 0])) (by simp)
  have cu := haf.1 (ws.length + 1) (u, .inl (cB, xs.length, .inl g)) (by simp)
  have ft : h t = none := by
    rcases ct.2 with ⟨i, x, hi⟩ | h0
    · have h9 := haf.2.1 i ws.length (t, x) (t, .inr (5, [.ref u, .int 0, .int 0, .int 0])) (by rw [List.getElem?_append_left (List.getElem?_eq_some_iff.mp hi).1]; exact hi) (by simp) rfl
      have := (List.getElem?_eq_some_iff.mp hi).1
      omega
    · exact h0
  have fu : h u = none := by
    rcases cu.2 with ⟨i, x, hi⟩ | h0
    · have h9 := haf.2.1 i (ws.length + 1) (u, x) (u, .inl (cB, xs.length, .inl g)) (by rw [List.getElem?_append_left (List.getElem?_eq_some_iff.mp hi).1]; exact hi) (by simp) rfl
      have := (List.getElem?_eq_some_iff.mp hi).1
      omega
    · exact h0
  obtain ⟨h3, z3, ⟨i1, i2, -, i4⟩, e1, e2, e3, e4, e5, e6⟩ := hm_frz0 (S1 := s) (locs := []) (args := #[]) (fun w hw => word_at hW (ms_good hw) (hE.1 w hw)) (va_K.moved hW.alike hE.2) ⟨hP1, hB1, ⟨hF.1, hF.2, fun _ h => by cases h⟩, hZ1⟩ ct.1 cu.1 k ht hg
  have hkeep : ∀ a x, h a = some x → h1 a = some x := by
    intro a x hx
    by_cases q : ∃ (j : Nat) (y : Nat × va_E), ws[j]? = some y ∧ y.1 = a
    · obtain ⟨j, y, hj, rfl⟩ := q
      have h8 := (haf.1 j y (by rw [List.getElem?_append_left (List.getElem?_eq_some_iff.mp hj).1]; exact hj)).1
      rw [h8, ← hx, hh.1 j y hj]
    · exact haf.2.2 a x hx (fun j y hj he => q ⟨j, y, hj, he⟩)
  have hall : ∀ (a : Nat) (x : va_E), h a = some x → h3 a = some x := by
    intro a x hx
    rw [e3 a (fun q => by rw [q, ft] at hx; cases hx) (fun q => by rw [q, fu] at hx; cases hx)]
    exact hkeep a x hx
  exact ⟨j, o, g1, g2, g3, ⟨⟨some (.ref t), h3, z3, ho, ⟨hall, t, u, rfl, e1, fun a q hq => by
    by_cases q1 : a = t
    · rw [q1, e6] at hq; cases hq
    · rw [e2 a q1]; exact hq⟩, i1, i2, i4⟩, hF⟩, L, hL, hLf⟩
theorem ms_cfit {cA : ClassId} {n : Nat} {f : Nat → Int32} (hf : sb_Fit f) : ∀ (i : Nat) (v : Value), (vp_cell cA (n, .inl f)).slots[i]? = some v → fits .byte v = true := by
  intro i v hv
  have hv' : (arrV cA n (fun j => .int (f j))).slots[i]? = some v := hv
  have hi : i < n := by
    have := (Array.getElem?_eq_some_iff.mp hv').1
    rw [arrV_size] at this
    exact this
  rw [arrV_read _ _ hi] at hv'
  cases hv'
  exact hf i
theorem ms_bname : "[" ++ FieldType.byte.toString = "[B" := by decide +kernel
theorem ms_fB {D : va_G} {dA : Nat → ClassId} {s : State} (hK : va_K D vwCl (ms_tys dA) s) : s.vm.findClass "[B" = some (dA 2) := by
  have h : s.vm.findClass ("[" ++ FieldType.byte.toString) = some (dA 2) := (hK.2 2 _ rfl).2
  rw [ms_bname] at h
  exact h

set_option maxRecDepth 100000 in
set_option maxHeartbeats 8000000 in
theorem c_ensG16 (l : Launch) (D : va_G) (dA : Nat → ClassId) (s0 : State) (hE : ms_EV D dA s0) (h : Nat) (v : Nat) (j : Nat) (k : Int32) (mb : Int32) (f : Nat → Int32) (h1 : 16 < j) (h2 : j ≤ 34) (hf : sb_Fit f) : ms_C l D s0 yM5 bM5 3 (Option.none : Option Jvm.ClassFile.FieldType) 3 122 1 142 [.ref h, .int (nI j)] [(h, .inr (3, [.ref v, .int 0, .int mb, .int k])), (v, .inl (dA 2, 16, .inl f))] (fun vv ww => ∃ (u : Nat) (g : Nat → Int32), vv = none ∧ (∀ i, i < 16 → g i = f i) ∧ sb_Fit g ∧ ww = [(h, .inr (3, [.ref u, .int 0, .int mb, .int k])), (u, .inl (dA 2, 34, .inl g))]) := by
  refine ms_C.mk hE.1 (by decide) (Nat.le_of_ble_eq_true rfl) [(0, .ref h), (1, .int (nI j))] rfl ?_
  intro p e s m below meth c A ls X hin hP hD hS hl
  have hx := X.1
  have hb := X.2.1
  have hml := X.2.2.1
  have hown : s.vm.findClass "java/lang/AbstractStringBuilder" = some m.cls := X.2.2.2.1
  have hts := X.2.2.2.2.2.2.1
  have hK := X.2.2.2.2.2.2.2.2.1
  have hA := X.2.2.2.2.2.2.2.2.2.2
  refine lv_aload_n hx hb d5_0 rfl (lv_at hl 0 rfl) ?_
  refine va_get (D := D) (ci := 3) (v := .ref v) (C := kR3) (T := kT3) (N := 4) hx hb hts ku3 hown hK hP 0 rfl rfl 0 (by decide) (hts _ ms_k57) (fun _ h => h) rfl d5_1 ?_
  refine va_alen (v := 16) hx hb hK hP 1 2 rfl rfl rfl d5_4 ?_
  refine lv_aload_n hx hb d5_5 rfl (lv_at hl 0 rfl) ?_
  refine va_get (D := D) (ci := 3) (v := .int 0) (C := kR3) (T := kT3) (N := 4) hx hb hts ku3 hown hK hP 0 rfl rfl 1 (by decide) (hts _ ms_k58) (fun _ h => h) rfl d5_6 ?_
  refine lv_ishr hx hb d5_9 ?_
  refine ms_top (y := 16) (by decide) ?_
  refine lv_istore_n hx hb d5_10 rfl hl (by decide) rfl (fun ls hl => ?_)
  have hl : lv_has ls 3 [(2, .int 16), (0, .ref h), (1, .int (nI j))] := hl
  refine lv_iload_n hx hb d5_11 rfl (lv_at hl 2 rfl) ?_
  refine lv_iload_n hx hb d5_12 rfl (lv_at hl 0 rfl) ?_
  refine lv_isub hx hb d5_13 ?_
  refine lv_if_le hx hb d5_14 rfl (fun h9 => absurd h9 (ms_sgt (a := j) (b := 16) (by omega) (by omega) h1)) (fun _ => ?_)
  refine lv_aload_n hx hb d5_17 rfl (lv_at hl 1 rfl) ?_
  refine lv_aload_n hx hb d5_18 rfl (lv_at hl 1 rfl) ?_
  refine va_get (D := D) (ci := 3) (v := .ref v) (C := kR3) (T := kT3) (N := 4) hx hb hts ku3 hown hK hP 0 rfl rfl 0 (by decide) (hts _ ms_k57) (fun _ h => h) rfl d5_19 ?_
  refine lv_aload_n hx hb d5_22 rfl (lv_at hl 1 rfl) ?_
  refine lv_iload_n hx hb d5_23 rfl (lv_at hl 2 rfl) ?_
  refine ms_U (C := "java/lang/StringBuilder") (x := ⟨"java/lang/AbstractStringBuilder", "newCapacity", "(I)I"⟩) (owner := "java/lang/AbstractStringBuilder") (rest := [.ref v, .ref h]) (as := [.int (nI j)]) (wr := []) X hl (c_newCap16 l D dA s0 hE h v j k mb f (h1) (h2)) (List.forall_mem_cons.mpr ⟨ms_k147, List.forall_mem_cons.mpr ⟨ms_k1835, List.forall_mem_cons.mpr ⟨ms_x1, List.forall_mem_cons.mpr ⟨ms_k149, List.forall_mem_cons.mpr ⟨ms_k2, List.forall_mem_cons.mpr ⟨ms_k150, fun _ h => absurd h List.not_mem_nil⟩⟩⟩⟩⟩⟩) rfl ⟨by decide +kernel, by decide +kernel, (by decide +kernel : (parseMethodDescriptor "(I)I").map (fun d => d.parameters.length) = some 1)⟩ (va_recv hK hP rfl (q0 := 0) rfl) hP hD hS [0, 1] [] rfl rfl ⟨by decide, by decide, by decide⟩ ⟨⟨Nat.le_of_ble_eq_true rfl, Nat.le_of_ble_eq_true rfl⟩, Nat.le_of_ble_eq_true rfl, Nat.le_of_ble_eq_true rfl⟩ rfl (Nat.le_of_ble_eq_true rfl) d5_24 (fun vv ww H locs hR hP hD hS => ?_)
  obtain ⟨rfl, rfl⟩ := hR
  have hP : va_P D vwCl [(h, .inr (3, [.ref v, .int 0, .int mb, .int k])), (v, .inl (dA 2, 16, .inl f))] H := hP
  have hD : va_D A [(h, .inr (3, [.ref v, .int 0, .int mb, .int k])), (v, .inl (dA 2, 16, .inl f))] := hD
  refine W.eq (g2 := F0 m 27 ls [.int 34, .ref v, .ref h]) rfl ?_
  refine lv_aload_n hx hb d5_27 rfl (lv_at hl 1 rfl) ?_
  refine va_get (D := D) (ci := 3) (v := .int 0) (C := kR3) (T := kT3) (N := 4) hx hb hts ku3 hown hK hP 0 rfl rfl 1 (by decide) (hts _ ms_k58) (fun _ h => h) rfl d5_28 ?_
  refine lv_ishl hx hb d5_31 ?_
  refine ms_top (y := 34) (by decide) ?_
  refine ms_S (rest := [.ref h]) (as := [.ref v, .int 34]) (wr := [(h, .inr (3, [.ref v, .int 0, .int mb, .int k]))]) X hl (c_copyOf16 l D dA s0 hE v f (hf)) (List.forall_mem_cons.mpr ⟨ms_k162, List.forall_mem_cons.mpr ⟨ms_k163, List.forall_mem_cons.mpr ⟨ms_k10, List.forall_mem_cons.mpr ⟨ms_k164, fun _ h => absurd h List.not_mem_nil⟩⟩⟩⟩) ⟨by decide +kernel, by decide +kernel, (by decide +kernel : (parseMethodDescriptor "([BI)[B").map (fun d => d.parameters.length) = some 2)⟩ hP hD hS [1] [0] rfl rfl ⟨by decide, by decide, by decide⟩ ⟨⟨Nat.le_of_ble_eq_true rfl, Nat.le_of_ble_eq_true rfl⟩, Nat.le_of_ble_eq_true rfl, Nat.le_of_ble_eq_true rfl⟩ rfl (Nat.le_of_ble_eq_true rfl) d5_32 (fun vv ww H locs hR hP hD hS => ?_)
  obtain ⟨u_1, g_2, rfl, hg9, hf9, rfl⟩ := hR
  have hP : va_P D vwCl [(h, .inr (3, [.ref v, .int 0, .int mb, .int k])), (v, .inl (dA 2, 16, .inl f)), (u_1, .inl (dA 2, 34, .inl g_2))] H := hP
  have hD : va_D A [(h, .inr (3, [.ref v, .int 0, .int mb, .int k])), (v, .inl (dA 2, 16, .inl f)), (u_1, .inl (dA 2, 34, .inl g_2))] := hD
  refine W.eq (g2 := F0 m 35 ls [.ref u_1, .ref h]) rfl ?_
  refine va_put (D := D) (ci := 3) (v := .ref u_1) (ty := (.array .byte)) (C := kR3) (T := kT3) (N := 4) hx hb hts ku3 kt3 kp3 kn3 hown hK hP hD hS 0 rfl rfl 0 (by decide) (hts _ ms_k57) (fun _ h => h) rfl (by decide +kernel) rfl rfl (Nat.le_of_ble_eq_true rfl) d5_35 (fun H locs hP hD hS => ?_)
  have hP : va_P D vwCl [(h, .inr (3, [.ref u_1, .int 0, .int mb, .int k])), (v, .inl (dA 2, 16, .inl f)), (u_1, .inl (dA 2, 34, .inl g_2))] H := hP
  have hD : va_D A [(h, .inr (3, [.ref u_1, .int 0, .int mb, .int k])), (v, .inl (dA 2, 16, .inl f)), (u_1, .inl (dA 2, 34, .inl g_2))] := hD
  have hP := hP.sub (ws' := [(h, .inr (3, [.ref u_1, .int 0, .int mb, .int k])), (u_1, .inl (dA 2, 34, .inl g_2))]) [0, 2] rfl
  have hD := hD.sub (ws' := [(h, .inr (3, [.ref u_1, .int 0, .int mb, .int k])), (u_1, .inl (dA 2, 34, .inl g_2))]) [0, 2] (by decide) rfl
  exact ms_vret X d5_38 hP hD hS (Nat.le_of_ble_eq_true rfl) (Nat.le_of_ble_eq_true rfl) (⟨_, _, rfl, hg9, hf9, rfl⟩)

set_option maxRecDepth 100000 in
set_option maxHeartbeats 8000000 in
theorem c_ensG34 (l : Launch) (D : va_G) (dA : Nat → ClassId) (s0 : State) (hE : ms_EV D dA s0) (h : Nat) (v : Nat) (j : Nat) (k : Int32) (mb : Int32) (f : Nat → Int32) (h1 : 34 < j) (h2 : j ≤ 70) (hf : sb_Fit f) : ms_C l D s0 yM5 bM5 3 (Option.none : Option Jvm.ClassFile.FieldType) 3 122 1 142 [.ref h, .int (nI j)] [(h, .inr (3, [.ref v, .int 0, .int mb, .int k])), (v, .inl (dA 2, 34, .inl f))] (fun vv ww => ∃ (u : Nat) (g : Nat → Int32), vv = none ∧ (∀ i, i < 34 → g i = f i) ∧ sb_Fit g ∧ ww = [(h, .inr (3, [.ref u, .int 0, .int mb, .int k])), (u, .inl (dA 2, 70, .inl g))]) := by
  refine ms_C.mk hE.1 (by decide) (Nat.le_of_ble_eq_true rfl) [(0, .ref h), (1, .int (nI j))] rfl ?_
  intro p e s m below meth c A ls X hin hP hD hS hl
  have hx := X.1
  have hb := X.2.1
  have hml := X.2.2.1
  have hown : s.vm.findClass "java/lang/AbstractStringBuilder" = some m.cls := X.2.2.2.1
  have hts := X.2.2.2.2.2.2.1
  have hK := X.2.2.2.2.2.2.2.2.1
  have hA := X.2.2.2.2.2.2.2.2.2.2
  refine lv_aload_n hx hb d5_0 rfl (lv_at hl 0 rfl) ?_
  refine va_get (D := D) (ci := 3) (v := .ref v) (C := kR3) (T := kT3) (N := 4) hx hb hts ku3 hown hK hP 0 rfl rfl 0 (by decide) (hts _ ms_k57) (fun _ h => h) rfl d5_1 ?_
  refine va_alen (v := 34) hx hb hK hP 1 2 rfl rfl rfl d5_4 ?_
  refine lv_aload_n hx hb d5_5 rfl (lv_at hl 0 rfl) ?_
  refine va_get (D := D) (ci := 3) (v := .int 0) (C := kR3) (T := kT3) (N := 4) hx hb hts ku3 hown hK hP 0 rfl rfl 1 (by decide) (hts _ ms_k58) (fun _ h => h) rfl d5_6 ?_
  refine lv_ishr hx hb d5_9 ?_
  refine ms_top (y := 34) (by decide) ?_
  refine lv_istore_n hx hb d5_10 rfl hl (by decide) rfl (fun ls hl => ?_)
  have hl : lv_has ls 3 [(2, .int 34), (0, .ref h), (1, .int (nI j))] := hl
  refine lv_iload_n hx hb d5_11 rfl (lv_at hl 2 rfl) ?_
  refine lv_iload_n hx hb d5_12 rfl (lv_at hl 0 rfl) ?_
  refine lv_isub hx hb d5_13 ?_
  refine lv_if_le hx hb d5_14 rfl (fun h9 => absurd h9 (ms_sgt (a := j) (b := 34) (by omega) (by omega) h1)) (fun _ => ?_)
  refine lv_aload_n hx hb d5_17 rfl (lv_at hl 1 rfl) ?_
  refine lv_aload_n hx hb d5_18 rfl (lv_at hl 1 rfl) ?_
  refine va_get (D := D) (ci := 3) (v := .ref v) (C := kR3) (T := kT3) (N := 4) hx hb hts ku3 hown hK hP 0 rfl rfl 0 (by decide) (hts _ ms_k57) (fun _ h => h) rfl d5_19 ?_
  refine lv_aload_n hx hb d5_22 rfl (lv_at hl 1 rfl) ?_
  refine lv_iload_n hx hb d5_23 rfl (lv_at hl 2 rfl) ?_
  refine ms_U (C := "java/lang/StringBuilder") (x := ⟨"java/lang/AbstractStringBuilder", "newCapacity", "(I)I"⟩) (owner := "java/lang/AbstractStringBuilder") (rest := [.ref v, .ref h]) (as := [.int (nI j)]) (wr := []) X hl (c_newCap34 l D dA s0 hE h v j k mb f (h1) (h2)) (List.forall_mem_cons.mpr ⟨ms_k147, List.forall_mem_cons.mpr ⟨ms_k1835, List.forall_mem_cons.mpr ⟨ms_x1, List.forall_mem_cons.mpr ⟨ms_k149, List.forall_mem_cons.mpr ⟨ms_k2, List.forall_mem_cons.mpr ⟨ms_k150, fun _ h => absurd h List.not_mem_nil⟩⟩⟩⟩⟩⟩) rfl ⟨by decide +kernel, by decide +kernel, (by decide +kernel : (parseMethodDescriptor "(I)I").map (fun d => d.parameters.length) = some 1)⟩ (va_recv hK hP rfl (q0 := 0) rfl) hP hD hS [0, 1] [] rfl rfl ⟨by decide, by decide, by decide⟩ ⟨⟨Nat.le_of_ble_eq_true rfl, Nat.le_of_ble_eq_true rfl⟩, Nat.le_of_ble_eq_true rfl, Nat.le_of_ble_eq_true rfl⟩ rfl (Nat.le_of_ble_eq_true rfl) d5_24 (fun vv ww H locs hR hP hD hS => ?_)
  obtain ⟨rfl, rfl⟩ := hR
  have hP : va_P D vwCl [(h, .inr (3, [.ref v, .int 0, .int mb, .int k])), (v, .inl (dA 2, 34, .inl f))] H := hP
  have hD : va_D A [(h, .inr (3, [.ref v, .int 0, .int mb, .int k])), (v, .inl (dA 2, 34, .inl f))] := hD
  refine W.eq (g2 := F0 m 27 ls [.int 70, .ref v, .ref h]) rfl ?_
  refine lv_aload_n hx hb d5_27 rfl (lv_at hl 1 rfl) ?_
  refine va_get (D := D) (ci := 3) (v := .int 0) (C := kR3) (T := kT3) (N := 4) hx hb hts ku3 hown hK hP 0 rfl rfl 1 (by decide) (hts _ ms_k58) (fun _ h => h) rfl d5_28 ?_
  refine lv_ishl hx hb d5_31 ?_
  refine ms_top (y := 70) (by decide) ?_
  refine ms_S (rest := [.ref h]) (as := [.ref v, .int 70]) (wr := [(h, .inr (3, [.ref v, .int 0, .int mb, .int k]))]) X hl (c_copyOf34 l D dA s0 hE v f (hf)) (List.forall_mem_cons.mpr ⟨ms_k162, List.forall_mem_cons.mpr ⟨ms_k163, List.forall_mem_cons.mpr ⟨ms_k10, List.forall_mem_cons.mpr ⟨ms_k164, fun _ h => absurd h List.not_mem_nil⟩⟩⟩⟩) ⟨by decide +kernel, by decide +kernel, (by decide +kernel : (parseMethodDescriptor "([BI)[B").map (fun d => d.parameters.length) = some 2)⟩ hP hD hS [1] [0] rfl rfl ⟨by decide, by decide, by decide⟩ ⟨⟨Nat.le_of_ble_eq_true rfl, Nat.le_of_ble_eq_true rfl⟩, Nat.le_of_ble_eq_true rfl, Nat.le_of_ble_eq_true rfl⟩ rfl (Nat.le_of_ble_eq_true rfl) d5_32 (fun vv ww H locs hR hP hD hS => ?_)
  obtain ⟨u_1, g_2, rfl, hg9, hf9, rfl⟩ := hR
  have hP : va_P D vwCl [(h, .inr (3, [.ref v, .int 0, .int mb, .int k])), (v, .inl (dA 2, 34, .inl f)), (u_1, .inl (dA 2, 70, .inl g_2))] H := hP
  have hD : va_D A [(h, .inr (3, [.ref v, .int 0, .int mb, .int k])), (v, .inl (dA 2, 34, .inl f)), (u_1, .inl (dA 2, 70, .inl g_2))] := hD
  refine W.eq (g2 := F0 m 35 ls [.ref u_1, .ref h]) rfl ?_
  refine va_put (D := D) (ci := 3) (v := .ref u_1) (ty := (.array .byte)) (C := kR3) (T := kT3) (N := 4) hx hb hts ku3 kt3 kp3 kn3 hown hK hP hD hS 0 rfl rfl 0 (by decide) (hts _ ms_k57) (fun _ h => h) rfl (by decide +kernel) rfl rfl (Nat.le_of_ble_eq_true rfl) d5_35 (fun H locs hP hD hS => ?_)
  have hP : va_P D vwCl [(h, .inr (3, [.ref u_1, .int 0, .int mb, .int k])), (v, .inl (dA 2, 34, .inl f)), (u_1, .inl (dA 2, 70, .inl g_2))] H := hP
  have hD : va_D A [(h, .inr (3, [.ref u_1, .int 0, .int mb, .int k])), (v, .inl (dA 2, 34, .inl f)), (u_1, .inl (dA 2, 70, .inl g_2))] := hD
  have hP := hP.sub (ws' := [(h, .inr (3, [.ref u_1, .int 0, .int mb, .int k])), (u_1, .inl (dA 2, 70, .inl g_2))]) [0, 2] rfl
  have hD := hD.sub (ws' := [(h, .inr (3, [.ref u_1, .int 0, .int mb, .int k])), (u_1, .inl (dA 2, 70, .inl g_2))]) [0, 2] (by decide) rfl
  exact ms_vret X d5_38 hP hD hS (Nat.le_of_ble_eq_true rfl) (Nat.le_of_ble_eq_true rfl) (⟨_, _, rfl, hg9, hf9, rfl⟩)

set_option maxRecDepth 100000 in
set_option maxHeartbeats 8000000 in
theorem c_ensG70 (l : Launch) (D : va_G) (dA : Nat → ClassId) (s0 : State) (hE : ms_EV D dA s0) (h : Nat) (v : Nat) (j : Nat) (k : Int32) (mb : Int32) (f : Nat → Int32) (h1 : 70 < j) (h2 : j ≤ 142) (hf : sb_Fit f) : ms_C l D s0 yM5 bM5 3 (Option.none : Option Jvm.ClassFile.FieldType) 3 122 1 142 [.ref h, .int (nI j)] [(h, .inr (3, [.ref v, .int 0, .int mb, .int k])), (v, .inl (dA 2, 70, .inl f))] (fun vv ww => ∃ (u : Nat) (g : Nat → Int32), vv = none ∧ (∀ i, i < 70 → g i = f i) ∧ sb_Fit g ∧ ww = [(h, .inr (3, [.ref u, .int 0, .int mb, .int k])), (u, .inl (dA 2, 142, .inl g))]) := by
  refine ms_C.mk hE.1 (by decide) (Nat.le_of_ble_eq_true rfl) [(0, .ref h), (1, .int (nI j))] rfl ?_
  intro p e s m below meth c A ls X hin hP hD hS hl
  have hx := X.1
  have hb := X.2.1
  have hml := X.2.2.1
  have hown : s.vm.findClass "java/lang/AbstractStringBuilder" = some m.cls := X.2.2.2.1
  have hts := X.2.2.2.2.2.2.1
  have hK := X.2.2.2.2.2.2.2.2.1
  have hA := X.2.2.2.2.2.2.2.2.2.2
  refine lv_aload_n hx hb d5_0 rfl (lv_at hl 0 rfl) ?_
  refine va_get (D := D) (ci := 3) (v := .ref v) (C := kR3) (T := kT3) (N := 4) hx hb hts ku3 hown hK hP 0 rfl rfl 0 (by decide) (hts _ ms_k57) (fun _ h => h) rfl d5_1 ?_
  refine va_alen (v := 70) hx hb hK hP 1 2 rfl rfl rfl d5_4 ?_
  refine lv_aload_n hx hb d5_5 rfl (lv_at hl 0 rfl) ?_
  refine va_get (D := D) (ci := 3) (v := .int 0) (C := kR3) (T := kT3) (N := 4) hx hb hts ku3 hown hK hP 0 rfl rfl 1 (by decide) (hts _ ms_k58) (fun _ h => h) rfl d5_6 ?_
  refine lv_ishr hx hb d5_9 ?_
  refine ms_top (y := 70) (by decide) ?_
  refine lv_istore_n hx hb d5_10 rfl hl (by decide) rfl (fun ls hl => ?_)
  have hl : lv_has ls 3 [(2, .int 70), (0, .ref h), (1, .int (nI j))] := hl
  refine lv_iload_n hx hb d5_11 rfl (lv_at hl 2 rfl) ?_
  refine lv_iload_n hx hb d5_12 rfl (lv_at hl 0 rfl) ?_
  refine lv_isub hx hb d5_13 ?_
  refine lv_if_le hx hb d5_14 rfl (fun h9 => absurd h9 (ms_sgt (a := j) (b := 70) (by omega) (by omega) h1)) (fun _ => ?_)
  refine lv_aload_n hx hb d5_17 rfl (lv_at hl 1 rfl) ?_
  refine lv_aload_n hx hb d5_18 rfl (lv_at hl 1 rfl) ?_
  refine va_get (D := D) (ci := 3) (v := .ref v) (C := kR3) (T := kT3) (N := 4) hx hb hts ku3 hown hK hP 0 rfl rfl 0 (by decide) (hts _ ms_k57) (fun _ h => h) rfl d5_19 ?_
  refine lv_aload_n hx hb d5_22 rfl (lv_at hl 1 rfl) ?_
  refine lv_iload_n hx hb d5_23 rfl (lv_at hl 2 rfl) ?_
  refine ms_U (C := "java/lang/StringBuilder") (x := ⟨"java/lang/AbstractStringBuilder", "newCapacity", "(I)I"⟩) (owner := "java/lang/AbstractStringBuilder") (rest := [.ref v, .ref h]) (as := [.int (nI j)]) (wr := []) X hl (c_newCap70 l D dA s0 hE h v j k mb f (h1) (h2)) (List.forall_mem_cons.mpr ⟨ms_k147, List.forall_mem_cons.mpr ⟨ms_k1835, List.forall_mem_cons.mpr ⟨ms_x1, List.forall_mem_cons.mpr ⟨ms_k149, List.forall_mem_cons.mpr ⟨ms_k2, List.forall_mem_cons.mpr ⟨ms_k150, fun _ h => absurd h List.not_mem_nil⟩⟩⟩⟩⟩⟩) rfl ⟨by decide +kernel, by decide +kernel, (by decide +kernel : (parseMethodDescriptor "(I)I").map (fun d => d.parameters.length) = some 1)⟩ (va_recv hK hP rfl (q0 := 0) rfl) hP hD hS [0, 1] [] rfl rfl ⟨by decide, by decide, by decide⟩ ⟨⟨Nat.le_of_ble_eq_true rfl, Nat.le_of_ble_eq_true rfl⟩, Nat.le_of_ble_eq_true rfl, Nat.le_of_ble_eq_true rfl⟩ rfl (Nat.le_of_ble_eq_true rfl) d5_24 (fun vv ww H locs hR hP hD hS => ?_)
  obtain ⟨rfl, rfl⟩ := hR
  have hP : va_P D vwCl [(h, .inr (3, [.ref v, .int 0, .int mb, .int k])), (v, .inl (dA 2, 70, .inl f))] H := hP
  have hD : va_D A [(h, .inr (3, [.ref v, .int 0, .int mb, .int k])), (v, .inl (dA 2, 70, .inl f))] := hD
  refine W.eq (g2 := F0 m 27 ls [.int 142, .ref v, .ref h]) rfl ?_
  refine lv_aload_n hx hb d5_27 rfl (lv_at hl 1 rfl) ?_
  refine va_get (D := D) (ci := 3) (v := .int 0) (C := kR3) (T := kT3) (N := 4) hx hb hts ku3 hown hK hP 0 rfl rfl 1 (by decide) (hts _ ms_k58) (fun _ h => h) rfl d5_28 ?_
  refine lv_ishl hx hb d5_31 ?_
  refine ms_top (y := 142) (by decide) ?_
  refine ms_S (rest := [.ref h]) (as := [.ref v, .int 142]) (wr := [(h, .inr (3, [.ref v, .int 0, .int mb, .int k]))]) X hl (c_copyOf70 l D dA s0 hE v f (hf)) (List.forall_mem_cons.mpr ⟨ms_k162, List.forall_mem_cons.mpr ⟨ms_k163, List.forall_mem_cons.mpr ⟨ms_k10, List.forall_mem_cons.mpr ⟨ms_k164, fun _ h => absurd h List.not_mem_nil⟩⟩⟩⟩) ⟨by decide +kernel, by decide +kernel, (by decide +kernel : (parseMethodDescriptor "([BI)[B").map (fun d => d.parameters.length) = some 2)⟩ hP hD hS [1] [0] rfl rfl ⟨by decide, by decide, by decide⟩ ⟨⟨Nat.le_of_ble_eq_true rfl, Nat.le_of_ble_eq_true rfl⟩, Nat.le_of_ble_eq_true rfl, Nat.le_of_ble_eq_true rfl⟩ rfl (Nat.le_of_ble_eq_true rfl) d5_32 (fun vv ww H locs hR hP hD hS => ?_)
  obtain ⟨u_1, g_2, rfl, hg9, hf9, rfl⟩ := hR
  have hP : va_P D vwCl [(h, .inr (3, [.ref v, .int 0, .int mb, .int k])), (v, .inl (dA 2, 70, .inl f)), (u_1, .inl (dA 2, 142, .inl g_2))] H := hP
  have hD : va_D A [(h, .inr (3, [.ref v, .int 0, .int mb, .int k])), (v, .inl (dA 2, 70, .inl f)), (u_1, .inl (dA 2, 142, .inl g_2))] := hD
  refine W.eq (g2 := F0 m 35 ls [.ref u_1, .ref h]) rfl ?_
  refine va_put (D := D) (ci := 3) (v := .ref u_1) (ty := (.array .byte)) (C := kR3) (T := kT3) (N := 4) hx hb hts ku3 kt3 kp3 kn3 hown hK hP hD hS 0 rfl rfl 0 (by decide) (hts _ ms_k57) (fun _ h => h) rfl (by decide +kernel) rfl rfl (Nat.le_of_ble_eq_true rfl) d5_35 (fun H locs hP hD hS => ?_)
  have hP : va_P D vwCl [(h, .inr (3, [.ref u_1, .int 0, .int mb, .int k])), (v, .inl (dA 2, 70, .inl f)), (u_1, .inl (dA 2, 142, .inl g_2))] H := hP
  have hD : va_D A [(h, .inr (3, [.ref u_1, .int 0, .int mb, .int k])), (v, .inl (dA 2, 70, .inl f)), (u_1, .inl (dA 2, 142, .inl g_2))] := hD
  have hP := hP.sub (ws' := [(h, .inr (3, [.ref u_1, .int 0, .int mb, .int k])), (u_1, .inl (dA 2, 142, .inl g_2))]) [0, 2] rfl
  have hD := hD.sub (ws' := [(h, .inr (3, [.ref u_1, .int 0, .int mb, .int k])), (u_1, .inl (dA 2, 142, .inl g_2))]) [0, 2] (by decide) rfl
  exact ms_vret X d5_38 hP hD hS (Nat.le_of_ble_eq_true rfl) (Nat.le_of_ble_eq_true rfl) (⟨_, _, rfl, hg9, hf9, rfl⟩)

theorem c_ens (l : Launch) (D : va_G) (dA : Nat → ClassId) (s0 : State) (hE : ms_EV D dA s0) (h : Nat) (v : Nat) (j : Nat) (n : Nat) (k : Int32) (mb : Int32) (f : Nat → Int32) (hn : tx_n n) (hj : j ≤ 2 * n + 2) (hj2 : j ≤ 142) (hf : sb_Fit f) : ms_C l D s0 yM5 bM5 3 (Option.none : Option Jvm.ClassFile.FieldType) 3 122 1 142 [.ref h, .int (nI j)] [(h, .inr (3, [.ref v, .int 0, .int mb, .int k])), (v, .inl (dA 2, n, .inl f))] (fun vv ww => ∃ (u q : Nat) (g : Nat → Int32), vv = none ∧ tx_n q ∧ j ≤ q ∧ (∀ i, i < n → g i = f i) ∧ sb_Fit g ∧ ww = [(h, .inr (3, [.ref u, .int 0, .int mb, .int k])), (u, .inl (dA 2, q, .inl g))]) := by
  by_cases hjn : j ≤ n
  · exact (c_ens0 l D dA s0 hE h v j n k mb f (by have := tx_n_lt hn; omega) hjn).imp (fun vv ww hR => by obtain ⟨rfl, rfl⟩ := hR; exact ⟨v, n, f, rfl, hn, hjn, fun _ _ => rfl, hf, rfl⟩)
  · rcases hn with rfl | rfl | rfl | rfl
    · exact (c_ensG16 l D dA s0 hE h v j k mb f (by omega) (by omega) hf).imp (fun vv ww hR => by obtain ⟨u, g, h1, h2, h3, h4⟩ := hR; exact ⟨u, 34, g, h1, by unfold tx_n; omega, by omega, h2, h3, h4⟩)
    · exact (c_ensG34 l D dA s0 hE h v j k mb f (by omega) (by omega) hf).imp (fun vv ww hR => by obtain ⟨u, g, h1, h2, h3, h4⟩ := hR; exact ⟨u, 70, g, h1, by unfold tx_n; omega, by omega, h2, h3, h4⟩)
    · exact (c_ensG70 l D dA s0 hE h v j k mb f (by omega) (by omega) hf).imp (fun vv ww hR => by obtain ⟨u, g, h1, h2, h3, h4⟩ := hR; exact ⟨u, 142, g, h1, by unfold tx_n; omega, by omega, h2, h3, h4⟩)
    · omega

set_option maxRecDepth 100000 in
set_option maxHeartbeats 8000000 in
theorem c_ASBapp (l : Launch) (D : va_G) (dA : Nat → ClassId) (s0 : State) (hE : ms_EV D dA s0) (h : Nat) (v : Nat) (k : Nat) (n : Nat) (mb : Int32) (f : Nat → Int32) (z : Int32) (hn : tx_n n) (hkn : k ≤ n) (hk : k < 120) (hz : ¬ 255 < z) (hf : sb_Fit f) : ms_C l D s0 yM17 bM17 2 (Option.some (Jvm.ClassFile.FieldType.object "java/lang/AbstractStringBuilder")) 4 144 1 142 [.ref h, .int z] [(h, .inr (3, [.ref v, .int 0, .int mb, .int (nI k)])), (v, .inl (dA 2, n, .inl f))] (fun vv ww => ∃ (u q : Nat) (g : Nat → Int32), vv = some (.ref h) ∧ tx_n q ∧ k + 1 ≤ q ∧ (∀ i, i < k → g i = f i) ∧ g k = z.toInt8.toInt32 ∧ sb_Fit g ∧ ww = [(h, .inr (3, [.ref u, .int 0, .int mb, .int (nI (k + 1))])), (u, .inl (dA 2, q, .inl g))]) := by
  refine ms_C.mk hE.1 (by decide) (Nat.le_of_ble_eq_true rfl) [(0, .ref h), (1, .int z)] rfl ?_
  intro p e s m below meth c A ls X hin hP hD hS hl
  have hx := X.1
  have hb := X.2.1
  have hml := X.2.2.1
  have hown : s.vm.findClass "java/lang/AbstractStringBuilder" = some m.cls := X.2.2.2.1
  have hts := X.2.2.2.2.2.2.1
  have hK := X.2.2.2.2.2.2.2.2.1
  have hA := X.2.2.2.2.2.2.2.2.2.2
  refine lv_aload_n hx hb d17_0 rfl (lv_at hl 0 rfl) ?_
  refine lv_aload_n hx hb d17_1 rfl (lv_at hl 0 rfl) ?_
  refine va_get (D := D) (ci := 3) (v := .int (nI k)) (C := kR3) (T := kT3) (N := 4) hx hb hts ku3 hown hK hP 0 rfl rfl 3 (by decide) (hts _ ms_k61) (fun _ h => h) rfl d17_2 ?_
  refine lv_iconst (v := 1) hx hb d17_5 (by decide) ?_
  refine lv_iadd hx hb d17_6 ?_
  refine ms_top (y := (nI (k + 1))) (nI_1 k) ?_
  refine ms_U (C := "java/lang/StringBuilder") (x := ⟨"java/lang/AbstractStringBuilder", "ensureCapacityInternal", "(I)V"⟩) (owner := "java/lang/AbstractStringBuilder") (rest := []) (as := [.int (nI (k + 1))]) (wr := []) X hl (c_ens l D dA s0 hE h v (k + 1) n (nI k) mb f (hn) (by omega) (by omega) (hf)) (List.forall_mem_cons.mpr ⟨ms_k143, List.forall_mem_cons.mpr ⟨ms_k1834, List.forall_mem_cons.mpr ⟨ms_x0, List.forall_mem_cons.mpr ⟨ms_k145, List.forall_mem_cons.mpr ⟨ms_k2, List.forall_mem_cons.mpr ⟨ms_k146, fun _ h => absurd h List.not_mem_nil⟩⟩⟩⟩⟩⟩) rfl ⟨by decide +kernel, by decide +kernel, (by decide +kernel : (parseMethodDescriptor "(I)V").map (fun d => d.parameters.length) = some 1)⟩ (va_recv hK hP rfl (q0 := 0) rfl) hP hD hS [0, 1] [] rfl rfl ⟨by decide, by decide, by decide⟩ ⟨⟨Nat.le_of_ble_eq_true rfl, Nat.le_of_ble_eq_true rfl⟩, Nat.le_of_ble_eq_true rfl, Nat.le_of_ble_eq_true rfl⟩ rfl (Nat.le_of_ble_eq_true rfl) d17_7 (fun vv ww H locs hR hP hD hS => ?_)
  obtain ⟨u_1, q_2, g_3, rfl, hq9, hj9, hg9, hf9, rfl⟩ := hR
  have hP : va_P D vwCl [(h, .inr (3, [.ref u_1, .int 0, .int mb, .int (nI k)])), (u_1, .inl (dA 2, q_2, .inl g_3))] H := hP
  have hD : va_D A [(h, .inr (3, [.ref u_1, .int 0, .int mb, .int (nI k)])), (u_1, .inl (dA 2, q_2, .inl g_3))] := hD
  refine W.eq (g2 := F0 m 10 ls []) rfl ?_
  refine lv_aload_n hx hb d17_10 rfl (lv_at hl 0 rfl) ?_
  refine ms_U (C := "java/lang/StringBuilder") (x := ⟨"java/lang/AbstractStringBuilder", "isLatin1", "()Z"⟩) (owner := "java/lang/AbstractStringBuilder") (rest := []) (as := []) (wr := [(u_1, .inl (dA 2, q_2, .inl g_3))]) X hl (c_isLat l D dA s0 hE h u_1 (nI k) mb) (List.forall_mem_cons.mpr ⟨ms_k178, List.forall_mem_cons.mpr ⟨ms_k180, List.forall_mem_cons.mpr ⟨ms_k181, List.forall_mem_cons.mpr ⟨ms_k179, List.forall_mem_cons.mpr ⟨ms_k2, List.forall_mem_cons.mpr ⟨ms_k182, fun _ h => absurd h List.not_mem_nil⟩⟩⟩⟩⟩⟩) rfl ⟨by decide +kernel, by decide +kernel, (by decide +kernel : (parseMethodDescriptor "()Z").map (fun d => d.parameters.length) = some 0)⟩ (va_recv hK hP rfl (q0 := 0) rfl) hP hD hS [0] [1] rfl rfl ⟨by decide, by decide, by decide⟩ ⟨⟨Nat.le_of_ble_eq_true rfl, Nat.le_of_ble_eq_true rfl⟩, Nat.le_of_ble_eq_true rfl, Nat.le_of_ble_eq_true rfl⟩ rfl (Nat.le_of_ble_eq_true rfl) d17_11 (fun vv ww H locs hR hP hD hS => ?_)
  obtain ⟨rfl, rfl⟩ := hR
  have hP : va_P D vwCl [(u_1, .inl (dA 2, q_2, .inl g_3)), (h, .inr (3, [.ref u_1, .int 0, .int mb, .int (nI k)]))] H := hP
  have hD : va_D A [(u_1, .inl (dA 2, q_2, .inl g_3)), (h, .inr (3, [.ref u_1, .int 0, .int mb, .int (nI k)]))] := hD
  refine W.eq (g2 := F0 m 14 ls [.int 1]) rfl ?_
  refine lv_if_eq hx hb d17_14 rfl (fun h9 => absurd h9 (by decide)) (fun _ => ?_)
  refine lv_iload_n hx hb d17_17 rfl (lv_at hl 1 rfl) ?_
  refine ms_S (rest := []) (as := [.int z]) (wr := [(u_1, .inl (dA 2, q_2, .inl g_3)), (h, .inr (3, [.ref u_1, .int 0, .int mb, .int (nI k)]))]) X hl (c_canEnc l D dA s0 hE z (hz)) (List.forall_mem_cons.mpr ⟨ms_k183, List.forall_mem_cons.mpr ⟨ms_k184, List.forall_mem_cons.mpr ⟨ms_k12, List.forall_mem_cons.mpr ⟨ms_k185, fun _ h => absurd h List.not_mem_nil⟩⟩⟩⟩) ⟨by decide +kernel, by decide +kernel, (by decide +kernel : (parseMethodDescriptor "(C)Z").map (fun d => d.parameters.length) = some 1)⟩ hP hD hS [] [0, 1] rfl rfl ⟨by decide, by decide, by decide⟩ ⟨⟨Nat.le_of_ble_eq_true rfl, Nat.le_of_ble_eq_true rfl⟩, Nat.le_of_ble_eq_true rfl, Nat.le_of_ble_eq_true rfl⟩ rfl (Nat.le_of_ble_eq_true rfl) d17_18 (fun vv ww H locs hR hP hD hS => ?_)
  obtain ⟨rfl, rfl⟩ := hR
  have hP : va_P D vwCl [(u_1, .inl (dA 2, q_2, .inl g_3)), (h, .inr (3, [.ref u_1, .int 0, .int mb, .int (nI k)]))] H := hP
  have hD : va_D A [(u_1, .inl (dA 2, q_2, .inl g_3)), (h, .inr (3, [.ref u_1, .int 0, .int mb, .int (nI k)]))] := hD
  refine W.eq (g2 := F0 m 21 ls [.int 1]) rfl ?_
  refine lv_if_eq hx hb d17_21 rfl (fun h9 => absurd h9 (by decide)) (fun _ => ?_)
  refine lv_aload_n hx hb d17_24 rfl (lv_at hl 0 rfl) ?_
  refine va_get (D := D) (ci := 3) (v := .ref u_1) (C := kR3) (T := kT3) (N := 4) hx hb hts ku3 hown hK hP 1 rfl rfl 0 (by decide) (hts _ ms_k57) (fun _ h => h) rfl d17_25 ?_
  refine lv_aload_n hx hb d17_28 rfl (lv_at hl 0 rfl) ?_
  refine lv_dup hx hb d17_29 rfl ?_
  refine va_get (D := D) (ci := 3) (v := .int (nI k)) (C := kR3) (T := kT3) (N := 4) hx hb hts ku3 hown hK hP 1 rfl rfl 3 (by decide) (hts _ ms_k61) (fun _ h => h) rfl d17_30 ?_
  refine lv_dup_x1 hx hb d17_33 rfl rfl ?_
  refine lv_iconst (v := 1) hx hb d17_34 (by decide) ?_
  refine lv_iadd hx hb d17_35 ?_
  refine ms_top (y := (nI (k + 1))) (nI_1 k) ?_
  refine va_put (D := D) (ci := 3) (v := .int (nI (k + 1))) (ty := .int) (C := kR3) (T := kT3) (N := 4) hx hb hts ku3 kt3 kp3 kn3 hown hK hP hD hS 1 rfl rfl 3 (by decide) (hts _ ms_k61) (fun _ h => h) rfl (by decide +kernel) rfl rfl (Nat.le_of_ble_eq_true rfl) d17_36 (fun H locs hP hD hS => ?_)
  have hP : va_P D vwCl [(u_1, .inl (dA 2, q_2, .inl g_3)), (h, .inr (3, [.ref u_1, .int 0, .int mb, .int (nI (k + 1))]))] H := hP
  have hD : va_D A [(u_1, .inl (dA 2, q_2, .inl g_3)), (h, .inr (3, [.ref u_1, .int 0, .int mb, .int (nI (k + 1))]))] := hD
  refine lv_iload_n hx hb d17_39 rfl (lv_at hl 1 rfl) ?_
  refine lv_i2b (v := z.toInt8.toInt32) hx hb d17_40 (rfl) ?_
  refine va_bast hx hb hK hP hD hS 0 2 rfl rfl (vp_in_nI (by omega) (by have := tx_n_lt hq9; omega)) d17_41 (fun H locs hP hD hS => ?_)
  have hP : va_P D vwCl [(u_1, .inl (dA 2, q_2, .inl (upd g_3 (nI k).toNatClampNeg (vp_nar .byte z.toInt8.toInt32)))), (h, .inr (3, [.ref u_1, .int 0, .int mb, .int (nI (k + 1))]))] H := hP
  have hD : va_D A [(u_1, .inl (dA 2, q_2, .inl (upd g_3 (nI k).toNatClampNeg (vp_nar .byte z.toInt8.toInt32)))), (h, .inr (3, [.ref u_1, .int 0, .int mb, .int (nI (k + 1))]))] := hD
  refine lv_goto hx hb d17_42 rfl ?_
  refine lv_aload_n hx hb d17_75 rfl (lv_at hl 0 rfl) ?_
  have hP := hP.sub (ws' := [(h, .inr (3, [.ref u_1, .int 0, .int mb, .int (nI (k + 1))])), (u_1, .inl (dA 2, q_2, .inl (upd g_3 (nI k).toNatClampNeg (vp_nar .byte z.toInt8.toInt32))))]) [1, 0] rfl
  have hD := hD.sub (ws' := [(h, .inr (3, [.ref u_1, .int 0, .int mb, .int (nI (k + 1))])), (u_1, .inl (dA 2, q_2, .inl (upd g_3 (nI k).toNatClampNeg (vp_nar .byte z.toInt8.toInt32))))]) [1, 0] (by decide) rfl
  exact ms_aret X d17_76 hP hD hS (Nat.le_of_ble_eq_true rfl) (Nat.le_of_ble_eq_true rfl) (⟨_, _, _, rfl, hq9, hj9, fun i hi => by rw [nI_clamp (by omega), pk_un (by omega)]; exact hg9 i (by omega), by rw [nI_clamp (by omega), pk_us, pk_vb], by rw [pk_vb]; exact sb_fitU hf9 (pk_fb z), rfl⟩) (Or.inl ⟨_, rfl⟩) (Or.inr ⟨_, rfl⟩)

set_option maxRecDepth 100000 in
set_option maxHeartbeats 8000000 in
theorem c_SBapp (l : Launch) (D : va_G) (dA : Nat → ClassId) (s0 : State) (hE : ms_EV D dA s0) (h : Nat) (v : Nat) (k : Nat) (n : Nat) (mb : Int32) (f : Nat → Int32) (z : Int32) (hn : tx_n n) (hkn : k ≤ n) (hk : k < 120) (hz : ¬ 255 < z) (hf : sb_Fit f) : ms_C l D s0 yM18 bM18 2 (Option.some (Jvm.ClassFile.FieldType.object "java/lang/StringBuilder")) 5 165 1 142 [.ref h, .int z] [(h, .inr (3, [.ref v, .int 0, .int mb, .int (nI k)])), (v, .inl (dA 2, n, .inl f))] (fun vv ww => ∃ (u q : Nat) (g : Nat → Int32), vv = some (.ref h) ∧ tx_n q ∧ k + 1 ≤ q ∧ (∀ i, i < k → g i = f i) ∧ g k = z.toInt8.toInt32 ∧ sb_Fit g ∧ ww = [(h, .inr (3, [.ref u, .int 0, .int mb, .int (nI (k + 1))])), (u, .inl (dA 2, q, .inl g))]) := by
  refine ms_C.mk hE.1 (by decide) (Nat.le_of_ble_eq_true rfl) [(0, .ref h), (1, .int z)] rfl ?_
  intro p e s m below meth c A ls X hin hP hD hS hl
  have hx := X.1
  have hb := X.2.1
  have hml := X.2.2.1
  have hown : s.vm.findClass "java/lang/StringBuilder" = some m.cls := X.2.2.2.1
  have hts := X.2.2.2.2.2.2.1
  have hK := X.2.2.2.2.2.2.2.2.1
  have hA := X.2.2.2.2.2.2.2.2.2.2
  refine lv_aload_n hx hb d18_0 rfl (lv_at hl 0 rfl) ?_
  refine lv_iload_n hx hb d18_1 rfl (lv_at hl 1 rfl) ?_
  refine ms_SU (C := "java/lang/StringBuilder") (rest := []) (as := [.int z]) (wr := []) ((hK.1 3 _ rfl).2) X hl (c_ASBapp l D dA s0 hE h v k n mb f z (hn) (hkn) (hk) (hz) (hf)) (List.forall_mem_cons.mpr ⟨ms_k140, List.forall_mem_cons.mpr ⟨ms_k1833, List.forall_mem_cons.mpr ⟨ms_k70, List.forall_mem_cons.mpr ⟨ms_k141, List.forall_mem_cons.mpr ⟨ms_k2, List.forall_mem_cons.mpr ⟨ms_k142, fun _ h => absurd h List.not_mem_nil⟩⟩⟩⟩⟩⟩) ⟨by decide +kernel, (by decide +kernel : (parseMethodDescriptor "(C)Ljava/lang/AbstractStringBuilder;").map (fun d => d.parameters.length) = some 1)⟩ (va_recv hK hP rfl (q0 := 0) rfl) hP hD hS [0, 1] [] rfl rfl ⟨by decide, by decide, by decide⟩ ⟨⟨Nat.le_of_ble_eq_true rfl, Nat.le_of_ble_eq_true rfl⟩, Nat.le_of_ble_eq_true rfl, Nat.le_of_ble_eq_true rfl⟩ rfl (Nat.le_of_ble_eq_true rfl) d18_2 (fun vv ww H locs hR hP hD hS => ?_)
  obtain ⟨u_1, q_2, g_3, rfl, hq9, hj9, hg9, hl9, hf9, rfl⟩ := hR
  have hP : va_P D vwCl [(h, .inr (3, [.ref u_1, .int 0, .int mb, .int (nI (k + 1))])), (u_1, .inl (dA 2, q_2, .inl g_3))] H := hP
  have hD : va_D A [(h, .inr (3, [.ref u_1, .int 0, .int mb, .int (nI (k + 1))])), (u_1, .inl (dA 2, q_2, .inl g_3))] := hD
  refine W.eq (g2 := F0 m 5 ls [.ref h]) rfl ?_
  refine lv_pop hx hb d18_5 rfl ?_
  refine lv_aload_n hx hb d18_6 rfl (lv_at hl 0 rfl) ?_
  exact ms_aret X d18_7 hP hD hS (Nat.le_of_ble_eq_true rfl) (Nat.le_of_ble_eq_true rfl) (⟨_, _, _, rfl, hq9, hj9, hg9, hl9, hf9, rfl⟩) (Or.inl ⟨_, rfl⟩) (Or.inr ⟨_, rfl⟩)

set_option maxRecDepth 100000 in
set_option maxHeartbeats 8000000 in
theorem c_ASBset (l : Launch) (D : va_G) (dA : Nat → ClassId) (s0 : State) (hE : ms_EV D dA s0) (h : Nat) (v : Nat) (k : Nat) (n : Nat) (mb : Int32) (f : Nat → Int32) (hn : tx_n n) (hk : k < 1000) : ms_C l D s0 yM19 bM19 2 (Option.none : Option Jvm.ClassFile.FieldType) 4 144 1 142 [.ref h, .int 0] [(h, .inr (3, [.ref v, .int 0, .int mb, .int (nI k)])), (v, .inl (dA 2, n, .inl f))] (fun vv ww => ∃ (mb1 : Int32), vv = none ∧ ww = [(h, .inr (3, [.ref v, .int 0, .int mb1, .int 0])), (v, .inl (dA 2, n, .inl f))]) := by
  refine ms_C.mk hE.1 (by decide) (Nat.le_of_ble_eq_true rfl) [(0, .ref h), (1, .int 0)] rfl ?_
  intro p e s m below meth c A ls X hin hP hD hS hl
  have hx := X.1
  have hb := X.2.1
  have hml := X.2.2.1
  have hown : s.vm.findClass "java/lang/AbstractStringBuilder" = some m.cls := X.2.2.2.1
  have hts := X.2.2.2.2.2.2.1
  have hK := X.2.2.2.2.2.2.2.2.1
  have hA := X.2.2.2.2.2.2.2.2.2.2
  refine lv_iload_n hx hb d19_0 rfl (lv_at hl 1 rfl) ?_
  refine lv_if_ge hx hb d19_1 rfl (fun _ => ?_) (fun h9 => absurd (by decide) h9)
  refine lv_aload_n hx hb d19_13 rfl (lv_at hl 0 rfl) ?_
  refine lv_iload_n hx hb d19_14 rfl (lv_at hl 1 rfl) ?_
  refine ms_U (C := "java/lang/StringBuilder") (x := ⟨"java/lang/AbstractStringBuilder", "ensureCapacityInternal", "(I)V"⟩) (owner := "java/lang/AbstractStringBuilder") (rest := []) (as := [.int 0]) (wr := []) X hl (c_ens0 l D dA s0 hE h v 0 n (nI k) mb f (by have := tx_n_lt hn; omega) (Nat.zero_le _)) (List.forall_mem_cons.mpr ⟨ms_k143, List.forall_mem_cons.mpr ⟨ms_k1834, List.forall_mem_cons.mpr ⟨ms_x0, List.forall_mem_cons.mpr ⟨ms_k145, List.forall_mem_cons.mpr ⟨ms_k2, List.forall_mem_cons.mpr ⟨ms_k146, fun _ h => absurd h List.not_mem_nil⟩⟩⟩⟩⟩⟩) rfl ⟨by decide +kernel, by decide +kernel, (by decide +kernel : (parseMethodDescriptor "(I)V").map (fun d => d.parameters.length) = some 1)⟩ (va_recv hK hP rfl (q0 := 0) rfl) hP hD hS [0, 1] [] rfl rfl ⟨by decide, by decide, by decide⟩ ⟨⟨Nat.le_of_ble_eq_true rfl, Nat.le_of_ble_eq_true rfl⟩, Nat.le_of_ble_eq_true rfl, Nat.le_of_ble_eq_true rfl⟩ rfl (Nat.le_of_ble_eq_true rfl) d19_15 (fun vv ww H locs hR hP hD hS => ?_)
  obtain ⟨rfl, rfl⟩ := hR
  have hP : va_P D vwCl [(h, .inr (3, [.ref v, .int 0, .int mb, .int (nI k)])), (v, .inl (dA 2, n, .inl f))] H := hP
  have hD : va_D A [(h, .inr (3, [.ref v, .int 0, .int mb, .int (nI k)])), (v, .inl (dA 2, n, .inl f))] := hD
  refine W.eq (g2 := F0 m 18 ls []) rfl ?_
  refine lv_aload_n hx hb d19_18 rfl (lv_at hl 0 rfl) ?_
  refine va_get (D := D) (ci := 3) (v := .int (nI k)) (C := kR3) (T := kT3) (N := 4) hx hb hts ku3 hown hK hP 0 rfl rfl 3 (by decide) (hts _ ms_k61) (fun _ h => h) rfl d19_19 ?_
  refine lv_iload_n hx hb d19_22 rfl (lv_at hl 1 rfl) ?_
  refine lv_icmp_ge hx hb d19_23 rfl (fun _ => ?_) (fun h9 => absurd (nI_pos' (by omega)) h9)
  refine lv_aload_n hx hb d19_63 rfl (lv_at hl 0 rfl) ?_
  refine va_get (D := D) (ci := 3) (v := .int (nI k)) (C := kR3) (T := kT3) (N := 4) hx hb hts ku3 hown hK hP 0 rfl rfl 3 (by decide) (hts _ ms_k61) (fun _ h => h) rfl d19_64 ?_
  refine lv_iload_n hx hb d19_67 rfl (lv_at hl 1 rfl) ?_
  refine lv_icmp_le hx hb d19_68 rfl (fun hc => ?_) (fun hc => ?_)
  · refine lv_aload_n hx hb d19_76 rfl (lv_at hl 0 rfl) ?_
    refine lv_iload_n hx hb d19_77 rfl (lv_at hl 1 rfl) ?_
    refine va_put (D := D) (ci := 3) (v := .int 0) (ty := .int) (C := kR3) (T := kT3) (N := 4) hx hb hts ku3 kt3 kp3 kn3 hown hK hP hD hS 0 rfl rfl 3 (by decide) (hts _ ms_k61) (fun _ h => h) rfl (by decide +kernel) rfl rfl (Nat.le_of_ble_eq_true rfl) d19_78 (fun H locs hP hD hS => ?_)
    have hP : va_P D vwCl [(h, .inr (3, [.ref v, .int 0, .int mb, .int 0])), (v, .inl (dA 2, n, .inl f))] H := hP
    have hD : va_D A [(h, .inr (3, [.ref v, .int 0, .int mb, .int 0])), (v, .inl (dA 2, n, .inl f))] := hD
    exact ms_vret X d19_81 hP hD hS (Nat.le_of_ble_eq_true rfl) (Nat.le_of_ble_eq_true rfl) (⟨_, rfl, rfl⟩)
  · refine lv_aload_n hx hb d19_71 rfl (lv_at hl 0 rfl) ?_
    refine lv_iconst (v := 1) hx hb d19_72 (by decide) ?_
    refine va_put (D := D) (ci := 3) (v := .int 1) (ty := .boolean) (C := kR3) (T := kT3) (N := 4) hx hb hts ku3 kt3 kp3 kn3 hown hK hP hD hS 0 rfl rfl 2 (by decide) (hts _ ms_k59) (fun _ h => h) rfl (by decide +kernel) rfl rfl (Nat.le_of_ble_eq_true rfl) d19_73 (fun H locs hP hD hS => ?_)
    have hP : va_P D vwCl [(h, .inr (3, [.ref v, .int 0, .int 1, .int (nI k)])), (v, .inl (dA 2, n, .inl f))] H := hP
    have hD : va_D A [(h, .inr (3, [.ref v, .int 0, .int 1, .int (nI k)])), (v, .inl (dA 2, n, .inl f))] := hD
    refine lv_aload_n hx hb d19_76 rfl (lv_at hl 0 rfl) ?_
    refine lv_iload_n hx hb d19_77 rfl (lv_at hl 1 rfl) ?_
    refine va_put (D := D) (ci := 3) (v := .int 0) (ty := .int) (C := kR3) (T := kT3) (N := 4) hx hb hts ku3 kt3 kp3 kn3 hown hK hP hD hS 0 rfl rfl 3 (by decide) (hts _ ms_k61) (fun _ h => h) rfl (by decide +kernel) rfl rfl (Nat.le_of_ble_eq_true rfl) d19_78 (fun H locs hP hD hS => ?_)
    have hP : va_P D vwCl [(h, .inr (3, [.ref v, .int 0, .int 1, .int 0])), (v, .inl (dA 2, n, .inl f))] H := hP
    have hD : va_D A [(h, .inr (3, [.ref v, .int 0, .int 1, .int 0])), (v, .inl (dA 2, n, .inl f))] := hD
    exact ms_vret X d19_81 hP hD hS (Nat.le_of_ble_eq_true rfl) (Nat.le_of_ble_eq_true rfl) (⟨_, rfl, rfl⟩)

set_option maxRecDepth 100000 in
set_option maxHeartbeats 8000000 in
theorem c_SBset (l : Launch) (D : va_G) (dA : Nat → ClassId) (s0 : State) (hE : ms_EV D dA s0) (h : Nat) (v : Nat) (k : Nat) (n : Nat) (mb : Int32) (f : Nat → Int32) (hn : tx_n n) (hk : k < 1000) : ms_C l D s0 yM20 bM20 2 (Option.none : Option Jvm.ClassFile.FieldType) 5 165 1 142 [.ref h, .int 0] [(h, .inr (3, [.ref v, .int 0, .int mb, .int (nI k)])), (v, .inl (dA 2, n, .inl f))] (fun vv ww => ∃ (mb1 : Int32), vv = none ∧ ww = [(h, .inr (3, [.ref v, .int 0, .int mb1, .int 0])), (v, .inl (dA 2, n, .inl f))]) := by
  refine ms_C.mk hE.1 (by decide) (Nat.le_of_ble_eq_true rfl) [(0, .ref h), (1, .int 0)] rfl ?_
  intro p e s m below meth c A ls X hin hP hD hS hl
  have hx := X.1
  have hb := X.2.1
  have hml := X.2.2.1
  have hown : s.vm.findClass "java/lang/StringBuilder" = some m.cls := X.2.2.2.1
  have hts := X.2.2.2.2.2.2.1
  have hK := X.2.2.2.2.2.2.2.2.1
  have hA := X.2.2.2.2.2.2.2.2.2.2
  refine lv_aload_n hx hb d20_0 rfl (lv_at hl 0 rfl) ?_
  refine lv_iload_n hx hb d20_1 rfl (lv_at hl 1 rfl) ?_
  refine ms_SU (C := "java/lang/StringBuilder") (rest := []) (as := [.int 0]) (wr := []) ((hK.1 3 _ rfl).2) X hl (c_ASBset l D dA s0 hE h v k n mb f (hn) (hk)) (List.forall_mem_cons.mpr ⟨ms_k299, List.forall_mem_cons.mpr ⟨ms_k1838, List.forall_mem_cons.mpr ⟨ms_k70, List.forall_mem_cons.mpr ⟨ms_k300, List.forall_mem_cons.mpr ⟨ms_k2, List.forall_mem_cons.mpr ⟨ms_k301, fun _ h => absurd h List.not_mem_nil⟩⟩⟩⟩⟩⟩) ⟨by decide +kernel, (by decide +kernel : (parseMethodDescriptor "(I)V").map (fun d => d.parameters.length) = some 1)⟩ (va_recv hK hP rfl (q0 := 0) rfl) hP hD hS [0, 1] [] rfl rfl ⟨by decide, by decide, by decide⟩ ⟨⟨Nat.le_of_ble_eq_true rfl, Nat.le_of_ble_eq_true rfl⟩, Nat.le_of_ble_eq_true rfl, Nat.le_of_ble_eq_true rfl⟩ rfl (Nat.le_of_ble_eq_true rfl) d20_2 (fun vv ww H locs hR hP hD hS => ?_)
  obtain ⟨mb1_1, rfl, rfl⟩ := hR
  have hP : va_P D vwCl [(h, .inr (3, [.ref v, .int 0, .int mb1_1, .int 0])), (v, .inl (dA 2, n, .inl f))] H := hP
  have hD : va_D A [(h, .inr (3, [.ref v, .int 0, .int mb1_1, .int 0])), (v, .inl (dA 2, n, .inl f))] := hD
  refine W.eq (g2 := F0 m 5 ls []) rfl ?_
  exact ms_vret X d20_5 hP hD hS (Nat.le_of_ble_eq_true rfl) (Nat.le_of_ble_eq_true rfl) (⟨_, rfl, rfl⟩)

set_option maxRecDepth 100000 in
set_option maxHeartbeats 8000000 in
theorem c_ckLen (l : Launch) (D : va_G) (dA : Nat → ClassId) (s0 : State) (hE : ms_EV D dA s0) (k : Nat) (hk : k < 1000) : ms_C l D s0 yM21 bM21 2 (Option.none : Option Jvm.ClassFile.FieldType) 0 0 0 0 [.int 0, .int (nI k)] [] (fun vv ww => vv = none ∧ ww = []) := by
  refine ms_C.mk hE.1 (by decide) (Nat.le_of_ble_eq_true rfl) [(0, .int 0), (1, .int (nI k))] rfl ?_
  intro p e s m below meth c A ls X hin hP hD hS hl
  have hx := X.1
  have hb := X.2.1
  have hml := X.2.2.1
  have hown : s.vm.findClass "java/util/Arrays" = some m.cls := X.2.2.2.1
  have hts := X.2.2.2.2.2.2.1
  have hK := X.2.2.2.2.2.2.2.2.1
  have hA := X.2.2.2.2.2.2.2.2.2.2
  refine lv_iload_n hx hb d21_0 rfl (lv_at hl 1 rfl) ?_
  refine lv_iload_n hx hb d21_1 rfl (lv_at hl 0 rfl) ?_
  refine lv_icmp_ge hx hb d21_2 rfl (fun _ => ?_) (fun h9 => absurd (nI_pos' (by omega)) h9)
  exact ms_vret X d21_37 hP hD hS (Nat.le_of_ble_eq_true rfl) (Nat.le_of_ble_eq_true rfl) (⟨rfl, rfl⟩)

set_option maxRecDepth 100000 in
set_option maxHeartbeats 8000000 in
theorem c_cpRB (l : Launch) (D : va_G) (dA : Nat → ClassId) (s0 : State) (hE : ms_EV D dA s0) (v : Nat) (k : Nat) (n : Nat) (f : Nat → Int32) (hkn : k ≤ n) (hn : n ≤ 142) (hf : sb_Fit f) : ms_C l D s0 yM22 bM22 5 (Option.some (Jvm.ClassFile.FieldType.array Jvm.ClassFile.FieldType.byte)) 1 100 1 142 [.ref v, .int 0, .int (nI k)] [(v, .inl (dA 2, n, .inl f))] (fun vv ww => ∃ (u : Nat) (g : Nat → Int32), vv = some (.ref u) ∧ (∀ i, i < k → g i = f i) ∧ sb_Fit g ∧ ww = [(v, .inl (dA 2, n, .inl f)), (u, .inl (dA 2, k, .inl g))]) := by
  refine ms_C.mk hE.1 (by decide) (Nat.le_of_ble_eq_true rfl) [(0, .ref v), (1, .int 0), (2, .int (nI k))] rfl ?_
  intro p e s m below meth c A ls X hin hP hD hS hl
  have hx := X.1
  have hb := X.2.1
  have hml := X.2.2.1
  have hown : s.vm.findClass "java/util/Arrays" = some m.cls := X.2.2.2.1
  have hts := X.2.2.2.2.2.2.1
  have hK := X.2.2.2.2.2.2.2.2.1
  have hA := X.2.2.2.2.2.2.2.2.2.2
  refine lv_iload_n hx hb d22_0 rfl (lv_at hl 1 rfl) ?_
  refine lv_iload_n hx hb d22_1 rfl (lv_at hl 2 rfl) ?_
  refine ms_S (rest := []) (as := [.int 0, .int (nI k)]) (wr := [(v, .inl (dA 2, n, .inl f))]) X hl (c_ckLen l D dA s0 hE k (by omega)) (List.forall_mem_cons.mpr ⟨ms_k267, List.forall_mem_cons.mpr ⟨ms_k268, List.forall_mem_cons.mpr ⟨ms_k10, List.forall_mem_cons.mpr ⟨ms_k269, fun _ h => absurd h List.not_mem_nil⟩⟩⟩⟩) ⟨by decide +kernel, by decide +kernel, (by decide +kernel : (parseMethodDescriptor "(II)V").map (fun d => d.parameters.length) = some 2)⟩ hP hD hS [] [0] rfl rfl ⟨by decide, by decide, by decide⟩ ⟨⟨Nat.le_of_ble_eq_true rfl, Nat.le_of_ble_eq_true rfl⟩, Nat.le_of_ble_eq_true rfl, Nat.le_of_ble_eq_true rfl⟩ rfl (Nat.le_of_ble_eq_true rfl) d22_2 (fun vv ww H locs hR hP hD hS => ?_)
  obtain ⟨rfl, rfl⟩ := hR
  have hP : va_P D vwCl [(v, .inl (dA 2, n, .inl f))] H := hP
  have hD : va_D A [(v, .inl (dA 2, n, .inl f))] := hD
  refine W.eq (g2 := F0 m 5 ls []) rfl ?_
  refine lv_iload_n hx hb d22_5 rfl (lv_at hl 2 rfl) ?_
  refine lv_iload_n hx hb d22_6 rfl (lv_at hl 1 rfl) ?_
  refine lv_isub hx hb d22_7 ?_
  refine ms_top (y := (nI k)) (Int32.sub_zero _) ?_
  refine lv_istore_n hx hb d22_8 rfl hl (by decide) rfl (fun ls hl => ?_)
  have hl : lv_has ls 5 [(3, .int (nI k)), (0, .ref v), (1, .int 0), (2, .int (nI k))] := hl
  refine lv_iload_n hx hb d22_9 rfl (lv_at hl 0 rfl) ?_
  refine ms_newa (N' := k) (atype := .byte) (ty := .byte) (a0 := (k, .inl (fun _ => 0))) X ms_k71 rfl 2 rfl (fun _ h => h) hP hD hS (fun _ => rfl) (nI_pos (by omega)) (nI_clamp (by omega)) (Nat.le_trans (Nat.mul_le_mul_right _ (show k ≤ 142 by omega)) (by decide)) (Nat.le_of_ble_eq_true rfl) (by show _ + k ≤ 142; omega) d22_10 (fun q1 H hP hD hS => ?_)
  refine W.widen (k := 1) (n := 142) (Nat.le_refl _) (by show 0 + k ≤ 142; omega) ?_
  have hP : va_P D vwCl [(v, .inl (dA 2, n, .inl f)), (q1, .inl (dA 2, k, .inl (fun _ => 0)))] H := hP
  have hD : va_D A [(v, .inl (dA 2, n, .inl f)), (q1, .inl (dA 2, k, .inl (fun _ => 0)))] := hD
  refine lv_astore hx hb d22_12 hl (by decide) rfl (fun ls hl => ?_)
  have hl : lv_has ls 5 [(4, .ref q1), (3, .int (nI k)), (0, .ref v), (1, .int 0), (2, .int (nI k))] := hl
  refine lv_aload_n hx hb d22_14 rfl (lv_at hl 2 rfl) ?_
  refine lv_iload_n hx hb d22_15 rfl (lv_at hl 3 rfl) ?_
  refine lv_aload hx hb d22_16 (lv_at hl 0 rfl) ?_
  refine lv_iconst (v := 0) hx hb d22_18 (by decide) ?_
  refine lv_aload_n hx hb d22_19 rfl (lv_at hl 2 rfl) ?_
  refine va_alen (v := (nI n)) hx hb hK hP 0 2 rfl rfl rfl d22_20 ?_
  refine lv_iload_n hx hb d22_21 rfl (lv_at hl 3 rfl) ?_
  refine lv_isub hx hb d22_22 ?_
  refine ms_top (y := (nI n)) (Int32.sub_zero _) ?_
  refine lv_iload_n hx hb d22_23 rfl (lv_at hl 1 rfl) ?_
  refine va_mmin hx hb (by rw [hml]; exact hl.1.symm) hown (hts _ ms_k172) (hts _ ms_k173) (hts _ ms_k9) (hts _ ms_k174) (Nat.le_of_ble_eq_true rfl) (Nat.le_of_ble_eq_true rfl) (Nat.le_of_ble_eq_true rfl) (Nat.le_of_ble_eq_true rfl) d22_24 ?_
  refine ms_top (y := (nI k)) (ms_nmin (a := n) (b := k) (by omega) hkn) ?_
  refine va_copyi (ty := .byte) hx hb (by rw [hml]; exact hl.1.symm) hown (hts _ ms_k175) (hts _ ms_k177) (hts _ ms_k176) (hts _ ms_k11) hK hP hD hS 0 1 2 2 rfl rfl rfl rfl rfl (by decide) (by decide) (nI_pos (by omega)) (by rw [nI_clamp (by omega)]; show 0 + k ≤ n; omega) (by rw [nI_clamp (by omega)]; show 0 + k ≤ k; omega) (fun i hi => hf _) (Nat.le_of_ble_eq_true rfl) (Nat.le_of_ble_eq_true (by decide +kernel)) d22_27 (fun H locs hP hD hS => ?_)
  have hP : va_P D vwCl [(v, .inl (dA 2, n, .inl f)), (q1, .inl (dA 2, k, .inl (va_cpy f (fun _ => 0) 0 0 (nI k).toNatClampNeg)))] H := hP
  have hD : va_D A [(v, .inl (dA 2, n, .inl f)), (q1, .inl (dA 2, k, .inl (va_cpy f (fun _ => 0) 0 0 (nI k).toNatClampNeg)))] := hD
  refine lv_aload hx hb d22_30 (lv_at hl 0 rfl) ?_
  exact ms_aret X d22_32 hP hD hS (Nat.le_of_ble_eq_true rfl) (Nat.le_of_ble_eq_true rfl) (⟨_, _, rfl, fun i hi => by rw [pk_cpy_in (Nat.zero_le _) (by rw [nI_clamp (by omega)]; omega)]; simp, sb_fitC hf sb_fit0, rfl⟩) (Or.inr ⟨_, rfl⟩) (Or.inr ⟨_, rfl⟩)

set_option maxRecDepth 100000 in
set_option maxHeartbeats 8000000 in
theorem c_cpR (l : Launch) (D : va_G) (dA : Nat → ClassId) (s0 : State) (hE : ms_EV D dA s0) (v : Nat) (k : Nat) (n : Nat) (f : Nat → Int32) (hkn : k ≤ n) (hn : n ≤ 142) (hf : sb_Fit f) : ms_C l D s0 yM23 bM23 3 (Option.some (Jvm.ClassFile.FieldType.array Jvm.ClassFile.FieldType.byte)) 2 124 1 142 [.ref v, .int 0, .int (nI k)] [(v, .inl (dA 2, n, .inl f))] (fun vv ww => ∃ (u : Nat) (g : Nat → Int32), vv = some (.ref u) ∧ (∀ i, i < k → g i = f i) ∧ sb_Fit g ∧ ww = [(v, .inl (dA 2, n, .inl f)), (u, .inl (dA 2, k, .inl g))]) := by
  refine ms_C.mk hE.1 (by decide) (Nat.le_of_ble_eq_true rfl) [(0, .ref v), (1, .int 0), (2, .int (nI k))] rfl ?_
  intro p e s m below meth c A ls X hin hP hD hS hl
  have hx := X.1
  have hb := X.2.1
  have hml := X.2.2.1
  have hown : s.vm.findClass "java/util/Arrays" = some m.cls := X.2.2.2.1
  have hts := X.2.2.2.2.2.2.1
  have hK := X.2.2.2.2.2.2.2.2.1
  have hA := X.2.2.2.2.2.2.2.2.2.2
  refine lv_iload_n hx hb d23_0 rfl (lv_at hl 1 rfl) ?_
  refine lv_if_ne hx hb d23_1 rfl (fun h9 => absurd (by decide) h9) (fun _ => ?_)
  refine lv_iload_n hx hb d23_4 rfl (lv_at hl 2 rfl) ?_
  refine lv_aload_n hx hb d23_5 rfl (lv_at hl 0 rfl) ?_
  refine va_alen (v := (nI n)) hx hb hK hP 0 2 rfl rfl rfl d23_6 ?_
  refine lv_icmp_eq hx hb d23_7 rfl (fun hc => ?_) (fun hc => ?_)
  · refine lv_aload_n hx hb d23_17 rfl (lv_at hl 0 rfl) ?_
    refine va_clone (ad := "[B") hx hb (by rw [hml]; exact hl.1.symm) hown (hts _ ms_k165) (hts _ ms_k166) (hts _ ms_k167) (hts _ ms_k168) (hts _ ms_k169) (ms_cast hE X (ms_l (ms_t1 (List.mem_of_getElem? (i := 170) (by decide +kernel))))) hK hP hD hS hA 0 2 rfl rfl (ms_fB hK) (ms_cfit hf) (Nat.le_of_ble_eq_true rfl) (Nat.le_of_ble_eq_true rfl) (Nat.le_of_ble_eq_true rfl) (by show 0 + n ≤ 142; omega) d23_18 (fun q1 H _ hP hD hS => ?_)
    refine W.widen (k := 1) (n := 142) (Nat.le_refl _) (by show 0 + n ≤ 142; omega) ?_
    have hP : va_P D vwCl [(v, .inl (dA 2, n, .inl f)), (q1, .inl (dA 2, n, .inl f))] H := hP
    have hD : va_D A [(v, .inl (dA 2, n, .inl f)), (q1, .inl (dA 2, n, .inl f))] := hD
    refine va_castA hx hb hown (hts _ ms_k171) hP 1 rfl (ms_fB hK) d23_21 ?_
    exact ms_aret X d23_24 hP hD hS (Nat.le_of_ble_eq_true rfl) (Nat.le_of_ble_eq_true rfl) (⟨_, _, rfl, fun _ _ => rfl, hf, by rw [(nI_eq (by omega) (by omega)).mp hc]⟩) (Or.inr ⟨_, rfl⟩) (Or.inr ⟨_, rfl⟩)
  · refine lv_aload_n hx hb d23_10 rfl (lv_at hl 0 rfl) ?_
    refine lv_iload_n hx hb d23_11 rfl (lv_at hl 1 rfl) ?_
    refine lv_iload_n hx hb d23_12 rfl (lv_at hl 2 rfl) ?_
    refine ms_S (rest := []) (as := [.ref v, .int 0, .int (nI k)]) (wr := []) X hl (c_cpRB l D dA s0 hE v k n f (hkn) (hn) (hf)) (List.forall_mem_cons.mpr ⟨ms_k264, List.forall_mem_cons.mpr ⟨ms_k265, List.forall_mem_cons.mpr ⟨ms_k10, List.forall_mem_cons.mpr ⟨ms_k266, fun _ h => absurd h List.not_mem_nil⟩⟩⟩⟩) ⟨by decide +kernel, by decide +kernel, (by decide +kernel : (parseMethodDescriptor "([BII)[B").map (fun d => d.parameters.length) = some 3)⟩ hP hD hS [0] [] rfl rfl ⟨by decide, by decide, by decide⟩ ⟨⟨Nat.le_of_ble_eq_true rfl, Nat.le_of_ble_eq_true rfl⟩, Nat.le_of_ble_eq_true rfl, Nat.le_of_ble_eq_true rfl⟩ rfl (Nat.le_of_ble_eq_true rfl) d23_13 (fun vv ww H locs hR hP hD hS => ?_)
    obtain ⟨u_2, g_3, rfl, hg9, hf9, rfl⟩ := hR
    have hP : va_P D vwCl [(v, .inl (dA 2, n, .inl f)), (u_2, .inl (dA 2, k, .inl g_3))] H := hP
    have hD : va_D A [(v, .inl (dA 2, n, .inl f)), (u_2, .inl (dA 2, k, .inl g_3))] := hD
    refine W.eq (g2 := F0 m 16 ls [.ref u_2]) rfl ?_
    exact ms_aret X d23_16 hP hD hS (Nat.le_of_ble_eq_true rfl) (Nat.le_of_ble_eq_true rfl) (⟨_, _, rfl, hg9, hf9, rfl⟩) (Or.inr ⟨_, rfl⟩) (Or.inr ⟨_, rfl⟩)

set_option maxRecDepth 100000 in
set_option maxHeartbeats 8000000 in
theorem c_Sinit2 (l : Launch) (D : va_G) (dA : Nat → ClassId) (s0 : State) (hE : ms_EV D dA s0) (t : Nat) (h : Nat) (v : Nat) (k : Nat) (n : Nat) (mb : Int32) (f : Nat → Int32) (hkn : k ≤ n) (hn : n ≤ 142) (hf : sb_Fit f) : ms_C l D s0 yM24 bM24 5 (Option.none : Option Jvm.ClassFile.FieldType) 3 146 1 142 [.ref t, .ref h, .null] [(t, .inr (5, [.null, .int 0, .int 0, .int 0])), (h, .inr (3, [.ref v, .int 0, .int mb, .int (nI k)])), (v, .inl (dA 2, n, .inl f))] (fun vv ww => ∃ (u : Nat) (g : Nat → Int32), vv = none ∧ (∀ i, i < k → g i = f i) ∧ sb_Fit g ∧ ww = [(h, .inr (3, [.ref v, .int 0, .int mb, .int (nI k)])), (v, .inl (dA 2, n, .inl f)), (t, .inr (5, [.ref u, .int 0, .int 0, .int 0])), (u, .inl (dA 2, k, .inl g))]) := by
  refine ms_C.mk hE.1 (by decide) (Nat.le_of_ble_eq_true rfl) [(0, .ref t), (1, .ref h), (2, .null)] rfl ?_
  intro p e s m below meth c A ls X hin hP hD hS hl
  have hx := X.1
  have hb := X.2.1
  have hml := X.2.2.1
  have hown : s.vm.findClass "java/lang/String" = some m.cls := X.2.2.2.1
  have hts := X.2.2.2.2.2.2.1
  have hK := X.2.2.2.2.2.2.2.2.1
  have hA := X.2.2.2.2.2.2.2.2.2.2
  refine lv_aload_n hx hb d24_0 rfl (lv_at hl 0 rfl) ?_
  refine W.objInit hx hb hown (hts _ ms_k253) (hts _ ms_k37) (hts _ ms_k38) rfl (by rw [hml]; exact hl.1) rfl d24_1 (Nat.le_of_ble_eq_true rfl) (Nat.le_of_ble_eq_true rfl) ?_
  refine W.eq (g2 := F0 m 4 ls []) rfl ?_
  refine lv_aload_n hx hb d24_4 rfl (lv_at hl 1 rfl) ?_
  refine ms_U (C := "java/lang/StringBuilder") (x := ⟨"java/lang/AbstractStringBuilder", "getValue", "()[B"⟩) (owner := "java/lang/AbstractStringBuilder") (rest := []) (as := []) (wr := [(t, .inr (5, [.null, .int 0, .int 0, .int 0])), (v, .inl (dA 2, n, .inl f))]) X hl (c_getVal l D dA s0 hE h v (nI k) mb) (List.forall_mem_cons.mpr ⟨ms_k254, List.forall_mem_cons.mpr ⟨ms_k256, List.forall_mem_cons.mpr ⟨ms_k257, List.forall_mem_cons.mpr ⟨ms_k255, List.forall_mem_cons.mpr ⟨ms_k2, List.forall_mem_cons.mpr ⟨ms_k258, fun _ h => absurd h List.not_mem_nil⟩⟩⟩⟩⟩⟩) rfl ⟨by decide +kernel, by decide +kernel, (by decide +kernel : (parseMethodDescriptor "()[B").map (fun d => d.parameters.length) = some 0)⟩ (va_recv hK hP rfl (q0 := 1) rfl) hP hD hS [1] [0, 2] rfl rfl ⟨by decide, by decide, by decide⟩ ⟨⟨Nat.le_of_ble_eq_true rfl, Nat.le_of_ble_eq_true rfl⟩, Nat.le_of_ble_eq_true rfl, Nat.le_of_ble_eq_true rfl⟩ rfl (Nat.le_of_ble_eq_true rfl) d24_5 (fun vv ww H locs hR hP hD hS => ?_)
  obtain ⟨rfl, rfl⟩ := hR
  have hP : va_P D vwCl [(t, .inr (5, [.null, .int 0, .int 0, .int 0])), (v, .inl (dA 2, n, .inl f)), (h, .inr (3, [.ref v, .int 0, .int mb, .int (nI k)]))] H := hP
  have hD : va_D A [(t, .inr (5, [.null, .int 0, .int 0, .int 0])), (v, .inl (dA 2, n, .inl f)), (h, .inr (3, [.ref v, .int 0, .int mb, .int (nI k)]))] := hD
  refine W.eq (g2 := F0 m 8 ls [.ref v]) rfl ?_
  refine lv_astore_n hx hb d24_8 rfl hl (by decide) rfl (fun ls hl => ?_)
  have hl : lv_has ls 5 [(3, .ref v), (0, .ref t), (1, .ref h), (2, .null)] := hl
  refine lv_aload_n hx hb d24_9 rfl (lv_at hl 2 rfl) ?_
  refine ms_O (C := "java/lang/StringBuilder") (x := ⟨"java/lang/AbstractStringBuilder", "length", "()I"⟩) (owner := "java/lang/AbstractStringBuilder") (rest := []) (as := []) (wr := [(t, .inr (5, [.null, .int 0, .int 0, .int 0])), (v, .inl (dA 2, n, .inl f))]) X hl (c_SBlen l D dA s0 hE h v (nI k) mb) (List.forall_mem_cons.mpr ⟨ms_k259, List.forall_mem_cons.mpr ⟨ms_k1832, List.forall_mem_cons.mpr ⟨ms_k134, List.forall_mem_cons.mpr ⟨ms_k1837, List.forall_mem_cons.mpr ⟨ms_k130, List.forall_mem_cons.mpr ⟨ms_k3, List.forall_mem_cons.mpr ⟨ms_k132, fun _ h => absurd h List.not_mem_nil⟩⟩⟩⟩⟩⟩⟩) ms_k135 ⟨by decide +kernel, by decide +kernel, (by decide +kernel : (parseMethodDescriptor "()I").map (fun d => d.parameters.length) = some 0)⟩ (va_recv hK hP rfl (q0 := 2) rfl) hP hD hS [2] [0, 1] rfl rfl ⟨by decide, by decide, by decide⟩ ⟨⟨Nat.le_of_ble_eq_true rfl, Nat.le_of_ble_eq_true rfl⟩, Nat.le_of_ble_eq_true rfl, Nat.le_of_ble_eq_true rfl⟩ rfl (Nat.le_of_ble_eq_true rfl) d24_10 (fun vv ww H locs hR hP hD hS => ?_)
  obtain ⟨rfl, rfl⟩ := hR
  have hP : va_P D vwCl [(t, .inr (5, [.null, .int 0, .int 0, .int 0])), (v, .inl (dA 2, n, .inl f)), (h, .inr (3, [.ref v, .int 0, .int mb, .int (nI k)]))] H := hP
  have hD : va_D A [(t, .inr (5, [.null, .int 0, .int 0, .int 0])), (v, .inl (dA 2, n, .inl f)), (h, .inr (3, [.ref v, .int 0, .int mb, .int (nI k)]))] := hD
  refine W.eq (g2 := F0 m 13 ls [.int (nI k)]) rfl ?_
  refine lv_istore hx hb d24_13 hl (by decide) rfl (fun ls hl => ?_)
  have hl : lv_has ls 5 [(4, .int (nI k)), (3, .ref v), (0, .ref t), (1, .ref h), (2, .null)] := hl
  refine lv_aload_n hx hb d24_15 rfl (lv_at hl 3 rfl) ?_
  refine ms_U (C := "java/lang/StringBuilder") (x := ⟨"java/lang/AbstractStringBuilder", "isLatin1", "()Z"⟩) (owner := "java/lang/AbstractStringBuilder") (rest := []) (as := []) (wr := [(t, .inr (5, [.null, .int 0, .int 0, .int 0])), (v, .inl (dA 2, n, .inl f))]) X hl (c_isLat l D dA s0 hE h v (nI k) mb) (List.forall_mem_cons.mpr ⟨ms_k260, List.forall_mem_cons.mpr ⟨ms_k180, List.forall_mem_cons.mpr ⟨ms_k181, List.forall_mem_cons.mpr ⟨ms_k179, List.forall_mem_cons.mpr ⟨ms_k2, List.forall_mem_cons.mpr ⟨ms_k182, fun _ h => absurd h List.not_mem_nil⟩⟩⟩⟩⟩⟩) rfl ⟨by decide +kernel, by decide +kernel, (by decide +kernel : (parseMethodDescriptor "()Z").map (fun d => d.parameters.length) = some 0)⟩ (va_recv hK hP rfl (q0 := 2) rfl) hP hD hS [2] [0, 1] rfl rfl ⟨by decide, by decide, by decide⟩ ⟨⟨Nat.le_of_ble_eq_true rfl, Nat.le_of_ble_eq_true rfl⟩, Nat.le_of_ble_eq_true rfl, Nat.le_of_ble_eq_true rfl⟩ rfl (Nat.le_of_ble_eq_true rfl) d24_16 (fun vv ww H locs hR hP hD hS => ?_)
  obtain ⟨rfl, rfl⟩ := hR
  have hP : va_P D vwCl [(t, .inr (5, [.null, .int 0, .int 0, .int 0])), (v, .inl (dA 2, n, .inl f)), (h, .inr (3, [.ref v, .int 0, .int mb, .int (nI k)]))] H := hP
  have hD : va_D A [(t, .inr (5, [.null, .int 0, .int 0, .int 0])), (v, .inl (dA 2, n, .inl f)), (h, .inr (3, [.ref v, .int 0, .int mb, .int (nI k)]))] := hD
  refine W.eq (g2 := F0 m 19 ls [.int 1]) rfl ?_
  refine lv_if_eq hx hb d24_19 rfl (fun h9 => absurd h9 (by decide)) (fun _ => ?_)
  refine lv_aload_n hx hb d24_22 rfl (lv_at hl 2 rfl) ?_
  refine lv_iconst (v := 0) hx hb d24_23 (by decide) ?_
  refine va_putF (D := D) (ci := 5) (v := .int 0) (ty := .byte) (C := kR5) (T := kT5) (N := 4) hx hb hts ku5 kt5 kp5 kn5 hown hK hP hD hS 0 rfl rfl 1 (by decide) (hts _ ms_k285) (fun _ h => h) rfl hin rfl (by decide +kernel) rfl rfl (Nat.le_of_ble_eq_true rfl) d24_24 (fun H locs hP hD hS => ?_)
  have hP : va_P D vwCl [(t, .inr (5, [.null, .int 0, .int 0, .int 0])), (v, .inl (dA 2, n, .inl f)), (h, .inr (3, [.ref v, .int 0, .int mb, .int (nI k)]))] H := hP
  have hD : va_D A [(t, .inr (5, [.null, .int 0, .int 0, .int 0])), (v, .inl (dA 2, n, .inl f)), (h, .inr (3, [.ref v, .int 0, .int mb, .int (nI k)]))] := hD
  refine lv_aload_n hx hb d24_27 rfl (lv_at hl 2 rfl) ?_
  refine lv_aload_n hx hb d24_28 rfl (lv_at hl 1 rfl) ?_
  refine lv_iconst (v := 0) hx hb d24_29 (by decide) ?_
  refine lv_iload hx hb d24_30 (lv_at hl 0 rfl) ?_
  refine ms_S (rest := [.ref t]) (as := [.ref v, .int 0, .int (nI k)]) (wr := [(t, .inr (5, [.null, .int 0, .int 0, .int 0])), (h, .inr (3, [.ref v, .int 0, .int mb, .int (nI k)]))]) X hl (c_cpR l D dA s0 hE v k n f (hkn) (hn) (hf)) (List.forall_mem_cons.mpr ⟨ms_k261, List.forall_mem_cons.mpr ⟨ms_k262, List.forall_mem_cons.mpr ⟨ms_k10, List.forall_mem_cons.mpr ⟨ms_k263, fun _ h => absurd h List.not_mem_nil⟩⟩⟩⟩) ⟨by decide +kernel, by decide +kernel, (by decide +kernel : (parseMethodDescriptor "([BII)[B").map (fun d => d.parameters.length) = some 3)⟩ hP hD hS [1] [0, 2] rfl rfl ⟨by decide, by decide, by decide⟩ ⟨⟨Nat.le_of_ble_eq_true rfl, Nat.le_of_ble_eq_true rfl⟩, Nat.le_of_ble_eq_true rfl, Nat.le_of_ble_eq_true rfl⟩ rfl (Nat.le_of_ble_eq_true rfl) d24_32 (fun vv ww H locs hR hP hD hS => ?_)
  obtain ⟨u_1, g_2, rfl, hg9, hf9, rfl⟩ := hR
  have hP : va_P D vwCl [(t, .inr (5, [.null, .int 0, .int 0, .int 0])), (h, .inr (3, [.ref v, .int 0, .int mb, .int (nI k)])), (v, .inl (dA 2, n, .inl f)), (u_1, .inl (dA 2, k, .inl g_2))] H := hP
  have hD : va_D A [(t, .inr (5, [.null, .int 0, .int 0, .int 0])), (h, .inr (3, [.ref v, .int 0, .int mb, .int (nI k)])), (v, .inl (dA 2, n, .inl f)), (u_1, .inl (dA 2, k, .inl g_2))] := hD
  refine W.eq (g2 := F0 m 35 ls [.ref u_1, .ref t]) rfl ?_
  refine va_putF (D := D) (ci := 5) (v := .ref u_1) (ty := (.array .byte)) (C := kR5) (T := kT5) (N := 4) hx hb hts ku5 kt5 kp5 kn5 hown hK hP hD hS 0 rfl rfl 0 (by decide) (hts _ ms_k284) (fun _ h => h) rfl hin rfl (by decide +kernel) rfl rfl (Nat.le_of_ble_eq_true rfl) d24_35 (fun H locs hP hD hS => ?_)
  have hP : va_P D vwCl [(t, .inr (5, [.ref u_1, .int 0, .int 0, .int 0])), (h, .inr (3, [.ref v, .int 0, .int mb, .int (nI k)])), (v, .inl (dA 2, n, .inl f)), (u_1, .inl (dA 2, k, .inl g_2))] H := hP
  have hD : va_D A [(t, .inr (5, [.ref u_1, .int 0, .int 0, .int 0])), (h, .inr (3, [.ref v, .int 0, .int mb, .int (nI k)])), (v, .inl (dA 2, n, .inl f)), (u_1, .inl (dA 2, k, .inl g_2))] := hD
  refine lv_goto hx hb d24_38 rfl ?_
  have hP := hP.sub (ws' := [(h, .inr (3, [.ref v, .int 0, .int mb, .int (nI k)])), (v, .inl (dA 2, n, .inl f)), (t, .inr (5, [.ref u_1, .int 0, .int 0, .int 0])), (u_1, .inl (dA 2, k, .inl g_2))]) [1, 2, 0, 3] rfl
  have hD := hD.sub (ws' := [(h, .inr (3, [.ref v, .int 0, .int mb, .int (nI k)])), (v, .inl (dA 2, n, .inl f)), (t, .inr (5, [.ref u_1, .int 0, .int 0, .int 0])), (u_1, .inl (dA 2, k, .inl g_2))]) [1, 2, 0, 3] (by decide) rfl
  exact ms_vret X d24_97 hP hD hS (Nat.le_of_ble_eq_true rfl) (Nat.le_of_ble_eq_true rfl) (⟨_, _, rfl, hg9, hf9, rfl⟩)

set_option maxRecDepth 100000 in
set_option maxHeartbeats 8000000 in
theorem c_Sinit1 (l : Launch) (D : va_G) (dA : Nat → ClassId) (s0 : State) (hE : ms_EV D dA s0) (t : Nat) (h : Nat) (v : Nat) (k : Nat) (n : Nat) (mb : Int32) (f : Nat → Int32) (hkn : k ≤ n) (hn : n ≤ 142) (hf : sb_Fit f) : ms_C l D s0 yM25 bM25 2 (Option.none : Option Jvm.ClassFile.FieldType) 4 170 1 142 [.ref t, .ref h] [(t, .inr (5, [.null, .int 0, .int 0, .int 0])), (h, .inr (3, [.ref v, .int 0, .int mb, .int (nI k)])), (v, .inl (dA 2, n, .inl f))] (fun vv ww => ∃ (u : Nat) (g : Nat → Int32), vv = none ∧ (∀ i, i < k → g i = f i) ∧ sb_Fit g ∧ ww = [(h, .inr (3, [.ref v, .int 0, .int mb, .int (nI k)])), (v, .inl (dA 2, n, .inl f)), (t, .inr (5, [.ref u, .int 0, .int 0, .int 0])), (u, .inl (dA 2, k, .inl g))]) := by
  refine ms_C.mk hE.1 (by decide) (Nat.le_of_ble_eq_true rfl) [(0, .ref t), (1, .ref h)] rfl ?_
  intro p e s m below meth c A ls X hin hP hD hS hl
  have hx := X.1
  have hb := X.2.1
  have hml := X.2.2.1
  have hown : s.vm.findClass "java/lang/String" = some m.cls := X.2.2.2.1
  have hts := X.2.2.2.2.2.2.1
  have hK := X.2.2.2.2.2.2.2.2.1
  have hA := X.2.2.2.2.2.2.2.2.2.2
  refine lv_aload_n hx hb d25_0 rfl (lv_at hl 0 rfl) ?_
  refine lv_aload_n hx hb d25_1 rfl (lv_at hl 1 rfl) ?_
  refine lv_null hx hb d25_2 ?_
  refine ms_I (rest := []) (as := [.ref h, .null]) (wr := []) X hl (c_Sinit2 l D dA s0 hE t h v k n mb f (hkn) (hn) (hf)) (List.forall_mem_cons.mpr ⟨ms_k250, List.forall_mem_cons.mpr ⟨ms_k251, List.forall_mem_cons.mpr ⟨ms_k4, List.forall_mem_cons.mpr ⟨ms_k252, fun _ h => absurd h List.not_mem_nil⟩⟩⟩⟩) rfl ⟨by decide +kernel, by decide +kernel, (by decide +kernel : (parseMethodDescriptor "(Ljava/lang/AbstractStringBuilder;Ljava/lang/Void;)V").map (fun d => d.parameters.length) = some 2)⟩ hP hD hS [0, 1, 2] [] rfl rfl ⟨by decide, by decide, by decide⟩ ⟨⟨Nat.le_of_ble_eq_true rfl, Nat.le_of_ble_eq_true rfl⟩, Nat.le_of_ble_eq_true rfl, Nat.le_of_ble_eq_true rfl⟩ rfl (Nat.le_of_ble_eq_true rfl) d25_3 (fun vv ww H locs hR hP hD hS => ?_)
  obtain ⟨u_1, g_2, rfl, hg9, hf9, rfl⟩ := hR
  have hP : va_P D vwCl [(h, .inr (3, [.ref v, .int 0, .int mb, .int (nI k)])), (v, .inl (dA 2, n, .inl f)), (t, .inr (5, [.ref u_1, .int 0, .int 0, .int 0])), (u_1, .inl (dA 2, k, .inl g_2))] H := hP
  have hD : va_D A [(h, .inr (3, [.ref v, .int 0, .int mb, .int (nI k)])), (v, .inl (dA 2, n, .inl f)), (t, .inr (5, [.ref u_1, .int 0, .int 0, .int 0])), (u_1, .inl (dA 2, k, .inl g_2))] := hD
  refine W.eq (g2 := F0 m 6 ls []) rfl ?_
  exact ms_vret X d25_6 hP hD hS (Nat.le_of_ble_eq_true rfl) (Nat.le_of_ble_eq_true rfl) (⟨_, _, rfl, hg9, hf9, rfl⟩)

set_option maxRecDepth 100000 in
set_option maxHeartbeats 8000000 in
theorem c_toStr (l : Launch) (D : va_G) (dA : Nat → ClassId) (s0 : State) (hE : ms_EV D dA s0) (h : Nat) (v : Nat) (k : Nat) (n : Nat) (mb : Int32) (f : Nat → Int32) (hkn : k ≤ n) (hn : n ≤ 142) (hf : sb_Fit f) : ms_C l D s0 yM26 bM26 1 (Option.some (Jvm.ClassFile.FieldType.object "java/lang/String")) 5 191 2 146 [.ref h] [(h, .inr (3, [.ref v, .int 0, .int mb, .int (nI k)])), (v, .inl (dA 2, n, .inl f))] (fun vv ww => ∃ (t u : Nat) (g : Nat → Int32), vv = some (.ref t) ∧ (∀ i, i < k → g i = f i) ∧ sb_Fit g ∧ ww = [(h, .inr (3, [.ref v, .int 0, .int mb, .int (nI k)])), (v, .inl (dA 2, n, .inl f)), (t, .inr (5, [.ref u, .int 0, .int 0, .int 0])), (u, .inl (dA 2, k, .inl g))]) := by
  refine ms_C.mk hE.1 (by decide) (Nat.le_of_ble_eq_true rfl) [(0, .ref h)] rfl ?_
  intro p e s m below meth c A ls X hin hP hD hS hl
  have hx := X.1
  have hb := X.2.1
  have hml := X.2.2.1
  have hown : s.vm.findClass "java/lang/StringBuilder" = some m.cls := X.2.2.2.1
  have hts := X.2.2.2.2.2.2.1
  have hK := X.2.2.2.2.2.2.2.2.1
  have hA := X.2.2.2.2.2.2.2.2.2.2
  refine va_new (ci := 5) (fs := [.null, .int 0, .int 0, .int 0]) (C := kR5) (T := kT5) (N := 4) hx hb hts ku5 kt5 kp5 hown (hts _ ms_k245) (hts _ ms_k246) (hts _ ms_k4) hK hP hD hS hA rfl kz5 (Nat.le_of_ble_eq_true rfl) (Nat.le_of_ble_eq_true rfl) d26_0 (fun q1 H hP hD hS => ?_)
  have hP : va_P D vwCl [(h, .inr (3, [.ref v, .int 0, .int mb, .int (nI k)])), (v, .inl (dA 2, n, .inl f)), (q1, .inr (5, [.null, .int 0, .int 0, .int 0]))] H := hP
  have hD : va_D A [(h, .inr (3, [.ref v, .int 0, .int mb, .int (nI k)])), (v, .inl (dA 2, n, .inl f)), (q1, .inr (5, [.null, .int 0, .int 0, .int 0]))] := hD
  refine lv_dup hx hb d26_3 rfl ?_
  refine lv_aload_n hx hb d26_4 rfl (lv_at hl 0 rfl) ?_
  refine ms_I (rest := [.ref q1]) (as := [.ref h]) (wr := []) X hl (c_Sinit1 l D dA s0 hE q1 h v k n mb f (hkn) (hn) (hf)) (List.forall_mem_cons.mpr ⟨ms_k247, List.forall_mem_cons.mpr ⟨ms_k248, List.forall_mem_cons.mpr ⟨ms_k4, List.forall_mem_cons.mpr ⟨ms_k249, fun _ h => absurd h List.not_mem_nil⟩⟩⟩⟩) rfl ⟨by decide +kernel, by decide +kernel, (by decide +kernel : (parseMethodDescriptor "(Ljava/lang/StringBuilder;)V").map (fun d => d.parameters.length) = some 1)⟩ hP hD hS [2, 0, 1] [] rfl rfl ⟨by decide, by decide, by decide⟩ ⟨⟨Nat.le_of_ble_eq_true rfl, Nat.le_of_ble_eq_true rfl⟩, Nat.le_of_ble_eq_true rfl, Nat.le_of_ble_eq_true rfl⟩ rfl (Nat.le_of_ble_eq_true rfl) d26_5 (fun vv ww H locs hR hP hD hS => ?_)
  obtain ⟨u_2, g_3, rfl, hg9, hf9, rfl⟩ := hR
  have hP : va_P D vwCl [(h, .inr (3, [.ref v, .int 0, .int mb, .int (nI k)])), (v, .inl (dA 2, n, .inl f)), (q1, .inr (5, [.ref u_2, .int 0, .int 0, .int 0])), (u_2, .inl (dA 2, k, .inl g_3))] H := hP
  have hD : va_D A [(h, .inr (3, [.ref v, .int 0, .int mb, .int (nI k)])), (v, .inl (dA 2, n, .inl f)), (q1, .inr (5, [.ref u_2, .int 0, .int 0, .int 0])), (u_2, .inl (dA 2, k, .inl g_3))] := hD
  refine W.eq (g2 := F0 m 8 ls [.ref q1]) rfl ?_
  exact ms_aret X d26_8 hP hD hS (Nat.le_of_ble_eq_true rfl) (Nat.le_of_ble_eq_true rfl) (⟨_, _, _, rfl, hg9, hf9, rfl⟩) (Or.inl ⟨_, rfl⟩) (Or.inr ⟨_, rfl⟩)
