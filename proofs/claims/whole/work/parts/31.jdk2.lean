theorem ms_k16 : (Jvm.Cond.initialized "java/util/AbstractCollection") ∈ ms_tb := ms_i1 16 (by decide +kernel) (by decide +kernel)
theorem ms_k17 : (Jvm.Cond.initialized "java/util/AbstractList") ∈ ms_tb := ms_i1 17 (by decide +kernel) (by decide +kernel)
theorem ms_k44 : (Jvm.Cond.methodLink "java/lang/StringBuilder" (1 : Nat) ({ cls := "java/lang/AbstractStringBuilder", name := "<init>", desc := "(I)V" } : Jvm.MethodName)) ∈ ms_tb := ms_i1 44 (by decide +kernel) (by decide +kernel)
theorem ms_k45 : (Jvm.Cond.instanceMethod ({ cls := "java/lang/AbstractStringBuilder", name := "<init>", desc := "(I)V" } : Jvm.MethodName)) ∈ ms_tb := ms_i1 45 (by decide +kernel) (by decide +kernel)
theorem ms_k46 : (Jvm.Cond.code ({ cls := "java/lang/AbstractStringBuilder", name := "<init>", desc := "(I)V" } : Jvm.MethodName) prog_16_method_2_code (2 : Nat) (Option.none : Option Jvm.ClassFile.FieldType)) ∈ ms_tb := ms_i1 46 (by decide +kernel) (by decide +kernel)
theorem ms_k47 : (Jvm.Cond.methodLink "java/lang/AbstractStringBuilder" (3 : Nat) ({ cls := "java/lang/Object", name := "<init>", desc := "()V" } : Jvm.MethodName)) ∈ ms_tb := ms_i1 47 (by decide +kernel) (by decide +kernel)
theorem ms_k124 : (Jvm.Cond.arrayClass Jvm.ClassFile.FieldType.int) ∈ ms_tb := ms_i1 124 (by decide +kernel) (by decide +kernel)
theorem ms_k327 : (Jvm.Cond.methodLink "java/util/ArrayList" (1 : Nat) ({ cls := "java/util/AbstractList", name := "<init>", desc := "()V" } : Jvm.MethodName)) ∈ ms_tb := ms_i2 87 (by decide +kernel) (by decide +kernel)
theorem ms_k328 : (Jvm.Cond.instanceMethod ({ cls := "java/util/AbstractList", name := "<init>", desc := "()V" } : Jvm.MethodName)) ∈ ms_tb := ms_i2 88 (by decide +kernel) (by decide +kernel)
theorem ms_k329 : (Jvm.Cond.code ({ cls := "java/util/AbstractList", name := "<init>", desc := "()V" } : Jvm.MethodName) prog_29_method_1_code (1 : Nat) (Option.none : Option Jvm.ClassFile.FieldType)) ∈ ms_tb := ms_i2 89 (by decide +kernel) (by decide +kernel)
theorem ms_k330 : (Jvm.Cond.methodLink "java/util/AbstractList" (1 : Nat) ({ cls := "java/util/AbstractCollection", name := "<init>", desc := "()V" } : Jvm.MethodName)) ∈ ms_tb := ms_i2 90 (by decide +kernel) (by decide +kernel)
theorem ms_k331 : (Jvm.Cond.instanceMethod ({ cls := "java/util/AbstractCollection", name := "<init>", desc := "()V" } : Jvm.MethodName)) ∈ ms_tb := ms_i2 91 (by decide +kernel) (by decide +kernel)
theorem ms_k332 : (Jvm.Cond.code ({ cls := "java/util/AbstractCollection", name := "<init>", desc := "()V" } : Jvm.MethodName) prog_28_method_1_code (1 : Nat) (Option.none : Option Jvm.ClassFile.FieldType)) ∈ ms_tb := ms_i2 92 (by decide +kernel) (by decide +kernel)
theorem ms_k333 : (Jvm.Cond.methodLink "java/util/AbstractCollection" (1 : Nat) ({ cls := "java/lang/Object", name := "<init>", desc := "()V" } : Jvm.MethodName)) ∈ ms_tb := ms_i2 93 (by decide +kernel) (by decide +kernel)
theorem ms_k334 : (Jvm.Cond.fieldLink "java/util/ArrayList" (39 : Nat) "java/util/ArrayList" "DEFAULTCAPACITY_EMPTY_ELEMENTDATA" "[Ljava/lang/Object;") ∈ ms_tb := ms_i2 94 (by decide +kernel) (by decide +kernel)
theorem ms_k338 : (Jvm.Cond.fieldLink "java/util/AbstractList" (7 : Nat) "java/util/AbstractList" "modCount" "I") ∈ ms_tb := ms_i2 98 (by decide +kernel) (by decide +kernel)
theorem ms_k339 : (Jvm.Cond.fieldLink "java/util/ArrayList" (63 : Nat) "java/util/ArrayList" "modCount" "I") ∈ ms_tb := ms_i2 99 (by decide +kernel) (by decide +kernel)
theorem ms_k340 : (Jvm.Cond.sameField "java/util/ArrayList" "java/util/AbstractList" "modCount" "I") ∈ ms_tb := ms_i2 100 (by decide +kernel) (by decide +kernel)
theorem ms_k498 : (Jvm.Cond.methodLink "java/util/ArrayList" (131 : Nat) ({ cls := "java/util/ArrayList", name := "add", desc := "(Ljava/lang/Object;[Ljava/lang/Object;I)V" } : Jvm.MethodName)) ∈ ms_tb := ms_i3 18 (by decide +kernel) (by decide +kernel)
theorem ms_k500 : (Jvm.Cond.instanceMethod ({ cls := "java/util/ArrayList", name := "add", desc := "(Ljava/lang/Object;[Ljava/lang/Object;I)V" } : Jvm.MethodName)) ∈ ms_tb := ms_i3 20 (by decide +kernel) (by decide +kernel)
theorem ms_k501 : (Jvm.Cond.code ({ cls := "java/util/ArrayList", name := "add", desc := "(Ljava/lang/Object;[Ljava/lang/Object;I)V" } : Jvm.MethodName) prog_30_method_24_code (4 : Nat) (Option.none : Option Jvm.ClassFile.FieldType)) ∈ ms_tb := ms_i3 21 (by decide +kernel) (by decide +kernel)
theorem ms_k502 : (Jvm.Cond.methodLink "java/util/ArrayList" (129 : Nat) ({ cls := "java/util/ArrayList", name := "grow", desc := "()[Ljava/lang/Object;" } : Jvm.MethodName)) ∈ ms_tb := ms_i3 22 (by decide +kernel) (by decide +kernel)
theorem ms_k504 : (Jvm.Cond.instanceMethod ({ cls := "java/util/ArrayList", name := "grow", desc := "()[Ljava/lang/Object;" } : Jvm.MethodName)) ∈ ms_tb := ms_i3 24 (by decide +kernel) (by decide +kernel)
theorem ms_k505 : (Jvm.Cond.code ({ cls := "java/util/ArrayList", name := "grow", desc := "()[Ljava/lang/Object;" } : Jvm.MethodName) prog_30_method_7_code (1 : Nat) (Option.some (Jvm.ClassFile.FieldType.array (Jvm.ClassFile.FieldType.object "java/lang/Object")))) ∈ ms_tb := ms_i3 25 (by decide +kernel) (by decide +kernel)
theorem ms_k506 : (Jvm.Cond.methodLink "java/util/ArrayList" (69 : Nat) ({ cls := "java/util/ArrayList", name := "grow", desc := "(I)[Ljava/lang/Object;" } : Jvm.MethodName)) ∈ ms_tb := ms_i3 26 (by decide +kernel) (by decide +kernel)
theorem ms_k508 : (Jvm.Cond.instanceMethod ({ cls := "java/util/ArrayList", name := "grow", desc := "(I)[Ljava/lang/Object;" } : Jvm.MethodName)) ∈ ms_tb := ms_i3 28 (by decide +kernel) (by decide +kernel)
theorem ms_k509 : (Jvm.Cond.code ({ cls := "java/util/ArrayList", name := "grow", desc := "(I)[Ljava/lang/Object;" } : Jvm.MethodName) prog_30_method_6_code (4 : Nat) (Option.some (Jvm.ClassFile.FieldType.array (Jvm.ClassFile.FieldType.object "java/lang/Object")))) ∈ ms_tb := ms_i3 29 (by decide +kernel) (by decide +kernel)
theorem ms_k510 : (Jvm.Cond.methodLink "java/util/ArrayList" (73 : Nat) ({ cls := "jdk/internal/util/ArraysSupport", name := "newLength", desc := "(III)I" } : Jvm.MethodName)) ∈ ms_tb := ms_i3 30 (by decide +kernel) (by decide +kernel)
theorem ms_k511 : (Jvm.Cond.methodLink "java/util/ArrayList" (66 : Nat) ({ cls := "java/util/Arrays", name := "copyOf", desc := "([Ljava/lang/Object;I)[Ljava/lang/Object;" } : Jvm.MethodName)) ∈ ms_tb := ms_i3 31 (by decide +kernel) (by decide +kernel)
theorem ms_k512 : (Jvm.Cond.static ({ cls := "java/util/Arrays", name := "copyOf", desc := "([Ljava/lang/Object;I)[Ljava/lang/Object;" } : Jvm.MethodName)) ∈ ms_tb := ms_i3 32 (by decide +kernel) (by decide +kernel)
theorem ms_k513 : (Jvm.Cond.code ({ cls := "java/util/Arrays", name := "copyOf", desc := "([Ljava/lang/Object;I)[Ljava/lang/Object;" } : Jvm.MethodName) prog_31_method_119_code (2 : Nat) (Option.some (Jvm.ClassFile.FieldType.array (Jvm.ClassFile.FieldType.object "java/lang/Object")))) ∈ ms_tb := ms_i3 33 (by decide +kernel) (by decide +kernel)
theorem ms_k514 : (Jvm.Cond.methodLink "java/util/Arrays" (86 : Nat) ({ cls := "java/lang/Object", name := "getClass", desc := "()Ljava/lang/Class;" } : Jvm.MethodName)) ∈ ms_tb := ms_i3 34 (by decide +kernel) (by decide +kernel)
theorem ms_k515 : (Jvm.Cond.instanceMethod ({ cls := "java/lang/Object", name := "getClass", desc := "()Ljava/lang/Class;" } : Jvm.MethodName)) ∈ ms_tb := ms_i3 35 (by decide +kernel) (by decide +kernel)
theorem ms_k532 : (Jvm.Cond.native ({ cls := "java/lang/Object", name := "getClass", desc := "()Ljava/lang/Class;" } : Jvm.MethodName)) ∈ ms_tb := ms_i3 52 (by decide +kernel) (by decide +kernel)
theorem ms_k533 : (Jvm.Cond.methodLink "java/util/Arrays" (300 : Nat) ({ cls := "java/util/Arrays", name := "copyOf", desc := "([Ljava/lang/Object;ILjava/lang/Class;)[Ljava/lang/Object;" } : Jvm.MethodName)) ∈ ms_tb := ms_i3 53 (by decide +kernel) (by decide +kernel)
theorem ms_k534 : (Jvm.Cond.static ({ cls := "java/util/Arrays", name := "copyOf", desc := "([Ljava/lang/Object;ILjava/lang/Class;)[Ljava/lang/Object;" } : Jvm.MethodName)) ∈ ms_tb := ms_i3 54 (by decide +kernel) (by decide +kernel)
theorem ms_k535 : (Jvm.Cond.code ({ cls := "java/util/Arrays", name := "copyOf", desc := "([Ljava/lang/Object;ILjava/lang/Class;)[Ljava/lang/Object;" } : Jvm.MethodName) prog_31_method_120_code (4 : Nat) (Option.some (Jvm.ClassFile.FieldType.array (Jvm.ClassFile.FieldType.object "java/lang/Object")))) ∈ ms_tb := ms_i3 55 (by decide +kernel) (by decide +kernel)
theorem ms_k536 : (Jvm.Cond.classLink "java/util/Arrays" (110 : Nat) "[Ljava/lang/Object;") ∈ ms_tb := ms_i3 56 (by decide +kernel) (by decide +kernel)
theorem ms_k538 : (Jvm.Cond.classLink "java/util/Arrays" (2 : Nat) "java/lang/Object") ∈ ms_tb := ms_i3 58 (by decide +kernel) (by decide +kernel)
theorem ms_k539 : (Jvm.Cond.methodLink "java/util/ArrayList" (79 : Nat) ({ cls := "java/lang/Math", name := "max", desc := "(II)I" } : Jvm.MethodName)) ∈ ms_tb := ms_i3 59 (by decide +kernel) (by decide +kernel)
theorem ms_k540 : (Jvm.Cond.classLink "java/util/ArrayList" (7 : Nat) "java/lang/Object") ∈ ms_tb := ms_i3 60 (by decide +kernel) (by decide +kernel)
theorem ms_k661 : (Jvm.Cond.methodLink "java/lang/Record" (1 : Nat) ({ cls := "java/lang/Object", name := "<init>", desc := "()V" } : Jvm.MethodName)) ∈ ms_tb := ms_i3 181 (by decide +kernel) (by decide +kernel)
theorem ms_k1854 : (Jvm.Cond.selects "[Ljava/lang/Object;" ({ cls := "java/lang/Object", name := "getClass", desc := "()Ljava/lang/Class;" } : Jvm.MethodName) ({ cls := "java/lang/Object", name := "getClass", desc := "()Ljava/lang/Class;" } : Jvm.MethodName)) ∈ ms_tb := ms_i8 174 (by decide +kernel) (by decide +kernel)
theorem ms_p3 : Cond.selects "java/util/ArrayList" (⟨"java/util/ArrayList", "add", "(Ljava/lang/Object;[Ljava/lang/Object;I)V"⟩ : MethodName) (⟨"java/util/ArrayList", "add", "(Ljava/lang/Object;[Ljava/lang/Object;I)V"⟩ : MethodName) ∈ ms_tb := ms_inP 3 (by decide +kernel) (by decide +kernel)
theorem ms_p4 : Cond.selects "java/util/ArrayList" (⟨"java/util/ArrayList", "grow", "()[Ljava/lang/Object;"⟩ : MethodName) (⟨"java/util/ArrayList", "grow", "()[Ljava/lang/Object;"⟩ : MethodName) ∈ ms_tb := ms_inP 4 (by decide +kernel) (by decide +kernel)
theorem ms_p5 : Cond.selects "java/util/ArrayList" (⟨"java/util/ArrayList", "grow", "(I)[Ljava/lang/Object;"⟩ : MethodName) (⟨"java/util/ArrayList", "grow", "(I)[Ljava/lang/Object;"⟩ : MethodName) ∈ ms_tb := ms_inP 5 (by decide +kernel) (by decide +kernel)
abbrev bM209 : ByteArray := prog_28_method_1_code
def yM209 : MethodName := ⟨"java/util/AbstractCollection", "<init>", "()V"⟩
abbrev bM210 : ByteArray := prog_29_method_1_code
def yM210 : MethodName := ⟨"java/util/AbstractList", "<init>", "()V"⟩
abbrev bM211 : ByteArray := prog_30_method_2_code
def yM211 : MethodName := ⟨"java/util/ArrayList", "<init>", "()V"⟩
abbrev bM212 : ByteArray := prog_31_method_120_code
def yM212 : MethodName := ⟨"java/util/Arrays", "copyOf", "([Ljava/lang/Object;ILjava/lang/Class;)[Ljava/lang/Object;"⟩
abbrev bM213 : ByteArray := prog_31_method_119_code
def yM213 : MethodName := ⟨"java/util/Arrays", "copyOf", "([Ljava/lang/Object;I)[Ljava/lang/Object;"⟩
abbrev bM214 : ByteArray := prog_30_method_6_code
def yM214 : MethodName := ⟨"java/util/ArrayList", "grow", "(I)[Ljava/lang/Object;"⟩
abbrev bM215 : ByteArray := prog_30_method_7_code
def yM215 : MethodName := ⟨"java/util/ArrayList", "grow", "()[Ljava/lang/Object;"⟩
abbrev bM216 : ByteArray := prog_30_method_24_code
def yM216 : MethodName := ⟨"java/util/ArrayList", "add", "(Ljava/lang/Object;[Ljava/lang/Object;I)V"⟩
abbrev bM217 : ByteArray := prog_30_method_25_code
def yM217 : MethodName := ⟨"java/util/ArrayList", "add", "(Ljava/lang/Object;)Z"⟩
abbrev bM218 : ByteArray := prog_31_method_123_code
def yM218 : MethodName := ⟨"java/util/Arrays", "copyOf", "([II)[I"⟩
abbrev bM219 : ByteArray := prog_16_method_2_code
def yM219 : MethodName := ⟨"java/lang/AbstractStringBuilder", "<init>", "(I)V"⟩
abbrev bM220 : ByteArray := prog_24_method_1_code
def yM220 : MethodName := ⟨"java/lang/StringBuilder", "<init>", "()V"⟩
abbrev bM221 : ByteArray := prog_22_method_1_code
def yM221 : MethodName := ⟨"java/lang/Record", "<init>", "()V"⟩
theorem d6_21 : decode bM6 21 = .ok (.iload_n 0, 1) := by decide +kernel
theorem d6_22 : decode bM6 22 = .ok (.iload_n 1, 1) := by decide +kernel
theorem d209_0 : decode bM209 0 = .ok (.aload_n 0, 1) := by decide +kernel
theorem d209_1 : decode bM209 1 = .ok (.invokespecial 1, 3) := by decide +kernel
theorem d209_4 : decode bM209 4 = .ok (.return_, 1) := by decide +kernel
theorem d210_0 : decode bM210 0 = .ok (.aload_n 0, 1) := by decide +kernel
theorem d210_1 : decode bM210 1 = .ok (.invokespecial 1, 3) := by decide +kernel
theorem d210_4 : decode bM210 4 = .ok (.aload_n 0, 1) := by decide +kernel
theorem d210_5 : decode bM210 5 = .ok (.iconst 0, 1) := by decide +kernel
theorem d210_6 : decode bM210 6 = .ok (.putfield 7, 3) := by decide +kernel
theorem d210_9 : decode bM210 9 = .ok (.return_, 1) := by decide +kernel
theorem d211_0 : decode bM211 0 = .ok (.aload_n 0, 1) := by decide +kernel
theorem d211_1 : decode bM211 1 = .ok (.invokespecial 1, 3) := by decide +kernel
theorem d211_4 : decode bM211 4 = .ok (.aload_n 0, 1) := by decide +kernel
theorem d211_5 : decode bM211 5 = .ok (.getstatic 39, 3) := by decide +kernel
theorem d211_8 : decode bM211 8 = .ok (.putfield 9, 3) := by decide +kernel
theorem d211_11 : decode bM211 11 = .ok (.return_, 1) := by decide +kernel
theorem d212_0 : decode bM212 0 = .ok (.aload_n 2, 1) := by decide +kernel
theorem d212_1 : decode bM212 1 = .ok (.ldc 110, 2) := by decide +kernel
theorem d212_3 : decode bM212 3 = .ok (.if_acmp .ne 10, 3) := by decide +kernel
theorem d212_6 : decode bM212 6 = .ok (.iload_n 1, 1) := by decide +kernel
theorem d212_7 : decode bM212 7 = .ok (.anewarray 2, 3) := by decide +kernel
theorem d212_10 : decode bM212 10 = .ok (.goto 14, 3) := by decide +kernel
theorem d212_13 : decode bM212 13 = .ok (.aload_n 2, 1) := by decide +kernel
theorem d212_24 : decode bM212 24 = .ok (.astore_n 3, 1) := by decide +kernel
theorem d212_25 : decode bM212 25 = .ok (.aload_n 0, 1) := by decide +kernel
theorem d212_26 : decode bM212 26 = .ok (.iconst 0, 1) := by decide +kernel
theorem d212_27 : decode bM212 27 = .ok (.aload_n 3, 1) := by decide +kernel
theorem d212_28 : decode bM212 28 = .ok (.iconst 0, 1) := by decide +kernel
theorem d212_29 : decode bM212 29 = .ok (.aload_n 0, 1) := by decide +kernel
theorem d212_30 : decode bM212 30 = .ok (.arraylength, 1) := by decide +kernel
theorem d212_31 : decode bM212 31 = .ok (.iload_n 1, 1) := by decide +kernel
theorem d212_32 : decode bM212 32 = .ok (.invokestatic 304, 3) := by decide +kernel
theorem d212_35 : decode bM212 35 = .ok (.invokestatic 150, 3) := by decide +kernel
theorem d212_38 : decode bM212 38 = .ok (.aload_n 3, 1) := by decide +kernel
theorem d212_39 : decode bM212 39 = .ok (.areturn, 1) := by decide +kernel
theorem d213_0 : decode bM213 0 = .ok (.aload_n 0, 1) := by decide +kernel
theorem d213_1 : decode bM213 1 = .ok (.iload_n 1, 1) := by decide +kernel
theorem d213_2 : decode bM213 2 = .ok (.aload_n 0, 1) := by decide +kernel
theorem d213_3 : decode bM213 3 = .ok (.invokevirtual 86, 3) := by decide +kernel
theorem d213_6 : decode bM213 6 = .ok (.invokestatic 300, 3) := by decide +kernel
theorem d213_9 : decode bM213 9 = .ok (.areturn, 1) := by decide +kernel
theorem d214_0 : decode bM214 0 = .ok (.aload_n 0, 1) := by decide +kernel
theorem d214_1 : decode bM214 1 = .ok (.getfield 9, 3) := by decide +kernel
theorem d214_4 : decode bM214 4 = .ok (.arraylength, 1) := by decide +kernel
theorem d214_5 : decode bM214 5 = .ok (.istore_n 2, 1) := by decide +kernel
theorem d214_6 : decode bM214 6 = .ok (.iload_n 2, 1) := by decide +kernel
theorem d214_7 : decode bM214 7 = .ok (.ifCond .gt 13, 3) := by decide +kernel
theorem d214_10 : decode bM214 10 = .ok (.aload_n 0, 1) := by decide +kernel
theorem d214_11 : decode bM214 11 = .ok (.getfield 9, 3) := by decide +kernel
theorem d214_14 : decode bM214 14 = .ok (.getstatic 39, 3) := by decide +kernel
theorem d214_17 : decode bM214 17 = .ok (.if_acmp .eq 28, 3) := by decide +kernel
theorem d214_20 : decode bM214 20 = .ok (.iload_n 2, 1) := by decide +kernel
theorem d214_21 : decode bM214 21 = .ok (.iload_n 1, 1) := by decide +kernel
theorem d214_22 : decode bM214 22 = .ok (.iload_n 2, 1) := by decide +kernel
theorem d214_23 : decode bM214 23 = .ok (.isub, 1) := by decide +kernel
theorem d214_24 : decode bM214 24 = .ok (.iload_n 2, 1) := by decide +kernel
theorem d214_25 : decode bM214 25 = .ok (.iconst 1, 1) := by decide +kernel
theorem d214_26 : decode bM214 26 = .ok (.ishr, 1) := by decide +kernel
theorem d214_27 : decode bM214 27 = .ok (.invokestatic 73, 3) := by decide +kernel
theorem d214_30 : decode bM214 30 = .ok (.istore_n 3, 1) := by decide +kernel
theorem d214_31 : decode bM214 31 = .ok (.aload_n 0, 1) := by decide +kernel
theorem d214_32 : decode bM214 32 = .ok (.aload_n 0, 1) := by decide +kernel
theorem d214_33 : decode bM214 33 = .ok (.getfield 9, 3) := by decide +kernel
theorem d214_36 : decode bM214 36 = .ok (.iload_n 3, 1) := by decide +kernel
theorem d214_37 : decode bM214 37 = .ok (.invokestatic 66, 3) := by decide +kernel
theorem d214_40 : decode bM214 40 = .ok (.dup_x1, 1) := by decide +kernel
theorem d214_41 : decode bM214 41 = .ok (.putfield 9, 3) := by decide +kernel
theorem d214_44 : decode bM214 44 = .ok (.areturn, 1) := by decide +kernel
theorem d214_45 : decode bM214 45 = .ok (.aload_n 0, 1) := by decide +kernel
theorem d214_46 : decode bM214 46 = .ok (.bipush 10, 2) := by decide +kernel
theorem d214_48 : decode bM214 48 = .ok (.iload_n 1, 1) := by decide +kernel
theorem d214_49 : decode bM214 49 = .ok (.invokestatic 79, 3) := by decide +kernel
theorem d214_52 : decode bM214 52 = .ok (.anewarray 7, 3) := by decide +kernel
theorem d214_55 : decode bM214 55 = .ok (.dup_x1, 1) := by decide +kernel
theorem d214_56 : decode bM214 56 = .ok (.putfield 9, 3) := by decide +kernel
theorem d214_59 : decode bM214 59 = .ok (.areturn, 1) := by decide +kernel
theorem d215_0 : decode bM215 0 = .ok (.aload_n 0, 1) := by decide +kernel
theorem d215_1 : decode bM215 1 = .ok (.aload_n 0, 1) := by decide +kernel
theorem d215_2 : decode bM215 2 = .ok (.getfield 48, 3) := by decide +kernel
theorem d215_5 : decode bM215 5 = .ok (.iconst 1, 1) := by decide +kernel
theorem d215_6 : decode bM215 6 = .ok (.iadd, 1) := by decide +kernel
theorem d215_7 : decode bM215 7 = .ok (.invokevirtual 69, 3) := by decide +kernel
theorem d215_10 : decode bM215 10 = .ok (.areturn, 1) := by decide +kernel
theorem d216_0 : decode bM216 0 = .ok (.iload_n 3, 1) := by decide +kernel
theorem d216_1 : decode bM216 1 = .ok (.aload_n 2, 1) := by decide +kernel
theorem d216_2 : decode bM216 2 = .ok (.arraylength, 1) := by decide +kernel
theorem d216_3 : decode bM216 3 = .ok (.if_icmp .ne 8, 3) := by decide +kernel
theorem d216_6 : decode bM216 6 = .ok (.aload_n 0, 1) := by decide +kernel
theorem d216_7 : decode bM216 7 = .ok (.invokevirtual 129, 3) := by decide +kernel
theorem d216_10 : decode bM216 10 = .ok (.astore_n 2, 1) := by decide +kernel
theorem d216_11 : decode bM216 11 = .ok (.aload_n 2, 1) := by decide +kernel
theorem d216_12 : decode bM216 12 = .ok (.iload_n 3, 1) := by decide +kernel
theorem d216_13 : decode bM216 13 = .ok (.aload_n 1, 1) := by decide +kernel
theorem d216_14 : decode bM216 14 = .ok (.aastore, 1) := by decide +kernel
theorem d216_15 : decode bM216 15 = .ok (.aload_n 0, 1) := by decide +kernel
theorem d216_16 : decode bM216 16 = .ok (.iload_n 3, 1) := by decide +kernel
theorem d216_17 : decode bM216 17 = .ok (.iconst 1, 1) := by decide +kernel
theorem d216_18 : decode bM216 18 = .ok (.iadd, 1) := by decide +kernel
theorem d216_19 : decode bM216 19 = .ok (.putfield 48, 3) := by decide +kernel
theorem d216_22 : decode bM216 22 = .ok (.return_, 1) := by decide +kernel
theorem d217_0 : decode bM217 0 = .ok (.aload_n 0, 1) := by decide +kernel
theorem d217_1 : decode bM217 1 = .ok (.dup, 1) := by decide +kernel
theorem d217_2 : decode bM217 2 = .ok (.getfield 63, 3) := by decide +kernel
theorem d217_5 : decode bM217 5 = .ok (.iconst 1, 1) := by decide +kernel
theorem d217_6 : decode bM217 6 = .ok (.iadd, 1) := by decide +kernel
theorem d217_7 : decode bM217 7 = .ok (.putfield 63, 3) := by decide +kernel
theorem d217_10 : decode bM217 10 = .ok (.aload_n 0, 1) := by decide +kernel
theorem d217_11 : decode bM217 11 = .ok (.aload_n 1, 1) := by decide +kernel
theorem d217_12 : decode bM217 12 = .ok (.aload_n 0, 1) := by decide +kernel
theorem d217_13 : decode bM217 13 = .ok (.getfield 9, 3) := by decide +kernel
theorem d217_16 : decode bM217 16 = .ok (.aload_n 0, 1) := by decide +kernel
theorem d217_17 : decode bM217 17 = .ok (.getfield 48, 3) := by decide +kernel
theorem d217_20 : decode bM217 20 = .ok (.invokevirtual 131, 3) := by decide +kernel
theorem d217_23 : decode bM217 23 = .ok (.iconst 1, 1) := by decide +kernel
theorem d217_24 : decode bM217 24 = .ok (.ireturn, 1) := by decide +kernel
theorem d218_0 : decode bM218 0 = .ok (.iload_n 1, 1) := by decide +kernel
theorem d218_1 : decode bM218 1 = .ok (.aload_n 0, 1) := by decide +kernel
theorem d218_2 : decode bM218 2 = .ok (.arraylength, 1) := by decide +kernel
theorem d218_3 : decode bM218 3 = .ok (.if_icmp .ne 11, 3) := by decide +kernel
theorem d218_6 : decode bM218 6 = .ok (.aload_n 0, 1) := by decide +kernel
theorem d218_14 : decode bM218 14 = .ok (.iload_n 1, 1) := by decide +kernel
theorem d218_15 : decode bM218 15 = .ok (.newarray .int, 2) := by decide +kernel
theorem d218_17 : decode bM218 17 = .ok (.astore_n 2, 1) := by decide +kernel
theorem d218_18 : decode bM218 18 = .ok (.aload_n 0, 1) := by decide +kernel
theorem d218_19 : decode bM218 19 = .ok (.iconst 0, 1) := by decide +kernel
theorem d218_20 : decode bM218 20 = .ok (.aload_n 2, 1) := by decide +kernel
theorem d218_21 : decode bM218 21 = .ok (.iconst 0, 1) := by decide +kernel
theorem d218_22 : decode bM218 22 = .ok (.aload_n 0, 1) := by decide +kernel
theorem d218_23 : decode bM218 23 = .ok (.arraylength, 1) := by decide +kernel
theorem d218_24 : decode bM218 24 = .ok (.iload_n 1, 1) := by decide +kernel
theorem d218_25 : decode bM218 25 = .ok (.invokestatic 304, 3) := by decide +kernel
theorem d218_28 : decode bM218 28 = .ok (.invokestatic 150, 3) := by decide +kernel
theorem d218_31 : decode bM218 31 = .ok (.aload_n 2, 1) := by decide +kernel
theorem d218_32 : decode bM218 32 = .ok (.areturn, 1) := by decide +kernel
theorem d219_0 : decode bM219 0 = .ok (.aload_n 0, 1) := by decide +kernel
theorem d219_1 : decode bM219 1 = .ok (.invokespecial 3, 3) := by decide +kernel
theorem d219_4 : decode bM219 4 = .ok (.getstatic 18, 3) := by decide +kernel
theorem d219_7 : decode bM219 7 = .ok (.ifCond .eq 18, 3) := by decide +kernel
theorem d219_10 : decode bM219 10 = .ok (.aload_n 0, 1) := by decide +kernel
theorem d219_11 : decode bM219 11 = .ok (.iload_n 1, 1) := by decide +kernel
theorem d219_12 : decode bM219 12 = .ok (.newarray .byte, 2) := by decide +kernel
theorem d219_14 : decode bM219 14 = .ok (.putfield 15, 3) := by decide +kernel
theorem d219_17 : decode bM219 17 = .ok (.aload_n 0, 1) := by decide +kernel
theorem d219_18 : decode bM219 18 = .ok (.iconst 0, 1) := by decide +kernel
theorem d219_19 : decode bM219 19 = .ok (.putfield 22, 3) := by decide +kernel
theorem d219_22 : decode bM219 22 = .ok (.goto 16, 3) := by decide +kernel
theorem d219_38 : decode bM219 38 = .ok (.return_, 1) := by decide +kernel
theorem d220_0 : decode bM220 0 = .ok (.aload_n 0, 1) := by decide +kernel
theorem d220_1 : decode bM220 1 = .ok (.bipush 16, 2) := by decide +kernel
theorem d220_3 : decode bM220 3 = .ok (.invokespecial 1, 3) := by decide +kernel
theorem d220_6 : decode bM220 6 = .ok (.return_, 1) := by decide +kernel
theorem d221_0 : decode bM221 0 = .ok (.aload_n 0, 1) := by decide +kernel
theorem d221_1 : decode bM221 1 = .ok (.invokespecial 1, 3) := by decide +kernel
theorem d221_4 : decode bM221 4 = .ok (.return_, 1) := by decide +kernel
def w_AbstractCollection_init4 (dA : Nat → ClassId) (y0 : Nat) (rc rs : Nat) (K : hm_T → hz_T → Prop) (h0 : hm_T) (z0 : hz_T) : Prop := (K h0 z0)
set_option maxRecDepth 100000 in
set_option maxHeartbeats 8000000 in
theorem cw_AbstractCollection_init4 (l : Launch) (D : va_G) (dA : Nat → ClassId) (s0 : State) (hW : ms_EW D dA s0) (y0 : Nat) (rc rs : Nat) (h0 : hm_T) (z0 : hz_T) (K : hm_T → hz_T → Prop) (hg : w_AbstractCollection_init4 dA y0 rc rs K h0 z0) : ht_C l D s0 yM209 bM209 1 (Option.none : Option Jvm.ClassFile.FieldType) (1) (12) rc rs [.ref y0] (fun h z => h = h0 ∧ z = z0) (fun h z vv h1 z1 => vv = none ∧ K h1 z1) := by
  have hE := hW.1
  refine ht_C.mk hE.1 (by decide) (Nat.le_of_ble_eq_true rfl) [(0, .ref y0)] rfl ?_
  intro p e s m below meth c ls h z X hin hpre I hl
  have hx := X.1
  have hb := X.2.1
  have hml := X.2.2.1
  have hown : s.vm.findClass "java/util/AbstractCollection" = some m.cls := X.2.2.2.1
  have hts := X.2.2.2.2.2.2.1
  have hK := X.2.2.2.2.2.2.2.2.1
  rw [hpre.1, hpre.2] at I
  clear hpre
  have hF := hg
  unfold w_AbstractCollection_init4 at hF
  clear h z
  have hc : 0 + rc ≤ rc := by omega
  have hs : 0 + rs ≤ rs := by omega
  refine lv_aload_n hx hb d209_0 rfl (lv_at hl 0 rfl) ?_
  refine W.objInit hx hb hown (hts _ ms_k333) (hts _ ms_k37) (hts _ ms_k38) rfl (by rw [hml]; exact hl.1) rfl d209_1 (Nat.le_of_ble_eq_true rfl) (Nat.le_of_ble_eq_true rfl) ?_
  refine W.eq (g2 := F0 m 4 ls []) rfl ?_
  exact ht_vret X d209_4 I (rm_r hc) (rm_r hs) ⟨rfl, hF⟩

def w_AbstractList_init4 (dA : Nat → ClassId) (y0 : Nat) (rc rs : Nat) (K : hm_T → hz_T → Prop) (h0 : hm_T) (z0 : hz_T) : Prop := (cg_c h0 4 y0 (cg_rm rc rs (fun c24 s25 c26 s27 => w_AbstractCollection_init4 dA y0 c24 s25 (fun h22 z23 => (cg_p h22 4 0 y0 (.int 0) (fun h28 => (K h28 z23)))) h0 z0)))
set_option maxRecDepth 100000 in
set_option maxHeartbeats 8000000 in
theorem cw_AbstractList_init4 (l : Launch) (D : va_G) (dA : Nat → ClassId) (s0 : State) (hW : ms_EW D dA s0) (y0 : Nat) (rc rs : Nat) (h0 : hm_T) (z0 : hz_T) (K : hm_T → hz_T → Prop) (hg : w_AbstractList_init4 dA y0 rc rs K h0 z0) : ht_C l D s0 yM210 bM210 1 (Option.none : Option Jvm.ClassFile.FieldType) (2) (32) rc rs [.ref y0] (fun h z => h = h0 ∧ z = z0) (fun h z vv h1 z1 => vv = none ∧ K h1 z1) := by
  have hE := hW.1
  refine ht_C.mk hE.1 (by decide) (Nat.le_of_ble_eq_true rfl) [(0, .ref y0)] rfl ?_
  intro p e s m below meth c ls h z X hin hpre I hl
  have hx := X.1
  have hb := X.2.1
  have hml := X.2.2.1
  have hown : s.vm.findClass "java/util/AbstractList" = some m.cls := X.2.2.2.1
  have hts := X.2.2.2.2.2.2.1
  have hK := X.2.2.2.2.2.2.2.2.1
  rw [hpre.1, hpre.2] at I
  clear hpre
  have hF := hg
  unfold w_AbstractList_init4 at hF
  clear h z
  have hc : 0 + rc ≤ rc := by omega
  have hs : 0 + rs ≤ rs := by omega
  refine lv_aload_n hx hb d210_0 rfl (lv_at hl 0 rfl) ?_
  obtain ⟨fs9, c9, hF⟩ := hF
  obtain ⟨c24, s25, c26, s27, ec, es, hF⟩ := hF
  refine ht_I (rest := []) (as := []) X hl (cw_AbstractCollection_init4 l D dA s0 hW y0 c24 s25 h0 z0 _ hF) (List.forall_mem_cons.mpr ⟨ms_k330, List.forall_mem_cons.mpr ⟨ms_k331, List.forall_mem_cons.mpr ⟨ms_k16, List.forall_mem_cons.mpr ⟨ms_k332, fun _ h => absurd h List.not_mem_nil⟩⟩⟩⟩) rfl ⟨by decide +kernel, by decide +kernel, (by decide +kernel : (parseMethodDescriptor "()V").map (fun d => d.parameters.length) = some 0)⟩ I ⟨rfl, rfl⟩ ⟨⟨Nat.le_of_ble_eq_true rfl, Nat.le_of_ble_eq_true rfl⟩, (rm_u hc ec).1, (rm_u hs es).1⟩ rfl (Nat.le_of_ble_eq_true rfl) d210_1 (fun vv h22 z23 H locs hR I9 => ?_)
  obtain ⟨e1, hF⟩ := hR
  subst e1
  clear I
  have I := I9
  clear I9 c9 fs9
  have hc := (rm_u hc ec).2
  have hs := (rm_u hs es).2
  clear ec es
  refine W.eq (g2 := F0 m 4 ls []) rfl ?_
  refine lv_aload_n hx hb d210_4 rfl (lv_at hl 0 rfl) ?_
  refine lv_iconst (v := 0) hx hb d210_5 (by decide) ?_
  obtain ⟨fs9, c9, k9, hF⟩ := hF
  refine hm_put (ci := 4) (v := .int 0) (ty := .int) (C := kR4) (T := kT4) (N := 3) X I ku4 kt4 kp4 kn4 c9 rfl 0 (by decide) ms_k338 (fun _ h => h) rfl (by decide +kernel) rfl rfl k9 d210_6 (fun h28 H locs e9 f9 I => ?_)
  rw [← hm_eqU e9 f9] at hF
  clear e9 f9 c9 k9
  exact ht_vret X d210_9 I (rm_r hc) (rm_r hs) ⟨rfl, hF⟩

def w_ArrayList_init (dA : Nat → ClassId) (y0 : Nat) (rc rs : Nat) (K : hm_T → hz_T → Prop) (h0 : hm_T) (z0 : hz_T) : Prop := (cg_c h0 4 y0 (cg_rm rc rs (fun c24 s25 c26 s27 => w_AbstractList_init4 dA y0 c24 s25 (fun h22 z23 => (cg_p h22 4 1 y0 (.ref (dA 99)) (fun h28 => (K h28 z23)))) h0 z0)))
set_option maxRecDepth 100000 in
set_option maxHeartbeats 8000000 in
theorem cw_ArrayList_init (l : Launch) (D : va_G) (dA : Nat → ClassId) (s0 : State) (hW : ms_EW D dA s0) (y0 : Nat) (rc rs : Nat) (h0 : hm_T) (z0 : hz_T) (K : hm_T → hz_T → Prop) (hg : w_ArrayList_init dA y0 rc rs K h0 z0) : ht_C l D s0 yM211 bM211 1 (Option.none : Option Jvm.ClassFile.FieldType) (3) (52) rc rs [.ref y0] (fun h z => h = h0 ∧ z = z0) (fun h z vv h1 z1 => vv = none ∧ K h1 z1) := by
  have hE := hW.1
  refine ht_C.mk hE.1 (by decide) (Nat.le_of_ble_eq_true rfl) [(0, .ref y0)] rfl ?_
  intro p e s m below meth c ls h z X hin hpre I hl
  have hx := X.1
  have hb := X.2.1
  have hml := X.2.2.1
  have hown : s.vm.findClass "java/util/ArrayList" = some m.cls := X.2.2.2.1
  have hts := X.2.2.2.2.2.2.1
  have hK := X.2.2.2.2.2.2.2.2.1
  rw [hpre.1, hpre.2] at I
  clear hpre
  have hF := hg
  unfold w_ArrayList_init at hF
  clear h z
  have hc : 0 + rc ≤ rc := by omega
  have hs : 0 + rs ≤ rs := by omega
  refine lv_aload_n hx hb d211_0 rfl (lv_at hl 0 rfl) ?_
  obtain ⟨fs9, c9, hF⟩ := hF
  obtain ⟨c24, s25, c26, s27, ec, es, hF⟩ := hF
  refine ht_I (rest := []) (as := []) X hl (cw_AbstractList_init4 l D dA s0 hW y0 c24 s25 h0 z0 _ hF) (List.forall_mem_cons.mpr ⟨ms_k327, List.forall_mem_cons.mpr ⟨ms_k328, List.forall_mem_cons.mpr ⟨ms_k17, List.forall_mem_cons.mpr ⟨ms_k329, fun _ h => absurd h List.not_mem_nil⟩⟩⟩⟩) rfl ⟨by decide +kernel, by decide +kernel, (by decide +kernel : (parseMethodDescriptor "()V").map (fun d => d.parameters.length) = some 0)⟩ I ⟨rfl, rfl⟩ ⟨⟨Nat.le_of_ble_eq_true rfl, Nat.le_of_ble_eq_true rfl⟩, (rm_u hc ec).1, (rm_u hs es).1⟩ rfl (Nat.le_of_ble_eq_true rfl) d211_1 (fun vv h22 z23 H locs hR I9 => ?_)
  obtain ⟨e1, hF⟩ := hR
  subst e1
  clear I
  have I := I9
  clear I9 c9 fs9
  have hc := (rm_u hc ec).2
  have hs := (rm_u hs es).2
  clear ec es
  refine W.eq (g2 := F0 m 4 ls []) rfl ?_
  refine lv_aload_n hx hb d211_4 rfl (lv_at hl 0 rfl) ?_
  refine va_gets (own := "java/util/ArrayList") hx hb (ms_z hW.2.1 X) I.2.2.1 hown (hts _ ms_k334) (fun _ h => h) d211_5 ?_
  obtain ⟨fs9, c9, k9, hF⟩ := hF
  refine hm_put (ci := 4) (v := .ref (dA 99)) (ty := (.array (.object "java/lang/Object"))) (C := kR4) (T := kT4) (N := 3) X I ku4 kt4 kp4 kn4 c9 rfl 1 (by decide) ms_k336 (fun _ h => h) rfl (by decide +kernel) rfl rfl k9 d211_8 (fun h28 H locs e9 f9 I => ?_)
  rw [← hm_eqU e9 f9] at hF
  clear e9 f9 c9 k9
  exact ht_vret X d211_11 I (rm_r hc) (rm_r hs) ⟨rfl, hF⟩

def w_ArraysSupport_newLength_21 (dA : Nat → ClassId) (K : Int32 → hm_T → hz_T → Prop) (x0 : Int32) (x1 : Int32) (cr sr : Nat) (h : hm_T) (z : hz_T) : Prop := False
def w_ArraysSupport_newLength (dA : Nat → ClassId) (y0 : Int32) (y1 : Int32) (y2 : Int32) (rc rs : Nat) (K : Int32 → hm_T → hz_T → Prop) (h0 : hm_T) (z0 : hz_T) : Prop := (if (y0 + (if y1 < y2 then y2 else y1)) ≤ 0 then (w_ArraysSupport_newLength_21 dA K y0 y1 rc rs h0 z0) else (if 2147483639 < (y0 + (if y1 < y2 then y2 else y1)) then (w_ArraysSupport_newLength_21 dA K y0 y1 rc rs h0 z0) else (K (y0 + (if y1 < y2 then y2 else y1)) h0 z0)))
set_option maxRecDepth 100000 in
set_option maxHeartbeats 8000000 in
theorem cw_ArraysSupport_newLength (l : Launch) (D : va_G) (dA : Nat → ClassId) (s0 : State) (hW : ms_EW D dA s0) (y0 : Int32) (y1 : Int32) (y2 : Int32) (rc rs : Nat) (h0 : hm_T) (z0 : hz_T) (K : Int32 → hm_T → hz_T → Prop) (hg : w_ArraysSupport_newLength dA y0 y1 y2 rc rs K h0 z0) : ht_C l D s0 yM6 bM6 4 (Option.some Jvm.ClassFile.FieldType.int) (1) (14) rc rs [.int y0, .int y1, .int y2] (fun h z => h = h0 ∧ z = z0) (fun h z vv h1 z1 => ∃ v, vv = some (.int v) ∧ K v h1 z1) := by
  have hE := hW.1
  refine ht_C.mk hE.1 (by decide) (Nat.le_of_ble_eq_true rfl) [(0, .int y0), (1, .int y1), (2, .int y2)] rfl ?_
  intro p e s m below meth c ls h z X hin hpre I hl
  have hx := X.1
  have hb := X.2.1
  have hml := X.2.2.1
  have hown : s.vm.findClass "jdk/internal/util/ArraysSupport" = some m.cls := X.2.2.2.1
  have hts := X.2.2.2.2.2.2.1
  have hK := X.2.2.2.2.2.2.2.2.1
  rw [hpre.1, hpre.2] at I
  clear hpre
  have b21 : ∀ (ls : Array Slot) (x0 : Int32) (x1 : Int32) (cr sr cu su : Nat) (h : hm_T) (z : hz_T) (H : Heap) (locs : List Loc), w_ArraysSupport_newLength_21 dA K x0 x1 cr sr h z → cu + cr ≤ rc → su + sr ≤ rs → lv_has ls 4 [(0, .int x0), (1, .int x1)] → hm_I D s0 s h z H locs → W p l e { frames := 1, cells := rc, slots := rs, locals := 14 } s m ([.int y0, .int y1, .int y2] : List Value).toArray below meth c H locs cu su (MQ below (ht_Q D s0 (fun vv h1 z1 => ∃ v, vv = some (.int v) ∧ K v h1 z1)) ([.int y0, .int y1, .int y2] : List Value).toArray s rc rs (fun q => s0.heap.size ≤ q)) (F0 m 21 ls []) := by
    intro ls x0 x1 cr sr cu su h z H locs hF hc hs hl I
    unfold w_ArraysSupport_newLength_21 at hF
    refine lv_iload_n hx hb d6_21 rfl (lv_at hl 0 rfl) ?_
    refine lv_iload_n hx hb d6_22 rfl (lv_at hl 1 rfl) ?_
    exact hF.elim
  have hF := hg
  unfold w_ArraysSupport_newLength at hF
  clear h z
  have hc : 0 + rc ≤ rc := by omega
  have hs : 0 + rs ≤ rs := by omega
  refine lv_iload_n hx hb d6_0 rfl (lv_at hl 0 rfl) ?_
  refine lv_iload_n hx hb d6_1 rfl (lv_at hl 1 rfl) ?_
  refine lv_iload_n hx hb d6_2 rfl (lv_at hl 2 rfl) ?_
  refine va_mmax hx hb (by rw [hml]; exact hl.1.symm) hown (hts _ ms_k154) (hts _ ms_k155) (hts _ ms_k9) (hts _ ms_k156) (Nat.le_of_ble_eq_true rfl) (Nat.le_of_ble_eq_true rfl) (rm_r hc) (rm_r hs) d6_3 ?_
  refine lv_iadd hx hb d6_6 ?_
  refine lv_istore_n hx hb d6_7 rfl hl (by decide) rfl (fun ls hl => ?_)
  have hl : lv_has ls 4 [(3, .int (y0 + (if y1 < y2 then y2 else y1))), (0, .int y0), (1, .int y1), (2, .int y2)] := hl
  refine lv_iconst (v := 0) hx hb d6_8 (by decide) ?_
  refine lv_iload_n hx hb d6_9 rfl (lv_at hl 0 rfl) ?_
  refine lv_icmp_ge hx hb d6_10 rfl (fun h9 => ?_) (fun h9 => ?_)
  · have hF := Eq.mp (if_pos h9) hF
    exact b21 ls y0 y1 rc rs _ _ h0 z0 _ _ hF hc hs (hl.sub [1, 2] rfl) I
  · have hF := Eq.mp (if_neg h9) hF
    refine lv_iload_n hx hb d6_13 rfl (lv_at hl 0 rfl) ?_
    refine lv_ldc (own := "jdk/internal/util/ArraysSupport") (v := 2147483639) hx hb hown (hts _ ms_k157) d6_14 ?_
    refine lv_icmp_gt hx hb d6_16 rfl (fun h9 => ?_) (fun h9 => ?_)
    · have hF := Eq.mp (if_pos h9) hF
      exact b21 ls y0 y1 rc rs _ _ h0 z0 _ _ hF hc hs (hl.sub [1, 2] rfl) I
    · have hF := Eq.mp (if_neg h9) hF
      refine lv_iload_n hx hb d6_19 rfl (lv_at hl 0 rfl) ?_
      exact ht_iret X d6_20 I (rm_r hc) (rm_r hs) ⟨_, rfl, hF⟩

def w_Arrays_copyOfC_24 (dA : Nat → ClassId) (K : Option Nat → hm_T → hz_T → Prop) (x0 : Option Nat) (x1 : Int32) (w0 : Option Nat) (cr sr : Nat) (h : hm_T) (z : hz_T) : Prop := (cg_d x0 (fun a25 => (cg_alo dA h a25 (fun v26 => (cg_d x0 (fun a27 => (cg_d w0 (fun a28 => (cg_cpq dA h a27 a28 (if x1 < v26 then x1 else v26) (fun h29 => (K w0 h29 z)))))))))))
def w_Arrays_copyOfC (dA : Nat → ClassId) (y0 : Option Nat) (y1 : Int32) (y2 : Option Nat) (rc rs : Nat) (K : Option Nat → hm_T → hz_T → Prop) (h0 : hm_T) (z0 : hz_T) : Prop := (if y2 = (some (dA 98)) then (cg_nq dA h0 rc rs 6 y1 (fun q21 c23 s24 h22 => (w_Arrays_copyOfC_24 dA K y0 y1 (some q21) c23 s24 h22 z0))) else False)
set_option maxRecDepth 100000 in
set_option maxHeartbeats 8000000 in
theorem cw_Arrays_copyOfC (l : Launch) (D : va_G) (dA : Nat → ClassId) (s0 : State) (hW : ms_EW D dA s0) (y0 : Option Nat) (y1 : Int32) (y2 : Option Nat) (rc rs : Nat) (h0 : hm_T) (z0 : hz_T) (K : Option Nat → hm_T → hz_T → Prop) (hg : w_Arrays_copyOfC dA y0 y1 y2 rc rs K h0 z0) : ht_C l D s0 yM212 bM212 4 (Option.some (Jvm.ClassFile.FieldType.array (Jvm.ClassFile.FieldType.object "java/lang/Object"))) (1) (100) rc rs [va_rf y0, .int y1, va_rf y2] (fun h z => h = h0 ∧ z = z0) (fun h z vv h1 z1 => ∃ v, vv = some (va_rf v) ∧ K v h1 z1) := by
  have hE := hW.1
  refine ht_C.mk hE.1 (by decide) (by simp [lg_sl, cat_rf, cat_int, cat_ref, cat_null, cat_long]) [(0, va_rf y0), (1, .int y1), (2, va_rf y2)] (by simp [lv_args, cat_rf, cat_int, cat_ref, cat_null, cat_long]) ?_
  intro p e s m below meth c ls h z X hin hpre I hl
  have hx := X.1
  have hb := X.2.1
  have hml := X.2.2.1
  have hown : s.vm.findClass "java/util/Arrays" = some m.cls := X.2.2.2.1
  have hts := X.2.2.2.2.2.2.1
  have hK := X.2.2.2.2.2.2.2.2.1
  rw [hpre.1, hpre.2] at I
  clear hpre
  have b24 : ∀ (ls : Array Slot) (x0 : Option Nat) (x1 : Int32) (w0 : Option Nat) (cr sr cu su : Nat) (h : hm_T) (z : hz_T) (H : Heap) (locs : List Loc), w_Arrays_copyOfC_24 dA K x0 x1 w0 cr sr h z → cu + cr ≤ rc → su + sr ≤ rs → lv_has ls 4 [(0, va_rf x0), (1, .int x1)] → hm_I D s0 s h z H locs → W p l e { frames := 1, cells := rc, slots := rs, locals := 100 } s m ([va_rf y0, .int y1, va_rf y2] : List Value).toArray below meth c H locs cu su (MQ below (ht_Q D s0 (fun vv h1 z1 => ∃ v, vv = some (va_rf v) ∧ K v h1 z1)) ([va_rf y0, .int y1, va_rf y2] : List Value).toArray s rc rs (fun q => s0.heap.size ≤ q)) (F0 m 24 ls [va_rf w0]) := by
    intro ls x0 x1 w0 cr sr cu su h z H locs hF hc hs hl I
    unfold w_Arrays_copyOfC_24 at hF
    refine lv_astore_nR hx hb d212_24 rfl hl (by decide) rfl (fun ls hl => ?_)
    have hl : lv_has ls 4 [(3, va_rf w0), (0, va_rf x0), (1, .int x1)] := hl
    refine lv_aload_nR hx hb d212_25 rfl (lv_at hl 1 rfl) ?_
    refine lv_iconst (v := 0) hx hb d212_26 (by decide) ?_
    refine lv_aload_nR hx hb d212_27 rfl (lv_at hl 0 rfl) ?_
    refine lv_iconst (v := 0) hx hb d212_28 (by decide) ?_
    refine lv_aload_nR hx hb d212_29 rfl (lv_at hl 1 rfl) ?_
    obtain ⟨a25, e9, hF⟩ := hF
    refine W.eq (g2 := F0 m 30 ls [.ref a25, .int 0, va_rf w0, .int 0, va_rf x0]) (by rw [e9]; rfl) ?_
    clear e9
    obtain ⟨v26, e9, hF⟩ := hF
    refine hm_aleno hW X I e9 d212_30 ?_
    clear e9
    refine lv_iload_n hx hb d212_31 rfl (lv_at hl 2 rfl) ?_
    refine va_mmin hx hb (by rw [hml]; exact hl.1.symm) hown (hts _ ms_k172) (hts _ ms_k173) (hts _ ms_k9) (hts _ ms_k174) (Nat.le_of_ble_eq_true rfl) (by simp [cat_rf, cat_int, cat_ref, cat_null, cat_long]) (rm_r hc) (rm_r hs) d212_32 ?_
    obtain ⟨a27, e9, hF⟩ := hF
    refine W.eq (g2 := F0 m 35 ls [.int (if x1 < v26 then x1 else v26), .int 0, va_rf w0, .int 0, .ref a27]) (by rw [e9]; rfl) ?_
    clear e9
    obtain ⟨a28, e9, hF⟩ := hF
    refine W.eq (g2 := F0 m 35 ls [.int (if x1 < v26 then x1 else v26), .int 0, .ref a28, .int 0, .ref a27]) (by rw [e9]; rfl) ?_
    clear e9
    obtain ⟨N9, m1, m2, f8, g8, eN, c8, c9, p1, p2, p3, p4, j9, hF⟩ := hF
    refine ms_top (y := nI N9) eN ?_
    refine hm_cpyq (E := "java/lang/Object") X hl.1 I (List.forall_mem_cons.mpr ⟨ms_k175, List.forall_mem_cons.mpr ⟨ms_k177, List.forall_mem_cons.mpr ⟨ms_k176, List.forall_mem_cons.mpr ⟨ms_k11, fun _ h => absurd h List.not_mem_nil⟩⟩⟩⟩) c8 c9 6 rfl p1 p2 p3 p4 (fun i hi y hy => hm_jo hE X I (j9 i hi y hy)) (Nat.le_of_ble_eq_true rfl) (show _ ≤ 100 from Nat.le_of_ble_eq_true (by decide +kernel)) d212_35 (fun h29 H locs e9 f9 I => ?_)
    rw [← hm_eqU e9 f9] at hF
    clear e9 f9 c8 c9 p1 p2 p3 p4 eN j9
    refine lv_aload_nR hx hb d212_38 rfl (lv_at hl 0 rfl) ?_
    exact ht_aret X d212_39 I (rm_r hc) (rm_r hs) ⟨w0, rfl, hF⟩ (Or.inr ⟨_, rfl⟩) (rf_or _)
  have hF := hg
  unfold w_Arrays_copyOfC at hF
  clear h z
  have hc : 0 + rc ≤ rc := by omega
  have hs : 0 + rs ≤ rs := by omega
  refine lv_aload_nR hx hb d212_0 rfl (lv_at hl 2 rfl) ?_
  refine va_ldcM hx hb hown (hts _ ms_k536) (hm_mi hW X) d212_1 ?_
  refine lv_acmp_ne (rx := y2) (ry := (some (dA 98))) hx hb d212_3 rfl (fun h9 => ?_) (fun h9 => ?_)
  · have hF := Eq.mp (if_neg h9) hF
    refine lv_aload_nR hx hb d212_13 rfl (lv_at hl 2 rfl) ?_
    exact hF.elim
  · have hF := Eq.mp (if_pos h9) hF
    refine lv_iload_n hx hb d212_6 rfl (lv_at hl 1 rfl) ?_
    obtain ⟨N9, c23, s24, eN, bN, ec, es, hF⟩ := hF
    refine ms_top (y := nI N9) eN ?_
    refine hm_mkq (nm := "[Ljava/lang/Object;") (N' := N9) (C := "java/lang/Object") X I ms_k538 (ms_ao hE.2.2.2.2.1 X) 6 rfl (by decide) (nI_pos (by omega)) (nI_clamp (by omega)) (by omega) (rm_u hc ec).1 (rm_u hs es).1 d212_7 (fun q21 h22 H v9 e9 f9 I => ?_)
    have hF := hF q21 v9
    rw [← hm_eqU e9 f9] at hF
    clear e9 f9 v9 eN bN
    have hc := (rm_u hc ec).2
    have hs := (rm_u hs es).2
    clear ec es
    refine lv_goto hx hb d212_10 rfl ?_
    exact b24 ls y0 y1 (some q21) c23 s24 _ _ h22 z0 _ _ hF hc hs (hl.sub [0, 1] rfl) I

def w_Arrays_copyOfO (dA : Nat → ClassId) (y0 : Option Nat) (y1 : Int32) (rc rs : Nat) (K : Option Nat → hm_T → hz_T → Prop) (h0 : hm_T) (z0 : hz_T) : Prop := (cg_d y0 (fun a21 => (cg_oa dA h0 a21 (cg_rm rc rs (fun c25 s26 c27 s28 => w_Arrays_copyOfC dA y0 y1 (some (dA 98)) c25 s26 (fun v22 h23 z24 => (K v22 h23 z24)) h0 z0)))))
set_option maxRecDepth 100000 in
set_option maxHeartbeats 8000000 in
theorem cw_Arrays_copyOfO (l : Launch) (D : va_G) (dA : Nat → ClassId) (s0 : State) (hW : ms_EW D dA s0) (y0 : Option Nat) (y1 : Int32) (rc rs : Nat) (h0 : hm_T) (z0 : hz_T) (K : Option Nat → hm_T → hz_T → Prop) (hg : w_Arrays_copyOfO dA y0 y1 rc rs K h0 z0) : ht_C l D s0 yM213 bM213 2 (Option.some (Jvm.ClassFile.FieldType.array (Jvm.ClassFile.FieldType.object "java/lang/Object"))) (2) (123) rc rs [va_rf y0, .int y1] (fun h z => h = h0 ∧ z = z0) (fun h z vv h1 z1 => ∃ v, vv = some (va_rf v) ∧ K v h1 z1) := by
  have hE := hW.1
  refine ht_C.mk hE.1 (by decide) (by simp [lg_sl, cat_rf, cat_int, cat_ref, cat_null, cat_long]) [(0, va_rf y0), (1, .int y1)] (by simp [lv_args, cat_rf, cat_int, cat_ref, cat_null, cat_long]) ?_
  intro p e s m below meth c ls h z X hin hpre I hl
  have hx := X.1
  have hb := X.2.1
  have hml := X.2.2.1
  have hown : s.vm.findClass "java/util/Arrays" = some m.cls := X.2.2.2.1
  have hts := X.2.2.2.2.2.2.1
  have hK := X.2.2.2.2.2.2.2.2.1
  rw [hpre.1, hpre.2] at I
  clear hpre
  have hF := hg
  unfold w_Arrays_copyOfO at hF
  clear h z
  have hc : 0 + rc ≤ rc := by omega
  have hs : 0 + rs ≤ rs := by omega
  refine lv_aload_nR hx hb d213_0 rfl (lv_at hl 0 rfl) ?_
  refine lv_iload_n hx hb d213_1 rfl (lv_at hl 1 rfl) ?_
  refine lv_aload_nR hx hb d213_2 rfl (lv_at hl 0 rfl) ?_
  obtain ⟨a21, e9, hF⟩ := hF
  refine W.eq (g2 := F0 m 3 ls [.ref a21, .int y1, va_rf y0]) (by rw [e9]; rfl) ?_
  clear e9
  obtain ⟨n8, f8, c9, hF⟩ := hF
  refine va_getC (C := "[Ljava/lang/Object;") (mi := dA 98) hx hb (by rw [hml]; exact hl.1.symm) hown (hts _ ms_k514) (hm_dc hE X (ms_l (ms_t8 (List.mem_of_getElem? (i := 175) (by decide +kernel))))) (hts _ ms_k1854) (hts _ ms_k515) (hts _ ms_k532) (hm_mi hW X) (hm_recvO hK I c9) (Nat.le_of_ble_eq_true rfl) (by simp [cat_rf, cat_int, cat_ref, cat_null, cat_long]) d213_3 ?_
  clear c9
  obtain ⟨c25, s26, c27, s28, ec, es, hF⟩ := hF
  refine ht_S (rest := []) (as := [va_rf y0, .int y1, .ref (dA 98)]) X hl (cw_Arrays_copyOfC l D dA s0 hW y0 y1 (some (dA 98)) c25 s26 h0 z0 _ hF) (List.forall_mem_cons.mpr ⟨ms_k533, List.forall_mem_cons.mpr ⟨ms_k534, List.forall_mem_cons.mpr ⟨ms_k10, List.forall_mem_cons.mpr ⟨ms_k535, fun _ h => absurd h List.not_mem_nil⟩⟩⟩⟩) ⟨by decide +kernel, by decide +kernel, (by decide +kernel : (parseMethodDescriptor "([Ljava/lang/Object;ILjava/lang/Class;)[Ljava/lang/Object;").map (fun d => d.parameters.length) = some 3)⟩ I ⟨rfl, rfl⟩ ⟨⟨Nat.le_of_ble_eq_true rfl, Nat.le_of_ble_eq_true rfl⟩, (rm_u hc ec).1, (rm_u hs es).1⟩ rfl (Nat.le_of_ble_eq_true rfl) d213_6 (fun vv h23 z24 H locs hR I9 => ?_)
  obtain ⟨v22, e1, hF⟩ := hR
  subst e1
  clear I
  have I := I9
  clear I9
  have hc := (rm_u hc ec).2
  have hs := (rm_u hs es).2
  clear ec es
  refine W.eq (g2 := F0 m 9 ls [va_rf v22]) rfl ?_
  exact ht_aret X d213_9 I (rm_r hc) (rm_r hs) ⟨v22, rfl, hF⟩ (Or.inr ⟨_, rfl⟩) (rf_or _)

def w_AL_growI_20 (dA : Nat → ClassId) (y0 : Nat) (K : Option Nat → hm_T → hz_T → Prop) (x1 : Int32) (x2 : Int32) (cr sr : Nat) (h : hm_T) (z : hz_T) : Prop := (cg_rm cr sr (fun c27 s28 c29 s30 => w_ArraysSupport_newLength dA x2 (x1 - x2) (x2 >>> (1 &&& 31)) c27 s28 (fun v24 h25 z26 => (cg_R h25 4 1 y0 (fun v31 => (cg_rm c29 s30 (fun c35 s36 c37 s38 => w_Arrays_copyOfO dA v31 v24 c35 s36 (fun v32 h33 z34 => (cg_p h33 4 1 y0 (va_rf v32) (fun h39 => (K v32 h39 z34)))) h25 z26))))) h z))
def w_AL_growI (dA : Nat → ClassId) (y0 : Nat) (y1 : Int32) (rc rs : Nat) (K : Option Nat → hm_T → hz_T → Prop) (h0 : hm_T) (z0 : hz_T) : Prop := (cg_R h0 4 1 y0 (fun v21 => (cg_d v21 (fun a22 => (cg_alo dA h0 a22 (fun v23 => (if 0 < v23 then (w_AL_growI_20 dA y0 K y1 v23 rc rs h0 z0) else (cg_R h0 4 1 y0 (fun v40 => (if v40 = (some (dA 99)) then (cg_nq dA h0 rc rs 6 (if 10 < y1 then y1 else 10) (fun q41 c43 s44 h42 => (cg_p h42 4 1 y0 (.ref q41) (fun h45 => (K (some q41) h45 z0))))) else (w_AL_growI_20 dA y0 K y1 v23 rc rs h0 z0)))))))))))
set_option maxRecDepth 100000 in
set_option maxHeartbeats 8000000 in
theorem cw_AL_growI (l : Launch) (D : va_G) (dA : Nat → ClassId) (s0 : State) (hW : ms_EW D dA s0) (y0 : Nat) (y1 : Int32) (rc rs : Nat) (h0 : hm_T) (z0 : hz_T) (K : Option Nat → hm_T → hz_T → Prop) (hg : w_AL_growI dA y0 y1 rc rs K h0 z0) : ht_C l D s0 yM214 bM214 4 (Option.some (Jvm.ClassFile.FieldType.array (Jvm.ClassFile.FieldType.object "java/lang/Object"))) (3) (144) rc rs [.ref y0, .int y1] (fun h z => h = h0 ∧ z = z0) (fun h z vv h1 z1 => ∃ v, vv = some (va_rf v) ∧ K v h1 z1) := by
  have hE := hW.1
  refine ht_C.mk hE.1 (by decide) (Nat.le_of_ble_eq_true rfl) [(0, .ref y0), (1, .int y1)] rfl ?_
  intro p e s m below meth c ls h z X hin hpre I hl
  have hx := X.1
  have hb := X.2.1
  have hml := X.2.2.1
  have hown : s.vm.findClass "java/util/ArrayList" = some m.cls := X.2.2.2.1
  have hts := X.2.2.2.2.2.2.1
  have hK := X.2.2.2.2.2.2.2.2.1
  rw [hpre.1, hpre.2] at I
  clear hpre
  have b20 : ∀ (ls : Array Slot) (x1 : Int32) (x2 : Int32) (cr sr cu su : Nat) (h : hm_T) (z : hz_T) (H : Heap) (locs : List Loc), w_AL_growI_20 dA y0 K x1 x2 cr sr h z → cu + cr ≤ rc → su + sr ≤ rs → lv_has ls 4 [(0, .ref y0), (1, .int x1), (2, .int x2)] → hm_I D s0 s h z H locs → W p l e { frames := 3, cells := rc, slots := rs, locals := 144 } s m ([.ref y0, .int y1] : List Value).toArray below meth c H locs cu su (MQ below (ht_Q D s0 (fun vv h1 z1 => ∃ v, vv = some (va_rf v) ∧ K v h1 z1)) ([.ref y0, .int y1] : List Value).toArray s rc rs (fun q => s0.heap.size ≤ q)) (F0 m 20 ls []) := by
    intro ls x1 x2 cr sr cu su h z H locs hF hc hs hl I
    unfold w_AL_growI_20 at hF
    refine lv_iload_n hx hb d214_20 rfl (lv_at hl 2 rfl) ?_
    refine lv_iload_n hx hb d214_21 rfl (lv_at hl 1 rfl) ?_
    refine lv_iload_n hx hb d214_22 rfl (lv_at hl 2 rfl) ?_
    refine lv_isub hx hb d214_23 ?_
    refine lv_iload_n hx hb d214_24 rfl (lv_at hl 2 rfl) ?_
    refine lv_iconst (v := 1) hx hb d214_25 (by decide) ?_
    refine lv_ishr hx hb d214_26 ?_
    obtain ⟨c27, s28, c29, s30, ec, es, hF⟩ := hF
    refine ht_S (rest := []) (as := [.int x2, .int (x1 - x2), .int (x2 >>> (1 &&& 31))]) X hl (cw_ArraysSupport_newLength l D dA s0 hW x2 (x1 - x2) (x2 >>> (1 &&& 31)) c27 s28 h z _ hF) (List.forall_mem_cons.mpr ⟨ms_k510, List.forall_mem_cons.mpr ⟨ms_k152, List.forall_mem_cons.mpr ⟨ms_k8, List.forall_mem_cons.mpr ⟨ms_k153, fun _ h => absurd h List.not_mem_nil⟩⟩⟩⟩) ⟨by decide +kernel, by decide +kernel, (by decide +kernel : (parseMethodDescriptor "(III)I").map (fun d => d.parameters.length) = some 3)⟩ I ⟨rfl, rfl⟩ ⟨⟨Nat.le_of_ble_eq_true rfl, Nat.le_of_ble_eq_true rfl⟩, (rm_u hc ec).1, (rm_u hs es).1⟩ rfl (Nat.le_of_ble_eq_true rfl) d214_27 (fun vv h25 z26 H locs hR I9 => ?_)
    obtain ⟨v24, e1, hF⟩ := hR
    subst e1
    clear I
    have I := I9
    clear I9
    have hc := (rm_u hc ec).2
    have hs := (rm_u hs es).2
    clear ec es
    refine W.eq (g2 := F0 m 30 ls [.int v24]) rfl ?_
    refine lv_istore_n hx hb d214_30 rfl hl (by decide) rfl (fun ls hl => ?_)
    have hl : lv_has ls 4 [(3, .int v24), (0, .ref y0), (1, .int x1), (2, .int x2)] := hl
    refine lv_aload_n hx hb d214_31 rfl (lv_at hl 1 rfl) ?_
    refine lv_aload_n hx hb d214_32 rfl (lv_at hl 1 rfl) ?_
    obtain ⟨fs9, v31, c9, e9, hF⟩ := hF
    refine va_get (D := D) (ci := 4) (v := va_rf v31) (C := kR4) (T := kT4) (N := 3) hx hb hts ku4 hown hK (hm_one I.1 c9) 0 rfl rfl 1 (by decide) (hts _ ms_k336) (fun _ h => h) e9 d214_33 ?_
    clear e9 c9 fs9
    refine lv_iload_n hx hb d214_36 rfl (lv_at hl 0 rfl) ?_
    obtain ⟨c35, s36, c37, s38, ec, es, hF⟩ := hF
    refine ht_S (rest := [.ref y0]) (as := [va_rf v31, .int v24]) X hl (cw_Arrays_copyOfO l D dA s0 hW v31 v24 c35 s36 h25 z26 _ hF) (List.forall_mem_cons.mpr ⟨ms_k511, List.forall_mem_cons.mpr ⟨ms_k512, List.forall_mem_cons.mpr ⟨ms_k10, List.forall_mem_cons.mpr ⟨ms_k513, fun _ h => absurd h List.not_mem_nil⟩⟩⟩⟩) ⟨by decide +kernel, by decide +kernel, (by decide +kernel : (parseMethodDescriptor "([Ljava/lang/Object;I)[Ljava/lang/Object;").map (fun d => d.parameters.length) = some 2)⟩ I ⟨rfl, rfl⟩ ⟨⟨Nat.le_of_ble_eq_true rfl, Nat.le_of_ble_eq_true rfl⟩, (rm_u hc ec).1, (rm_u hs es).1⟩ rfl (Nat.le_of_ble_eq_true rfl) d214_37 (fun vv h33 z34 H locs hR I9 => ?_)
    obtain ⟨v32, e1, hF⟩ := hR
    subst e1
    clear I
    have I := I9
    clear I9
    have hc := (rm_u hc ec).2
    have hs := (rm_u hs es).2
    clear ec es
    refine W.eq (g2 := F0 m 40 ls [va_rf v32, .ref y0]) rfl ?_
    refine lv_dup_x1 hx hb d214_40 (cat_rf _) rfl ?_
    obtain ⟨fs9, c9, k9, hF⟩ := hF
    refine hm_put (ci := 4) (v := va_rf v32) (ty := (.array (.object "java/lang/Object"))) (C := kR4) (T := kT4) (N := 3) X I ku4 kt4 kp4 kn4 c9 rfl 1 (by decide) ms_k336 (fun _ h => h) rfl (by decide +kernel) (by cases v32 <;> rfl) (by cases v32 <;> rfl) k9 d214_41 (fun h39 H locs e9 f9 I => ?_)
    rw [← hm_eqU e9 f9] at hF
    clear e9 f9 c9 k9
    exact ht_aret X d214_44 I (rm_r hc) (rm_r hs) ⟨v32, rfl, hF⟩ (Or.inr ⟨_, rfl⟩) (rf_or _)
  have hF := hg
  unfold w_AL_growI at hF
  clear h z
  have hc : 0 + rc ≤ rc := by omega
  have hs : 0 + rs ≤ rs := by omega
  refine lv_aload_n hx hb d214_0 rfl (lv_at hl 0 rfl) ?_
  obtain ⟨fs9, v21, c9, e9, hF⟩ := hF
  refine va_get (D := D) (ci := 4) (v := va_rf v21) (C := kR4) (T := kT4) (N := 3) hx hb hts ku4 hown hK (hm_one I.1 c9) 0 rfl rfl 1 (by decide) (hts _ ms_k336) (fun _ h => h) e9 d214_1 ?_
  clear e9 c9 fs9
  obtain ⟨a22, e9, hF⟩ := hF
  refine W.eq (g2 := F0 m 4 ls [.ref a22]) (by rw [e9]; rfl) ?_
  clear e9
  obtain ⟨v23, e9, hF⟩ := hF
  refine hm_aleno hW X I e9 d214_4 ?_
  clear e9
  refine lv_istore_n hx hb d214_5 rfl hl (by decide) rfl (fun ls hl => ?_)
  have hl : lv_has ls 4 [(2, .int v23), (0, .ref y0), (1, .int y1)] := hl
  refine lv_iload_n hx hb d214_6 rfl (lv_at hl 0 rfl) ?_
  refine lv_if_gt hx hb d214_7 rfl (fun h9 => ?_) (fun h9 => ?_)
  · have hF := Eq.mp (if_pos h9) hF
    exact b20 ls y1 v23 rc rs _ _ h0 z0 _ _ hF hc hs (hl.sub [1, 2, 0] rfl) I
  · have hF := Eq.mp (if_neg h9) hF
    refine lv_aload_n hx hb d214_10 rfl (lv_at hl 1 rfl) ?_
    obtain ⟨fs9, v40, c9, e9, hF⟩ := hF
    refine va_get (D := D) (ci := 4) (v := va_rf v40) (C := kR4) (T := kT4) (N := 3) hx hb hts ku4 hown hK (hm_one I.1 c9) 0 rfl rfl 1 (by decide) (hts _ ms_k336) (fun _ h => h) e9 d214_11 ?_
    clear e9 c9 fs9
    refine va_gets (own := "java/util/ArrayList") hx hb (ms_z hW.2.1 X) I.2.2.1 hown (hts _ ms_k334) (fun _ h => h) d214_14 ?_
    refine lv_acmp_eq (rx := v40) (ry := (some (dA 99))) hx hb d214_17 rfl (fun h9 => ?_) (fun h9 => ?_)
    · have hF := Eq.mp (if_pos h9) hF
      refine lv_aload_n hx hb d214_45 rfl (lv_at hl 1 rfl) ?_
      refine lv_bipush (v := 10) hx hb d214_46 (by decide) ?_
      refine lv_iload_n hx hb d214_48 rfl (lv_at hl 2 rfl) ?_
      refine va_mmax hx hb (by rw [hml]; exact hl.1.symm) hown (hts _ ms_k539) (hts _ ms_k155) (hts _ ms_k9) (hts _ ms_k156) (Nat.le_of_ble_eq_true rfl) (Nat.le_of_ble_eq_true rfl) (rm_r hc) (rm_r hs) d214_49 ?_
      obtain ⟨N9, c43, s44, eN, bN, ec, es, hF⟩ := hF
      refine ms_top (y := nI N9) eN ?_
      refine hm_mkq (nm := "[Ljava/lang/Object;") (N' := N9) (C := "java/lang/Object") X I ms_k540 (ms_ao hE.2.2.2.2.1 X) 6 rfl (by decide) (nI_pos (by omega)) (nI_clamp (by omega)) (by omega) (rm_u hc ec).1 (rm_u hs es).1 d214_52 (fun q41 h42 H v9 e9 f9 I => ?_)
      have hF := hF q41 v9
      rw [← hm_eqU e9 f9] at hF
      clear e9 f9 v9 eN bN
      have hc := (rm_u hc ec).2
      have hs := (rm_u hs es).2
      clear ec es
      refine lv_dup_x1 hx hb d214_55 rfl rfl ?_
      obtain ⟨fs9, c9, k9, hF⟩ := hF
      refine hm_put (ci := 4) (v := .ref q41) (ty := (.array (.object "java/lang/Object"))) (C := kR4) (T := kT4) (N := 3) X I ku4 kt4 kp4 kn4 c9 rfl 1 (by decide) ms_k336 (fun _ h => h) rfl (by decide +kernel) rfl rfl k9 d214_56 (fun h45 H locs e9 f9 I => ?_)
      rw [← hm_eqU e9 f9] at hF
      clear e9 f9 c9 k9
      exact ht_aret X d214_59 I (rm_r hc) (rm_r hs) ⟨(some q41), rfl, hF⟩ (Or.inr ⟨_, rfl⟩) (Or.inr ⟨_, rfl⟩)
    · have hF := Eq.mp (if_neg h9) hF
      exact b20 ls y1 v23 rc rs _ _ h0 z0 _ _ hF hc hs (hl.sub [1, 2, 0] rfl) I

def w_AL_grow (dA : Nat → ClassId) (y0 : Nat) (rc rs : Nat) (K : Option Nat → hm_T → hz_T → Prop) (h0 : hm_T) (z0 : hz_T) : Prop := (cg_I h0 4 2 y0 (fun v21 => (cg_c h0 4 y0 (cg_rm rc rs (fun c25 s26 c27 s28 => w_AL_growI dA y0 (v21 + 1) c25 s26 (fun v22 h23 z24 => (K v22 h23 z24)) h0 z0)))))
set_option maxRecDepth 100000 in
set_option maxHeartbeats 8000000 in
theorem cw_AL_grow (l : Launch) (D : va_G) (dA : Nat → ClassId) (s0 : State) (hW : ms_EW D dA s0) (y0 : Nat) (rc rs : Nat) (h0 : hm_T) (z0 : hz_T) (K : Option Nat → hm_T → hz_T → Prop) (hg : w_AL_grow dA y0 rc rs K h0 z0) : ht_C l D s0 yM215 bM215 1 (Option.some (Jvm.ClassFile.FieldType.array (Jvm.ClassFile.FieldType.object "java/lang/Object"))) (4) (167) rc rs [.ref y0] (fun h z => h = h0 ∧ z = z0) (fun h z vv h1 z1 => ∃ v, vv = some (va_rf v) ∧ K v h1 z1) := by
  have hE := hW.1
  refine ht_C.mk hE.1 (by decide) (Nat.le_of_ble_eq_true rfl) [(0, .ref y0)] rfl ?_
  intro p e s m below meth c ls h z X hin hpre I hl
  have hx := X.1
  have hb := X.2.1
  have hml := X.2.2.1
  have hown : s.vm.findClass "java/util/ArrayList" = some m.cls := X.2.2.2.1
  have hts := X.2.2.2.2.2.2.1
  have hK := X.2.2.2.2.2.2.2.2.1
  rw [hpre.1, hpre.2] at I
  clear hpre
  have hF := hg
  unfold w_AL_grow at hF
  clear h z
  have hc : 0 + rc ≤ rc := by omega
  have hs : 0 + rs ≤ rs := by omega
  refine lv_aload_n hx hb d215_0 rfl (lv_at hl 0 rfl) ?_
  refine lv_aload_n hx hb d215_1 rfl (lv_at hl 0 rfl) ?_
  obtain ⟨fs9, v21, c9, e9, hF⟩ := hF
  refine va_get (D := D) (ci := 4) (v := .int v21) (C := kR4) (T := kT4) (N := 3) hx hb hts ku4 hown hK (hm_one I.1 c9) 0 rfl rfl 2 (by decide) (hts _ ms_k337) (fun _ h => h) e9 d215_2 ?_
  clear e9 c9 fs9
  refine lv_iconst (v := 1) hx hb d215_5 (by decide) ?_
  refine lv_iadd hx hb d215_6 ?_
  obtain ⟨fs9, c9, hF⟩ := hF
  obtain ⟨c25, s26, c27, s28, ec, es, hF⟩ := hF
  refine ht_V (C := "java/util/ArrayList") (rest := []) (as := [.int (v21 + 1)]) X hl (cw_AL_growI l D dA s0 hW y0 (v21 + 1) c25 s26 h0 z0 _ hF) (List.forall_mem_cons.mpr ⟨ms_k506, List.forall_mem_cons.mpr ⟨ms_k508, List.forall_mem_cons.mpr ⟨ms_p5, List.forall_mem_cons.mpr ⟨ms_k18, List.forall_mem_cons.mpr ⟨ms_k509, fun _ h => absurd h List.not_mem_nil⟩⟩⟩⟩⟩) ⟨rfl, by decide +kernel, by decide +kernel, (by decide +kernel : (parseMethodDescriptor "(I)[Ljava/lang/Object;").map (fun d => d.parameters.length) = some 1)⟩ (hm_recv hK I rfl c9) I ⟨rfl, rfl⟩ ⟨⟨Nat.le_of_ble_eq_true rfl, Nat.le_of_ble_eq_true rfl⟩, (rm_u hc ec).1, (rm_u hs es).1⟩ rfl (Nat.le_of_ble_eq_true rfl) d215_7 (fun vv h23 z24 H locs hR I9 => ?_)
  obtain ⟨v22, e1, hF⟩ := hR
  subst e1
  clear I
  have I := I9
  clear I9 c9 fs9
  have hc := (rm_u hc ec).2
  have hs := (rm_u hs es).2
  clear ec es
  refine W.eq (g2 := F0 m 10 ls [va_rf v22]) rfl ?_
  exact ht_aret X d215_10 I (rm_r hc) (rm_r hs) ⟨v22, rfl, hF⟩ (Or.inr ⟨_, rfl⟩) (rf_or _)

def w_AL_add3_11 (dA : Nat → ClassId) (y0 : Nat) (K : hm_T → hz_T → Prop) (x1 : Option Nat) (x2 : Option Nat) (x3 : Int32) (cr sr : Nat) (h : hm_T) (z : hz_T) : Prop := (cg_d x2 (fun a23 => (cg_d x1 (fun a25 => (cg_sro dA h a23 x3 a25 (fun h24 => (cg_p h24 4 2 y0 (.int (x3 + 1)) (fun h26 => (K h26 z)))))))))
def w_AL_add3 (dA : Nat → ClassId) (y0 : Nat) (y1 : Option Nat) (y2 : Option Nat) (y3 : Int32) (rc rs : Nat) (K : hm_T → hz_T → Prop) (h0 : hm_T) (z0 : hz_T) : Prop := (cg_d y2 (fun a21 => (cg_alo dA h0 a21 (fun v22 => (if y3 = v22 then (cg_c h0 4 y0 (cg_rm rc rs (fun c30 s31 c32 s33 => w_AL_grow dA y0 c30 s31 (fun v27 h28 z29 => (w_AL_add3_11 dA y0 K y1 v27 y3 c32 s33 h28 z29)) h0 z0))) else (w_AL_add3_11 dA y0 K y1 y2 y3 rc rs h0 z0))))))
set_option maxRecDepth 100000 in
set_option maxHeartbeats 8000000 in
theorem cw_AL_add3 (l : Launch) (D : va_G) (dA : Nat → ClassId) (s0 : State) (hW : ms_EW D dA s0) (y0 : Nat) (y1 : Option Nat) (y2 : Option Nat) (y3 : Int32) (rc rs : Nat) (h0 : hm_T) (z0 : hz_T) (K : hm_T → hz_T → Prop) (hg : w_AL_add3 dA y0 y1 y2 y3 rc rs K h0 z0) : ht_C l D s0 yM216 bM216 4 (Option.none : Option Jvm.ClassFile.FieldType) (5) (187) rc rs [.ref y0, va_rf y1, va_rf y2, .int y3] (fun h z => h = h0 ∧ z = z0) (fun h z vv h1 z1 => vv = none ∧ K h1 z1) := by
  have hE := hW.1
  refine ht_C.mk hE.1 (by decide) (by simp [lg_sl, cat_rf, cat_int, cat_ref, cat_null, cat_long]) [(0, .ref y0), (1, va_rf y1), (2, va_rf y2), (3, .int y3)] (by simp [lv_args, cat_rf, cat_int, cat_ref, cat_null, cat_long]) ?_
  intro p e s m below meth c ls h z X hin hpre I hl
  have hx := X.1
  have hb := X.2.1
  have hml := X.2.2.1
  have hown : s.vm.findClass "java/util/ArrayList" = some m.cls := X.2.2.2.1
  have hts := X.2.2.2.2.2.2.1
  have hK := X.2.2.2.2.2.2.2.2.1
  rw [hpre.1, hpre.2] at I
  clear hpre
  have b11 : ∀ (ls : Array Slot) (x1 : Option Nat) (x2 : Option Nat) (x3 : Int32) (cr sr cu su : Nat) (h : hm_T) (z : hz_T) (H : Heap) (locs : List Loc), w_AL_add3_11 dA y0 K x1 x2 x3 cr sr h z → cu + cr ≤ rc → su + sr ≤ rs → lv_has ls 4 [(0, .ref y0), (1, va_rf x1), (2, va_rf x2), (3, .int x3)] → hm_I D s0 s h z H locs → W p l e { frames := 5, cells := rc, slots := rs, locals := 187 } s m ([.ref y0, va_rf y1, va_rf y2, .int y3] : List Value).toArray below meth c H locs cu su (MQ below (ht_Q D s0 (fun vv h1 z1 => vv = none ∧ K h1 z1)) ([.ref y0, va_rf y1, va_rf y2, .int y3] : List Value).toArray s rc rs (fun q => s0.heap.size ≤ q)) (F0 m 11 ls []) := by
    intro ls x1 x2 x3 cr sr cu su h z H locs hF hc hs hl I
    unfold w_AL_add3_11 at hF
    refine lv_aload_nR hx hb d216_11 rfl (lv_at hl 2 rfl) ?_
    refine lv_iload_n hx hb d216_12 rfl (lv_at hl 3 rfl) ?_
    refine lv_aload_nR hx hb d216_13 rfl (lv_at hl 1 rfl) ?_
    obtain ⟨a23, e9, hF⟩ := hF
    refine W.eq (g2 := F0 m 14 ls [va_rf x1, .int x3, .ref a23]) (by rw [e9]; rfl) ?_
    clear e9
    obtain ⟨a25, e9, hF⟩ := hF
    refine W.eq (g2 := F0 m 14 ls [.ref a25, .int x3, .ref a23]) (by rw [e9]; rfl) ?_
    clear e9
    obtain ⟨j9, n8, f8, c9, i9, hF⟩ := hF
    refine hm_aast (E := "java/lang/Object") X I 6 c9 rfl (hm_jo hE X I j9) i9 d216_14 (fun h24 H locs e9 f9 I => ?_)
    rw [← hm_eqU e9 f9] at hF
    clear e9 f9 c9 i9 j9
    refine lv_aload_n hx hb d216_15 rfl (lv_at hl 0 rfl) ?_
    refine lv_iload_n hx hb d216_16 rfl (lv_at hl 3 rfl) ?_
    refine lv_iconst (v := 1) hx hb d216_17 (by decide) ?_
    refine lv_iadd hx hb d216_18 ?_
    obtain ⟨fs9, c9, k9, hF⟩ := hF
    refine hm_put (ci := 4) (v := .int (x3 + 1)) (ty := .int) (C := kR4) (T := kT4) (N := 3) X I ku4 kt4 kp4 kn4 c9 rfl 2 (by decide) ms_k337 (fun _ h => h) rfl (by decide +kernel) rfl rfl k9 d216_19 (fun h26 H locs e9 f9 I => ?_)
    rw [← hm_eqU e9 f9] at hF
    clear e9 f9 c9 k9
    exact ht_vret X d216_22 I (rm_r hc) (rm_r hs) ⟨rfl, hF⟩
  have hF := hg
  unfold w_AL_add3 at hF
  clear h z
  have hc : 0 + rc ≤ rc := by omega
  have hs : 0 + rs ≤ rs := by omega
  refine lv_iload_n hx hb d216_0 rfl (lv_at hl 3 rfl) ?_
  refine lv_aload_nR hx hb d216_1 rfl (lv_at hl 2 rfl) ?_
  obtain ⟨a21, e9, hF⟩ := hF
  refine W.eq (g2 := F0 m 2 ls [.ref a21, .int y3]) (by rw [e9]; rfl) ?_
  clear e9
  obtain ⟨v22, e9, hF⟩ := hF
  refine hm_aleno hW X I e9 d216_2 ?_
  clear e9
  refine lv_icmp_ne hx hb d216_3 rfl (fun h9 => ?_) (fun h9 => ?_)
  · have hF := Eq.mp (if_neg h9) hF
    exact b11 ls y1 y2 y3 rc rs _ _ h0 z0 _ _ hF hc hs (hl.sub [0, 1, 2, 3] rfl) I
  · have hF := Eq.mp (if_pos h9) hF
    refine lv_aload_n hx hb d216_6 rfl (lv_at hl 0 rfl) ?_
    obtain ⟨fs9, c9, hF⟩ := hF
    obtain ⟨c30, s31, c32, s33, ec, es, hF⟩ := hF
    refine ht_V (C := "java/util/ArrayList") (rest := []) (as := []) X hl (cw_AL_grow l D dA s0 hW y0 c30 s31 h0 z0 _ hF) (List.forall_mem_cons.mpr ⟨ms_k502, List.forall_mem_cons.mpr ⟨ms_k504, List.forall_mem_cons.mpr ⟨ms_p4, List.forall_mem_cons.mpr ⟨ms_k18, List.forall_mem_cons.mpr ⟨ms_k505, fun _ h => absurd h List.not_mem_nil⟩⟩⟩⟩⟩) ⟨rfl, by decide +kernel, by decide +kernel, (by decide +kernel : (parseMethodDescriptor "()[Ljava/lang/Object;").map (fun d => d.parameters.length) = some 0)⟩ (hm_recv hK I rfl c9) I ⟨rfl, rfl⟩ ⟨⟨Nat.le_of_ble_eq_true rfl, Nat.le_of_ble_eq_true rfl⟩, (rm_u hc ec).1, (rm_u hs es).1⟩ rfl (Nat.le_of_ble_eq_true rfl) d216_7 (fun vv h28 z29 H locs hR I9 => ?_)
    obtain ⟨v27, e1, hF⟩ := hR
    subst e1
    clear I
    have I := I9
    clear I9 c9 fs9
    have hc := (rm_u hc ec).2
    have hs := (rm_u hs es).2
    clear ec es
    refine W.eq (g2 := F0 m 10 ls [va_rf v27]) rfl ?_
    refine lv_astore_nR (i := 2) hx hb d216_10 rfl hl (by decide) (show _ = [(2, va_rf v27), (0, .ref y0), (1, va_rf y1), (3, .int y3)] by simp [cat_rf, cat_int, cat_ref, cat_null, cat_long]) (fun ls hl => ?_)
    have hl : lv_has ls 4 [(2, va_rf v27), (0, .ref y0), (1, va_rf y1), (3, .int y3)] := hl
    exact b11 ls y1 v27 y3 c32 s33 _ _ h28 z29 _ _ hF hc hs (hl.sub [1, 2, 0, 3] rfl) I

def w_AL_add (dA : Nat → ClassId) (y0 : Nat) (y1 : Option Nat) (rc rs : Nat) (K : Int32 → hm_T → hz_T → Prop) (h0 : hm_T) (z0 : hz_T) : Prop := (cg_I h0 4 0 y0 (fun v21 => (cg_p h0 4 0 y0 (.int (v21 + 1)) (fun h22 => (cg_R h22 4 1 y0 (fun v23 => (cg_I h22 4 2 y0 (fun v24 => (cg_c h22 4 y0 (cg_rm rc rs (fun c28 s29 c30 s31 => w_AL_add3 dA y0 y1 v23 v24 c28 s29 (fun h26 z27 => (K 1 h26 z27)) h22 z0)))))))))))
set_option maxRecDepth 100000 in
set_option maxHeartbeats 8000000 in
theorem cw_AL_add (l : Launch) (D : va_G) (dA : Nat → ClassId) (s0 : State) (hW : ms_EW D dA s0) (y0 : Nat) (y1 : Option Nat) (rc rs : Nat) (h0 : hm_T) (z0 : hz_T) (K : Int32 → hm_T → hz_T → Prop) (hg : w_AL_add dA y0 y1 rc rs K h0 z0) : ht_C l D s0 yM217 bM217 2 (Option.some Jvm.ClassFile.FieldType.boolean) (6) (210) rc rs [.ref y0, va_rf y1] (fun h z => h = h0 ∧ z = z0) (fun h z vv h1 z1 => ∃ v, vv = some (.int v) ∧ K v h1 z1) := by
  have hE := hW.1
  refine ht_C.mk hE.1 (by decide) (by simp [lg_sl, cat_rf, cat_int, cat_ref, cat_null, cat_long]) [(0, .ref y0), (1, va_rf y1)] (by simp [lv_args, cat_rf, cat_int, cat_ref, cat_null, cat_long]) ?_
  intro p e s m below meth c ls h z X hin hpre I hl
  have hx := X.1
  have hb := X.2.1
  have hml := X.2.2.1
  have hown : s.vm.findClass "java/util/ArrayList" = some m.cls := X.2.2.2.1
  have hts := X.2.2.2.2.2.2.1
  have hK := X.2.2.2.2.2.2.2.2.1
  rw [hpre.1, hpre.2] at I
  clear hpre
  have hF := hg
  unfold w_AL_add at hF
  clear h z
  have hc : 0 + rc ≤ rc := by omega
  have hs : 0 + rs ≤ rs := by omega
  refine lv_aload_n hx hb d217_0 rfl (lv_at hl 0 rfl) ?_
  refine lv_dup hx hb d217_1 rfl ?_
  obtain ⟨fs9, v21, c9, e9, hF⟩ := hF
  refine va_get (D := D) (ci := 4) (v := .int v21) (C := kR4) (T := kT4) (N := 3) hx hb hts ku4 hown hK (hm_one I.1 c9) 0 rfl rfl 0 (by decide) (hts _ ms_k339) (fun x9 h9 => u_same (hts _ ms_k340) x9 h9) e9 d217_2 ?_
  clear e9 c9 fs9
  refine lv_iconst (v := 1) hx hb d217_5 (by decide) ?_
  refine lv_iadd hx hb d217_6 ?_
  obtain ⟨fs9, c9, k9, hF⟩ := hF
  refine hm_put (ci := 4) (v := .int (v21 + 1)) (ty := .int) (C := kR4) (T := kT4) (N := 3) X I ku4 kt4 kp4 kn4 c9 rfl 0 (by decide) ms_k339 (fun x9 h9 => u_same (hts _ ms_k340) x9 h9) rfl (by decide +kernel) rfl rfl k9 d217_7 (fun h22 H locs e9 f9 I => ?_)
  rw [← hm_eqU e9 f9] at hF
  clear e9 f9 c9 k9
  refine lv_aload_n hx hb d217_10 rfl (lv_at hl 0 rfl) ?_
  refine lv_aload_nR hx hb d217_11 rfl (lv_at hl 1 rfl) ?_
  refine lv_aload_n hx hb d217_12 rfl (lv_at hl 0 rfl) ?_
  obtain ⟨fs9, v23, c9, e9, hF⟩ := hF
  refine va_get (D := D) (ci := 4) (v := va_rf v23) (C := kR4) (T := kT4) (N := 3) hx hb hts ku4 hown hK (hm_one I.1 c9) 0 rfl rfl 1 (by decide) (hts _ ms_k336) (fun _ h => h) e9 d217_13 ?_
  clear e9 c9 fs9
  refine lv_aload_n hx hb d217_16 rfl (lv_at hl 0 rfl) ?_
  obtain ⟨fs9, v24, c9, e9, hF⟩ := hF
  refine va_get (D := D) (ci := 4) (v := .int v24) (C := kR4) (T := kT4) (N := 3) hx hb hts ku4 hown hK (hm_one I.1 c9) 0 rfl rfl 2 (by decide) (hts _ ms_k337) (fun _ h => h) e9 d217_17 ?_
  clear e9 c9 fs9
  obtain ⟨fs9, c9, hF⟩ := hF
  obtain ⟨c28, s29, c30, s31, ec, es, hF⟩ := hF
  refine ht_V (C := "java/util/ArrayList") (rest := []) (as := [va_rf y1, va_rf v23, .int v24]) X hl (cw_AL_add3 l D dA s0 hW y0 y1 v23 v24 c28 s29 h22 z0 _ hF) (List.forall_mem_cons.mpr ⟨ms_k498, List.forall_mem_cons.mpr ⟨ms_k500, List.forall_mem_cons.mpr ⟨ms_p3, List.forall_mem_cons.mpr ⟨ms_k18, List.forall_mem_cons.mpr ⟨ms_k501, fun _ h => absurd h List.not_mem_nil⟩⟩⟩⟩⟩) ⟨rfl, by decide +kernel, by decide +kernel, (by decide +kernel : (parseMethodDescriptor "(Ljava/lang/Object;[Ljava/lang/Object;I)V").map (fun d => d.parameters.length) = some 3)⟩ (hm_recv hK I rfl c9) I ⟨rfl, rfl⟩ ⟨⟨Nat.le_of_ble_eq_true rfl, Nat.le_of_ble_eq_true rfl⟩, (rm_u hc ec).1, (rm_u hs es).1⟩ rfl (Nat.le_of_ble_eq_true rfl) d217_20 (fun vv h26 z27 H locs hR I9 => ?_)
  obtain ⟨e1, hF⟩ := hR
  subst e1
  clear I
  have I := I9
  clear I9 c9 fs9
  have hc := (rm_u hc ec).2
  have hs := (rm_u hs es).2
  clear ec es
  refine W.eq (g2 := F0 m 23 ls []) rfl ?_
  refine lv_iconst (v := 1) hx hb d217_23 (by decide) ?_
  exact ht_zret X d217_24 I (rm_r hc) (rm_r hs) ⟨_, rfl, hF⟩ rfl

def w_Arrays_copyOfI (dA : Nat → ClassId) (y0 : Option Nat) (y1 : Int32) (rc rs : Nat) (K : Option Nat → hm_T → hz_T → Prop) (h0 : hm_T) (z0 : hz_T) : Prop := (cg_d y0 (fun a21 => (cg_al dA h0 0 a21 (fun v22 => (if y1 = v22 then False else (cg_na dA h0 rc rs 0 y1 (fun q23 c25 s26 h24 => (cg_d y0 (fun a27 => (cg_al dA h24 0 a27 (fun v28 => (cg_d y0 (fun a29 => (cg_cpi dA h24 a29 q23 (if y1 < v28 then y1 else v28) (fun h30 => (K (some q23) h30 z0))))))))))))))))
set_option maxRecDepth 100000 in
set_option maxHeartbeats 8000000 in
theorem cw_Arrays_copyOfI (l : Launch) (D : va_G) (dA : Nat → ClassId) (s0 : State) (hW : ms_EW D dA s0) (y0 : Option Nat) (y1 : Int32) (rc rs : Nat) (h0 : hm_T) (z0 : hz_T) (K : Option Nat → hm_T → hz_T → Prop) (hg : w_Arrays_copyOfI dA y0 y1 rc rs K h0 z0) : ht_C l D s0 yM218 bM218 3 (Option.some (Jvm.ClassFile.FieldType.array Jvm.ClassFile.FieldType.int)) (1) (100) rc rs [va_rf y0, .int y1] (fun h z => h = h0 ∧ z = z0) (fun h z vv h1 z1 => ∃ v, vv = some (va_rf v) ∧ K v h1 z1) := by
  have hE := hW.1
  refine ht_C.mk hE.1 (by decide) (by simp [lg_sl, cat_rf, cat_int, cat_ref, cat_null, cat_long]) [(0, va_rf y0), (1, .int y1)] (by simp [lv_args, cat_rf, cat_int, cat_ref, cat_null, cat_long]) ?_
  intro p e s m below meth c ls h z X hin hpre I hl
  have hx := X.1
  have hb := X.2.1
  have hml := X.2.2.1
  have hown : s.vm.findClass "java/util/Arrays" = some m.cls := X.2.2.2.1
  have hts := X.2.2.2.2.2.2.1
  have hK := X.2.2.2.2.2.2.2.2.1
  rw [hpre.1, hpre.2] at I
  clear hpre
  have hF := hg
  unfold w_Arrays_copyOfI at hF
  clear h z
  have hc : 0 + rc ≤ rc := by omega
  have hs : 0 + rs ≤ rs := by omega
  refine lv_iload_n hx hb d218_0 rfl (lv_at hl 1 rfl) ?_
  refine lv_aload_nR hx hb d218_1 rfl (lv_at hl 0 rfl) ?_
  obtain ⟨a21, e9, hF⟩ := hF
  refine W.eq (g2 := F0 m 2 ls [.ref a21, .int y1]) (by rw [e9]; rfl) ?_
  clear e9
  obtain ⟨n8, f8, c9, hF⟩ := hF
  refine va_alen (v := nI n8) hx hb hK (hm_one I.1 c9) 0 0 rfl rfl rfl d218_2 ?_
  generalize nI n8 = v22 at hF ⊢
  clear c9
  refine lv_icmp_ne hx hb d218_3 rfl (fun h9 => ?_) (fun h9 => ?_)
  · have hF := Eq.mp (if_neg h9) hF
    refine lv_iload_n hx hb d218_14 rfl (lv_at hl 1 rfl) ?_
    obtain ⟨N9, c25, s26, eN, bN, ec, es, hF⟩ := hF
    refine ms_top (y := nI N9) eN ?_
    refine hm_mka (N' := N9) (atype := .int) (ty := .int) (a0 := (N9, .inl (fun _ => 0))) X I ms_k124 rfl 0 rfl (fun _ h => h) rfl (fun _ => rfl) (nI_pos (by omega)) (nI_clamp (by omega)) (Nat.le_trans (Nat.mul_le_mul_right _ bN) (by decide)) (rm_u hc ec).1 (rm_u hs es).1 d218_15 (fun q23 h24 H v9 e9 f9 I => ?_)
    have hF := hF q23 v9
    rw [← hm_eqU e9 f9] at hF
    clear e9 f9 v9 eN bN
    have hc := (rm_u hc ec).2
    have hs := (rm_u hs es).2
    clear ec es
    refine lv_astore_n hx hb d218_17 rfl hl (by decide) rfl (fun ls hl => ?_)
    have hl : lv_has ls 3 [(2, .ref q23), (0, va_rf y0), (1, .int y1)] := hl
    refine lv_aload_nR hx hb d218_18 rfl (lv_at hl 1 rfl) ?_
    refine lv_iconst (v := 0) hx hb d218_19 (by decide) ?_
    refine lv_aload_n hx hb d218_20 rfl (lv_at hl 0 rfl) ?_
    refine lv_iconst (v := 0) hx hb d218_21 (by decide) ?_
    refine lv_aload_nR hx hb d218_22 rfl (lv_at hl 1 rfl) ?_
    obtain ⟨a27, e9, hF⟩ := hF
    refine W.eq (g2 := F0 m 23 ls [.ref a27, .int 0, .ref q23, .int 0, va_rf y0]) (by rw [e9]; rfl) ?_
    clear e9
    obtain ⟨n8, f8, c9, hF⟩ := hF
    refine va_alen (v := nI n8) hx hb hK (hm_one I.1 c9) 0 0 rfl rfl rfl d218_23 ?_
    generalize nI n8 = v28 at hF ⊢
    clear c9
    refine lv_iload_n hx hb d218_24 rfl (lv_at hl 2 rfl) ?_
    refine va_mmin hx hb (by rw [hml]; exact hl.1.symm) hown (hts _ ms_k172) (hts _ ms_k173) (hts _ ms_k9) (hts _ ms_k174) (Nat.le_of_ble_eq_true rfl) (by simp [cat_rf, cat_int, cat_ref, cat_null, cat_long]) (rm_r hc) (rm_r hs) d218_25 ?_
    obtain ⟨a29, e9, hF⟩ := hF
    refine W.eq (g2 := F0 m 28 ls [.int (if y1 < v28 then y1 else v28), .int 0, .ref q23, .int 0, .ref a29]) (by rw [e9]; rfl) ?_
    clear e9
    obtain ⟨N9, m1, m2, f8, g8, eN, c8, c9, p1, p2, p3, p4, hF⟩ := hF
    refine ms_top (y := nI N9) eN ?_
    refine hm_cpyi X hl.1 I (List.forall_mem_cons.mpr ⟨ms_k175, List.forall_mem_cons.mpr ⟨ms_k177, List.forall_mem_cons.mpr ⟨ms_k176, List.forall_mem_cons.mpr ⟨ms_k11, fun _ h => absurd h List.not_mem_nil⟩⟩⟩⟩) c8 c9 0 rfl p1 p2 p3 p4 (Nat.le_of_ble_eq_true rfl) (show _ ≤ 100 from Nat.le_of_ble_eq_true (by decide +kernel)) d218_28 (fun h30 H locs e9 f9 I => ?_)
    rw [← hm_eqU e9 f9] at hF
    clear e9 f9 c8 c9 p1 p2 p3 p4 eN
    refine lv_aload_n hx hb d218_31 rfl (lv_at hl 0 rfl) ?_
    exact ht_aret X d218_32 I (rm_r hc) (rm_r hs) ⟨(some q23), rfl, hF⟩ (Or.inr ⟨_, rfl⟩) (Or.inr ⟨_, rfl⟩)
  · have hF := Eq.mp (if_pos h9) hF
    refine lv_aload_nR hx hb d218_6 rfl (lv_at hl 0 rfl) ?_
    exact hF.elim

def w_AbstractStringBuilder_length3 (dA : Nat → ClassId) (y0 : Nat) (rc rs : Nat) (K : Int32 → hm_T → hz_T → Prop) (h0 : hm_T) (z0 : hz_T) : Prop := (cg_I h0 3 3 y0 (fun v21 => (K v21 h0 z0)))
set_option maxRecDepth 100000 in
set_option maxHeartbeats 8000000 in
theorem cw_AbstractStringBuilder_length3 (l : Launch) (D : va_G) (dA : Nat → ClassId) (s0 : State) (hW : ms_EW D dA s0) (y0 : Nat) (rc rs : Nat) (h0 : hm_T) (z0 : hz_T) (K : Int32 → hm_T → hz_T → Prop) (hg : w_AbstractStringBuilder_length3 dA y0 rc rs K h0 z0) : ht_C l D s0 yM0 bM0 1 (Option.some Jvm.ClassFile.FieldType.int) (0) (0) rc rs [.ref y0] (fun h z => h = h0 ∧ z = z0) (fun h z vv h1 z1 => ∃ v, vv = some (.int v) ∧ K v h1 z1) := by
  have hE := hW.1
  refine ht_C.mk hE.1 (by decide) (Nat.le_of_ble_eq_true rfl) [(0, .ref y0)] rfl ?_
  intro p e s m below meth c ls h z X hin hpre I hl
  have hx := X.1
  have hb := X.2.1
  have hml := X.2.2.1
  have hown : s.vm.findClass "java/lang/AbstractStringBuilder" = some m.cls := X.2.2.2.1
  have hts := X.2.2.2.2.2.2.1
  have hK := X.2.2.2.2.2.2.2.2.1
  rw [hpre.1, hpre.2] at I
  clear hpre
  have hF := hg
  unfold w_AbstractStringBuilder_length3 at hF
  clear h z
  have hc : 0 + rc ≤ rc := by omega
  have hs : 0 + rs ≤ rs := by omega
  refine lv_aload_n hx hb d0_0 rfl (lv_at hl 0 rfl) ?_
  obtain ⟨fs9, v21, c9, e9, hF⟩ := hF
  refine va_get (D := D) (ci := 3) (v := .int v21) (C := kR3) (T := kT3) (N := 4) hx hb hts ku3 hown hK (hm_one I.1 c9) 0 rfl rfl 3 (by decide) (hts _ ms_k61) (fun _ h => h) e9 d0_1 ?_
  clear e9 c9 fs9
  exact ht_iret X d0_4 I (rm_r hc) (rm_r hs) ⟨_, rfl, hF⟩

def w_SB_length (dA : Nat → ClassId) (y0 : Nat) (rc rs : Nat) (K : Int32 → hm_T → hz_T → Prop) (h0 : hm_T) (z0 : hz_T) : Prop := (cg_c h0 3 y0 (cg_rm rc rs (fun c24 s25 c26 s27 => w_AbstractStringBuilder_length3 dA y0 c24 s25 (fun v21 h22 z23 => (K v21 h22 z23)) h0 z0)))
set_option maxRecDepth 100000 in
set_option maxHeartbeats 8000000 in
theorem cw_SB_length (l : Launch) (D : va_G) (dA : Nat → ClassId) (s0 : State) (hW : ms_EW D dA s0) (y0 : Nat) (rc rs : Nat) (h0 : hm_T) (z0 : hz_T) (K : Int32 → hm_T → hz_T → Prop) (hg : w_SB_length dA y0 rc rs K h0 z0) : ht_C l D s0 yM1 bM1 1 (Option.some Jvm.ClassFile.FieldType.int) (1) (20) rc rs [.ref y0] (fun h z => h = h0 ∧ z = z0) (fun h z vv h1 z1 => ∃ v, vv = some (.int v) ∧ K v h1 z1) := by
  have hE := hW.1
  refine ht_C.mk hE.1 (by decide) (Nat.le_of_ble_eq_true rfl) [(0, .ref y0)] rfl ?_
  intro p e s m below meth c ls h z X hin hpre I hl
  have hx := X.1
  have hb := X.2.1
  have hml := X.2.2.1
  have hown : s.vm.findClass "java/lang/StringBuilder" = some m.cls := X.2.2.2.1
  have hts := X.2.2.2.2.2.2.1
  have hK := X.2.2.2.2.2.2.2.2.1
  rw [hpre.1, hpre.2] at I
  clear hpre
  have hF := hg
  unfold w_SB_length at hF
  clear h z
  have hc : 0 + rc ≤ rc := by omega
  have hs : 0 + rs ≤ rs := by omega
  refine lv_aload_n hx hb d1_0 rfl (lv_at hl 0 rfl) ?_
  obtain ⟨fs9, c9, hF⟩ := hF
  obtain ⟨c24, s25, c26, s27, ec, es, hF⟩ := hF
  refine ht_SU (C := "java/lang/StringBuilder") (rest := []) (as := []) ((hK.1 3 _ rfl).2) X hl (cw_AbstractStringBuilder_length3 l D dA s0 hW y0 c24 s25 h0 z0 _ hF) (List.forall_mem_cons.mpr ⟨ms_k133, List.forall_mem_cons.mpr ⟨ms_k1832, List.forall_mem_cons.mpr ⟨ms_k70, List.forall_mem_cons.mpr ⟨ms_k134, List.forall_mem_cons.mpr ⟨ms_k2, List.forall_mem_cons.mpr ⟨ms_k135, fun _ h => absurd h List.not_mem_nil⟩⟩⟩⟩⟩⟩) ⟨by decide +kernel, (by decide +kernel : (parseMethodDescriptor "()I").map (fun d => d.parameters.length) = some 0)⟩ (hm_recv hK I rfl c9) I ⟨rfl, rfl⟩ ⟨⟨Nat.le_of_ble_eq_true rfl, Nat.le_of_ble_eq_true rfl⟩, (rm_u hc ec).1, (rm_u hs es).1⟩ rfl (Nat.le_of_ble_eq_true rfl) d1_1 (fun vv h22 z23 H locs hR I9 => ?_)
  obtain ⟨v21, e1, hF⟩ := hR
  subst e1
  clear I
  have I := I9
  clear I9 c9 fs9
  have hc := (rm_u hc ec).2
  have hs := (rm_u hs es).2
  clear ec es
  refine W.eq (g2 := F0 m 4 ls [.int v21]) rfl ?_
  exact ht_iret X d1_4 I (rm_r hc) (rm_r hs) ⟨_, rfl, hF⟩

def w_AbstractStringBuilder_init3 (dA : Nat → ClassId) (y0 : Nat) (y1 : Int32) (rc rs : Nat) (K : hm_T → hz_T → Prop) (h0 : hm_T) (z0 : hz_T) : Prop := (cg_na dA h0 rc rs 2 y1 (fun q21 c23 s24 h22 => (cg_p h22 3 0 y0 (.ref q21) (fun h25 => (cg_p h25 3 1 y0 (.int 0) (fun h26 => (K h26 z0)))))))
set_option maxRecDepth 100000 in
set_option maxHeartbeats 8000000 in
theorem cw_AbstractStringBuilder_init3 (l : Launch) (D : va_G) (dA : Nat → ClassId) (s0 : State) (hW : ms_EW D dA s0) (y0 : Nat) (y1 : Int32) (rc rs : Nat) (h0 : hm_T) (z0 : hz_T) (K : hm_T → hz_T → Prop) (hg : w_AbstractStringBuilder_init3 dA y0 y1 rc rs K h0 z0) : ht_C l D s0 yM219 bM219 2 (Option.none : Option Jvm.ClassFile.FieldType) (1) (12) rc rs [.ref y0, .int y1] (fun h z => h = h0 ∧ z = z0) (fun h z vv h1 z1 => vv = none ∧ K h1 z1) := by
  have hE := hW.1
  refine ht_C.mk hE.1 (by decide) (Nat.le_of_ble_eq_true rfl) [(0, .ref y0), (1, .int y1)] rfl ?_
  intro p e s m below meth c ls h z X hin hpre I hl
  have hx := X.1
  have hb := X.2.1
  have hml := X.2.2.1
  have hown : s.vm.findClass "java/lang/AbstractStringBuilder" = some m.cls := X.2.2.2.1
  have hts := X.2.2.2.2.2.2.1
  have hK := X.2.2.2.2.2.2.2.2.1
  rw [hpre.1, hpre.2] at I
  clear hpre
  have hF := hg
  unfold w_AbstractStringBuilder_init3 at hF
  clear h z
  have hc : 0 + rc ≤ rc := by omega
  have hs : 0 + rs ≤ rs := by omega
  refine lv_aload_n hx hb d219_0 rfl (lv_at hl 0 rfl) ?_
  refine W.objInit hx hb hown (hts _ ms_k47) (hts _ ms_k37) (hts _ ms_k38) rfl (by rw [hml]; exact hl.1) rfl d219_1 (Nat.le_of_ble_eq_true rfl) (Nat.le_of_ble_eq_true rfl) ?_
  refine W.eq (g2 := F0 m 4 ls []) rfl ?_
  refine va_gets (own := "java/lang/AbstractStringBuilder") hx hb (ms_z hE.2.2.1 X) I.2.2.1 hown (hts _ ms_k48) (fun _ h => h) d219_4 ?_
  refine lv_if_eq hx hb d219_7 rfl (fun h9 => absurd h9 (by decide)) (fun _ => ?_)
  refine lv_aload_n hx hb d219_10 rfl (lv_at hl 0 rfl) ?_
  refine lv_iload_n hx hb d219_11 rfl (lv_at hl 1 rfl) ?_
  obtain ⟨N9, c23, s24, eN, bN, ec, es, hF⟩ := hF
  refine ms_top (y := nI N9) eN ?_
  refine hm_mka (N' := N9) (atype := .byte) (ty := .byte) (a0 := (N9, .inl (fun _ => 0))) X I ms_k71 rfl 2 rfl (fun _ h => h) rfl (fun _ => rfl) (nI_pos (by omega)) (nI_clamp (by omega)) (Nat.le_trans (Nat.mul_le_mul_right _ bN) (by decide)) (rm_u hc ec).1 (rm_u hs es).1 d219_12 (fun q21 h22 H v9 e9 f9 I => ?_)
  have hF := hF q21 v9
  rw [← hm_eqU e9 f9] at hF
  clear e9 f9 v9 eN bN
  have hc := (rm_u hc ec).2
  have hs := (rm_u hs es).2
  clear ec es
  obtain ⟨fs9, c9, k9, hF⟩ := hF
  refine hm_put (ci := 3) (v := .ref q21) (ty := (.array .byte)) (C := kR3) (T := kT3) (N := 4) X I ku3 kt3 kp3 kn3 c9 rfl 0 (by decide) ms_k57 (fun _ h => h) rfl (by decide +kernel) rfl rfl k9 d219_14 (fun h25 H locs e9 f9 I => ?_)
  rw [← hm_eqU e9 f9] at hF
  clear e9 f9 c9 k9
  refine lv_aload_n hx hb d219_17 rfl (lv_at hl 0 rfl) ?_
  refine lv_iconst (v := 0) hx hb d219_18 (by decide) ?_
  obtain ⟨fs9, c9, k9, hF⟩ := hF
  refine hm_put (ci := 3) (v := .int 0) (ty := .byte) (C := kR3) (T := kT3) (N := 4) X I ku3 kt3 kp3 kn3 c9 rfl 1 (by decide) ms_k58 (fun _ h => h) rfl (by decide +kernel) rfl rfl k9 d219_19 (fun h26 H locs e9 f9 I => ?_)
  rw [← hm_eqU e9 f9] at hF
  clear e9 f9 c9 k9
  refine lv_goto hx hb d219_22 rfl ?_
  exact ht_vret X d219_38 I (rm_r hc) (rm_r hs) ⟨rfl, hF⟩

def w_SB_init (dA : Nat → ClassId) (y0 : Nat) (rc rs : Nat) (K : hm_T → hz_T → Prop) (h0 : hm_T) (z0 : hz_T) : Prop := (cg_c h0 3 y0 (cg_rm rc rs (fun c24 s25 c26 s27 => w_AbstractStringBuilder_init3 dA y0 16 c24 s25 (fun h22 z23 => (K h22 z23)) h0 z0)))
set_option maxRecDepth 100000 in
set_option maxHeartbeats 8000000 in
theorem cw_SB_init (l : Launch) (D : va_G) (dA : Nat → ClassId) (s0 : State) (hW : ms_EW D dA s0) (y0 : Nat) (rc rs : Nat) (h0 : hm_T) (z0 : hz_T) (K : hm_T → hz_T → Prop) (hg : w_SB_init dA y0 rc rs K h0 z0) : ht_C l D s0 yM220 bM220 1 (Option.none : Option Jvm.ClassFile.FieldType) (2) (33) rc rs [.ref y0] (fun h z => h = h0 ∧ z = z0) (fun h z vv h1 z1 => vv = none ∧ K h1 z1) := by
  have hE := hW.1
  refine ht_C.mk hE.1 (by decide) (Nat.le_of_ble_eq_true rfl) [(0, .ref y0)] rfl ?_
  intro p e s m below meth c ls h z X hin hpre I hl
  have hx := X.1
  have hb := X.2.1
  have hml := X.2.2.1
  have hown : s.vm.findClass "java/lang/StringBuilder" = some m.cls := X.2.2.2.1
  have hts := X.2.2.2.2.2.2.1
  have hK := X.2.2.2.2.2.2.2.2.1
  rw [hpre.1, hpre.2] at I
  clear hpre
  have hF := hg
  unfold w_SB_init at hF
  clear h z
  have hc : 0 + rc ≤ rc := by omega
  have hs : 0 + rs ≤ rs := by omega
  refine lv_aload_n hx hb d220_0 rfl (lv_at hl 0 rfl) ?_
  refine lv_bipush (v := 16) hx hb d220_1 (by decide) ?_
  obtain ⟨fs9, c9, hF⟩ := hF
  obtain ⟨c24, s25, c26, s27, ec, es, hF⟩ := hF
  refine ht_I (rest := []) (as := [.int 16]) X hl (cw_AbstractStringBuilder_init3 l D dA s0 hW y0 16 c24 s25 h0 z0 _ hF) (List.forall_mem_cons.mpr ⟨ms_k44, List.forall_mem_cons.mpr ⟨ms_k45, List.forall_mem_cons.mpr ⟨ms_k2, List.forall_mem_cons.mpr ⟨ms_k46, fun _ h => absurd h List.not_mem_nil⟩⟩⟩⟩) rfl ⟨by decide +kernel, by decide +kernel, (by decide +kernel : (parseMethodDescriptor "(I)V").map (fun d => d.parameters.length) = some 1)⟩ I ⟨rfl, rfl⟩ ⟨⟨Nat.le_of_ble_eq_true rfl, Nat.le_of_ble_eq_true rfl⟩, (rm_u hc ec).1, (rm_u hs es).1⟩ rfl (Nat.le_of_ble_eq_true rfl) d220_3 (fun vv h22 z23 H locs hR I9 => ?_)
  obtain ⟨e1, hF⟩ := hR
  subst e1
  clear I
  have I := I9
  clear I9 c9 fs9
  have hc := (rm_u hc ec).2
  have hs := (rm_u hs es).2
  clear ec es
  refine W.eq (g2 := F0 m 6 ls []) rfl ?_
  exact ht_vret X d220_6 I (rm_r hc) (rm_r hs) ⟨rfl, hF⟩

def w_Record_init9 (dA : Nat → ClassId) (y0 : Nat) (rc rs : Nat) (K : hm_T → hz_T → Prop) (h0 : hm_T) (z0 : hz_T) : Prop := (K h0 z0)
set_option maxRecDepth 100000 in
set_option maxHeartbeats 8000000 in
theorem cw_Record_init9 (l : Launch) (D : va_G) (dA : Nat → ClassId) (s0 : State) (hW : ms_EW D dA s0) (y0 : Nat) (rc rs : Nat) (h0 : hm_T) (z0 : hz_T) (K : hm_T → hz_T → Prop) (hg : w_Record_init9 dA y0 rc rs K h0 z0) : ht_C l D s0 yM221 bM221 1 (Option.none : Option Jvm.ClassFile.FieldType) (1) (12) rc rs [.ref y0] (fun h z => h = h0 ∧ z = z0) (fun h z vv h1 z1 => vv = none ∧ K h1 z1) := by
  have hE := hW.1
  refine ht_C.mk hE.1 (by decide) (Nat.le_of_ble_eq_true rfl) [(0, .ref y0)] rfl ?_
  intro p e s m below meth c ls h z X hin hpre I hl
  have hx := X.1
  have hb := X.2.1
  have hml := X.2.2.1
  have hown : s.vm.findClass "java/lang/Record" = some m.cls := X.2.2.2.1
  have hts := X.2.2.2.2.2.2.1
  have hK := X.2.2.2.2.2.2.2.2.1
  rw [hpre.1, hpre.2] at I
  clear hpre
  have hF := hg
  unfold w_Record_init9 at hF
  clear h z
  have hc : 0 + rc ≤ rc := by omega
  have hs : 0 + rs ≤ rs := by omega
  refine lv_aload_n hx hb d221_0 rfl (lv_at hl 0 rfl) ?_
  refine W.objInit hx hb hown (hts _ ms_k661) (hts _ ms_k37) (hts _ ms_k38) rfl (by rw [hml]; exact hl.1) rfl d221_1 (Nat.le_of_ble_eq_true rfl) (Nat.le_of_ble_eq_true rfl) ?_
  refine W.eq (g2 := F0 m 4 ls []) rfl ?_
  exact ht_vret X d221_4 I (rm_r hc) (rm_r hs) ⟨rfl, hF⟩
