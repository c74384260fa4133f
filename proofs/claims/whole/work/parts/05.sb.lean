theorem ms_k2 : (Jvm.Cond.initialized "java/lang/AbstractStringBuilder") ∈ ms_tb := ms_i1 2 (by decide +kernel) (by decide +kernel)
theorem ms_k8 : (Jvm.Cond.initialized "jdk/internal/util/ArraysSupport") ∈ ms_tb := ms_i1 8 (by decide +kernel) (by decide +kernel)
theorem ms_k9 : (Jvm.Cond.initialized "java/lang/Math") ∈ ms_tb := ms_i1 9 (by decide +kernel) (by decide +kernel)
theorem ms_k11 : (Jvm.Cond.initialized "java/lang/System") ∈ ms_tb := ms_i1 11 (by decide +kernel) (by decide +kernel)
theorem ms_k48 : (Jvm.Cond.fieldLink "java/lang/AbstractStringBuilder" (18 : Nat) "java/lang/String" "COMPACT_STRINGS" "Z") ∈ ms_tb := ms_i1 48 (by decide +kernel) (by decide +kernel)
theorem ms_k57 : (Jvm.Cond.fieldLink "java/lang/AbstractStringBuilder" (15 : Nat) "java/lang/AbstractStringBuilder" "value" "[B") ∈ ms_tb := ms_i1 57 (by decide +kernel) (by decide +kernel)
theorem ms_k58 : (Jvm.Cond.fieldLink "java/lang/AbstractStringBuilder" (22 : Nat) "java/lang/AbstractStringBuilder" "coder" "B") ∈ ms_tb := ms_i1 58 (by decide +kernel) (by decide +kernel)
theorem ms_k61 : (Jvm.Cond.fieldLink "java/lang/AbstractStringBuilder" (79 : Nat) "java/lang/AbstractStringBuilder" "count" "I") ∈ ms_tb := ms_i1 61 (by decide +kernel) (by decide +kernel)
theorem ms_k70 : (Jvm.Cond.superclass "java/lang/StringBuilder" "java/lang/AbstractStringBuilder") ∈ ms_tb := ms_i1 70 (by decide +kernel) (by decide +kernel)
theorem ms_k71 : (Jvm.Cond.arrayClass Jvm.ClassFile.FieldType.byte) ∈ ms_tb := ms_i1 71 (by decide +kernel) (by decide +kernel)
theorem ms_k133 : (Jvm.Cond.methodLink "java/lang/StringBuilder" (343 : Nat) ({ cls := "java/lang/AbstractStringBuilder", name := "length", desc := "()I" } : Jvm.MethodName)) ∈ ms_tb := ms_i1 133 (by decide +kernel) (by decide +kernel)
theorem ms_k134 : (Jvm.Cond.instanceMethod ({ cls := "java/lang/AbstractStringBuilder", name := "length", desc := "()I" } : Jvm.MethodName)) ∈ ms_tb := ms_i1 134 (by decide +kernel) (by decide +kernel)
theorem ms_k135 : (Jvm.Cond.code ({ cls := "java/lang/AbstractStringBuilder", name := "length", desc := "()I" } : Jvm.MethodName) prog_16_method_6_code (1 : Nat) (Option.some Jvm.ClassFile.FieldType.int)) ∈ ms_tb := ms_i1 135 (by decide +kernel) (by decide +kernel)
theorem ms_k151 : (Jvm.Cond.methodLink "java/lang/AbstractStringBuilder" (114 : Nat) ({ cls := "jdk/internal/util/ArraysSupport", name := "newLength", desc := "(III)I" } : Jvm.MethodName)) ∈ ms_tb := ms_i1 151 (by decide +kernel) (by decide +kernel)
theorem ms_k152 : (Jvm.Cond.static ({ cls := "jdk/internal/util/ArraysSupport", name := "newLength", desc := "(III)I" } : Jvm.MethodName)) ∈ ms_tb := ms_i1 152 (by decide +kernel) (by decide +kernel)
theorem ms_k153 : (Jvm.Cond.code ({ cls := "jdk/internal/util/ArraysSupport", name := "newLength", desc := "(III)I" } : Jvm.MethodName) prog_37_method_27_code (4 : Nat) (Option.some Jvm.ClassFile.FieldType.int)) ∈ ms_tb := ms_i1 153 (by decide +kernel) (by decide +kernel)
theorem ms_k154 : (Jvm.Cond.methodLink "jdk/internal/util/ArraysSupport" (194 : Nat) ({ cls := "java/lang/Math", name := "max", desc := "(II)I" } : Jvm.MethodName)) ∈ ms_tb := ms_i1 154 (by decide +kernel) (by decide +kernel)
theorem ms_k155 : (Jvm.Cond.static ({ cls := "java/lang/Math", name := "max", desc := "(II)I" } : Jvm.MethodName)) ∈ ms_tb := ms_i1 155 (by decide +kernel) (by decide +kernel)
theorem ms_k156 : (Jvm.Cond.code ({ cls := "java/lang/Math", name := "max", desc := "(II)I" } : Jvm.MethodName) prog_21_method_65_code (2 : Nat) (Option.some Jvm.ClassFile.FieldType.int)) ∈ ms_tb := ms_i1 156 (by decide +kernel) (by decide +kernel)
theorem ms_k157 : (Jvm.Cond.constant "jdk/internal/util/ArraysSupport" (200 : Nat) (2147483639 : Int32)) ∈ ms_tb := ms_i1 157 (by decide +kernel) (by decide +kernel)
theorem ms_k161 : (Jvm.Cond.constant "java/lang/AbstractStringBuilder" (39 : Nat) (2147483647 : Int32)) ∈ ms_tb := ms_i1 161 (by decide +kernel) (by decide +kernel)
theorem ms_k172 : (Jvm.Cond.methodLink "java/util/Arrays" (304 : Nat) ({ cls := "java/lang/Math", name := "min", desc := "(II)I" } : Jvm.MethodName)) ∈ ms_tb := ms_i1 172 (by decide +kernel) (by decide +kernel)
theorem ms_k173 : (Jvm.Cond.static ({ cls := "java/lang/Math", name := "min", desc := "(II)I" } : Jvm.MethodName)) ∈ ms_tb := ms_i1 173 (by decide +kernel) (by decide +kernel)
theorem ms_k174 : (Jvm.Cond.code ({ cls := "java/lang/Math", name := "min", desc := "(II)I" } : Jvm.MethodName) prog_21_method_69_code (2 : Nat) (Option.some Jvm.ClassFile.FieldType.int)) ∈ ms_tb := ms_i1 174 (by decide +kernel) (by decide +kernel)
theorem ms_k175 : (Jvm.Cond.methodLink "java/util/Arrays" (150 : Nat) ({ cls := "java/lang/System", name := "arraycopy", desc := "(Ljava/lang/Object;ILjava/lang/Object;II)V" } : Jvm.MethodName)) ∈ ms_tb := ms_i1 175 (by decide +kernel) (by decide +kernel)
theorem ms_k176 : (Jvm.Cond.static ({ cls := "java/lang/System", name := "arraycopy", desc := "(Ljava/lang/Object;ILjava/lang/Object;II)V" } : Jvm.MethodName)) ∈ ms_tb := ms_i1 176 (by decide +kernel) (by decide +kernel)
theorem ms_k177 : (Jvm.Cond.native ({ cls := "java/lang/System", name := "arraycopy", desc := "(Ljava/lang/Object;ILjava/lang/Object;II)V" } : Jvm.MethodName)) ∈ ms_tb := ms_i1 177 (by decide +kernel) (by decide +kernel)
theorem ms_k1832 : (Jvm.Cond.sameMethod "java/lang/AbstractStringBuilder" "java/lang/AbstractStringBuilder" "length" "()I") ∈ ms_tb := ms_i8 152 (by decide +kernel) (by decide +kernel)
abbrev bM0 : ByteArray := prog_16_method_6_code
def yM0 : MethodName := ⟨"java/lang/AbstractStringBuilder", "length", "()I"⟩
abbrev bM1 : ByteArray := prog_24_method_93_code
def yM1 : MethodName := ⟨"java/lang/StringBuilder", "length", "()I"⟩
abbrev bM2 : ByteArray := prog_16_method_68_code
def yM2 : MethodName := ⟨"java/lang/AbstractStringBuilder", "isLatin1", "()Z"⟩
abbrev bM3 : ByteArray := prog_16_method_64_code
def yM3 : MethodName := ⟨"java/lang/AbstractStringBuilder", "getValue", "()[B"⟩
abbrev bM4 : ByteArray := prog_25_method_3_code
def yM4 : MethodName := ⟨"java/lang/StringLatin1", "canEncode", "(C)Z"⟩
abbrev bM5 : ByteArray := prog_16_method_9_code
def yM5 : MethodName := ⟨"java/lang/AbstractStringBuilder", "ensureCapacityInternal", "(I)V"⟩
abbrev bM6 : ByteArray := prog_37_method_27_code
def yM6 : MethodName := ⟨"jdk/internal/util/ArraysSupport", "newLength", "(III)I"⟩
abbrev bM7 : ByteArray := prog_16_method_10_code
def yM7 : MethodName := ⟨"java/lang/AbstractStringBuilder", "newCapacity", "(I)I"⟩
abbrev bM8 : ByteArray := prog_31_method_121_code
def yM8 : MethodName := ⟨"java/util/Arrays", "copyOf", "([BI)[B"⟩
theorem d0_0 : decode bM0 0 = .ok (.aload_n 0, 1) := by decide +kernel
theorem d0_1 : decode bM0 1 = .ok (.getfield 79, 3) := by decide +kernel
theorem d0_4 : decode bM0 4 = .ok (.ireturn, 1) := by decide +kernel
theorem d1_0 : decode bM1 0 = .ok (.aload_n 0, 1) := by decide +kernel
theorem d1_1 : decode bM1 1 = .ok (.invokespecial 343, 3) := by decide +kernel
theorem d1_4 : decode bM1 4 = .ok (.ireturn, 1) := by decide +kernel
theorem d2_0 : decode bM2 0 = .ok (.getstatic 18, 3) := by decide +kernel
theorem d2_3 : decode bM2 3 = .ok (.ifCond .eq 14, 3) := by decide +kernel
theorem d2_6 : decode bM2 6 = .ok (.aload_n 0, 1) := by decide +kernel
theorem d2_7 : decode bM2 7 = .ok (.getfield 22, 3) := by decide +kernel
theorem d2_10 : decode bM2 10 = .ok (.ifCond .ne 7, 3) := by decide +kernel
theorem d2_13 : decode bM2 13 = .ok (.iconst 1, 1) := by decide +kernel
theorem d2_14 : decode bM2 14 = .ok (.goto 4, 3) := by decide +kernel
theorem d2_18 : decode bM2 18 = .ok (.ireturn, 1) := by decide +kernel
theorem d3_0 : decode bM3 0 = .ok (.aload_n 0, 1) := by decide +kernel
theorem d3_1 : decode bM3 1 = .ok (.getfield 15, 3) := by decide +kernel
theorem d3_4 : decode bM3 4 = .ok (.areturn, 1) := by decide +kernel
theorem d4_0 : decode bM4 0 = .ok (.iload_n 0, 1) := by decide +kernel
theorem d4_1 : decode bM4 1 = .ok (.sipush 255, 3) := by decide +kernel
theorem d4_4 : decode bM4 4 = .ok (.if_icmp .gt 7, 3) := by decide +kernel
theorem d4_7 : decode bM4 7 = .ok (.iconst 1, 1) := by decide +kernel
theorem d4_8 : decode bM4 8 = .ok (.goto 4, 3) := by decide +kernel
theorem d4_12 : decode bM4 12 = .ok (.ireturn, 1) := by decide +kernel
theorem d5_0 : decode bM5 0 = .ok (.aload_n 0, 1) := by decide +kernel
theorem d5_1 : decode bM5 1 = .ok (.getfield 15, 3) := by decide +kernel
theorem d5_4 : decode bM5 4 = .ok (.arraylength, 1) := by decide +kernel
theorem d5_5 : decode bM5 5 = .ok (.aload_n 0, 1) := by decide +kernel
theorem d5_6 : decode bM5 6 = .ok (.getfield 22, 3) := by decide +kernel
theorem d5_9 : decode bM5 9 = .ok (.ishr, 1) := by decide +kernel
theorem d5_10 : decode bM5 10 = .ok (.istore_n 2, 1) := by decide +kernel
theorem d5_11 : decode bM5 11 = .ok (.iload_n 1, 1) := by decide +kernel
theorem d5_12 : decode bM5 12 = .ok (.iload_n 2, 1) := by decide +kernel
theorem d5_13 : decode bM5 13 = .ok (.isub, 1) := by decide +kernel
theorem d5_14 : decode bM5 14 = .ok (.ifCond .le 24, 3) := by decide +kernel
theorem d5_38 : decode bM5 38 = .ok (.return_, 1) := by decide +kernel
theorem d6_0 : decode bM6 0 = .ok (.iload_n 0, 1) := by decide +kernel
theorem d6_1 : decode bM6 1 = .ok (.iload_n 1, 1) := by decide +kernel
theorem d6_2 : decode bM6 2 = .ok (.iload_n 2, 1) := by decide +kernel
theorem d6_3 : decode bM6 3 = .ok (.invokestatic 194, 3) := by decide +kernel
theorem d6_6 : decode bM6 6 = .ok (.iadd, 1) := by decide +kernel
theorem d6_7 : decode bM6 7 = .ok (.istore_n 3, 1) := by decide +kernel
theorem d6_8 : decode bM6 8 = .ok (.iconst 0, 1) := by decide +kernel
theorem d6_9 : decode bM6 9 = .ok (.iload_n 3, 1) := by decide +kernel
theorem d6_10 : decode bM6 10 = .ok (.if_icmp .ge 11, 3) := by decide +kernel
theorem d6_13 : decode bM6 13 = .ok (.iload_n 3, 1) := by decide +kernel
theorem d6_14 : decode bM6 14 = .ok (.ldc 200, 2) := by decide +kernel
theorem d6_16 : decode bM6 16 = .ok (.if_icmp .gt 5, 3) := by decide +kernel
theorem d6_19 : decode bM6 19 = .ok (.iload_n 3, 1) := by decide +kernel
theorem d6_20 : decode bM6 20 = .ok (.ireturn, 1) := by decide +kernel
theorem d7_0 : decode bM7 0 = .ok (.aload_n 0, 1) := by decide +kernel
theorem d7_1 : decode bM7 1 = .ok (.getfield 15, 3) := by decide +kernel
theorem d7_4 : decode bM7 4 = .ok (.arraylength, 1) := by decide +kernel
theorem d7_5 : decode bM7 5 = .ok (.istore_n 2, 1) := by decide +kernel
theorem d7_6 : decode bM7 6 = .ok (.iload_n 1, 1) := by decide +kernel
theorem d7_7 : decode bM7 7 = .ok (.aload_n 0, 1) := by decide +kernel
theorem d7_8 : decode bM7 8 = .ok (.getfield 22, 3) := by decide +kernel
theorem d7_11 : decode bM7 11 = .ok (.ishl, 1) := by decide +kernel
theorem d7_12 : decode bM7 12 = .ok (.istore_n 3, 1) := by decide +kernel
theorem d7_13 : decode bM7 13 = .ok (.iload_n 3, 1) := by decide +kernel
theorem d7_14 : decode bM7 14 = .ok (.iload_n 2, 1) := by decide +kernel
theorem d7_15 : decode bM7 15 = .ok (.isub, 1) := by decide +kernel
theorem d7_16 : decode bM7 16 = .ok (.istore 4, 2) := by decide +kernel
theorem d7_18 : decode bM7 18 = .ok (.iload_n 2, 1) := by decide +kernel
theorem d7_19 : decode bM7 19 = .ok (.iload 4, 2) := by decide +kernel
theorem d7_21 : decode bM7 21 = .ok (.iload_n 2, 1) := by decide +kernel
theorem d7_22 : decode bM7 22 = .ok (.iconst 2, 1) := by decide +kernel
theorem d7_23 : decode bM7 23 = .ok (.aload_n 0, 1) := by decide +kernel
theorem d7_24 : decode bM7 24 = .ok (.getfield 22, 3) := by decide +kernel
theorem d7_27 : decode bM7 27 = .ok (.ishl, 1) := by decide +kernel
theorem d7_28 : decode bM7 28 = .ok (.iadd, 1) := by decide +kernel
theorem d7_29 : decode bM7 29 = .ok (.invokestatic 114, 3) := by decide +kernel
theorem d7_32 : decode bM7 32 = .ok (.istore 5, 2) := by decide +kernel
theorem d7_34 : decode bM7 34 = .ok (.iload 5, 2) := by decide +kernel
theorem d7_36 : decode bM7 36 = .ok (.ldc 39, 2) := by decide +kernel
theorem d7_38 : decode bM7 38 = .ok (.if_icmp .ne 13, 3) := by decide +kernel
theorem d7_51 : decode bM7 51 = .ok (.iload 5, 2) := by decide +kernel
theorem d7_53 : decode bM7 53 = .ok (.aload_n 0, 1) := by decide +kernel
theorem d7_54 : decode bM7 54 = .ok (.getfield 22, 3) := by decide +kernel
theorem d7_57 : decode bM7 57 = .ok (.ishr, 1) := by decide +kernel
theorem d7_58 : decode bM7 58 = .ok (.ireturn, 1) := by decide +kernel
theorem d8_0 : decode bM8 0 = .ok (.iload_n 1, 1) := by decide +kernel
theorem d8_1 : decode bM8 1 = .ok (.aload_n 0, 1) := by decide +kernel
theorem d8_2 : decode bM8 2 = .ok (.arraylength, 1) := by decide +kernel
theorem d8_3 : decode bM8 3 = .ok (.if_icmp .ne 11, 3) := by decide +kernel
theorem d8_14 : decode bM8 14 = .ok (.iload_n 1, 1) := by decide +kernel
theorem d8_15 : decode bM8 15 = .ok (.newarray .byte, 2) := by decide +kernel
theorem d8_17 : decode bM8 17 = .ok (.astore_n 2, 1) := by decide +kernel
theorem d8_18 : decode bM8 18 = .ok (.aload_n 0, 1) := by decide +kernel
theorem d8_19 : decode bM8 19 = .ok (.iconst 0, 1) := by decide +kernel
theorem d8_20 : decode bM8 20 = .ok (.aload_n 2, 1) := by decide +kernel
theorem d8_21 : decode bM8 21 = .ok (.iconst 0, 1) := by decide +kernel
theorem d8_22 : decode bM8 22 = .ok (.aload_n 0, 1) := by decide +kernel
theorem d8_23 : decode bM8 23 = .ok (.arraylength, 1) := by decide +kernel
theorem d8_24 : decode bM8 24 = .ok (.iload_n 1, 1) := by decide +kernel
theorem d8_25 : decode bM8 25 = .ok (.invokestatic 304, 3) := by decide +kernel
theorem d8_28 : decode bM8 28 = .ok (.invokestatic 150, 3) := by decide +kernel
theorem d8_31 : decode bM8 31 = .ok (.aload_n 2, 1) := by decide +kernel
theorem d8_32 : decode bM8 32 = .ok (.areturn, 1) := by decide +kernel
theorem ms_sle {a b : Nat} (ha : a < 2 ^ 30) (hb : b < 2 ^ 30) (h : a ≤ b) : nI a - nI b ≤ 0 := by
  rw [Int32.le_iff_toInt_le, pk_sub_toInt ha hb, Int32.toInt_zero]; omega
theorem ms_sgt {a b : Nat} (ha : a < 2 ^ 30) (hb : b < 2 ^ 30) (h : b < a) : ¬ nI a - nI b ≤ 0 := by
  rw [Int32.le_iff_toInt_le, pk_sub_toInt ha hb, Int32.toInt_zero]; omega
theorem ms_nmax {a b : Nat} (hb : b < 2 ^ 31) (h : a ≤ b) : (if nI a < nI b then nI b else nI a) = nI b := by
  by_cases q : a = b
  · subst q; simp
  · rw [if_pos (nI_lt (by omega) hb)]
theorem ms_nmin {a b : Nat} (ha : a < 2 ^ 31) (h : b ≤ a) : (if nI b < nI a then nI b else nI a) = nI b := by
  by_cases q : a = b
  · subst q; simp
  · rw [if_pos (nI_lt (by omega) ha)]
theorem ms_nmin2 {a b : Nat} (hb : b < 2 ^ 31) (h : a ≤ b) : (if nI b < nI a then nI b else nI a) = nI a := by
  rw [if_neg (nI_nlt h hb)]

set_option maxRecDepth 100000 in
set_option maxHeartbeats 8000000 in
theorem c_ASBlen (l : Launch) (D : va_G) (dA : Nat → ClassId) (s0 : State) (hE : ms_EV D dA s0) (h : Nat) (v : Nat) (k : Int32) (mb : Int32) : ms_C l D s0 yM0 bM0 1 (Option.some Jvm.ClassFile.FieldType.int) 0 0 0 0 [.ref h] [(h, .inr (3, [.ref v, .int 0, .int mb, .int k]))] (fun vv ww => vv = some (.int k) ∧ ww = [(h, .inr (3, [.ref v, .int 0, .int mb, .int k]))]) := by
  refine ms_C.mk hE.1 (by decide) (Nat.le_of_ble_eq_true rfl) [(0, .ref h)] rfl ?_
  intro p e s m below meth c A ls X hin hP hD hS hl
  have hx := X.1
  have hb := X.2.1
  have hml := X.2.2.1
  have hown : s.vm.findClass "java/lang/AbstractStringBuilder" = some m.cls := X.2.2.2.1
  have hts := X.2.2.2.2.2.2.1
  have hK := X.2.2.2.2.2.2.2.2.1
  have hA := X.2.2.2.2.2.2.2.2.2.2
  refine lv_aload_n hx hb d0_0 rfl (lv_at hl 0 rfl) ?_
  refine va_get (D := D) (ci := 3) (v := .int k) (C := kR3) (T := kT3) (N := 4) hx hb hts ku3 hown hK hP 0 rfl rfl 3 (by decide) (hts _ ms_k61) (fun _ h => h) rfl d0_1 ?_
  exact ms_iret X d0_4 hP hD hS (Nat.le_of_ble_eq_true rfl) (Nat.le_of_ble_eq_true rfl) (⟨rfl, rfl⟩)

set_option maxRecDepth 100000 in
set_option maxHeartbeats 8000000 in
theorem c_SBlen (l : Launch) (D : va_G) (dA : Nat → ClassId) (s0 : State) (hE : ms_EV D dA s0) (h : Nat) (v : Nat) (k : Int32) (mb : Int32) : ms_C l D s0 yM1 bM1 1 (Option.some Jvm.ClassFile.FieldType.int) 1 20 0 0 [.ref h] [(h, .inr (3, [.ref v, .int 0, .int mb, .int k]))] (fun vv ww => vv = some (.int k) ∧ ww = [(h, .inr (3, [.ref v, .int 0, .int mb, .int k]))]) := by
  refine ms_C.mk hE.1 (by decide) (Nat.le_of_ble_eq_true rfl) [(0, .ref h)] rfl ?_
  intro p e s m below meth c A ls X hin hP hD hS hl
  have hx := X.1
  have hb := X.2.1
  have hml := X.2.2.1
  have hown : s.vm.findClass "java/lang/StringBuilder" = some m.cls := X.2.2.2.1
  have hts := X.2.2.2.2.2.2.1
  have hK := X.2.2.2.2.2.2.2.2.1
  have hA := X.2.2.2.2.2.2.2.2.2.2
  refine lv_aload_n hx hb d1_0 rfl (lv_at hl 0 rfl) ?_
  refine ms_SU (C := "java/lang/StringBuilder") (rest := []) (as := []) (wr := []) ((hK.1 3 _ rfl).2) X hl (c_ASBlen l D dA s0 hE h v k mb) (List.forall_mem_cons.mpr ⟨ms_k133, List.forall_mem_cons.mpr ⟨ms_k1832, List.forall_mem_cons.mpr ⟨ms_k70, List.forall_mem_cons.mpr ⟨ms_k134, List.forall_mem_cons.mpr ⟨ms_k2, List.forall_mem_cons.mpr ⟨ms_k135, fun _ h => absurd h List.not_mem_nil⟩⟩⟩⟩⟩⟩) ⟨by decide +kernel, (by decide +kernel : (parseMethodDescriptor "()I").map (fun d => d.parameters.length) = some 0)⟩ (va_recv hK hP rfl (q0 := 0) rfl) hP hD hS [0] [] rfl rfl ⟨by decide, by decide, by decide⟩ ⟨⟨Nat.le_of_ble_eq_true rfl, Nat.le_of_ble_eq_true rfl⟩, Nat.le_of_ble_eq_true rfl, Nat.le_of_ble_eq_true rfl⟩ rfl (Nat.le_of_ble_eq_true rfl) d1_1 (fun vv ww H locs hR hP hD hS => ?_)
  obtain ⟨rfl, rfl⟩ := hR
  have hP : va_P D vwCl [(h, .inr (3, [.ref v, .int 0, .int mb, .int k]))] H := hP
  have hD : va_D A [(h, .inr (3, [.ref v, .int 0, .int mb, .int k]))] := hD
  refine W.eq (g2 := F0 m 4 ls [.int k]) rfl ?_
  exact ms_iret X d1_4 hP hD hS (Nat.le_of_ble_eq_true rfl) (Nat.le_of_ble_eq_true rfl) (⟨rfl, rfl⟩)

set_option maxRecDepth 100000 in
set_option maxHeartbeats 8000000 in
theorem c_isLat (l : Launch) (D : va_G) (dA : Nat → ClassId) (s0 : State) (hE : ms_EV D dA s0) (h : Nat) (v : Nat) (k : Int32) (mb : Int32) : ms_C l D s0 yM2 bM2 1 (Option.some Jvm.ClassFile.FieldType.boolean) 0 0 0 0 [.ref h] [(h, .inr (3, [.ref v, .int 0, .int mb, .int k]))] (fun vv ww => vv = some (.int 1) ∧ ww = [(h, .inr (3, [.ref v, .int 0, .int mb, .int k]))]) := by
  refine ms_C.mk hE.1 (by decide) (Nat.le_of_ble_eq_true rfl) [(0, .ref h)] rfl ?_
  intro p e s m below meth c A ls X hin hP hD hS hl
  have hx := X.1
  have hb := X.2.1
  have hml := X.2.2.1
  have hown : s.vm.findClass "java/lang/AbstractStringBuilder" = some m.cls := X.2.2.2.1
  have hts := X.2.2.2.2.2.2.1
  have hK := X.2.2.2.2.2.2.2.2.1
  have hA := X.2.2.2.2.2.2.2.2.2.2
  refine va_gets (own := "java/lang/AbstractStringBuilder") hx hb (ms_z hE.2.2.1 X) hS hown (hts _ ms_k48) (fun _ h => h) d2_0 ?_
  refine lv_if_eq hx hb d2_3 rfl (fun h9 => absurd h9 (by decide)) (fun _ => ?_)
  refine lv_aload_n hx hb d2_6 rfl (lv_at hl 0 rfl) ?_
  refine va_get (D := D) (ci := 3) (v := .int 0) (C := kR3) (T := kT3) (N := 4) hx hb hts ku3 hown hK hP 0 rfl rfl 1 (by decide) (hts _ ms_k58) (fun _ h => h) rfl d2_7 ?_
  refine lv_if_ne hx hb d2_10 rfl (fun h9 => absurd (by decide) h9) (fun _ => ?_)
  refine lv_iconst (v := 1) hx hb d2_13 (by decide) ?_
  refine lv_goto hx hb d2_14 rfl ?_
  exact ms_zret X d2_18 hP hD hS (Nat.le_of_ble_eq_true rfl) (Nat.le_of_ble_eq_true rfl) (⟨rfl, rfl⟩) (rfl)

set_option maxRecDepth 100000 in
set_option maxHeartbeats 8000000 in
theorem c_getVal (l : Launch) (D : va_G) (dA : Nat → ClassId) (s0 : State) (hE : ms_EV D dA s0) (h : Nat) (v : Nat) (k : Int32) (mb : Int32) : ms_C l D s0 yM3 bM3 1 (Option.some (Jvm.ClassFile.FieldType.array Jvm.ClassFile.FieldType.byte)) 0 0 0 0 [.ref h] [(h, .inr (3, [.ref v, .int 0, .int mb, .int k]))] (fun vv ww => vv = some (.ref v) ∧ ww = [(h, .inr (3, [.ref v, .int 0, .int mb, .int k]))]) := by
  refine ms_C.mk hE.1 (by decide) (Nat.le_of_ble_eq_true rfl) [(0, .ref h)] rfl ?_
  intro p e s m below meth c A ls X hin hP hD hS hl
  have hx := X.1
  have hb := X.2.1
  have hml := X.2.2.1
  have hown : s.vm.findClass "java/lang/AbstractStringBuilder" = some m.cls := X.2.2.2.1
  have hts := X.2.2.2.2.2.2.1
  have hK := X.2.2.2.2.2.2.2.2.1
  have hA := X.2.2.2.2.2.2.2.2.2.2
  refine lv_aload_n hx hb d3_0 rfl (lv_at hl 0 rfl) ?_
  refine va_get (D := D) (ci := 3) (v := .ref v) (C := kR3) (T := kT3) (N := 4) hx hb hts ku3 hown hK hP 0 rfl rfl 0 (by decide) (hts _ ms_k57) (fun _ h => h) rfl d3_1 ?_
  exact ms_aret X d3_4 hP hD hS (Nat.le_of_ble_eq_true rfl) (Nat.le_of_ble_eq_true rfl) (⟨rfl, rfl⟩) (Or.inr ⟨_, rfl⟩) (Or.inr ⟨_, rfl⟩)

set_option maxRecDepth 100000 in
set_option maxHeartbeats 8000000 in
theorem c_canEnc (l : Launch) (D : va_G) (dA : Nat → ClassId) (s0 : State) (hE : ms_EV D dA s0) (z : Int32) (hz : ¬ 255 < z) : ms_C l D s0 yM4 bM4 1 (Option.some Jvm.ClassFile.FieldType.boolean) 0 0 0 0 [.int z] [] (fun vv ww => vv = some (.int 1) ∧ ww = []) := by
  refine ms_C.mk hE.1 (by decide) (Nat.le_of_ble_eq_true rfl) [(0, .int z)] rfl ?_
  intro p e s m below meth c A ls X hin hP hD hS hl
  have hx := X.1
  have hb := X.2.1
  have hml := X.2.2.1
  have hown : s.vm.findClass "java/lang/StringLatin1" = some m.cls := X.2.2.2.1
  have hts := X.2.2.2.2.2.2.1
  have hK := X.2.2.2.2.2.2.2.2.1
  have hA := X.2.2.2.2.2.2.2.2.2.2
  refine lv_iload_n hx hb d4_0 rfl (lv_at hl 0 rfl) ?_
  refine lv_sipush (v := 255) hx hb d4_1 (by decide) ?_
  refine lv_icmp_gt hx hb d4_4 rfl (fun h9 => absurd h9 (hz)) (fun _ => ?_)
  refine lv_iconst (v := 1) hx hb d4_7 (by decide) ?_
  refine lv_goto hx hb d4_8 rfl ?_
  exact ms_zret X d4_12 hP hD hS (Nat.le_of_ble_eq_true rfl) (Nat.le_of_ble_eq_true rfl) (⟨rfl, rfl⟩) (rfl)

set_option maxRecDepth 100000 in
set_option maxHeartbeats 8000000 in
theorem c_ens0 (l : Launch) (D : va_G) (dA : Nat → ClassId) (s0 : State) (hE : ms_EV D dA s0) (h : Nat) (v : Nat) (j : Nat) (n : Nat) (k : Int32) (mb : Int32) (f : Nat → Int32) (hn : n < 1000) (hj : j ≤ n) : ms_C l D s0 yM5 bM5 3 (Option.none : Option Jvm.ClassFile.FieldType) 3 122 1 142 [.ref h, .int (nI j)] [(h, .inr (3, [.ref v, .int 0, .int mb, .int k])), (v, .inl (dA 2, n, .inl f))] (fun vv ww => vv = none ∧ ww = [(h, .inr (3, [.ref v, .int 0, .int mb, .int k])), (v, .inl (dA 2, n, .inl f))]) := by
  refine ms_C.mk hE.1 (by decide) (Nat.le_of_ble_eq_true rfl) [(0, .ref h), (1, .int (nI j))] rfl ?_
  intro p e s m below meth c A ls X hin hP hD hS hl
  have hx := X.1
  have hb := X.2.1
  have hml := X.2.2.1
  have hown : s.vm.findClass "java/lang/AbstractStringBuilder" = some m.cls := X.2.2.2.1
  have hts := X.2.2.2.2.2.2.1
  have hK := X.2.2.2.2.2.2.2.2.1
  have hA := X.2.2.2.2.2.2.2.2.2.2
  refine lv_aload_n hx hb d5_0 rfl (lv_at hl 0 rfl) ?_
  refine va_get (D := D) (ci := 3) (v := .ref v) (C := kR3) (T := kT3) (N := 4) hx hb hts ku3 hown hK hP 0 rfl rfl 0 (by decide) (hts _ ms_k57) (fun _ h => h) rfl d5_1 ?_
  refine va_alen (v := (nI n)) hx hb hK hP 1 2 rfl rfl rfl d5_4 ?_
  refine lv_aload_n hx hb d5_5 rfl (lv_at hl 0 rfl) ?_
  refine va_get (D := D) (ci := 3) (v := .int 0) (C := kR3) (T := kT3) (N := 4) hx hb hts ku3 hown hK hP 0 rfl rfl 1 (by decide) (hts _ ms_k58) (fun _ h => h) rfl d5_6 ?_
  refine lv_ishr hx hb d5_9 ?_
  refine ms_top (y := (nI n)) (sb_shr0 _) ?_
  refine lv_istore_n hx hb d5_10 rfl hl (by decide) rfl (fun ls hl => ?_)
  have hl : lv_has ls 3 [(2, .int (nI n)), (0, .ref h), (1, .int (nI j))] := hl
  refine lv_iload_n hx hb d5_11 rfl (lv_at hl 2 rfl) ?_
  refine lv_iload_n hx hb d5_12 rfl (lv_at hl 0 rfl) ?_
  refine lv_isub hx hb d5_13 ?_
  refine lv_if_le hx hb d5_14 rfl (fun _ => ?_) (fun h9 => absurd (ms_sle (by omega) (by omega) hj) h9)
  exact ms_vret X d5_38 hP hD hS (Nat.le_of_ble_eq_true rfl) (Nat.le_of_ble_eq_true rfl) (⟨rfl, rfl⟩)

set_option maxRecDepth 100000 in
set_option maxHeartbeats 8000000 in
theorem c_newLen16 (l : Launch) (D : va_G) (dA : Nat → ClassId) (s0 : State) (hE : ms_EV D dA s0) (j : Nat) (h1 : 16 < j) (h2 : j ≤ 34) : ms_C l D s0 yM6 bM6 4 (Option.some Jvm.ClassFile.FieldType.int) 1 14 0 0 [.int 16, .int (nI (j - 16)), .int 18] [] (fun vv ww => vv = some (.int 34) ∧ ww = []) := by
  refine ms_C.mk hE.1 (by decide) (Nat.le_of_ble_eq_true rfl) [(0, .int 16), (1, .int (nI (j - 16))), (2, .int 18)] rfl ?_
  intro p e s m below meth c A ls X hin hP hD hS hl
  have hx := X.1
  have hb := X.2.1
  have hml := X.2.2.1
  have hown : s.vm.findClass "jdk/internal/util/ArraysSupport" = some m.cls := X.2.2.2.1
  have hts := X.2.2.2.2.2.2.1
  have hK := X.2.2.2.2.2.2.2.2.1
  have hA := X.2.2.2.2.2.2.2.2.2.2
  refine lv_iload_n hx hb d6_0 rfl (lv_at hl 0 rfl) ?_
  refine lv_iload_n hx hb d6_1 rfl (lv_at hl 1 rfl) ?_
  refine lv_iload_n hx hb d6_2 rfl (lv_at hl 2 rfl) ?_
  refine va_mmax hx hb (by rw [hml]; exact hl.1.symm) hown (hts _ ms_k154) (hts _ ms_k155) (hts _ ms_k9) (hts _ ms_k156) (Nat.le_of_ble_eq_true rfl) (Nat.le_of_ble_eq_true rfl) (Nat.le_of_ble_eq_true rfl) (Nat.le_of_ble_eq_true rfl) d6_3 ?_
  refine ms_top (y := 18) (ms_nmax (a := j - 16) (b := 18) (by decide) (by omega)) ?_
  refine lv_iadd hx hb d6_6 ?_
  refine ms_top (y := 34) (by decide) ?_
  refine lv_istore_n hx hb d6_7 rfl hl (by decide) rfl (fun ls hl => ?_)
  have hl : lv_has ls 4 [(3, .int 34), (0, .int 16), (1, .int (nI (j - 16))), (2, .int 18)] := hl
  refine lv_iconst (v := 0) hx hb d6_8 (by decide) ?_
  refine lv_iload_n hx hb d6_9 rfl (lv_at hl 0 rfl) ?_
  refine lv_icmp_ge hx hb d6_10 rfl (fun h9 => absurd h9 (by decide)) (fun _ => ?_)
  refine lv_iload_n hx hb d6_13 rfl (lv_at hl 0 rfl) ?_
  refine lv_ldc (own := "jdk/internal/util/ArraysSupport") (v := 2147483639) hx hb hown (hts _ ms_k157) d6_14 ?_
  refine lv_icmp_gt hx hb d6_16 rfl (fun h9 => absurd h9 (by decide)) (fun _ => ?_)
  refine lv_iload_n hx hb d6_19 rfl (lv_at hl 0 rfl) ?_
  exact ms_iret X d6_20 hP hD hS (Nat.le_of_ble_eq_true rfl) (Nat.le_of_ble_eq_true rfl) (⟨rfl, rfl⟩)

set_option maxRecDepth 100000 in
set_option maxHeartbeats 8000000 in
theorem c_newCap16 (l : Launch) (D : va_G) (dA : Nat → ClassId) (s0 : State) (hE : ms_EV D dA s0) (h : Nat) (v : Nat) (j : Nat) (k : Int32) (mb : Int32) (f : Nat → Int32) (h1 : 16 < j) (h2 : j ≤ 34) : ms_C l D s0 yM7 bM7 6 (Option.some Jvm.ClassFile.FieldType.int) 2 37 0 0 [.ref h, .int (nI j)] [(h, .inr (3, [.ref v, .int 0, .int mb, .int k])), (v, .inl (dA 2, 16, .inl f))] (fun vv ww => vv = some (.int 34) ∧ ww = [(h, .inr (3, [.ref v, .int 0, .int mb, .int k])), (v, .inl (dA 2, 16, .inl f))]) := by
  refine ms_C.mk hE.1 (by decide) (Nat.le_of_ble_eq_true rfl) [(0, .ref h), (1, .int (nI j))] rfl ?_
  intro p e s m below meth c A ls X hin hP hD hS hl
  have hx := X.1
  have hb := X.2.1
  have hml := X.2.2.1
  have hown : s.vm.findClass "java/lang/AbstractStringBuilder" = some m.cls := X.2.2.2.1
  have hts := X.2.2.2.2.2.2.1
  have hK := X.2.2.2.2.2.2.2.2.1
  have hA := X.2.2.2.2.2.2.2.2.2.2
  refine lv_aload_n hx hb d7_0 rfl (lv_at hl 0 rfl) ?_
  refine va_get (D := D) (ci := 3) (v := .ref v) (C := kR3) (T := kT3) (N := 4) hx hb hts ku3 hown hK hP 0 rfl rfl 0 (by decide) (hts _ ms_k57) (fun _ h => h) rfl d7_1 ?_
  refine va_alen (v := 16) hx hb hK hP 1 2 rfl rfl rfl d7_4 ?_
  refine lv_istore_n hx hb d7_5 rfl hl (by decide) rfl (fun ls hl => ?_)
  have hl : lv_has ls 6 [(2, .int 16), (0, .ref h), (1, .int (nI j))] := hl
  refine lv_iload_n hx hb d7_6 rfl (lv_at hl 2 rfl) ?_
  refine lv_aload_n hx hb d7_7 rfl (lv_at hl 1 rfl) ?_
  refine va_get (D := D) (ci := 3) (v := .int 0) (C := kR3) (T := kT3) (N := 4) hx hb hts ku3 hown hK hP 0 rfl rfl 1 (by decide) (hts _ ms_k58) (fun _ h => h) rfl d7_8 ?_
  refine lv_ishl hx hb d7_11 ?_
  refine ms_top (y := (nI j)) (sb_shl0 _) ?_
  refine lv_istore_n hx hb d7_12 rfl hl (by decide) rfl (fun ls hl => ?_)
  have hl : lv_has ls 6 [(3, .int (nI j)), (2, .int 16), (0, .ref h), (1, .int (nI j))] := hl
  refine lv_iload_n hx hb d7_13 rfl (lv_at hl 0 rfl) ?_
  refine lv_iload_n hx hb d7_14 rfl (lv_at hl 1 rfl) ?_
  refine lv_isub hx hb d7_15 ?_
  refine ms_top (y := (nI (j - 16))) (show nI j - nI 16 = _ from pk_sub (by omega)) ?_
  refine lv_istore hx hb d7_16 hl (by decide) rfl (fun ls hl => ?_)
  have hl : lv_has ls 6 [(4, .int (nI (j - 16))), (3, .int (nI j)), (2, .int 16), (0, .ref h), (1, .int (nI j))] := hl
  refine lv_iload_n hx hb d7_18 rfl (lv_at hl 2 rfl) ?_
  refine lv_iload hx hb d7_19 (lv_at hl 0 rfl) ?_
  refine lv_iload_n hx hb d7_21 rfl (lv_at hl 2 rfl) ?_
  refine lv_iconst (v := 2) hx hb d7_22 (by decide) ?_
  refine lv_aload_n hx hb d7_23 rfl (lv_at hl 3 rfl) ?_
  refine va_get (D := D) (ci := 3) (v := .int 0) (C := kR3) (T := kT3) (N := 4) hx hb hts ku3 hown hK hP 0 rfl rfl 1 (by decide) (hts _ ms_k58) (fun _ h => h) rfl d7_24 ?_
  refine lv_ishl hx hb d7_27 ?_
  refine ms_top (y := 2) (by decide) ?_
  refine lv_iadd hx hb d7_28 ?_
  refine ms_top (y := 18) (by decide) ?_
  refine ms_S (rest := []) (as := [.int 16, .int (nI (j - 16)), .int 18]) (wr := [(h, .inr (3, [.ref v, .int 0, .int mb, .int k])), (v, .inl (dA 2, 16, .inl f))]) X hl (c_newLen16 l D dA s0 hE j (h1) (h2)) (List.forall_mem_cons.mpr ⟨ms_k151, List.forall_mem_cons.mpr ⟨ms_k152, List.forall_mem_cons.mpr ⟨ms_k8, List.forall_mem_cons.mpr ⟨ms_k153, fun _ h => absurd h List.not_mem_nil⟩⟩⟩⟩) ⟨by decide +kernel, by decide +kernel, (by decide +kernel : (parseMethodDescriptor "(III)I").map (fun d => d.parameters.length) = some 3)⟩ hP hD hS [] [0, 1] rfl rfl ⟨by decide, by decide, by decide⟩ ⟨⟨Nat.le_of_ble_eq_true rfl, Nat.le_of_ble_eq_true rfl⟩, Nat.le_of_ble_eq_true rfl, Nat.le_of_ble_eq_true rfl⟩ rfl (Nat.le_of_ble_eq_true rfl) d7_29 (fun vv ww H locs hR hP hD hS => ?_)
  obtain ⟨rfl, rfl⟩ := hR
  have hP : va_P D vwCl [(h, .inr (3, [.ref v, .int 0, .int mb, .int k])), (v, .inl (dA 2, 16, .inl f))] H := hP
  have hD : va_D A [(h, .inr (3, [.ref v, .int 0, .int mb, .int k])), (v, .inl (dA 2, 16, .inl f))] := hD
  refine W.eq (g2 := F0 m 32 ls [.int 34]) rfl ?_
  refine lv_istore hx hb d7_32 hl (by decide) rfl (fun ls hl => ?_)
  have hl : lv_has ls 6 [(5, .int 34), (4, .int (nI (j - 16))), (3, .int (nI j)), (2, .int 16), (0, .ref h), (1, .int (nI j))] := hl
  refine lv_iload hx hb d7_34 (lv_at hl 0 rfl) ?_
  refine lv_ldc (own := "java/lang/AbstractStringBuilder") (v := 2147483647) hx hb hown (hts _ ms_k161) d7_36 ?_
  refine lv_icmp_ne hx hb d7_38 rfl (fun _ => ?_) (fun h9 => absurd h9 (by decide))
  refine lv_iload hx hb d7_51 (lv_at hl 0 rfl) ?_
  refine lv_aload_n hx hb d7_53 rfl (lv_at hl 4 rfl) ?_
  refine va_get (D := D) (ci := 3) (v := .int 0) (C := kR3) (T := kT3) (N := 4) hx hb hts ku3 hown hK hP 0 rfl rfl 1 (by decide) (hts _ ms_k58) (fun _ h => h) rfl d7_54 ?_
  refine lv_ishr hx hb d7_57 ?_
  refine ms_top (y := 34) (by decide) ?_
  exact ms_iret X d7_58 hP hD hS (Nat.le_of_ble_eq_true rfl) (Nat.le_of_ble_eq_true rfl) (⟨rfl, rfl⟩)

set_option maxRecDepth 100000 in
set_option maxHeartbeats 8000000 in
theorem c_copyOf16 (l : Launch) (D : va_G) (dA : Nat → ClassId) (s0 : State) (hE : ms_EV D dA s0) (v : Nat) (f : Nat → Int32) (hf : sb_Fit f) : ms_C l D s0 yM8 bM8 3 (Option.some (Jvm.ClassFile.FieldType.array Jvm.ClassFile.FieldType.byte)) 1 100 1 34 [.ref v, .int 34] [(v, .inl (dA 2, 16, .inl f))] (fun vv ww => ∃ (u : Nat) (g : Nat → Int32), vv = some (.ref u) ∧ (∀ i, i < 16 → g i = f i) ∧ sb_Fit g ∧ ww = [(v, .inl (dA 2, 16, .inl f)), (u, .inl (dA 2, 34, .inl g))]) := by
  refine ms_C.mk hE.1 (by decide) (Nat.le_of_ble_eq_true rfl) [(0, .ref v), (1, .int 34)] rfl ?_
  intro p e s m below meth c A ls X hin hP hD hS hl
  have hx := X.1
  have hb := X.2.1
  have hml := X.2.2.1
  have hown : s.vm.findClass "java/util/Arrays" = some m.cls := X.2.2.2.1
  have hts := X.2.2.2.2.2.2.1
  have hK := X.2.2.2.2.2.2.2.2.1
  have hA := X.2.2.2.2.2.2.2.2.2.2
  refine lv_iload_n hx hb d8_0 rfl (lv_at hl 1 rfl) ?_
  refine lv_aload_n hx hb d8_1 rfl (lv_at hl 0 rfl) ?_
  refine va_alen (v := 16) hx hb hK hP 0 2 rfl rfl rfl d8_2 ?_
  refine lv_icmp_ne hx hb d8_3 rfl (fun _ => ?_) (fun h9 => absurd h9 (by decide))
  refine lv_iload_n hx hb d8_14 rfl (lv_at hl 1 rfl) ?_
  refine ms_newa (atype := .byte) (ty := .byte) (a0 := (34, .inl (fun _ => 0))) X ms_k71 rfl 2 rfl (fun _ h => h) hP hD hS (fun _ => rfl) (by decide) (by decide) (by decide) (Nat.le_of_ble_eq_true rfl) (Nat.le_of_ble_eq_true rfl) d8_15 (fun q1 H hP hD hS => ?_)
  have hP : va_P D vwCl [(v, .inl (dA 2, 16, .inl f)), (q1, .inl (dA 2, 34, .inl (fun _ => 0)))] H := hP
  have hD : va_D A [(v, .inl (dA 2, 16, .inl f)), (q1, .inl (dA 2, 34, .inl (fun _ => 0)))] := hD
  refine lv_astore_n hx hb d8_17 rfl hl (by decide) rfl (fun ls hl => ?_)
  have hl : lv_has ls 3 [(2, .ref q1), (0, .ref v), (1, .int 34)] := hl
  refine lv_aload_n hx hb d8_18 rfl (lv_at hl 1 rfl) ?_
  refine lv_iconst (v := 0) hx hb d8_19 (by decide) ?_
  refine lv_aload_n hx hb d8_20 rfl (lv_at hl 0 rfl) ?_
  refine lv_iconst (v := 0) hx hb d8_21 (by decide) ?_
  refine lv_aload_n hx hb d8_22 rfl (lv_at hl 1 rfl) ?_
  refine va_alen (v := 16) hx hb hK hP 0 2 rfl rfl rfl d8_23 ?_
  refine lv_iload_n hx hb d8_24 rfl (lv_at hl 2 rfl) ?_
  refine va_mmin hx hb (by rw [hml]; exact hl.1.symm) hown (hts _ ms_k172) (hts _ ms_k173) (hts _ ms_k9) (hts _ ms_k174) (Nat.le_of_ble_eq_true rfl) (Nat.le_of_ble_eq_true rfl) (Nat.le_of_ble_eq_true rfl) (Nat.le_of_ble_eq_true rfl) d8_25 ?_
  refine ms_top (y := 16) (by decide) ?_
  refine va_copyi (ty := .byte) hx hb (by rw [hml]; exact hl.1.symm) hown (hts _ ms_k175) (hts _ ms_k177) (hts _ ms_k176) (hts _ ms_k11) hK hP hD hS 0 1 2 2 rfl rfl rfl rfl rfl (by decide) (by decide) (by decide) (by decide) (by decide) (fun i hi => by rw [show (0 : Int32).toNatClampNeg + i = i from Nat.zero_add i]; exact hf i) (Nat.le_of_ble_eq_true rfl) (Nat.le_of_ble_eq_true (by decide +kernel)) d8_28 (fun H locs hP hD hS => ?_)
  have hP : va_P D vwCl [(v, .inl (dA 2, 16, .inl f)), (q1, .inl (dA 2, 34, .inl (va_cpy f (fun _ => 0) 0 0 16)))] H := hP
  have hD : va_D A [(v, .inl (dA 2, 16, .inl f)), (q1, .inl (dA 2, 34, .inl (va_cpy f (fun _ => 0) 0 0 16)))] := hD
  refine lv_aload_n hx hb d8_31 rfl (lv_at hl 0 rfl) ?_
  exact ms_aret X d8_32 hP hD hS (Nat.le_of_ble_eq_true rfl) (Nat.le_of_ble_eq_true rfl) (⟨q1, _, rfl, fun i hi => by rw [pk_cpy_in (Nat.zero_le _) (by omega)]; simp, sb_fitC hf sb_fit0, rfl⟩) (Or.inr ⟨_, rfl⟩) (Or.inr ⟨_, rfl⟩)

set_option maxRecDepth 100000 in
set_option maxHeartbeats 8000000 in
theorem c_newLen34 (l : Launch) (D : va_G) (dA : Nat → ClassId) (s0 : State) (hE : ms_EV D dA s0) (j : Nat) (h1 : 34 < j) (h2 : j ≤ 70) : ms_C l D s0 yM6 bM6 4 (Option.some Jvm.ClassFile.FieldType.int) 1 14 0 0 [.int 34, .int (nI (j - 34)), .int 36] [] (fun vv ww => vv = some (.int 70) ∧ ww = []) := by
  refine ms_C.mk hE.1 (by decide) (Nat.le_of_ble_eq_true rfl) [(0, .int 34), (1, .int (nI (j - 34))), (2, .int 36)] rfl ?_
  intro p e s m below meth c A ls X hin hP hD hS hl
  have hx := X.1
  have hb := X.2.1
  have hml := X.2.2.1
  have hown : s.vm.findClass "jdk/internal/util/ArraysSupport" = some m.cls := X.2.2.2.1
  have hts := X.2.2.2.2.2.2.1
  have hK := X.2.2.2.2.2.2.2.2.1
  have hA := X.2.2.2.2.2.2.2.2.2.2
  refine lv_iload_n hx hb d6_0 rfl (lv_at hl 0 rfl) ?_
  refine lv_iload_n hx hb d6_1 rfl (lv_at hl 1 rfl) ?_
  refine lv_iload_n hx hb d6_2 rfl (lv_at hl 2 rfl) ?_
  refine va_mmax hx hb (by rw [hml]; exact hl.1.symm) hown (hts _ ms_k154) (hts _ ms_k155) (hts _ ms_k9) (hts _ ms_k156) (Nat.le_of_ble_eq_true rfl) (Nat.le_of_ble_eq_true rfl) (Nat.le_of_ble_eq_true rfl) (Nat.le_of_ble_eq_true rfl) d6_3 ?_
  refine ms_top (y := 36) (ms_nmax (a := j - 34) (b := 36) (by decide) (by omega)) ?_
  refine lv_iadd hx hb d6_6 ?_
  refine ms_top (y := 70) (by decide) ?_
  refine lv_istore_n hx hb d6_7 rfl hl (by decide) rfl (fun ls hl => ?_)
  have hl : lv_has ls 4 [(3, .int 70), (0, .int 34), (1, .int (nI (j - 34))), (2, .int 36)] := hl
  refine lv_iconst (v := 0) hx hb d6_8 (by decide) ?_
  refine lv_iload_n hx hb d6_9 rfl (lv_at hl 0 rfl) ?_
  refine lv_icmp_ge hx hb d6_10 rfl (fun h9 => absurd h9 (by decide)) (fun _ => ?_)
  refine lv_iload_n hx hb d6_13 rfl (lv_at hl 0 rfl) ?_
  refine lv_ldc (own := "jdk/internal/util/ArraysSupport") (v := 2147483639) hx hb hown (hts _ ms_k157) d6_14 ?_
  refine lv_icmp_gt hx hb d6_16 rfl (fun h9 => absurd h9 (by decide)) (fun _ => ?_)
  refine lv_iload_n hx hb d6_19 rfl (lv_at hl 0 rfl) ?_
  exact ms_iret X d6_20 hP hD hS (Nat.le_of_ble_eq_true rfl) (Nat.le_of_ble_eq_true rfl) (⟨rfl, rfl⟩)

set_option maxRecDepth 100000 in
set_option maxHeartbeats 8000000 in
theorem c_newCap34 (l : Launch) (D : va_G) (dA : Nat → ClassId) (s0 : State) (hE : ms_EV D dA s0) (h : Nat) (v : Nat) (j : Nat) (k : Int32) (mb : Int32) (f : Nat → Int32) (h1 : 34 < j) (h2 : j ≤ 70) : ms_C l D s0 yM7 bM7 6 (Option.some Jvm.ClassFile.FieldType.int) 2 37 0 0 [.ref h, .int (nI j)] [(h, .inr (3, [.ref v, .int 0, .int mb, .int k])), (v, .inl (dA 2, 34, .inl f))] (fun vv ww => vv = some (.int 70) ∧ ww = [(h, .inr (3, [.ref v, .int 0, .int mb, .int k])), (v, .inl (dA 2, 34, .inl f))]) := by
  refine ms_C.mk hE.1 (by decide) (Nat.le_of_ble_eq_true rfl) [(0, .ref h), (1, .int (nI j))] rfl ?_
  intro p e s m below meth c A ls X hin hP hD hS hl
  have hx := X.1
  have hb := X.2.1
  have hml := X.2.2.1
  have hown : s.vm.findClass "java/lang/AbstractStringBuilder" = some m.cls := X.2.2.2.1
  have hts := X.2.2.2.2.2.2.1
  have hK := X.2.2.2.2.2.2.2.2.1
  have hA := X.2.2.2.2.2.2.2.2.2.2
  refine lv_aload_n hx hb d7_0 rfl (lv_at hl 0 rfl) ?_
  refine va_get (D := D) (ci := 3) (v := .ref v) (C := kR3) (T := kT3) (N := 4) hx hb hts ku3 hown hK hP 0 rfl rfl 0 (by decide) (hts _ ms_k57) (fun _ h => h) rfl d7_1 ?_
  refine va_alen (v := 34) hx hb hK hP 1 2 rfl rfl rfl d7_4 ?_
  refine lv_istore_n hx hb d7_5 rfl hl (by decide) rfl (fun ls hl => ?_)
  have hl : lv_has ls 6 [(2, .int 34), (0, .ref h), (1, .int (nI j))] := hl
  refine lv_iload_n hx hb d7_6 rfl (lv_at hl 2 rfl) ?_
  refine lv_aload_n hx hb d7_7 rfl (lv_at hl 1 rfl) ?_
  refine va_get (D := D) (ci := 3) (v := .int 0) (C := kR3) (T := kT3) (N := 4) hx hb hts ku3 hown hK hP 0 rfl rfl 1 (by decide) (hts _ ms_k58) (fun _ h => h) rfl d7_8 ?_
  refine lv_ishl hx hb d7_11 ?_
  refine ms_top (y := (nI j)) (sb_shl0 _) ?_
  refine lv_istore_n hx hb d7_12 rfl hl (by decide) rfl (fun ls hl => ?_)
  have hl : lv_has ls 6 [(3, .int (nI j)), (2, .int 34), (0, .ref h), (1, .int (nI j))] := hl
  refine lv_iload_n hx hb d7_13 rfl (lv_at hl 0 rfl) ?_
  refine lv_iload_n hx hb d7_14 rfl (lv_at hl 1 rfl) ?_
  refine lv_isub hx hb d7_15 ?_
  refine ms_top (y := (nI (j - 34))) (show nI j - nI 34 = _ from pk_sub (by omega)) ?_
  refine lv_istore hx hb d7_16 hl (by decide) rfl (fun ls hl => ?_)
  have hl : lv_has ls 6 [(4, .int (nI (j - 34))), (3, .int (nI j)), (2, .int 34), (0, .ref h), (1, .int (nI j))] := hl
  refine lv_iload_n hx hb d7_18 rfl (lv_at hl 2 rfl) ?_
  refine lv_iload hx hb d7_19 (lv_at hl 0 rfl) ?_
  refine lv_iload_n hx hb d7_21 rfl (lv_at hl 2 rfl) ?_
  refine lv_iconst (v := 2) hx hb d7_22 (by decide) ?_
  refine lv_aload_n hx hb d7_23 rfl (lv_at hl 3 rfl) ?_
  refine va_get (D := D) (ci := 3) (v := .int 0) (C := kR3) (T := kT3) (N := 4) hx hb hts ku3 hown hK hP 0 rfl rfl 1 (by decide) (hts _ ms_k58) (fun _ h => h) rfl d7_24 ?_
  refine lv_ishl hx hb d7_27 ?_
  refine ms_top (y := 2) (by decide) ?_
  refine lv_iadd hx hb d7_28 ?_
  refine ms_top (y := 36) (by decide) ?_
  refine ms_S (rest := []) (as := [.int 34, .int (nI (j - 34)), .int 36]) (wr := [(h, .inr (3, [.ref v, .int 0, .int mb, .int k])), (v, .inl (dA 2, 34, .inl f))]) X hl (c_newLen34 l D dA s0 hE j (h1) (h2)) (List.forall_mem_cons.mpr ⟨ms_k151, List.forall_mem_cons.mpr ⟨ms_k152, List.forall_mem_cons.mpr ⟨ms_k8, List.forall_mem_cons.mpr ⟨ms_k153, fun _ h => absurd h List.not_mem_nil⟩⟩⟩⟩) ⟨by decide +kernel, by decide +kernel, (by decide +kernel : (parseMethodDescriptor "(III)I").map (fun d => d.parameters.length) = some 3)⟩ hP hD hS [] [0, 1] rfl rfl ⟨by decide, by decide, by decide⟩ ⟨⟨Nat.le_of_ble_eq_true rfl, Nat.le_of_ble_eq_true rfl⟩, Nat.le_of_ble_eq_true rfl, Nat.le_of_ble_eq_true rfl⟩ rfl (Nat.le_of_ble_eq_true rfl) d7_29 (fun vv ww H locs hR hP hD hS => ?_)
  obtain ⟨rfl, rfl⟩ := hR
  have hP : va_P D vwCl [(h, .inr (3, [.ref v, .int 0, .int mb, .int k])), (v, .inl (dA 2, 34, .inl f))] H := hP
  have hD : va_D A [(h, .inr (3, [.ref v, .int 0, .int mb, .int k])), (v, .inl (dA 2, 34, .inl f))] := hD
  refine W.eq (g2 := F0 m 32 ls [.int 70]) rfl ?_
  refine lv_istore hx hb d7_32 hl (by decide) rfl (fun ls hl => ?_)
  have hl : lv_has ls 6 [(5, .int 70), (4, .int (nI (j - 34))), (3, .int (nI j)), (2, .int 34), (0, .ref h), (1, .int (nI j))] := hl
  refine lv_iload hx hb d7_34 (lv_at hl 0 rfl) ?_
  refine lv_ldc (own := "java/lang/AbstractStringBuilder") (v := 2147483647) hx hb hown (hts _ ms_k161) d7_36 ?_
  refine lv_icmp_ne hx hb d7_38 rfl (fun _ => ?_) (fun h9 => absurd h9 (by decide))
  refine lv_iload hx hb d7_51 (lv_at hl 0 rfl) ?_
  refine lv_aload_n hx hb d7_53 rfl (lv_at hl 4 rfl) ?_
  refine va_get (D := D) (ci := 3) (v := .int 0) (C := kR3) (T := kT3) (N := 4) hx hb hts ku3 hown hK hP 0 rfl rfl 1 (by decide) (hts _ ms_k58) (fun _ h => h) rfl d7_54 ?_
  refine lv_ishr hx hb d7_57 ?_
  refine ms_top (y := 70) (by decide) ?_
  exact ms_iret X d7_58 hP hD hS (Nat.le_of_ble_eq_true rfl) (Nat.le_of_ble_eq_true rfl) (⟨rfl, rfl⟩)

set_option maxRecDepth 100000 in
set_option maxHeartbeats 8000000 in
theorem c_copyOf34 (l : Launch) (D : va_G) (dA : Nat → ClassId) (s0 : State) (hE : ms_EV D dA s0) (v : Nat) (f : Nat → Int32) (hf : sb_Fit f) : ms_C l D s0 yM8 bM8 3 (Option.some (Jvm.ClassFile.FieldType.array Jvm.ClassFile.FieldType.byte)) 1 100 1 70 [.ref v, .int 70] [(v, .inl (dA 2, 34, .inl f))] (fun vv ww => ∃ (u : Nat) (g : Nat → Int32), vv = some (.ref u) ∧ (∀ i, i < 34 → g i = f i) ∧ sb_Fit g ∧ ww = [(v, .inl (dA 2, 34, .inl f)), (u, .inl (dA 2, 70, .inl g))]) := by
  refine ms_C.mk hE.1 (by decide) (Nat.le_of_ble_eq_true rfl) [(0, .ref v), (1, .int 70)] rfl ?_
  intro p e s m below meth c A ls X hin hP hD hS hl
  have hx := X.1
  have hb := X.2.1
  have hml := X.2.2.1
  have hown : s.vm.findClass "java/util/Arrays" = some m.cls := X.2.2.2.1
  have hts := X.2.2.2.2.2.2.1
  have hK := X.2.2.2.2.2.2.2.2.1
  have hA := X.2.2.2.2.2.2.2.2.2.2
  refine lv_iload_n hx hb d8_0 rfl (lv_at hl 1 rfl) ?_
  refine lv_aload_n hx hb d8_1 rfl (lv_at hl 0 rfl) ?_
  refine va_alen (v := 34) hx hb hK hP 0 2 rfl rfl rfl d8_2 ?_
  refine lv_icmp_ne hx hb d8_3 rfl (fun _ => ?_) (fun h9 => absurd h9 (by decide))
  refine lv_iload_n hx hb d8_14 rfl (lv_at hl 1 rfl) ?_
  refine ms_newa (atype := .byte) (ty := .byte) (a0 := (70, .inl (fun _ => 0))) X ms_k71 rfl 2 rfl (fun _ h => h) hP hD hS (fun _ => rfl) (by decide) (by decide) (by decide) (Nat.le_of_ble_eq_true rfl) (Nat.le_of_ble_eq_true rfl) d8_15 (fun q1 H hP hD hS => ?_)
  have hP : va_P D vwCl [(v, .inl (dA 2, 34, .inl f)), (q1, .inl (dA 2, 70, .inl (fun _ => 0)))] H := hP
  have hD : va_D A [(v, .inl (dA 2, 34, .inl f)), (q1, .inl (dA 2, 70, .inl (fun _ => 0)))] := hD
  refine lv_astore_n hx hb d8_17 rfl hl (by decide) rfl (fun ls hl => ?_)
  have hl : lv_has ls 3 [(2, .ref q1), (0, .ref v), (1, .int 70)] := hl
  refine lv_aload_n hx hb d8_18 rfl (lv_at hl 1 rfl) ?_
  refine lv_iconst (v := 0) hx hb d8_19 (by decide) ?_
  refine lv_aload_n hx hb d8_20 rfl (lv_at hl 0 rfl) ?_
  refine lv_iconst (v := 0) hx hb d8_21 (by decide) ?_
  refine lv_aload_n hx hb d8_22 rfl (lv_at hl 1 rfl) ?_
  refine va_alen (v := 34) hx hb hK hP 0 2 rfl rfl rfl d8_23 ?_
  refine lv_iload_n hx hb d8_24 rfl (lv_at hl 2 rfl) ?_
  refine va_mmin hx hb (by rw [hml]; exact hl.1.symm) hown (hts _ ms_k172) (hts _ ms_k173) (hts _ ms_k9) (hts _ ms_k174) (Nat.le_of_ble_eq_true rfl) (Nat.le_of_ble_eq_true rfl) (Nat.le_of_ble_eq_true rfl) (Nat.le_of_ble_eq_true rfl) d8_25 ?_
  refine ms_top (y := 34) (by decide) ?_
  refine va_copyi (ty := .byte) hx hb (by rw [hml]; exact hl.1.symm) hown (hts _ ms_k175) (hts _ ms_k177) (hts _ ms_k176) (hts _ ms_k11) hK hP hD hS 0 1 2 2 rfl rfl rfl rfl rfl (by decide) (by decide) (by decide) (by decide) (by decide) (fun i hi => by rw [show (0 : Int32).toNatClampNeg + i = i from Nat.zero_add i]; exact hf i) (Nat.le_of_ble_eq_true rfl) (Nat.le_of_ble_eq_true (by decide +kernel)) d8_28 (fun H locs hP hD hS => ?_)
  have hP : va_P D vwCl [(v, .inl (dA 2, 34, .inl f)), (q1, .inl (dA 2, 70, .inl (va_cpy f (fun _ => 0) 0 0 34)))] H := hP
  have hD : va_D A [(v, .inl (dA 2, 34, .inl f)), (q1, .inl (dA 2, 70, .inl (va_cpy f (fun _ => 0) 0 0 34)))] := hD
  refine lv_aload_n hx hb d8_31 rfl (lv_at hl 0 rfl) ?_
  exact ms_aret X d8_32 hP hD hS (Nat.le_of_ble_eq_true rfl) (Nat.le_of_ble_eq_true rfl) (⟨q1, _, rfl, fun i hi => by rw [pk_cpy_in (Nat.zero_le _) (by omega)]; simp, sb_fitC hf sb_fit0, rfl⟩) (Or.inr ⟨_, rfl⟩) (Or.inr ⟨_, rfl⟩)

set_option maxRecDepth 100000 in
set_option maxHeartbeats 8000000 in
theorem c_newLen70 (l : Launch) (D : va_G) (dA : Nat → ClassId) (s0 : State) (hE : ms_EV D dA s0) (j : Nat) (h1 : 70 < j) (h2 : j ≤ 142) : ms_C l D s0 yM6 bM6 4 (Option.some Jvm.ClassFile.FieldType.int) 1 14 0 0 [.int 70, .int (nI (j - 70)), .int 72] [] (fun vv ww => vv = some (.int 142) ∧ ww = []) := by
  refine ms_C.mk hE.1 (by decide) (Nat.le_of_ble_eq_true rfl) [(0, .int 70), (1, .int (nI (j - 70))), (2, .int 72)] rfl ?_
  intro p e s m below meth c A ls X hin hP hD hS hl
  have hx := X.1
  have hb := X.2.1
  have hml := X.2.2.1
  have hown : s.vm.findClass "jdk/internal/util/ArraysSupport" = some m.cls := X.2.2.2.1
  have hts := X.2.2.2.2.2.2.1
  have hK := X.2.2.2.2.2.2.2.2.1
  have hA := X.2.2.2.2.2.2.2.2.2.2
  refine lv_iload_n hx hb d6_0 rfl (lv_at hl 0 rfl) ?_
  refine lv_iload_n hx hb d6_1 rfl (lv_at hl 1 rfl) ?_
  refine lv_iload_n hx hb d6_2 rfl (lv_at hl 2 rfl) ?_
  refine va_mmax hx hb (by rw [hml]; exact hl.1.symm) hown (hts _ ms_k154) (hts _ ms_k155) (hts _ ms_k9) (hts _ ms_k156) (Nat.le_of_ble_eq_true rfl) (Nat.le_of_ble_eq_true rfl) (Nat.le_of_ble_eq_true rfl) (Nat.le_of_ble_eq_true rfl) d6_3 ?_
  refine ms_top (y := 72) (ms_nmax (a := j - 70) (b := 72) (by decide) (by omega)) ?_
  refine lv_iadd hx hb d6_6 ?_
  refine ms_top (y := 142) (by decide) ?_
  refine lv_istore_n hx hb d6_7 rfl hl (by decide) rfl (fun ls hl => ?_)
  have hl : lv_has ls 4 [(3, .int 142), (0, .int 70), (1, .int (nI (j - 70))), (2, .int 72)] := hl
  refine lv_iconst (v := 0) hx hb d6_8 (by decide) ?_
  refine lv_iload_n hx hb d6_9 rfl (lv_at hl 0 rfl) ?_
  refine lv_icmp_ge hx hb d6_10 rfl (fun h9 => absurd h9 (by decide)) (fun _ => ?_)
  refine lv_iload_n hx hb d6_13 rfl (lv_at hl 0 rfl) ?_
  refine lv_ldc (own := "jdk/internal/util/ArraysSupport") (v := 2147483639) hx hb hown (hts _ ms_k157) d6_14 ?_
  refine lv_icmp_gt hx hb d6_16 rfl (fun h9 => absurd h9 (by decide)) (fun _ => ?_)
  refine lv_iload_n hx hb d6_19 rfl (lv_at hl 0 rfl) ?_
  exact ms_iret X d6_20 hP hD hS (Nat.le_of_ble_eq_true rfl) (Nat.le_of_ble_eq_true rfl) (⟨rfl, rfl⟩)

set_option maxRecDepth 100000 in
set_option maxHeartbeats 8000000 in
theorem c_newCap70 (l : Launch) (D : va_G) (dA : Nat → ClassId) (s0 : State) (hE : ms_EV D dA s0) (h : Nat) (v : Nat) (j : Nat) (k : Int32) (mb : Int32) (f : Nat → Int32) (h1 : 70 < j) (h2 : j ≤ 142) : ms_C l D s0 yM7 bM7 6 (Option.some Jvm.ClassFile.FieldType.int) 2 37 0 0 [.ref h, .int (nI j)] [(h, .inr (3, [.ref v, .int 0, .int mb, .int k])), (v, .inl (dA 2, 70, .inl f))] (fun vv ww => vv = some (.int 142) ∧ ww = [(h, .inr (3, [.ref v, .int 0, .int mb, .int k])), (v, .inl (dA 2, 70, .inl f))]) := by
  refine ms_C.mk hE.1 (by decide) (Nat.le_of_ble_eq_true rfl) [(0, .ref h), (1, .int (nI j))] rfl ?_
  intro p e s m below meth c A ls X hin hP hD hS hl
  have hx := X.1
  have hb := X.2.1
  have hml := X.2.2.1
  have hown : s.vm.findClass "java/lang/AbstractStringBuilder" = some m.cls := X.2.2.2.1
  have hts := X.2.2.2.2.2.2.1
  have hK := X.2.2.2.2.2.2.2.2.1
  have hA := X.2.2.2.2.2.2.2.2.2.2
  refine lv_aload_n hx hb d7_0 rfl (lv_at hl 0 rfl) ?_
  refine va_get (D := D) (ci := 3) (v := .ref v) (C := kR3) (T := kT3) (N := 4) hx hb hts ku3 hown hK hP 0 rfl rfl 0 (by decide) (hts _ ms_k57) (fun _ h => h) rfl d7_1 ?_
  refine va_alen (v := 70) hx hb hK hP 1 2 rfl rfl rfl d7_4 ?_
  refine lv_istore_n hx hb d7_5 rfl hl (by decide) rfl (fun ls hl => ?_)
  have hl : lv_has ls 6 [(2, .int 70), (0, .ref h), (1, .int (nI j))] := hl
  refine lv_iload_n hx hb d7_6 rfl (lv_at hl 2 rfl) ?_
  refine lv_aload_n hx hb d7_7 rfl (lv_at hl 1 rfl) ?_
  refine va_get (D := D) (ci := 3) (v := .int 0) (C := kR3) (T := kT3) (N := 4) hx hb hts ku3 hown hK hP 0 rfl rfl 1 (by decide) (hts _ ms_k58) (fun _ h => h) rfl d7_8 ?_
  refine lv_ishl hx hb d7_11 ?_
  refine ms_top (y := (nI j)) (sb_shl0 _) ?_
  refine lv_istore_n hx hb d7_12 rfl hl (by decide) rfl (fun ls hl => ?_)
  have hl : lv_has ls 6 [(3, .int (nI j)), (2, .int 70), (0, .ref h), (1, .int (nI j))] := hl
  refine lv_iload_n hx hb d7_13 rfl (lv_at hl 0 rfl) ?_
  refine lv_iload_n hx hb d7_14 rfl (lv_at hl 1 rfl) ?_
  refine lv_isub hx hb d7_15 ?_
  refine ms_top (y := (nI (j - 70))) (show nI j - nI 70 = _ from pk_sub (by omega)) ?_
  refine lv_istore hx hb d7_16 hl (by decide) rfl (fun ls hl => ?_)
  have hl : lv_has ls 6 [(4, .int (nI (j - 70))), (3, .int (nI j)), (2, .int 70), (0, .ref h), (1, .int (nI j))] := hl
  refine lv_iload_n hx hb d7_18 rfl (lv_at hl 2 rfl) ?_
  refine lv_iload hx hb d7_19 (lv_at hl 0 rfl) ?_
  refine lv_iload_n hx hb d7_21 rfl (lv_at hl 2 rfl) ?_
  refine lv_iconst (v := 2) hx hb d7_22 (by decide) ?_
  refine lv_aload_n hx hb d7_23 rfl (lv_at hl 3 rfl) ?_
  refine va_get (D := D) (ci := 3) (v := .int 0) (C := kR3) (T := kT3) (N := 4) hx hb hts ku3 hown hK hP 0 rfl rfl 1 (by decide) (hts _ ms_k58) (fun _ h => h) rfl d7_24 ?_
  refine lv_ishl hx hb d7_27 ?_
  refine ms_top (y := 2) (by decide) ?_
  refine lv_iadd hx hb d7_28 ?_
  refine ms_top (y := 72) (by decide) ?_
  refine ms_S (rest := []) (as := [.int 70, .int (nI (j - 70)), .int 72]) (wr := [(h, .inr (3, [.ref v, .int 0, .int mb, .int k])), (v, .inl (dA 2, 70, .inl f))]) X hl (c_newLen70 l D dA s0 hE j (h1) (h2)) (List.forall_mem_cons.mpr ⟨ms_k151, List.forall_mem_cons.mpr ⟨ms_k152, List.forall_mem_cons.mpr ⟨ms_k8, List.forall_mem_cons.mpr ⟨ms_k153, fun _ h => absurd h List.not_mem_nil⟩⟩⟩⟩) ⟨by decide +kernel, by decide +kernel, (by decide +kernel : (parseMethodDescriptor "(III)I").map (fun d => d.parameters.length) = some 3)⟩ hP hD hS [] [0, 1] rfl rfl ⟨by decide, by decide, by decide⟩ ⟨⟨Nat.le_of_ble_eq_true rfl, Nat.le_of_ble_eq_true rfl⟩, Nat.le_of_ble_eq_true rfl, Nat.le_of_ble_eq_true rfl⟩ rfl (Nat.le_of_ble_eq_true rfl) d7_29 (fun vv ww H locs hR hP hD hS => ?_)
  obtain ⟨rfl, rfl⟩ := hR
  have hP : va_P D vwCl [(h, .inr (3, [.ref v, .int 0, .int mb, .int k])), (v, .inl (dA 2, 70, .inl f))] H := hP
  have hD : va_D A [(h, .inr (3, [.ref v, .int 0, .int mb, .int k])), (v, .inl (dA 2, 70, .inl f))] := hD
  refine W.eq (g2 := F0 m 32 ls [.int 142]) rfl ?_
  refine lv_istore hx hb d7_32 hl (by decide) rfl (fun ls hl => ?_)
  have hl : lv_has ls 6 [(5, .int 142), (4, .int (nI (j - 70))), (3, .int (nI j)), (2, .int 70), (0, .ref h), (1, .int (nI j))] := hl
  refine lv_iload hx hb d7_34 (lv_at hl 0 rfl) ?_
  refine lv_ldc (own := "java/lang/AbstractStringBuilder") (v := 2147483647) hx hb hown (hts _ ms_k161) d7_36 ?_
  refine lv_icmp_ne hx hb d7_38 rfl (fun _ => ?_) (fun h9 => absurd h9 (by decide))
  refine lv_iload hx hb d7_51 (lv_at hl 0 rfl) ?_
  refine lv_aload_n hx hb d7_53 rfl (lv_at hl 4 rfl) ?_
  refine va_get (D := D) (ci := 3) (v := .int 0) (C := kR3) (T := kT3) (N := 4) hx hb hts ku3 hown hK hP 0 rfl rfl 1 (by decide) (hts _ ms_k58) (fun _ h => h) rfl d7_54 ?_
  refine lv_ishr hx hb d7_57 ?_
  refine ms_top (y := 142) (by decide) ?_
  exact ms_iret X d7_58 hP hD hS (Nat.le_of_ble_eq_true rfl) (Nat.le_of_ble_eq_true rfl) (⟨rfl, rfl⟩)

set_option maxRecDepth 100000 in
set_option maxHeartbeats 8000000 in
theorem c_copyOf70 (l : Launch) (D : va_G) (dA : Nat → ClassId) (s0 : State) (hE : ms_EV D dA s0) (v : Nat) (f : Nat → Int32) (hf : sb_Fit f) : ms_C l D s0 yM8 bM8 3 (Option.some (Jvm.ClassFile.FieldType.array Jvm.ClassFile.FieldType.byte)) 1 100 1 142 [.ref v, .int 142] [(v, .inl (dA 2, 70, .inl f))] (fun vv ww => ∃ (u : Nat) (g : Nat → Int32), vv = some (.ref u) ∧ (∀ i, i < 70 → g i = f i) ∧ sb_Fit g ∧ ww = [(v, .inl (dA 2, 70, .inl f)), (u, .inl (dA 2, 142, .inl g))]) := by
  refine ms_C.mk hE.1 (by decide) (Nat.le_of_ble_eq_true rfl) [(0, .ref v), (1, .int 142)] rfl ?_
  intro p e s m below meth c A ls X hin hP hD hS hl
  have hx := X.1
  have hb := X.2.1
  have hml := X.2.2.1
  have hown : s.vm.findClass "java/util/Arrays" = some m.cls := X.2.2.2.1
  have hts := X.2.2.2.2.2.2.1
  have hK := X.2.2.2.2.2.2.2.2.1
  have hA := X.2.2.2.2.2.2.2.2.2.2
  refine lv_iload_n hx hb d8_0 rfl (lv_at hl 1 rfl) ?_
  refine lv_aload_n hx hb d8_1 rfl (lv_at hl 0 rfl) ?_
  refine va_alen (v := 70) hx hb hK hP 0 2 rfl rfl rfl d8_2 ?_
  refine lv_icmp_ne hx hb d8_3 rfl (fun _ => ?_) (fun h9 => absurd h9 (by decide))
  refine lv_iload_n hx hb d8_14 rfl (lv_at hl 1 rfl) ?_
  refine ms_newa (atype := .byte) (ty := .byte) (a0 := (142, .inl (fun _ => 0))) X ms_k71 rfl 2 rfl (fun _ h => h) hP hD hS (fun _ => rfl) (by decide) (by decide) (by decide) (Nat.le_of_ble_eq_true rfl) (Nat.le_of_ble_eq_true rfl) d8_15 (fun q1 H hP hD hS => ?_)
  have hP : va_P D vwCl [(v, .inl (dA 2, 70, .inl f)), (q1, .inl (dA 2, 142, .inl (fun _ => 0)))] H := hP
  have hD : va_D A [(v, .inl (dA 2, 70, .inl f)), (q1, .inl (dA 2, 142, .inl (fun _ => 0)))] := hD
  refine lv_astore_n hx hb d8_17 rfl hl (by decide) rfl (fun ls hl => ?_)
  have hl : lv_has ls 3 [(2, .ref q1), (0, .ref v), (1, .int 142)] := hl
  refine lv_aload_n hx hb d8_18 rfl (lv_at hl 1 rfl) ?_
  refine lv_iconst (v := 0) hx hb d8_19 (by decide) ?_
  refine lv_aload_n hx hb d8_20 rfl (lv_at hl 0 rfl) ?_
  refine lv_iconst (v := 0) hx hb d8_21 (by decide) ?_
  refine lv_aload_n hx hb d8_22 rfl (lv_at hl 1 rfl) ?_
  refine va_alen (v := 70) hx hb hK hP 0 2 rfl rfl rfl d8_23 ?_
  refine lv_iload_n hx hb d8_24 rfl (lv_at hl 2 rfl) ?_
  refine va_mmin hx hb (by rw [hml]; exact hl.1.symm) hown (hts _ ms_k172) (hts _ ms_k173) (hts _ ms_k9) (hts _ ms_k174) (Nat.le_of_ble_eq_true rfl) (Nat.le_of_ble_eq_true rfl) (Nat.le_of_ble_eq_true rfl) (Nat.le_of_ble_eq_true rfl) d8_25 ?_
  refine ms_top (y := 70) (by decide) ?_
  refine va_copyi (ty := .byte) hx hb (by rw [hml]; exact hl.1.symm) hown (hts _ ms_k175) (hts _ ms_k177) (hts _ ms_k176) (hts _ ms_k11) hK hP hD hS 0 1 2 2 rfl rfl rfl rfl rfl (by decide) (by decide) (by decide) (by decide) (by decide) (fun i hi => by rw [show (0 : Int32).toNatClampNeg + i = i from Nat.zero_add i]; exact hf i) (Nat.le_of_ble_eq_true rfl) (Nat.le_of_ble_eq_true (by decide +kernel)) d8_28 (fun H locs hP hD hS => ?_)
  have hP : va_P D vwCl [(v, .inl (dA 2, 70, .inl f)), (q1, .inl (dA 2, 142, .inl (va_cpy f (fun _ => 0) 0 0 70)))] H := hP
  have hD : va_D A [(v, .inl (dA 2, 70, .inl f)), (q1, .inl (dA 2, 142, .inl (va_cpy f (fun _ => 0) 0 0 70)))] := hD
  refine lv_aload_n hx hb d8_31 rfl (lv_at hl 0 rfl) ?_
  exact ms_aret X d8_32 hP hD hS (Nat.le_of_ble_eq_true rfl) (Nat.le_of_ble_eq_true rfl) (⟨q1, _, rfl, fun i hi => by rw [pk_cpy_in (Nat.zero_le _) (by omega)]; simp, sb_fitC hf sb_fit0, rfl⟩) (Or.inr ⟨_, rfl⟩) (Or.inr ⟨_, rfl⟩)
