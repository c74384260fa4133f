theorem ms_k4 : (Jvm.Cond.initialized "java/lang/String") ∈ ms_tb := ms_i1 4 (by decide +kernel) (by decide +kernel)
theorem ms_k12 : (Jvm.Cond.initialized "java/lang/StringLatin1") ∈ ms_tb := ms_i1 12 (by decide +kernel) (by decide +kernel)
theorem ms_k13 : (Jvm.Cond.initialized "jdk/internal/util/Preconditions") ∈ ms_tb := ms_i1 13 (by decide +kernel) (by decide +kernel)
theorem ms_k205 : (Jvm.Cond.fieldLink "java/lang/String" (1053 : Nat) "jdk/internal/util/Preconditions" "SIOOBE_FORMATTER" "Ljava/util/function/BiFunction;") ∈ ms_tb := ms_i1 205 (by decide +kernel) (by decide +kernel)
theorem ms_k226 : (Jvm.Cond.static ({ cls := "java/lang/String", name := "checkIndex", desc := "(II)V" } : Jvm.MethodName)) ∈ ms_tb := ms_i1 226 (by decide +kernel) (by decide +kernel)
theorem ms_k227 : (Jvm.Cond.code ({ cls := "java/lang/String", name := "checkIndex", desc := "(II)V" } : Jvm.MethodName) prog_23_method_155_code (2 : Nat) (Option.none : Option Jvm.ClassFile.FieldType)) ∈ ms_tb := ms_i1 227 (by decide +kernel) (by decide +kernel)
theorem ms_k228 : (Jvm.Cond.methodLink "java/lang/String" (1059 : Nat) ({ cls := "jdk/internal/util/Preconditions", name := "checkIndex", desc := "(IILjava/util/function/BiFunction;)I" } : Jvm.MethodName)) ∈ ms_tb := ms_i1 228 (by decide +kernel) (by decide +kernel)
theorem ms_k229 : (Jvm.Cond.static ({ cls := "jdk/internal/util/Preconditions", name := "checkIndex", desc := "(IILjava/util/function/BiFunction;)I" } : Jvm.MethodName)) ∈ ms_tb := ms_i1 229 (by decide +kernel) (by decide +kernel)
theorem ms_k230 : (Jvm.Cond.code ({ cls := "jdk/internal/util/Preconditions", name := "checkIndex", desc := "(IILjava/util/function/BiFunction;)I" } : Jvm.MethodName) prog_38_method_11_code (3 : Nat) (Option.some Jvm.ClassFile.FieldType.int)) ∈ ms_tb := ms_i1 230 (by decide +kernel) (by decide +kernel)
theorem ms_k270 : (Jvm.Cond.fieldLink "java/lang/String" (38 : Nat) "java/lang/String" "COMPACT_STRINGS" "Z") ∈ ms_tb := ms_i2 30 (by decide +kernel) (by decide +kernel)
theorem ms_k284 : (Jvm.Cond.fieldLink "java/lang/String" (9 : Nat) "java/lang/String" "value" "[B") ∈ ms_tb := ms_i2 44 (by decide +kernel) (by decide +kernel)
theorem ms_k285 : (Jvm.Cond.fieldLink "java/lang/String" (15 : Nat) "java/lang/String" "coder" "B") ∈ ms_tb := ms_i2 45 (by decide +kernel) (by decide +kernel)
theorem ms_k394 : (Jvm.Cond.methodLink "java/lang/String" (335 : Nat) ({ cls := "java/lang/String", name := "coder", desc := "()B" } : Jvm.MethodName)) ∈ ms_tb := ms_i2 154 (by decide +kernel) (by decide +kernel)
theorem ms_k395 : (Jvm.Cond.instanceMethod ({ cls := "java/lang/String", name := "coder", desc := "()B" } : Jvm.MethodName)) ∈ ms_tb := ms_i2 155 (by decide +kernel) (by decide +kernel)
theorem ms_k396 : (Jvm.Cond.selects "java/lang/String" ({ cls := "java/lang/String", name := "coder", desc := "()B" } : Jvm.MethodName) ({ cls := "java/lang/String", name := "coder", desc := "()B" } : Jvm.MethodName)) ∈ ms_tb := ms_i2 156 (by decide +kernel) (by decide +kernel)
theorem ms_k397 : (Jvm.Cond.code ({ cls := "java/lang/String", name := "coder", desc := "()B" } : Jvm.MethodName) prog_23_method_152_code (1 : Nat) (Option.some Jvm.ClassFile.FieldType.byte)) ∈ ms_tb := ms_i2 157 (by decide +kernel) (by decide +kernel)
theorem ms_k402 : (Jvm.Cond.methodLink "java/lang/String" (492 : Nat) ({ cls := "java/lang/String", name := "isLatin1", desc := "()Z" } : Jvm.MethodName)) ∈ ms_tb := ms_i2 162 (by decide +kernel) (by decide +kernel)
theorem ms_k403 : (Jvm.Cond.instanceMethod ({ cls := "java/lang/String", name := "isLatin1", desc := "()Z" } : Jvm.MethodName)) ∈ ms_tb := ms_i2 163 (by decide +kernel) (by decide +kernel)
theorem ms_k404 : (Jvm.Cond.selects "java/lang/String" ({ cls := "java/lang/String", name := "isLatin1", desc := "()Z" } : Jvm.MethodName) ({ cls := "java/lang/String", name := "isLatin1", desc := "()Z" } : Jvm.MethodName)) ∈ ms_tb := ms_i2 164 (by decide +kernel) (by decide +kernel)
theorem ms_k405 : (Jvm.Cond.code ({ cls := "java/lang/String", name := "isLatin1", desc := "()Z" } : Jvm.MethodName) prog_23_method_154_code (1 : Nat) (Option.some Jvm.ClassFile.FieldType.boolean)) ∈ ms_tb := ms_i2 165 (by decide +kernel) (by decide +kernel)
theorem ms_k406 : (Jvm.Cond.methodLink "java/lang/String" (495 : Nat) ({ cls := "java/lang/StringLatin1", name := "charAt", desc := "([BI)C" } : Jvm.MethodName)) ∈ ms_tb := ms_i2 166 (by decide +kernel) (by decide +kernel)
theorem ms_k407 : (Jvm.Cond.static ({ cls := "java/lang/StringLatin1", name := "charAt", desc := "([BI)C" } : Jvm.MethodName)) ∈ ms_tb := ms_i2 167 (by decide +kernel) (by decide +kernel)
theorem ms_k408 : (Jvm.Cond.code ({ cls := "java/lang/StringLatin1", name := "charAt", desc := "([BI)C" } : Jvm.MethodName) prog_25_method_2_code (2 : Nat) (Option.some Jvm.ClassFile.FieldType.char)) ∈ ms_tb := ms_i2 168 (by decide +kernel) (by decide +kernel)
theorem ms_k409 : (Jvm.Cond.methodLink "java/lang/StringLatin1" (9 : Nat) ({ cls := "java/lang/String", name := "checkIndex", desc := "(II)V" } : Jvm.MethodName)) ∈ ms_tb := ms_i2 169 (by decide +kernel) (by decide +kernel)
abbrev bM9 : ByteArray := prog_23_method_152_code
def yM9 : MethodName := ⟨"java/lang/String", "coder", "()B"⟩
abbrev bM10 : ByteArray := prog_23_method_154_code
def yM10 : MethodName := ⟨"java/lang/String", "isLatin1", "()Z"⟩
abbrev bM11 : ByteArray := prog_23_method_54_code
def yM11 : MethodName := ⟨"java/lang/String", "length", "()I"⟩
abbrev bM12 : ByteArray := prog_38_method_11_code
def yM12 : MethodName := ⟨"jdk/internal/util/Preconditions", "checkIndex", "(IILjava/util/function/BiFunction;)I"⟩
abbrev bM13 : ByteArray := prog_23_method_155_code
def yM13 : MethodName := ⟨"java/lang/String", "checkIndex", "(II)V"⟩
abbrev bM14 : ByteArray := prog_25_method_2_code
def yM14 : MethodName := ⟨"java/lang/StringLatin1", "charAt", "([BI)C"⟩
abbrev bM15 : ByteArray := prog_23_method_56_code
def yM15 : MethodName := ⟨"java/lang/String", "charAt", "(I)C"⟩
abbrev bM16 : ByteArray := prog_23_method_55_code
def yM16 : MethodName := ⟨"java/lang/String", "isEmpty", "()Z"⟩
theorem d9_0 : decode bM9 0 = .ok (.getstatic 38, 3) := by decide +kernel
theorem d9_3 : decode bM9 3 = .ok (.ifCond .eq 10, 3) := by decide +kernel
theorem d9_6 : decode bM9 6 = .ok (.aload_n 0, 1) := by decide +kernel
theorem d9_7 : decode bM9 7 = .ok (.getfield 15, 3) := by decide +kernel
theorem d9_10 : decode bM9 10 = .ok (.goto 4, 3) := by decide +kernel
theorem d9_14 : decode bM9 14 = .ok (.ireturn, 1) := by decide +kernel
theorem d10_0 : decode bM10 0 = .ok (.getstatic 38, 3) := by decide +kernel
theorem d10_3 : decode bM10 3 = .ok (.ifCond .eq 14, 3) := by decide +kernel
theorem d10_6 : decode bM10 6 = .ok (.aload_n 0, 1) := by decide +kernel
theorem d10_7 : decode bM10 7 = .ok (.getfield 15, 3) := by decide +kernel
theorem d10_10 : decode bM10 10 = .ok (.ifCond .ne 7, 3) := by decide +kernel
theorem d10_13 : decode bM10 13 = .ok (.iconst 1, 1) := by decide +kernel
theorem d10_14 : decode bM10 14 = .ok (.goto 4, 3) := by decide +kernel
theorem d10_18 : decode bM10 18 = .ok (.ireturn, 1) := by decide +kernel
theorem d11_0 : decode bM11 0 = .ok (.aload_n 0, 1) := by decide +kernel
theorem d11_1 : decode bM11 1 = .ok (.getfield 9, 3) := by decide +kernel
theorem d11_4 : decode bM11 4 = .ok (.arraylength, 1) := by decide +kernel
theorem d11_5 : decode bM11 5 = .ok (.aload_n 0, 1) := by decide +kernel
theorem d11_6 : decode bM11 6 = .ok (.invokevirtual 335, 3) := by decide +kernel
theorem d11_9 : decode bM11 9 = .ok (.ishr, 1) := by decide +kernel
theorem d11_10 : decode bM11 10 = .ok (.ireturn, 1) := by decide +kernel
theorem d12_0 : decode bM12 0 = .ok (.iload_n 0, 1) := by decide +kernel
theorem d12_1 : decode bM12 1 = .ok (.ifCond .lt 8, 3) := by decide +kernel
theorem d12_4 : decode bM12 4 = .ok (.iload_n 0, 1) := by decide +kernel
theorem d12_5 : decode bM12 5 = .ok (.iload_n 1, 1) := by decide +kernel
theorem d12_6 : decode bM12 6 = .ok (.if_icmp .lt 10, 3) := by decide +kernel
theorem d12_16 : decode bM12 16 = .ok (.iload_n 0, 1) := by decide +kernel
theorem d12_17 : decode bM12 17 = .ok (.ireturn, 1) := by decide +kernel
theorem d13_0 : decode bM13 0 = .ok (.iload_n 0, 1) := by decide +kernel
theorem d13_1 : decode bM13 1 = .ok (.iload_n 1, 1) := by decide +kernel
theorem d13_2 : decode bM13 2 = .ok (.getstatic 1053, 3) := by decide +kernel
theorem d13_5 : decode bM13 5 = .ok (.invokestatic 1059, 3) := by decide +kernel
theorem d13_8 : decode bM13 8 = .ok (.pop, 1) := by decide +kernel
theorem d13_9 : decode bM13 9 = .ok (.return_, 1) := by decide +kernel
theorem d14_0 : decode bM14 0 = .ok (.iload_n 1, 1) := by decide +kernel
theorem d14_1 : decode bM14 1 = .ok (.aload_n 0, 1) := by decide +kernel
theorem d14_2 : decode bM14 2 = .ok (.arraylength, 1) := by decide +kernel
theorem d14_3 : decode bM14 3 = .ok (.invokestatic 9, 3) := by decide +kernel
theorem d14_6 : decode bM14 6 = .ok (.aload_n 0, 1) := by decide +kernel
theorem d14_7 : decode bM14 7 = .ok (.iload_n 1, 1) := by decide +kernel
theorem d14_8 : decode bM14 8 = .ok (.baload, 1) := by decide +kernel
theorem d14_9 : decode bM14 9 = .ok (.sipush 255, 3) := by decide +kernel
theorem d14_12 : decode bM14 12 = .ok (.iand, 1) := by decide +kernel
theorem d14_13 : decode bM14 13 = .ok (.i2c, 1) := by decide +kernel
theorem d14_14 : decode bM14 14 = .ok (.ireturn, 1) := by decide +kernel
theorem d15_0 : decode bM15 0 = .ok (.aload_n 0, 1) := by decide +kernel
theorem d15_1 : decode bM15 1 = .ok (.invokevirtual 492, 3) := by decide +kernel
theorem d15_4 : decode bM15 4 = .ok (.ifCond .eq 12, 3) := by decide +kernel
theorem d15_7 : decode bM15 7 = .ok (.aload_n 0, 1) := by decide +kernel
theorem d15_8 : decode bM15 8 = .ok (.getfield 9, 3) := by decide +kernel
theorem d15_11 : decode bM15 11 = .ok (.iload_n 1, 1) := by decide +kernel
theorem d15_12 : decode bM15 12 = .ok (.invokestatic 495, 3) := by decide +kernel
theorem d15_15 : decode bM15 15 = .ok (.ireturn, 1) := by decide +kernel
theorem d16_0 : decode bM16 0 = .ok (.aload_n 0, 1) := by decide +kernel
theorem d16_1 : decode bM16 1 = .ok (.getfield 9, 3) := by decide +kernel
theorem d16_4 : decode bM16 4 = .ok (.arraylength, 1) := by decide +kernel
theorem d16_5 : decode bM16 5 = .ok (.ifCond .ne 7, 3) := by decide +kernel
theorem d16_8 : decode bM16 8 = .ok (.iconst 1, 1) := by decide +kernel
theorem d16_9 : decode bM16 9 = .ok (.goto 4, 3) := by decide +kernel
theorem d16_12 : decode bM16 12 = .ok (.iconst 0, 1) := by decide +kernel
theorem d16_13 : decode bM16 13 = .ok (.ireturn, 1) := by decide +kernel
theorem tx_and {c : Nat} (h : c < 128) : nI c &&& 255 = nI c := by
  rw [show (255 : Int32) = nI 255 from rfl]
  have := pk_andN (n := c) (by omega) (m := 255) 8 (by decide)
  rw [show nI 255 = (255 : Int32) from rfl, this]
  congr 1
  omega
theorem tx_c {c : Nat} (h : c < 128) : ((nI c).toUInt32 % 65536).toInt32 = nI c := by
  rw [pk_char, pk_tn (by omega)]
  congr 1
  omega
theorem tx_get {xs : List Nat} (h : ∀ c ∈ xs, c < 128) (i : Nat) : xs.getD i 0 < 128 := by
  by_cases hi : i < xs.length
  · rw [List.getD_eq_getElem?_getD, List.getElem?_eq_getElem hi]
    exact h _ (List.getElem_mem hi)
  · rw [List.getD_eq_getElem?_getD, List.getElem?_eq_none (by omega)]
    decide

set_option maxRecDepth 100000 in
set_option maxHeartbeats 8000000 in
theorem c_Scoder (l : Launch) (D : va_G) (dA : Nat → ClassId) (s0 : State) (hE : ms_EV D dA s0) (t : Nat) (u : Nat) (xs : List Nat) : ht_C l D s0 yM9 bM9 1 (Option.some Jvm.ClassFile.FieldType.byte) 0 0 0 0 [.ref t] (fun h z => z t = some (u, xs)) (fun h z vv h1 z1 => vv = some (.int 0) ∧ h1 = h ∧ z1 = z) := by
  refine ht_C.mk hE.1 (by decide) (Nat.le_of_ble_eq_true rfl) [(0, .ref t)] rfl ?_
  intro p e s m below meth c ls h z X hin hpre I hl
  have hx := X.1
  have hb := X.2.1
  have hml := X.2.2.1
  have hown : s.vm.findClass "java/lang/String" = some m.cls := X.2.2.2.1
  have hts := X.2.2.2.2.2.2.1
  have hK := X.2.2.2.2.2.2.2.2.1
  have hz := hpre
  have FR : ∀ (b : Nat) (e : va_E), h b = some e → h b = some e := fun _ _ q => q
  refine va_gets (own := "java/lang/String") hx hb (ms_z hE.2.2.1 X) I.2.2.1 hown (hts _ ms_k270) (fun _ h => h) d9_0 ?_
  refine lv_if_eq hx hb d9_3 rfl (fun h9 => absurd h9 (by decide)) (fun _ => ?_)
  refine lv_aload_n hx hb d9_6 rfl (lv_at hl 0 rfl) ?_
  refine hz_cod X I hz ms_k285 d9_7 ?_
  refine lv_goto hx hb d9_10 rfl ?_
  exact ht_zret X d9_14 I (Nat.le_of_ble_eq_true rfl) (Nat.le_of_ble_eq_true rfl) (⟨rfl, rfl, rfl⟩) (rfl)

set_option maxRecDepth 100000 in
set_option maxHeartbeats 8000000 in
theorem c_SisLat (l : Launch) (D : va_G) (dA : Nat → ClassId) (s0 : State) (hE : ms_EV D dA s0) (t : Nat) (u : Nat) (xs : List Nat) : ht_C l D s0 yM10 bM10 1 (Option.some Jvm.ClassFile.FieldType.boolean) 0 0 0 0 [.ref t] (fun h z => z t = some (u, xs)) (fun h z vv h1 z1 => vv = some (.int 1) ∧ h1 = h ∧ z1 = z) := by
  refine ht_C.mk hE.1 (by decide) (Nat.le_of_ble_eq_true rfl) [(0, .ref t)] rfl ?_
  intro p e s m below meth c ls h z X hin hpre I hl
  have hx := X.1
  have hb := X.2.1
  have hml := X.2.2.1
  have hown : s.vm.findClass "java/lang/String" = some m.cls := X.2.2.2.1
  have hts := X.2.2.2.2.2.2.1
  have hK := X.2.2.2.2.2.2.2.2.1
  have hz := hpre
  have FR : ∀ (b : Nat) (e : va_E), h b = some e → h b = some e := fun _ _ q => q
  refine va_gets (own := "java/lang/String") hx hb (ms_z hE.2.2.1 X) I.2.2.1 hown (hts _ ms_k270) (fun _ h => h) d10_0 ?_
  refine lv_if_eq hx hb d10_3 rfl (fun h9 => absurd h9 (by decide)) (fun _ => ?_)
  refine lv_aload_n hx hb d10_6 rfl (lv_at hl 0 rfl) ?_
  refine hz_cod X I hz ms_k285 d10_7 ?_
  refine lv_if_ne hx hb d10_10 rfl (fun h9 => absurd (by decide) h9) (fun _ => ?_)
  refine lv_iconst (v := 1) hx hb d10_13 (by decide) ?_
  refine lv_goto hx hb d10_14 rfl ?_
  exact ht_zret X d10_18 I (Nat.le_of_ble_eq_true rfl) (Nat.le_of_ble_eq_true rfl) (⟨rfl, rfl, rfl⟩) (rfl)

set_option maxRecDepth 100000 in
set_option maxHeartbeats 8000000 in
theorem c_Slen (l : Launch) (D : va_G) (dA : Nat → ClassId) (s0 : State) (hE : ms_EV D dA s0) (t : Nat) (u : Nat) (xs : List Nat) : ht_C l D s0 yM11 bM11 1 (Option.some Jvm.ClassFile.FieldType.int) 1 20 0 0 [.ref t] (fun h z => z t = some (u, xs)) (fun h z vv h1 z1 => vv = some (.int (nI xs.length)) ∧ h1 = h ∧ z1 = z) := by
  refine ht_C.mk hE.1 (by decide) (Nat.le_of_ble_eq_true rfl) [(0, .ref t)] rfl ?_
  intro p e s m below meth c ls h z X hin hpre I hl
  have hx := X.1
  have hb := X.2.1
  have hml := X.2.2.1
  have hown : s.vm.findClass "java/lang/String" = some m.cls := X.2.2.2.1
  have hts := X.2.2.2.2.2.2.1
  have hK := X.2.2.2.2.2.2.2.2.1
  have hz := hpre
  have FR : ∀ (b : Nat) (e : va_E), h b = some e → h b = some e := fun _ _ q => q
  refine lv_aload_n hx hb d11_0 rfl (lv_at hl 0 rfl) ?_
  refine hz_val X I hz ms_k284 d11_1 ?_
  refine hz_len X I hz d11_4 ?_
  refine lv_aload_n hx hb d11_5 rfl (lv_at hl 0 rfl) ?_
  refine ht_V (C := "java/lang/String") (rest := [.int (nI xs.length)]) (as := []) X hl (c_Scoder l D dA s0 hE t u xs) (List.forall_mem_cons.mpr ⟨ms_k394, List.forall_mem_cons.mpr ⟨ms_k395, List.forall_mem_cons.mpr ⟨ms_k396, List.forall_mem_cons.mpr ⟨ms_k4, List.forall_mem_cons.mpr ⟨ms_k397, fun _ h => absurd h List.not_mem_nil⟩⟩⟩⟩⟩) ⟨rfl, by decide +kernel, by decide +kernel, (by decide +kernel : (parseMethodDescriptor "()B").map (fun d => d.parameters.length) = some 0)⟩ (hz_recv I hz) I (hz) ⟨⟨Nat.le_of_ble_eq_true rfl, Nat.le_of_ble_eq_true rfl⟩, Nat.le_of_ble_eq_true rfl, Nat.le_of_ble_eq_true rfl⟩ rfl (Nat.le_of_ble_eq_true rfl) d11_6 (fun vv h1 z1 H locs hR I9 => ?_)
  clear I
  obtain ⟨rfl, rfl, rfl⟩ := hR
  have I := I9
  clear I9
  refine W.eq (g2 := F0 m 9 ls [.int 0, .int (nI xs.length)]) rfl ?_
  refine lv_ishr hx hb d11_9 ?_
  refine ms_top (y := (nI xs.length)) (sb_shr0 _) ?_
  exact ht_iret X d11_10 I (Nat.le_of_ble_eq_true rfl) (Nat.le_of_ble_eq_true rfl) (⟨rfl, rfl, rfl⟩)

set_option maxRecDepth 100000 in
set_option maxHeartbeats 8000000 in
theorem c_pcIN (l : Launch) (D : va_G) (dA : Nat → ClassId) (s0 : State) (hE : ms_EV D dA s0) (i : Nat) (n : Nat) (hi : i < n) (hn : n < 2 ^ 31) : ht_C l D s0 yM12 bM12 3 (Option.some Jvm.ClassFile.FieldType.int) 0 0 0 0 [.int (nI i), .int (nI n), .null] (fun h z => True) (fun h z vv h1 z1 => vv = some (.int (nI i)) ∧ h1 = h ∧ z1 = z) := by
  refine ht_C.mk hE.1 (by decide) (Nat.le_of_ble_eq_true rfl) [(0, .int (nI i)), (1, .int (nI n)), (2, .null)] rfl ?_
  intro p e s m below meth c ls h z X hin hpre I hl
  have hx := X.1
  have hb := X.2.1
  have hml := X.2.2.1
  have hown : s.vm.findClass "jdk/internal/util/Preconditions" = some m.cls := X.2.2.2.1
  have hts := X.2.2.2.2.2.2.1
  have hK := X.2.2.2.2.2.2.2.2.1
  have FR : ∀ (b : Nat) (e : va_E), h b = some e → h b = some e := fun _ _ q => q
  refine lv_iload_n hx hb d12_0 rfl (lv_at hl 0 rfl) ?_
  refine lv_if_lt hx hb d12_1 rfl (fun h9 => absurd h9 (nI_pos (by omega))) (fun _ => ?_)
  refine lv_iload_n hx hb d12_4 rfl (lv_at hl 0 rfl) ?_
  refine lv_iload_n hx hb d12_5 rfl (lv_at hl 1 rfl) ?_
  refine lv_icmp_lt hx hb d12_6 rfl (fun _ => ?_) (fun h9 => absurd (nI_lt hi hn) h9)
  refine lv_iload_n hx hb d12_16 rfl (lv_at hl 0 rfl) ?_
  exact ht_iret X d12_17 I (Nat.le_of_ble_eq_true rfl) (Nat.le_of_ble_eq_true rfl) (⟨rfl, rfl, rfl⟩)

set_option maxRecDepth 100000 in
set_option maxHeartbeats 8000000 in
theorem c_pcIR (l : Launch) (D : va_G) (dA : Nat → ClassId) (s0 : State) (hE : ms_EV D dA s0) (i : Nat) (n : Nat) (q : Nat) (hi : i < n) (hn : n < 2 ^ 31) : ht_C l D s0 yM12 bM12 3 (Option.some Jvm.ClassFile.FieldType.int) 0 0 0 0 [.int (nI i), .int (nI n), .ref q] (fun h z => True) (fun h z vv h1 z1 => vv = some (.int (nI i)) ∧ h1 = h ∧ z1 = z) := by
  refine ht_C.mk hE.1 (by decide) (Nat.le_of_ble_eq_true rfl) [(0, .int (nI i)), (1, .int (nI n)), (2, .ref q)] rfl ?_
  intro p e s m below meth c ls h z X hin hpre I hl
  have hx := X.1
  have hb := X.2.1
  have hml := X.2.2.1
  have hown : s.vm.findClass "jdk/internal/util/Preconditions" = some m.cls := X.2.2.2.1
  have hts := X.2.2.2.2.2.2.1
  have hK := X.2.2.2.2.2.2.2.2.1
  have FR : ∀ (b : Nat) (e : va_E), h b = some e → h b = some e := fun _ _ q => q
  refine lv_iload_n hx hb d12_0 rfl (lv_at hl 0 rfl) ?_
  refine lv_if_lt hx hb d12_1 rfl (fun h9 => absurd h9 (nI_pos (by omega))) (fun _ => ?_)
  refine lv_iload_n hx hb d12_4 rfl (lv_at hl 0 rfl) ?_
  refine lv_iload_n hx hb d12_5 rfl (lv_at hl 1 rfl) ?_
  refine lv_icmp_lt hx hb d12_6 rfl (fun _ => ?_) (fun h9 => absurd (nI_lt hi hn) h9)
  refine lv_iload_n hx hb d12_16 rfl (lv_at hl 0 rfl) ?_
  exact ht_iret X d12_17 I (Nat.le_of_ble_eq_true rfl) (Nat.le_of_ble_eq_true rfl) (⟨rfl, rfl, rfl⟩)

set_option maxRecDepth 100000 in
set_option maxHeartbeats 8000000 in
theorem c_ckIN (l : Launch) (D : va_G) (dA : Nat → ClassId) (s0 : State) (hE : ms_EV D dA s0) (i : Nat) (n : Nat) (hi : i < n) (hn : n < 2 ^ 31) (hZf : ∀ B : Nat → Prop, (∀ q, B q → s0.heap.size ≤ q) → va_Z "jdk/internal/util/Preconditions" "SIOOBE_FORMATTER" "Ljava/util/function/BiFunction;" .null B s0 s0.heap) : ht_C l D s0 yM13 bM13 2 (Option.none : Option Jvm.ClassFile.FieldType) 1 22 0 0 [.int (nI i), .int (nI n)] (fun h z => True) (fun h z vv h1 z1 => vv = none ∧ h1 = h ∧ z1 = z) := by
  refine ht_C.mk hE.1 (by decide) (Nat.le_of_ble_eq_true rfl) [(0, .int (nI i)), (1, .int (nI n))] rfl ?_
  intro p e s m below meth c ls h z X hin hpre I hl
  have hx := X.1
  have hb := X.2.1
  have hml := X.2.2.1
  have hown : s.vm.findClass "java/lang/String" = some m.cls := X.2.2.2.1
  have hts := X.2.2.2.2.2.2.1
  have hK := X.2.2.2.2.2.2.2.2.1
  have FR : ∀ (b : Nat) (e : va_E), h b = some e → h b = some e := fun _ _ q => q
  refine lv_iload_n hx hb d13_0 rfl (lv_at hl 0 rfl) ?_
  refine lv_iload_n hx hb d13_1 rfl (lv_at hl 1 rfl) ?_
  refine va_gets (own := "java/lang/String") hx hb (ms_z hZf X) I.2.2.1 hown (hts _ ms_k205) (fun _ h => h) d13_2 ?_
  refine ht_S (rest := []) (as := [.int (nI i), .int (nI n), .null]) X hl (c_pcIN l D dA s0 hE i n (hi) (hn)) (List.forall_mem_cons.mpr ⟨ms_k228, List.forall_mem_cons.mpr ⟨ms_k229, List.forall_mem_cons.mpr ⟨ms_k13, List.forall_mem_cons.mpr ⟨ms_k230, fun _ h => absurd h List.not_mem_nil⟩⟩⟩⟩) ⟨by decide +kernel, by decide +kernel, (by decide +kernel : (parseMethodDescriptor "(IILjava/util/function/BiFunction;)I").map (fun d => d.parameters.length) = some 3)⟩ I (trivial) ⟨⟨Nat.le_of_ble_eq_true rfl, Nat.le_of_ble_eq_true rfl⟩, Nat.le_of_ble_eq_true rfl, Nat.le_of_ble_eq_true rfl⟩ rfl (Nat.le_of_ble_eq_true rfl) d13_5 (fun vv h1 z1 H locs hR I9 => ?_)
  clear I
  obtain ⟨rfl, rfl, rfl⟩ := hR
  have I := I9
  clear I9
  refine W.eq (g2 := F0 m 8 ls [.int (nI i)]) rfl ?_
  refine lv_pop hx hb d13_8 rfl ?_
  exact ht_vret X d13_9 I (Nat.le_of_ble_eq_true rfl) (Nat.le_of_ble_eq_true rfl) (⟨rfl, rfl, rfl⟩)

set_option maxRecDepth 100000 in
set_option maxHeartbeats 8000000 in
theorem c_ckIR (l : Launch) (D : va_G) (dA : Nat → ClassId) (s0 : State) (hE : ms_EV D dA s0) (i : Nat) (n : Nat) (q : Nat) (hi : i < n) (hn : n < 2 ^ 31) (hZf : ∀ B : Nat → Prop, (∀ q, B q → s0.heap.size ≤ q) → va_Z "jdk/internal/util/Preconditions" "SIOOBE_FORMATTER" "Ljava/util/function/BiFunction;" (.ref q) B s0 s0.heap) : ht_C l D s0 yM13 bM13 2 (Option.none : Option Jvm.ClassFile.FieldType) 1 22 0 0 [.int (nI i), .int (nI n)] (fun h z => True) (fun h z vv h1 z1 => vv = none ∧ h1 = h ∧ z1 = z) := by
  refine ht_C.mk hE.1 (by decide) (Nat.le_of_ble_eq_true rfl) [(0, .int (nI i)), (1, .int (nI n))] rfl ?_
  intro p e s m below meth c ls h z X hin hpre I hl
  have hx := X.1
  have hb := X.2.1
  have hml := X.2.2.1
  have hown : s.vm.findClass "java/lang/String" = some m.cls := X.2.2.2.1
  have hts := X.2.2.2.2.2.2.1
  have hK := X.2.2.2.2.2.2.2.2.1
  have FR : ∀ (b : Nat) (e : va_E), h b = some e → h b = some e := fun _ _ q => q
  refine lv_iload_n hx hb d13_0 rfl (lv_at hl 0 rfl) ?_
  refine lv_iload_n hx hb d13_1 rfl (lv_at hl 1 rfl) ?_
  refine va_gets (own := "java/lang/String") hx hb (ms_z hZf X) I.2.2.1 hown (hts _ ms_k205) (fun _ h => h) d13_2 ?_
  refine ht_S (rest := []) (as := [.int (nI i), .int (nI n), .ref q]) X hl (c_pcIR l D dA s0 hE i n q (hi) (hn)) (List.forall_mem_cons.mpr ⟨ms_k228, List.forall_mem_cons.mpr ⟨ms_k229, List.forall_mem_cons.mpr ⟨ms_k13, List.forall_mem_cons.mpr ⟨ms_k230, fun _ h => absurd h List.not_mem_nil⟩⟩⟩⟩) ⟨by decide +kernel, by decide +kernel, (by decide +kernel : (parseMethodDescriptor "(IILjava/util/function/BiFunction;)I").map (fun d => d.parameters.length) = some 3)⟩ I (trivial) ⟨⟨Nat.le_of_ble_eq_true rfl, Nat.le_of_ble_eq_true rfl⟩, Nat.le_of_ble_eq_true rfl, Nat.le_of_ble_eq_true rfl⟩ rfl (Nat.le_of_ble_eq_true rfl) d13_5 (fun vv h1 z1 H locs hR I9 => ?_)
  clear I
  obtain ⟨rfl, rfl, rfl⟩ := hR
  have I := I9
  clear I9
  refine W.eq (g2 := F0 m 8 ls [.int (nI i)]) rfl ?_
  refine lv_pop hx hb d13_8 rfl ?_
  exact ht_vret X d13_9 I (Nat.le_of_ble_eq_true rfl) (Nat.le_of_ble_eq_true rfl) (⟨rfl, rfl, rfl⟩)

theorem c_ckI (l : Launch) (D : va_G) (dA : Nat → ClassId) (s0 : State) (hE : ms_EV D dA s0) (i n : Nat) (hi : i < n) (hn : n < 2 ^ 31) : ht_C l D s0 yM13 bM13 2 (Option.none : Option Jvm.ClassFile.FieldType) 1 22 0 0 [.int (nI i), .int (nI n)] (fun _ _ => True) (fun h z vv h1 z1 => vv = none ∧ h1 = h ∧ z1 = z) := by
  rcases hE.2.2.2.2.2.1 with hZf | ⟨q, hZf⟩
  · exact c_ckIN l D dA s0 hE i n hi hn hZf
  · exact c_ckIR l D dA s0 hE i n q hi hn hZf

set_option maxRecDepth 100000 in
set_option maxHeartbeats 8000000 in
theorem c_L1char (l : Launch) (D : va_G) (dA : Nat → ClassId) (s0 : State) (hE : ms_EV D dA s0) (t : Nat) (u : Nat) (xs : List Nat) (i : Nat) (hi : i < xs.length) (hn : xs.length < 2 ^ 31) (hc : ∀ c ∈ xs, c < 128) : ht_C l D s0 yM14 bM14 2 (Option.some Jvm.ClassFile.FieldType.char) 2 43 0 0 [.ref u, .int (nI i)] (fun h z => z t = some (u, xs)) (fun h z vv h1 z1 => vv = some (.int (nI (xs.getD i 0))) ∧ h1 = h ∧ z1 = z) := by
  refine ht_C.mk hE.1 (by decide) (Nat.le_of_ble_eq_true rfl) [(0, .ref u), (1, .int (nI i))] rfl ?_
  intro p e s m below meth c ls h z X hin hpre I hl
  have hx := X.1
  have hb := X.2.1
  have hml := X.2.2.1
  have hown : s.vm.findClass "java/lang/StringLatin1" = some m.cls := X.2.2.2.1
  have hts := X.2.2.2.2.2.2.1
  have hK := X.2.2.2.2.2.2.2.2.1
  have hz := hpre
  have FR : ∀ (b : Nat) (e : va_E), h b = some e → h b = some e := fun _ _ q => q
  refine lv_iload_n hx hb d14_0 rfl (lv_at hl 1 rfl) ?_
  refine lv_aload_n hx hb d14_1 rfl (lv_at hl 0 rfl) ?_
  refine hz_len X I hz d14_2 ?_
  refine ht_S (rest := []) (as := [.int (nI i), .int (nI xs.length)]) X hl (c_ckI l D dA s0 hE i xs.length (hi) (hn)) (List.forall_mem_cons.mpr ⟨ms_k409, List.forall_mem_cons.mpr ⟨ms_k226, List.forall_mem_cons.mpr ⟨ms_k4, List.forall_mem_cons.mpr ⟨ms_k227, fun _ h => absurd h List.not_mem_nil⟩⟩⟩⟩) ⟨by decide +kernel, by decide +kernel, (by decide +kernel : (parseMethodDescriptor "(II)V").map (fun d => d.parameters.length) = some 2)⟩ I (trivial) ⟨⟨Nat.le_of_ble_eq_true rfl, Nat.le_of_ble_eq_true rfl⟩, Nat.le_of_ble_eq_true rfl, Nat.le_of_ble_eq_true rfl⟩ rfl (Nat.le_of_ble_eq_true rfl) d14_3 (fun vv h1 z1 H locs hR I9 => ?_)
  clear I
  obtain ⟨rfl, rfl, rfl⟩ := hR
  have I := I9
  clear I9
  refine W.eq (g2 := F0 m 6 ls []) rfl ?_
  refine lv_aload_n hx hb d14_6 rfl (lv_at hl 0 rfl) ?_
  refine lv_iload_n hx hb d14_7 rfl (lv_at hl 1 rfl) ?_
  refine hz_ald (i := i) X I hz (hi) (by omega) d14_8 ?_
  refine lv_sipush (v := 255) hx hb d14_9 (by decide) ?_
  refine lv_iand hx hb d14_12 ?_
  refine ms_top (y := (nI (xs.getD i 0))) (tx_and (tx_get hc i)) ?_
  refine lv_i2c (v := (nI (xs.getD i 0))) hx hb d14_13 (tx_c (tx_get hc i)) ?_
  exact ht_zret X d14_14 I (Nat.le_of_ble_eq_true rfl) (Nat.le_of_ble_eq_true rfl) (⟨rfl, rfl, rfl⟩) ((pk_charN (Nat.lt_trans (tx_get hc i) (by decide))).1)

set_option maxRecDepth 100000 in
set_option maxHeartbeats 8000000 in
theorem c_SchAt (l : Launch) (D : va_G) (dA : Nat → ClassId) (s0 : State) (hE : ms_EV D dA s0) (t : Nat) (u : Nat) (xs : List Nat) (i : Nat) (hi : i < xs.length) (hn : xs.length < 2 ^ 31) (hc : ∀ c ∈ xs, c < 128) : ht_C l D s0 yM15 bM15 2 (Option.some Jvm.ClassFile.FieldType.char) 3 64 0 0 [.ref t, .int (nI i)] (fun h z => z t = some (u, xs)) (fun h z vv h1 z1 => vv = some (.int (nI (xs.getD i 0))) ∧ h1 = h ∧ z1 = z) := by
  refine ht_C.mk hE.1 (by decide) (Nat.le_of_ble_eq_true rfl) [(0, .ref t), (1, .int (nI i))] rfl ?_
  intro p e s m below meth c ls h z X hin hpre I hl
  have hx := X.1
  have hb := X.2.1
  have hml := X.2.2.1
  have hown : s.vm.findClass "java/lang/String" = some m.cls := X.2.2.2.1
  have hts := X.2.2.2.2.2.2.1
  have hK := X.2.2.2.2.2.2.2.2.1
  have hz := hpre
  have FR : ∀ (b : Nat) (e : va_E), h b = some e → h b = some e := fun _ _ q => q
  refine lv_aload_n hx hb d15_0 rfl (lv_at hl 0 rfl) ?_
  refine ht_V (C := "java/lang/String") (rest := []) (as := []) X hl (c_SisLat l D dA s0 hE t u xs) (List.forall_mem_cons.mpr ⟨ms_k402, List.forall_mem_cons.mpr ⟨ms_k403, List.forall_mem_cons.mpr ⟨ms_k404, List.forall_mem_cons.mpr ⟨ms_k4, List.forall_mem_cons.mpr ⟨ms_k405, fun _ h => absurd h List.not_mem_nil⟩⟩⟩⟩⟩) ⟨rfl, by decide +kernel, by decide +kernel, (by decide +kernel : (parseMethodDescriptor "()Z").map (fun d => d.parameters.length) = some 0)⟩ (hz_recv I hz) I (hz) ⟨⟨Nat.le_of_ble_eq_true rfl, Nat.le_of_ble_eq_true rfl⟩, Nat.le_of_ble_eq_true rfl, Nat.le_of_ble_eq_true rfl⟩ rfl (Nat.le_of_ble_eq_true rfl) d15_1 (fun vv h1 z1 H locs hR I9 => ?_)
  clear I
  obtain ⟨rfl, rfl, rfl⟩ := hR
  have I := I9
  clear I9
  refine W.eq (g2 := F0 m 4 ls [.int 1]) rfl ?_
  refine lv_if_eq hx hb d15_4 rfl (fun h9 => absurd h9 (by decide)) (fun _ => ?_)
  refine lv_aload_n hx hb d15_7 rfl (lv_at hl 0 rfl) ?_
  refine hz_val X I hz ms_k284 d15_8 ?_
  refine lv_iload_n hx hb d15_11 rfl (lv_at hl 1 rfl) ?_
  refine ht_S (rest := []) (as := [.ref u, .int (nI i)]) X hl (c_L1char l D dA s0 hE t u xs i (hi) (hn) (hc)) (List.forall_mem_cons.mpr ⟨ms_k406, List.forall_mem_cons.mpr ⟨ms_k407, List.forall_mem_cons.mpr ⟨ms_k12, List.forall_mem_cons.mpr ⟨ms_k408, fun _ h => absurd h List.not_mem_nil⟩⟩⟩⟩) ⟨by decide +kernel, by decide +kernel, (by decide +kernel : (parseMethodDescriptor "([BI)C").map (fun d => d.parameters.length) = some 2)⟩ I (hz) ⟨⟨Nat.le_of_ble_eq_true rfl, Nat.le_of_ble_eq_true rfl⟩, Nat.le_of_ble_eq_true rfl, Nat.le_of_ble_eq_true rfl⟩ rfl (Nat.le_of_ble_eq_true rfl) d15_12 (fun vv h1 z1 H locs hR I9 => ?_)
  clear I
  obtain ⟨rfl, rfl, rfl⟩ := hR
  have I := I9
  clear I9
  refine W.eq (g2 := F0 m 15 ls [.int (nI (xs.getD i 0))]) rfl ?_
  exact ht_zret X d15_15 I (Nat.le_of_ble_eq_true rfl) (Nat.le_of_ble_eq_true rfl) (⟨rfl, rfl, rfl⟩) ((pk_charN (Nat.lt_trans (tx_get hc i) (by decide))).1)

set_option maxRecDepth 100000 in
set_option maxHeartbeats 8000000 in
theorem c_Sempty (l : Launch) (D : va_G) (dA : Nat → ClassId) (s0 : State) (hE : ms_EV D dA s0) (t : Nat) (u : Nat) (xs : List Nat) (hn : xs.length < 2 ^ 31) : ht_C l D s0 yM16 bM16 1 (Option.some Jvm.ClassFile.FieldType.boolean) 0 0 0 0 [.ref t] (fun h z => z t = some (u, xs)) (fun h z vv h1 z1 => vv = some (.int (if xs.length = 0 then 1 else 0)) ∧ h1 = h ∧ z1 = z) := by
  refine ht_C.mk hE.1 (by decide) (Nat.le_of_ble_eq_true rfl) [(0, .ref t)] rfl ?_
  intro p e s m below meth c ls h z X hin hpre I hl
  have hx := X.1
  have hb := X.2.1
  have hml := X.2.2.1
  have hown : s.vm.findClass "java/lang/String" = some m.cls := X.2.2.2.1
  have hts := X.2.2.2.2.2.2.1
  have hK := X.2.2.2.2.2.2.2.2.1
  have hz := hpre
  have FR : ∀ (b : Nat) (e : va_E), h b = some e → h b = some e := fun _ _ q => q
  refine lv_aload_n hx hb d16_0 rfl (lv_at hl 0 rfl) ?_
  refine hz_val X I hz ms_k284 d16_1 ?_
  refine hz_len X I hz d16_4 ?_
  refine lv_if_ne hx hb d16_5 rfl (fun hq => ?_) (fun hq => ?_)
  · refine lv_iconst (v := 0) hx hb d16_12 (by decide) ?_
    exact ht_zret X d16_13 I (Nat.le_of_ble_eq_true rfl) (Nat.le_of_ble_eq_true rfl) (⟨by rw [if_neg (show ¬ xs.length = 0 from fun q => by rw [q] at hq; exact hq rfl)], rfl, rfl⟩) (rfl)
  · refine lv_iconst (v := 1) hx hb d16_8 (by decide) ?_
    refine lv_goto hx hb d16_9 rfl ?_
    exact ht_zret X d16_13 I (Nat.le_of_ble_eq_true rfl) (Nat.le_of_ble_eq_true rfl) (⟨by rw [if_pos (show xs.length = 0 by rcases Nat.eq_zero_or_pos xs.length with q | q; exact q; exact absurd hq (nI_ne0 q hn))], rfl, rfl⟩) (rfl)
