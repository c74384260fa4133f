theorem ms_k555 : (Jvm.Cond.methodLink "java/lang/String" (521 : Nat) ({ cls := "java/lang/String", name := "checkBoundsBeginEnd", desc := "(III)V" } : Jvm.MethodName)) ∈ ms_tb := ms_i3 75 (by decide +kernel) (by decide +kernel)
theorem ms_k556 : (Jvm.Cond.static ({ cls := "java/lang/String", name := "checkBoundsBeginEnd", desc := "(III)V" } : Jvm.MethodName)) ∈ ms_tb := ms_i3 76 (by decide +kernel) (by decide +kernel)
theorem ms_k557 : (Jvm.Cond.code ({ cls := "java/lang/String", name := "checkBoundsBeginEnd", desc := "(III)V" } : Jvm.MethodName) prog_23_method_158_code (3 : Nat) (Option.none : Option Jvm.ClassFile.FieldType)) ∈ ms_tb := ms_i3 77 (by decide +kernel) (by decide +kernel)
theorem ms_k558 : (Jvm.Cond.methodLink "java/lang/String" (1062 : Nat) ({ cls := "jdk/internal/util/Preconditions", name := "checkFromToIndex", desc := "(IIILjava/util/function/BiFunction;)I" } : Jvm.MethodName)) ∈ ms_tb := ms_i3 78 (by decide +kernel) (by decide +kernel)
theorem ms_k559 : (Jvm.Cond.static ({ cls := "jdk/internal/util/Preconditions", name := "checkFromToIndex", desc := "(IIILjava/util/function/BiFunction;)I" } : Jvm.MethodName)) ∈ ms_tb := ms_i3 79 (by decide +kernel) (by decide +kernel)
theorem ms_k560 : (Jvm.Cond.code ({ cls := "jdk/internal/util/Preconditions", name := "checkFromToIndex", desc := "(IIILjava/util/function/BiFunction;)I" } : Jvm.MethodName) prog_38_method_12_code (4 : Nat) (Option.some Jvm.ClassFile.FieldType.int)) ∈ ms_tb := ms_i3 80 (by decide +kernel) (by decide +kernel)
theorem ms_k561 : (Jvm.Cond.methodLink "java/lang/String" (685 : Nat) ({ cls := "java/lang/StringLatin1", name := "newString", desc := "([BII)Ljava/lang/String;" } : Jvm.MethodName)) ∈ ms_tb := ms_i3 81 (by decide +kernel) (by decide +kernel)
theorem ms_k562 : (Jvm.Cond.static ({ cls := "java/lang/StringLatin1", name := "newString", desc := "([BII)Ljava/lang/String;" } : Jvm.MethodName)) ∈ ms_tb := ms_i3 82 (by decide +kernel) (by decide +kernel)
theorem ms_k563 : (Jvm.Cond.code ({ cls := "java/lang/StringLatin1", name := "newString", desc := "([BII)Ljava/lang/String;" } : Jvm.MethodName) prog_25_method_47_code (3 : Nat) (Option.some (Jvm.ClassFile.FieldType.object "java/lang/String"))) ∈ ms_tb := ms_i3 83 (by decide +kernel) (by decide +kernel)
theorem ms_k565 : (Jvm.Cond.classLink "java/lang/StringLatin1" (1 : Nat) "java/lang/String") ∈ ms_tb := ms_i3 85 (by decide +kernel) (by decide +kernel)
theorem ms_k566 : (Jvm.Cond.methodLink "java/lang/StringLatin1" (232 : Nat) ({ cls := "java/util/Arrays", name := "copyOfRange", desc := "([BII)[B" } : Jvm.MethodName)) ∈ ms_tb := ms_i3 86 (by decide +kernel) (by decide +kernel)
theorem ms_k567 : (Jvm.Cond.methodLink "java/lang/StringLatin1" (112 : Nat) ({ cls := "java/lang/String", name := "<init>", desc := "([BB)V" } : Jvm.MethodName)) ∈ ms_tb := ms_i3 87 (by decide +kernel) (by decide +kernel)
theorem ms_k568 : (Jvm.Cond.instanceMethod ({ cls := "java/lang/String", name := "<init>", desc := "([BB)V" } : Jvm.MethodName)) ∈ ms_tb := ms_i3 88 (by decide +kernel) (by decide +kernel)
theorem ms_k569 : (Jvm.Cond.code ({ cls := "java/lang/String", name := "<init>", desc := "([BB)V" } : Jvm.MethodName) prog_23_method_151_code (3 : Nat) (Option.none : Option Jvm.ClassFile.FieldType)) ∈ ms_tb := ms_i3 89 (by decide +kernel) (by decide +kernel)
abbrev bM124 : ByteArray := prog_25_method_47_code
def yM124 : MethodName := ⟨"java/lang/StringLatin1", "newString", "([BII)Ljava/lang/String;"⟩
abbrev bM125 : ByteArray := prog_38_method_12_code
def yM125 : MethodName := ⟨"jdk/internal/util/Preconditions", "checkFromToIndex", "(IIILjava/util/function/BiFunction;)I"⟩
abbrev bM126 : ByteArray := prog_23_method_158_code
def yM126 : MethodName := ⟨"java/lang/String", "checkBoundsBeginEnd", "(III)V"⟩
abbrev bM127 : ByteArray := prog_23_method_92_code
def yM127 : MethodName := ⟨"java/lang/String", "substring", "(II)Ljava/lang/String;"⟩
theorem d124_0 : decode bM124 0 = .ok (.iload_n 2, 1) := by decide +kernel
theorem d124_1 : decode bM124 1 = .ok (.ifCond .ne 6, 3) := by decide +kernel
theorem d124_4 : decode bM124 4 = .ok (.ldc 151, 2) := by decide +kernel
theorem d124_6 : decode bM124 6 = .ok (.areturn, 1) := by decide +kernel
theorem d124_7 : decode bM124 7 = .ok (.new 1, 3) := by decide +kernel
theorem d124_10 : decode bM124 10 = .ok (.dup, 1) := by decide +kernel
theorem d124_11 : decode bM124 11 = .ok (.aload_n 0, 1) := by decide +kernel
theorem d124_12 : decode bM124 12 = .ok (.iload_n 1, 1) := by decide +kernel
theorem d124_13 : decode bM124 13 = .ok (.iload_n 1, 1) := by decide +kernel
theorem d124_14 : decode bM124 14 = .ok (.iload_n 2, 1) := by decide +kernel
theorem d124_15 : decode bM124 15 = .ok (.iadd, 1) := by decide +kernel
theorem d124_16 : decode bM124 16 = .ok (.invokestatic 232, 3) := by decide +kernel
theorem d124_19 : decode bM124 19 = .ok (.iconst 0, 1) := by decide +kernel
theorem d124_20 : decode bM124 20 = .ok (.invokespecial 112, 3) := by decide +kernel
theorem d124_23 : decode bM124 23 = .ok (.areturn, 1) := by decide +kernel
theorem d125_0 : decode bM125 0 = .ok (.iload_n 0, 1) := by decide +kernel
theorem d125_1 : decode bM125 1 = .ok (.ifCond .lt 13, 3) := by decide +kernel
theorem d125_4 : decode bM125 4 = .ok (.iload_n 0, 1) := by decide +kernel
theorem d125_5 : decode bM125 5 = .ok (.iload_n 1, 1) := by decide +kernel
theorem d125_6 : decode bM125 6 = .ok (.if_icmp .gt 8, 3) := by decide +kernel
theorem d125_9 : decode bM125 9 = .ok (.iload_n 1, 1) := by decide +kernel
theorem d125_10 : decode bM125 10 = .ok (.iload_n 2, 1) := by decide +kernel
theorem d125_11 : decode bM125 11 = .ok (.if_icmp .le 11, 3) := by decide +kernel
theorem d125_22 : decode bM125 22 = .ok (.iload_n 0, 1) := by decide +kernel
theorem d125_23 : decode bM125 23 = .ok (.ireturn, 1) := by decide +kernel
theorem d126_0 : decode bM126 0 = .ok (.iload_n 0, 1) := by decide +kernel
theorem d126_1 : decode bM126 1 = .ok (.iload_n 1, 1) := by decide +kernel
theorem d126_2 : decode bM126 2 = .ok (.iload_n 2, 1) := by decide +kernel
theorem d126_3 : decode bM126 3 = .ok (.getstatic 1053, 3) := by decide +kernel
theorem d126_6 : decode bM126 6 = .ok (.invokestatic 1062, 3) := by decide +kernel
theorem d126_9 : decode bM126 9 = .ok (.pop, 1) := by decide +kernel
theorem d126_10 : decode bM126 10 = .ok (.return_, 1) := by decide +kernel
theorem d127_0 : decode bM127 0 = .ok (.aload_n 0, 1) := by decide +kernel
theorem d127_1 : decode bM127 1 = .ok (.invokevirtual 505, 3) := by decide +kernel
theorem d127_4 : decode bM127 4 = .ok (.istore_n 3, 1) := by decide +kernel
theorem d127_5 : decode bM127 5 = .ok (.iload_n 1, 1) := by decide +kernel
theorem d127_6 : decode bM127 6 = .ok (.iload_n 2, 1) := by decide +kernel
theorem d127_7 : decode bM127 7 = .ok (.iload_n 3, 1) := by decide +kernel
theorem d127_8 : decode bM127 8 = .ok (.invokestatic 521, 3) := by decide +kernel
theorem d127_11 : decode bM127 11 = .ok (.iload_n 1, 1) := by decide +kernel
theorem d127_12 : decode bM127 12 = .ok (.ifCond .ne 10, 3) := by decide +kernel
theorem d127_15 : decode bM127 15 = .ok (.iload_n 2, 1) := by decide +kernel
theorem d127_16 : decode bM127 16 = .ok (.iload_n 3, 1) := by decide +kernel
theorem d127_17 : decode bM127 17 = .ok (.if_icmp .ne 5, 3) := by decide +kernel
theorem d127_20 : decode bM127 20 = .ok (.aload_n 0, 1) := by decide +kernel
theorem d127_21 : decode bM127 21 = .ok (.areturn, 1) := by decide +kernel
theorem d127_22 : decode bM127 22 = .ok (.iload_n 2, 1) := by decide +kernel
theorem d127_23 : decode bM127 23 = .ok (.iload_n 1, 1) := by decide +kernel
theorem d127_24 : decode bM127 24 = .ok (.isub, 1) := by decide +kernel
theorem d127_25 : decode bM127 25 = .ok (.istore 4, 2) := by decide +kernel
theorem d127_27 : decode bM127 27 = .ok (.aload_n 0, 1) := by decide +kernel
theorem d127_28 : decode bM127 28 = .ok (.invokevirtual 492, 3) := by decide +kernel
theorem d127_31 : decode bM127 31 = .ok (.ifCond .eq 16, 3) := by decide +kernel
theorem d127_34 : decode bM127 34 = .ok (.aload_n 0, 1) := by decide +kernel
theorem d127_35 : decode bM127 35 = .ok (.getfield 9, 3) := by decide +kernel
theorem d127_38 : decode bM127 38 = .ok (.iload_n 1, 1) := by decide +kernel
theorem d127_39 : decode bM127 39 = .ok (.iload 4, 2) := by decide +kernel
theorem d127_41 : decode bM127 41 = .ok (.invokestatic 685, 3) := by decide +kernel
theorem d127_44 : decode bM127 44 = .ok (.goto 13, 3) := by decide +kernel
theorem d127_57 : decode bM127 57 = .ok (.areturn, 1) := by decide +kernel
theorem tx_take0 {xs : List Nat} {i : Nat} : (xs.drop i).take 0 = [] := by simp
theorem tx_whole {xs : List Nat} {i j : Nat} (hi : i = 0) (hj : j = xs.length) : (xs.drop i).take (j - i) = xs := by subst hi; subst hj; simp

set_option maxRecDepth 100000 in
set_option maxHeartbeats 8000000 in
theorem c_newStr (l : Launch) (D : va_G) (dA : Nat → ClassId) (s0 : State) (hE : ms_EV D dA s0) (t : Nat) (u : Nat) (xs : List Nat) (i : Nat) (j : Nat) (hij : i ≤ j) (hjx : j ≤ xs.length) (hxl : xs.length ≤ 142) (hc : ∀ c ∈ xs, c < 128) (hw : ¬ (i = 0 ∧ j = xs.length)) : ht_C l D s0 yM124 bM124 3 (Option.some (Jvm.ClassFile.FieldType.object "java/lang/String")) 3 146 2 146 [.ref u, .int (nI i), .int (nI (j - i))] (fun h z => z t = some (u, xs)) (fun h z vv h1 z1 => (∃ t1 u1 : Nat, vv = some (.ref t1) ∧ z1 t1 = some (u1, (xs.drop i).take (j - i))) ∧ (∀ (b : Nat) (e : va_E), h b = some e → h1 b = some e) ∧ (∀ (b : Nat) (e : Nat × List Nat), z b = some e → z1 b = some e)) := by
  refine ht_C.mk hE.1 (by decide) (Nat.le_of_ble_eq_true rfl) [(0, .ref u), (1, .int (nI i)), (2, .int (nI (j - i)))] rfl ?_
  intro p e s m below meth c ls h z X hin hpre I hl
  have hx := X.1
  have hb := X.2.1
  have hml := X.2.2.1
  have hown : s.vm.findClass "java/lang/StringLatin1" = some m.cls := X.2.2.2.1
  have hts := X.2.2.2.2.2.2.1
  have hK := X.2.2.2.2.2.2.2.2.1
  have hz := hpre
  have FR : ∀ (b : Nat) (e : va_E), h b = some e → h b = some e := fun _ _ q => q
  refine lv_iload_n hx hb d124_0 rfl (lv_at hl 2 rfl) ?_
  refine lv_if_ne hx hb d124_1 rfl (fun h1 => ?_) (fun h1 => ?_)
  · refine hm_mk (ci := 5) (fs := [.null, .int 0, .int 0, .int 0]) (C := kR5) (T := kT5) (N := 4) X I ku5 kt5 kp5 (List.forall_mem_cons.mpr ⟨ms_k565, List.forall_mem_cons.mpr ⟨ms_k246, List.forall_mem_cons.mpr ⟨ms_k4, fun _ h => absurd h List.not_mem_nil⟩⟩⟩) rfl kz5 (Nat.le_of_ble_eq_true rfl) (Nat.le_of_ble_eq_true rfl) d124_7 (fun q21 h H v9 e9 f9 I => ?_)
    have FR := fun b e hb  => (f9 b (hm_nn (FR b e hb ) v9)).trans (FR b e hb )
    have c22 : h q21 = some (.inr (5, [.null, .int 0, .int 0, .int 0])) := e9
    have ft := v9
    refine lv_dup hx hb d124_10 rfl ?_
    refine lv_aload_n hx hb d124_11 rfl (lv_at hl 0 rfl) ?_
    refine lv_iload_n hx hb d124_12 rfl (lv_at hl 1 rfl) ?_
    refine lv_iload_n hx hb d124_13 rfl (lv_at hl 1 rfl) ?_
    refine lv_iload_n hx hb d124_14 rfl (lv_at hl 2 rfl) ?_
    refine lv_iadd hx hb d124_15 ?_
    refine ms_top (y := (nI j)) (by rw [nI_add]; congr 1; omega) ?_
    refine ht_S (rest := [.ref q21, .ref q21]) (as := [.ref u, .int (nI i), .int (nI j)]) X hl (c_cpRz l D dA s0 hE t u xs i j (hij) (hjx) (hxl) (hc) (hw)) (List.forall_mem_cons.mpr ⟨ms_k566, List.forall_mem_cons.mpr ⟨ms_k262, List.forall_mem_cons.mpr ⟨ms_k10, List.forall_mem_cons.mpr ⟨ms_k263, fun _ h => absurd h List.not_mem_nil⟩⟩⟩⟩) ⟨by decide +kernel, by decide +kernel, (by decide +kernel : (parseMethodDescriptor "([BII)[B").map (fun d => d.parameters.length) = some 3)⟩ I (hz) ⟨⟨Nat.le_of_ble_eq_true rfl, Nat.le_of_ble_eq_true rfl⟩, Nat.le_of_ble_eq_true rfl, Nat.le_of_ble_eq_true rfl⟩ rfl (Nat.le_of_ble_eq_true rfl) d124_16 (fun vv h1 z1 H locs hR I9 => ?_)
    clear I
    obtain ⟨rfl, q9, g9, rfl, v8, c8, k8, hk9⟩ := hR
    have FU := fun b e hb => hm_nn (FR b e hb) v8
    have c22 := hk9 _ _ c22
    have FR := fun b e hb => hk9 b e (FR b e hb)
    clear hk9
    generalize h1 = h at c8 FR I9 c22
    have I := I9
    clear I9
    refine W.eq (g2 := F0 m 19 ls [.ref q9, .ref q21, .ref q21]) rfl ?_
    refine lv_iconst (v := 0) hx hb d124_19 (by decide) ?_
    refine ht_I (rest := [.ref q21]) (as := [.ref q9, .int 0]) X hl ((c_SinitB l D dA s0 hE q21 q9).lift) (List.forall_mem_cons.mpr ⟨ms_k567, List.forall_mem_cons.mpr ⟨ms_k568, List.forall_mem_cons.mpr ⟨ms_k4, List.forall_mem_cons.mpr ⟨ms_k569, fun _ h => absurd h List.not_mem_nil⟩⟩⟩⟩) rfl ⟨by decide +kernel, by decide +kernel, (by decide +kernel : (parseMethodDescriptor "([BB)V").map (fun d => d.parameters.length) = some 2)⟩ I (hm_has1 c22) ⟨⟨Nat.le_of_ble_eq_true rfl, Nat.le_of_ble_eq_true rfl⟩, Nat.le_of_ble_eq_true rfl, Nat.le_of_ble_eq_true rfl⟩ rfl (Nat.le_of_ble_eq_true rfl) d124_20 (fun vv h1 z1 H locs hR I9 => ?_)
    clear I
    obtain ⟨ww, hR, ⟨q1, q2, q3⟩, rfl⟩ := hR
    obtain ⟨rfl, rfl⟩ := hR
    have c8 := q3 _ _ c8 (hm_off1 (Ne.symm (hm_ne c8 c22 rfl)))
    have FR := fun b e hb (n0 : b ≠ q21) => q3 b e (FR b e hb ) (hm_off1 (Ne.symm n0))
    have c23 : h1 q21 = some (.inr (5, [.ref q9, .int 0, .int 0, .int 0])) := (q1 0 _ rfl).1
    clear q1 q2 q3
    have I := I9
    clear I9
    generalize h1 = h at I FR c8 c23
    refine W.eq (g2 := F0 m 23 ls [.ref q21]) rfl ?_
    have e7 := tx_sln hij hjx
    have c8 : h q9 = some (.inl (dA 2, ((xs.drop i).take (j - i)).length, .inl g9)) := by rw [e7]; exact c8
    obtain ⟨h2, z2, I2, z5, z6, f6, n1, n2, n3⟩ := hm_frz X I c23 c8 2 rfl (fun k hk => by rw [e7] at hk; rw [k8 k hk, tx_sl hjx (by omega)])
    have I := I2
    exact ht_aret X d124_23 I (Nat.le_of_ble_eq_true rfl) (Nat.le_of_ble_eq_true rfl) (⟨⟨_, _, rfl, z5⟩, fun b e hb => (f6 b (hm_nn hb ft) (FU b e hb)).trans (FR b e hb (hm_nn hb ft)), fun b e hb => by rw [z6 b (fun q => by rw [q, n3] at hb; cases hb)]; exact hb⟩) (Or.inl ⟨_, rfl⟩) (Or.inr ⟨_, rfl⟩)
  · refine hz_ldc (xs := []) hE X I 1 rfl hown d124_4 (fun la24 lu25 lz26 => ?_)
    exact ht_aret X d124_6 I (Nat.le_of_ble_eq_true rfl) (Nat.le_of_ble_eq_true rfl) (⟨⟨_, _, rfl, by rw [(nI_eq (b := 0) (by omega) (by omega)).mp h1, tx_take0]; exact lz26⟩, fun _ _ q => q, fun _ _ q => q⟩) (Or.inl ⟨_, rfl⟩) (Or.inr ⟨_, rfl⟩)

set_option maxRecDepth 100000 in
set_option maxHeartbeats 8000000 in
theorem c_pcFTN (l : Launch) (D : va_G) (dA : Nat → ClassId) (s0 : State) (hE : ms_EV D dA s0) (i : Nat) (j : Nat) (n : Nat) (hij : i ≤ j) (hjn : j ≤ n) (hn : n < 2 ^ 31) : ht_C l D s0 yM125 bM125 4 (Option.some Jvm.ClassFile.FieldType.int) 0 0 0 0 [.int (nI i), .int (nI j), .int (nI n), .null] (fun h z => True) (fun h z vv h1 z1 => vv = some (.int (nI i)) ∧ h1 = h ∧ z1 = z) := by
  refine ht_C.mk hE.1 (by decide) (Nat.le_of_ble_eq_true rfl) [(0, .int (nI i)), (1, .int (nI j)), (2, .int (nI n)), (3, .null)] rfl ?_
  intro p e s m below meth c ls h z X hin hpre I hl
  have hx := X.1
  have hb := X.2.1
  have hml := X.2.2.1
  have hown : s.vm.findClass "jdk/internal/util/Preconditions" = some m.cls := X.2.2.2.1
  have hts := X.2.2.2.2.2.2.1
  have hK := X.2.2.2.2.2.2.2.2.1
  have FR : ∀ (b : Nat) (e : va_E), h b = some e → h b = some e := fun _ _ q => q
  refine lv_iload_n hx hb d125_0 rfl (lv_at hl 0 rfl) ?_
  refine lv_if_lt hx hb d125_1 rfl (fun h9 => absurd h9 (nI_pos (by omega))) (fun _ => ?_)
  refine lv_iload_n hx hb d125_4 rfl (lv_at hl 0 rfl) ?_
  refine lv_iload_n hx hb d125_5 rfl (lv_at hl 1 rfl) ?_
  refine lv_icmp_gt hx hb d125_6 rfl (fun h9 => absurd h9 (nI_nlt hij (by omega))) (fun _ => ?_)
  refine lv_iload_n hx hb d125_9 rfl (lv_at hl 1 rfl) ?_
  refine lv_iload_n hx hb d125_10 rfl (lv_at hl 2 rfl) ?_
  refine lv_icmp_le hx hb d125_11 rfl (fun _ => ?_) (fun h9 => absurd (nI_le hjn hn) h9)
  refine lv_iload_n hx hb d125_22 rfl (lv_at hl 0 rfl) ?_
  exact ht_iret X d125_23 I (Nat.le_of_ble_eq_true rfl) (Nat.le_of_ble_eq_true rfl) (⟨rfl, rfl, rfl⟩)

set_option maxRecDepth 100000 in
set_option maxHeartbeats 8000000 in
theorem c_pcFTR (l : Launch) (D : va_G) (dA : Nat → ClassId) (s0 : State) (hE : ms_EV D dA s0) (i : Nat) (j : Nat) (n : Nat) (q : Nat) (hij : i ≤ j) (hjn : j ≤ n) (hn : n < 2 ^ 31) : ht_C l D s0 yM125 bM125 4 (Option.some Jvm.ClassFile.FieldType.int) 0 0 0 0 [.int (nI i), .int (nI j), .int (nI n), .ref q] (fun h z => True) (fun h z vv h1 z1 => vv = some (.int (nI i)) ∧ h1 = h ∧ z1 = z) := by
  refine ht_C.mk hE.1 (by decide) (Nat.le_of_ble_eq_true rfl) [(0, .int (nI i)), (1, .int (nI j)), (2, .int (nI n)), (3, .ref q)] rfl ?_
  intro p e s m below meth c ls h z X hin hpre I hl
  have hx := X.1
  have hb := X.2.1
  have hml := X.2.2.1
  have hown : s.vm.findClass "jdk/internal/util/Preconditions" = some m.cls := X.2.2.2.1
  have hts := X.2.2.2.2.2.2.1
  have hK := X.2.2.2.2.2.2.2.2.1
  have FR : ∀ (b : Nat) (e : va_E), h b = some e → h b = some e := fun _ _ q => q
  refine lv_iload_n hx hb d125_0 rfl (lv_at hl 0 rfl) ?_
  refine lv_if_lt hx hb d125_1 rfl (fun h9 => absurd h9 (nI_pos (by omega))) (fun _ => ?_)
  refine lv_iload_n hx hb d125_4 rfl (lv_at hl 0 rfl) ?_
  refine lv_iload_n hx hb d125_5 rfl (lv_at hl 1 rfl) ?_
  refine lv_icmp_gt hx hb d125_6 rfl (fun h9 => absurd h9 (nI_nlt hij (by omega))) (fun _ => ?_)
  refine lv_iload_n hx hb d125_9 rfl (lv_at hl 1 rfl) ?_
  refine lv_iload_n hx hb d125_10 rfl (lv_at hl 2 rfl) ?_
  refine lv_icmp_le hx hb d125_11 rfl (fun _ => ?_) (fun h9 => absurd (nI_le hjn hn) h9)
  refine lv_iload_n hx hb d125_22 rfl (lv_at hl 0 rfl) ?_
  exact ht_iret X d125_23 I (Nat.le_of_ble_eq_true rfl) (Nat.le_of_ble_eq_true rfl) (⟨rfl, rfl, rfl⟩)

set_option maxRecDepth 100000 in
set_option maxHeartbeats 8000000 in
theorem c_ckBN (l : Launch) (D : va_G) (dA : Nat → ClassId) (s0 : State) (hE : ms_EV D dA s0) (i : Nat) (j : Nat) (n : Nat) (hij : i ≤ j) (hjn : j ≤ n) (hn : n < 2 ^ 31) (hZf : ∀ B : Nat → Prop, (∀ q, B q → s0.heap.size ≤ q) → va_Z "jdk/internal/util/Preconditions" "SIOOBE_FORMATTER" "Ljava/util/function/BiFunction;" .null B s0 s0.heap) : ht_C l D s0 yM126 bM126 3 (Option.none : Option Jvm.ClassFile.FieldType) 1 23 0 0 [.int (nI i), .int (nI j), .int (nI n)] (fun h z => True) (fun h z vv h1 z1 => vv = none ∧ h1 = h ∧ z1 = z) := by
  refine ht_C.mk hE.1 (by decide) (Nat.le_of_ble_eq_true rfl) [(0, .int (nI i)), (1, .int (nI j)), (2, .int (nI n))] rfl ?_
  intro p e s m below meth c ls h z X hin hpre I hl
  have hx := X.1
  have hb := X.2.1
  have hml := X.2.2.1
  have hown : s.vm.findClass "java/lang/String" = some m.cls := X.2.2.2.1
  have hts := X.2.2.2.2.2.2.1
  have hK := X.2.2.2.2.2.2.2.2.1
  have FR : ∀ (b : Nat) (e : va_E), h b = some e → h b = some e := fun _ _ q => q
  refine lv_iload_n hx hb d126_0 rfl (lv_at hl 0 rfl) ?_
  refine lv_iload_n hx hb d126_1 rfl (lv_at hl 1 rfl) ?_
  refine lv_iload_n hx hb d126_2 rfl (lv_at hl 2 rfl) ?_
  refine va_gets (own := "java/lang/String") hx hb (ms_z hZf X) I.2.2.1 hown (hts _ ms_k205) (fun _ h => h) d126_3 ?_
  refine ht_S (rest := []) (as := [.int (nI i), .int (nI j), .int (nI n), .null]) X hl (c_pcFTN l D dA s0 hE i j n (hij) (hjn) (hn)) (List.forall_mem_cons.mpr ⟨ms_k558, List.forall_mem_cons.mpr ⟨ms_k559, List.forall_mem_cons.mpr ⟨ms_k13, List.forall_mem_cons.mpr ⟨ms_k560, fun _ h => absurd h List.not_mem_nil⟩⟩⟩⟩) ⟨by decide +kernel, by decide +kernel, (by decide +kernel : (parseMethodDescriptor "(IIILjava/util/function/BiFunction;)I").map (fun d => d.parameters.length) = some 4)⟩ I (trivial) ⟨⟨Nat.le_of_ble_eq_true rfl, Nat.le_of_ble_eq_true rfl⟩, Nat.le_of_ble_eq_true rfl, Nat.le_of_ble_eq_true rfl⟩ rfl (Nat.le_of_ble_eq_true rfl) d126_6 (fun vv h1 z1 H locs hR I9 => ?_)
  clear I
  obtain ⟨rfl, rfl, rfl⟩ := hR
  have I := I9
  clear I9
  refine W.eq (g2 := F0 m 9 ls [.int (nI i)]) rfl ?_
  refine lv_pop hx hb d126_9 rfl ?_
  exact ht_vret X d126_10 I (Nat.le_of_ble_eq_true rfl) (Nat.le_of_ble_eq_true rfl) (⟨rfl, rfl, rfl⟩)

set_option maxRecDepth 100000 in
set_option maxHeartbeats 8000000 in
theorem c_ckBR (l : Launch) (D : va_G) (dA : Nat → ClassId) (s0 : State) (hE : ms_EV D dA s0) (i : Nat) (j : Nat) (n : Nat) (q : Nat) (hij : i ≤ j) (hjn : j ≤ n) (hn : n < 2 ^ 31) (hZf : ∀ B : Nat → Prop, (∀ q, B q → s0.heap.size ≤ q) → va_Z "jdk/internal/util/Preconditions" "SIOOBE_FORMATTER" "Ljava/util/function/BiFunction;" (.ref q) B s0 s0.heap) : ht_C l D s0 yM126 bM126 3 (Option.none : Option Jvm.ClassFile.FieldType) 1 23 0 0 [.int (nI i), .int (nI j), .int (nI n)] (fun h z => True) (fun h z vv h1 z1 => vv = none ∧ h1 = h ∧ z1 = z) := by
  refine ht_C.mk hE.1 (by decide) (Nat.le_of_ble_eq_true rfl) [(0, .int (nI i)), (1, .int (nI j)), (2, .int (nI n))] rfl ?_
  intro p e s m below meth c ls h z X hin hpre I hl
  have hx := X.1
  have hb := X.2.1
  have hml := X.2.2.1
  have hown : s.vm.findClass "java/lang/String" = some m.cls := X.2.2.2.1
  have hts := X.2.2.2.2.2.2.1
  have hK := X.2.2.2.2.2.2.2.2.1
  have FR : ∀ (b : Nat) (e : va_E), h b = some e → h b = some e := fun _ _ q => q
  refine lv_iload_n hx hb d126_0 rfl (lv_at hl 0 rfl) ?_
  refine lv_iload_n hx hb d126_1 rfl (lv_at hl 1 rfl) ?_
  refine lv_iload_n hx hb d126_2 rfl (lv_at hl 2 rfl) ?_
  refine va_gets (own := "java/lang/String") hx hb (ms_z hZf X) I.2.2.1 hown (hts _ ms_k205) (fun _ h => h) d126_3 ?_
  refine ht_S (rest := []) (as := [.int (nI i), .int (nI j), .int (nI n), .ref q]) X hl (c_pcFTR l D dA s0 hE i j n q (hij) (hjn) (hn)) (List.forall_mem_cons.mpr ⟨ms_k558, List.forall_mem_cons.mpr ⟨ms_k559, List.forall_mem_cons.mpr ⟨ms_k13, List.forall_mem_cons.mpr ⟨ms_k560, fun _ h => absurd h List.not_mem_nil⟩⟩⟩⟩) ⟨by decide +kernel, by decide +kernel, (by decide +kernel : (parseMethodDescriptor "(IIILjava/util/function/BiFunction;)I").map (fun d => d.parameters.length) = some 4)⟩ I (trivial) ⟨⟨Nat.le_of_ble_eq_true rfl, Nat.le_of_ble_eq_true rfl⟩, Nat.le_of_ble_eq_true rfl, Nat.le_of_ble_eq_true rfl⟩ rfl (Nat.le_of_ble_eq_true rfl) d126_6 (fun vv h1 z1 H locs hR I9 => ?_)
  clear I
  obtain ⟨rfl, rfl, rfl⟩ := hR
  have I := I9
  clear I9
  refine W.eq (g2 := F0 m 9 ls [.int (nI i)]) rfl ?_
  refine lv_pop hx hb d126_9 rfl ?_
  exact ht_vret X d126_10 I (Nat.le_of_ble_eq_true rfl) (Nat.le_of_ble_eq_true rfl) (⟨rfl, rfl, rfl⟩)

theorem c_ckB (l : Launch) (D : va_G) (dA : Nat → ClassId) (s0 : State) (hE : ms_EV D dA s0) (i j n : Nat) (hij : i ≤ j) (hjn : j ≤ n) (hn : n < 2 ^ 31) : ht_C l D s0 yM126 bM126 3 (Option.none : Option Jvm.ClassFile.FieldType) 1 23 0 0 [.int (nI i), .int (nI j), .int (nI n)] (fun _ _ => True) (fun h z vv h1 z1 => vv = none ∧ h1 = h ∧ z1 = z) := by
  rcases hE.2.2.2.2.2.1 with hZf | ⟨q, hZf⟩
  · exact c_ckBN l D dA s0 hE i j n hij hjn hn hZf
  · exact c_ckBR l D dA s0 hE i j n q hij hjn hn hZf

set_option maxRecDepth 100000 in
set_option maxHeartbeats 8000000 in
theorem c_Ssub (l : Launch) (D : va_G) (dA : Nat → ClassId) (s0 : State) (hE : ms_EV D dA s0) (t : Nat) (u : Nat) (xs : List Nat) (i : Nat) (j : Nat) (hij : i ≤ j) (hjx : j ≤ xs.length) (hxl : xs.length ≤ 142) (hc : ∀ c ∈ xs, c < 128) : ht_C l D s0 yM127 bM127 5 (Option.some (Jvm.ClassFile.FieldType.object "java/lang/String")) 4 168 2 146 [.ref t, .int (nI i), .int (nI j)] (fun h z => z t = some (u, xs)) (fun h z vv h1 z1 => (∃ t1 u1 : Nat, vv = some (.ref t1) ∧ z1 t1 = some (u1, (xs.drop i).take (j - i))) ∧ (∀ (b : Nat) (e : va_E), h b = some e → h1 b = some e) ∧ (∀ (b : Nat) (e : Nat × List Nat), z b = some e → z1 b = some e)) := by
  refine ht_C.mk hE.1 (by decide) (Nat.le_of_ble_eq_true rfl) [(0, .ref t), (1, .int (nI i)), (2, .int (nI j))] rfl ?_
  intro p e s m below meth c ls h z X hin hpre I hl
  have hx := X.1
  have hb := X.2.1
  have hml := X.2.2.1
  have hown : s.vm.findClass "java/lang/String" = some m.cls := X.2.2.2.1
  have hts := X.2.2.2.2.2.2.1
  have hK := X.2.2.2.2.2.2.2.2.1
  have hz := hpre
  have FR : ∀ (b : Nat) (e : va_E), h b = some e → h b = some e := fun _ _ q => q
  refine lv_aload_n hx hb d127_0 rfl (lv_at hl 0 rfl) ?_
  refine ht_V (C := "java/lang/String") (rest := []) (as := []) X hl (c_Slen l D dA s0 hE t u xs) (List.forall_mem_cons.mpr ⟨ms_k554, List.forall_mem_cons.mpr ⟨ms_k391, List.forall_mem_cons.mpr ⟨ms_k392, List.forall_mem_cons.mpr ⟨ms_k4, List.forall_mem_cons.mpr ⟨ms_k393, fun _ h => absurd h List.not_mem_nil⟩⟩⟩⟩⟩) ⟨rfl, by decide +kernel, by decide +kernel, (by decide +kernel : (parseMethodDescriptor "()I").map (fun d => d.parameters.length) = some 0)⟩ (hz_recv I hz) I (hz) ⟨⟨Nat.le_of_ble_eq_true rfl, Nat.le_of_ble_eq_true rfl⟩, Nat.le_of_ble_eq_true rfl, Nat.le_of_ble_eq_true rfl⟩ rfl (Nat.le_of_ble_eq_true rfl) d127_1 (fun vv h1 z1 H locs hR I9 => ?_)
  clear I
  obtain ⟨rfl, rfl, rfl⟩ := hR
  have I := I9
  clear I9
  refine W.eq (g2 := F0 m 4 ls [.int (nI xs.length)]) rfl ?_
  refine lv_istore_n hx hb d127_4 rfl hl (by decide) rfl (fun ls hl => ?_)
  have hl : lv_has ls 5 [(3, .int (nI xs.length)), (0, .ref t), (1, .int (nI i)), (2, .int (nI j))] := hl
  refine lv_iload_n hx hb d127_5 rfl (lv_at hl 2 rfl) ?_
  refine lv_iload_n hx hb d127_6 rfl (lv_at hl 3 rfl) ?_
  refine lv_iload_n hx hb d127_7 rfl (lv_at hl 0 rfl) ?_
  refine ht_S (rest := []) (as := [.int (nI i), .int (nI j), .int (nI xs.length)]) X hl (c_ckB l D dA s0 hE i j xs.length (hij) (hjx) (by omega)) (List.forall_mem_cons.mpr ⟨ms_k555, List.forall_mem_cons.mpr ⟨ms_k556, List.forall_mem_cons.mpr ⟨ms_k4, List.forall_mem_cons.mpr ⟨ms_k557, fun _ h => absurd h List.not_mem_nil⟩⟩⟩⟩) ⟨by decide +kernel, by decide +kernel, (by decide +kernel : (parseMethodDescriptor "(III)V").map (fun d => d.parameters.length) = some 3)⟩ I (trivial) ⟨⟨Nat.le_of_ble_eq_true rfl, Nat.le_of_ble_eq_true rfl⟩, Nat.le_of_ble_eq_true rfl, Nat.le_of_ble_eq_true rfl⟩ rfl (Nat.le_of_ble_eq_true rfl) d127_8 (fun vv h1 z1 H locs hR I9 => ?_)
  clear I
  obtain ⟨rfl, rfl, rfl⟩ := hR
  have I := I9
  clear I9
  refine W.eq (g2 := F0 m 11 ls []) rfl ?_
  refine lv_iload_n hx hb d127_11 rfl (lv_at hl 2 rfl) ?_
  refine lv_if_ne hx hb d127_12 rfl (fun g1 => ?_) (fun g1 => ?_)
  · refine lv_iload_n hx hb d127_22 rfl (lv_at hl 3 rfl) ?_
    refine lv_iload_n hx hb d127_23 rfl (lv_at hl 2 rfl) ?_
    refine lv_isub hx hb d127_24 ?_
    refine ms_top (y := (nI (j - i))) (pk_sub hij) ?_
    refine lv_istore hx hb d127_25 hl (by decide) rfl (fun ls hl => ?_)
    have hl : lv_has ls 5 [(4, .int (nI (j - i))), (3, .int (nI xs.length)), (0, .ref t), (1, .int (nI i)), (2, .int (nI j))] := hl
    refine lv_aload_n hx hb d127_27 rfl (lv_at hl 2 rfl) ?_
    refine ht_V (C := "java/lang/String") (rest := []) (as := []) X hl (c_SisLat l D dA s0 hE t u xs) (List.forall_mem_cons.mpr ⟨ms_k402, List.forall_mem_cons.mpr ⟨ms_k403, List.forall_mem_cons.mpr ⟨ms_k404, List.forall_mem_cons.mpr ⟨ms_k4, List.forall_mem_cons.mpr ⟨ms_k405, fun _ h => absurd h List.not_mem_nil⟩⟩⟩⟩⟩) ⟨rfl, by decide +kernel, by decide +kernel, (by decide +kernel : (parseMethodDescriptor "()Z").map (fun d => d.parameters.length) = some 0)⟩ (hz_recv I hz) I (hz) ⟨⟨Nat.le_of_ble_eq_true rfl, Nat.le_of_ble_eq_true rfl⟩, Nat.le_of_ble_eq_true rfl, Nat.le_of_ble_eq_true rfl⟩ rfl (Nat.le_of_ble_eq_true rfl) d127_28 (fun vv h1 z1 H locs hR I9 => ?_)
    clear I
    obtain ⟨rfl, rfl, rfl⟩ := hR
    have I := I9
    clear I9
    refine W.eq (g2 := F0 m 31 ls [.int 1]) rfl ?_
    refine lv_if_eq hx hb d127_31 rfl (fun h9 => absurd h9 (by decide)) (fun _ => ?_)
    refine lv_aload_n hx hb d127_34 rfl (lv_at hl 2 rfl) ?_
    refine hz_val X I hz ms_k284 d127_35 ?_
    refine lv_iload_n hx hb d127_38 rfl (lv_at hl 3 rfl) ?_
    refine lv_iload hx hb d127_39 (lv_at hl 0 rfl) ?_
    refine ht_S (rest := []) (as := [.ref u, .int (nI i), .int (nI (j - i))]) X hl (c_newStr l D dA s0 hE t u xs i j (hij) (hjx) (hxl) (hc) (fun q9 => g1 (by rw [q9.1]; rfl))) (List.forall_mem_cons.mpr ⟨ms_k561, List.forall_mem_cons.mpr ⟨ms_k562, List.forall_mem_cons.mpr ⟨ms_k12, List.forall_mem_cons.mpr ⟨ms_k563, fun _ h => absurd h List.not_mem_nil⟩⟩⟩⟩) ⟨by decide +kernel, by decide +kernel, (by decide +kernel : (parseMethodDescriptor "([BII)Ljava/lang/String;").map (fun d => d.parameters.length) = some 3)⟩ I (hz) ⟨⟨Nat.le_of_ble_eq_true rfl, Nat.le_of_ble_eq_true rfl⟩, Nat.le_of_ble_eq_true rfl, Nat.le_of_ble_eq_true rfl⟩ rfl (Nat.le_of_ble_eq_true rfl) d127_41 (fun vv h1 z1 H locs hR I9 => ?_)
    clear I
    obtain ⟨⟨t1, u1, rfl, z5⟩, hk9, hz9⟩ := hR
    have I := I9
    clear I9
    refine W.eq (g2 := F0 m 44 ls [.ref t1]) rfl ?_
    refine lv_goto hx hb d127_44 rfl ?_
    exact ht_aret X d127_57 I (Nat.le_of_ble_eq_true rfl) (Nat.le_of_ble_eq_true rfl) (⟨⟨_, _, rfl, z5⟩, hk9, hz9⟩) (Or.inl ⟨_, rfl⟩) (Or.inr ⟨_, rfl⟩)
  · refine lv_iload_n hx hb d127_15 rfl (lv_at hl 3 rfl) ?_
    refine lv_iload_n hx hb d127_16 rfl (lv_at hl 0 rfl) ?_
    refine lv_icmp_ne hx hb d127_17 rfl (fun g2 => ?_) (fun g2 => ?_)
    · refine lv_iload_n hx hb d127_22 rfl (lv_at hl 3 rfl) ?_
      refine lv_iload_n hx hb d127_23 rfl (lv_at hl 2 rfl) ?_
      refine lv_isub hx hb d127_24 ?_
      refine ms_top (y := (nI (j - i))) (pk_sub hij) ?_
      refine lv_istore hx hb d127_25 hl (by decide) rfl (fun ls hl => ?_)
      have hl : lv_has ls 5 [(4, .int (nI (j - i))), (3, .int (nI xs.length)), (0, .ref t), (1, .int (nI i)), (2, .int (nI j))] := hl
      refine lv_aload_n hx hb d127_27 rfl (lv_at hl 2 rfl) ?_
      refine ht_V (C := "java/lang/String") (rest := []) (as := []) X hl (c_SisLat l D dA s0 hE t u xs) (List.forall_mem_cons.mpr ⟨ms_k402, List.forall_mem_cons.mpr ⟨ms_k403, List.forall_mem_cons.mpr ⟨ms_k404, List.forall_mem_cons.mpr ⟨ms_k4, List.forall_mem_cons.mpr ⟨ms_k405, fun _ h => absurd h List.not_mem_nil⟩⟩⟩⟩⟩) ⟨rfl, by decide +kernel, by decide +kernel, (by decide +kernel : (parseMethodDescriptor "()Z").map (fun d => d.parameters.length) = some 0)⟩ (hz_recv I hz) I (hz) ⟨⟨Nat.le_of_ble_eq_true rfl, Nat.le_of_ble_eq_true rfl⟩, Nat.le_of_ble_eq_true rfl, Nat.le_of_ble_eq_true rfl⟩ rfl (Nat.le_of_ble_eq_true rfl) d127_28 (fun vv h1 z1 H locs hR I9 => ?_)
      clear I
      obtain ⟨rfl, rfl, rfl⟩ := hR
      have I := I9
      clear I9
      refine W.eq (g2 := F0 m 31 ls [.int 1]) rfl ?_
      refine lv_if_eq hx hb d127_31 rfl (fun h9 => absurd h9 (by decide)) (fun _ => ?_)
      refine lv_aload_n hx hb d127_34 rfl (lv_at hl 2 rfl) ?_
      refine hz_val X I hz ms_k284 d127_35 ?_
      refine lv_iload_n hx hb d127_38 rfl (lv_at hl 3 rfl) ?_
      refine lv_iload hx hb d127_39 (lv_at hl 0 rfl) ?_
      refine ht_S (rest := []) (as := [.ref u, .int (nI i), .int (nI (j - i))]) X hl (c_newStr l D dA s0 hE t u xs i j (hij) (hjx) (hxl) (hc) (fun q9 => g2 (by rw [q9.2]))) (List.forall_mem_cons.mpr ⟨ms_k561, List.forall_mem_cons.mpr ⟨ms_k562, List.forall_mem_cons.mpr ⟨ms_k12, List.forall_mem_cons.mpr ⟨ms_k563, fun _ h => absurd h List.not_mem_nil⟩⟩⟩⟩) ⟨by decide +kernel, by decide +kernel, (by decide +kernel : (parseMethodDescriptor "([BII)Ljava/lang/String;").map (fun d => d.parameters.length) = some 3)⟩ I (hz) ⟨⟨Nat.le_of_ble_eq_true rfl, Nat.le_of_ble_eq_true rfl⟩, Nat.le_of_ble_eq_true rfl, Nat.le_of_ble_eq_true rfl⟩ rfl (Nat.le_of_ble_eq_true rfl) d127_41 (fun vv h1 z1 H locs hR I9 => ?_)
      clear I
      obtain ⟨⟨t1, u1, rfl, z5⟩, hk9, hz9⟩ := hR
      have I := I9
      clear I9
      refine W.eq (g2 := F0 m 44 ls [.ref t1]) rfl ?_
      refine lv_goto hx hb d127_44 rfl ?_
      exact ht_aret X d127_57 I (Nat.le_of_ble_eq_true rfl) (Nat.le_of_ble_eq_true rfl) (⟨⟨_, _, rfl, z5⟩, hk9, hz9⟩) (Or.inl ⟨_, rfl⟩) (Or.inr ⟨_, rfl⟩)
    · refine lv_aload_n hx hb d127_20 rfl (lv_at hl 1 rfl) ?_
      exact ht_aret X d127_21 I (Nat.le_of_ble_eq_true rfl) (Nat.le_of_ble_eq_true rfl) (⟨⟨_, _, rfl, by rw [tx_whole ((nI_eq (b := 0) (by omega) (by omega)).mp g1) ((nI_eq (by omega) (by omega)).mp g2)]; exact hz⟩, fun _ _ q => q, fun _ _ q => q⟩) (Or.inl ⟨_, rfl⟩) (Or.inr ⟨_, rfl⟩)
