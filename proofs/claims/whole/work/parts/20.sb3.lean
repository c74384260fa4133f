theorem ms_k811 : (Jvm.Cond.methodLink "java/lang/StringBuilder" (29 : Nat) ({ cls := "java/lang/AbstractStringBuilder", name := "append", desc := "(Ljava/lang/String;)Ljava/lang/AbstractStringBuilder;" } : Jvm.MethodName)) ∈ ms_tb := ms_i4 91 (by decide +kernel) (by decide +kernel)
theorem ms_k812 : (Jvm.Cond.instanceMethod ({ cls := "java/lang/AbstractStringBuilder", name := "append", desc := "(Ljava/lang/String;)Ljava/lang/AbstractStringBuilder;" } : Jvm.MethodName)) ∈ ms_tb := ms_i4 92 (by decide +kernel) (by decide +kernel)
theorem ms_k813 : (Jvm.Cond.code ({ cls := "java/lang/AbstractStringBuilder", name := "append", desc := "(Ljava/lang/String;)Ljava/lang/AbstractStringBuilder;" } : Jvm.MethodName) prog_16_method_22_code (3 : Nat) (Option.some (Jvm.ClassFile.FieldType.object "java/lang/AbstractStringBuilder"))) ∈ ms_tb := ms_i4 93 (by decide +kernel) (by decide +kernel)
theorem ms_k825 : (Jvm.Cond.methodLink "java/lang/AbstractStringBuilder" (32 : Nat) ({ cls := "java/lang/String", name := "length", desc := "()I" } : Jvm.MethodName)) ∈ ms_tb := ms_i4 105 (by decide +kernel) (by decide +kernel)
theorem ms_k826 : (Jvm.Cond.methodLink "java/lang/AbstractStringBuilder" (208 : Nat) ({ cls := "java/lang/AbstractStringBuilder", name := "putStringAt", desc := "(ILjava/lang/String;)V" } : Jvm.MethodName)) ∈ ms_tb := ms_i4 106 (by decide +kernel) (by decide +kernel)
theorem ms_k828 : (Jvm.Cond.instanceMethod ({ cls := "java/lang/AbstractStringBuilder", name := "putStringAt", desc := "(ILjava/lang/String;)V" } : Jvm.MethodName)) ∈ ms_tb := ms_i4 108 (by decide +kernel) (by decide +kernel)
theorem ms_k829 : (Jvm.Cond.code ({ cls := "java/lang/AbstractStringBuilder", name := "putStringAt", desc := "(ILjava/lang/String;)V" } : Jvm.MethodName) prog_16_method_73_code (3 : Nat) (Option.none : Option Jvm.ClassFile.FieldType)) ∈ ms_tb := ms_i4 109 (by decide +kernel) (by decide +kernel)
theorem ms_k830 : (Jvm.Cond.methodLink "java/lang/AbstractStringBuilder" (397 : Nat) ({ cls := "java/lang/AbstractStringBuilder", name := "inflateIfNeededFor", desc := "(Ljava/lang/String;)V" } : Jvm.MethodName)) ∈ ms_tb := ms_i4 110 (by decide +kernel) (by decide +kernel)
theorem ms_k832 : (Jvm.Cond.instanceMethod ({ cls := "java/lang/AbstractStringBuilder", name := "inflateIfNeededFor", desc := "(Ljava/lang/String;)V" } : Jvm.MethodName)) ∈ ms_tb := ms_i4 112 (by decide +kernel) (by decide +kernel)
theorem ms_k833 : (Jvm.Cond.code ({ cls := "java/lang/AbstractStringBuilder", name := "inflateIfNeededFor", desc := "(Ljava/lang/String;)V" } : Jvm.MethodName) prog_16_method_71_code (2 : Nat) (Option.none : Option Jvm.ClassFile.FieldType)) ∈ ms_tb := ms_i4 113 (by decide +kernel) (by decide +kernel)
theorem ms_k834 : (Jvm.Cond.methodLink "java/lang/AbstractStringBuilder" (40 : Nat) ({ cls := "java/lang/String", name := "coder", desc := "()B" } : Jvm.MethodName)) ∈ ms_tb := ms_i4 114 (by decide +kernel) (by decide +kernel)
theorem ms_k835 : (Jvm.Cond.methodLink "java/lang/AbstractStringBuilder" (399 : Nat) ({ cls := "java/lang/String", name := "getBytes", desc := "([BIB)V" } : Jvm.MethodName)) ∈ ms_tb := ms_i4 115 (by decide +kernel) (by decide +kernel)
theorem ms_k836 : (Jvm.Cond.instanceMethod ({ cls := "java/lang/String", name := "getBytes", desc := "([BIB)V" } : Jvm.MethodName)) ∈ ms_tb := ms_i4 116 (by decide +kernel) (by decide +kernel)
theorem ms_k837 : (Jvm.Cond.selects "java/lang/String" ({ cls := "java/lang/String", name := "getBytes", desc := "([BIB)V" } : Jvm.MethodName) ({ cls := "java/lang/String", name := "getBytes", desc := "([BIB)V" } : Jvm.MethodName)) ∈ ms_tb := ms_i4 117 (by decide +kernel) (by decide +kernel)
theorem ms_k838 : (Jvm.Cond.code ({ cls := "java/lang/String", name := "getBytes", desc := "([BIB)V" } : Jvm.MethodName) prog_23_method_147_code (4 : Nat) (Option.none : Option Jvm.ClassFile.FieldType)) ∈ ms_tb := ms_i4 118 (by decide +kernel) (by decide +kernel)
theorem ms_k839 : (Jvm.Cond.methodLink "java/lang/String" (212 : Nat) ({ cls := "java/lang/System", name := "arraycopy", desc := "(Ljava/lang/Object;ILjava/lang/Object;II)V" } : Jvm.MethodName)) ∈ ms_tb := ms_i4 119 (by decide +kernel) (by decide +kernel)
theorem ms_k1845 : (Jvm.Cond.sameMethod "java/lang/AbstractStringBuilder" "java/lang/AbstractStringBuilder" "append" "(Ljava/lang/String;)Ljava/lang/AbstractStringBuilder;") ∈ ms_tb := ms_i8 165 (by decide +kernel) (by decide +kernel)
theorem ms_k1847 : (Jvm.Cond.sameMethod "java/lang/AbstractStringBuilder" "java/lang/AbstractStringBuilder" "putStringAt" "(ILjava/lang/String;)V") ∈ ms_tb := ms_i8 167 (by decide +kernel) (by decide +kernel)
theorem ms_k1848 : (Jvm.Cond.sameMethod "java/lang/AbstractStringBuilder" "java/lang/AbstractStringBuilder" "inflateIfNeededFor" "(Ljava/lang/String;)V") ∈ ms_tb := ms_i8 168 (by decide +kernel) (by decide +kernel)
abbrev bM128 : ByteArray := prog_23_method_147_code
def yM128 : MethodName := ⟨"java/lang/String", "getBytes", "([BIB)V"⟩
abbrev bM129 : ByteArray := prog_16_method_71_code
def yM129 : MethodName := ⟨"java/lang/AbstractStringBuilder", "inflateIfNeededFor", "(Ljava/lang/String;)V"⟩
abbrev bM130 : ByteArray := prog_16_method_73_code
def yM130 : MethodName := ⟨"java/lang/AbstractStringBuilder", "putStringAt", "(ILjava/lang/String;)V"⟩
abbrev bM131 : ByteArray := prog_16_method_22_code
def yM131 : MethodName := ⟨"java/lang/AbstractStringBuilder", "append", "(Ljava/lang/String;)Ljava/lang/AbstractStringBuilder;"⟩
abbrev bM132 : ByteArray := prog_24_method_7_code
def yM132 : MethodName := ⟨"java/lang/StringBuilder", "append", "(Ljava/lang/String;)Ljava/lang/StringBuilder;"⟩
theorem d128_0 : decode bM128 0 = .ok (.aload_n 0, 1) := by decide +kernel
theorem d128_1 : decode bM128 1 = .ok (.invokevirtual 335, 3) := by decide +kernel
theorem d128_4 : decode bM128 4 = .ok (.iload_n 3, 1) := by decide +kernel
theorem d128_5 : decode bM128 5 = .ok (.if_icmp .ne 23, 3) := by decide +kernel
theorem d128_8 : decode bM128 8 = .ok (.aload_n 0, 1) := by decide +kernel
theorem d128_9 : decode bM128 9 = .ok (.getfield 9, 3) := by decide +kernel
theorem d128_12 : decode bM128 12 = .ok (.iconst 0, 1) := by decide +kernel
theorem d128_13 : decode bM128 13 = .ok (.aload_n 1, 1) := by decide +kernel
theorem d128_14 : decode bM128 14 = .ok (.iload_n 2, 1) := by decide +kernel
theorem d128_15 : decode bM128 15 = .ok (.iload_n 3, 1) := by decide +kernel
theorem d128_16 : decode bM128 16 = .ok (.ishl, 1) := by decide +kernel
theorem d128_17 : decode bM128 17 = .ok (.aload_n 0, 1) := by decide +kernel
theorem d128_18 : decode bM128 18 = .ok (.getfield 9, 3) := by decide +kernel
theorem d128_21 : decode bM128 21 = .ok (.arraylength, 1) := by decide +kernel
theorem d128_22 : decode bM128 22 = .ok (.invokestatic 212, 3) := by decide +kernel
theorem d128_25 : decode bM128 25 = .ok (.goto 18, 3) := by decide +kernel
theorem d128_43 : decode bM128 43 = .ok (.return_, 1) := by decide +kernel
theorem d129_0 : decode bM129 0 = .ok (.getstatic 18, 3) := by decide +kernel
theorem d129_3 : decode bM129 3 = .ok (.ifCond .eq 18, 3) := by decide +kernel
theorem d129_6 : decode bM129 6 = .ok (.aload_n 0, 1) := by decide +kernel
theorem d129_7 : decode bM129 7 = .ok (.getfield 22, 3) := by decide +kernel
theorem d129_10 : decode bM129 10 = .ok (.aload_n 1, 1) := by decide +kernel
theorem d129_11 : decode bM129 11 = .ok (.invokevirtual 40, 3) := by decide +kernel
theorem d129_14 : decode bM129 14 = .ok (.if_icmp .eq 7, 3) := by decide +kernel
theorem d129_21 : decode bM129 21 = .ok (.return_, 1) := by decide +kernel
theorem d130_0 : decode bM130 0 = .ok (.aload_n 0, 1) := by decide +kernel
theorem d130_1 : decode bM130 1 = .ok (.aload_n 2, 1) := by decide +kernel
theorem d130_2 : decode bM130 2 = .ok (.invokevirtual 397, 3) := by decide +kernel
theorem d130_5 : decode bM130 5 = .ok (.aload_n 2, 1) := by decide +kernel
theorem d130_6 : decode bM130 6 = .ok (.aload_n 0, 1) := by decide +kernel
theorem d130_7 : decode bM130 7 = .ok (.getfield 15, 3) := by decide +kernel
theorem d130_10 : decode bM130 10 = .ok (.iload_n 1, 1) := by decide +kernel
theorem d130_11 : decode bM130 11 = .ok (.aload_n 0, 1) := by decide +kernel
theorem d130_12 : decode bM130 12 = .ok (.getfield 22, 3) := by decide +kernel
theorem d130_15 : decode bM130 15 = .ok (.invokevirtual 399, 3) := by decide +kernel
theorem d130_18 : decode bM130 18 = .ok (.return_, 1) := by decide +kernel
theorem d131_0 : decode bM131 0 = .ok (.aload_n 1, 1) := by decide +kernel
theorem d131_1 : decode bM131 1 = .ok (.ifnonnull 8, 3) := by decide +kernel
theorem d131_9 : decode bM131 9 = .ok (.aload_n 1, 1) := by decide +kernel
theorem d131_10 : decode bM131 10 = .ok (.invokevirtual 32, 3) := by decide +kernel
theorem d131_13 : decode bM131 13 = .ok (.istore_n 2, 1) := by decide +kernel
theorem d131_14 : decode bM131 14 = .ok (.aload_n 0, 1) := by decide +kernel
theorem d131_15 : decode bM131 15 = .ok (.aload_n 0, 1) := by decide +kernel
theorem d131_16 : decode bM131 16 = .ok (.getfield 79, 3) := by decide +kernel
theorem d131_19 : decode bM131 19 = .ok (.iload_n 2, 1) := by decide +kernel
theorem d131_20 : decode bM131 20 = .ok (.iadd, 1) := by decide +kernel
theorem d131_21 : decode bM131 21 = .ok (.invokevirtual 100, 3) := by decide +kernel
theorem d131_24 : decode bM131 24 = .ok (.aload_n 0, 1) := by decide +kernel
theorem d131_25 : decode bM131 25 = .ok (.aload_n 0, 1) := by decide +kernel
theorem d131_26 : decode bM131 26 = .ok (.getfield 79, 3) := by decide +kernel
theorem d131_29 : decode bM131 29 = .ok (.aload_n 1, 1) := by decide +kernel
theorem d131_30 : decode bM131 30 = .ok (.invokevirtual 208, 3) := by decide +kernel
theorem d131_33 : decode bM131 33 = .ok (.aload_n 0, 1) := by decide +kernel
theorem d131_34 : decode bM131 34 = .ok (.dup, 1) := by decide +kernel
theorem d131_35 : decode bM131 35 = .ok (.getfield 79, 3) := by decide +kernel
theorem d131_38 : decode bM131 38 = .ok (.iload_n 2, 1) := by decide +kernel
theorem d131_39 : decode bM131 39 = .ok (.iadd, 1) := by decide +kernel
theorem d131_40 : decode bM131 40 = .ok (.putfield 79, 3) := by decide +kernel
theorem d131_43 : decode bM131 43 = .ok (.aload_n 0, 1) := by decide +kernel
theorem d131_44 : decode bM131 44 = .ok (.areturn, 1) := by decide +kernel
theorem d132_0 : decode bM132 0 = .ok (.aload_n 0, 1) := by decide +kernel
theorem d132_1 : decode bM132 1 = .ok (.aload_n 1, 1) := by decide +kernel
theorem d132_2 : decode bM132 2 = .ok (.invokespecial 29, 3) := by decide +kernel
theorem d132_5 : decode bM132 5 = .ok (.pop, 1) := by decide +kernel
theorem d132_6 : decode bM132 6 = .ok (.aload_n 0, 1) := by decide +kernel
theorem d132_7 : decode bM132 7 = .ok (.areturn, 1) := by decide +kernel
theorem tx_fit {xs : List Nat} (hc : ∀ c ∈ xs, c < 128) : sb_Fit (fun j => nI (xs.getD j 0)) := fun i => by
  show fits .byte (.int (nI (xs.getD i 0))) = true
  rw [← tx_i2b (tx_get hc i)]
  exact pk_fb _
theorem hm_old {h h1 : hm_T} {a v u : Nat} {e1 e2 x1 x2 : va_E} (hu : (∃ (j : Nat) (e : va_E), ([(a, e1), (v, e2)] : va_W)[j]? = some (u, e)) ∨ h u = none) (c1 : h1 a = some x1) (c2 : h1 u = some x2) (ht : Nat.beq (hm_tag x1) (hm_tag x2) = false) : u = v ∨ h u = none := by
  rcases hu with ⟨j, e, hj⟩ | h0
  · rcases j with _ | _ | j
    · cases hj
      exact absurd rfl (hm_ne c1 c2 ht)
    · cases hj
      exact Or.inl rfl
    · simp at hj
  · exact Or.inr h0

set_option maxRecDepth 100000 in
set_option maxHeartbeats 8000000 in
theorem c_SgetB (l : Launch) (D : va_G) (dA : Nat → ClassId) (s0 : State) (hE : ms_EV D dA s0) (t : Nat) (u : Nat) (xs : List Nat) (v : Nat) (k : Nat) (n : Nat) (f : Nat → Int32) (hkn : k + xs.length ≤ n) (hn : n ≤ 142) (hc : ∀ c ∈ xs, c < 128) : ht_C l D s0 yM128 bM128 4 (Option.none : Option Jvm.ClassFile.FieldType) 1 100 0 0 [.ref t, .ref v, .int (nI k), .int 0] (fun h z => z t = some (u, xs) ∧ h v = some (.inl (dA 2, n, .inl f))) (fun h z vv h1 z1 => vv = none ∧ z1 = z ∧ h1 v = some (.inl (dA 2, n, .inl (va_cpy (fun j => nI (xs.getD j 0)) f 0 k xs.length))) ∧ (∀ (b : Nat) (e : va_E), h b = some e → b ≠ v → h1 b = some e)) := by
  refine ht_C.mk hE.1 (by decide) (Nat.le_of_ble_eq_true rfl) [(0, .ref t), (1, .ref v), (2, .int (nI k)), (3, .int 0)] rfl ?_
  intro p e s m below meth c ls h z X hin hpre I hl
  have hx := X.1
  have hb := X.2.1
  have hml := X.2.2.1
  have hown : s.vm.findClass "java/lang/String" = some m.cls := X.2.2.2.1
  have hts := X.2.2.2.2.2.2.1
  have hK := X.2.2.2.2.2.2.2.2.1
  obtain ⟨hz, c2⟩ := hpre
  have FR : ∀ (b : Nat) (e : va_E), h b = some e → h b = some e := fun _ _ q => q
  refine lv_aload_n hx hb d128_0 rfl (lv_at hl 0 rfl) ?_
  refine ht_V (C := "java/lang/String") (rest := []) (as := []) X hl (c_Scoder l D dA s0 hE t u xs) (List.forall_mem_cons.mpr ⟨ms_k394, List.forall_mem_cons.mpr ⟨ms_k395, List.forall_mem_cons.mpr ⟨ms_k396, List.forall_mem_cons.mpr ⟨ms_k4, List.forall_mem_cons.mpr ⟨ms_k397, fun _ h => absurd h List.not_mem_nil⟩⟩⟩⟩⟩) ⟨rfl, by decide +kernel, by decide +kernel, (by decide +kernel : (parseMethodDescriptor "()B").map (fun d => d.parameters.length) = some 0)⟩ (hz_recv I hz) I (hz) ⟨⟨Nat.le_of_ble_eq_true rfl, Nat.le_of_ble_eq_true rfl⟩, Nat.le_of_ble_eq_true rfl, Nat.le_of_ble_eq_true rfl⟩ rfl (Nat.le_of_ble_eq_true rfl) d128_1 (fun vv h1 z1 H locs hR I9 => ?_)
  clear I
  obtain ⟨rfl, rfl, rfl⟩ := hR
  have I := I9
  clear I9
  refine W.eq (g2 := F0 m 4 ls [.int 0]) rfl ?_
  refine lv_iload_n hx hb d128_4 rfl (lv_at hl 3 rfl) ?_
  refine lv_icmp_ne hx hb d128_5 rfl (fun h9 => absurd (by decide) h9) (fun _ => ?_)
  refine lv_aload_n hx hb d128_8 rfl (lv_at hl 0 rfl) ?_
  refine hz_val X I hz ms_k284 d128_9 ?_
  refine lv_iconst (v := 0) hx hb d128_12 (by decide) ?_
  refine lv_aload_n hx hb d128_13 rfl (lv_at hl 1 rfl) ?_
  refine lv_iload_n hx hb d128_14 rfl (lv_at hl 2 rfl) ?_
  refine lv_iload_n hx hb d128_15 rfl (lv_at hl 3 rfl) ?_
  refine lv_ishl hx hb d128_16 ?_
  refine ms_top (y := (nI k)) (sb_shl0 _) ?_
  refine lv_aload_n hx hb d128_17 rfl (lv_at hl 0 rfl) ?_
  refine hz_val X I hz ms_k284 d128_18 ?_
  refine hz_len X I hz d128_21 ?_
  refine hz_copy (sp := 0) (dp := k) (n := xs.length) X hl.1 I (List.forall_mem_cons.mpr ⟨ms_k839, List.forall_mem_cons.mpr ⟨ms_k177, List.forall_mem_cons.mpr ⟨ms_k176, List.forall_mem_cons.mpr ⟨ms_k11, fun _ h => absurd h List.not_mem_nil⟩⟩⟩⟩) hz c2 2 rfl (by omega) (by omega) (by omega) (by omega) hc (Nat.le_of_ble_eq_true rfl) (Nat.le_of_ble_eq_true (by decide +kernel)) d128_22 (fun h H locs e9 f9 I => ?_)
  have FR := fun b e hb (n0 : b ≠ v) => (f9 b n0).trans (FR b e hb )
  have c2 : h v = some (.inl (dA 2, n, .inl (va_cpy (fun j => nI (xs.getD j 0)) f 0 k xs.length))) := e9
  refine lv_goto hx hb d128_25 rfl ?_
  exact ht_vret X d128_43 I (Nat.le_of_ble_eq_true rfl) (Nat.le_of_ble_eq_true rfl) (⟨rfl, rfl, c2, FR⟩)

set_option maxRecDepth 100000 in
set_option maxHeartbeats 8000000 in
theorem c_inflN (l : Launch) (D : va_G) (dA : Nat → ClassId) (s0 : State) (hE : ms_EV D dA s0) (t : Nat) (u : Nat) (xs : List Nat) (a : Nat) (v : Nat) (k : Nat) (mb : Int32) : ht_C l D s0 yM129 bM129 2 (Option.none : Option Jvm.ClassFile.FieldType) 1 20 0 0 [.ref a, .ref t] (fun h z => z t = some (u, xs) ∧ h a = some (.inr (3, [.ref v, .int 0, .int mb, .int (nI k)]))) (fun h z vv h1 z1 => vv = none ∧ h1 = h ∧ z1 = z) := by
  refine ht_C.mk hE.1 (by decide) (Nat.le_of_ble_eq_true rfl) [(0, .ref a), (1, .ref t)] rfl ?_
  intro p e s m below meth c ls h z X hin hpre I hl
  have hx := X.1
  have hb := X.2.1
  have hml := X.2.2.1
  have hown : s.vm.findClass "java/lang/AbstractStringBuilder" = some m.cls := X.2.2.2.1
  have hts := X.2.2.2.2.2.2.1
  have hK := X.2.2.2.2.2.2.2.2.1
  obtain ⟨hz, c1⟩ := hpre
  have FR : ∀ (b : Nat) (e : va_E), h b = some e → h b = some e := fun _ _ q => q
  refine va_gets (own := "java/lang/AbstractStringBuilder") hx hb (ms_z hE.2.2.1 X) I.2.2.1 hown (hts _ ms_k48) (fun _ h => h) d129_0 ?_
  refine lv_if_eq hx hb d129_3 rfl (fun h9 => absurd h9 (by decide)) (fun _ => ?_)
  refine lv_aload_n hx hb d129_6 rfl (lv_at hl 0 rfl) ?_
  refine va_get (D := D) (ci := 3) (v := .int 0) (C := kR3) (T := kT3) (N := 4) hx hb hts ku3 hown hK (hm_one I.1 c1) 0 rfl rfl 1 (by decide) (hts _ ms_k58) (fun _ h => h) rfl d129_7 ?_
  refine lv_aload_n hx hb d129_10 rfl (lv_at hl 1 rfl) ?_
  refine ht_V (C := "java/lang/String") (rest := [.int 0]) (as := []) X hl (c_Scoder l D dA s0 hE t u xs) (List.forall_mem_cons.mpr ⟨ms_k834, List.forall_mem_cons.mpr ⟨ms_k395, List.forall_mem_cons.mpr ⟨ms_k396, List.forall_mem_cons.mpr ⟨ms_k4, List.forall_mem_cons.mpr ⟨ms_k397, fun _ h => absurd h List.not_mem_nil⟩⟩⟩⟩⟩) ⟨rfl, by decide +kernel, by decide +kernel, (by decide +kernel : (parseMethodDescriptor "()B").map (fun d => d.parameters.length) = some 0)⟩ (hz_recv I hz) I (hz) ⟨⟨Nat.le_of_ble_eq_true rfl, Nat.le_of_ble_eq_true rfl⟩, Nat.le_of_ble_eq_true rfl, Nat.le_of_ble_eq_true rfl⟩ rfl (Nat.le_of_ble_eq_true rfl) d129_11 (fun vv h1 z1 H locs hR I9 => ?_)
  clear I
  obtain ⟨rfl, rfl, rfl⟩ := hR
  have I := I9
  clear I9
  refine W.eq (g2 := F0 m 14 ls [.int 0, .int 0]) rfl ?_
  refine lv_icmp_eq hx hb d129_14 rfl (fun _ => ?_) (fun h9 => absurd (by decide) h9)
  exact ht_vret X d129_21 I (Nat.le_of_ble_eq_true rfl) (Nat.le_of_ble_eq_true rfl) (⟨rfl, rfl, rfl⟩)

set_option maxRecDepth 100000 in
set_option maxHeartbeats 8000000 in
theorem c_psAt (l : Launch) (D : va_G) (dA : Nat → ClassId) (s0 : State) (hE : ms_EV D dA s0) (t : Nat) (u : Nat) (xs : List Nat) (a : Nat) (v : Nat) (k : Nat) (mb : Int32) (n : Nat) (f : Nat → Int32) (hkn : k + xs.length ≤ n) (hn : n ≤ 142) (hc : ∀ c ∈ xs, c < 128) : ht_C l D s0 yM130 bM130 3 (Option.none : Option Jvm.ClassFile.FieldType) 2 123 0 0 [.ref a, .int (nI k), .ref t] (fun h z => z t = some (u, xs) ∧ h a = some (.inr (3, [.ref v, .int 0, .int mb, .int (nI k)])) ∧ h v = some (.inl (dA 2, n, .inl f))) (fun h z vv h1 z1 => vv = none ∧ z1 = z ∧ h1 v = some (.inl (dA 2, n, .inl (va_cpy (fun j => nI (xs.getD j 0)) f 0 k xs.length))) ∧ (∀ (b : Nat) (e : va_E), h b = some e → b ≠ v → h1 b = some e)) := by
  refine ht_C.mk hE.1 (by decide) (Nat.le_of_ble_eq_true rfl) [(0, .ref a), (1, .int (nI k)), (2, .ref t)] rfl ?_
  intro p e s m below meth c ls h z X hin hpre I hl
  have hx := X.1
  have hb := X.2.1
  have hml := X.2.2.1
  have hown : s.vm.findClass "java/lang/AbstractStringBuilder" = some m.cls := X.2.2.2.1
  have hts := X.2.2.2.2.2.2.1
  have hK := X.2.2.2.2.2.2.2.2.1
  obtain ⟨hz, c1, c2⟩ := hpre
  have FR : ∀ (b : Nat) (e : va_E), h b = some e → h b = some e := fun _ _ q => q
  refine lv_aload_n hx hb d130_0 rfl (lv_at hl 0 rfl) ?_
  refine lv_aload_n hx hb d130_1 rfl (lv_at hl 2 rfl) ?_
  refine ht_U (C := "java/lang/StringBuilder") (x := ⟨"java/lang/AbstractStringBuilder", "inflateIfNeededFor", "(Ljava/lang/String;)V"⟩) (owner := "java/lang/AbstractStringBuilder") (rest := []) (as := [.ref t]) X hl (c_inflN l D dA s0 hE t u xs a v k mb) (List.forall_mem_cons.mpr ⟨ms_k830, List.forall_mem_cons.mpr ⟨ms_k1848, List.forall_mem_cons.mpr ⟨ms_x5, List.forall_mem_cons.mpr ⟨ms_k832, List.forall_mem_cons.mpr ⟨ms_k2, List.forall_mem_cons.mpr ⟨ms_k833, fun _ h => absurd h List.not_mem_nil⟩⟩⟩⟩⟩⟩) rfl ⟨by decide +kernel, by decide +kernel, (by decide +kernel : (parseMethodDescriptor "(Ljava/lang/String;)V").map (fun d => d.parameters.length) = some 1)⟩ (hm_recv hK I rfl c1) I (⟨hz, c1⟩) ⟨⟨Nat.le_of_ble_eq_true rfl, Nat.le_of_ble_eq_true rfl⟩, Nat.le_of_ble_eq_true rfl, Nat.le_of_ble_eq_true rfl⟩ rfl (Nat.le_of_ble_eq_true rfl) d130_2 (fun vv h1 z1 H locs hR I9 => ?_)
  clear I
  obtain ⟨rfl, rfl, rfl⟩ := hR
  have I := I9
  clear I9
  refine W.eq (g2 := F0 m 5 ls []) rfl ?_
  refine lv_aload_n hx hb d130_5 rfl (lv_at hl 2 rfl) ?_
  refine lv_aload_n hx hb d130_6 rfl (lv_at hl 0 rfl) ?_
  refine va_get (D := D) (ci := 3) (v := .ref v) (C := kR3) (T := kT3) (N := 4) hx hb hts ku3 hown hK (hm_one I.1 c1) 0 rfl rfl 0 (by decide) (hts _ ms_k57) (fun _ h => h) rfl d130_7 ?_
  refine lv_iload_n hx hb d130_10 rfl (lv_at hl 1 rfl) ?_
  refine lv_aload_n hx hb d130_11 rfl (lv_at hl 0 rfl) ?_
  refine va_get (D := D) (ci := 3) (v := .int 0) (C := kR3) (T := kT3) (N := 4) hx hb hts ku3 hown hK (hm_one I.1 c1) 0 rfl rfl 1 (by decide) (hts _ ms_k58) (fun _ h => h) rfl d130_12 ?_
  refine ht_V (C := "java/lang/String") (rest := []) (as := [.ref v, .int (nI k), .int 0]) X hl (c_SgetB l D dA s0 hE t u xs v k n f (hkn) (hn) (hc)) (List.forall_mem_cons.mpr ⟨ms_k835, List.forall_mem_cons.mpr ⟨ms_k836, List.forall_mem_cons.mpr ⟨ms_k837, List.forall_mem_cons.mpr ⟨ms_k4, List.forall_mem_cons.mpr ⟨ms_k838, fun _ h => absurd h List.not_mem_nil⟩⟩⟩⟩⟩) ⟨rfl, by decide +kernel, by decide +kernel, (by decide +kernel : (parseMethodDescriptor "([BIB)V").map (fun d => d.parameters.length) = some 3)⟩ (hz_recv I hz) I (⟨hz, c2⟩) ⟨⟨Nat.le_of_ble_eq_true rfl, Nat.le_of_ble_eq_true rfl⟩, Nat.le_of_ble_eq_true rfl, Nat.le_of_ble_eq_true rfl⟩ rfl (Nat.le_of_ble_eq_true rfl) d130_15 (fun vv h1 z1 H locs hR I9 => ?_)
  clear I
  obtain ⟨rfl, rfl, c8, hk8⟩ := hR
  have c1 := hk8 _ _ c1 (hm_ne c1 c2 rfl)
  have FR := fun b e hb (n0 : b ≠ v) => hk8 b e (FR b e hb) n0
  have c2 := c8
  clear hk8 c8
  generalize h1 = h at c1 c2 FR I9
  have I := I9
  clear I9
  refine W.eq (g2 := F0 m 18 ls []) rfl ?_
  exact ht_vret X d130_18 I (Nat.le_of_ble_eq_true rfl) (Nat.le_of_ble_eq_true rfl) (⟨rfl, rfl, c2, FR⟩)

set_option maxRecDepth 100000 in
set_option maxHeartbeats 8000000 in
theorem c_ASBapS (l : Launch) (D : va_G) (dA : Nat → ClassId) (s0 : State) (hE : ms_EV D dA s0) (t : Nat) (u : Nat) (xs : List Nat) (a : Nat) (v : Nat) (k : Nat) (mb : Int32) (n : Nat) (f : Nat → Int32) (hn : tx_n n) (hkn : k ≤ n) (hk : k + xs.length ≤ 34) (hc : ∀ c ∈ xs, c < 128) (hf : sb_Fit f) : ht_C l D s0 yM131 bM131 3 (Option.some (Jvm.ClassFile.FieldType.object "java/lang/AbstractStringBuilder")) 4 145 1 142 [.ref a, .ref t] (fun h z => z t = some (u, xs) ∧ h a = some (.inr (3, [.ref v, .int 0, .int mb, .int (nI k)])) ∧ h v = some (.inl (dA 2, n, .inl f))) (fun h z vv h1 z1 => vv = some (.ref a) ∧ z1 = z ∧ ∃ (u9 q9 : Nat) (g9 : Nat → Int32), tx_n q9 ∧ k + xs.length ≤ q9 ∧ h1 a = some (.inr (3, [.ref u9, .int 0, .int mb, .int (nI (k + xs.length))])) ∧ h1 u9 = some (.inl (dA 2, q9, .inl g9)) ∧ (∀ i, i < k → g9 i = f i) ∧ (∀ i, i < xs.length → g9 (k + i) = nI (xs.getD i 0)) ∧ sb_Fit g9 ∧ (u9 = v ∨ h u9 = none) ∧ (∀ (b : Nat) (e : va_E), h b = some e → b ≠ a → b ≠ v → h1 b = some e)) := by
  refine ht_C.mk hE.1 (by decide) (Nat.le_of_ble_eq_true rfl) [(0, .ref a), (1, .ref t)] rfl ?_
  intro p e s m below meth c ls h z X hin hpre I hl
  have hx := X.1
  have hb := X.2.1
  have hml := X.2.2.1
  have hown : s.vm.findClass "java/lang/AbstractStringBuilder" = some m.cls := X.2.2.2.1
  have hts := X.2.2.2.2.2.2.1
  have hK := X.2.2.2.2.2.2.2.2.1
  obtain ⟨hz, c1, c2⟩ := hpre
  have FR : ∀ (b : Nat) (e : va_E), h b = some e → h b = some e := fun _ _ q => q
  refine lv_aload_n hx hb d131_0 rfl (lv_at hl 1 rfl) ?_
  refine lv_ifnonnull hx hb d131_1 rfl ?_
  refine lv_aload_n hx hb d131_9 rfl (lv_at hl 1 rfl) ?_
  refine ht_V (C := "java/lang/String") (rest := []) (as := []) X hl (c_Slen l D dA s0 hE t u xs) (List.forall_mem_cons.mpr ⟨ms_k825, List.forall_mem_cons.mpr ⟨ms_k391, List.forall_mem_cons.mpr ⟨ms_k392, List.forall_mem_cons.mpr ⟨ms_k4, List.forall_mem_cons.mpr ⟨ms_k393, fun _ h => absurd h List.not_mem_nil⟩⟩⟩⟩⟩) ⟨rfl, by decide +kernel, by decide +kernel, (by decide +kernel : (parseMethodDescriptor "()I").map (fun d => d.parameters.length) = some 0)⟩ (hz_recv I hz) I (hz) ⟨⟨Nat.le_of_ble_eq_true rfl, Nat.le_of_ble_eq_true rfl⟩, Nat.le_of_ble_eq_true rfl, Nat.le_of_ble_eq_true rfl⟩ rfl (Nat.le_of_ble_eq_true rfl) d131_10 (fun vv h1 z1 H locs hR I9 => ?_)
  clear I
  obtain ⟨rfl, rfl, rfl⟩ := hR
  have I := I9
  clear I9
  refine W.eq (g2 := F0 m 13 ls [.int (nI xs.length)]) rfl ?_
  refine lv_istore_n hx hb d131_13 rfl hl (by decide) rfl (fun ls hl => ?_)
  have hl : lv_has ls 3 [(2, .int (nI xs.length)), (0, .ref a), (1, .ref t)] := hl
  refine lv_aload_n hx hb d131_14 rfl (lv_at hl 1 rfl) ?_
  refine lv_aload_n hx hb d131_15 rfl (lv_at hl 1 rfl) ?_
  refine va_get (D := D) (ci := 3) (v := .int (nI k)) (C := kR3) (T := kT3) (N := 4) hx hb hts ku3 hown hK (hm_one I.1 c1) 0 rfl rfl 3 (by decide) (hts _ ms_k61) (fun _ h => h) rfl d131_16 ?_
  refine lv_iload_n hx hb d131_19 rfl (lv_at hl 0 rfl) ?_
  refine lv_iadd hx hb d131_20 ?_
  refine ms_top (y := (nI (k + xs.length))) (nI_add _ _) ?_
  refine ht_U (C := "java/lang/StringBuilder") (x := ⟨"java/lang/AbstractStringBuilder", "ensureCapacityInternal", "(I)V"⟩) (owner := "java/lang/AbstractStringBuilder") (rest := []) (as := [.int (nI (k + xs.length))]) X hl ((c_ens l D dA s0 hE a v (k + xs.length) n (nI k) mb f (hn) (by have := tx_n_lt hn; omega) (by omega) (hf)).lift) (List.forall_mem_cons.mpr ⟨ms_k143, List.forall_mem_cons.mpr ⟨ms_k1834, List.forall_mem_cons.mpr ⟨ms_x0, List.forall_mem_cons.mpr ⟨ms_k145, List.forall_mem_cons.mpr ⟨ms_k2, List.forall_mem_cons.mpr ⟨ms_k146, fun _ h => absurd h List.not_mem_nil⟩⟩⟩⟩⟩⟩) rfl ⟨by decide +kernel, by decide +kernel, (by decide +kernel : (parseMethodDescriptor "(I)V").map (fun d => d.parameters.length) = some 1)⟩ (hm_recv hK I rfl c1) I (hm_has2 c1 c2 (hm_ne c1 c2 rfl)) ⟨⟨Nat.le_of_ble_eq_true rfl, Nat.le_of_ble_eq_true rfl⟩, Nat.le_of_ble_eq_true rfl, Nat.le_of_ble_eq_true rfl⟩ rfl (Nat.le_of_ble_eq_true rfl) d131_21 (fun vv h1 z1 H locs hR I9 => ?_)
  clear I
  obtain ⟨ww, hR, ⟨q1, q2, q3⟩, rfl⟩ := hR
  obtain ⟨u_21, q_22, g_23, rfl, hq9, hj9, hg9, hf9, rfl⟩ := hR
  have hu9 := (q1 1 _ rfl).2
  have FR := fun b e hb (n0 : b ≠ a) (n1 : b ≠ v) => q3 b e (FR b e hb ) (hm_off2 (Ne.symm n0) (Ne.symm n1))
  have c24 : h1 a = some (.inr (3, [.ref u_21, .int 0, .int mb, .int (nI k)])) := (q1 0 _ rfl).1
  have c25 : h1 u_21 = some (.inl (dA 2, q_22, .inl g_23)) := (q1 1 _ rfl).1
  clear q1 q2 q3
  have I := I9
  clear I9
  generalize h1 = h at I FR c24 c25
  refine W.eq (g2 := F0 m 24 ls []) rfl ?_
  refine lv_aload_n hx hb d131_24 rfl (lv_at hl 1 rfl) ?_
  refine lv_aload_n hx hb d131_25 rfl (lv_at hl 1 rfl) ?_
  refine va_get (D := D) (ci := 3) (v := .int (nI k)) (C := kR3) (T := kT3) (N := 4) hx hb hts ku3 hown hK (hm_one I.1 c24) 0 rfl rfl 3 (by decide) (hts _ ms_k61) (fun _ h => h) rfl d131_26 ?_
  refine lv_aload_n hx hb d131_29 rfl (lv_at hl 2 rfl) ?_
  have hu7 := hm_old hu9 c24 c25 rfl
  refine ht_U (C := "java/lang/StringBuilder") (x := ⟨"java/lang/AbstractStringBuilder", "putStringAt", "(ILjava/lang/String;)V"⟩) (owner := "java/lang/AbstractStringBuilder") (rest := []) (as := [.int (nI k), .ref t]) X hl (c_psAt l D dA s0 hE t u xs a u_21 k mb q_22 g_23 (hj9) ((tx_n_lt hq9).2) (hc)) (List.forall_mem_cons.mpr ⟨ms_k826, List.forall_mem_cons.mpr ⟨ms_k1847, List.forall_mem_cons.mpr ⟨ms_x4, List.forall_mem_cons.mpr ⟨ms_k828, List.forall_mem_cons.mpr ⟨ms_k2, List.forall_mem_cons.mpr ⟨ms_k829, fun _ h => absurd h List.not_mem_nil⟩⟩⟩⟩⟩⟩) rfl ⟨by decide +kernel, by decide +kernel, (by decide +kernel : (parseMethodDescriptor "(ILjava/lang/String;)V").map (fun d => d.parameters.length) = some 2)⟩ (hm_recv hK I rfl c24) I (⟨hz, c24, c25⟩) ⟨⟨Nat.le_of_ble_eq_true rfl, Nat.le_of_ble_eq_true rfl⟩, Nat.le_of_ble_eq_true rfl, Nat.le_of_ble_eq_true rfl⟩ rfl (Nat.le_of_ble_eq_true rfl) d131_30 (fun vv h1 z1 H locs hR I9 => ?_)
  clear I
  obtain ⟨rfl, rfl, c8, hk8⟩ := hR
  have c24 := hk8 _ _ c24 (hm_ne c24 c25 rfl)
  have FR := fun b e hb (n0 : b ≠ a) (n1 : b ≠ v) => hk8 b e (FR b e hb n0 n1) (fun q => hu7.elim (fun q2 => n1 (q.trans q2)) (fun h8 => hm_nn hb h8 q))
  have c25 := c8
  clear hk8 c8
  generalize h1 = h at c24 c25 FR I9
  have I := I9
  clear I9
  refine W.eq (g2 := F0 m 33 ls []) rfl ?_
  refine lv_aload_n hx hb d131_33 rfl (lv_at hl 1 rfl) ?_
  refine lv_dup hx hb d131_34 rfl ?_
  refine va_get (D := D) (ci := 3) (v := .int (nI k)) (C := kR3) (T := kT3) (N := 4) hx hb hts ku3 hown hK (hm_one I.1 c24) 0 rfl rfl 3 (by decide) (hts _ ms_k61) (fun _ h => h) rfl d131_35 ?_
  refine lv_iload_n hx hb d131_38 rfl (lv_at hl 0 rfl) ?_
  refine lv_iadd hx hb d131_39 ?_
  refine ms_top (y := (nI (k + xs.length))) (nI_add _ _) ?_
  refine hm_put (ci := 3) (v := .int (nI (k + xs.length))) (ty := .int) (C := kR3) (T := kT3) (N := 4) X I ku3 kt3 kp3 kn3 c24 rfl 3 (by decide) ms_k61 (fun _ h => h) rfl (by decide +kernel) rfl rfl (Nat.le_of_ble_eq_true rfl) d131_40 (fun h H locs e9 f9 I => ?_)
  have c25 := (f9 _ (hm_ne c25 c24 rfl)).trans c25
  have FR := fun b e hb n0 n1 => (f9 b n0).trans (FR b e hb n0 n1)
  have c24 : h a = some (.inr (3, [.ref u_21, .int 0, .int mb, .int (nI (k + xs.length))])) := e9
  refine lv_aload_n hx hb d131_43 rfl (lv_at hl 1 rfl) ?_
  exact ht_aret X d131_44 I (Nat.le_of_ble_eq_true rfl) (Nat.le_of_ble_eq_true rfl) (⟨rfl, rfl, _, _, _, hq9, hj9, c24, c25, fun i hi => by rw [pk_cpy_out (Or.inl hi)]; exact hg9 i (by omega), fun i hi => by rw [pk_cpy_in (Nat.le_add_right _ _) (by omega)]; congr 2; omega, sb_fitC (tx_fit hc) hf9, hu7, FR⟩) (Or.inl ⟨_, rfl⟩) (Or.inr ⟨_, rfl⟩)

set_option maxRecDepth 100000 in
set_option maxHeartbeats 8000000 in
theorem c_SBapS (l : Launch) (D : va_G) (dA : Nat → ClassId) (s0 : State) (hE : ms_EV D dA s0) (t : Nat) (u : Nat) (xs : List Nat) (a : Nat) (v : Nat) (k : Nat) (mb : Int32) (n : Nat) (f : Nat → Int32) (hn : tx_n n) (hkn : k ≤ n) (hk : k + xs.length ≤ 34) (hc : ∀ c ∈ xs, c < 128) (hf : sb_Fit f) : ht_C l D s0 yM132 bM132 2 (Option.some (Jvm.ClassFile.FieldType.object "java/lang/StringBuilder")) 5 167 1 142 [.ref a, .ref t] (fun h z => z t = some (u, xs) ∧ h a = some (.inr (3, [.ref v, .int 0, .int mb, .int (nI k)])) ∧ h v = some (.inl (dA 2, n, .inl f))) (fun h z vv h1 z1 => vv = some (.ref a) ∧ z1 = z ∧ ∃ (u9 q9 : Nat) (g9 : Nat → Int32), tx_n q9 ∧ k + xs.length ≤ q9 ∧ h1 a = some (.inr (3, [.ref u9, .int 0, .int mb, .int (nI (k + xs.length))])) ∧ h1 u9 = some (.inl (dA 2, q9, .inl g9)) ∧ (∀ i, i < k → g9 i = f i) ∧ (∀ i, i < xs.length → g9 (k + i) = nI (xs.getD i 0)) ∧ sb_Fit g9 ∧ (u9 = v ∨ h u9 = none) ∧ (∀ (b : Nat) (e : va_E), h b = some e → b ≠ a → b ≠ v → h1 b = some e)) := by
  refine ht_C.mk hE.1 (by decide) (Nat.le_of_ble_eq_true rfl) [(0, .ref a), (1, .ref t)] rfl ?_
  intro p e s m below meth c ls h z X hin hpre I hl
  have hx := X.1
  have hb := X.2.1
  have hml := X.2.2.1
  have hown : s.vm.findClass "java/lang/StringBuilder" = some m.cls := X.2.2.2.1
  have hts := X.2.2.2.2.2.2.1
  have hK := X.2.2.2.2.2.2.2.2.1
  obtain ⟨hz, c1, c2⟩ := hpre
  have FR : ∀ (b : Nat) (e : va_E), h b = some e → h b = some e := fun _ _ q => q
  refine lv_aload_n hx hb d132_0 rfl (lv_at hl 0 rfl) ?_
  refine lv_aload_n hx hb d132_1 rfl (lv_at hl 1 rfl) ?_
  refine ht_SU (C := "java/lang/StringBuilder") (rest := []) (as := [.ref t]) ((hK.1 3 _ rfl).2) X hl (c_ASBapS l D dA s0 hE t u xs a v k mb n f (hn) (hkn) (hk) (hc) (hf)) (List.forall_mem_cons.mpr ⟨ms_k811, List.forall_mem_cons.mpr ⟨ms_k1845, List.forall_mem_cons.mpr ⟨ms_k70, List.forall_mem_cons.mpr ⟨ms_k812, List.forall_mem_cons.mpr ⟨ms_k2, List.forall_mem_cons.mpr ⟨ms_k813, fun _ h => absurd h List.not_mem_nil⟩⟩⟩⟩⟩⟩) ⟨by decide +kernel, (by decide +kernel : (parseMethodDescriptor "(Ljava/lang/String;)Ljava/lang/AbstractStringBuilder;").map (fun d => d.parameters.length) = some 1)⟩ (hm_recv hK I rfl c1) I (⟨hz, c1, c2⟩) ⟨⟨Nat.le_of_ble_eq_true rfl, Nat.le_of_ble_eq_true rfl⟩, Nat.le_of_ble_eq_true rfl, Nat.le_of_ble_eq_true rfl⟩ rfl (Nat.le_of_ble_eq_true rfl) d132_2 (fun vv h1 z1 H locs hR I9 => ?_)
  clear I
  obtain ⟨rfl, rfl, u9, q9, g9, k1, k2, k3, k4, k5, k6, k7, k8, k9⟩ := hR
  have I := I9
  clear I9
  refine W.eq (g2 := F0 m 5 ls [.ref a]) rfl ?_
  refine lv_pop hx hb d132_5 rfl ?_
  refine lv_aload_n hx hb d132_6 rfl (lv_at hl 0 rfl) ?_
  exact ht_aret X d132_7 I (Nat.le_of_ble_eq_true rfl) (Nat.le_of_ble_eq_true rfl) (⟨rfl, rfl, _, _, _, k1, k2, k3, k4, k5, k6, k7, k8, k9⟩) (Or.inl ⟨_, rfl⟩) (Or.inr ⟨_, rfl⟩)
