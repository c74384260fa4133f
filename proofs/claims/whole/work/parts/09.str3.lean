theorem ms_k18 : (Jvm.Cond.initialized "java/util/ArrayList") ∈ ms_tb := ms_i1 18 (by decide +kernel) (by decide +kernel)
theorem ms_k20 : (Jvm.Cond.initialized "java/util/Objects") ∈ ms_tb := ms_i1 20 (by decide +kernel) (by decide +kernel)
theorem ms_k336 : (Jvm.Cond.fieldLink "java/util/ArrayList" (9 : Nat) "java/util/ArrayList" "elementData" "[Ljava/lang/Object;") ∈ ms_tb := ms_i2 96 (by decide +kernel) (by decide +kernel)
theorem ms_k337 : (Jvm.Cond.fieldLink "java/util/ArrayList" (48 : Nat) "java/util/ArrayList" "size" "I") ∈ ms_tb := ms_i2 97 (by decide +kernel) (by decide +kernel)
theorem ms_k391 : (Jvm.Cond.instanceMethod ({ cls := "java/lang/String", name := "length", desc := "()I" } : Jvm.MethodName)) ∈ ms_tb := ms_i2 151 (by decide +kernel) (by decide +kernel)
theorem ms_k392 : (Jvm.Cond.selects "java/lang/String" ({ cls := "java/lang/String", name := "length", desc := "()I" } : Jvm.MethodName) ({ cls := "java/lang/String", name := "length", desc := "()I" } : Jvm.MethodName)) ∈ ms_tb := ms_i2 152 (by decide +kernel) (by decide +kernel)
theorem ms_k393 : (Jvm.Cond.code ({ cls := "java/lang/String", name := "length", desc := "()I" } : Jvm.MethodName) prog_23_method_54_code (1 : Nat) (Option.some Jvm.ClassFile.FieldType.int)) ∈ ms_tb := ms_i2 153 (by decide +kernel) (by decide +kernel)
theorem ms_k554 : (Jvm.Cond.methodLink "java/lang/String" (505 : Nat) ({ cls := "java/lang/String", name := "length", desc := "()I" } : Jvm.MethodName)) ∈ ms_tb := ms_i3 74 (by decide +kernel) (by decide +kernel)
theorem ms_k602 : (Jvm.Cond.methodLink "java/util/ArrayList" (118 : Nat) ({ cls := "java/util/Objects", name := "checkIndex", desc := "(II)I" } : Jvm.MethodName)) ∈ ms_tb := ms_i3 122 (by decide +kernel) (by decide +kernel)
theorem ms_k603 : (Jvm.Cond.static ({ cls := "java/util/Objects", name := "checkIndex", desc := "(II)I" } : Jvm.MethodName)) ∈ ms_tb := ms_i3 123 (by decide +kernel) (by decide +kernel)
theorem ms_k604 : (Jvm.Cond.code ({ cls := "java/util/Objects", name := "checkIndex", desc := "(II)I" } : Jvm.MethodName) prog_34_method_17_code (2 : Nat) (Option.some Jvm.ClassFile.FieldType.int)) ∈ ms_tb := ms_i3 124 (by decide +kernel) (by decide +kernel)
theorem ms_k605 : (Jvm.Cond.methodLink "java/util/Objects" (105 : Nat) ({ cls := "jdk/internal/util/Preconditions", name := "checkIndex", desc := "(IILjava/util/function/BiFunction;)I" } : Jvm.MethodName)) ∈ ms_tb := ms_i3 125 (by decide +kernel) (by decide +kernel)
theorem ms_k606 : (Jvm.Cond.methodLink "java/util/ArrayList" (123 : Nat) ({ cls := "java/util/ArrayList", name := "elementData", desc := "(I)Ljava/lang/Object;" } : Jvm.MethodName)) ∈ ms_tb := ms_i3 126 (by decide +kernel) (by decide +kernel)
theorem ms_k607 : (Jvm.Cond.instanceMethod ({ cls := "java/util/ArrayList", name := "elementData", desc := "(I)Ljava/lang/Object;" } : Jvm.MethodName)) ∈ ms_tb := ms_i3 127 (by decide +kernel) (by decide +kernel)
theorem ms_k608 : (Jvm.Cond.selects "java/util/ArrayList" ({ cls := "java/util/ArrayList", name := "elementData", desc := "(I)Ljava/lang/Object;" } : Jvm.MethodName) ({ cls := "java/util/ArrayList", name := "elementData", desc := "(I)Ljava/lang/Object;" } : Jvm.MethodName)) ∈ ms_tb := ms_i3 128 (by decide +kernel) (by decide +kernel)
theorem ms_k609 : (Jvm.Cond.code ({ cls := "java/util/ArrayList", name := "elementData", desc := "(I)Ljava/lang/Object;" } : Jvm.MethodName) prog_30_method_18_code (2 : Nat) (Option.some (Jvm.ClassFile.FieldType.object "java/lang/Object"))) ∈ ms_tb := ms_i3 129 (by decide +kernel) (by decide +kernel)
theorem ms_k954 : (Jvm.Cond.methodLink "java/lang/String" (633 : Nat) ({ cls := "java/lang/String", name := "indexOf", desc := "(II)I" } : Jvm.MethodName)) ∈ ms_tb := ms_i4 234 (by decide +kernel) (by decide +kernel)
theorem ms_k955 : (Jvm.Cond.instanceMethod ({ cls := "java/lang/String", name := "indexOf", desc := "(II)I" } : Jvm.MethodName)) ∈ ms_tb := ms_i4 235 (by decide +kernel) (by decide +kernel)
theorem ms_k956 : (Jvm.Cond.selects "java/lang/String" ({ cls := "java/lang/String", name := "indexOf", desc := "(II)I" } : Jvm.MethodName) ({ cls := "java/lang/String", name := "indexOf", desc := "(II)I" } : Jvm.MethodName)) ∈ ms_tb := ms_i4 236 (by decide +kernel) (by decide +kernel)
theorem ms_k957 : (Jvm.Cond.code ({ cls := "java/lang/String", name := "indexOf", desc := "(II)I" } : Jvm.MethodName) prog_23_method_80_code (3 : Nat) (Option.some Jvm.ClassFile.FieldType.int)) ∈ ms_tb := ms_i4 237 (by decide +kernel) (by decide +kernel)
theorem ms_k958 : (Jvm.Cond.methodLink "java/lang/String" (637 : Nat) ({ cls := "java/lang/StringLatin1", name := "indexOf", desc := "([BIII)I" } : Jvm.MethodName)) ∈ ms_tb := ms_i4 238 (by decide +kernel) (by decide +kernel)
theorem ms_k959 : (Jvm.Cond.static ({ cls := "java/lang/StringLatin1", name := "indexOf", desc := "([BIII)I" } : Jvm.MethodName)) ∈ ms_tb := ms_i4 239 (by decide +kernel) (by decide +kernel)
theorem ms_k960 : (Jvm.Cond.code ({ cls := "java/lang/StringLatin1", name := "indexOf", desc := "([BIII)I" } : Jvm.MethodName) prog_25_method_22_code (4 : Nat) (Option.some Jvm.ClassFile.FieldType.int)) ∈ ms_tb := ms_i5 0 (by decide +kernel) (by decide +kernel)
theorem ms_k961 : (Jvm.Cond.methodLink "java/lang/StringLatin1" (88 : Nat) ({ cls := "java/lang/StringLatin1", name := "canEncode", desc := "(I)Z" } : Jvm.MethodName)) ∈ ms_tb := ms_i5 1 (by decide +kernel) (by decide +kernel)
theorem ms_k962 : (Jvm.Cond.static ({ cls := "java/lang/StringLatin1", name := "canEncode", desc := "(I)Z" } : Jvm.MethodName)) ∈ ms_tb := ms_i5 2 (by decide +kernel) (by decide +kernel)
theorem ms_k963 : (Jvm.Cond.code ({ cls := "java/lang/StringLatin1", name := "canEncode", desc := "(I)Z" } : Jvm.MethodName) prog_25_method_4_code (1 : Nat) (Option.some Jvm.ClassFile.FieldType.boolean)) ∈ ms_tb := ms_i5 3 (by decide +kernel) (by decide +kernel)
theorem ms_k964 : (Jvm.Cond.methodLink "java/lang/StringLatin1" (92 : Nat) ({ cls := "java/lang/Math", name := "max", desc := "(II)I" } : Jvm.MethodName)) ∈ ms_tb := ms_i5 4 (by decide +kernel) (by decide +kernel)
theorem ms_k965 : (Jvm.Cond.methodLink "java/lang/StringLatin1" (38 : Nat) ({ cls := "java/lang/Math", name := "min", desc := "(II)I" } : Jvm.MethodName)) ∈ ms_tb := ms_i5 5 (by decide +kernel) (by decide +kernel)
theorem ms_k966 : (Jvm.Cond.methodLink "java/lang/StringLatin1" (95 : Nat) ({ cls := "java/lang/StringLatin1", name := "indexOfChar", desc := "([BIII)I" } : Jvm.MethodName)) ∈ ms_tb := ms_i5 6 (by decide +kernel) (by decide +kernel)
theorem ms_k967 : (Jvm.Cond.static ({ cls := "java/lang/StringLatin1", name := "indexOfChar", desc := "([BIII)I" } : Jvm.MethodName)) ∈ ms_tb := ms_i5 7 (by decide +kernel) (by decide +kernel)
theorem ms_k968 : (Jvm.Cond.code ({ cls := "java/lang/StringLatin1", name := "indexOfChar", desc := "([BIII)I" } : Jvm.MethodName) prog_25_method_23_code (6 : Nat) (Option.some Jvm.ClassFile.FieldType.int)) ∈ ms_tb := ms_i5 8 (by decide +kernel) (by decide +kernel)
abbrev bM30 : ByteArray := prog_25_method_4_code
def yM30 : MethodName := ⟨"java/lang/StringLatin1", "canEncode", "(I)Z"⟩
abbrev bM31 : ByteArray := prog_25_method_22_code
def yM31 : MethodName := ⟨"java/lang/StringLatin1", "indexOf", "([BIII)I"⟩
abbrev bM32 : ByteArray := prog_23_method_80_code
def yM32 : MethodName := ⟨"java/lang/String", "indexOf", "(II)I"⟩
abbrev bM33 : ByteArray := prog_23_method_79_code
def yM33 : MethodName := ⟨"java/lang/String", "indexOf", "(I)I"⟩
abbrev bM34 : ByteArray := prog_34_method_17_code
def yM34 : MethodName := ⟨"java/util/Objects", "checkIndex", "(II)I"⟩
abbrev bM35 : ByteArray := prog_30_method_8_code
def yM35 : MethodName := ⟨"java/util/ArrayList", "size", "()I"⟩
abbrev bM36 : ByteArray := prog_30_method_9_code
def yM36 : MethodName := ⟨"java/util/ArrayList", "isEmpty", "()Z"⟩
abbrev bM37 : ByteArray := prog_30_method_18_code
def yM37 : MethodName := ⟨"java/util/ArrayList", "elementData", "(I)Ljava/lang/Object;"⟩
abbrev bM38 : ByteArray := prog_30_method_20_code
def yM38 : MethodName := ⟨"java/util/ArrayList", "get", "(I)Ljava/lang/Object;"⟩
theorem d30_0 : decode bM30 0 = .ok (.iload_n 0, 1) := by decide +kernel
theorem d30_1 : decode bM30 1 = .ok (.ifCond .lt 14, 3) := by decide +kernel
theorem d30_4 : decode bM30 4 = .ok (.iload_n 0, 1) := by decide +kernel
theorem d30_5 : decode bM30 5 = .ok (.sipush 255, 3) := by decide +kernel
theorem d30_8 : decode bM30 8 = .ok (.if_icmp .gt 7, 3) := by decide +kernel
theorem d30_11 : decode bM30 11 = .ok (.iconst 1, 1) := by decide +kernel
theorem d30_12 : decode bM30 12 = .ok (.goto 4, 3) := by decide +kernel
theorem d30_16 : decode bM30 16 = .ok (.ireturn, 1) := by decide +kernel
theorem d31_0 : decode bM31 0 = .ok (.iload_n 1, 1) := by decide +kernel
theorem d31_1 : decode bM31 1 = .ok (.invokestatic 88, 3) := by decide +kernel
theorem d31_4 : decode bM31 4 = .ok (.ifCond .ne 5, 3) := by decide +kernel
theorem d31_9 : decode bM31 9 = .ok (.iload_n 2, 1) := by decide +kernel
theorem d31_10 : decode bM31 10 = .ok (.iconst 0, 1) := by decide +kernel
theorem d31_11 : decode bM31 11 = .ok (.invokestatic 92, 3) := by decide +kernel
theorem d31_14 : decode bM31 14 = .ok (.istore_n 2, 1) := by decide +kernel
theorem d31_15 : decode bM31 15 = .ok (.iload_n 3, 1) := by decide +kernel
theorem d31_16 : decode bM31 16 = .ok (.aload_n 0, 1) := by decide +kernel
theorem d31_17 : decode bM31 17 = .ok (.arraylength, 1) := by decide +kernel
theorem d31_18 : decode bM31 18 = .ok (.invokestatic 38, 3) := by decide +kernel
theorem d31_21 : decode bM31 21 = .ok (.istore_n 3, 1) := by decide +kernel
theorem d31_22 : decode bM31 22 = .ok (.iload_n 2, 1) := by decide +kernel
theorem d31_23 : decode bM31 23 = .ok (.iload_n 3, 1) := by decide +kernel
theorem d31_24 : decode bM31 24 = .ok (.if_icmp .lt 5, 3) := by decide +kernel
theorem d31_27 : decode bM31 27 = .ok (.iconst (-1), 1) := by decide +kernel
theorem d31_28 : decode bM31 28 = .ok (.ireturn, 1) := by decide +kernel
theorem d31_29 : decode bM31 29 = .ok (.aload_n 0, 1) := by decide +kernel
theorem d31_30 : decode bM31 30 = .ok (.iload_n 1, 1) := by decide +kernel
theorem d31_31 : decode bM31 31 = .ok (.iload_n 2, 1) := by decide +kernel
theorem d31_32 : decode bM31 32 = .ok (.iload_n 3, 1) := by decide +kernel
theorem d31_33 : decode bM31 33 = .ok (.invokestatic 95, 3) := by decide +kernel
theorem d31_36 : decode bM31 36 = .ok (.ireturn, 1) := by decide +kernel
theorem d32_0 : decode bM32 0 = .ok (.aload_n 0, 1) := by decide +kernel
theorem d32_1 : decode bM32 1 = .ok (.invokevirtual 492, 3) := by decide +kernel
theorem d32_4 : decode bM32 4 = .ok (.ifCond .eq 19, 3) := by decide +kernel
theorem d32_7 : decode bM32 7 = .ok (.aload_n 0, 1) := by decide +kernel
theorem d32_8 : decode bM32 8 = .ok (.getfield 9, 3) := by decide +kernel
theorem d32_11 : decode bM32 11 = .ok (.iload_n 1, 1) := by decide +kernel
theorem d32_12 : decode bM32 12 = .ok (.iload_n 2, 1) := by decide +kernel
theorem d32_13 : decode bM32 13 = .ok (.aload_n 0, 1) := by decide +kernel
theorem d32_14 : decode bM32 14 = .ok (.invokevirtual 505, 3) := by decide +kernel
theorem d32_17 : decode bM32 17 = .ok (.invokestatic 637, 3) := by decide +kernel
theorem d32_20 : decode bM32 20 = .ok (.goto 16, 3) := by decide +kernel
theorem d32_36 : decode bM32 36 = .ok (.ireturn, 1) := by decide +kernel
theorem d33_0 : decode bM33 0 = .ok (.aload_n 0, 1) := by decide +kernel
theorem d33_1 : decode bM33 1 = .ok (.iload_n 1, 1) := by decide +kernel
theorem d33_2 : decode bM33 2 = .ok (.iconst 0, 1) := by decide +kernel
theorem d33_3 : decode bM33 3 = .ok (.invokevirtual 633, 3) := by decide +kernel
theorem d33_6 : decode bM33 6 = .ok (.ireturn, 1) := by decide +kernel
theorem d34_0 : decode bM34 0 = .ok (.iload_n 0, 1) := by decide +kernel
theorem d34_1 : decode bM34 1 = .ok (.iload_n 1, 1) := by decide +kernel
theorem d34_2 : decode bM34 2 = .ok (.aconst_null, 1) := by decide +kernel
theorem d34_3 : decode bM34 3 = .ok (.invokestatic 105, 3) := by decide +kernel
theorem d34_6 : decode bM34 6 = .ok (.ireturn, 1) := by decide +kernel
theorem d35_0 : decode bM35 0 = .ok (.aload_n 0, 1) := by decide +kernel
theorem d35_1 : decode bM35 1 = .ok (.getfield 48, 3) := by decide +kernel
theorem d35_4 : decode bM35 4 = .ok (.ireturn, 1) := by decide +kernel
theorem d36_0 : decode bM36 0 = .ok (.aload_n 0, 1) := by decide +kernel
theorem d36_1 : decode bM36 1 = .ok (.getfield 48, 3) := by decide +kernel
theorem d36_4 : decode bM36 4 = .ok (.ifCond .ne 7, 3) := by decide +kernel
theorem d36_7 : decode bM36 7 = .ok (.iconst 1, 1) := by decide +kernel
theorem d36_8 : decode bM36 8 = .ok (.goto 4, 3) := by decide +kernel
theorem d36_11 : decode bM36 11 = .ok (.iconst 0, 1) := by decide +kernel
theorem d36_12 : decode bM36 12 = .ok (.ireturn, 1) := by decide +kernel
theorem d37_0 : decode bM37 0 = .ok (.aload_n 0, 1) := by decide +kernel
theorem d37_1 : decode bM37 1 = .ok (.getfield 9, 3) := by decide +kernel
theorem d37_4 : decode bM37 4 = .ok (.iload_n 1, 1) := by decide +kernel
theorem d37_5 : decode bM37 5 = .ok (.aaload, 1) := by decide +kernel
theorem d37_6 : decode bM37 6 = .ok (.areturn, 1) := by decide +kernel
theorem d38_0 : decode bM38 0 = .ok (.iload_n 1, 1) := by decide +kernel
theorem d38_1 : decode bM38 1 = .ok (.aload_n 0, 1) := by decide +kernel
theorem d38_2 : decode bM38 2 = .ok (.getfield 48, 3) := by decide +kernel
theorem d38_5 : decode bM38 5 = .ok (.invokestatic 118, 3) := by decide +kernel
theorem d38_8 : decode bM38 8 = .ok (.pop, 1) := by decide +kernel
theorem d38_9 : decode bM38 9 = .ok (.aload_n 0, 1) := by decide +kernel
theorem d38_10 : decode bM38 10 = .ok (.iload_n 1, 1) := by decide +kernel
theorem d38_11 : decode bM38 11 = .ok (.invokevirtual 123, 3) := by decide +kernel
theorem d38_14 : decode bM38 14 = .ok (.areturn, 1) := by decide +kernel
theorem hz_copy {p : Program} {l : Launch} {e : Env} {R : Room} {s s0 : State} {m : MethodId} {args : Array Value} {below : List Frame} {meth : Method} {c : Code} {H : Heap} {locs : List Loc} {cells slots : Nat} {Q : State → Prop} {cc : ByteArray} {pc : Nat} {ls : Array Slot} {rest : List Value} {D : va_G} {h : hm_T} {z : hz_T} {tys : List (ClassId × FieldType)} {y0 : MethodName} {n0 : Nat} {ret0 : Option FieldType} {A : Nat → Prop} {a u d : Nat} {xs : List Nat} {cB : ClassId} {n1 : Nat} {g : Nat → Int32} {idx : Nat} (X : ms_X D tys s0 p s m args meth c A y0 cc n0 ret0) (hlz : ls.size = n0) (I : hm_I D s0 s h z H locs) (hw : ∀ w ∈ ([.methodLink y0.cls idx arraycopyName, .native arraycopyName, .static arraycopyName, .initialized "java/lang/System"] : List Cond), w ∈ ms_tb) (hz : z a = some (u, xs)) (hd : h d = some (.inl (cB, n1, .inl g))) (t1 : Nat) (ht1 : tys[t1]? = some (cB, .byte)) {sp dp n : Nat} (h4 : sp + n ≤ xs.length) (h5 : dp + n ≤ n1) (hs : xs.length < 2 ^ 31) (hs1 : n1 < 2 ^ 31) (hc : ∀ c ∈ xs, c < 128)
    (hframes : 1 ≤ R.frames) (hlocals : (rest.map fun v => v.category).sum + (nativeFrameWords "java/lang/System" "arraycopy" 5 + 11) ≤ R.locals) (hdg : decode cc pc = .ok (.invokestatic idx, 3))
    (kk : ∀ (h1 : hm_T) (H1 : Heap) (locs1 : List Loc), h1 d = some (.inl (cB, n1, .inl (va_cpy (fun j => nI (xs.getD j 0)) g sp dp n))) → (∀ b, b ≠ d → h1 b = h b) → hm_I D s0 s h1 z H1 locs1 → W p l e R s m args below meth c H1 locs1 cells slots Q (F0 m (pc + 3) ls rest)) : W p l e R s m args below meth c H locs cells slots Q (F0 m pc ls (.int (nI n) :: .int (nI dp) :: .ref d :: .int (nI sp) :: .ref u :: rest)) := by
  have hts := X.2.2.2.2.2.2.1
  have hK := X.2.2.2.2.2.2.2.2.1
  have k1 := nI_clamp (n := sp) (by omega)
  have k2 := nI_clamp (n := dp) (by omega)
  have k3 := nI_clamp (n := n) (by omega)
  intro T hT Y
  obtain ⟨scr, a1, a2, a3, a4, a5, a6, -⟩ := (I.2.2.2.1 a u xs hz).1.2.2.2
  have hc1 : H[d]? = some (vp_cell cB (n1, .inl g)) := I.1 d _ hd
  obtain ⟨b1, kk0, hk0, cm0, hkk0⟩ := a2
  obtain ⟨-, kk1, hk1, cm1, hkk1⟩ := (hK.2 t1 _ ht1).1 n1 (fun j => .int (g j))
  obtain ⟨vm', Y', step⟩ := Y.arraycopy X.1 X.2.2.2.1 (hts (.methodLink y0.cls idx arraycopyName) (hw _ (by simp))) (hts _ (hw _ (by simp))) (hts _ (hw _ (by simp))) (hts _ (hw _ (by simp))) (src := u) (dst := d) (cs := scr) (cd := vp_cell cB (n1, .inl g)) (srcPos := nI sp) (destPos := nI dp) (n := nI n) (by rw [hT]; exact a1) (by rw [hT]; exact hc1)
    b1 (fun _ h => by cases h) a3 (fun h => by cases h) hk0 hk1 hkk0 hkk1 (by simp [refKind]) (nI_pos (by omega)) (nI_pos (by omega)) (nI_pos (by omega))
    (by rw [nI_toInt (by omega), nI_toInt (by omega)]; omega)
    (by rw [nI_toInt (by omega), nI_toInt (by omega)]; show ¬ _ > ((arrV cB n1 (fun j => .int (g j))).slots.size : Int); rw [arrV_size]; omega)
    (fun vm₁ _ i hi => by
      rw [k3] at hi
      rw [k1]
      have e : scr.slots.getD (sp + i) .null = .int (nI (xs.getD (sp + i) 0)) := by
        rw [Array.getD_eq_getD_getElem?, a6 _ (by omega)]
        rfl
      refine ⟨?_, ?_⟩
      · rw [e, ← tx_i2b (tx_get hc (sp + i))]
        exact pk_fb _
      · rw [e]
        exact trivial)
    (g := F0 m pc ls (.int (nI n) :: .int (nI dp) :: .ref d :: .int (nI sp) :: .ref u :: rest)) rfl (by rw [X.2.2.1]; exact hlz) (rest := rest) rfl (by rw [X.2.1]; exact hdg) hframes (by show 2 * 0 + _ + _ ≤ _; omega)
  have e1 : copied scr (vp_cell cB (n1, .inl g)) (nI sp) (nI dp) (nI n) = vp_cell cB (n1, .inl (va_cpy (fun j => nI (xs.getD j 0)) g (nI sp).toNatClampNeg (nI dp).toNatClampNeg (nI n).toNatClampNeg)) := va_copiedX (fun z => .int z) scr cB (fun j => nI (xs.getD j 0)) g a6 (by rw [k1, k3]; exact h4)
  rw [e1, k1, k2, k3] at Y' step
  have hl : d < H.size := (Array.getElem?_eq_some_iff.mp hc1).1
  have hheap : ((T.setVm vm').setCell d (vp_cell cB (n1, .inl (va_cpy (fun j => nI (xs.getD j 0)) g sp dp n)))).heap = H.setIfInBounds d (vp_cell cB (n1, .inl (va_cpy (fun j => nI (xs.getD j 0)) g sp dp n))) := by rw [← hT]; rfl
  have oq : ∀ q : Nat, q ≠ d → (H.setIfInBounds d (vp_cell cB (n1, .inl (va_cpy (fun j => nI (xs.getD j 0)) g sp dp n))))[q]? = H[q]? := fun q hq => by simp [Array.getElem?_setIfInBounds, Ne.symm hq]
  have I1 := hm_set (k := 0) I hd (show va_at D vwCl (d, .inl (cB, n1, .inl (va_cpy (fun j => nI (xs.getD j 0)) g sp dp n))) (H.setIfInBounds d _) from (show (H.setIfInBounds d _)[d]? = some _ by simp [Array.getElem?_setIfInBounds, hl])) (by simp) oq
  obtain ⟨t, g1, g2⟩ := kk _ _ _ hm_s (fun b hb => hm_n hb) ⟨I1.1, I1.2.1, ⟨I1.2.2.1.1, I1.2.2.1.2.1, fun q hq => by
      rcases List.mem_append.mp hq with h | h
      · exact I.2.2.1.2.2 q h
      · obtain ⟨w, -, hw⟩ := List.mem_map.mp h
        rw [← hw]
        exact I.2.1 d _ hd⟩, I1.2.2.2⟩ _ hheap Y'
  exact ⟨t, step t g1, g2⟩

set_option maxRecDepth 100000 in
set_option maxHeartbeats 8000000 in
theorem c_canEncI (l : Launch) (D : va_G) (dA : Nat → ClassId) (s0 : State) (hE : ms_EV D dA s0) (q : Nat) (hq : q < 128) : ht_C l D s0 yM30 bM30 1 (Option.some Jvm.ClassFile.FieldType.boolean) 0 0 0 0 [.int (nI q)] (fun h z => True) (fun h z vv h1 z1 => vv = some (.int 1) ∧ h1 = h ∧ z1 = z) := by
  refine ht_C.mk hE.1 (by decide) (Nat.le_of_ble_eq_true rfl) [(0, .int (nI q))] rfl ?_
  intro p e s m below meth c ls h z X hin hpre I hl
  have hx := X.1
  have hb := X.2.1
  have hml := X.2.2.1
  have hown : s.vm.findClass "java/lang/StringLatin1" = some m.cls := X.2.2.2.1
  have hts := X.2.2.2.2.2.2.1
  have hK := X.2.2.2.2.2.2.2.2.1
  have FR : ∀ (b : Nat) (e : va_E), h b = some e → h b = some e := fun _ _ q => q
  refine lv_iload_n hx hb d30_0 rfl (lv_at hl 0 rfl) ?_
  refine lv_if_lt hx hb d30_1 rfl (fun h9 => absurd h9 (nI_pos (by omega))) (fun _ => ?_)
  refine lv_iload_n hx hb d30_4 rfl (lv_at hl 0 rfl) ?_
  refine lv_sipush (v := 255) hx hb d30_5 (by decide) ?_
  refine lv_icmp_gt hx hb d30_8 rfl (fun h9 => absurd h9 (show ¬ ((255 : Int32) < nI q) from nI_nlt (a := 255) (b := q) (by omega) (by decide))) (fun _ => ?_)
  refine lv_iconst (v := 1) hx hb d30_11 (by decide) ?_
  refine lv_goto hx hb d30_12 rfl ?_
  exact ht_zret X d30_16 I (Nat.le_of_ble_eq_true rfl) (Nat.le_of_ble_eq_true rfl) (⟨rfl, rfl, rfl⟩) (rfl)

set_option maxRecDepth 100000 in
set_option maxHeartbeats 8000000 in
theorem c_L1idx0 (l : Launch) (D : va_G) (dA : Nat → ClassId) (s0 : State) (hE : ms_EV D dA s0) (t : Nat) (u : Nat) (xs : List Nat) (q : Nat) (hn : xs.length < 2 ^ 30) (hc : ∀ c ∈ xs, c < 128) (hq : q < 128) : ht_C l D s0 yM31 bM31 4 (Option.some Jvm.ClassFile.FieldType.int) 1 25 0 0 [.ref u, .int (nI q), .int 0, .int (nI xs.length)] (fun h z => z t = some (u, xs)) (fun h z vv h1 z1 => vv = some (.int (if q ∈ xs then nI (xs.idxOf q) else -1)) ∧ h1 = h ∧ z1 = z) := by
  refine ht_C.mk hE.1 (by decide) (Nat.le_of_ble_eq_true rfl) [(0, .ref u), (1, .int (nI q)), (2, .int 0), (3, .int (nI xs.length))] rfl ?_
  intro p e s m below meth c ls h z X hin hpre I hl
  have hx := X.1
  have hb := X.2.1
  have hml := X.2.2.1
  have hown : s.vm.findClass "java/lang/StringLatin1" = some m.cls := X.2.2.2.1
  have hts := X.2.2.2.2.2.2.1
  have hK := X.2.2.2.2.2.2.2.2.1
  have hz := hpre
  have FR : ∀ (b : Nat) (e : va_E), h b = some e → h b = some e := fun _ _ q => q
  refine lv_iload_n hx hb d31_0 rfl (lv_at hl 1 rfl) ?_
  refine ht_S (rest := []) (as := [.int (nI q)]) X hl (c_canEncI l D dA s0 hE q (hq)) (List.forall_mem_cons.mpr ⟨ms_k961, List.forall_mem_cons.mpr ⟨ms_k962, List.forall_mem_cons.mpr ⟨ms_k12, List.forall_mem_cons.mpr ⟨ms_k963, fun _ h => absurd h List.not_mem_nil⟩⟩⟩⟩) ⟨by decide +kernel, by decide +kernel, (by decide +kernel : (parseMethodDescriptor "(I)Z").map (fun d => d.parameters.length) = some 1)⟩ I (trivial) ⟨⟨Nat.le_of_ble_eq_true rfl, Nat.le_of_ble_eq_true rfl⟩, Nat.le_of_ble_eq_true rfl, Nat.le_of_ble_eq_true rfl⟩ rfl (Nat.le_of_ble_eq_true rfl) d31_1 (fun vv h1 z1 H locs hR I9 => ?_)
  clear I
  obtain ⟨rfl, rfl, rfl⟩ := hR
  have I := I9
  clear I9
  refine W.eq (g2 := F0 m 4 ls [.int 1]) rfl ?_
  refine lv_if_ne hx hb d31_4 rfl (fun _ => ?_) (fun h9 => absurd h9 (by decide))
  refine lv_iload_n hx hb d31_9 rfl (lv_at hl 2 rfl) ?_
  refine lv_iconst (v := 0) hx hb d31_10 (by decide) ?_
  refine va_mmax hx hb (by rw [hml]; exact hl.1.symm) hown (hts _ ms_k964) (hts _ ms_k155) (hts _ ms_k9) (hts _ ms_k156) (Nat.le_of_ble_eq_true rfl) (Nat.le_of_ble_eq_true rfl) (Nat.le_of_ble_eq_true rfl) (Nat.le_of_ble_eq_true rfl) d31_11 ?_
  refine ms_top (y := 0) (by decide) ?_
  refine lv_istore_n hx hb d31_14 rfl hl (by decide) rfl (fun ls hl => ?_)
  have hl : lv_has ls 4 [(2, .int 0), (0, .ref u), (1, .int (nI q)), (3, .int (nI xs.length))] := hl
  refine lv_iload_n hx hb d31_15 rfl (lv_at hl 3 rfl) ?_
  refine lv_aload_n hx hb d31_16 rfl (lv_at hl 1 rfl) ?_
  refine hz_len X I hz d31_17 ?_
  refine va_mmin hx hb (by rw [hml]; exact hl.1.symm) hown (hts _ ms_k965) (hts _ ms_k173) (hts _ ms_k9) (hts _ ms_k174) (Nat.le_of_ble_eq_true rfl) (Nat.le_of_ble_eq_true rfl) (Nat.le_of_ble_eq_true rfl) (Nat.le_of_ble_eq_true rfl) d31_18 ?_
  refine ms_top (y := (nI xs.length)) (by split <;> rfl) ?_
  refine lv_istore_n hx hb d31_21 rfl hl (by decide) rfl (fun ls hl => ?_)
  have hl : lv_has ls 4 [(3, .int (nI xs.length)), (2, .int 0), (0, .ref u), (1, .int (nI q))] := hl
  refine lv_iload_n hx hb d31_22 rfl (lv_at hl 1 rfl) ?_
  refine lv_iload_n hx hb d31_23 rfl (lv_at hl 0 rfl) ?_
  refine lv_icmp_lt hx hb d31_24 rfl (fun hl9 => ?_) (fun hl9 => ?_)
  · refine lv_aload_n hx hb d31_29 rfl (lv_at hl 2 rfl) ?_
    refine lv_iload_n hx hb d31_30 rfl (lv_at hl 3 rfl) ?_
    refine lv_iload_n hx hb d31_31 rfl (lv_at hl 1 rfl) ?_
    refine lv_iload_n hx hb d31_32 rfl (lv_at hl 0 rfl) ?_
    refine ht_S (rest := []) (as := [.ref u, .int (nI q), .int 0, .int (nI xs.length)]) X hl (c_L1idx l D dA s0 hE t u xs q (hn) (hc) (hq)) (List.forall_mem_cons.mpr ⟨ms_k966, List.forall_mem_cons.mpr ⟨ms_k967, List.forall_mem_cons.mpr ⟨ms_k12, List.forall_mem_cons.mpr ⟨ms_k968, fun _ h => absurd h List.not_mem_nil⟩⟩⟩⟩) ⟨by decide +kernel, by decide +kernel, (by decide +kernel : (parseMethodDescriptor "([BIII)I").map (fun d => d.parameters.length) = some 4)⟩ I (hz) ⟨⟨Nat.le_of_ble_eq_true rfl, Nat.le_of_ble_eq_true rfl⟩, Nat.le_of_ble_eq_true rfl, Nat.le_of_ble_eq_true rfl⟩ rfl (Nat.le_of_ble_eq_true rfl) d31_33 (fun vv h1 z1 H locs hR I9 => ?_)
    clear I
    obtain ⟨rfl, rfl, rfl⟩ := hR
    have I := I9
    clear I9
    refine W.eq (g2 := F0 m 36 ls [.int (if q ∈ xs then nI (xs.idxOf q) else -1)]) rfl ?_
    exact ht_iret X d31_36 I (Nat.le_of_ble_eq_true rfl) (Nat.le_of_ble_eq_true rfl) (⟨rfl, rfl, rfl⟩)
  · refine lv_iconst (v := (-1)) hx hb d31_27 (by decide) ?_
    exact ht_iret X d31_28 I (Nat.le_of_ble_eq_true rfl) (Nat.le_of_ble_eq_true rfl) (⟨by rw [if_neg (show ¬ q ∈ xs from fun qq => by have e9 : xs.length = 0 := (by rcases Nat.eq_zero_or_pos xs.length with e8 | e8; exact e8; exact absurd (show (0 : Int32) < nI xs.length from nI_lt (a := 0) e8 (by omega)) hl9); rw [List.length_eq_zero_iff.mp e9] at qq; cases qq)], rfl, rfl⟩)

set_option maxRecDepth 100000 in
set_option maxHeartbeats 8000000 in
theorem c_Sidx2 (l : Launch) (D : va_G) (dA : Nat → ClassId) (s0 : State) (hE : ms_EV D dA s0) (t : Nat) (u : Nat) (xs : List Nat) (q : Nat) (hn : xs.length < 2 ^ 30) (hc : ∀ c ∈ xs, c < 128) (hq : q < 128) : ht_C l D s0 yM32 bM32 3 (Option.some Jvm.ClassFile.FieldType.int) 2 48 0 0 [.ref t, .int (nI q), .int 0] (fun h z => z t = some (u, xs)) (fun h z vv h1 z1 => vv = some (.int (if q ∈ xs then nI (xs.idxOf q) else -1)) ∧ h1 = h ∧ z1 = z) := by
  refine ht_C.mk hE.1 (by decide) (Nat.le_of_ble_eq_true rfl) [(0, .ref t), (1, .int (nI q)), (2, .int 0)] rfl ?_
  intro p e s m below meth c ls h z X hin hpre I hl
  have hx := X.1
  have hb := X.2.1
  have hml := X.2.2.1
  have hown : s.vm.findClass "java/lang/String" = some m.cls := X.2.2.2.1
  have hts := X.2.2.2.2.2.2.1
  have hK := X.2.2.2.2.2.2.2.2.1
  have hz := hpre
  have FR : ∀ (b : Nat) (e : va_E), h b = some e → h b = some e := fun _ _ q => q
  refine lv_aload_n hx hb d32_0 rfl (lv_at hl 0 rfl) ?_
  refine ht_V (C := "java/lang/String") (rest := []) (as := []) X hl (c_SisLat l D dA s0 hE t u xs) (List.forall_mem_cons.mpr ⟨ms_k402, List.forall_mem_cons.mpr ⟨ms_k403, List.forall_mem_cons.mpr ⟨ms_k404, List.forall_mem_cons.mpr ⟨ms_k4, List.forall_mem_cons.mpr ⟨ms_k405, fun _ h => absurd h List.not_mem_nil⟩⟩⟩⟩⟩) ⟨rfl, by decide +kernel, by decide +kernel, (by decide +kernel : (parseMethodDescriptor "()Z").map (fun d => d.parameters.length) = some 0)⟩ (hz_recv I hz) I (hz) ⟨⟨Nat.le_of_ble_eq_true rfl, Nat.le_of_ble_eq_true rfl⟩, Nat.le_of_ble_eq_true rfl, Nat.le_of_ble_eq_true rfl⟩ rfl (Nat.le_of_ble_eq_true rfl) d32_1 (fun vv h1 z1 H locs hR I9 => ?_)
  clear I
  obtain ⟨rfl, rfl, rfl⟩ := hR
  have I := I9
  clear I9
  refine W.eq (g2 := F0 m 4 ls [.int 1]) rfl ?_
  refine lv_if_eq hx hb d32_4 rfl (fun h9 => absurd h9 (by decide)) (fun _ => ?_)
  refine lv_aload_n hx hb d32_7 rfl (lv_at hl 0 rfl) ?_
  refine hz_val X I hz ms_k284 d32_8 ?_
  refine lv_iload_n hx hb d32_11 rfl (lv_at hl 1 rfl) ?_
  refine lv_iload_n hx hb d32_12 rfl (lv_at hl 2 rfl) ?_
  refine lv_aload_n hx hb d32_13 rfl (lv_at hl 0 rfl) ?_
  refine ht_V (C := "java/lang/String") (rest := [.int 0, .int (nI q), .ref u]) (as := []) X hl (c_Slen l D dA s0 hE t u xs) (List.forall_mem_cons.mpr ⟨ms_k554, List.forall_mem_cons.mpr ⟨ms_k391, List.forall_mem_cons.mpr ⟨ms_k392, List.forall_mem_cons.mpr ⟨ms_k4, List.forall_mem_cons.mpr ⟨ms_k393, fun _ h => absurd h List.not_mem_nil⟩⟩⟩⟩⟩) ⟨rfl, by decide +kernel, by decide +kernel, (by decide +kernel : (parseMethodDescriptor "()I").map (fun d => d.parameters.length) = some 0)⟩ (hz_recv I hz) I (hz) ⟨⟨Nat.le_of_ble_eq_true rfl, Nat.le_of_ble_eq_true rfl⟩, Nat.le_of_ble_eq_true rfl, Nat.le_of_ble_eq_true rfl⟩ rfl (Nat.le_of_ble_eq_true rfl) d32_14 (fun vv h1 z1 H locs hR I9 => ?_)
  clear I
  obtain ⟨rfl, rfl, rfl⟩ := hR
  have I := I9
  clear I9
  refine W.eq (g2 := F0 m 17 ls [.int (nI xs.length), .int 0, .int (nI q), .ref u]) rfl ?_
  refine ht_S (rest := []) (as := [.ref u, .int (nI q), .int 0, .int (nI xs.length)]) X hl (c_L1idx0 l D dA s0 hE t u xs q (hn) (hc) (hq)) (List.forall_mem_cons.mpr ⟨ms_k958, List.forall_mem_cons.mpr ⟨ms_k959, List.forall_mem_cons.mpr ⟨ms_k12, List.forall_mem_cons.mpr ⟨ms_k960, fun _ h => absurd h List.not_mem_nil⟩⟩⟩⟩) ⟨by decide +kernel, by decide +kernel, (by decide +kernel : (parseMethodDescriptor "([BIII)I").map (fun d => d.parameters.length) = some 4)⟩ I (hz) ⟨⟨Nat.le_of_ble_eq_true rfl, Nat.le_of_ble_eq_true rfl⟩, Nat.le_of_ble_eq_true rfl, Nat.le_of_ble_eq_true rfl⟩ rfl (Nat.le_of_ble_eq_true rfl) d32_17 (fun vv h1 z1 H locs hR I9 => ?_)
  clear I
  obtain ⟨rfl, rfl, rfl⟩ := hR
  have I := I9
  clear I9
  refine W.eq (g2 := F0 m 20 ls [.int (if q ∈ xs then nI (xs.idxOf q) else -1)]) rfl ?_
  refine lv_goto hx hb d32_20 rfl ?_
  exact ht_iret X d32_36 I (Nat.le_of_ble_eq_true rfl) (Nat.le_of_ble_eq_true rfl) (⟨rfl, rfl, rfl⟩)

set_option maxRecDepth 100000 in
set_option maxHeartbeats 8000000 in
theorem c_Sidx (l : Launch) (D : va_G) (dA : Nat → ClassId) (s0 : State) (hE : ms_EV D dA s0) (t : Nat) (u : Nat) (xs : List Nat) (q : Nat) (hn : xs.length < 2 ^ 30) (hc : ∀ c ∈ xs, c < 128) (hq : q < 128) : ht_C l D s0 yM33 bM33 2 (Option.some Jvm.ClassFile.FieldType.int) 3 70 0 0 [.ref t, .int (nI q)] (fun h z => z t = some (u, xs)) (fun h z vv h1 z1 => vv = some (.int (if q ∈ xs then nI (xs.idxOf q) else -1)) ∧ h1 = h ∧ z1 = z) := by
  refine ht_C.mk hE.1 (by decide) (Nat.le_of_ble_eq_true rfl) [(0, .ref t), (1, .int (nI q))] rfl ?_
  intro p e s m below meth c ls h z X hin hpre I hl
  have hx := X.1
  have hb := X.2.1
  have hml := X.2.2.1
  have hown : s.vm.findClass "java/lang/String" = some m.cls := X.2.2.2.1
  have hts := X.2.2.2.2.2.2.1
  have hK := X.2.2.2.2.2.2.2.2.1
  have hz := hpre
  have FR : ∀ (b : Nat) (e : va_E), h b = some e → h b = some e := fun _ _ q => q
  refine lv_aload_n hx hb d33_0 rfl (lv_at hl 0 rfl) ?_
  refine lv_iload_n hx hb d33_1 rfl (lv_at hl 1 rfl) ?_
  refine lv_iconst (v := 0) hx hb d33_2 (by decide) ?_
  refine ht_V (C := "java/lang/String") (rest := []) (as := [.int (nI q), .int 0]) X hl (c_Sidx2 l D dA s0 hE t u xs q (hn) (hc) (hq)) (List.forall_mem_cons.mpr ⟨ms_k954, List.forall_mem_cons.mpr ⟨ms_k955, List.forall_mem_cons.mpr ⟨ms_k956, List.forall_mem_cons.mpr ⟨ms_k4, List.forall_mem_cons.mpr ⟨ms_k957, fun _ h => absurd h List.not_mem_nil⟩⟩⟩⟩⟩) ⟨rfl, by decide +kernel, by decide +kernel, (by decide +kernel : (parseMethodDescriptor "(II)I").map (fun d => d.parameters.length) = some 2)⟩ (hz_recv I hz) I (hz) ⟨⟨Nat.le_of_ble_eq_true rfl, Nat.le_of_ble_eq_true rfl⟩, Nat.le_of_ble_eq_true rfl, Nat.le_of_ble_eq_true rfl⟩ rfl (Nat.le_of_ble_eq_true rfl) d33_3 (fun vv h1 z1 H locs hR I9 => ?_)
  clear I
  obtain ⟨rfl, rfl, rfl⟩ := hR
  have I := I9
  clear I9
  refine W.eq (g2 := F0 m 6 ls [.int (if q ∈ xs then nI (xs.idxOf q) else -1)]) rfl ?_
  exact ht_iret X d33_6 I (Nat.le_of_ble_eq_true rfl) (Nat.le_of_ble_eq_true rfl) (⟨rfl, rfl, rfl⟩)

set_option maxRecDepth 100000 in
set_option maxHeartbeats 8000000 in
theorem c_obCk (l : Launch) (D : va_G) (dA : Nat → ClassId) (s0 : State) (hE : ms_EV D dA s0) (i : Nat) (n : Nat) (hi : i < n) (hn : n < 2 ^ 31) : ht_C l D s0 yM34 bM34 2 (Option.some Jvm.ClassFile.FieldType.int) 1 22 0 0 [.int (nI i), .int (nI n)] (fun h z => True) (fun h z vv h1 z1 => vv = some (.int (nI i)) ∧ h1 = h ∧ z1 = z) := by
  refine ht_C.mk hE.1 (by decide) (Nat.le_of_ble_eq_true rfl) [(0, .int (nI i)), (1, .int (nI n))] rfl ?_
  intro p e s m below meth c ls h z X hin hpre I hl
  have hx := X.1
  have hb := X.2.1
  have hml := X.2.2.1
  have hown : s.vm.findClass "java/util/Objects" = some m.cls := X.2.2.2.1
  have hts := X.2.2.2.2.2.2.1
  have hK := X.2.2.2.2.2.2.2.2.1
  have FR : ∀ (b : Nat) (e : va_E), h b = some e → h b = some e := fun _ _ q => q
  refine lv_iload_n hx hb d34_0 rfl (lv_at hl 0 rfl) ?_
  refine lv_iload_n hx hb d34_1 rfl (lv_at hl 1 rfl) ?_
  refine lv_null hx hb d34_2 ?_
  refine ht_S (rest := []) (as := [.int (nI i), .int (nI n), .null]) X hl (c_pcIN l D dA s0 hE i n (hi) (hn)) (List.forall_mem_cons.mpr ⟨ms_k605, List.forall_mem_cons.mpr ⟨ms_k229, List.forall_mem_cons.mpr ⟨ms_k13, List.forall_mem_cons.mpr ⟨ms_k230, fun _ h => absurd h List.not_mem_nil⟩⟩⟩⟩) ⟨by decide +kernel, by decide +kernel, (by decide +kernel : (parseMethodDescriptor "(IILjava/util/function/BiFunction;)I").map (fun d => d.parameters.length) = some 3)⟩ I (trivial) ⟨⟨Nat.le_of_ble_eq_true rfl, Nat.le_of_ble_eq_true rfl⟩, Nat.le_of_ble_eq_true rfl, Nat.le_of_ble_eq_true rfl⟩ rfl (Nat.le_of_ble_eq_true rfl) d34_3 (fun vv h1 z1 H locs hR I9 => ?_)
  clear I
  obtain ⟨rfl, rfl, rfl⟩ := hR
  have I := I9
  clear I9
  refine W.eq (g2 := F0 m 6 ls [.int (nI i)]) rfl ?_
  exact ht_iret X d34_6 I (Nat.le_of_ble_eq_true rfl) (Nat.le_of_ble_eq_true rfl) (⟨rfl, rfl, rfl⟩)

set_option maxRecDepth 100000 in
set_option maxHeartbeats 8000000 in
theorem c_ALsize (l : Launch) (D : va_G) (dA : Nat → ClassId) (s0 : State) (hE : ms_EV D dA s0) (a : Nat) (d : Nat) (k : Nat) (mo : Int32) : ht_C l D s0 yM35 bM35 1 (Option.some Jvm.ClassFile.FieldType.int) 0 0 0 0 [.ref a] (fun h z => h a = some (.inr (4, [.int mo, .ref d, .int (nI k)]))) (fun h z vv h1 z1 => vv = some (.int (nI k)) ∧ h1 = h ∧ z1 = z) := by
  refine ht_C.mk hE.1 (by decide) (Nat.le_of_ble_eq_true rfl) [(0, .ref a)] rfl ?_
  intro p e s m below meth c ls h z X hin hpre I hl
  have hx := X.1
  have hb := X.2.1
  have hml := X.2.2.1
  have hown : s.vm.findClass "java/util/ArrayList" = some m.cls := X.2.2.2.1
  have hts := X.2.2.2.2.2.2.1
  have hK := X.2.2.2.2.2.2.2.2.1
  have c1 := hpre
  have FR : ∀ (b : Nat) (e : va_E), h b = some e → h b = some e := fun _ _ q => q
  refine lv_aload_n hx hb d35_0 rfl (lv_at hl 0 rfl) ?_
  refine va_get (D := D) (ci := 4) (v := .int (nI k)) (C := kR4) (T := kT4) (N := 3) hx hb hts ku4 hown hK (hm_one I.1 c1) 0 rfl rfl 2 (by decide) (hts _ ms_k337) (fun _ h => h) rfl d35_1 ?_
  exact ht_iret X d35_4 I (Nat.le_of_ble_eq_true rfl) (Nat.le_of_ble_eq_true rfl) (⟨rfl, rfl, rfl⟩)

set_option maxRecDepth 100000 in
set_option maxHeartbeats 8000000 in
theorem c_ALempty (l : Launch) (D : va_G) (dA : Nat → ClassId) (s0 : State) (hE : ms_EV D dA s0) (a : Nat) (d : Nat) (k : Nat) (mo : Int32) (hk : k < 2 ^ 31) : ht_C l D s0 yM36 bM36 1 (Option.some Jvm.ClassFile.FieldType.boolean) 0 0 0 0 [.ref a] (fun h z => h a = some (.inr (4, [.int mo, .ref d, .int (nI k)]))) (fun h z vv h1 z1 => vv = some (.int (if k = 0 then 1 else 0)) ∧ h1 = h ∧ z1 = z) := by
  refine ht_C.mk hE.1 (by decide) (Nat.le_of_ble_eq_true rfl) [(0, .ref a)] rfl ?_
  intro p e s m below meth c ls h z X hin hpre I hl
  have hx := X.1
  have hb := X.2.1
  have hml := X.2.2.1
  have hown : s.vm.findClass "java/util/ArrayList" = some m.cls := X.2.2.2.1
  have hts := X.2.2.2.2.2.2.1
  have hK := X.2.2.2.2.2.2.2.2.1
  have c1 := hpre
  have FR : ∀ (b : Nat) (e : va_E), h b = some e → h b = some e := fun _ _ q => q
  refine lv_aload_n hx hb d36_0 rfl (lv_at hl 0 rfl) ?_
  refine va_get (D := D) (ci := 4) (v := .int (nI k)) (C := kR4) (T := kT4) (N := 3) hx hb hts ku4 hown hK (hm_one I.1 c1) 0 rfl rfl 2 (by decide) (hts _ ms_k337) (fun _ h => h) rfl d36_1 ?_
  refine lv_if_ne hx hb d36_4 rfl (fun hq => ?_) (fun hq => ?_)
  · refine lv_iconst (v := 0) hx hb d36_11 (by decide) ?_
    exact ht_zret X d36_12 I (Nat.le_of_ble_eq_true rfl) (Nat.le_of_ble_eq_true rfl) (⟨by rw [if_neg (show ¬ k = 0 from fun q => by rw [q] at hq; exact hq rfl)], rfl, rfl⟩) (rfl)
  · refine lv_iconst (v := 1) hx hb d36_7 (by decide) ?_
    refine lv_goto hx hb d36_8 rfl ?_
    exact ht_zret X d36_12 I (Nat.le_of_ble_eq_true rfl) (Nat.le_of_ble_eq_true rfl) (⟨by rw [if_pos (show k = 0 by rcases Nat.eq_zero_or_pos k with q | q; exact q; exact absurd hq (nI_ne0 q hk))], rfl, rfl⟩) (rfl)

set_option maxRecDepth 100000 in
set_option maxHeartbeats 8000000 in
theorem c_ALel (l : Launch) (D : va_G) (dA : Nat → ClassId) (s0 : State) (hE : ms_EV D dA s0) (a : Nat) (d : Nat) (k : Nat) (mo : Int32) (n : Nat) (i : Nat) (q : Nat) (f : Nat → Option Nat) (hi : i < k) (hk : k ≤ n) (hn : n < 2 ^ 31) (hq : f i = some q) : ht_C l D s0 yM37 bM37 2 (Option.some (Jvm.ClassFile.FieldType.object "java/lang/Object")) 0 0 0 0 [.ref a, .int (nI i)] (fun h z => h a = some (.inr (4, [.int mo, .ref d, .int (nI k)])) ∧ h d = some (.inl (dA 6, n, .inr (.inr (.inr (.inr f)))))) (fun h z vv h1 z1 => vv = some (.ref q) ∧ h1 = h ∧ z1 = z) := by
  refine ht_C.mk hE.1 (by decide) (Nat.le_of_ble_eq_true rfl) [(0, .ref a), (1, .int (nI i))] rfl ?_
  intro p e s m below meth c ls h z X hin hpre I hl
  have hx := X.1
  have hb := X.2.1
  have hml := X.2.2.1
  have hown : s.vm.findClass "java/util/ArrayList" = some m.cls := X.2.2.2.1
  have hts := X.2.2.2.2.2.2.1
  have hK := X.2.2.2.2.2.2.2.2.1
  obtain ⟨c1, c2⟩ := hpre
  have FR : ∀ (b : Nat) (e : va_E), h b = some e → h b = some e := fun _ _ q => q
  refine lv_aload_n hx hb d37_0 rfl (lv_at hl 0 rfl) ?_
  refine va_get (D := D) (ci := 4) (v := .ref d) (C := kR4) (T := kT4) (N := 3) hx hb hts ku4 hown hK (hm_one I.1 c1) 0 rfl rfl 1 (by decide) (hts _ ms_k336) (fun _ h => h) rfl d37_1 ?_
  refine lv_iload_n hx hb d37_4 rfl (lv_at hl 1 rfl) ?_
  refine va_aldq hx hb hK (hm_one I.1 c2) 0 6 rfl rfl (vp_in_nI (by omega) hn) d37_5 ?_
  refine W.eq (g2 := F0 m 6 ls (.ref q :: [])) (by rw [nI_clamp (by omega), hq, show va_rf (some q) = Value.ref q from rfl]) ?_
  exact ht_aret X d37_6 I (Nat.le_of_ble_eq_true rfl) (Nat.le_of_ble_eq_true rfl) (⟨rfl, rfl, rfl⟩) (Or.inl ⟨_, rfl⟩) (Or.inr ⟨_, rfl⟩)

set_option maxRecDepth 100000 in
set_option maxHeartbeats 8000000 in
theorem c_ALget (l : Launch) (D : va_G) (dA : Nat → ClassId) (s0 : State) (hE : ms_EV D dA s0) (a : Nat) (d : Nat) (k : Nat) (mo : Int32) (n : Nat) (i : Nat) (q : Nat) (f : Nat → Option Nat) (hi : i < k) (hk : k ≤ n) (hn : n < 2 ^ 31) (hq : f i = some q) : ht_C l D s0 yM38 bM38 2 (Option.some (Jvm.ClassFile.FieldType.object "java/lang/Object")) 2 43 0 0 [.ref a, .int (nI i)] (fun h z => h a = some (.inr (4, [.int mo, .ref d, .int (nI k)])) ∧ h d = some (.inl (dA 6, n, .inr (.inr (.inr (.inr f)))))) (fun h z vv h1 z1 => vv = some (.ref q) ∧ h1 = h ∧ z1 = z) := by
  refine ht_C.mk hE.1 (by decide) (Nat.le_of_ble_eq_true rfl) [(0, .ref a), (1, .int (nI i))] rfl ?_
  intro p e s m below meth c ls h z X hin hpre I hl
  have hx := X.1
  have hb := X.2.1
  have hml := X.2.2.1
  have hown : s.vm.findClass "java/util/ArrayList" = some m.cls := X.2.2.2.1
  have hts := X.2.2.2.2.2.2.1
  have hK := X.2.2.2.2.2.2.2.2.1
  obtain ⟨c1, c2⟩ := hpre
  have FR : ∀ (b : Nat) (e : va_E), h b = some e → h b = some e := fun _ _ q => q
  refine lv_iload_n hx hb d38_0 rfl (lv_at hl 1 rfl) ?_
  refine lv_aload_n hx hb d38_1 rfl (lv_at hl 0 rfl) ?_
  refine va_get (D := D) (ci := 4) (v := .int (nI k)) (C := kR4) (T := kT4) (N := 3) hx hb hts ku4 hown hK (hm_one I.1 c1) 0 rfl rfl 2 (by decide) (hts _ ms_k337) (fun _ h => h) rfl d38_2 ?_
  refine ht_S (rest := []) (as := [.int (nI i), .int (nI k)]) X hl (c_obCk l D dA s0 hE i k (hi) (by omega)) (List.forall_mem_cons.mpr ⟨ms_k602, List.forall_mem_cons.mpr ⟨ms_k603, List.forall_mem_cons.mpr ⟨ms_k20, List.forall_mem_cons.mpr ⟨ms_k604, fun _ h => absurd h List.not_mem_nil⟩⟩⟩⟩) ⟨by decide +kernel, by decide +kernel, (by decide +kernel : (parseMethodDescriptor "(II)I").map (fun d => d.parameters.length) = some 2)⟩ I (trivial) ⟨⟨Nat.le_of_ble_eq_true rfl, Nat.le_of_ble_eq_true rfl⟩, Nat.le_of_ble_eq_true rfl, Nat.le_of_ble_eq_true rfl⟩ rfl (Nat.le_of_ble_eq_true rfl) d38_5 (fun vv h1 z1 H locs hR I9 => ?_)
  clear I
  obtain ⟨rfl, rfl, rfl⟩ := hR
  have I := I9
  clear I9
  refine W.eq (g2 := F0 m 8 ls [.int (nI i)]) rfl ?_
  refine lv_pop hx hb d38_8 rfl ?_
  refine lv_aload_n hx hb d38_9 rfl (lv_at hl 0 rfl) ?_
  refine lv_iload_n hx hb d38_10 rfl (lv_at hl 1 rfl) ?_
  refine ht_V (C := "java/util/ArrayList") (rest := []) (as := [.int (nI i)]) X hl (c_ALel l D dA s0 hE a d k mo n i q f (hi) (hk) (hn) (hq)) (List.forall_mem_cons.mpr ⟨ms_k606, List.forall_mem_cons.mpr ⟨ms_k607, List.forall_mem_cons.mpr ⟨ms_k608, List.forall_mem_cons.mpr ⟨ms_k18, List.forall_mem_cons.mpr ⟨ms_k609, fun _ h => absurd h List.not_mem_nil⟩⟩⟩⟩⟩) ⟨rfl, by decide +kernel, by decide +kernel, (by decide +kernel : (parseMethodDescriptor "(I)Ljava/lang/Object;").map (fun d => d.parameters.length) = some 1)⟩ (hm_recv hK I rfl c1) I (⟨c1, c2⟩) ⟨⟨Nat.le_of_ble_eq_true rfl, Nat.le_of_ble_eq_true rfl⟩, Nat.le_of_ble_eq_true rfl, Nat.le_of_ble_eq_true rfl⟩ rfl (Nat.le_of_ble_eq_true rfl) d38_11 (fun vv h1 z1 H locs hR I9 => ?_)
  clear I
  obtain ⟨rfl, rfl, rfl⟩ := hR
  have I := I9
  clear I9
  refine W.eq (g2 := F0 m 14 ls [.ref q]) rfl ?_
  exact ht_aret X d38_14 I (Nat.le_of_ble_eq_true rfl) (Nat.le_of_ble_eq_true rfl) (⟨rfl, rfl, rfl⟩) (Or.inl ⟨_, rfl⟩) (Or.inr ⟨_, rfl⟩)
