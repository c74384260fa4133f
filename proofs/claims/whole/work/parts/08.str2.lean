theorem ms_k619 : (Jvm.Cond.classLink "java/lang/String" (10 : Nat) "java/lang/String") ∈ ms_tb := ms_i3 139 (by decide +kernel) (by decide +kernel)
theorem ms_k620 : (Jvm.Cond.methodLink "java/lang/String" (541 : Nat) ({ cls := "java/lang/StringLatin1", name := "equals", desc := "([B[B)Z" } : Jvm.MethodName)) ∈ ms_tb := ms_i3 140 (by decide +kernel) (by decide +kernel)
theorem ms_k621 : (Jvm.Cond.static ({ cls := "java/lang/StringLatin1", name := "equals", desc := "([B[B)Z" } : Jvm.MethodName)) ∈ ms_tb := ms_i3 141 (by decide +kernel) (by decide +kernel)
theorem ms_k622 : (Jvm.Cond.code ({ cls := "java/lang/StringLatin1", name := "equals", desc := "([B[B)Z" } : Jvm.MethodName) prog_25_method_13_code (3 : Nat) (Option.some Jvm.ClassFile.FieldType.boolean)) ∈ ms_tb := ms_i3 142 (by decide +kernel) (by decide +kernel)
abbrev bM27 : ByteArray := prog_25_method_13_code
def yM27 : MethodName := ⟨"java/lang/StringLatin1", "equals", "([B[B)Z"⟩
abbrev bM28 : ByteArray := prog_23_method_66_code
def yM28 : MethodName := ⟨"java/lang/String", "equals", "(Ljava/lang/Object;)Z"⟩
abbrev bM29 : ByteArray := prog_25_method_23_code
def yM29 : MethodName := ⟨"java/lang/StringLatin1", "indexOfChar", "([BIII)I"⟩
theorem d27_0 : decode bM27 0 = .ok (.aload_n 0, 1) := by decide +kernel
theorem d27_1 : decode bM27 1 = .ok (.arraylength, 1) := by decide +kernel
theorem d27_2 : decode bM27 2 = .ok (.aload_n 1, 1) := by decide +kernel
theorem d27_3 : decode bM27 3 = .ok (.arraylength, 1) := by decide +kernel
theorem d27_4 : decode bM27 4 = .ok (.if_icmp .ne 30, 3) := by decide +kernel
theorem d27_7 : decode bM27 7 = .ok (.iconst 0, 1) := by decide +kernel
theorem d27_8 : decode bM27 8 = .ok (.istore_n 2, 1) := by decide +kernel
theorem d27_9 : decode bM27 9 = .ok (.iload_n 2, 1) := by decide +kernel
theorem d27_10 : decode bM27 10 = .ok (.aload_n 0, 1) := by decide +kernel
theorem d27_11 : decode bM27 11 = .ok (.arraylength, 1) := by decide +kernel
theorem d27_12 : decode bM27 12 = .ok (.if_icmp .ge 20, 3) := by decide +kernel
theorem d27_15 : decode bM27 15 = .ok (.aload_n 0, 1) := by decide +kernel
theorem d27_16 : decode bM27 16 = .ok (.iload_n 2, 1) := by decide +kernel
theorem d27_17 : decode bM27 17 = .ok (.baload, 1) := by decide +kernel
theorem d27_18 : decode bM27 18 = .ok (.aload_n 1, 1) := by decide +kernel
theorem d27_19 : decode bM27 19 = .ok (.iload_n 2, 1) := by decide +kernel
theorem d27_20 : decode bM27 20 = .ok (.baload, 1) := by decide +kernel
theorem d27_21 : decode bM27 21 = .ok (.if_icmp .eq 5, 3) := by decide +kernel
theorem d27_24 : decode bM27 24 = .ok (.iconst 0, 1) := by decide +kernel
theorem d27_25 : decode bM27 25 = .ok (.ireturn, 1) := by decide +kernel
theorem d27_26 : decode bM27 26 = .ok (.iinc 2 1, 3) := by decide +kernel
theorem d27_29 : decode bM27 29 = .ok (.goto (-20), 3) := by decide +kernel
theorem d27_32 : decode bM27 32 = .ok (.iconst 1, 1) := by decide +kernel
theorem d27_33 : decode bM27 33 = .ok (.ireturn, 1) := by decide +kernel
theorem d27_34 : decode bM27 34 = .ok (.iconst 0, 1) := by decide +kernel
theorem d27_35 : decode bM27 35 = .ok (.ireturn, 1) := by decide +kernel
theorem d28_0 : decode bM28 0 = .ok (.aload_n 0, 1) := by decide +kernel
theorem d28_1 : decode bM28 1 = .ok (.aload_n 1, 1) := by decide +kernel
theorem d28_2 : decode bM28 2 = .ok (.if_acmp .ne 5, 3) := by decide +kernel
theorem d28_5 : decode bM28 5 = .ok (.iconst 1, 1) := by decide +kernel
theorem d28_6 : decode bM28 6 = .ok (.ireturn, 1) := by decide +kernel
theorem d28_7 : decode bM28 7 = .ok (.aload_n 1, 1) := by decide +kernel
theorem d28_8 : decode bM28 8 = .ok (.instanceof 10, 3) := by decide +kernel
theorem d28_11 : decode bM28 11 = .ok (.ifCond .eq 43, 3) := by decide +kernel
theorem d28_14 : decode bM28 14 = .ok (.aload_n 1, 1) := by decide +kernel
theorem d28_15 : decode bM28 15 = .ok (.checkcast 10, 3) := by decide +kernel
theorem d28_18 : decode bM28 18 = .ok (.astore_n 2, 1) := by decide +kernel
theorem d28_19 : decode bM28 19 = .ok (.getstatic 38, 3) := by decide +kernel
theorem d28_22 : decode bM28 22 = .ok (.ifCond .eq 14, 3) := by decide +kernel
theorem d28_25 : decode bM28 25 = .ok (.aload_n 0, 1) := by decide +kernel
theorem d28_26 : decode bM28 26 = .ok (.getfield 15, 3) := by decide +kernel
theorem d28_29 : decode bM28 29 = .ok (.aload_n 2, 1) := by decide +kernel
theorem d28_30 : decode bM28 30 = .ok (.getfield 15, 3) := by decide +kernel
theorem d28_33 : decode bM28 33 = .ok (.if_icmp .ne 21, 3) := by decide +kernel
theorem d28_36 : decode bM28 36 = .ok (.aload_n 0, 1) := by decide +kernel
theorem d28_37 : decode bM28 37 = .ok (.getfield 9, 3) := by decide +kernel
theorem d28_40 : decode bM28 40 = .ok (.aload_n 2, 1) := by decide +kernel
theorem d28_41 : decode bM28 41 = .ok (.getfield 9, 3) := by decide +kernel
theorem d28_44 : decode bM28 44 = .ok (.invokestatic 541, 3) := by decide +kernel
theorem d28_47 : decode bM28 47 = .ok (.ifCond .eq 7, 3) := by decide +kernel
theorem d28_50 : decode bM28 50 = .ok (.iconst 1, 1) := by decide +kernel
theorem d28_51 : decode bM28 51 = .ok (.goto 4, 3) := by decide +kernel
theorem d28_54 : decode bM28 54 = .ok (.iconst 0, 1) := by decide +kernel
theorem d28_55 : decode bM28 55 = .ok (.ireturn, 1) := by decide +kernel
theorem d29_0 : decode bM29 0 = .ok (.iload_n 1, 1) := by decide +kernel
theorem d29_1 : decode bM29 1 = .ok (.i2b, 1) := by decide +kernel
theorem d29_2 : decode bM29 2 = .ok (.istore 4, 2) := by decide +kernel
theorem d29_4 : decode bM29 4 = .ok (.iload_n 2, 1) := by decide +kernel
theorem d29_5 : decode bM29 5 = .ok (.istore 5, 2) := by decide +kernel
theorem d29_7 : decode bM29 7 = .ok (.iload 5, 2) := by decide +kernel
theorem d29_9 : decode bM29 9 = .ok (.iload_n 3, 1) := by decide +kernel
theorem d29_10 : decode bM29 10 = .ok (.if_icmp .ge 21, 3) := by decide +kernel
theorem d29_13 : decode bM29 13 = .ok (.aload_n 0, 1) := by decide +kernel
theorem d29_14 : decode bM29 14 = .ok (.iload 5, 2) := by decide +kernel
theorem d29_16 : decode bM29 16 = .ok (.baload, 1) := by decide +kernel
theorem d29_17 : decode bM29 17 = .ok (.iload 4, 2) := by decide +kernel
theorem d29_19 : decode bM29 19 = .ok (.if_icmp .ne 6, 3) := by decide +kernel
theorem d29_22 : decode bM29 22 = .ok (.iload 5, 2) := by decide +kernel
theorem d29_24 : decode bM29 24 = .ok (.ireturn, 1) := by decide +kernel
theorem d29_25 : decode bM29 25 = .ok (.iinc 5 1, 3) := by decide +kernel
theorem d29_28 : decode bM29 28 = .ok (.goto (-21), 3) := by decide +kernel
theorem d29_31 : decode bM29 31 = .ok (.iconst (-1), 1) := by decide +kernel
theorem d29_32 : decode bM29 32 = .ok (.ireturn, 1) := by decide +kernel
theorem tx_ext {xs ys : List Nat} (hl : xs.length = ys.length) (h : ∀ j, j < xs.length → xs.getD j 0 = ys.getD j 0) : xs = ys := by
  apply List.ext_getElem hl
  intro i h1 h2
  have := h i h1
  rw [List.getD_eq_getElem?_getD, List.getD_eq_getElem?_getD, List.getElem?_eq_getElem h1, List.getElem?_eq_getElem h2] at this
  exact this
theorem tx_i2b {c : Nat} (h : c < 128) : (nI c).toInt8.toInt32 = nI c := by
  have : ∀ c : Fin 128, (nI c.val).toInt8.toInt32 = nI c.val := by decide +kernel
  exact this ⟨c, h⟩
theorem tx_idx {xs : List Nat} {q i : Nat} (hi : i < xs.length) (he : xs.getD i 0 = q) (hb : ∀ j, j < i → xs.getD j 0 ≠ q) : nI (xs.idxOf q) = nI i := by
  congr 1
  have hm : xs.getD i 0 = xs[i] := by rw [List.getD_eq_getElem?_getD, List.getElem?_eq_getElem hi]; rfl
  have h1 : xs.idxOf q ≤ i := by
    rcases Nat.lt_or_ge i (xs.idxOf q) with h | h
    · have := List.not_of_lt_findIdx (p := (· == q)) (xs := xs) h
      rw [← hm, he] at this
      simp at this
    · exact h
  rcases Nat.lt_or_ge (xs.idxOf q) i with h | h
  · have h2 : xs.idxOf q < xs.length := by omega
    have h3 := hb _ h
    rw [List.getD_eq_getElem?_getD, List.getElem?_eq_getElem h2] at h3
    exact absurd (List.getElem_idxOf h2) h3
  · omega
theorem nI_ne {a b : Nat} (ha : a < 2 ^ 31) (hb : b < 2 ^ 31) (h : a ≠ b) : ¬ nI a = nI b := fun q => h ((nI_eq ha hb).mp q)

set_option maxRecDepth 100000 in
set_option maxHeartbeats 8000000 in
theorem c_L1eq (l : Launch) (D : va_G) (dA : Nat → ClassId) (s0 : State) (hE : ms_EV D dA s0) (t1 : Nat) (u1 : Nat) (xs : List Nat) (t2 : Nat) (u2 : Nat) (ys : List Nat) (hn1 : xs.length < 2 ^ 31) (hn2 : ys.length < 2 ^ 31) (hc1 : ∀ c ∈ xs, c < 128) (hc2 : ∀ c ∈ ys, c < 128) : ht_C l D s0 yM27 bM27 3 (Option.some Jvm.ClassFile.FieldType.boolean) 0 0 0 0 [.ref u1, .ref u2] (fun h z => z t1 = some (u1, xs) ∧ z t2 = some (u2, ys)) (fun h z vv h1 z1 => vv = some (.int (if xs = ys then 1 else 0)) ∧ h1 = h ∧ z1 = z) := by
  refine ht_C.mk hE.1 (by decide) (Nat.le_of_ble_eq_true rfl) [(0, .ref u1), (1, .ref u2)] rfl ?_
  intro p e s m below meth c ls h z X hin hpre I hl
  have hx := X.1
  have hb := X.2.1
  have hml := X.2.2.1
  have hown : s.vm.findClass "java/lang/StringLatin1" = some m.cls := X.2.2.2.1
  have hts := X.2.2.2.2.2.2.1
  have hK := X.2.2.2.2.2.2.2.2.1
  obtain ⟨hz1, hz2⟩ := hpre
  have FR : ∀ (b : Nat) (e : va_E), h b = some e → h b = some e := fun _ _ q => q
  refine lv_aload_n hx hb d27_0 rfl (lv_at hl 0 rfl) ?_
  refine hz_len X I hz1 d27_1 ?_
  refine lv_aload_n hx hb d27_2 rfl (lv_at hl 1 rfl) ?_
  refine hz_len X I hz2 d27_3 ?_
  refine lv_icmp_ne hx hb d27_4 rfl (fun hd => ?_) (fun hd => ?_)
  · refine lv_iconst (v := 0) hx hb d27_34 (by decide) ?_
    exact ht_zret X d27_35 I (Nat.le_of_ble_eq_true rfl) (Nat.le_of_ble_eq_true rfl) (⟨by rw [if_neg (fun q => hd (by rw [q]))], rfl, rfl⟩) (rfl)
  · have hlen : xs.length = ys.length := (nI_eq hn1 hn2).mp hd
    refine lv_iconst (v := 0) hx hb d27_7 (by decide) ?_
    refine lv_istore_n hx hb d27_8 rfl hl (by decide) rfl (fun ls hl => ?_)
    have hl : lv_has ls 3 [(2, .int 0), (0, .ref u1), (1, .ref u2)] := hl
    have loop : ∀ (n i : Nat) (ls : Array Slot), i + n = xs.length → (∀ j, j < i → xs.getD j 0 = ys.getD j 0) → lv_has ls 3 [(2, .int (nI i)), (0, .ref u1), (1, .ref u2)] → W p l e { frames := 0, cells := 0, slots := 0, locals := 0 } s m ([.ref u1, .ref u2] : List Value).toArray below meth c s.heap [] 0 0 (MQ below (ht_Q D s0 (fun vv h1 z1 => vv = some (.int (if xs = ys then 1 else 0)) ∧ h1 = h ∧ z1 = z)) ([.ref u1, .ref u2] : List Value).toArray s 0 0 (fun q => s0.heap.size ≤ q)) (F0 m 9 ls []) := by
      intro n
      induction n with
      | zero =>
        intro i ls hn9 hinv hl
        refine lv_iload_n hx hb d27_9 rfl (lv_at hl 0 rfl) ?_
        refine lv_aload_n hx hb d27_10 rfl (lv_at hl 1 rfl) ?_
        refine hz_len X I hz1 d27_11 ?_
        refine lv_icmp_ge hx hb d27_12 rfl (fun _ => ?_) (fun h9 => absurd (nI_le (by omega) (by omega)) h9)
        refine lv_iconst (v := 1) hx hb d27_32 (by decide) ?_
        exact ht_zret X d27_33 I (Nat.le_of_ble_eq_true rfl) (Nat.le_of_ble_eq_true rfl) (⟨by rw [if_pos (tx_ext hlen (fun j hj => hinv j (by omega)))], rfl, rfl⟩) (rfl)
      | succ n ih =>
        intro i ls hn9 hinv hl
        refine lv_iload_n hx hb d27_9 rfl (lv_at hl 0 rfl) ?_
        refine lv_aload_n hx hb d27_10 rfl (lv_at hl 1 rfl) ?_
        refine hz_len X I hz1 d27_11 ?_
        refine lv_icmp_ge hx hb d27_12 rfl (fun h9 => absurd h9 (nI_ge (by omega) (by omega))) (fun _ => ?_)
        refine lv_aload_n hx hb d27_15 rfl (lv_at hl 1 rfl) ?_
        refine lv_iload_n hx hb d27_16 rfl (lv_at hl 0 rfl) ?_
        refine hz_ald (i := i) X I hz1 (by omega) (by omega) d27_17 ?_
        refine lv_aload_n hx hb d27_18 rfl (lv_at hl 2 rfl) ?_
        refine lv_iload_n hx hb d27_19 rfl (lv_at hl 0 rfl) ?_
        refine hz_ald (i := i) X I hz2 (by omega) (by omega) d27_20 ?_
        refine lv_icmp_eq hx hb d27_21 rfl (fun hc => ?_) (fun hc => ?_)
        · refine lv_iinc (k := 0) (v := (nI (i + 1))) hx hb d27_26 hl rfl (nI_1 i) (by decide) rfl (fun ls hl => ?_)
          have hl : lv_has ls 3 [(2, .int (nI (i + 1))), (0, .ref u1), (1, .ref u2)] := hl
          refine lv_goto hx hb d27_29 rfl ?_
          exact ih (i + 1) ls (by omega) (lt_s hinv ((nI_eq (Nat.lt_trans (tx_get hc1 i) (by decide)) (Nat.lt_trans (tx_get hc2 i) (by decide))).mp hc)) hl
        · refine lv_iconst (v := 0) hx hb d27_24 (by decide) ?_
          exact ht_zret X d27_25 I (Nat.le_of_ble_eq_true rfl) (Nat.le_of_ble_eq_true rfl) (⟨by rw [if_neg (fun q => hc (by rw [q]))], rfl, rfl⟩) (rfl)
    exact loop (xs.length - 0) 0 ls (by omega) (fun j hj => absurd hj (Nat.not_lt_zero _)) hl

set_option maxRecDepth 100000 in
set_option maxHeartbeats 8000000 in
theorem c_Seq (l : Launch) (D : va_G) (dA : Nat → ClassId) (s0 : State) (hE : ms_EV D dA s0) (t1 : Nat) (u1 : Nat) (xs : List Nat) (t2 : Nat) (u2 : Nat) (ys : List Nat) (hn1 : xs.length < 2 ^ 31) (hn2 : ys.length < 2 ^ 31) (hc1 : ∀ c ∈ xs, c < 128) (hc2 : ∀ c ∈ ys, c < 128) : ht_C l D s0 yM28 bM28 3 (Option.some Jvm.ClassFile.FieldType.boolean) 1 22 0 0 [.ref t1, .ref t2] (fun h z => z t1 = some (u1, xs) ∧ z t2 = some (u2, ys)) (fun h z vv h1 z1 => vv = some (.int (if xs = ys then 1 else 0)) ∧ h1 = h ∧ z1 = z) := by
  refine ht_C.mk hE.1 (by decide) (Nat.le_of_ble_eq_true rfl) [(0, .ref t1), (1, .ref t2)] rfl ?_
  intro p e s m below meth c ls h z X hin hpre I hl
  have hx := X.1
  have hb := X.2.1
  have hml := X.2.2.1
  have hown : s.vm.findClass "java/lang/String" = some m.cls := X.2.2.2.1
  have hts := X.2.2.2.2.2.2.1
  have hK := X.2.2.2.2.2.2.2.2.1
  obtain ⟨hz1, hz2⟩ := hpre
  have FR : ∀ (b : Nat) (e : va_E), h b = some e → h b = some e := fun _ _ q => q
  refine lv_aload_n hx hb d28_0 rfl (lv_at hl 0 rfl) ?_
  refine lv_aload_n hx hb d28_1 rfl (lv_at hl 1 rfl) ?_
  refine lv_acmp_ne (rx := (some t1)) (ry := (some t2)) hx hb d28_2 rfl (fun ha => ?_) (fun ha => ?_)
  · refine lv_aload_n hx hb d28_7 rfl (lv_at hl 1 rfl) ?_
    refine va_instE hx hb hown (hts _ ms_k619) (hz_recv I hz2) d28_8 ?_
    refine lv_if_eq hx hb d28_11 rfl (fun h9 => absurd h9 (by decide)) (fun _ => ?_)
    refine lv_aload_n hx hb d28_14 rfl (lv_at hl 1 rfl) ?_
    refine va_castE hx hb hown (hts _ ms_k619) (hz_recv I hz2) d28_15 ?_
    refine lv_astore_n hx hb d28_18 rfl hl (by decide) rfl (fun ls hl => ?_)
    have hl : lv_has ls 3 [(2, .ref t2), (0, .ref t1), (1, .ref t2)] := hl
    refine va_gets (own := "java/lang/String") hx hb (ms_z hE.2.2.1 X) I.2.2.1 hown (hts _ ms_k270) (fun _ h => h) d28_19 ?_
    refine lv_if_eq hx hb d28_22 rfl (fun h9 => absurd h9 (by decide)) (fun _ => ?_)
    refine lv_aload_n hx hb d28_25 rfl (lv_at hl 1 rfl) ?_
    refine hz_cod X I hz1 ms_k285 d28_26 ?_
    refine lv_aload_n hx hb d28_29 rfl (lv_at hl 0 rfl) ?_
    refine hz_cod X I hz2 ms_k285 d28_30 ?_
    refine lv_icmp_ne hx hb d28_33 rfl (fun h9 => absurd (by decide) h9) (fun _ => ?_)
    refine lv_aload_n hx hb d28_36 rfl (lv_at hl 1 rfl) ?_
    refine hz_val X I hz1 ms_k284 d28_37 ?_
    refine lv_aload_n hx hb d28_40 rfl (lv_at hl 0 rfl) ?_
    refine hz_val X I hz2 ms_k284 d28_41 ?_
    refine ht_S (rest := []) (as := [.ref u1, .ref u2]) X hl (c_L1eq l D dA s0 hE t1 u1 xs t2 u2 ys (hn1) (hn2) (hc1) (hc2)) (List.forall_mem_cons.mpr ⟨ms_k620, List.forall_mem_cons.mpr ⟨ms_k621, List.forall_mem_cons.mpr ⟨ms_k12, List.forall_mem_cons.mpr ⟨ms_k622, fun _ h => absurd h List.not_mem_nil⟩⟩⟩⟩) ⟨by decide +kernel, by decide +kernel, (by decide +kernel : (parseMethodDescriptor "([B[B)Z").map (fun d => d.parameters.length) = some 2)⟩ I (⟨hz1, hz2⟩) ⟨⟨Nat.le_of_ble_eq_true rfl, Nat.le_of_ble_eq_true rfl⟩, Nat.le_of_ble_eq_true rfl, Nat.le_of_ble_eq_true rfl⟩ rfl (Nat.le_of_ble_eq_true rfl) d28_44 (fun vv h1 z1 H locs hR I9 => ?_)
    clear I
    obtain ⟨rfl, rfl, rfl⟩ := hR
    have I := I9
    clear I9
    refine W.eq (g2 := F0 m 47 ls [.int (if xs = ys then 1 else 0)]) rfl ?_
    refine lv_if_eq hx hb d28_47 rfl (fun hc => ?_) (fun hc => ?_)
    · refine lv_iconst (v := 0) hx hb d28_54 (by decide) ?_
      exact ht_zret X d28_55 I (Nat.le_of_ble_eq_true rfl) (Nat.le_of_ble_eq_true rfl) (⟨by rw [if_neg (fun q => by rw [if_pos q] at hc; exact absurd hc (by decide))], rfl, rfl⟩) (rfl)
    · refine lv_iconst (v := 1) hx hb d28_50 (by decide) ?_
      refine lv_goto hx hb d28_51 rfl ?_
      exact ht_zret X d28_55 I (Nat.le_of_ble_eq_true rfl) (Nat.le_of_ble_eq_true rfl) (⟨by rw [if_pos (Classical.byContradiction fun q => by rw [if_neg q] at hc; exact hc rfl)], rfl, rfl⟩) (rfl)
  · refine lv_iconst (v := 1) hx hb d28_5 (by decide) ?_
    exact ht_zret X d28_6 I (Nat.le_of_ble_eq_true rfl) (Nat.le_of_ble_eq_true rfl) (⟨by rw [if_pos (show xs = ys by have q := Option.some.inj ha; rw [q] at hz1; rw [hz1] at hz2; cases hz2; rfl)], rfl, rfl⟩) (rfl)

set_option maxRecDepth 100000 in
set_option maxHeartbeats 8000000 in
theorem c_L1idx (l : Launch) (D : va_G) (dA : Nat → ClassId) (s0 : State) (hE : ms_EV D dA s0) (t : Nat) (u : Nat) (xs : List Nat) (q : Nat) (hn : xs.length < 2 ^ 30) (hc : ∀ c ∈ xs, c < 128) (hq : q < 128) : ht_C l D s0 yM29 bM29 6 (Option.some Jvm.ClassFile.FieldType.int) 0 0 0 0 [.ref u, .int (nI q), .int 0, .int (nI xs.length)] (fun h z => z t = some (u, xs)) (fun h z vv h1 z1 => vv = some (.int (if q ∈ xs then nI (xs.idxOf q) else -1)) ∧ h1 = h ∧ z1 = z) := by
  refine ht_C.mk hE.1 (by decide) (Nat.le_of_ble_eq_true rfl) [(0, .ref u), (1, .int (nI q)), (2, .int 0), (3, .int (nI xs.length))] rfl ?_
  intro p e s m below meth c ls h z X hin hpre I hl
  have hx := X.1
  have hb := X.2.1
  have hml := X.2.2.1
  have hown : s.vm.findClass "java/lang/StringLatin1" = some m.cls := X.2.2.2.1
  have hts := X.2.2.2.2.2.2.1
  have hK := X.2.2.2.2.2.2.2.2.1
  have hz := hpre
  have FR : ∀ (b : Nat) (e : va_E), h b = some e → h b = some e := fun _ _ q => q
  refine lv_iload_n hx hb d29_0 rfl (lv_at hl 1 rfl) ?_
  refine lv_i2b (v := (nI q)) hx hb d29_1 (tx_i2b hq) ?_
  refine lv_istore hx hb d29_2 hl (by decide) rfl (fun ls hl => ?_)
  have hl : lv_has ls 6 [(4, .int (nI q)), (0, .ref u), (1, .int (nI q)), (2, .int 0), (3, .int (nI xs.length))] := hl
  refine lv_iload_n hx hb d29_4 rfl (lv_at hl 3 rfl) ?_
  refine lv_istore hx hb d29_5 hl (by decide) rfl (fun ls hl => ?_)
  have hl : lv_has ls 6 [(5, .int 0), (4, .int (nI q)), (0, .ref u), (1, .int (nI q)), (2, .int 0), (3, .int (nI xs.length))] := hl
  have loop : ∀ (n i : Nat) (ls : Array Slot), i + n = xs.length → (∀ j, j < i → xs.getD j 0 ≠ q) → lv_has ls 6 [(5, .int (nI i)), (4, .int (nI q)), (0, .ref u), (1, .int (nI q)), (2, .int 0), (3, .int (nI xs.length))] → W p l e { frames := 0, cells := 0, slots := 0, locals := 0 } s m ([.ref u, .int (nI q), .int 0, .int (nI xs.length)] : List Value).toArray below meth c s.heap [] 0 0 (MQ below (ht_Q D s0 (fun vv h1 z1 => vv = some (.int (if q ∈ xs then nI (xs.idxOf q) else -1)) ∧ h1 = h ∧ z1 = z)) ([.ref u, .int (nI q), .int 0, .int (nI xs.length)] : List Value).toArray s 0 0 (fun q => s0.heap.size ≤ q)) (F0 m 7 ls []) := by
    intro n
    induction n with
    | zero =>
      intro i ls hn9 hinv hl
      refine lv_iload hx hb d29_7 (lv_at hl 0 rfl) ?_
      refine lv_iload_n hx hb d29_9 rfl (lv_at hl 5 rfl) ?_
      refine lv_icmp_ge hx hb d29_10 rfl (fun _ => ?_) (fun h9 => absurd (nI_le (by omega) (by omega)) h9)
      refine lv_iconst (v := (-1)) hx hb d29_31 (by decide) ?_
      exact ht_iret X d29_32 I (Nat.le_of_ble_eq_true rfl) (Nat.le_of_ble_eq_true rfl) (⟨by rw [if_neg (fun qq => by obtain ⟨j, hj, e9⟩ := List.getElem_of_mem qq; exact hinv j (by omega) (by rw [List.getD_eq_getElem?_getD, List.getElem?_eq_getElem hj]; exact e9))], rfl, rfl⟩)
    | succ n ih =>
      intro i ls hn9 hinv hl
      refine lv_iload hx hb d29_7 (lv_at hl 0 rfl) ?_
      refine lv_iload_n hx hb d29_9 rfl (lv_at hl 5 rfl) ?_
      refine lv_icmp_ge hx hb d29_10 rfl (fun h9 => absurd h9 (nI_ge (by omega) (by omega))) (fun _ => ?_)
      refine lv_aload_n hx hb d29_13 rfl (lv_at hl 2 rfl) ?_
      refine lv_iload hx hb d29_14 (lv_at hl 0 rfl) ?_
      refine hz_ald (i := i) X I hz (by omega) (by omega) d29_16 ?_
      refine lv_iload hx hb d29_17 (lv_at hl 1 rfl) ?_
      refine lv_icmp_ne hx hb d29_19 rfl (fun hd => ?_) (fun hd => ?_)
      · refine lv_iinc (k := 0) (v := (nI (i + 1))) hx hb d29_25 hl rfl (nI_1 i) (by decide) rfl (fun ls hl => ?_)
        have hl : lv_has ls 6 [(5, .int (nI (i + 1))), (4, .int (nI q)), (0, .ref u), (1, .int (nI q)), (2, .int 0), (3, .int (nI xs.length))] := hl
        refine lv_goto hx hb d29_28 rfl ?_
        exact ih (i + 1) ls (by omega) (lt_s hinv (fun e9 => hd (by rw [e9]))) hl
      · refine lv_iload hx hb d29_22 (lv_at hl 0 rfl) ?_
        exact ht_iret X d29_24 I (Nat.le_of_ble_eq_true rfl) (Nat.le_of_ble_eq_true rfl) (⟨by rw [if_pos (show q ∈ xs by have e9 := (nI_eq (Nat.lt_trans (tx_get hc i) (by decide)) (by omega)).mp hd; rw [← e9, List.getD_eq_getElem?_getD, List.getElem?_eq_getElem (by omega)]; exact List.getElem_mem _), tx_idx (by omega) ((nI_eq (Nat.lt_trans (tx_get hc i) (by decide)) (by omega)).mp hd) hinv], rfl, rfl⟩)
  exact loop (xs.length - 0) 0 ls (by omega) (fun j hj => absurd hj (Nat.not_lt_zero _)) hl
