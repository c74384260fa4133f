abbrev bM39 : ByteArray := prog_23_method_151_code
def yM39 : MethodName := ⟨"java/lang/String", "<init>", "([BB)V"⟩
theorem d39_0 : decode bM39 0 = .ok (.aload_n 0, 1) := by decide +kernel
theorem d39_1 : decode bM39 1 = .ok (.invokespecial 1, 3) := by decide +kernel
theorem d39_4 : decode bM39 4 = .ok (.aload_n 0, 1) := by decide +kernel
theorem d39_5 : decode bM39 5 = .ok (.aload_n 1, 1) := by decide +kernel
theorem d39_6 : decode bM39 6 = .ok (.putfield 9, 3) := by decide +kernel
theorem d39_9 : decode bM39 9 = .ok (.aload_n 0, 1) := by decide +kernel
theorem d39_10 : decode bM39 10 = .ok (.iload_n 2, 1) := by decide +kernel
theorem d39_11 : decode bM39 11 = .ok (.putfield 15, 3) := by decide +kernel
theorem d39_14 : decode bM39 14 = .ok (.return_, 1) := by decide +kernel
theorem tx_sl {xs : List Nat} {i j k : Nat} (hj : j ≤ xs.length) (hk : i + k < j) : ((xs.drop i).take (j - i)).getD k 0 = xs.getD (i + k) 0 := by
  rw [List.getD_eq_getElem?_getD, List.getD_eq_getElem?_getD, List.getElem?_take_of_lt (by omega), List.getElem?_drop]
theorem tx_sln {xs : List Nat} {i j : Nat} (hi : i ≤ j) (hj : j ≤ xs.length) : ((xs.drop i).take (j - i)).length = j - i := by
  rw [List.length_take, List.length_drop]; omega
theorem tx_slc {xs : List Nat} {i j : Nat} (h : ∀ c ∈ xs, c < 128) : ∀ c ∈ (xs.drop i).take (j - i), c < 128 := fun c hc => h c (List.mem_of_mem_drop (List.mem_of_mem_take hc))

set_option maxRecDepth 100000 in
set_option maxHeartbeats 8000000 in
theorem c_SinitB (l : Launch) (D : va_G) (dA : Nat → ClassId) (s0 : State) (hE : ms_EV D dA s0) (t : Nat) (u : Nat) : ms_C l D s0 yM39 bM39 3 (Option.none : Option Jvm.ClassFile.FieldType) 1 12 0 0 [.ref t, .ref u, .int 0] [(t, .inr (5, [.null, .int 0, .int 0, .int 0]))] (fun vv ww => vv = none ∧ ww = [(t, .inr (5, [.ref u, .int 0, .int 0, .int 0]))]) := by
  refine ms_C.mk hE.1 (by decide) (Nat.le_of_ble_eq_true rfl) [(0, .ref t), (1, .ref u), (2, .int 0)] rfl ?_
  intro p e s m below meth c A ls X hin hP hD hS hl
  have hx := X.1
  have hb := X.2.1
  have hml := X.2.2.1
  have hown : s.vm.findClass "java/lang/String" = some m.cls := X.2.2.2.1
  have hts := X.2.2.2.2.2.2.1
  have hK := X.2.2.2.2.2.2.2.2.1
  have hA := X.2.2.2.2.2.2.2.2.2.2
  refine lv_aload_n hx hb d39_0 rfl (lv_at hl 0 rfl) ?_
  refine W.objInit hx hb hown (hts _ ms_k253) (hts _ ms_k37) (hts _ ms_k38) rfl (by rw [hml]; exact hl.1) rfl d39_1 (Nat.le_of_ble_eq_true rfl) (Nat.le_of_ble_eq_true rfl) ?_
  refine W.eq (g2 := F0 m 4 ls []) rfl ?_
  refine lv_aload_n hx hb d39_4 rfl (lv_at hl 0 rfl) ?_
  refine lv_aload_n hx hb d39_5 rfl (lv_at hl 1 rfl) ?_
  refine va_putF (D := D) (ci := 5) (v := .ref u) (ty := (.array .byte)) (C := kR5) (T := kT5) (N := 4) hx hb hts ku5 kt5 kp5 kn5 hown hK hP hD hS 0 rfl rfl 0 (by decide) (hts _ ms_k284) (fun _ h => h) rfl hin rfl (by decide +kernel) rfl rfl (Nat.le_of_ble_eq_true rfl) d39_6 (fun H locs hP hD hS => ?_)
  have hP : va_P D vwCl [(t, .inr (5, [.ref u, .int 0, .int 0, .int 0]))] H := hP
  have hD : va_D A [(t, .inr (5, [.ref u, .int 0, .int 0, .int 0]))] := hD
  refine lv_aload_n hx hb d39_9 rfl (lv_at hl 0 rfl) ?_
  refine lv_iload_n hx hb d39_10 rfl (lv_at hl 2 rfl) ?_
  refine va_putF (D := D) (ci := 5) (v := .int 0) (ty := .byte) (C := kR5) (T := kT5) (N := 4) hx hb hts ku5 kt5 kp5 kn5 hown hK hP hD hS 0 rfl rfl 1 (by decide) (hts _ ms_k285) (fun _ h => h) rfl hin rfl (by decide +kernel) rfl rfl (Nat.le_of_ble_eq_true rfl) d39_11 (fun H locs hP hD hS => ?_)
  have hP : va_P D vwCl [(t, .inr (5, [.ref u, .int 0, .int 0, .int 0]))] H := hP
  have hD : va_D A [(t, .inr (5, [.ref u, .int 0, .int 0, .int 0]))] := hD
  exact ms_vret X d39_14 hP hD hS (Nat.le_of_ble_eq_true rfl) (Nat.le_of_ble_eq_true rfl) (⟨rfl, rfl⟩)

set_option maxRecDepth 100000 in
set_option maxHeartbeats 8000000 in
theorem c_ckLen2 (l : Launch) (D : va_G) (dA : Nat → ClassId) (s0 : State) (hE : ms_EV D dA s0) (i : Nat) (j : Nat) (hij : i ≤ j) (hj : j < 1000) : ht_C l D s0 yM21 bM21 2 (Option.none : Option Jvm.ClassFile.FieldType) 0 0 0 0 [.int (nI i), .int (nI j)] (fun h z => True) (fun h z vv h1 z1 => vv = none ∧ h1 = h ∧ z1 = z) := by
  refine ht_C.mk hE.1 (by decide) (Nat.le_of_ble_eq_true rfl) [(0, .int (nI i)), (1, .int (nI j))] rfl ?_
  intro p e s m below meth c ls h z X hin hpre I hl
  have hx := X.1
  have hb := X.2.1
  have hml := X.2.2.1
  have hown : s.vm.findClass "java/util/Arrays" = some m.cls := X.2.2.2.1
  have hts := X.2.2.2.2.2.2.1
  have hK := X.2.2.2.2.2.2.2.2.1
  have FR : ∀ (b : Nat) (e : va_E), h b = some e → h b = some e := fun _ _ q => q
  refine lv_iload_n hx hb d21_0 rfl (lv_at hl 1 rfl) ?_
  refine lv_iload_n hx hb d21_1 rfl (lv_at hl 0 rfl) ?_
  refine lv_icmp_ge hx hb d21_2 rfl (fun _ => ?_) (fun h9 => absurd (nI_le hij (by omega)) h9)
  exact ht_vret X d21_37 I (Nat.le_of_ble_eq_true rfl) (Nat.le_of_ble_eq_true rfl) (⟨rfl, rfl, rfl⟩)

set_option maxRecDepth 100000 in
set_option maxHeartbeats 8000000 in
theorem c_cpRBz (l : Launch) (D : va_G) (dA : Nat → ClassId) (s0 : State) (hE : ms_EV D dA s0) (t : Nat) (u : Nat) (xs : List Nat) (i : Nat) (j : Nat) (hij : i ≤ j) (hjx : j ≤ xs.length) (hxl : xs.length ≤ 142) (hc : ∀ c ∈ xs, c < 128) : ht_C l D s0 yM22 bM22 5 (Option.some (Jvm.ClassFile.FieldType.array Jvm.ClassFile.FieldType.byte)) 1 100 1 142 [.ref u, .int (nI i), .int (nI j)] (fun h z => z t = some (u, xs)) (fun h z vv h1 z1 => z1 = z ∧ ∃ (q : Nat) (g : Nat → Int32), vv = some (.ref q) ∧ h q = none ∧ h1 q = some (.inl (dA 2, j - i, .inl g)) ∧ (∀ k, k < j - i → g k = nI (xs.getD (i + k) 0)) ∧ ∀ (b : Nat) (e : va_E), h b = some e → h1 b = some e) := by
  refine ht_C.mk hE.1 (by decide) (Nat.le_of_ble_eq_true rfl) [(0, .ref u), (1, .int (nI i)), (2, .int (nI j))] rfl ?_
  intro p e s m below meth c ls h z X hin hpre I hl
  have hx := X.1
  have hb := X.2.1
  have hml := X.2.2.1
  have hown : s.vm.findClass "java/util/Arrays" = some m.cls := X.2.2.2.1
  have hts := X.2.2.2.2.2.2.1
  have hK := X.2.2.2.2.2.2.2.2.1
  have hz := hpre
  have FR : ∀ (b : Nat) (e : va_E), h b = some e → h b = some e := fun _ _ q => q
  refine lv_iload_n hx hb d22_0 rfl (lv_at hl 1 rfl) ?_
  refine lv_iload_n hx hb d22_1 rfl (lv_at hl 2 rfl) ?_
  refine ht_S (rest := []) (as := [.int (nI i), .int (nI j)]) X hl (c_ckLen2 l D dA s0 hE i j (hij) (by omega)) (List.forall_mem_cons.mpr ⟨ms_k267, List.forall_mem_cons.mpr ⟨ms_k268, List.forall_mem_cons.mpr ⟨ms_k10, List.forall_mem_cons.mpr ⟨ms_k269, fun _ h => absurd h List.not_mem_nil⟩⟩⟩⟩) ⟨by decide +kernel, by decide +kernel, (by decide +kernel : (parseMethodDescriptor "(II)V").map (fun d => d.parameters.length) = some 2)⟩ I (trivial) ⟨⟨Nat.le_of_ble_eq_true rfl, Nat.le_of_ble_eq_true rfl⟩, Nat.le_of_ble_eq_true rfl, Nat.le_of_ble_eq_true rfl⟩ rfl (Nat.le_of_ble_eq_true rfl) d22_2 (fun vv h1 z1 H locs hR I9 => ?_)
  clear I
  obtain ⟨rfl, rfl, rfl⟩ := hR
  have I := I9
  clear I9
  refine W.eq (g2 := F0 m 5 ls []) rfl ?_
  refine lv_iload_n hx hb d22_5 rfl (lv_at hl 2 rfl) ?_
  refine lv_iload_n hx hb d22_6 rfl (lv_at hl 1 rfl) ?_
  refine lv_isub hx hb d22_7 ?_
  refine ms_top (y := (nI (j - i))) (pk_sub hij) ?_
  refine lv_istore_n hx hb d22_8 rfl hl (by decide) rfl (fun ls hl => ?_)
  have hl : lv_has ls 5 [(3, .int (nI (j - i))), (0, .ref u), (1, .int (nI i)), (2, .int (nI j))] := hl
  refine lv_iload_n hx hb d22_9 rfl (lv_at hl 0 rfl) ?_
  refine hm_mka (N' := (j - i)) (atype := .byte) (ty := .byte) (a0 := ((j - i), .inl (fun _ => 0))) X I ms_k71 rfl 2 rfl (fun _ h => h) rfl (fun _ => rfl) (nI_pos (by omega)) (nI_clamp (by omega)) (Nat.le_trans (Nat.mul_le_mul_right _ (show (j - i) ≤ 142 by omega)) (by decide)) (Nat.le_of_ble_eq_true rfl) (by show _ + ((j - i)) ≤ 142; omega) d22_10 (fun q1 h H v9 e9 f9 I => ?_)
  refine W.widen (k := 1) (n := 142) (Nat.le_refl _) (by show 0 + ((j - i)) ≤ 142; omega) ?_
  have FR := fun b e hb  => (f9 b (hm_nn (FR b e hb ) v9)).trans (FR b e hb )
  have c2 : h q1 = some (.inl (dA 2, (j - i), .inl (fun _ => 0))) := e9
  have v0 := v9
  refine lv_astore hx hb d22_12 hl (by decide) rfl (fun ls hl => ?_)
  have hl : lv_has ls 5 [(4, .ref q1), (3, .int (nI (j - i))), (0, .ref u), (1, .int (nI i)), (2, .int (nI j))] := hl
  refine lv_aload_n hx hb d22_14 rfl (lv_at hl 2 rfl) ?_
  refine lv_iload_n hx hb d22_15 rfl (lv_at hl 3 rfl) ?_
  refine lv_aload hx hb d22_16 (lv_at hl 0 rfl) ?_
  refine lv_iconst (v := 0) hx hb d22_18 (by decide) ?_
  refine lv_aload_n hx hb d22_19 rfl (lv_at hl 2 rfl) ?_
  refine hz_len X I hz d22_20 ?_
  refine lv_iload_n hx hb d22_21 rfl (lv_at hl 3 rfl) ?_
  refine lv_isub hx hb d22_22 ?_
  refine ms_top (y := (nI (xs.length - i))) (pk_sub (by omega)) ?_
  refine lv_iload_n hx hb d22_23 rfl (lv_at hl 1 rfl) ?_
  refine va_mmin hx hb (by rw [hml]; exact hl.1.symm) hown (hts _ ms_k172) (hts _ ms_k173) (hts _ ms_k9) (hts _ ms_k174) (Nat.le_of_ble_eq_true rfl) (Nat.le_of_ble_eq_true rfl) (Nat.le_of_ble_eq_true rfl) (Nat.le_of_ble_eq_true rfl) d22_24 ?_
  refine ms_top (y := (nI (j - i))) (ms_nmin (a := xs.length - i) (b := j - i) (by omega) (by omega)) ?_
  refine hz_copy (sp := i) (dp := 0) (n := (j - i)) X hl.1 I (List.forall_mem_cons.mpr ⟨ms_k175, List.forall_mem_cons.mpr ⟨ms_k177, List.forall_mem_cons.mpr ⟨ms_k176, List.forall_mem_cons.mpr ⟨ms_k11, fun _ h => absurd h List.not_mem_nil⟩⟩⟩⟩) hz c2 2 rfl (by omega) (by omega) (by omega) (by omega) hc (Nat.le_of_ble_eq_true rfl) (Nat.le_of_ble_eq_true (by decide +kernel)) d22_27 (fun h H locs e9 f9 I => ?_)
  have FR := fun b e hb (n0 : b ≠ q1) => (f9 b n0).trans (FR b e hb )
  have c2 : h q1 = some (.inl (dA 2, (j - i), .inl (va_cpy (fun j => nI (xs.getD j 0)) (fun _ => 0) i 0 (j - i)))) := e9
  refine lv_aload hx hb d22_30 (lv_at hl 0 rfl) ?_
  exact ht_aret X d22_32 I (Nat.le_of_ble_eq_true rfl) (Nat.le_of_ble_eq_true rfl) (⟨rfl, _, _, rfl, v0, c2, fun k hk => by rw [pk_cpy_in (Nat.zero_le _) (by omega)]; congr 2, fun b e hb => FR b e hb (fun q => by rw [q, v0] at hb; cases hb)⟩) (Or.inr ⟨_, rfl⟩) (Or.inr ⟨_, rfl⟩)

set_option maxRecDepth 100000 in
set_option maxHeartbeats 8000000 in
theorem c_cpRz (l : Launch) (D : va_G) (dA : Nat → ClassId) (s0 : State) (hE : ms_EV D dA s0) (t : Nat) (u : Nat) (xs : List Nat) (i : Nat) (j : Nat) (hij : i ≤ j) (hjx : j ≤ xs.length) (hxl : xs.length ≤ 142) (hc : ∀ c ∈ xs, c < 128) (hw : ¬ (i = 0 ∧ j = xs.length)) : ht_C l D s0 yM23 bM23 3 (Option.some (Jvm.ClassFile.FieldType.array Jvm.ClassFile.FieldType.byte)) 2 124 1 142 [.ref u, .int (nI i), .int (nI j)] (fun h z => z t = some (u, xs)) (fun h z vv h1 z1 => z1 = z ∧ ∃ (q : Nat) (g : Nat → Int32), vv = some (.ref q) ∧ h q = none ∧ h1 q = some (.inl (dA 2, j - i, .inl g)) ∧ (∀ k, k < j - i → g k = nI (xs.getD (i + k) 0)) ∧ ∀ (b : Nat) (e : va_E), h b = some e → h1 b = some e) := by
  refine ht_C.mk hE.1 (by decide) (Nat.le_of_ble_eq_true rfl) [(0, .ref u), (1, .int (nI i)), (2, .int (nI j))] rfl ?_
  intro p e s m below meth c ls h z X hin hpre I hl
  have hx := X.1
  have hb := X.2.1
  have hml := X.2.2.1
  have hown : s.vm.findClass "java/util/Arrays" = some m.cls := X.2.2.2.1
  have hts := X.2.2.2.2.2.2.1
  have hK := X.2.2.2.2.2.2.2.2.1
  have hz := hpre
  have FR : ∀ (b : Nat) (e : va_E), h b = some e → h b = some e := fun _ _ q => q
  refine lv_iload_n hx hb d23_0 rfl (lv_at hl 1 rfl) ?_
  refine lv_if_ne hx hb d23_1 rfl (fun h1 => ?_) (fun h1 => ?_)
  · refine lv_aload_n hx hb d23_10 rfl (lv_at hl 0 rfl) ?_
    refine lv_iload_n hx hb d23_11 rfl (lv_at hl 1 rfl) ?_
    refine lv_iload_n hx hb d23_12 rfl (lv_at hl 2 rfl) ?_
    refine ht_S (rest := []) (as := [.ref u, .int (nI i), .int (nI j)]) X hl (c_cpRBz l D dA s0 hE t u xs i j (hij) (hjx) (hxl) (hc)) (List.forall_mem_cons.mpr ⟨ms_k264, List.forall_mem_cons.mpr ⟨ms_k265, List.forall_mem_cons.mpr ⟨ms_k10, List.forall_mem_cons.mpr ⟨ms_k266, fun _ h => absurd h List.not_mem_nil⟩⟩⟩⟩) ⟨by decide +kernel, by decide +kernel, (by decide +kernel : (parseMethodDescriptor "([BII)[B").map (fun d => d.parameters.length) = some 3)⟩ I (hz) ⟨⟨Nat.le_of_ble_eq_true rfl, Nat.le_of_ble_eq_true rfl⟩, Nat.le_of_ble_eq_true rfl, Nat.le_of_ble_eq_true rfl⟩ rfl (Nat.le_of_ble_eq_true rfl) d23_13 (fun vv h1 z1 H locs hR I9 => ?_)
    clear I
    obtain ⟨rfl, q9, g9, rfl, v8, c8, k8, hk9⟩ := hR
    have I := I9
    clear I9
    refine W.eq (g2 := F0 m 16 ls [.ref q9]) rfl ?_
    exact ht_aret X d23_16 I (Nat.le_of_ble_eq_true rfl) (Nat.le_of_ble_eq_true rfl) (⟨rfl, _, _, rfl, v8, c8, k8, hk9⟩) (Or.inr ⟨_, rfl⟩) (Or.inr ⟨_, rfl⟩)
  · refine lv_iload_n hx hb d23_4 rfl (lv_at hl 2 rfl) ?_
    refine lv_aload_n hx hb d23_5 rfl (lv_at hl 0 rfl) ?_
    refine hz_len X I hz d23_6 ?_
    refine lv_icmp_eq hx hb d23_7 rfl (fun h9 => absurd h9 (fun e9 => hw ⟨(nI_eq (b := 0) (by omega) (by omega)).mp h1, (nI_eq (by omega) (by omega)).mp e9⟩)) (fun _ => ?_)
    refine lv_aload_n hx hb d23_10 rfl (lv_at hl 0 rfl) ?_
    refine lv_iload_n hx hb d23_11 rfl (lv_at hl 1 rfl) ?_
    refine lv_iload_n hx hb d23_12 rfl (lv_at hl 2 rfl) ?_
    refine ht_S (rest := []) (as := [.ref u, .int (nI i), .int (nI j)]) X hl (c_cpRBz l D dA s0 hE t u xs i j (hij) (hjx) (hxl) (hc)) (List.forall_mem_cons.mpr ⟨ms_k264, List.forall_mem_cons.mpr ⟨ms_k265, List.forall_mem_cons.mpr ⟨ms_k10, List.forall_mem_cons.mpr ⟨ms_k266, fun _ h => absurd h List.not_mem_nil⟩⟩⟩⟩) ⟨by decide +kernel, by decide +kernel, (by decide +kernel : (parseMethodDescriptor "([BII)[B").map (fun d => d.parameters.length) = some 3)⟩ I (hz) ⟨⟨Nat.le_of_ble_eq_true rfl, Nat.le_of_ble_eq_true rfl⟩, Nat.le_of_ble_eq_true rfl, Nat.le_of_ble_eq_true rfl⟩ rfl (Nat.le_of_ble_eq_true rfl) d23_13 (fun vv h1 z1 H locs hR I9 => ?_)
    clear I
    obtain ⟨rfl, q9, g9, rfl, v8, c8, k8, hk9⟩ := hR
    have I := I9
    clear I9
    refine W.eq (g2 := F0 m 16 ls [.ref q9]) rfl ?_
    exact ht_aret X d23_16 I (Nat.le_of_ble_eq_true rfl) (Nat.le_of_ble_eq_true rfl) (⟨rfl, _, _, rfl, v8, c8, k8, hk9⟩) (Or.inr ⟨_, rfl⟩) (Or.inr ⟨_, rfl⟩)
