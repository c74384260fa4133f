set_option maxRecDepth 100000 in
set_option maxHeartbeats 8000000 in
theorem c_ACinit (l : Launch) (D : va_G) (dA : Nat → ClassId) (s0 : State) (hE : ms_EV D dA s0) (h : Nat) : ms_C l D s0 yM0 bM0 1 (Option.none : Option Jvm.ClassFile.FieldType) 1 12 0 0 [.ref h] [(h, .inr (4, [.int 0, .null, .int 0]))] (fun vv ww => vv = none ∧ ww = [(h, .inr (4, [.int 0, .null, .int 0]))]) := by
  refine ms_C.mk hE.1 (by decide) (Nat.le_of_ble_eq_true rfl) [(0, .ref h)] rfl ?_
  intro p e s m below meth c A ls X hin hP hD hS hl
  have hx := X.1
  have hb := X.2.1
  have hml := X.2.2.1
  have hown : s.vm.findClass "java/util/AbstractCollection" = some m.cls := X.2.2.2.1
  have hts := X.2.2.2.2.2.2.1
  have hK := X.2.2.2.2.2.2.2.2.1
  have hA := X.2.2.2.2.2.2.2.2.2.2
  refine lv_aload_n hx hb d0_0 rfl (lv_at hl 0 rfl) ?_
  refine W.objInit hx hb hown (hts _ ms_k333) (hts _ ms_k37) (hts _ ms_k38) rfl (by rw [hml]; exact hl.1) rfl d0_1 (Nat.le_of_ble_eq_true rfl) (Nat.le_of_ble_eq_true rfl) ?_
  refine W.eq (g2 := F0 m 4 ls []) rfl ?_
  exact ms_vret X d0_4 hP hD hS (Nat.le_of_ble_eq_true rfl) (Nat.le_of_ble_eq_true rfl) (⟨rfl, rfl⟩)

set_option maxRecDepth 100000 in
set_option maxHeartbeats 8000000 in
theorem c_ABinit (l : Launch) (D : va_G) (dA : Nat → ClassId) (s0 : State) (hE : ms_EV D dA s0) (h : Nat) : ms_C l D s0 yM1 bM1 1 (Option.none : Option Jvm.ClassFile.FieldType) 2 32 0 0 [.ref h] [(h, .inr (4, [.int 0, .null, .int 0]))] (fun vv ww => vv = none ∧ ww = [(h, .inr (4, [.int 0, .null, .int 0]))]) := by
  refine ms_C.mk hE.1 (by decide) (Nat.le_of_ble_eq_true rfl) [(0, .ref h)] rfl ?_
  intro p e s m below meth c A ls X hin hP hD hS hl
  have hx := X.1
  have hb := X.2.1
  have hml := X.2.2.1
  have hown : s.vm.findClass "java/util/AbstractList" = some m.cls := X.2.2.2.1
  have hts := X.2.2.2.2.2.2.1
  have hK := X.2.2.2.2.2.2.2.2.1
  have hA := X.2.2.2.2.2.2.2.2.2.2
  refine lv_aload_n hx hb d1_0 rfl (lv_at hl 0 rfl) ?_
  refine ms_I (rest := []) (as := []) (wr := []) X hl (c_ACinit l D dA s0 hE h) (List.forall_mem_cons.mpr ⟨ms_k330, List.forall_mem_cons.mpr ⟨ms_k331, List.forall_mem_cons.mpr ⟨ms_k16, List.forall_mem_cons.mpr ⟨ms_k332, fun _ h => absurd h List.not_mem_nil⟩⟩⟩⟩) rfl ⟨by decide +kernel, by decide +kernel, (by decide +kernel : (parseMethodDescriptor "()V").map (fun d => d.parameters.length) = some 0)⟩ hP hD hS [0] [] rfl rfl ⟨by decide, by decide, by decide⟩ ⟨⟨Nat.le_of_ble_eq_true rfl, Nat.le_of_ble_eq_true rfl⟩, Nat.le_of_ble_eq_true rfl, Nat.le_of_ble_eq_true rfl⟩ rfl (Nat.le_of_ble_eq_true rfl) d1_1 (fun vv ww H locs hR hP hD hS => ?_)
  obtain ⟨rfl, rfl⟩ := hR
  have hP : va_P D vwCl [(h, .inr (4, [.int 0, .null, .int 0]))] H := hP
  have hD : va_D A [(h, .inr (4, [.int 0, .null, .int 0]))] := hD
  refine W.eq (g2 := F0 m 4 ls []) rfl ?_
  refine lv_aload_n hx hb d1_4 rfl (lv_at hl 0 rfl) ?_
  refine lv_iconst (v := 0) hx hb d1_5 (by decide) ?_
  refine va_put (D := D) (ci := 4) (v := .int 0) (ty := .int) (C := kR4) (T := kT4) (N := 3) hx hb hts ku4 kt4 kp4 kn4 hown hK hP hD hS 0 rfl rfl 0 (by decide) (hts _ ms_k338) (fun _ h => h) rfl (by decide +kernel) rfl rfl (Nat.le_of_ble_eq_true rfl) d1_6 (fun H locs hP hD hS => ?_)
  have hP : va_P D vwCl [(h, .inr (4, [.int 0, .null, .int 0]))] H := hP
  have hD : va_D A [(h, .inr (4, [.int 0, .null, .int 0]))] := hD
  exact ms_vret X d1_9 hP hD hS (Nat.le_of_ble_eq_true rfl) (Nat.le_of_ble_eq_true rfl) (⟨rfl, rfl⟩)

set_option maxRecDepth 100000 in
set_option maxHeartbeats 8000000 in
theorem c_ALinit (l : Launch) (D : va_G) (dA : Nat → ClassId) (s0 : State) (hE : ms_EV D dA s0) (h : Nat) : ms_C l D s0 yM2 bM2 1 (Option.none : Option Jvm.ClassFile.FieldType) 3 52 0 0 [.ref h] [(h, .inr (4, [.int 0, .null, .int 0]))] (fun vv ww => ∃ (a : Nat), vv = none ∧ ww = [(h, .inr (4, [.int 0, .ref a, .int 0]))]) := by
  refine ms_C.mk hE.1 (by decide) (Nat.le_of_ble_eq_true rfl) [(0, .ref h)] rfl ?_
  intro p e s m below meth c A ls X hin hP hD hS hl
  have hx := X.1
  have hb := X.2.1
  have hml := X.2.2.1
  have hown : s.vm.findClass "java/util/ArrayList" = some m.cls := X.2.2.2.1
  have hts := X.2.2.2.2.2.2.1
  have hK := X.2.2.2.2.2.2.2.2.1
  have hA := X.2.2.2.2.2.2.2.2.2.2
  refine lv_aload_n hx hb d2_0 rfl (lv_at hl 0 rfl) ?_
  refine ms_I (rest := []) (as := []) (wr := []) X hl (c_ABinit l D dA s0 hE h) (List.forall_mem_cons.mpr ⟨ms_k327, List.forall_mem_cons.mpr ⟨ms_k328, List.forall_mem_cons.mpr ⟨ms_k17, List.forall_mem_cons.mpr ⟨ms_k329, fun _ h => absurd h List.not_mem_nil⟩⟩⟩⟩) rfl ⟨by decide +kernel, by decide +kernel, (by decide +kernel : (parseMethodDescriptor "()V").map (fun d => d.parameters.length) = some 0)⟩ hP hD hS [0] [] rfl rfl ⟨by decide, by decide, by decide⟩ ⟨⟨Nat.le_of_ble_eq_true rfl, Nat.le_of_ble_eq_true rfl⟩, Nat.le_of_ble_eq_true rfl, Nat.le_of_ble_eq_true rfl⟩ rfl (Nat.le_of_ble_eq_true rfl) d2_1 (fun vv ww H locs hR hP hD hS => ?_)
  obtain ⟨rfl, rfl⟩ := hR
  have hP : va_P D vwCl [(h, .inr (4, [.int 0, .null, .int 0]))] H := hP
  have hD : va_D A [(h, .inr (4, [.int 0, .null, .int 0]))] := hD
  refine W.eq (g2 := F0 m 4 ls []) rfl ?_
  refine lv_aload_n hx hb d2_4 rfl (lv_at hl 0 rfl) ?_
  obtain ⟨eD, hZe⟩ := hE.2.2.2
  refine va_gets (own := "java/util/ArrayList") hx hb (ms_z hZe X) hS hown (hts _ ms_k334) (fun _ h => h) d2_5 ?_
  refine va_put (D := D) (ci := 4) (v := .ref eD) (ty := (.array (.object "java/lang/Object"))) (C := kR4) (T := kT4) (N := 3) hx hb hts ku4 kt4 kp4 kn4 hown hK hP hD hS 0 rfl rfl 1 (by decide) (hts _ ms_k336) (fun _ h => h) rfl (by decide +kernel) rfl rfl (Nat.le_of_ble_eq_true rfl) d2_8 (fun H locs hP hD hS => ?_)
  have hP : va_P D vwCl [(h, .inr (4, [.int 0, .ref eD, .int 0]))] H := hP
  have hD : va_D A [(h, .inr (4, [.int 0, .ref eD, .int 0]))] := hD
  exact ms_vret X d2_11 hP hD hS (Nat.le_of_ble_eq_true rfl) (Nat.le_of_ble_eq_true rfl) (⟨eD, rfl, rfl⟩)

set_option maxRecDepth 100000 in
set_option maxHeartbeats 8000000 in
theorem c_ASBinit (l : Launch) (D : va_G) (dA : Nat → ClassId) (s0 : State) (hE : ms_EV D dA s0) (h : Nat) : ms_C l D s0 yM3 bM3 2 (Option.none : Option Jvm.ClassFile.FieldType) 1 12 1 16 [.ref h, .int 16] [(h, .inr (3, [.null, .int 0, .int 0, .int 0]))] (fun vv ww => ∃ (v : Nat), vv = none ∧ ww = [(h, .inr (3, [.ref v, .int 0, .int 0, .int 0])), (v, .inl (dA 2, 16, .inl (fun _ => 0)))]) := by
  refine ms_C.mk hE.1 (by decide) (Nat.le_of_ble_eq_true rfl) [(0, .ref h), (1, .int 16)] rfl ?_
  intro p e s m below meth c A ls X hin hP hD hS hl
  have hx := X.1
  have hb := X.2.1
  have hml := X.2.2.1
  have hown : s.vm.findClass "java/lang/AbstractStringBuilder" = some m.cls := X.2.2.2.1
  have hts := X.2.2.2.2.2.2.1
  have hK := X.2.2.2.2.2.2.2.2.1
  have hA := X.2.2.2.2.2.2.2.2.2.2
  refine lv_aload_n hx hb d3_0 rfl (lv_at hl 0 rfl) ?_
  refine W.objInit hx hb hown (hts _ ms_k47) (hts _ ms_k37) (hts _ ms_k38) rfl (by rw [hml]; exact hl.1) rfl d3_1 (Nat.le_of_ble_eq_true rfl) (Nat.le_of_ble_eq_true rfl) ?_
  refine W.eq (g2 := F0 m 4 ls []) rfl ?_
  refine va_gets (own := "java/lang/AbstractStringBuilder") hx hb (ms_z hE.2.2.1 X) hS hown (hts _ ms_k48) (fun _ h => h) d3_4 ?_
  refine lv_if_eq hx hb d3_7 rfl (fun h9 => absurd h9 (by decide)) (fun _ => ?_)
  refine lv_aload_n hx hb d3_10 rfl (lv_at hl 0 rfl) ?_
  refine lv_iload_n hx hb d3_11 rfl (lv_at hl 1 rfl) ?_
  refine ms_newa (atype := .byte) (ty := .byte) (a0 := (16, .inl (fun _ => 0))) X ms_k71 rfl 2 rfl (fun _ h => h) hP hD hS (fun _ => rfl) (by decide) (by decide) (by decide) (Nat.le_of_ble_eq_true rfl) (Nat.le_of_ble_eq_true rfl) d3_12 (fun q1 H hP hD hS => ?_)
  have hP : va_P D vwCl [(h, .inr (3, [.null, .int 0, .int 0, .int 0])), (q1, .inl (dA 2, 16, .inl (fun _ => 0)))] H := hP
  have hD : va_D A [(h, .inr (3, [.null, .int 0, .int 0, .int 0])), (q1, .inl (dA 2, 16, .inl (fun _ => 0)))] := hD
  refine va_put (D := D) (ci := 3) (v := .ref q1) (ty := (.array .byte)) (C := kR3) (T := kT3) (N := 4) hx hb hts ku3 kt3 kp3 kn3 hown hK hP hD hS 0 rfl rfl 0 (by decide) (hts _ ms_k57) (fun _ h => h) rfl (by decide +kernel) rfl rfl (Nat.le_of_ble_eq_true rfl) d3_14 (fun H locs hP hD hS => ?_)
  have hP : va_P D vwCl [(h, .inr (3, [.ref q1, .int 0, .int 0, .int 0])), (q1, .inl (dA 2, 16, .inl (fun _ => 0)))] H := hP
  have hD : va_D A [(h, .inr (3, [.ref q1, .int 0, .int 0, .int 0])), (q1, .inl (dA 2, 16, .inl (fun _ => 0)))] := hD
  refine lv_aload_n hx hb d3_17 rfl (lv_at hl 0 rfl) ?_
  refine lv_iconst (v := 0) hx hb d3_18 (by decide) ?_
  refine va_put (D := D) (ci := 3) (v := .int 0) (ty := .byte) (C := kR3) (T := kT3) (N := 4) hx hb hts ku3 kt3 kp3 kn3 hown hK hP hD hS 0 rfl rfl 1 (by decide) (hts _ ms_k58) (fun _ h => h) rfl (by decide +kernel) rfl rfl (Nat.le_of_ble_eq_true rfl) d3_19 (fun H locs hP hD hS => ?_)
  have hP : va_P D vwCl [(h, .inr (3, [.ref q1, .int 0, .int 0, .int 0])), (q1, .inl (dA 2, 16, .inl (fun _ => 0)))] H := hP
  have hD : va_D A [(h, .inr (3, [.ref q1, .int 0, .int 0, .int 0])), (q1, .inl (dA 2, 16, .inl (fun _ => 0)))] := hD
  refine lv_goto hx hb d3_22 rfl ?_
  exact ms_vret X d3_38 hP hD hS (Nat.le_of_ble_eq_true rfl) (Nat.le_of_ble_eq_true rfl) (⟨q1, rfl, rfl⟩)

set_option maxRecDepth 100000 in
set_option maxHeartbeats 8000000 in
theorem c_SBinit (l : Launch) (D : va_G) (dA : Nat → ClassId) (s0 : State) (hE : ms_EV D dA s0) (h : Nat) : ms_C l D s0 yM4 bM4 1 (Option.none : Option Jvm.ClassFile.FieldType) 2 33 1 16 [.ref h] [(h, .inr (3, [.null, .int 0, .int 0, .int 0]))] (fun vv ww => ∃ (v : Nat), vv = none ∧ ww = [(h, .inr (3, [.ref v, .int 0, .int 0, .int 0])), (v, .inl (dA 2, 16, .inl (fun _ => 0)))]) := by
  refine ms_C.mk hE.1 (by decide) (Nat.le_of_ble_eq_true rfl) [(0, .ref h)] rfl ?_
  intro p e s m below meth c A ls X hin hP hD hS hl
  have hx := X.1
  have hb := X.2.1
  have hml := X.2.2.1
  have hown : s.vm.findClass "java/lang/StringBuilder" = some m.cls := X.2.2.2.1
  have hts := X.2.2.2.2.2.2.1
  have hK := X.2.2.2.2.2.2.2.2.1
  have hA := X.2.2.2.2.2.2.2.2.2.2
  refine lv_aload_n hx hb d4_0 rfl (lv_at hl 0 rfl) ?_
  refine lv_bipush (v := 16) hx hb d4_1 (by decide) ?_
  refine ms_I (rest := []) (as := [.int 16]) (wr := []) X hl (c_ASBinit l D dA s0 hE h) (List.forall_mem_cons.mpr ⟨ms_k44, List.forall_mem_cons.mpr ⟨ms_k45, List.forall_mem_cons.mpr ⟨ms_k2, List.forall_mem_cons.mpr ⟨ms_k46, fun _ h => absurd h List.not_mem_nil⟩⟩⟩⟩) rfl ⟨by decide +kernel, by decide +kernel, (by decide +kernel : (parseMethodDescriptor "(I)V").map (fun d => d.parameters.length) = some 1)⟩ hP hD hS [0] [] rfl rfl ⟨by decide, by decide, by decide⟩ ⟨⟨Nat.le_of_ble_eq_true rfl, Nat.le_of_ble_eq_true rfl⟩, Nat.le_of_ble_eq_true rfl, Nat.le_of_ble_eq_true rfl⟩ rfl (Nat.le_of_ble_eq_true rfl) d4_3 (fun vv ww H locs hR hP hD hS => ?_)
  obtain ⟨v_1, rfl, rfl⟩ := hR
  have hP : va_P D vwCl [(h, .inr (3, [.ref v_1, .int 0, .int 0, .int 0])), (v_1, .inl (dA 2, 16, .inl (fun _ => 0)))] H := hP
  have hD : va_D A [(h, .inr (3, [.ref v_1, .int 0, .int 0, .int 0])), (v_1, .inl (dA 2, 16, .inl (fun _ => 0)))] := hD
  refine W.eq (g2 := F0 m 6 ls []) rfl ?_
  exact ms_vret X d4_6 hP hD hS (Nat.le_of_ble_eq_true rfl) (Nat.le_of_ble_eq_true rfl) (⟨v_1, rfl, rfl⟩)

set_option maxRecDepth 100000 in
set_option maxHeartbeats 8000000 in
theorem c_ASBlen (l : Launch) (D : va_G) (dA : Nat → ClassId) (s0 : State) (hE : ms_EV D dA s0) (h : Nat) (v : Nat) (k : Int32) : ms_C l D s0 yM5 bM5 1 (Option.some Jvm.ClassFile.FieldType.int) 0 0 0 0 [.ref h] [(h, .inr (3, [.ref v, .int 0, .int 0, .int k]))] (fun vv ww => vv = some (.int k) ∧ ww = [(h, .inr (3, [.ref v, .int 0, .int 0, .int k]))]) := by
  refine ms_C.mk hE.1 (by decide) (Nat.le_of_ble_eq_true rfl) [(0, .ref h)] rfl ?_
  intro p e s m below meth c A ls X hin hP hD hS hl
  have hx := X.1
  have hb := X.2.1
  have hml := X.2.2.1
  have hown : s.vm.findClass "java/lang/AbstractStringBuilder" = some m.cls := X.2.2.2.1
  have hts := X.2.2.2.2.2.2.1
  have hK := X.2.2.2.2.2.2.2.2.1
  have hA := X.2.2.2.2.2.2.2.2.2.2
  refine lv_aload_n hx hb d5_0 rfl (lv_at hl 0 rfl) ?_
  refine va_get (D := D) (ci := 3) (v := .int k) (C := kR3) (T := kT3) (N := 4) hx hb hts ku3 hown hK hP 0 rfl rfl 3 (by decide) (hts _ ms_k61) (fun _ h => h) rfl d5_1 ?_
  exact ms_iret X d5_4 hP hD hS (Nat.le_of_ble_eq_true rfl) (Nat.le_of_ble_eq_true rfl) (⟨rfl, rfl⟩)

set_option maxRecDepth 100000 in
set_option maxHeartbeats 8000000 in
theorem c_SBlen (l : Launch) (D : va_G) (dA : Nat → ClassId) (s0 : State) (hE : ms_EV D dA s0) (h : Nat) (v : Nat) (k : Int32) : ms_C l D s0 yM6 bM6 1 (Option.some Jvm.ClassFile.FieldType.int) 1 20 0 0 [.ref h] [(h, .inr (3, [.ref v, .int 0, .int 0, .int k]))] (fun vv ww => vv = some (.int k) ∧ ww = [(h, .inr (3, [.ref v, .int 0, .int 0, .int k]))]) := by
  refine ms_C.mk hE.1 (by decide) (Nat.le_of_ble_eq_true rfl) [(0, .ref h)] rfl ?_
  intro p e s m below meth c A ls X hin hP hD hS hl
  have hx := X.1
  have hb := X.2.1
  have hml := X.2.2.1
  have hown : s.vm.findClass "java/lang/StringBuilder" = some m.cls := X.2.2.2.1
  have hts := X.2.2.2.2.2.2.1
  have hK := X.2.2.2.2.2.2.2.2.1
  have hA := X.2.2.2.2.2.2.2.2.2.2
  refine lv_aload_n hx hb d6_0 rfl (lv_at hl 0 rfl) ?_
  refine ms_SU (C := "java/lang/StringBuilder") (rest := []) (as := []) (wr := []) ((hK.1 3 _ rfl).2) X hl (c_ASBlen l D dA s0 hE h v k) (List.forall_mem_cons.mpr ⟨ms_k133, List.forall_mem_cons.mpr ⟨ms_k1832, List.forall_mem_cons.mpr ⟨ms_k70, List.forall_mem_cons.mpr ⟨ms_k134, List.forall_mem_cons.mpr ⟨ms_k2, List.forall_mem_cons.mpr ⟨ms_k135, fun _ h => absurd h List.not_mem_nil⟩⟩⟩⟩⟩⟩) ⟨by decide +kernel, (by decide +kernel : (parseMethodDescriptor "()I").map (fun d => d.parameters.length) = some 0)⟩ (va_recv hK hP rfl (q0 := 0) rfl) hP hD hS [0] [] rfl rfl ⟨by decide, by decide, by decide⟩ ⟨⟨Nat.le_of_ble_eq_true rfl, Nat.le_of_ble_eq_true rfl⟩, Nat.le_of_ble_eq_true rfl, Nat.le_of_ble_eq_true rfl⟩ rfl (Nat.le_of_ble_eq_true rfl) d6_1 (fun vv ww H locs hR hP hD hS => ?_)
  obtain ⟨rfl, rfl⟩ := hR
  have hP : va_P D vwCl [(h, .inr (3, [.ref v, .int 0, .int 0, .int k]))] H := hP
  have hD : va_D A [(h, .inr (3, [.ref v, .int 0, .int 0, .int k]))] := hD
  refine W.eq (g2 := F0 m 4 ls [.int k]) rfl ?_
  exact ms_iret X d6_4 hP hD hS (Nat.le_of_ble_eq_true rfl) (Nat.le_of_ble_eq_true rfl) (⟨rfl, rfl⟩)

set_option maxRecDepth 100000 in
set_option maxHeartbeats 8000000 in
theorem c_isLat (l : Launch) (D : va_G) (dA : Nat → ClassId) (s0 : State) (hE : ms_EV D dA s0) (h : Nat) (v : Nat) (k : Int32) : ms_C l D s0 yM7 bM7 1 (Option.some Jvm.ClassFile.FieldType.boolean) 0 0 0 0 [.ref h] [(h, .inr (3, [.ref v, .int 0, .int 0, .int k]))] (fun vv ww => vv = some (.int 1) ∧ ww = [(h, .inr (3, [.ref v, .int 0, .int 0, .int k]))]) := by
  refine ms_C.mk hE.1 (by decide) (Nat.le_of_ble_eq_true rfl) [(0, .ref h)] rfl ?_
  intro p e s m below meth c A ls X hin hP hD hS hl
  have hx := X.1
  have hb := X.2.1
  have hml := X.2.2.1
  have hown : s.vm.findClass "java/lang/AbstractStringBuilder" = some m.cls := X.2.2.2.1
  have hts := X.2.2.2.2.2.2.1
  have hK := X.2.2.2.2.2.2.2.2.1
  have hA := X.2.2.2.2.2.2.2.2.2.2
  refine va_gets (own := "java/lang/AbstractStringBuilder") hx hb (ms_z hE.2.2.1 X) hS hown (hts _ ms_k48) (fun _ h => h) d7_0 ?_
  refine lv_if_eq hx hb d7_3 rfl (fun h9 => absurd h9 (by decide)) (fun _ => ?_)
  refine lv_aload_n hx hb d7_6 rfl (lv_at hl 0 rfl) ?_
  refine va_get (D := D) (ci := 3) (v := .int 0) (C := kR3) (T := kT3) (N := 4) hx hb hts ku3 hown hK hP 0 rfl rfl 1 (by decide) (hts _ ms_k58) (fun _ h => h) rfl d7_7 ?_
  refine lv_if_ne hx hb d7_10 rfl (fun h9 => absurd h9 (by decide)) (fun _ => ?_)
  refine lv_iconst (v := 1) hx hb d7_13 (by decide) ?_
  refine lv_goto hx hb d7_14 rfl ?_
  exact ms_zret X d7_18 hP hD hS (Nat.le_of_ble_eq_true rfl) (Nat.le_of_ble_eq_true rfl) (⟨rfl, rfl⟩) (rfl)

set_option maxRecDepth 100000 in
set_option maxHeartbeats 8000000 in
theorem c_getVal (l : Launch) (D : va_G) (dA : Nat → ClassId) (s0 : State) (hE : ms_EV D dA s0) (h : Nat) (v : Nat) (k : Int32) : ms_C l D s0 yM8 bM8 1 (Option.some (Jvm.ClassFile.FieldType.array Jvm.ClassFile.FieldType.byte)) 0 0 0 0 [.ref h] [(h, .inr (3, [.ref v, .int 0, .int 0, .int k]))] (fun vv ww => vv = some (.ref v) ∧ ww = [(h, .inr (3, [.ref v, .int 0, .int 0, .int k]))]) := by
  refine ms_C.mk hE.1 (by decide) (Nat.le_of_ble_eq_true rfl) [(0, .ref h)] rfl ?_
  intro p e s m below meth c A ls X hin hP hD hS hl
  have hx := X.1
  have hb := X.2.1
  have hml := X.2.2.1
  have hown : s.vm.findClass "java/lang/AbstractStringBuilder" = some m.cls := X.2.2.2.1
  have hts := X.2.2.2.2.2.2.1
  have hK := X.2.2.2.2.2.2.2.2.1
  have hA := X.2.2.2.2.2.2.2.2.2.2
  refine lv_aload_n hx hb d8_0 rfl (lv_at hl 0 rfl) ?_
  refine va_get (D := D) (ci := 3) (v := .ref v) (C := kR3) (T := kT3) (N := 4) hx hb hts ku3 hown hK hP 0 rfl rfl 0 (by decide) (hts _ ms_k57) (fun _ h => h) rfl d8_1 ?_
  exact ms_aret X d8_4 hP hD hS (Nat.le_of_ble_eq_true rfl) (Nat.le_of_ble_eq_true rfl) (⟨rfl, rfl⟩) (Or.inr ⟨_, rfl⟩) (Or.inr ⟨_, rfl⟩)

set_option maxRecDepth 100000 in
set_option maxHeartbeats 8000000 in
theorem c_canEnc (l : Launch) (D : va_G) (dA : Nat → ClassId) (s0 : State) (hE : ms_EV D dA s0) (z : Int32) (hz : ¬ 255 < z) : ms_C l D s0 yM9 bM9 1 (Option.some Jvm.ClassFile.FieldType.boolean) 0 0 0 0 [.int z] [] (fun vv ww => vv = some (.int 1) ∧ ww = []) := by
  refine ms_C.mk hE.1 (by decide) (Nat.le_of_ble_eq_true rfl) [(0, .int z)] rfl ?_
  intro p e s m below meth c A ls X hin hP hD hS hl
  have hx := X.1
  have hb := X.2.1
  have hml := X.2.2.1
  have hown : s.vm.findClass "java/lang/StringLatin1" = some m.cls := X.2.2.2.1
  have hts := X.2.2.2.2.2.2.1
  have hK := X.2.2.2.2.2.2.2.2.1
  have hA := X.2.2.2.2.2.2.2.2.2.2
  refine lv_iload_n hx hb d9_0 rfl (lv_at hl 0 rfl) ?_
  refine lv_sipush (v := 255) hx hb d9_1 (by decide) ?_
  refine lv_icmp_gt hx hb d9_4 rfl (fun h9 => absurd h9 (hz)) (fun _ => ?_)
  refine lv_iconst (v := 1) hx hb d9_7 (by decide) ?_
  refine lv_goto hx hb d9_8 rfl ?_
  exact ms_zret X d9_12 hP hD hS (Nat.le_of_ble_eq_true rfl) (Nat.le_of_ble_eq_true rfl) (⟨rfl, rfl⟩) (rfl)

set_option maxRecDepth 100000 in
set_option maxHeartbeats 8000000 in
theorem c_ens0 (l : Launch) (D : va_G) (dA : Nat → ClassId) (s0 : State) (hE : ms_EV D dA s0) (h : Nat) (v : Nat) (k : Int32) (f : Nat → Int32) : ms_C l D s0 yM10 bM10 3 (Option.none : Option Jvm.ClassFile.FieldType) 0 0 0 0 [.ref h, .int 0] [(h, .inr (3, [.ref v, .int 0, .int 0, .int k])), (v, .inl (dA 2, 16, .inl f))] (fun vv ww => vv = none ∧ ww = [(h, .inr (3, [.ref v, .int 0, .int 0, .int k])), (v, .inl (dA 2, 16, .inl f))]) := by
  refine ms_C.mk hE.1 (by decide) (Nat.le_of_ble_eq_true rfl) [(0, .ref h), (1, .int 0)] rfl ?_
  intro p e s m below meth c A ls X hin hP hD hS hl
  have hx := X.1
  have hb := X.2.1
  have hml := X.2.2.1
  have hown : s.vm.findClass "java/lang/AbstractStringBuilder" = some m.cls := X.2.2.2.1
  have hts := X.2.2.2.2.2.2.1
  have hK := X.2.2.2.2.2.2.2.2.1
  have hA := X.2.2.2.2.2.2.2.2.2.2
  refine lv_aload_n hx hb d10_0 rfl (lv_at hl 0 rfl) ?_
  refine va_get (D := D) (ci := 3) (v := .ref v) (C := kR3) (T := kT3) (N := 4) hx hb hts ku3 hown hK hP 0 rfl rfl 0 (by decide) (hts _ ms_k57) (fun _ h => h) rfl d10_1 ?_
  refine va_alen (v := 16) hx hb hK hP 1 2 rfl rfl rfl d10_4 ?_
  refine lv_aload_n hx hb d10_5 rfl (lv_at hl 0 rfl) ?_
  refine va_get (D := D) (ci := 3) (v := .int 0) (C := kR3) (T := kT3) (N := 4) hx hb hts ku3 hown hK hP 0 rfl rfl 1 (by decide) (hts _ ms_k58) (fun _ h => h) rfl d10_6 ?_
  refine lv_ishr hx hb d10_9 ?_
  refine ms_top (y := 16) (by decide) ?_
  refine lv_istore_n hx hb d10_10 rfl hl (by decide) rfl (fun ls hl => ?_)
  have hl : lv_has ls 3 [(2, .int 16), (0, .ref h), (1, .int 0)] := hl
  refine lv_iload_n hx hb d10_11 rfl (lv_at hl 2 rfl) ?_
  refine lv_iload_n hx hb d10_12 rfl (lv_at hl 0 rfl) ?_
  refine lv_isub hx hb d10_13 ?_
  refine ms_top (y := (-16)) (by decide) ?_
  refine lv_if_le hx hb d10_14 rfl (fun _ => ?_) (fun h9 => absurd (by decide) h9)
  exact ms_vret X d10_38 hP hD hS (Nat.le_of_ble_eq_true rfl) (Nat.le_of_ble_eq_true rfl) (⟨rfl, rfl⟩)

set_option maxRecDepth 100000 in
set_option maxHeartbeats 8000000 in
theorem c_ens1 (l : Launch) (D : va_G) (dA : Nat → ClassId) (s0 : State) (hE : ms_EV D dA s0) (h : Nat) (v : Nat) (k : Int32) (f : Nat → Int32) : ms_C l D s0 yM10 bM10 3 (Option.none : Option Jvm.ClassFile.FieldType) 0 0 0 0 [.ref h, .int 1] [(h, .inr (3, [.ref v, .int 0, .int 0, .int k])), (v, .inl (dA 2, 16, .inl f))] (fun vv ww => vv = none ∧ ww = [(h, .inr (3, [.ref v, .int 0, .int 0, .int k])), (v, .inl (dA 2, 16, .inl f))]) := by
  refine ms_C.mk hE.1 (by decide) (Nat.le_of_ble_eq_true rfl) [(0, .ref h), (1, .int 1)] rfl ?_
  intro p e s m below meth c A ls X hin hP hD hS hl
  have hx := X.1
  have hb := X.2.1
  have hml := X.2.2.1
  have hown : s.vm.findClass "java/lang/AbstractStringBuilder" = some m.cls := X.2.2.2.1
  have hts := X.2.2.2.2.2.2.1
  have hK := X.2.2.2.2.2.2.2.2.1
  have hA := X.2.2.2.2.2.2.2.2.2.2
  refine lv_aload_n hx hb d10_0 rfl (lv_at hl 0 rfl) ?_
  refine va_get (D := D) (ci := 3) (v := .ref v) (C := kR3) (T := kT3) (N := 4) hx hb hts ku3 hown hK hP 0 rfl rfl 0 (by decide) (hts _ ms_k57) (fun _ h => h) rfl d10_1 ?_
  refine va_alen (v := 16) hx hb hK hP 1 2 rfl rfl rfl d10_4 ?_
  refine lv_aload_n hx hb d10_5 rfl (lv_at hl 0 rfl) ?_
  refine va_get (D := D) (ci := 3) (v := .int 0) (C := kR3) (T := kT3) (N := 4) hx hb hts ku3 hown hK hP 0 rfl rfl 1 (by decide) (hts _ ms_k58) (fun _ h => h) rfl d10_6 ?_
  refine lv_ishr hx hb d10_9 ?_
  refine ms_top (y := 16) (by decide) ?_
  refine lv_istore_n hx hb d10_10 rfl hl (by decide) rfl (fun ls hl => ?_)
  have hl : lv_has ls 3 [(2, .int 16), (0, .ref h), (1, .int 1)] := hl
  refine lv_iload_n hx hb d10_11 rfl (lv_at hl 2 rfl) ?_
  refine lv_iload_n hx hb d10_12 rfl (lv_at hl 0 rfl) ?_
  refine lv_isub hx hb d10_13 ?_
  refine ms_top (y := (-15)) (by decide) ?_
  refine lv_if_le hx hb d10_14 rfl (fun _ => ?_) (fun h9 => absurd (by decide) h9)
  exact ms_vret X d10_38 hP hD hS (Nat.le_of_ble_eq_true rfl) (Nat.le_of_ble_eq_true rfl) (⟨rfl, rfl⟩)

set_option maxRecDepth 100000 in
set_option maxHeartbeats 8000000 in
theorem c_ASBset (l : Launch) (D : va_G) (dA : Nat → ClassId) (s0 : State) (hE : ms_EV D dA s0) (h : Nat) (v : Nat) (f : Nat → Int32) : ms_C l D s0 yM11 bM11 2 (Option.none : Option Jvm.ClassFile.FieldType) 1 22 0 0 [.ref h, .int 0] [(h, .inr (3, [.ref v, .int 0, .int 0, .int 0])), (v, .inl (dA 2, 16, .inl f))] (fun vv ww => vv = none ∧ ww = [(h, .inr (3, [.ref v, .int 0, .int 0, .int 0])), (v, .inl (dA 2, 16, .inl f))]) := by
  refine ms_C.mk hE.1 (by decide) (Nat.le_of_ble_eq_true rfl) [(0, .ref h), (1, .int 0)] rfl ?_
  intro p e s m below meth c A ls X hin hP hD hS hl
  have hx := X.1
  have hb := X.2.1
  have hml := X.2.2.1
  have hown : s.vm.findClass "java/lang/AbstractStringBuilder" = some m.cls := X.2.2.2.1
  have hts := X.2.2.2.2.2.2.1
  have hK := X.2.2.2.2.2.2.2.2.1
  have hA := X.2.2.2.2.2.2.2.2.2.2
  refine lv_iload_n hx hb d11_0 rfl (lv_at hl 1 rfl) ?_
  refine lv_if_ge hx hb d11_1 rfl (fun _ => ?_) (fun h9 => absurd (by decide) h9)
  refine lv_aload_n hx hb d11_13 rfl (lv_at hl 0 rfl) ?_
  refine lv_iload_n hx hb d11_14 rfl (lv_at hl 1 rfl) ?_
  refine ms_U (C := "java/lang/StringBuilder") (x := ⟨"java/lang/AbstractStringBuilder", "ensureCapacityInternal", "(I)V"⟩) (owner := "java/lang/AbstractStringBuilder") (rest := []) (as := [.int 0]) (wr := []) X hl (c_ens0 l D dA s0 hE h v 0 f) (List.forall_mem_cons.mpr ⟨ms_k143, List.forall_mem_cons.mpr ⟨ms_k1834, List.forall_mem_cons.mpr ⟨ms_x0, List.forall_mem_cons.mpr ⟨ms_k145, List.forall_mem_cons.mpr ⟨ms_k2, List.forall_mem_cons.mpr ⟨ms_k146, fun _ h => absurd h List.not_mem_nil⟩⟩⟩⟩⟩⟩) rfl ⟨by decide +kernel, by decide +kernel, (by decide +kernel : (parseMethodDescriptor "(I)V").map (fun d => d.parameters.length) = some 1)⟩ (va_recv hK hP rfl (q0 := 0) rfl) hP hD hS [0, 1] [] rfl rfl ⟨by decide, by decide, by decide⟩ ⟨⟨Nat.le_of_ble_eq_true rfl, Nat.le_of_ble_eq_true rfl⟩, Nat.le_of_ble_eq_true rfl, Nat.le_of_ble_eq_true rfl⟩ rfl (Nat.le_of_ble_eq_true rfl) d11_15 (fun vv ww H locs hR hP hD hS => ?_)
  obtain ⟨rfl, rfl⟩ := hR
  have hP : va_P D vwCl [(h, .inr (3, [.ref v, .int 0, .int 0, .int 0])), (v, .inl (dA 2, 16, .inl f))] H := hP
  have hD : va_D A [(h, .inr (3, [.ref v, .int 0, .int 0, .int 0])), (v, .inl (dA 2, 16, .inl f))] := hD
  refine W.eq (g2 := F0 m 18 ls []) rfl ?_
  refine lv_aload_n hx hb d11_18 rfl (lv_at hl 0 rfl) ?_
  refine va_get (D := D) (ci := 3) (v := .int 0) (C := kR3) (T := kT3) (N := 4) hx hb hts ku3 hown hK hP 0 rfl rfl 3 (by decide) (hts _ ms_k61) (fun _ h => h) rfl d11_19 ?_
  refine lv_iload_n hx hb d11_22 rfl (lv_at hl 1 rfl) ?_
  refine lv_icmp_ge hx hb d11_23 rfl (fun _ => ?_) (fun h9 => absurd (by decide) h9)
  refine lv_aload_n hx hb d11_63 rfl (lv_at hl 0 rfl) ?_
  refine va_get (D := D) (ci := 3) (v := .int 0) (C := kR3) (T := kT3) (N := 4) hx hb hts ku3 hown hK hP 0 rfl rfl 3 (by decide) (hts _ ms_k61) (fun _ h => h) rfl d11_64 ?_
  refine lv_iload_n hx hb d11_67 rfl (lv_at hl 1 rfl) ?_
  refine lv_icmp_le hx hb d11_68 rfl (fun _ => ?_) (fun h9 => absurd (by decide) h9)
  refine lv_aload_n hx hb d11_76 rfl (lv_at hl 0 rfl) ?_
  refine lv_iload_n hx hb d11_77 rfl (lv_at hl 1 rfl) ?_
  refine va_put (D := D) (ci := 3) (v := .int 0) (ty := .int) (C := kR3) (T := kT3) (N := 4) hx hb hts ku3 kt3 kp3 kn3 hown hK hP hD hS 0 rfl rfl 3 (by decide) (hts _ ms_k61) (fun _ h => h) rfl (by decide +kernel) rfl rfl (Nat.le_of_ble_eq_true rfl) d11_78 (fun H locs hP hD hS => ?_)
  have hP : va_P D vwCl [(h, .inr (3, [.ref v, .int 0, .int 0, .int 0])), (v, .inl (dA 2, 16, .inl f))] H := hP
  have hD : va_D A [(h, .inr (3, [.ref v, .int 0, .int 0, .int 0])), (v, .inl (dA 2, 16, .inl f))] := hD
  exact ms_vret X d11_81 hP hD hS (Nat.le_of_ble_eq_true rfl) (Nat.le_of_ble_eq_true rfl) (⟨rfl, rfl⟩)

set_option maxRecDepth 100000 in
set_option maxHeartbeats 8000000 in
theorem c_SBset (l : Launch) (D : va_G) (dA : Nat → ClassId) (s0 : State) (hE : ms_EV D dA s0) (h : Nat) (v : Nat) (f : Nat → Int32) : ms_C l D s0 yM12 bM12 2 (Option.none : Option Jvm.ClassFile.FieldType) 2 43 0 0 [.ref h, .int 0] [(h, .inr (3, [.ref v, .int 0, .int 0, .int 0])), (v, .inl (dA 2, 16, .inl f))] (fun vv ww => vv = none ∧ ww = [(h, .inr (3, [.ref v, .int 0, .int 0, .int 0])), (v, .inl (dA 2, 16, .inl f))]) := by
  refine ms_C.mk hE.1 (by decide) (Nat.le_of_ble_eq_true rfl) [(0, .ref h), (1, .int 0)] rfl ?_
  intro p e s m below meth c A ls X hin hP hD hS hl
  have hx := X.1
  have hb := X.2.1
  have hml := X.2.2.1
  have hown : s.vm.findClass "java/lang/StringBuilder" = some m.cls := X.2.2.2.1
  have hts := X.2.2.2.2.2.2.1
  have hK := X.2.2.2.2.2.2.2.2.1
  have hA := X.2.2.2.2.2.2.2.2.2.2
  refine lv_aload_n hx hb d12_0 rfl (lv_at hl 0 rfl) ?_
  refine lv_iload_n hx hb d12_1 rfl (lv_at hl 1 rfl) ?_
  refine ms_SU (C := "java/lang/StringBuilder") (rest := []) (as := [.int 0]) (wr := []) ((hK.1 3 _ rfl).2) X hl (c_ASBset l D dA s0 hE h v f) (List.forall_mem_cons.mpr ⟨ms_k299, List.forall_mem_cons.mpr ⟨ms_k1838, List.forall_mem_cons.mpr ⟨ms_k70, List.forall_mem_cons.mpr ⟨ms_k300, List.forall_mem_cons.mpr ⟨ms_k2, List.forall_mem_cons.mpr ⟨ms_k301, fun _ h => absurd h List.not_mem_nil⟩⟩⟩⟩⟩⟩) ⟨by decide +kernel, (by decide +kernel : (parseMethodDescriptor "(I)V").map (fun d => d.parameters.length) = some 1)⟩ (va_recv hK hP rfl (q0 := 0) rfl) hP hD hS [0, 1] [] rfl rfl ⟨by decide, by decide, by decide⟩ ⟨⟨Nat.le_of_ble_eq_true rfl, Nat.le_of_ble_eq_true rfl⟩, Nat.le_of_ble_eq_true rfl, Nat.le_of_ble_eq_true rfl⟩ rfl (Nat.le_of_ble_eq_true rfl) d12_2 (fun vv ww H locs hR hP hD hS => ?_)
  obtain ⟨rfl, rfl⟩ := hR
  have hP : va_P D vwCl [(h, .inr (3, [.ref v, .int 0, .int 0, .int 0])), (v, .inl (dA 2, 16, .inl f))] H := hP
  have hD : va_D A [(h, .inr (3, [.ref v, .int 0, .int 0, .int 0])), (v, .inl (dA 2, 16, .inl f))] := hD
  refine W.eq (g2 := F0 m 5 ls []) rfl ?_
  exact ms_vret X d12_5 hP hD hS (Nat.le_of_ble_eq_true rfl) (Nat.le_of_ble_eq_true rfl) (⟨rfl, rfl⟩)

set_option maxRecDepth 100000 in
set_option maxHeartbeats 8000000 in
theorem c_ASBapp (l : Launch) (D : va_G) (dA : Nat → ClassId) (s0 : State) (hE : ms_EV D dA s0) (h : Nat) (v : Nat) (f : Nat → Int32) (z : Int32) (hz : ¬ 255 < z) : ms_C l D s0 yM13 bM13 2 (Option.some (Jvm.ClassFile.FieldType.object "java/lang/AbstractStringBuilder")) 1 22 0 0 [.ref h, .int z] [(h, .inr (3, [.ref v, .int 0, .int 0, .int 0])), (v, .inl (dA 2, 16, .inl f))] (fun vv _ => vv = some (.ref h)) := by
  refine ms_C.mk hE.1 (by decide) (Nat.le_of_ble_eq_true rfl) [(0, .ref h), (1, .int z)] rfl ?_
  intro p e s m below meth c A ls X hin hP hD hS hl
  have hx := X.1
  have hb := X.2.1
  have hml := X.2.2.1
  have hown : s.vm.findClass "java/lang/AbstractStringBuilder" = some m.cls := X.2.2.2.1
  have hts := X.2.2.2.2.2.2.1
  have hK := X.2.2.2.2.2.2.2.2.1
  have hA := X.2.2.2.2.2.2.2.2.2.2
  refine lv_aload_n hx hb d13_0 rfl (lv_at hl 0 rfl) ?_
  refine lv_aload_n hx hb d13_1 rfl (lv_at hl 0 rfl) ?_
  refine va_get (D := D) (ci := 3) (v := .int 0) (C := kR3) (T := kT3) (N := 4) hx hb hts ku3 hown hK hP 0 rfl rfl 3 (by decide) (hts _ ms_k61) (fun _ h => h) rfl d13_2 ?_
  refine lv_iconst (v := 1) hx hb d13_5 (by decide) ?_
  refine lv_iadd hx hb d13_6 ?_
  refine ms_top (y := 1) (by decide) ?_
  refine ms_U (C := "java/lang/StringBuilder") (x := ⟨"java/lang/AbstractStringBuilder", "ensureCapacityInternal", "(I)V"⟩) (owner := "java/lang/AbstractStringBuilder") (rest := []) (as := [.int 1]) (wr := []) X hl (c_ens1 l D dA s0 hE h v 0 f) (List.forall_mem_cons.mpr ⟨ms_k143, List.forall_mem_cons.mpr ⟨ms_k1834, List.forall_mem_cons.mpr ⟨ms_x0, List.forall_mem_cons.mpr ⟨ms_k145, List.forall_mem_cons.mpr ⟨ms_k2, List.forall_mem_cons.mpr ⟨ms_k146, fun _ h => absurd h List.not_mem_nil⟩⟩⟩⟩⟩⟩) rfl ⟨by decide +kernel, by decide +kernel, (by decide +kernel : (parseMethodDescriptor "(I)V").map (fun d => d.parameters.length) = some 1)⟩ (va_recv hK hP rfl (q0 := 0) rfl) hP hD hS [0, 1] [] rfl rfl ⟨by decide, by decide, by decide⟩ ⟨⟨Nat.le_of_ble_eq_true rfl, Nat.le_of_ble_eq_true rfl⟩, Nat.le_of_ble_eq_true rfl, Nat.le_of_ble_eq_true rfl⟩ rfl (Nat.le_of_ble_eq_true rfl) d13_7 (fun vv ww H locs hR hP hD hS => ?_)
  obtain ⟨rfl, rfl⟩ := hR
  have hP : va_P D vwCl [(h, .inr (3, [.ref v, .int 0, .int 0, .int 0])), (v, .inl (dA 2, 16, .inl f))] H := hP
  have hD : va_D A [(h, .inr (3, [.ref v, .int 0, .int 0, .int 0])), (v, .inl (dA 2, 16, .inl f))] := hD
  refine W.eq (g2 := F0 m 10 ls []) rfl ?_
  refine lv_aload_n hx hb d13_10 rfl (lv_at hl 0 rfl) ?_
  refine ms_U (C := "java/lang/StringBuilder") (x := ⟨"java/lang/AbstractStringBuilder", "isLatin1", "()Z"⟩) (owner := "java/lang/AbstractStringBuilder") (rest := []) (as := []) (wr := [(v, .inl (dA 2, 16, .inl f))]) X hl (c_isLat l D dA s0 hE h v 0) (List.forall_mem_cons.mpr ⟨ms_k178, List.forall_mem_cons.mpr ⟨ms_k180, List.forall_mem_cons.mpr ⟨ms_k181, List.forall_mem_cons.mpr ⟨ms_k179, List.forall_mem_cons.mpr ⟨ms_k2, List.forall_mem_cons.mpr ⟨ms_k182, fun _ h => absurd h List.not_mem_nil⟩⟩⟩⟩⟩⟩) rfl ⟨by decide +kernel, by decide +kernel, (by decide +kernel : (parseMethodDescriptor "()Z").map (fun d => d.parameters.length) = some 0)⟩ (va_recv hK hP rfl (q0 := 0) rfl) hP hD hS [0] [1] rfl rfl ⟨by decide, by decide, by decide⟩ ⟨⟨Nat.le_of_ble_eq_true rfl, Nat.le_of_ble_eq_true rfl⟩, Nat.le_of_ble_eq_true rfl, Nat.le_of_ble_eq_true rfl⟩ rfl (Nat.le_of_ble_eq_true rfl) d13_11 (fun vv ww H locs hR hP hD hS => ?_)
  obtain ⟨rfl, rfl⟩ := hR
  have hP : va_P D vwCl [(v, .inl (dA 2, 16, .inl f)), (h, .inr (3, [.ref v, .int 0, .int 0, .int 0]))] H := hP
  have hD : va_D A [(v, .inl (dA 2, 16, .inl f)), (h, .inr (3, [.ref v, .int 0, .int 0, .int 0]))] := hD
  refine W.eq (g2 := F0 m 14 ls [.int 1]) rfl ?_
  refine lv_if_eq hx hb d13_14 rfl (fun h9 => absurd h9 (by decide)) (fun _ => ?_)
  refine lv_iload_n hx hb d13_17 rfl (lv_at hl 1 rfl) ?_
  refine ms_S (rest := []) (as := [.int z]) (wr := [(v, .inl (dA 2, 16, .inl f)), (h, .inr (3, [.ref v, .int 0, .int 0, .int 0]))]) X hl (c_canEnc l D dA s0 hE z (hz)) (List.forall_mem_cons.mpr ⟨ms_k183, List.forall_mem_cons.mpr ⟨ms_k184, List.forall_mem_cons.mpr ⟨ms_k12, List.forall_mem_cons.mpr ⟨ms_k185, fun _ h => absurd h List.not_mem_nil⟩⟩⟩⟩) ⟨by decide +kernel, by decide +kernel, (by decide +kernel : (parseMethodDescriptor "(C)Z").map (fun d => d.parameters.length) = some 1)⟩ hP hD hS [] [0, 1] rfl rfl ⟨by decide, by decide, by decide⟩ ⟨⟨Nat.le_of_ble_eq_true rfl, Nat.le_of_ble_eq_true rfl⟩, Nat.le_of_ble_eq_true rfl, Nat.le_of_ble_eq_true rfl⟩ rfl (Nat.le_of_ble_eq_true rfl) d13_18 (fun vv ww H locs hR hP hD hS => ?_)
  obtain ⟨rfl, rfl⟩ := hR
  have hP : va_P D vwCl [(v, .inl (dA 2, 16, .inl f)), (h, .inr (3, [.ref v, .int 0, .int 0, .int 0]))] H := hP
  have hD : va_D A [(v, .inl (dA 2, 16, .inl f)), (h, .inr (3, [.ref v, .int 0, .int 0, .int 0]))] := hD
  refine W.eq (g2 := F0 m 21 ls [.int 1]) rfl ?_
  refine lv_if_eq hx hb d13_21 rfl (fun h9 => absurd h9 (by decide)) (fun _ => ?_)
  refine lv_aload_n hx hb d13_24 rfl (lv_at hl 0 rfl) ?_
  refine va_get (D := D) (ci := 3) (v := .ref v) (C := kR3) (T := kT3) (N := 4) hx hb hts ku3 hown hK hP 1 rfl rfl 0 (by decide) (hts _ ms_k57) (fun _ h => h) rfl d13_25 ?_
  refine lv_aload_n hx hb d13_28 rfl (lv_at hl 0 rfl) ?_
  refine lv_dup hx hb d13_29 rfl ?_
  refine va_get (D := D) (ci := 3) (v := .int 0) (C := kR3) (T := kT3) (N := 4) hx hb hts ku3 hown hK hP 1 rfl rfl 3 (by decide) (hts _ ms_k61) (fun _ h => h) rfl d13_30 ?_
  refine lv_dup_x1 hx hb d13_33 rfl rfl ?_
  refine lv_iconst (v := 1) hx hb d13_34 (by decide) ?_
  refine lv_iadd hx hb d13_35 ?_
  refine ms_top (y := 1) (by decide) ?_
  refine va_put (D := D) (ci := 3) (v := .int 1) (ty := .int) (C := kR3) (T := kT3) (N := 4) hx hb hts ku3 kt3 kp3 kn3 hown hK hP hD hS 1 rfl rfl 3 (by decide) (hts _ ms_k61) (fun _ h => h) rfl (by decide +kernel) rfl rfl (Nat.le_of_ble_eq_true rfl) d13_36 (fun H locs hP hD hS => ?_)
  have hP : va_P D vwCl [(v, .inl (dA 2, 16, .inl f)), (h, .inr (3, [.ref v, .int 0, .int 0, .int 1]))] H := hP
  have hD : va_D A [(v, .inl (dA 2, 16, .inl f)), (h, .inr (3, [.ref v, .int 0, .int 0, .int 1]))] := hD
  refine lv_iload_n hx hb d13_39 rfl (lv_at hl 1 rfl) ?_
  refine lv_i2b (v := z.toInt8.toInt32) hx hb d13_40 (rfl) ?_
  refine va_bast hx hb hK hP hD hS 0 2 rfl rfl (by unfold vp_in; decide) d13_41 (fun H locs hP hD hS => ?_)
  have hP : va_P D vwCl [(v, .inl (dA 2, 16, .inl (upd f 0 (vp_nar .byte z.toInt8.toInt32)))), (h, .inr (3, [.ref v, .int 0, .int 0, .int 1]))] H := hP
  have hD : va_D A [(v, .inl (dA 2, 16, .inl (upd f 0 (vp_nar .byte z.toInt8.toInt32)))), (h, .inr (3, [.ref v, .int 0, .int 0, .int 1]))] := hD
  refine lv_goto hx hb d13_42 rfl ?_
  refine lv_aload_n hx hb d13_75 rfl (lv_at hl 0 rfl) ?_
  exact ms_aret X d13_76 hP hD hS (Nat.le_of_ble_eq_true rfl) (Nat.le_of_ble_eq_true rfl) rfl (Or.inl ⟨_, rfl⟩) (Or.inr ⟨_, rfl⟩)

set_option maxRecDepth 100000 in
set_option maxHeartbeats 8000000 in
theorem c_SBapp (l : Launch) (D : va_G) (dA : Nat → ClassId) (s0 : State) (hE : ms_EV D dA s0) (h : Nat) (v : Nat) (f : Nat → Int32) (z : Int32) (hz : ¬ 255 < z) : ms_C l D s0 yM14 bM14 2 (Option.some (Jvm.ClassFile.FieldType.object "java/lang/StringBuilder")) 2 43 0 0 [.ref h, .int z] [(h, .inr (3, [.ref v, .int 0, .int 0, .int 0])), (v, .inl (dA 2, 16, .inl f))] (fun vv _ => vv = some (.ref h)) := by
  refine ms_C.mk hE.1 (by decide) (Nat.le_of_ble_eq_true rfl) [(0, .ref h), (1, .int z)] rfl ?_
  intro p e s m below meth c A ls X hin hP hD hS hl
  have hx := X.1
  have hb := X.2.1
  have hml := X.2.2.1
  have hown : s.vm.findClass "java/lang/StringBuilder" = some m.cls := X.2.2.2.1
  have hts := X.2.2.2.2.2.2.1
  have hK := X.2.2.2.2.2.2.2.2.1
  have hA := X.2.2.2.2.2.2.2.2.2.2
  refine lv_aload_n hx hb d14_0 rfl (lv_at hl 0 rfl) ?_
  refine lv_iload_n hx hb d14_1 rfl (lv_at hl 1 rfl) ?_
  refine ms_SU (C := "java/lang/StringBuilder") (rest := []) (as := [.int z]) (wr := []) ((hK.1 3 _ rfl).2) X hl (c_ASBapp l D dA s0 hE h v f z (hz)) (List.forall_mem_cons.mpr ⟨ms_k140, List.forall_mem_cons.mpr ⟨ms_k1833, List.forall_mem_cons.mpr ⟨ms_k70, List.forall_mem_cons.mpr ⟨ms_k141, List.forall_mem_cons.mpr ⟨ms_k2, List.forall_mem_cons.mpr ⟨ms_k142, fun _ h => absurd h List.not_mem_nil⟩⟩⟩⟩⟩⟩) ⟨by decide +kernel, (by decide +kernel : (parseMethodDescriptor "(C)Ljava/lang/AbstractStringBuilder;").map (fun d => d.parameters.length) = some 1)⟩ (va_recv hK hP rfl (q0 := 0) rfl) hP hD hS [0, 1] [] rfl rfl ⟨by decide, by decide, by decide⟩ ⟨⟨Nat.le_of_ble_eq_true rfl, Nat.le_of_ble_eq_true rfl⟩, Nat.le_of_ble_eq_true rfl, Nat.le_of_ble_eq_true rfl⟩ rfl (Nat.le_of_ble_eq_true rfl) d14_2 (fun vv ww H locs hR hP hD hS => ?_)
  cases hR
  have hP : va_P D vwCl ([] ++ ww) H := hP
  have hD : va_D A ([] ++ ww) := hD
  refine W.eq (g2 := F0 m 5 ls [.ref h]) rfl ?_
  refine lv_pop hx hb d14_5 rfl ?_
  refine lv_aload_n hx hb d14_6 rfl (lv_at hl 0 rfl) ?_
  exact ms_aret X d14_7 hP hD hS (Nat.le_of_ble_eq_true rfl) (Nat.le_of_ble_eq_true rfl) rfl (Or.inl ⟨_, rfl⟩) (Or.inr ⟨_, rfl⟩)

set_option maxRecDepth 100000 in
set_option maxHeartbeats 8000000 in
theorem c_ckLen (l : Launch) (D : va_G) (dA : Nat → ClassId) (s0 : State) (hE : ms_EV D dA s0) : ms_C l D s0 yM15 bM15 2 (Option.none : Option Jvm.ClassFile.FieldType) 0 0 0 0 [.int 0, .int 0] [] (fun vv ww => vv = none ∧ ww = []) := by
  refine ms_C.mk hE.1 (by decide) (Nat.le_of_ble_eq_true rfl) [(0, .int 0), (1, .int 0)] rfl ?_
  intro p e s m below meth c A ls X hin hP hD hS hl
  have hx := X.1
  have hb := X.2.1
  have hml := X.2.2.1
  have hown : s.vm.findClass "java/util/Arrays" = some m.cls := X.2.2.2.1
  have hts := X.2.2.2.2.2.2.1
  have hK := X.2.2.2.2.2.2.2.2.1
  have hA := X.2.2.2.2.2.2.2.2.2.2
  refine lv_iload_n hx hb d15_0 rfl (lv_at hl 1 rfl) ?_
  refine lv_iload_n hx hb d15_1 rfl (lv_at hl 0 rfl) ?_
  refine lv_icmp_ge hx hb d15_2 rfl (fun _ => ?_) (fun h9 => absurd (by decide) h9)
  exact ms_vret X d15_37 hP hD hS (Nat.le_of_ble_eq_true rfl) (Nat.le_of_ble_eq_true rfl) (⟨rfl, rfl⟩)

set_option maxRecDepth 100000 in
set_option maxHeartbeats 8000000 in
theorem c_cpRB (l : Launch) (D : va_G) (dA : Nat → ClassId) (s0 : State) (hE : ms_EV D dA s0) (v : Nat) (f : Nat → Int32) : ms_C l D s0 yM16 bM16 5 (Option.some (Jvm.ClassFile.FieldType.array Jvm.ClassFile.FieldType.byte)) 1 100 1 0 [.ref v, .int 0, .int 0] [(v, .inl (dA 2, 16, .inl f))] (fun vv ww => ∃ (u : Nat) (g : Nat → Int32), vv = some (.ref u) ∧ ww = [(v, .inl (dA 2, 16, .inl f)), (u, .inl (dA 2, 0, .inl g))]) := by
  refine ms_C.mk hE.1 (by decide) (Nat.le_of_ble_eq_true rfl) [(0, .ref v), (1, .int 0), (2, .int 0)] rfl ?_
  intro p e s m below meth c A ls X hin hP hD hS hl
  have hx := X.1
  have hb := X.2.1
  have hml := X.2.2.1
  have hown : s.vm.findClass "java/util/Arrays" = some m.cls := X.2.2.2.1
  have hts := X.2.2.2.2.2.2.1
  have hK := X.2.2.2.2.2.2.2.2.1
  have hA := X.2.2.2.2.2.2.2.2.2.2
  refine lv_iload_n hx hb d16_0 rfl (lv_at hl 1 rfl) ?_
  refine lv_iload_n hx hb d16_1 rfl (lv_at hl 2 rfl) ?_
  refine ms_S (rest := []) (as := [.int 0, .int 0]) (wr := [(v, .inl (dA 2, 16, .inl f))]) X hl (c_ckLen l D dA s0 hE ) (List.forall_mem_cons.mpr ⟨ms_k267, List.forall_mem_cons.mpr ⟨ms_k268, List.forall_mem_cons.mpr ⟨ms_k10, List.forall_mem_cons.mpr ⟨ms_k269, fun _ h => absurd h List.not_mem_nil⟩⟩⟩⟩) ⟨by decide +kernel, by decide +kernel, (by decide +kernel : (parseMethodDescriptor "(II)V").map (fun d => d.parameters.length) = some 2)⟩ hP hD hS [] [0] rfl rfl ⟨by decide, by decide, by decide⟩ ⟨⟨Nat.le_of_ble_eq_true rfl, Nat.le_of_ble_eq_true rfl⟩, Nat.le_of_ble_eq_true rfl, Nat.le_of_ble_eq_true rfl⟩ rfl (Nat.le_of_ble_eq_true rfl) d16_2 (fun vv ww H locs hR hP hD hS => ?_)
  obtain ⟨rfl, rfl⟩ := hR
  have hP : va_P D vwCl [(v, .inl (dA 2, 16, .inl f))] H := hP
  have hD : va_D A [(v, .inl (dA 2, 16, .inl f))] := hD
  refine W.eq (g2 := F0 m 5 ls []) rfl ?_
  refine lv_iload_n hx hb d16_5 rfl (lv_at hl 2 rfl) ?_
  refine lv_iload_n hx hb d16_6 rfl (lv_at hl 1 rfl) ?_
  refine lv_isub hx hb d16_7 ?_
  refine ms_top (y := 0) (by decide) ?_
  refine lv_istore_n hx hb d16_8 rfl hl (by decide) rfl (fun ls hl => ?_)
  have hl : lv_has ls 5 [(3, .int 0), (0, .ref v), (1, .int 0), (2, .int 0)] := hl
  refine lv_iload_n hx hb d16_9 rfl (lv_at hl 0 rfl) ?_
  refine ms_newa (atype := .byte) (ty := .byte) (a0 := (0, .inl (fun _ => 0))) X ms_k71 rfl 2 rfl (fun _ h => h) hP hD hS (fun _ => rfl) (by decide) (by decide) (by decide) (Nat.le_of_ble_eq_true rfl) (Nat.le_of_ble_eq_true rfl) d16_10 (fun q1 H hP hD hS => ?_)
  have hP : va_P D vwCl [(v, .inl (dA 2, 16, .inl f)), (q1, .inl (dA 2, 0, .inl (fun _ => 0)))] H := hP
  have hD : va_D A [(v, .inl (dA 2, 16, .inl f)), (q1, .inl (dA 2, 0, .inl (fun _ => 0)))] := hD
  refine lv_astore hx hb d16_12 hl (by decide) rfl (fun ls hl => ?_)
  have hl : lv_has ls 5 [(4, .ref q1), (3, .int 0), (0, .ref v), (1, .int 0), (2, .int 0)] := hl
  refine lv_aload_n hx hb d16_14 rfl (lv_at hl 2 rfl) ?_
  refine lv_iload_n hx hb d16_15 rfl (lv_at hl 3 rfl) ?_
  refine lv_aload hx hb d16_16 (lv_at hl 0 rfl) ?_
  refine lv_iconst (v := 0) hx hb d16_18 (by decide) ?_
  refine lv_aload_n hx hb d16_19 rfl (lv_at hl 2 rfl) ?_
  refine va_alen (v := 16) hx hb hK hP 0 2 rfl rfl rfl d16_20 ?_
  refine lv_iload_n hx hb d16_21 rfl (lv_at hl 3 rfl) ?_
  refine lv_isub hx hb d16_22 ?_
  refine ms_top (y := 16) (by decide) ?_
  refine lv_iload_n hx hb d16_23 rfl (lv_at hl 1 rfl) ?_
  refine va_mmin hx hb (by rw [hml]; exact hl.1.symm) hown (hts _ ms_k172) (hts _ ms_k173) (hts _ ms_k9) (hts _ ms_k174) (Nat.le_of_ble_eq_true rfl) (Nat.le_of_ble_eq_true rfl) (Nat.le_of_ble_eq_true rfl) (Nat.le_of_ble_eq_true rfl) d16_24 ?_
  refine ms_top (y := 0) (by decide) ?_
  refine va_copyi (ty := .byte) hx hb (by rw [hml]; exact hl.1.symm) hown (hts _ ms_k175) (hts _ ms_k177) (hts _ ms_k176) (hts _ ms_k11) hK hP hD hS 0 1 2 2 rfl rfl rfl rfl rfl (by decide) (by decide) (by decide) (by decide) (by decide) (fun i hi => absurd hi (Nat.not_lt_zero _)) (Nat.le_of_ble_eq_true rfl) (Nat.le_of_ble_eq_true (by decide +kernel)) d16_27 (fun H locs hP hD hS => ?_)
  have hP : va_P D vwCl [(v, .inl (dA 2, 16, .inl f)), (q1, .inl (dA 2, 0, .inl (va_cpy f (fun _ => 0) 0 0 0)))] H := hP
  have hD : va_D A [(v, .inl (dA 2, 16, .inl f)), (q1, .inl (dA 2, 0, .inl (va_cpy f (fun _ => 0) 0 0 0)))] := hD
  refine lv_aload hx hb d16_30 (lv_at hl 0 rfl) ?_
  exact ms_aret X d16_32 hP hD hS (Nat.le_of_ble_eq_true rfl) (Nat.le_of_ble_eq_true rfl) (⟨q1, (va_cpy f (fun _ => 0) 0 0 0), rfl, rfl⟩) (Or.inr ⟨_, rfl⟩) (Or.inr ⟨_, rfl⟩)

set_option maxRecDepth 100000 in
set_option maxHeartbeats 8000000 in
theorem c_cpR (l : Launch) (D : va_G) (dA : Nat → ClassId) (s0 : State) (hE : ms_EV D dA s0) (v : Nat) (f : Nat → Int32) : ms_C l D s0 yM17 bM17 3 (Option.some (Jvm.ClassFile.FieldType.array Jvm.ClassFile.FieldType.byte)) 2 124 1 0 [.ref v, .int 0, .int 0] [(v, .inl (dA 2, 16, .inl f))] (fun vv ww => ∃ (u : Nat) (g : Nat → Int32), vv = some (.ref u) ∧ ww = [(v, .inl (dA 2, 16, .inl f)), (u, .inl (dA 2, 0, .inl g))]) := by
  refine ms_C.mk hE.1 (by decide) (Nat.le_of_ble_eq_true rfl) [(0, .ref v), (1, .int 0), (2, .int 0)] rfl ?_
  intro p e s m below meth c A ls X hin hP hD hS hl
  have hx := X.1
  have hb := X.2.1
  have hml := X.2.2.1
  have hown : s.vm.findClass "java/util/Arrays" = some m.cls := X.2.2.2.1
  have hts := X.2.2.2.2.2.2.1
  have hK := X.2.2.2.2.2.2.2.2.1
  have hA := X.2.2.2.2.2.2.2.2.2.2
  refine lv_iload_n hx hb d17_0 rfl (lv_at hl 1 rfl) ?_
  refine lv_if_ne hx hb d17_1 rfl (fun h9 => absurd h9 (by decide)) (fun _ => ?_)
  refine lv_iload_n hx hb d17_4 rfl (lv_at hl 2 rfl) ?_
  refine lv_aload_n hx hb d17_5 rfl (lv_at hl 0 rfl) ?_
  refine va_alen (v := 16) hx hb hK hP 0 2 rfl rfl rfl d17_6 ?_
  refine lv_icmp_eq hx hb d17_7 rfl (fun h9 => absurd h9 (by decide)) (fun _ => ?_)
  refine lv_aload_n hx hb d17_10 rfl (lv_at hl 0 rfl) ?_
  refine lv_iload_n hx hb d17_11 rfl (lv_at hl 1 rfl) ?_
  refine lv_iload_n hx hb d17_12 rfl (lv_at hl 2 rfl) ?_
  refine ms_S (rest := []) (as := [.ref v, .int 0, .int 0]) (wr := []) X hl (c_cpRB l D dA s0 hE v f) (List.forall_mem_cons.mpr ⟨ms_k264, List.forall_mem_cons.mpr ⟨ms_k265, List.forall_mem_cons.mpr ⟨ms_k10, List.forall_mem_cons.mpr ⟨ms_k266, fun _ h => absurd h List.not_mem_nil⟩⟩⟩⟩) ⟨by decide +kernel, by decide +kernel, (by decide +kernel : (parseMethodDescriptor "([BII)[B").map (fun d => d.parameters.length) = some 3)⟩ hP hD hS [0] [] rfl rfl ⟨by decide, by decide, by decide⟩ ⟨⟨Nat.le_of_ble_eq_true rfl, Nat.le_of_ble_eq_true rfl⟩, Nat.le_of_ble_eq_true rfl, Nat.le_of_ble_eq_true rfl⟩ rfl (Nat.le_of_ble_eq_true rfl) d17_13 (fun vv ww H locs hR hP hD hS => ?_)
  obtain ⟨u_1, g_2, rfl, rfl⟩ := hR
  have hP : va_P D vwCl [(v, .inl (dA 2, 16, .inl f)), (u_1, .inl (dA 2, 0, .inl g_2))] H := hP
  have hD : va_D A [(v, .inl (dA 2, 16, .inl f)), (u_1, .inl (dA 2, 0, .inl g_2))] := hD
  refine W.eq (g2 := F0 m 16 ls [.ref u_1]) rfl ?_
  exact ms_aret X d17_16 hP hD hS (Nat.le_of_ble_eq_true rfl) (Nat.le_of_ble_eq_true rfl) (⟨u_1, g_2, rfl, rfl⟩) (Or.inr ⟨_, rfl⟩) (Or.inr ⟨_, rfl⟩)

set_option maxRecDepth 100000 in
set_option maxHeartbeats 8000000 in
theorem c_Sinit2 (l : Launch) (D : va_G) (dA : Nat → ClassId) (s0 : State) (hE : ms_EV D dA s0) (t : Nat) (h : Nat) (v : Nat) (f : Nat → Int32) : ms_C l D s0 yM18 bM18 5 (Option.none : Option Jvm.ClassFile.FieldType) 3 146 1 0 [.ref t, .ref h, .null] [(t, .inr (5, [.null, .int 0, .int 0, .int 0])), (h, .inr (3, [.ref v, .int 0, .int 0, .int 0])), (v, .inl (dA 2, 16, .inl f))] (fun vv ww => ∃ (u : Nat) (g : Nat → Int32), vv = none ∧ ww = [(h, .inr (3, [.ref v, .int 0, .int 0, .int 0])), (v, .inl (dA 2, 16, .inl f)), (t, .inr (5, [.ref u, .int 0, .int 0, .int 0])), (u, .inl (dA 2, 0, .inl g))]) := by
  refine ms_C.mk hE.1 (by decide) (Nat.le_of_ble_eq_true rfl) [(0, .ref t), (1, .ref h), (2, .null)] rfl ?_
  intro p e s m below meth c A ls X hin hP hD hS hl
  have hx := X.1
  have hb := X.2.1
  have hml := X.2.2.1
  have hown : s.vm.findClass "java/lang/String" = some m.cls := X.2.2.2.1
  have hts := X.2.2.2.2.2.2.1
  have hK := X.2.2.2.2.2.2.2.2.1
  have hA := X.2.2.2.2.2.2.2.2.2.2
  refine lv_aload_n hx hb d18_0 rfl (lv_at hl 0 rfl) ?_
  refine W.objInit hx hb hown (hts _ ms_k253) (hts _ ms_k37) (hts _ ms_k38) rfl (by rw [hml]; exact hl.1) rfl d18_1 (Nat.le_of_ble_eq_true rfl) (Nat.le_of_ble_eq_true rfl) ?_
  refine W.eq (g2 := F0 m 4 ls []) rfl ?_
  refine lv_aload_n hx hb d18_4 rfl (lv_at hl 1 rfl) ?_
  refine ms_U (C := "java/lang/StringBuilder") (x := ⟨"java/lang/AbstractStringBuilder", "getValue", "()[B"⟩) (owner := "java/lang/AbstractStringBuilder") (rest := []) (as := []) (wr := [(t, .inr (5, [.null, .int 0, .int 0, .int 0])), (v, .inl (dA 2, 16, .inl f))]) X hl (c_getVal l D dA s0 hE h v 0) (List.forall_mem_cons.mpr ⟨ms_k254, List.forall_mem_cons.mpr ⟨ms_k256, List.forall_mem_cons.mpr ⟨ms_k257, List.forall_mem_cons.mpr ⟨ms_k255, List.forall_mem_cons.mpr ⟨ms_k2, List.forall_mem_cons.mpr ⟨ms_k258, fun _ h => absurd h List.not_mem_nil⟩⟩⟩⟩⟩⟩) rfl ⟨by decide +kernel, by decide +kernel, (by decide +kernel : (parseMethodDescriptor "()[B").map (fun d => d.parameters.length) = some 0)⟩ (va_recv hK hP rfl (q0 := 1) rfl) hP hD hS [1] [0, 2] rfl rfl ⟨by decide, by decide, by decide⟩ ⟨⟨Nat.le_of_ble_eq_true rfl, Nat.le_of_ble_eq_true rfl⟩, Nat.le_of_ble_eq_true rfl, Nat.le_of_ble_eq_true rfl⟩ rfl (Nat.le_of_ble_eq_true rfl) d18_5 (fun vv ww H locs hR hP hD hS => ?_)
  obtain ⟨rfl, rfl⟩ := hR
  have hP : va_P D vwCl [(t, .inr (5, [.null, .int 0, .int 0, .int 0])), (v, .inl (dA 2, 16, .inl f)), (h, .inr (3, [.ref v, .int 0, .int 0, .int 0]))] H := hP
  have hD : va_D A [(t, .inr (5, [.null, .int 0, .int 0, .int 0])), (v, .inl (dA 2, 16, .inl f)), (h, .inr (3, [.ref v, .int 0, .int 0, .int 0]))] := hD
  refine W.eq (g2 := F0 m 8 ls [.ref v]) rfl ?_
  refine lv_astore_n hx hb d18_8 rfl hl (by decide) rfl (fun ls hl => ?_)
  have hl : lv_has ls 5 [(3, .ref v), (0, .ref t), (1, .ref h), (2, .null)] := hl
  refine lv_aload_n hx hb d18_9 rfl (lv_at hl 2 rfl) ?_
  refine ms_O (C := "java/lang/StringBuilder") (x := ⟨"java/lang/AbstractStringBuilder", "length", "()I"⟩) (owner := "java/lang/AbstractStringBuilder") (rest := []) (as := []) (wr := [(t, .inr (5, [.null, .int 0, .int 0, .int 0])), (v, .inl (dA 2, 16, .inl f))]) X hl (c_SBlen l D dA s0 hE h v 0) (List.forall_mem_cons.mpr ⟨ms_k259, List.forall_mem_cons.mpr ⟨ms_k1832, List.forall_mem_cons.mpr ⟨ms_k134, List.forall_mem_cons.mpr ⟨ms_k1837, List.forall_mem_cons.mpr ⟨ms_k130, List.forall_mem_cons.mpr ⟨ms_k3, List.forall_mem_cons.mpr ⟨ms_k132, fun _ h => absurd h List.not_mem_nil⟩⟩⟩⟩⟩⟩⟩) ms_k135 ⟨by decide +kernel, by decide +kernel, (by decide +kernel : (parseMethodDescriptor "()I").map (fun d => d.parameters.length) = some 0)⟩ (va_recv hK hP rfl (q0 := 2) rfl) hP hD hS [2] [0, 1] rfl rfl ⟨by decide, by decide, by decide⟩ ⟨⟨Nat.le_of_ble_eq_true rfl, Nat.le_of_ble_eq_true rfl⟩, Nat.le_of_ble_eq_true rfl, Nat.le_of_ble_eq_true rfl⟩ rfl (Nat.le_of_ble_eq_true rfl) d18_10 (fun vv ww H locs hR hP hD hS => ?_)
  obtain ⟨rfl, rfl⟩ := hR
  have hP : va_P D vwCl [(t, .inr (5, [.null, .int 0, .int 0, .int 0])), (v, .inl (dA 2, 16, .inl f)), (h, .inr (3, [.ref v, .int 0, .int 0, .int 0]))] H := hP
  have hD : va_D A [(t, .inr (5, [.null, .int 0, .int 0, .int 0])), (v, .inl (dA 2, 16, .inl f)), (h, .inr (3, [.ref v, .int 0, .int 0, .int 0]))] := hD
  refine W.eq (g2 := F0 m 13 ls [.int 0]) rfl ?_
  refine lv_istore hx hb d18_13 hl (by decide) rfl (fun ls hl => ?_)
  have hl : lv_has ls 5 [(4, .int 0), (3, .ref v), (0, .ref t), (1, .ref h), (2, .null)] := hl
  refine lv_aload_n hx hb d18_15 rfl (lv_at hl 3 rfl) ?_
  refine ms_U (C := "java/lang/StringBuilder") (x := ⟨"java/lang/AbstractStringBuilder", "isLatin1", "()Z"⟩) (owner := "java/lang/AbstractStringBuilder") (rest := []) (as := []) (wr := [(t, .inr (5, [.null, .int 0, .int 0, .int 0])), (v, .inl (dA 2, 16, .inl f))]) X hl (c_isLat l D dA s0 hE h v 0) (List.forall_mem_cons.mpr ⟨ms_k260, List.forall_mem_cons.mpr ⟨ms_k180, List.forall_mem_cons.mpr ⟨ms_k181, List.forall_mem_cons.mpr ⟨ms_k179, List.forall_mem_cons.mpr ⟨ms_k2, List.forall_mem_cons.mpr ⟨ms_k182, fun _ h => absurd h List.not_mem_nil⟩⟩⟩⟩⟩⟩) rfl ⟨by decide +kernel, by decide +kernel, (by decide +kernel : (parseMethodDescriptor "()Z").map (fun d => d.parameters.length) = some 0)⟩ (va_recv hK hP rfl (q0 := 2) rfl) hP hD hS [2] [0, 1] rfl rfl ⟨by decide, by decide, by decide⟩ ⟨⟨Nat.le_of_ble_eq_true rfl, Nat.le_of_ble_eq_true rfl⟩, Nat.le_of_ble_eq_true rfl, Nat.le_of_ble_eq_true rfl⟩ rfl (Nat.le_of_ble_eq_true rfl) d18_16 (fun vv ww H locs hR hP hD hS => ?_)
  obtain ⟨rfl, rfl⟩ := hR
  have hP : va_P D vwCl [(t, .inr (5, [.null, .int 0, .int 0, .int 0])), (v, .inl (dA 2, 16, .inl f)), (h, .inr (3, [.ref v, .int 0, .int 0, .int 0]))] H := hP
  have hD : va_D A [(t, .inr (5, [.null, .int 0, .int 0, .int 0])), (v, .inl (dA 2, 16, .inl f)), (h, .inr (3, [.ref v, .int 0, .int 0, .int 0]))] := hD
  refine W.eq (g2 := F0 m 19 ls [.int 1]) rfl ?_
  refine lv_if_eq hx hb d18_19 rfl (fun h9 => absurd h9 (by decide)) (fun _ => ?_)
  refine lv_aload_n hx hb d18_22 rfl (lv_at hl 2 rfl) ?_
  refine lv_iconst (v := 0) hx hb d18_23 (by decide) ?_
  refine va_putF (D := D) (ci := 5) (v := .int 0) (ty := .byte) (C := kR5) (T := kT5) (N := 4) hx hb hts ku5 kt5 kp5 kn5 hown hK hP hD hS 0 rfl rfl 1 (by decide) (hts _ ms_k285) (fun _ h => h) rfl hin rfl (by decide +kernel) rfl rfl (Nat.le_of_ble_eq_true rfl) d18_24 (fun H locs hP hD hS => ?_)
  have hP : va_P D vwCl [(t, .inr (5, [.null, .int 0, .int 0, .int 0])), (v, .inl (dA 2, 16, .inl f)), (h, .inr (3, [.ref v, .int 0, .int 0, .int 0]))] H := hP
  have hD : va_D A [(t, .inr (5, [.null, .int 0, .int 0, .int 0])), (v, .inl (dA 2, 16, .inl f)), (h, .inr (3, [.ref v, .int 0, .int 0, .int 0]))] := hD
  refine lv_aload_n hx hb d18_27 rfl (lv_at hl 2 rfl) ?_
  refine lv_aload_n hx hb d18_28 rfl (lv_at hl 1 rfl) ?_
  refine lv_iconst (v := 0) hx hb d18_29 (by decide) ?_
  refine lv_iload hx hb d18_30 (lv_at hl 0 rfl) ?_
  refine ms_S (rest := [.ref t]) (as := [.ref v, .int 0, .int 0]) (wr := [(t, .inr (5, [.null, .int 0, .int 0, .int 0])), (h, .inr (3, [.ref v, .int 0, .int 0, .int 0]))]) X hl (c_cpR l D dA s0 hE v f) (List.forall_mem_cons.mpr ⟨ms_k261, List.forall_mem_cons.mpr ⟨ms_k262, List.forall_mem_cons.mpr ⟨ms_k10, List.forall_mem_cons.mpr ⟨ms_k263, fun _ h => absurd h List.not_mem_nil⟩⟩⟩⟩) ⟨by decide +kernel, by decide +kernel, (by decide +kernel : (parseMethodDescriptor "([BII)[B").map (fun d => d.parameters.length) = some 3)⟩ hP hD hS [1] [0, 2] rfl rfl ⟨by decide, by decide, by decide⟩ ⟨⟨Nat.le_of_ble_eq_true rfl, Nat.le_of_ble_eq_true rfl⟩, Nat.le_of_ble_eq_true rfl, Nat.le_of_ble_eq_true rfl⟩ rfl (Nat.le_of_ble_eq_true rfl) d18_32 (fun vv ww H locs hR hP hD hS => ?_)
  obtain ⟨u_1, g_2, rfl, rfl⟩ := hR
  have hP : va_P D vwCl [(t, .inr (5, [.null, .int 0, .int 0, .int 0])), (h, .inr (3, [.ref v, .int 0, .int 0, .int 0])), (v, .inl (dA 2, 16, .inl f)), (u_1, .inl (dA 2, 0, .inl g_2))] H := hP
  have hD : va_D A [(t, .inr (5, [.null, .int 0, .int 0, .int 0])), (h, .inr (3, [.ref v, .int 0, .int 0, .int 0])), (v, .inl (dA 2, 16, .inl f)), (u_1, .inl (dA 2, 0, .inl g_2))] := hD
  refine W.eq (g2 := F0 m 35 ls [.ref u_1, .ref t]) rfl ?_
  refine va_putF (D := D) (ci := 5) (v := .ref u_1) (ty := (.array .byte)) (C := kR5) (T := kT5) (N := 4) hx hb hts ku5 kt5 kp5 kn5 hown hK hP hD hS 0 rfl rfl 0 (by decide) (hts _ ms_k284) (fun _ h => h) rfl hin rfl (by decide +kernel) rfl rfl (Nat.le_of_ble_eq_true rfl) d18_35 (fun H locs hP hD hS => ?_)
  have hP : va_P D vwCl [(t, .inr (5, [.ref u_1, .int 0, .int 0, .int 0])), (h, .inr (3, [.ref v, .int 0, .int 0, .int 0])), (v, .inl (dA 2, 16, .inl f)), (u_1, .inl (dA 2, 0, .inl g_2))] H := hP
  have hD : va_D A [(t, .inr (5, [.ref u_1, .int 0, .int 0, .int 0])), (h, .inr (3, [.ref v, .int 0, .int 0, .int 0])), (v, .inl (dA 2, 16, .inl f)), (u_1, .inl (dA 2, 0, .inl g_2))] := hD
  refine lv_goto hx hb d18_38 rfl ?_
  have hP := hP.sub (ws' := [(h, .inr (3, [.ref v, .int 0, .int 0, .int 0])), (v, .inl (dA 2, 16, .inl f)), (t, .inr (5, [.ref u_1, .int 0, .int 0, .int 0])), (u_1, .inl (dA 2, 0, .inl g_2))]) [1, 2, 0, 3] rfl
  have hD := hD.sub (ws' := [(h, .inr (3, [.ref v, .int 0, .int 0, .int 0])), (v, .inl (dA 2, 16, .inl f)), (t, .inr (5, [.ref u_1, .int 0, .int 0, .int 0])), (u_1, .inl (dA 2, 0, .inl g_2))]) [1, 2, 0, 3] (by decide) rfl
  exact ms_vret X d18_97 hP hD hS (Nat.le_of_ble_eq_true rfl) (Nat.le_of_ble_eq_true rfl) (⟨u_1, g_2, rfl, rfl⟩)

set_option maxRecDepth 100000 in
set_option maxHeartbeats 8000000 in
theorem c_Sinit1 (l : Launch) (D : va_G) (dA : Nat → ClassId) (s0 : State) (hE : ms_EV D dA s0) (t : Nat) (h : Nat) (v : Nat) (f : Nat → Int32) : ms_C l D s0 yM19 bM19 2 (Option.none : Option Jvm.ClassFile.FieldType) 4 170 1 0 [.ref t, .ref h] [(t, .inr (5, [.null, .int 0, .int 0, .int 0])), (h, .inr (3, [.ref v, .int 0, .int 0, .int 0])), (v, .inl (dA 2, 16, .inl f))] (fun vv ww => ∃ (u : Nat) (g : Nat → Int32), vv = none ∧ ww = [(h, .inr (3, [.ref v, .int 0, .int 0, .int 0])), (v, .inl (dA 2, 16, .inl f)), (t, .inr (5, [.ref u, .int 0, .int 0, .int 0])), (u, .inl (dA 2, 0, .inl g))]) := by
  refine ms_C.mk hE.1 (by decide) (Nat.le_of_ble_eq_true rfl) [(0, .ref t), (1, .ref h)] rfl ?_
  intro p e s m below meth c A ls X hin hP hD hS hl
  have hx := X.1
  have hb := X.2.1
  have hml := X.2.2.1
  have hown : s.vm.findClass "java/lang/String" = some m.cls := X.2.2.2.1
  have hts := X.2.2.2.2.2.2.1
  have hK := X.2.2.2.2.2.2.2.2.1
  have hA := X.2.2.2.2.2.2.2.2.2.2
  refine lv_aload_n hx hb d19_0 rfl (lv_at hl 0 rfl) ?_
  refine lv_aload_n hx hb d19_1 rfl (lv_at hl 1 rfl) ?_
  refine lv_null hx hb d19_2 ?_
  refine ms_I (rest := []) (as := [.ref h, .null]) (wr := []) X hl (c_Sinit2 l D dA s0 hE t h v f) (List.forall_mem_cons.mpr ⟨ms_k250, List.forall_mem_cons.mpr ⟨ms_k251, List.forall_mem_cons.mpr ⟨ms_k4, List.forall_mem_cons.mpr ⟨ms_k252, fun _ h => absurd h List.not_mem_nil⟩⟩⟩⟩) rfl ⟨by decide +kernel, by decide +kernel, (by decide +kernel : (parseMethodDescriptor "(Ljava/lang/AbstractStringBuilder;Ljava/lang/Void;)V").map (fun d => d.parameters.length) = some 2)⟩ hP hD hS [0, 1, 2] [] rfl rfl ⟨by decide, by decide, by decide⟩ ⟨⟨Nat.le_of_ble_eq_true rfl, Nat.le_of_ble_eq_true rfl⟩, Nat.le_of_ble_eq_true rfl, Nat.le_of_ble_eq_true rfl⟩ rfl (Nat.le_of_ble_eq_true rfl) d19_3 (fun vv ww H locs hR hP hD hS => ?_)
  obtain ⟨u_1, g_2, rfl, rfl⟩ := hR
  have hP : va_P D vwCl [(h, .inr (3, [.ref v, .int 0, .int 0, .int 0])), (v, .inl (dA 2, 16, .inl f)), (t, .inr (5, [.ref u_1, .int 0, .int 0, .int 0])), (u_1, .inl (dA 2, 0, .inl g_2))] H := hP
  have hD : va_D A [(h, .inr (3, [.ref v, .int 0, .int 0, .int 0])), (v, .inl (dA 2, 16, .inl f)), (t, .inr (5, [.ref u_1, .int 0, .int 0, .int 0])), (u_1, .inl (dA 2, 0, .inl g_2))] := hD
  refine W.eq (g2 := F0 m 6 ls []) rfl ?_
  exact ms_vret X d19_6 hP hD hS (Nat.le_of_ble_eq_true rfl) (Nat.le_of_ble_eq_true rfl) (⟨u_1, g_2, rfl, rfl⟩)

set_option maxRecDepth 100000 in
set_option maxHeartbeats 8000000 in
theorem c_toStr (l : Launch) (D : va_G) (dA : Nat → ClassId) (s0 : State) (hE : ms_EV D dA s0) (h : Nat) (v : Nat) (f : Nat → Int32) : ms_C l D s0 yM20 bM20 1 (Option.some (Jvm.ClassFile.FieldType.object "java/lang/String")) 5 191 2 4 [.ref h] [(h, .inr (3, [.ref v, .int 0, .int 0, .int 0])), (v, .inl (dA 2, 16, .inl f))] (fun vv ww => ∃ (t : Nat) (u : Nat) (g : Nat → Int32), vv = some (.ref t) ∧ ww = [(h, .inr (3, [.ref v, .int 0, .int 0, .int 0])), (v, .inl (dA 2, 16, .inl f)), (t, .inr (5, [.ref u, .int 0, .int 0, .int 0])), (u, .inl (dA 2, 0, .inl g))]) := by
  refine ms_C.mk hE.1 (by decide) (Nat.le_of_ble_eq_true rfl) [(0, .ref h)] rfl ?_
  intro p e s m below meth c A ls X hin hP hD hS hl
  have hx := X.1
  have hb := X.2.1
  have hml := X.2.2.1
  have hown : s.vm.findClass "java/lang/StringBuilder" = some m.cls := X.2.2.2.1
  have hts := X.2.2.2.2.2.2.1
  have hK := X.2.2.2.2.2.2.2.2.1
  have hA := X.2.2.2.2.2.2.2.2.2.2
  refine va_new (ci := 5) (fs := [.null, .int 0, .int 0, .int 0]) (C := kR5) (T := kT5) (N := 4) hx hb hts ku5 kt5 kp5 hown (hts _ ms_k245) (hts _ ms_k246) (hts _ ms_k4) hK hP hD hS hA rfl kz5 (Nat.le_of_ble_eq_true rfl) (Nat.le_of_ble_eq_true rfl) d20_0 (fun q1 H hP hD hS => ?_)
  have hP : va_P D vwCl [(h, .inr (3, [.ref v, .int 0, .int 0, .int 0])), (v, .inl (dA 2, 16, .inl f)), (q1, .inr (5, [.null, .int 0, .int 0, .int 0]))] H := hP
  have hD : va_D A [(h, .inr (3, [.ref v, .int 0, .int 0, .int 0])), (v, .inl (dA 2, 16, .inl f)), (q1, .inr (5, [.null, .int 0, .int 0, .int 0]))] := hD
  refine lv_dup hx hb d20_3 rfl ?_
  refine lv_aload_n hx hb d20_4 rfl (lv_at hl 0 rfl) ?_
  refine ms_I (rest := [.ref q1]) (as := [.ref h]) (wr := []) X hl (c_Sinit1 l D dA s0 hE q1 h v f) (List.forall_mem_cons.mpr ⟨ms_k247, List.forall_mem_cons.mpr ⟨ms_k248, List.forall_mem_cons.mpr ⟨ms_k4, List.forall_mem_cons.mpr ⟨ms_k249, fun _ h => absurd h List.not_mem_nil⟩⟩⟩⟩) rfl ⟨by decide +kernel, by decide +kernel, (by decide +kernel : (parseMethodDescriptor "(Ljava/lang/StringBuilder;)V").map (fun d => d.parameters.length) = some 1)⟩ hP hD hS [2, 0, 1] [] rfl rfl ⟨by decide, by decide, by decide⟩ ⟨⟨Nat.le_of_ble_eq_true rfl, Nat.le_of_ble_eq_true rfl⟩, Nat.le_of_ble_eq_true rfl, Nat.le_of_ble_eq_true rfl⟩ rfl (Nat.le_of_ble_eq_true rfl) d20_5 (fun vv ww H locs hR hP hD hS => ?_)
  obtain ⟨u_2, g_3, rfl, rfl⟩ := hR
  have hP : va_P D vwCl [(h, .inr (3, [.ref v, .int 0, .int 0, .int 0])), (v, .inl (dA 2, 16, .inl f)), (q1, .inr (5, [.ref u_2, .int 0, .int 0, .int 0])), (u_2, .inl (dA 2, 0, .inl g_3))] H := hP
  have hD : va_D A [(h, .inr (3, [.ref v, .int 0, .int 0, .int 0])), (v, .inl (dA 2, 16, .inl f)), (q1, .inr (5, [.ref u_2, .int 0, .int 0, .int 0])), (u_2, .inl (dA 2, 0, .inl g_3))] := hD
  refine W.eq (g2 := F0 m 8 ls [.ref q1]) rfl ?_
  exact ms_aret X d20_8 hP hD hS (Nat.le_of_ble_eq_true rfl) (Nat.le_of_ble_eq_true rfl) (⟨q1, u_2, g_3, rfl, rfl⟩) (Or.inl ⟨_, rfl⟩) (Or.inr ⟨_, rfl⟩)

set_option maxRecDepth 100000 in
set_option maxHeartbeats 8000000 in
theorem c_Scoder (l : Launch) (D : va_G) (dA : Nat → ClassId) (s0 : State) (hE : ms_EV D dA s0) (t : Nat) (u : Nat) : ms_C l D s0 yM21 bM21 1 (Option.some Jvm.ClassFile.FieldType.byte) 0 0 0 0 [.ref t] [(t, .inr (5, [.ref u, .int 0, .int 0, .int 0]))] (fun vv ww => vv = some (.int 0) ∧ ww = [(t, .inr (5, [.ref u, .int 0, .int 0, .int 0]))]) := by
  refine ms_C.mk hE.1 (by decide) (Nat.le_of_ble_eq_true rfl) [(0, .ref t)] rfl ?_
  intro p e s m below meth c A ls X hin hP hD hS hl
  have hx := X.1
  have hb := X.2.1
  have hml := X.2.2.1
  have hown : s.vm.findClass "java/lang/String" = some m.cls := X.2.2.2.1
  have hts := X.2.2.2.2.2.2.1
  have hK := X.2.2.2.2.2.2.2.2.1
  have hA := X.2.2.2.2.2.2.2.2.2.2
  refine va_gets (own := "java/lang/String") hx hb (ms_z hE.2.2.1 X) hS hown (hts _ ms_k270) (fun _ h => h) d21_0 ?_
  refine lv_if_eq hx hb d21_3 rfl (fun h9 => absurd h9 (by decide)) (fun _ => ?_)
  refine lv_aload_n hx hb d21_6 rfl (lv_at hl 0 rfl) ?_
  refine va_get (D := D) (ci := 5) (v := .int 0) (C := kR5) (T := kT5) (N := 4) hx hb hts ku5 hown hK hP 0 rfl rfl 1 (by decide) (hts _ ms_k285) (fun _ h => h) rfl d21_7 ?_
  refine lv_goto hx hb d21_10 rfl ?_
  exact ms_zret X d21_14 hP hD hS (Nat.le_of_ble_eq_true rfl) (Nat.le_of_ble_eq_true rfl) (⟨rfl, rfl⟩) (rfl)

set_option maxRecDepth 100000 in
set_option maxHeartbeats 8000000 in
theorem c_Slen (l : Launch) (D : va_G) (dA : Nat → ClassId) (s0 : State) (hE : ms_EV D dA s0) (t : Nat) (u : Nat) (g : Nat → Int32) : ms_C l D s0 yM22 bM22 1 (Option.some Jvm.ClassFile.FieldType.int) 1 20 0 0 [.ref t] [(t, .inr (5, [.ref u, .int 0, .int 0, .int 0])), (u, .inl (dA 2, 0, .inl g))] (fun vv ww => vv = some (.int 0) ∧ ww = [(t, .inr (5, [.ref u, .int 0, .int 0, .int 0])), (u, .inl (dA 2, 0, .inl g))]) := by
  refine ms_C.mk hE.1 (by decide) (Nat.le_of_ble_eq_true rfl) [(0, .ref t)] rfl ?_
  intro p e s m below meth c A ls X hin hP hD hS hl
  have hx := X.1
  have hb := X.2.1
  have hml := X.2.2.1
  have hown : s.vm.findClass "java/lang/String" = some m.cls := X.2.2.2.1
  have hts := X.2.2.2.2.2.2.1
  have hK := X.2.2.2.2.2.2.2.2.1
  have hA := X.2.2.2.2.2.2.2.2.2.2
  refine lv_aload_n hx hb d22_0 rfl (lv_at hl 0 rfl) ?_
  refine va_get (D := D) (ci := 5) (v := .ref u) (C := kR5) (T := kT5) (N := 4) hx hb hts ku5 hown hK hP 0 rfl rfl 0 (by decide) (hts _ ms_k284) (fun _ h => h) rfl d22_1 ?_
  refine va_alen (v := 0) hx hb hK hP 1 2 rfl rfl rfl d22_4 ?_
  refine lv_aload_n hx hb d22_5 rfl (lv_at hl 0 rfl) ?_
  refine ms_V (C := "java/lang/String") (rest := [.int 0]) (as := []) (wr := [(u, .inl (dA 2, 0, .inl g))]) X hl (c_Scoder l D dA s0 hE t u) (List.forall_mem_cons.mpr ⟨ms_k394, List.forall_mem_cons.mpr ⟨ms_k395, List.forall_mem_cons.mpr ⟨ms_k396, List.forall_mem_cons.mpr ⟨ms_k4, List.forall_mem_cons.mpr ⟨ms_k397, fun _ h => absurd h List.not_mem_nil⟩⟩⟩⟩⟩) ⟨rfl, by decide +kernel, by decide +kernel, (by decide +kernel : (parseMethodDescriptor "()B").map (fun d => d.parameters.length) = some 0)⟩ (va_recv hK hP rfl (q0 := 0) rfl) hP hD hS [0] [1] rfl rfl ⟨by decide, by decide, by decide⟩ ⟨⟨Nat.le_of_ble_eq_true rfl, Nat.le_of_ble_eq_true rfl⟩, Nat.le_of_ble_eq_true rfl, Nat.le_of_ble_eq_true rfl⟩ rfl (Nat.le_of_ble_eq_true rfl) d22_6 (fun vv ww H locs hR hP hD hS => ?_)
  obtain ⟨rfl, rfl⟩ := hR
  have hP : va_P D vwCl [(u, .inl (dA 2, 0, .inl g)), (t, .inr (5, [.ref u, .int 0, .int 0, .int 0]))] H := hP
  have hD : va_D A [(u, .inl (dA 2, 0, .inl g)), (t, .inr (5, [.ref u, .int 0, .int 0, .int 0]))] := hD
  refine W.eq (g2 := F0 m 9 ls [.int 0, .int 0]) rfl ?_
  refine lv_ishr hx hb d22_9 ?_
  refine ms_top (y := 0) (by decide) ?_
  have hP := hP.sub (ws' := [(t, .inr (5, [.ref u, .int 0, .int 0, .int 0])), (u, .inl (dA 2, 0, .inl g))]) [1, 0] rfl
  have hD := hD.sub (ws' := [(t, .inr (5, [.ref u, .int 0, .int 0, .int 0])), (u, .inl (dA 2, 0, .inl g))]) [1, 0] (by decide) rfl
  exact ms_iret X d22_10 hP hD hS (Nat.le_of_ble_eq_true rfl) (Nat.le_of_ble_eq_true rfl) (⟨rfl, rfl⟩)
