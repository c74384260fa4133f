set_option maxRecDepth 100000 in
set_option maxHeartbeats 8000000 in
theorem c_Tinit (l : Launch) (D : va_G) (dA : Nat → ClassId) (s0 : State) (hE : ms_EV D dA s0) (h : Nat) : ms_C l D s0 yM23 bM23 1 (Option.none : Option Jvm.ClassFile.FieldType) 1 12 3 280 [.ref h] [(h, .inr (1, [.null, .int 0, .null, .int 0, .null, .int 0]))] (fun vv ww => ∃ (a1 : Nat) (a2 : Nat) (a3 : Nat), vv = none ∧ ww = [(h, .inr (1, [.ref a1, .int 0, .ref a2, .int 0, .ref a3, .int 0])), (a1, .inl (dA 5, 200, .inr (.inr (.inr (.inr (fun _ => none)))))), (a2, .inl (dA 5, 40, .inr (.inr (.inr (.inr (fun _ => none)))))), (a3, .inl (dA 5, 40, .inr (.inr (.inr (.inr (fun _ => none))))))]) := by
  refine ms_C.mk hE.1 (by decide) (Nat.le_of_ble_eq_true rfl) [(0, .ref h)] rfl ?_
  intro p e s m below meth c A ls X hin hP hD hS hl
  have hx := X.1
  have hb := X.2.1
  have hml := X.2.2.1
  have hown : s.vm.findClass "MarkupStore$Tree" = some m.cls := X.2.2.2.1
  have hts := X.2.2.2.2.2.2.1
  have hK := X.2.2.2.2.2.2.2.2.1
  have hA := X.2.2.2.2.2.2.2.2.2.2
  refine lv_aload_n hx hb d23_0 rfl (lv_at hl 0 rfl) ?_
  refine W.objInit hx hb hown (hts _ ms_k77) (hts _ ms_k37) (hts _ ms_k38) rfl (by rw [hml]; exact hl.1) rfl d23_1 (Nat.le_of_ble_eq_true rfl) (Nat.le_of_ble_eq_true rfl) ?_
  refine W.eq (g2 := F0 m 4 ls []) rfl ?_
  refine lv_aload_n hx hb d23_4 rfl (lv_at hl 0 rfl) ?_
  refine lv_sipush (v := 200) hx hb d23_5 (by decide) ?_
  refine ms_newq (N' := 200) (C := "MarkupStore$Node") X ms_k78 (ms_ao hE.2.1 X) 5 rfl (fun _ h => by obtain ⟨_, _, _, _, _, h4⟩ := h; exact h4) hP hD hS (by decide) (by decide) (by decide) (Nat.le_of_ble_eq_true rfl) (Nat.le_of_ble_eq_true rfl) d23_8 (fun q1 H hP hD hS => ?_)
  have hP : va_P D vwCl [(h, .inr (1, [.null, .int 0, .null, .int 0, .null, .int 0])), (q1, .inl (dA 5, 200, .inr (.inr (.inr (.inr (fun _ => none))))))] H := hP
  have hD : va_D A [(h, .inr (1, [.null, .int 0, .null, .int 0, .null, .int 0])), (q1, .inl (dA 5, 200, .inr (.inr (.inr (.inr (fun _ => none))))))] := hD
  refine va_putF (D := D) (ci := 1) (v := .ref q1) (ty := (.array (.object "MarkupStore$Node"))) (C := kR1) (T := kT1) (N := 6) hx hb hts ku1 kt1 kp1 kn1 hown hK hP hD hS 0 rfl rfl 0 (by decide) (hts _ ms_k80) (fun _ h => h) rfl hin rfl (by decide +kernel) rfl rfl (Nat.le_of_ble_eq_true rfl) d23_11 (fun H locs hP hD hS => ?_)
  have hP : va_P D vwCl [(h, .inr (1, [.ref q1, .int 0, .null, .int 0, .null, .int 0])), (q1, .inl (dA 5, 200, .inr (.inr (.inr (.inr (fun _ => none))))))] H := hP
  have hD : va_D A [(h, .inr (1, [.ref q1, .int 0, .null, .int 0, .null, .int 0])), (q1, .inl (dA 5, 200, .inr (.inr (.inr (.inr (fun _ => none))))))] := hD
  refine lv_aload_n hx hb d23_14 rfl (lv_at hl 0 rfl) ?_
  refine lv_bipush (v := 40) hx hb d23_15 (by decide) ?_
  refine ms_newq (N' := 40) (C := "MarkupStore$Node") X ms_k78 (ms_ao hE.2.1 X) 5 rfl (fun _ h => by obtain ⟨_, _, _, _, _, h4⟩ := h; exact h4) hP hD hS (by decide) (by decide) (by decide) (Nat.le_of_ble_eq_true rfl) (Nat.le_of_ble_eq_true rfl) d23_17 (fun q2 H hP hD hS => ?_)
  have hP : va_P D vwCl [(h, .inr (1, [.ref q1, .int 0, .null, .int 0, .null, .int 0])), (q1, .inl (dA 5, 200, .inr (.inr (.inr (.inr (fun _ => none)))))), (q2, .inl (dA 5, 40, .inr (.inr (.inr (.inr (fun _ => none))))))] H := hP
  have hD : va_D A [(h, .inr (1, [.ref q1, .int 0, .null, .int 0, .null, .int 0])), (q1, .inl (dA 5, 200, .inr (.inr (.inr (.inr (fun _ => none)))))), (q2, .inl (dA 5, 40, .inr (.inr (.inr (.inr (fun _ => none))))))] := hD
  refine va_putF (D := D) (ci := 1) (v := .ref q2) (ty := (.array (.object "MarkupStore$Node"))) (C := kR1) (T := kT1) (N := 6) hx hb hts ku1 kt1 kp1 kn1 hown hK hP hD hS 0 rfl rfl 2 (by decide) (hts _ ms_k82) (fun _ h => h) rfl hin rfl (by decide +kernel) rfl rfl (Nat.le_of_ble_eq_true rfl) d23_20 (fun H locs hP hD hS => ?_)
  have hP : va_P D vwCl [(h, .inr (1, [.ref q1, .int 0, .ref q2, .int 0, .null, .int 0])), (q1, .inl (dA 5, 200, .inr (.inr (.inr (.inr (fun _ => none)))))), (q2, .inl (dA 5, 40, .inr (.inr (.inr (.inr (fun _ => none))))))] H := hP
  have hD : va_D A [(h, .inr (1, [.ref q1, .int 0, .ref q2, .int 0, .null, .int 0])), (q1, .inl (dA 5, 200, .inr (.inr (.inr (.inr (fun _ => none)))))), (q2, .inl (dA 5, 40, .inr (.inr (.inr (.inr (fun _ => none))))))] := hD
  refine lv_aload_n hx hb d23_23 rfl (lv_at hl 0 rfl) ?_
  refine lv_bipush (v := 40) hx hb d23_24 (by decide) ?_
  refine ms_newq (N' := 40) (C := "MarkupStore$Node") X ms_k78 (ms_ao hE.2.1 X) 5 rfl (fun _ h => by obtain ⟨_, _, _, _, _, h4⟩ := h; exact h4) hP hD hS (by decide) (by decide) (by decide) (Nat.le_of_ble_eq_true rfl) (Nat.le_of_ble_eq_true rfl) d23_26 (fun q3 H hP hD hS => ?_)
  have hP : va_P D vwCl [(h, .inr (1, [.ref q1, .int 0, .ref q2, .int 0, .null, .int 0])), (q1, .inl (dA 5, 200, .inr (.inr (.inr (.inr (fun _ => none)))))), (q2, .inl (dA 5, 40, .inr (.inr (.inr (.inr (fun _ => none)))))), (q3, .inl (dA 5, 40, .inr (.inr (.inr (.inr (fun _ => none))))))] H := hP
  have hD : va_D A [(h, .inr (1, [.ref q1, .int 0, .ref q2, .int 0, .null, .int 0])), (q1, .inl (dA 5, 200, .inr (.inr (.inr (.inr (fun _ => none)))))), (q2, .inl (dA 5, 40, .inr (.inr (.inr (.inr (fun _ => none)))))), (q3, .inl (dA 5, 40, .inr (.inr (.inr (.inr (fun _ => none))))))] := hD
  refine va_putF (D := D) (ci := 1) (v := .ref q3) (ty := (.array (.object "MarkupStore$Node"))) (C := kR1) (T := kT1) (N := 6) hx hb hts ku1 kt1 kp1 kn1 hown hK hP hD hS 0 rfl rfl 4 (by decide) (hts _ ms_k90) (fun _ h => h) rfl hin rfl (by decide +kernel) rfl rfl (Nat.le_of_ble_eq_true rfl) d23_29 (fun H locs hP hD hS => ?_)
  have hP : va_P D vwCl [(h, .inr (1, [.ref q1, .int 0, .ref q2, .int 0, .ref q3, .int 0])), (q1, .inl (dA 5, 200, .inr (.inr (.inr (.inr (fun _ => none)))))), (q2, .inl (dA 5, 40, .inr (.inr (.inr (.inr (fun _ => none)))))), (q3, .inl (dA 5, 40, .inr (.inr (.inr (.inr (fun _ => none))))))] H := hP
  have hD : va_D A [(h, .inr (1, [.ref q1, .int 0, .ref q2, .int 0, .ref q3, .int 0])), (q1, .inl (dA 5, 200, .inr (.inr (.inr (.inr (fun _ => none)))))), (q2, .inl (dA 5, 40, .inr (.inr (.inr (.inr (fun _ => none)))))), (q3, .inl (dA 5, 40, .inr (.inr (.inr (.inr (fun _ => none))))))] := hD
  exact ms_vret X d23_32 hP hD hS (Nat.le_of_ble_eq_true rfl) (Nat.le_of_ble_eq_true rfl) (⟨q1, q2, q3, rfl, rfl⟩)

set_option maxRecDepth 100000 in
set_option maxHeartbeats 8000000 in
theorem c_find (l : Launch) (D : va_G) (dA : Nat → ClassId) (s0 : State) (hE : ms_EV D dA s0) (h : Nat) (a1 : Nat) (a2 : Nat) (a3 : Nat) (i : Int32) : ms_C l D s0 yM24 bM24 2 (Option.some (Jvm.ClassFile.FieldType.object "MarkupStore$Node")) 0 0 0 0 [.ref h, .int i] [(h, .inr (1, [.ref a1, .int 0, .ref a2, .int 0, .ref a3, .int 0]))] (fun vv ww => vv = some (.null) ∧ ww = [(h, .inr (1, [.ref a1, .int 0, .ref a2, .int 0, .ref a3, .int 0]))]) := by
  refine ms_C.mk hE.1 (by decide) (Nat.le_of_ble_eq_true rfl) [(0, .ref h), (1, .int i)] rfl ?_
  intro p e s m below meth c A ls X hin hP hD hS hl
  have hx := X.1
  have hb := X.2.1
  have hml := X.2.2.1
  have hown : s.vm.findClass "MarkupStore$Tree" = some m.cls := X.2.2.2.1
  have hts := X.2.2.2.2.2.2.1
  have hK := X.2.2.2.2.2.2.2.2.1
  have hA := X.2.2.2.2.2.2.2.2.2.2
  refine lv_iload_n hx hb d24_0 rfl (lv_at hl 1 rfl) ?_
  refine lv_if_lt hx hb d24_1 rfl (fun hc => ?_) (fun hc => ?_)
  · refine lv_null hx hb d24_25 ?_
    exact ms_aret X d24_26 hP hD hS (Nat.le_of_ble_eq_true rfl) (Nat.le_of_ble_eq_true rfl) (⟨rfl, rfl⟩) (Or.inl ⟨_, rfl⟩) (Or.inl rfl)
  · refine lv_iload_n hx hb d24_4 rfl (lv_at hl 1 rfl) ?_
    refine lv_aload_n hx hb d24_5 rfl (lv_at hl 0 rfl) ?_
    refine va_get (D := D) (ci := 1) (v := .int 0) (C := kR1) (T := kT1) (N := 6) hx hb hts ku1 hown hK hP 0 rfl rfl 1 (by decide) (hts _ ms_k81) (fun _ h => h) rfl d24_6 ?_
    refine lv_icmp_ge hx hb d24_9 rfl (fun _ => ?_) (fun h9 => absurd (Int32.not_lt.mp hc) h9)
    refine lv_null hx hb d24_25 ?_
    exact ms_aret X d24_26 hP hD hS (Nat.le_of_ble_eq_true rfl) (Nat.le_of_ble_eq_true rfl) (⟨rfl, rfl⟩) (Or.inl ⟨_, rfl⟩) (Or.inl rfl)

set_option maxRecDepth 100000 in
set_option maxHeartbeats 8000000 in
theorem c_keep (l : Launch) (D : va_G) (dA : Nat → ClassId) (s0 : State) (hE : ms_EV D dA s0) (h : Nat) (a1 : Nat) (a2 : Nat) (a3 : Nat) : ms_C l D s0 yM25 bM25 2 (Option.none : Option Jvm.ClassFile.FieldType) 0 0 0 0 [.ref h] [(h, .inr (1, [.ref a1, .int 0, .ref a2, .int 0, .ref a3, .int 0]))] (fun vv ww => vv = none ∧ ww = [(h, .inr (1, [.ref a1, .int 0, .ref a2, .int 0, .ref a3, .int 0]))]) := by
  refine ms_C.mk hE.1 (by decide) (Nat.le_of_ble_eq_true rfl) [(0, .ref h)] rfl ?_
  intro p e s m below meth c A ls X hin hP hD hS hl
  have hx := X.1
  have hb := X.2.1
  have hml := X.2.2.1
  have hown : s.vm.findClass "MarkupStore$Tree" = some m.cls := X.2.2.2.1
  have hts := X.2.2.2.2.2.2.1
  have hK := X.2.2.2.2.2.2.2.2.1
  have hA := X.2.2.2.2.2.2.2.2.2.2
  refine lv_iconst (v := 0) hx hb d25_0 (by decide) ?_
  refine lv_istore_n hx hb d25_1 rfl hl (by decide) rfl (fun ls hl => ?_)
  have hl : lv_has ls 2 [(1, .int 0), (0, .ref h)] := hl
  refine lv_iload_n hx hb d25_2 rfl (lv_at hl 0 rfl) ?_
  refine lv_aload_n hx hb d25_3 rfl (lv_at hl 1 rfl) ?_
  refine va_get (D := D) (ci := 1) (v := .int 0) (C := kR1) (T := kT1) (N := 6) hx hb hts ku1 hown hK hP 0 rfl rfl 3 (by decide) (hts _ ms_k87) (fun _ h => h) rfl d25_4 ?_
  refine lv_icmp_ge hx hb d25_7 rfl (fun _ => ?_) (fun h9 => absurd (by decide) h9)
  refine lv_aload_n hx hb d25_46 rfl (lv_at hl 1 rfl) ?_
  refine lv_aload_n hx hb d25_47 rfl (lv_at hl 1 rfl) ?_
  refine va_get (D := D) (ci := 1) (v := .int 0) (C := kR1) (T := kT1) (N := 6) hx hb hts ku1 hown hK hP 0 rfl rfl 3 (by decide) (hts _ ms_k87) (fun _ h => h) rfl d25_48 ?_
  refine va_put (D := D) (ci := 1) (v := .int 0) (ty := .int) (C := kR1) (T := kT1) (N := 6) hx hb hts ku1 kt1 kp1 kn1 hown hK hP hD hS 0 rfl rfl 5 (by decide) (hts _ ms_k91) (fun _ h => h) rfl (by decide +kernel) rfl rfl (Nat.le_of_ble_eq_true rfl) d25_51 (fun H locs hP hD hS => ?_)
  have hP : va_P D vwCl [(h, .inr (1, [.ref a1, .int 0, .ref a2, .int 0, .ref a3, .int 0]))] H := hP
  have hD : va_D A [(h, .inr (1, [.ref a1, .int 0, .ref a2, .int 0, .ref a3, .int 0]))] := hD
  exact ms_vret X d25_54 hP hD hS (Nat.le_of_ble_eq_true rfl) (Nat.le_of_ble_eq_true rfl) (⟨rfl, rfl⟩)

set_option maxRecDepth 100000 in
set_option maxHeartbeats 8000000 in
theorem c_setPl (l : Launch) (D : va_G) (dA : Nat → ClassId) (s0 : State) (hE : ms_EV D dA s0) (h : Nat) (a1 : Nat) (a2 : Nat) (a3 : Nat) : ms_C l D s0 yM26 bM26 2 (Option.none : Option Jvm.ClassFile.FieldType) 0 0 0 0 [.ref h] [(h, .inr (1, [.ref a1, .int 0, .ref a2, .int 0, .ref a3, .int 0]))] (fun vv ww => vv = none ∧ ww = [(h, .inr (1, [.ref a1, .int 0, .ref a2, .int 0, .ref a3, .int 0]))]) := by
  refine ms_C.mk hE.1 (by decide) (Nat.le_of_ble_eq_true rfl) [(0, .ref h)] rfl ?_
  intro p e s m below meth c A ls X hin hP hD hS hl
  have hx := X.1
  have hb := X.2.1
  have hml := X.2.2.1
  have hown : s.vm.findClass "MarkupStore$Tree" = some m.cls := X.2.2.2.1
  have hts := X.2.2.2.2.2.2.1
  have hK := X.2.2.2.2.2.2.2.2.1
  have hA := X.2.2.2.2.2.2.2.2.2.2
  refine lv_iconst (v := 0) hx hb d26_0 (by decide) ?_
  refine lv_istore_n hx hb d26_1 rfl hl (by decide) rfl (fun ls hl => ?_)
  have hl : lv_has ls 2 [(1, .int 0), (0, .ref h)] := hl
  refine lv_iload_n hx hb d26_2 rfl (lv_at hl 0 rfl) ?_
  refine lv_aload_n hx hb d26_3 rfl (lv_at hl 1 rfl) ?_
  refine va_get (D := D) (ci := 1) (v := .int 0) (C := kR1) (T := kT1) (N := 6) hx hb hts ku1 hown hK hP 0 rfl rfl 3 (by decide) (hts _ ms_k87) (fun _ h => h) rfl d26_4 ?_
  refine lv_icmp_ge hx hb d26_7 rfl (fun _ => ?_) (fun h9 => absurd (by decide) h9)
  exact ms_vret X d26_26 hP hD hS (Nat.le_of_ble_eq_true rfl) (Nat.le_of_ble_eq_true rfl) (⟨rfl, rfl⟩)

set_option maxRecDepth 100000 in
set_option maxHeartbeats 8000000 in
theorem c_takeOut (l : Launch) (D : va_G) (dA : Nat → ClassId) (s0 : State) (hE : ms_EV D dA s0) (h : Nat) (a1 : Nat) (a2 : Nat) (a3 : Nat) : ms_C l D s0 yM27 bM27 4 (Option.none : Option Jvm.ClassFile.FieldType) 1 21 0 0 [.ref h, .int 0, .int 0] [(h, .inr (1, [.ref a1, .int 0, .ref a2, .int 0, .ref a3, .int 0]))] (fun vv ww => vv = none ∧ ww = [(h, .inr (1, [.ref a1, .int 0, .ref a2, .int 0, .ref a3, .int 0]))]) := by
  refine ms_C.mk hE.1 (by decide) (Nat.le_of_ble_eq_true rfl) [(0, .ref h), (1, .int 0), (2, .int 0)] rfl ?_
  intro p e s m below meth c A ls X hin hP hD hS hl
  have hx := X.1
  have hb := X.2.1
  have hml := X.2.2.1
  have hown : s.vm.findClass "MarkupStore$Tree" = some m.cls := X.2.2.2.1
  have hts := X.2.2.2.2.2.2.1
  have hK := X.2.2.2.2.2.2.2.2.1
  have hA := X.2.2.2.2.2.2.2.2.2.2
  refine lv_iload_n hx hb d27_0 rfl (lv_at hl 1 rfl) ?_
  refine lv_istore_n hx hb d27_1 rfl hl (by decide) rfl (fun ls hl => ?_)
  have hl : lv_has ls 4 [(3, .int 0), (0, .ref h), (1, .int 0), (2, .int 0)] := hl
  refine lv_iload_n hx hb d27_2 rfl (lv_at hl 0 rfl) ?_
  refine lv_iload_n hx hb d27_3 rfl (lv_at hl 3 rfl) ?_
  refine lv_icmp_ge hx hb d27_4 rfl (fun _ => ?_) (fun h9 => absurd (by decide) h9)
  refine lv_iload_n hx hb d27_23 rfl (lv_at hl 3 rfl) ?_
  refine lv_istore_n hx hb d27_24 rfl hl (by decide) rfl (fun ls hl => ?_)
  have hl : lv_has ls 4 [(3, .int 0), (0, .ref h), (1, .int 0), (2, .int 0)] := hl
  refine lv_iload_n hx hb d27_25 rfl (lv_at hl 0 rfl) ?_
  refine lv_aload_n hx hb d27_26 rfl (lv_at hl 1 rfl) ?_
  refine va_get (D := D) (ci := 1) (v := .int 0) (C := kR1) (T := kT1) (N := 6) hx hb hts ku1 hown hK hP 0 rfl rfl 3 (by decide) (hts _ ms_k87) (fun _ h => h) rfl d27_27 ?_
  refine lv_icmp_ge hx hb d27_30 rfl (fun _ => ?_) (fun h9 => absurd (by decide) h9)
  refine lv_aload_n hx hb d27_55 rfl (lv_at hl 1 rfl) ?_
  refine lv_dup hx hb d27_56 rfl ?_
  refine va_get (D := D) (ci := 1) (v := .int 0) (C := kR1) (T := kT1) (N := 6) hx hb hts ku1 hown hK hP 0 rfl rfl 3 (by decide) (hts _ ms_k87) (fun _ h => h) rfl d27_57 ?_
  refine lv_iload_n hx hb d27_60 rfl (lv_at hl 3 rfl) ?_
  refine lv_iload_n hx hb d27_61 rfl (lv_at hl 2 rfl) ?_
  refine lv_isub hx hb d27_62 ?_
  refine ms_top (y := 0) (by decide) ?_
  refine lv_isub hx hb d27_63 ?_
  refine ms_top (y := 0) (by decide) ?_
  refine va_put (D := D) (ci := 1) (v := .int 0) (ty := .int) (C := kR1) (T := kT1) (N := 6) hx hb hts ku1 kt1 kp1 kn1 hown hK hP hD hS 0 rfl rfl 3 (by decide) (hts _ ms_k87) (fun _ h => h) rfl (by decide +kernel) rfl rfl (Nat.le_of_ble_eq_true rfl) d27_64 (fun H locs hP hD hS => ?_)
  have hP : va_P D vwCl [(h, .inr (1, [.ref a1, .int 0, .ref a2, .int 0, .ref a3, .int 0]))] H := hP
  have hD : va_D A [(h, .inr (1, [.ref a1, .int 0, .ref a2, .int 0, .ref a3, .int 0]))] := hD
  refine lv_aload_n hx hb d27_67 rfl (lv_at hl 1 rfl) ?_
  refine ms_V (C := "MarkupStore$Tree") (rest := []) (as := []) (wr := []) X hl (c_setPl l D dA s0 hE h a1 a2 a3) (List.forall_mem_cons.mpr ⟨ms_k723, List.forall_mem_cons.mpr ⟨ms_k725, List.forall_mem_cons.mpr ⟨ms_p14, List.forall_mem_cons.mpr ⟨ms_k6, List.forall_mem_cons.mpr ⟨ms_k726, fun _ h => absurd h List.not_mem_nil⟩⟩⟩⟩⟩) ⟨rfl, by decide +kernel, by decide +kernel, (by decide +kernel : (parseMethodDescriptor "()V").map (fun d => d.parameters.length) = some 0)⟩ (va_recv hK hP rfl (q0 := 0) rfl) hP hD hS [0] [] rfl rfl ⟨by decide, by decide, by decide⟩ ⟨⟨Nat.le_of_ble_eq_true rfl, Nat.le_of_ble_eq_true rfl⟩, Nat.le_of_ble_eq_true rfl, Nat.le_of_ble_eq_true rfl⟩ rfl (Nat.le_of_ble_eq_true rfl) d27_68 (fun vv ww H locs hR hP hD hS => ?_)
  obtain ⟨rfl, rfl⟩ := hR
  have hP : va_P D vwCl [(h, .inr (1, [.ref a1, .int 0, .ref a2, .int 0, .ref a3, .int 0]))] H := hP
  have hD : va_D A [(h, .inr (1, [.ref a1, .int 0, .ref a2, .int 0, .ref a3, .int 0]))] := hD
  refine W.eq (g2 := F0 m 71 ls []) rfl ?_
  exact ms_vret X d27_71 hP hD hS (Nat.le_of_ble_eq_true rfl) (Nat.le_of_ble_eq_true rfl) (⟨rfl, rfl⟩)

set_option maxRecDepth 100000 in
set_option maxHeartbeats 8000000 in
theorem c_clear (l : Launch) (D : va_G) (dA : Nat → ClassId) (s0 : State) (hE : ms_EV D dA s0) (h : Nat) (a1 : Nat) (a2 : Nat) (a3 : Nat) : ms_C l D s0 yM28 bM28 1 (Option.none : Option Jvm.ClassFile.FieldType) 2 44 0 0 [.ref h] [(h, .inr (1, [.ref a1, .int 0, .ref a2, .int 0, .ref a3, .int 0]))] (fun vv ww => vv = none ∧ ww = [(h, .inr (1, [.ref a1, .int 0, .ref a2, .int 0, .ref a3, .int 0]))]) := by
  refine ms_C.mk hE.1 (by decide) (Nat.le_of_ble_eq_true rfl) [(0, .ref h)] rfl ?_
  intro p e s m below meth c A ls X hin hP hD hS hl
  have hx := X.1
  have hb := X.2.1
  have hml := X.2.2.1
  have hown : s.vm.findClass "MarkupStore$Tree" = some m.cls := X.2.2.2.1
  have hts := X.2.2.2.2.2.2.1
  have hK := X.2.2.2.2.2.2.2.2.1
  have hA := X.2.2.2.2.2.2.2.2.2.2
  refine lv_aload_n hx hb d28_0 rfl (lv_at hl 0 rfl) ?_
  refine lv_iconst (v := 0) hx hb d28_1 (by decide) ?_
  refine lv_aload_n hx hb d28_2 rfl (lv_at hl 0 rfl) ?_
  refine va_get (D := D) (ci := 1) (v := .int 0) (C := kR1) (T := kT1) (N := 6) hx hb hts ku1 hown hK hP 0 rfl rfl 3 (by decide) (hts _ ms_k87) (fun _ h => h) rfl d28_3 ?_
  refine ms_V (C := "MarkupStore$Tree") (rest := []) (as := [.int 0, .int 0]) (wr := []) X hl (c_takeOut l D dA s0 hE h a1 a2 a3) (List.forall_mem_cons.mpr ⟨ms_k719, List.forall_mem_cons.mpr ⟨ms_k720, List.forall_mem_cons.mpr ⟨ms_k721, List.forall_mem_cons.mpr ⟨ms_k6, List.forall_mem_cons.mpr ⟨ms_k722, fun _ h => absurd h List.not_mem_nil⟩⟩⟩⟩⟩) ⟨rfl, by decide +kernel, by decide +kernel, (by decide +kernel : (parseMethodDescriptor "(II)V").map (fun d => d.parameters.length) = some 2)⟩ (va_recv hK hP rfl (q0 := 0) rfl) hP hD hS [0] [] rfl rfl ⟨by decide, by decide, by decide⟩ ⟨⟨Nat.le_of_ble_eq_true rfl, Nat.le_of_ble_eq_true rfl⟩, Nat.le_of_ble_eq_true rfl, Nat.le_of_ble_eq_true rfl⟩ rfl (Nat.le_of_ble_eq_true rfl) d28_6 (fun vv ww H locs hR hP hD hS => ?_)
  obtain ⟨rfl, rfl⟩ := hR
  have hP : va_P D vwCl [(h, .inr (1, [.ref a1, .int 0, .ref a2, .int 0, .ref a3, .int 0]))] H := hP
  have hD : va_D A [(h, .inr (1, [.ref a1, .int 0, .ref a2, .int 0, .ref a3, .int 0]))] := hD
  refine W.eq (g2 := F0 m 9 ls []) rfl ?_
  exact ms_vret X d28_9 hP hD hS (Nat.le_of_ble_eq_true rfl) (Nat.le_of_ble_eq_true rfl) (⟨rfl, rfl⟩)

set_option maxRecDepth 100000 in
set_option maxHeartbeats 8000000 in
theorem c_giveB (l : Launch) (D : va_G) (dA : Nat → ClassId) (s0 : State) (hE : ms_EV D dA s0) (h : Nat) (a1 : Nat) (a2 : Nat) (a3 : Nat) : ms_C l D s0 yM29 bM29 2 (Option.none : Option Jvm.ClassFile.FieldType) 3 64 0 0 [.ref h] [(h, .inr (1, [.ref a1, .int 0, .ref a2, .int 0, .ref a3, .int 0]))] (fun vv ww => vv = none ∧ ww = [(h, .inr (1, [.ref a1, .int 0, .ref a2, .int 0, .ref a3, .int 0]))]) := by
  refine ms_C.mk hE.1 (by decide) (Nat.le_of_ble_eq_true rfl) [(0, .ref h)] rfl ?_
  intro p e s m below meth c A ls X hin hP hD hS hl
  have hx := X.1
  have hb := X.2.1
  have hml := X.2.2.1
  have hown : s.vm.findClass "MarkupStore$Tree" = some m.cls := X.2.2.2.1
  have hts := X.2.2.2.2.2.2.1
  have hK := X.2.2.2.2.2.2.2.2.1
  have hA := X.2.2.2.2.2.2.2.2.2.2
  refine lv_aload_n hx hb d29_0 rfl (lv_at hl 0 rfl) ?_
  refine ms_V (C := "MarkupStore$Tree") (rest := []) (as := []) (wr := []) X hl (c_clear l D dA s0 hE h a1 a2 a3) (List.forall_mem_cons.mpr ⟨ms_k1213, List.forall_mem_cons.mpr ⟨ms_k716, List.forall_mem_cons.mpr ⟨ms_k717, List.forall_mem_cons.mpr ⟨ms_k6, List.forall_mem_cons.mpr ⟨ms_k718, fun _ h => absurd h List.not_mem_nil⟩⟩⟩⟩⟩) ⟨rfl, by decide +kernel, by decide +kernel, (by decide +kernel : (parseMethodDescriptor "()V").map (fun d => d.parameters.length) = some 0)⟩ (va_recv hK hP rfl (q0 := 0) rfl) hP hD hS [0] [] rfl rfl ⟨by decide, by decide, by decide⟩ ⟨⟨Nat.le_of_ble_eq_true rfl, Nat.le_of_ble_eq_true rfl⟩, Nat.le_of_ble_eq_true rfl, Nat.le_of_ble_eq_true rfl⟩ rfl (Nat.le_of_ble_eq_true rfl) d29_1 (fun vv ww H locs hR hP hD hS => ?_)
  obtain ⟨rfl, rfl⟩ := hR
  have hP : va_P D vwCl [(h, .inr (1, [.ref a1, .int 0, .ref a2, .int 0, .ref a3, .int 0]))] H := hP
  have hD : va_D A [(h, .inr (1, [.ref a1, .int 0, .ref a2, .int 0, .ref a3, .int 0]))] := hD
  refine W.eq (g2 := F0 m 4 ls []) rfl ?_
  refine lv_iconst (v := 0) hx hb d29_4 (by decide) ?_
  refine lv_istore_n hx hb d29_5 rfl hl (by decide) rfl (fun ls hl => ?_)
  have hl : lv_has ls 2 [(1, .int 0), (0, .ref h)] := hl
  refine lv_iload_n hx hb d29_6 rfl (lv_at hl 0 rfl) ?_
  refine lv_aload_n hx hb d29_7 rfl (lv_at hl 1 rfl) ?_
  refine va_get (D := D) (ci := 1) (v := .int 0) (C := kR1) (T := kT1) (N := 6) hx hb hts ku1 hown hK hP 0 rfl rfl 5 (by decide) (hts _ ms_k91) (fun _ h => h) rfl d29_8 ?_
  refine lv_icmp_ge hx hb d29_11 rfl (fun _ => ?_) (fun h9 => absurd (by decide) h9)
  refine lv_aload_n hx hb d29_50 rfl (lv_at hl 1 rfl) ?_
  refine lv_aload_n hx hb d29_51 rfl (lv_at hl 1 rfl) ?_
  refine va_get (D := D) (ci := 1) (v := .int 0) (C := kR1) (T := kT1) (N := 6) hx hb hts ku1 hown hK hP 0 rfl rfl 5 (by decide) (hts _ ms_k91) (fun _ h => h) rfl d29_52 ?_
  refine va_put (D := D) (ci := 1) (v := .int 0) (ty := .int) (C := kR1) (T := kT1) (N := 6) hx hb hts ku1 kt1 kp1 kn1 hown hK hP hD hS 0 rfl rfl 3 (by decide) (hts _ ms_k87) (fun _ h => h) rfl (by decide +kernel) rfl rfl (Nat.le_of_ble_eq_true rfl) d29_55 (fun H locs hP hD hS => ?_)
  have hP : va_P D vwCl [(h, .inr (1, [.ref a1, .int 0, .ref a2, .int 0, .ref a3, .int 0]))] H := hP
  have hD : va_D A [(h, .inr (1, [.ref a1, .int 0, .ref a2, .int 0, .ref a3, .int 0]))] := hD
  refine lv_aload_n hx hb d29_58 rfl (lv_at hl 1 rfl) ?_
  refine ms_V (C := "MarkupStore$Tree") (rest := []) (as := []) (wr := []) X hl (c_setPl l D dA s0 hE h a1 a2 a3) (List.forall_mem_cons.mpr ⟨ms_k723, List.forall_mem_cons.mpr ⟨ms_k725, List.forall_mem_cons.mpr ⟨ms_p14, List.forall_mem_cons.mpr ⟨ms_k6, List.forall_mem_cons.mpr ⟨ms_k726, fun _ h => absurd h List.not_mem_nil⟩⟩⟩⟩⟩) ⟨rfl, by decide +kernel, by decide +kernel, (by decide +kernel : (parseMethodDescriptor "()V").map (fun d => d.parameters.length) = some 0)⟩ (va_recv hK hP rfl (q0 := 0) rfl) hP hD hS [0] [] rfl rfl ⟨by decide, by decide, by decide⟩ ⟨⟨Nat.le_of_ble_eq_true rfl, Nat.le_of_ble_eq_true rfl⟩, Nat.le_of_ble_eq_true rfl, Nat.le_of_ble_eq_true rfl⟩ rfl (Nat.le_of_ble_eq_true rfl) d29_59 (fun vv ww H locs hR hP hD hS => ?_)
  obtain ⟨rfl, rfl⟩ := hR
  have hP : va_P D vwCl [(h, .inr (1, [.ref a1, .int 0, .ref a2, .int 0, .ref a3, .int 0]))] H := hP
  have hD : va_D A [(h, .inr (1, [.ref a1, .int 0, .ref a2, .int 0, .ref a3, .int 0]))] := hD
  refine W.eq (g2 := F0 m 62 ls []) rfl ?_
  exact ms_vret X d29_62 hP hD hS (Nat.le_of_ble_eq_true rfl) (Nat.le_of_ble_eq_true rfl) (⟨rfl, rfl⟩)

set_option maxRecDepth 100000 in
set_option maxHeartbeats 8000000 in
theorem c_TRinit (l : Launch) (D : va_G) (dA : Nat → ClassId) (s0 : State) (hE : ms_EV D dA s0) (h : Nat) (t : Nat) : ms_C l D s0 yM30 bM30 2 (Option.none : Option Jvm.ClassFile.FieldType) 1 12 0 0 [.ref h, .ref t] [(h, .inr (6, [.null, .int 0, .int 0, .null, .null, .int 0]))] (fun vv ww => vv = none ∧ ww = [(h, .inr (6, [.ref t, .int 0, .int (-1), .null, .null, .int 0]))]) := by
  refine ms_C.mk hE.1 (by decide) (Nat.le_of_ble_eq_true rfl) [(0, .ref h), (1, .ref t)] rfl ?_
  intro p e s m below meth c A ls X hin hP hD hS hl
  have hx := X.1
  have hb := X.2.1
  have hml := X.2.2.1
  have hown : s.vm.findClass "MarkupStore$TextReader" = some m.cls := X.2.2.2.1
  have hts := X.2.2.2.2.2.2.1
  have hK := X.2.2.2.2.2.2.2.2.1
  have hA := X.2.2.2.2.2.2.2.2.2.2
  refine lv_aload_n hx hb d30_0 rfl (lv_at hl 0 rfl) ?_
  refine W.objInit hx hb hown (hts _ ms_k321) (hts _ ms_k37) (hts _ ms_k38) rfl (by rw [hml]; exact hl.1) rfl d30_1 (Nat.le_of_ble_eq_true rfl) (Nat.le_of_ble_eq_true rfl) ?_
  refine W.eq (g2 := F0 m 4 ls []) rfl ?_
  refine lv_aload_n hx hb d30_4 rfl (lv_at hl 0 rfl) ?_
  refine lv_aload_n hx hb d30_5 rfl (lv_at hl 1 rfl) ?_
  refine va_putF (D := D) (ci := 6) (v := .ref t) (ty := (.object "java/lang/String")) (C := kR6) (T := kT6) (N := 6) hx hb hts ku6 kt6 kp6 kn6 hown hK hP hD hS 0 rfl rfl 0 (by decide) (hts _ ms_k352) (fun _ h => h) rfl hin rfl (by decide +kernel) rfl rfl (Nat.le_of_ble_eq_true rfl) d30_6 (fun H locs hP hD hS => ?_)
  have hP : va_P D vwCl [(h, .inr (6, [.ref t, .int 0, .int 0, .null, .null, .int 0]))] H := hP
  have hD : va_D A [(h, .inr (6, [.ref t, .int 0, .int 0, .null, .null, .int 0]))] := hD
  refine lv_aload_n hx hb d30_9 rfl (lv_at hl 0 rfl) ?_
  refine lv_iconst (v := 0) hx hb d30_10 (by decide) ?_
  refine va_put (D := D) (ci := 6) (v := .int 0) (ty := .int) (C := kR6) (T := kT6) (N := 6) hx hb hts ku6 kt6 kp6 kn6 hown hK hP hD hS 0 rfl rfl 1 (by decide) (hts _ ms_k357) (fun _ h => h) rfl (by decide +kernel) rfl rfl (Nat.le_of_ble_eq_true rfl) d30_11 (fun H locs hP hD hS => ?_)
  have hP : va_P D vwCl [(h, .inr (6, [.ref t, .int 0, .int 0, .null, .null, .int 0]))] H := hP
  have hD : va_D A [(h, .inr (6, [.ref t, .int 0, .int 0, .null, .null, .int 0]))] := hD
  refine lv_aload_n hx hb d30_14 rfl (lv_at hl 0 rfl) ?_
  refine lv_iconst (v := (-1)) hx hb d30_15 (by decide) ?_
  refine va_put (D := D) (ci := 6) (v := .int (-1)) (ty := .int) (C := kR6) (T := kT6) (N := 6) hx hb hts ku6 kt6 kp6 kn6 hown hK hP hD hS 0 rfl rfl 2 (by decide) (hts _ ms_k362) (fun _ h => h) rfl (by decide +kernel) rfl rfl (Nat.le_of_ble_eq_true rfl) d30_16 (fun H locs hP hD hS => ?_)
  have hP : va_P D vwCl [(h, .inr (6, [.ref t, .int 0, .int (-1), .null, .null, .int 0]))] H := hP
  have hD : va_D A [(h, .inr (6, [.ref t, .int 0, .int (-1), .null, .null, .int 0]))] := hD
  exact ms_vret X d30_19 hP hD hS (Nat.le_of_ble_eq_true rfl) (Nat.le_of_ble_eq_true rfl) (⟨rfl, rfl⟩)

set_option maxRecDepth 100000 in
set_option maxHeartbeats 8000000 in
theorem c_MRinit (l : Launch) (D : va_G) (dA : Nat → ClassId) (s0 : State) (hE : ms_EV D dA s0) (h : Nat) (t : Nat) (z : Nat) : ms_C l D s0 yM31 bM31 3 (Option.none : Option Jvm.ClassFile.FieldType) 4 72 1 3 [.ref h, .ref t, .ref z] [(h, .inr (6, [.null, .int 0, .int 0, .null, .null, .int 0]))] (fun vv ww => ∃ (a : Nat) (b : Nat), vv = none ∧ ww = [(h, .inr (6, [.ref t, .int 0, .int (-1), .ref b, .ref z, .int 0])), (b, .inr (4, [.int 0, .ref a, .int 0]))]) := by
  refine ms_C.mk hE.1 (by decide) (Nat.le_of_ble_eq_true rfl) [(0, .ref h), (1, .ref t), (2, .ref z)] rfl ?_
  intro p e s m below meth c A ls X hin hP hD hS hl
  have hx := X.1
  have hb := X.2.1
  have hml := X.2.2.1
  have hown : s.vm.findClass "MarkupStore$MarkupReader" = some m.cls := X.2.2.2.1
  have hts := X.2.2.2.2.2.2.1
  have hK := X.2.2.2.2.2.2.2.2.1
  have hA := X.2.2.2.2.2.2.2.2.2.2
  refine lv_aload_n hx hb d31_0 rfl (lv_at hl 0 rfl) ?_
  refine lv_aload_n hx hb d31_1 rfl (lv_at hl 1 rfl) ?_
  refine ms_I (rest := []) (as := [.ref t]) (wr := []) X hl (c_TRinit l D dA s0 hE h t) (List.forall_mem_cons.mpr ⟨ms_k318, List.forall_mem_cons.mpr ⟨ms_k319, List.forall_mem_cons.mpr ⟨ms_k14, List.forall_mem_cons.mpr ⟨ms_k320, fun _ h => absurd h List.not_mem_nil⟩⟩⟩⟩) rfl ⟨by decide +kernel, by decide +kernel, (by decide +kernel : (parseMethodDescriptor "(Ljava/lang/String;)V").map (fun d => d.parameters.length) = some 1)⟩ hP hD hS [0] [] rfl rfl ⟨by decide, by decide, by decide⟩ ⟨⟨Nat.le_of_ble_eq_true rfl, Nat.le_of_ble_eq_true rfl⟩, Nat.le_of_ble_eq_true rfl, Nat.le_of_ble_eq_true rfl⟩ rfl (Nat.le_of_ble_eq_true rfl) d31_2 (fun vv ww H locs hR hP hD hS => ?_)
  obtain ⟨rfl, rfl⟩ := hR
  have hP : va_P D vwCl [(h, .inr (6, [.ref t, .int 0, .int (-1), .null, .null, .int 0]))] H := hP
  have hD : va_D A [(h, .inr (6, [.ref t, .int 0, .int (-1), .null, .null, .int 0]))] := hD
  refine W.eq (g2 := F0 m 5 ls []) rfl ?_
  refine lv_aload_n hx hb d31_5 rfl (lv_at hl 0 rfl) ?_
  refine va_new (ci := 4) (fs := [.int 0, .null, .int 0]) (C := kR4) (T := kT4) (N := 3) hx hb hts ku4 kt4 kp4 hown (hts _ ms_k322) (hts _ ms_k323) (hts _ ms_k18) hK hP hD hS hA rfl kz4 (Nat.le_of_ble_eq_true rfl) (Nat.le_of_ble_eq_true rfl) d31_6 (fun q1 H hP hD hS => ?_)
  have hP : va_P D vwCl [(h, .inr (6, [.ref t, .int 0, .int (-1), .null, .null, .int 0])), (q1, .inr (4, [.int 0, .null, .int 0]))] H := hP
  have hD : va_D A [(h, .inr (6, [.ref t, .int 0, .int (-1), .null, .null, .int 0])), (q1, .inr (4, [.int 0, .null, .int 0]))] := hD
  refine lv_dup hx hb d31_9 rfl ?_
  refine ms_I (rest := [.ref q1, .ref h]) (as := []) (wr := [(h, .inr (6, [.ref t, .int 0, .int (-1), .null, .null, .int 0]))]) X hl (c_ALinit l D dA s0 hE q1) (List.forall_mem_cons.mpr ⟨ms_k324, List.forall_mem_cons.mpr ⟨ms_k325, List.forall_mem_cons.mpr ⟨ms_k18, List.forall_mem_cons.mpr ⟨ms_k326, fun _ h => absurd h List.not_mem_nil⟩⟩⟩⟩) rfl ⟨by decide +kernel, by decide +kernel, (by decide +kernel : (parseMethodDescriptor "()V").map (fun d => d.parameters.length) = some 0)⟩ hP hD hS [1] [0] rfl rfl ⟨by decide, by decide, by decide⟩ ⟨⟨Nat.le_of_ble_eq_true rfl, Nat.le_of_ble_eq_true rfl⟩, Nat.le_of_ble_eq_true rfl, Nat.le_of_ble_eq_true rfl⟩ rfl (Nat.le_of_ble_eq_true rfl) d31_10 (fun vv ww H locs hR hP hD hS => ?_)
  obtain ⟨a_2, rfl, rfl⟩ := hR
  have hP : va_P D vwCl [(h, .inr (6, [.ref t, .int 0, .int (-1), .null, .null, .int 0])), (q1, .inr (4, [.int 0, .ref a_2, .int 0]))] H := hP
  have hD : va_D A [(h, .inr (6, [.ref t, .int 0, .int (-1), .null, .null, .int 0])), (q1, .inr (4, [.int 0, .ref a_2, .int 0]))] := hD
  refine W.eq (g2 := F0 m 13 ls [.ref q1, .ref h]) rfl ?_
  refine va_putF (D := D) (ci := 6) (v := .ref q1) (ty := (.object "java/util/ArrayList")) (C := kR6) (T := kT6) (N := 6) hx hb hts ku6 kt6 kp6 kn6 hown hK hP hD hS 0 rfl rfl 3 (by decide) (hts _ ms_k348) (fun _ h => h) rfl hin rfl (by decide +kernel) rfl rfl (Nat.le_of_ble_eq_true rfl) d31_13 (fun H locs hP hD hS => ?_)
  have hP : va_P D vwCl [(h, .inr (6, [.ref t, .int 0, .int (-1), .ref q1, .null, .int 0])), (q1, .inr (4, [.int 0, .ref a_2, .int 0]))] H := hP
  have hD : va_D A [(h, .inr (6, [.ref t, .int 0, .int (-1), .ref q1, .null, .int 0])), (q1, .inr (4, [.int 0, .ref a_2, .int 0]))] := hD
  refine lv_aload_n hx hb d31_16 rfl (lv_at hl 0 rfl) ?_
  refine lv_aload_n hx hb d31_17 rfl (lv_at hl 2 rfl) ?_
  refine va_putF (D := D) (ci := 6) (v := .ref z) (ty := (.object "java/lang/StringBuilder")) (C := kR6) (T := kT6) (N := 6) hx hb hts ku6 kt6 kp6 kn6 hown hK hP hD hS 0 rfl rfl 4 (by decide) (hts _ ms_k350) (fun _ h => h) rfl hin rfl (by decide +kernel) rfl rfl (Nat.le_of_ble_eq_true rfl) d31_18 (fun H locs hP hD hS => ?_)
  have hP : va_P D vwCl [(h, .inr (6, [.ref t, .int 0, .int (-1), .ref q1, .ref z, .int 0])), (q1, .inr (4, [.int 0, .ref a_2, .int 0]))] H := hP
  have hD : va_D A [(h, .inr (6, [.ref t, .int 0, .int (-1), .ref q1, .ref z, .int 0])), (q1, .inr (4, [.int 0, .ref a_2, .int 0]))] := hD
  refine lv_aload_n hx hb d31_21 rfl (lv_at hl 0 rfl) ?_
  refine lv_iconst (v := 0) hx hb d31_22 (by decide) ?_
  refine va_put (D := D) (ci := 6) (v := .int 0) (ty := .boolean) (C := kR6) (T := kT6) (N := 6) hx hb hts ku6 kt6 kp6 kn6 hown hK hP hD hS 0 rfl rfl 5 (by decide) (hts _ ms_k351) (fun _ h => h) rfl (by decide +kernel) rfl rfl (Nat.le_of_ble_eq_true rfl) d31_23 (fun H locs hP hD hS => ?_)
  have hP : va_P D vwCl [(h, .inr (6, [.ref t, .int 0, .int (-1), .ref q1, .ref z, .int 0])), (q1, .inr (4, [.int 0, .ref a_2, .int 0]))] H := hP
  have hD : va_D A [(h, .inr (6, [.ref t, .int 0, .int (-1), .ref q1, .ref z, .int 0])), (q1, .inr (4, [.int 0, .ref a_2, .int 0]))] := hD
  exact ms_vret X d31_26 hP hD hS (Nat.le_of_ble_eq_true rfl) (Nat.le_of_ble_eq_true rfl) (⟨a_2, q1, rfl, rfl⟩)

set_option maxRecDepth 100000 in
set_option maxHeartbeats 8000000 in
theorem c_seen0 (l : Launch) (D : va_G) (dA : Nat → ClassId) (s0 : State) (hE : ms_EV D dA s0) (h : Nat) (t : Nat) (b : Nat) (z : Nat) (u : Nat) (g : Nat → Int32) : ms_C l D s0 yM32 bM32 2 (Option.some Jvm.ClassFile.FieldType.char) 2 40 0 0 [.ref h, .int 0] [(h, .inr (6, [.ref t, .int 0, .int (-1), .ref b, .ref z, .int 0])), (t, .inr (5, [.ref u, .int 0, .int 0, .int 0])), (u, .inl (dA 2, 0, .inl g))] (fun vv ww => vv = some (.int 0) ∧ ww = [(h, .inr (6, [.ref t, .int 0, .int (-1), .ref b, .ref z, .int 0])), (t, .inr (5, [.ref u, .int 0, .int 0, .int 0])), (u, .inl (dA 2, 0, .inl g))]) := by
  refine ms_C.mk hE.1 (by decide) (Nat.le_of_ble_eq_true rfl) [(0, .ref h), (1, .int 0)] rfl ?_
  intro p e s m below meth c A ls X hin hP hD hS hl
  have hx := X.1
  have hb := X.2.1
  have hml := X.2.2.1
  have hown : s.vm.findClass "MarkupStore$TextReader" = some m.cls := X.2.2.2.1
  have hts := X.2.2.2.2.2.2.1
  have hK := X.2.2.2.2.2.2.2.2.1
  have hA := X.2.2.2.2.2.2.2.2.2.2
  refine lv_iload_n hx hb d32_0 rfl (lv_at hl 1 rfl) ?_
  refine lv_aload_n hx hb d32_1 rfl (lv_at hl 0 rfl) ?_
  refine va_get (D := D) (ci := 6) (v := .ref t) (C := kR6) (T := kT6) (N := 6) hx hb hts ku6 hown hK hP 0 rfl rfl 0 (by decide) (hts _ ms_k352) (fun _ h => h) rfl d32_2 ?_
  refine ms_V (C := "java/lang/String") (rest := [.int 0]) (as := []) (wr := [(h, .inr (6, [.ref t, .int 0, .int (-1), .ref b, .ref z, .int 0]))]) X hl (c_Slen l D dA s0 hE t u g) (List.forall_mem_cons.mpr ⟨ms_k390, List.forall_mem_cons.mpr ⟨ms_k391, List.forall_mem_cons.mpr ⟨ms_k392, List.forall_mem_cons.mpr ⟨ms_k4, List.forall_mem_cons.mpr ⟨ms_k393, fun _ h => absurd h List.not_mem_nil⟩⟩⟩⟩⟩) ⟨rfl, by decide +kernel, by decide +kernel, (by decide +kernel : (parseMethodDescriptor "()I").map (fun d => d.parameters.length) = some 0)⟩ (va_recv hK hP rfl (q0 := 1) rfl) hP hD hS [1, 2] [0] rfl rfl ⟨by decide, by decide, by decide⟩ ⟨⟨Nat.le_of_ble_eq_true rfl, Nat.le_of_ble_eq_true rfl⟩, Nat.le_of_ble_eq_true rfl, Nat.le_of_ble_eq_true rfl⟩ rfl (Nat.le_of_ble_eq_true rfl) d32_5 (fun vv ww H locs hR hP hD hS => ?_)
  obtain ⟨rfl, rfl⟩ := hR
  have hP : va_P D vwCl [(h, .inr (6, [.ref t, .int 0, .int (-1), .ref b, .ref z, .int 0])), (t, .inr (5, [.ref u, .int 0, .int 0, .int 0])), (u, .inl (dA 2, 0, .inl g))] H := hP
  have hD : va_D A [(h, .inr (6, [.ref t, .int 0, .int (-1), .ref b, .ref z, .int 0])), (t, .inr (5, [.ref u, .int 0, .int 0, .int 0])), (u, .inl (dA 2, 0, .inl g))] := hD
  refine W.eq (g2 := F0 m 8 ls [.int 0, .int 0]) rfl ?_
  refine lv_icmp_ge hx hb d32_8 rfl (fun _ => ?_) (fun h9 => absurd (by decide) h9)
  refine lv_iconst (v := 0) hx hb d32_22 (by decide) ?_
  exact ms_zret X d32_23 hP hD hS (Nat.le_of_ble_eq_true rfl) (Nat.le_of_ble_eq_true rfl) (⟨rfl, rfl⟩) (rfl)

set_option maxRecDepth 100000 in
set_option maxHeartbeats 8000000 in
theorem c_failAt (l : Launch) (D : va_G) (dA : Nat → ClassId) (s0 : State) (hE : ms_EV D dA s0) (h : Nat) (t : Nat) (b : Nat) (z : Nat) : ms_C l D s0 yM33 bM33 2 (Option.some Jvm.ClassFile.FieldType.boolean) 0 0 0 0 [.ref h, .int 0] [(h, .inr (6, [.ref t, .int 0, .int (-1), .ref b, .ref z, .int 0]))] (fun vv ww => vv = some (.int 0) ∧ ww = [(h, .inr (6, [.ref t, .int 0, .int 0, .ref b, .ref z, .int 0]))]) := by
  refine ms_C.mk hE.1 (by decide) (Nat.le_of_ble_eq_true rfl) [(0, .ref h), (1, .int 0)] rfl ?_
  intro p e s m below meth c A ls X hin hP hD hS hl
  have hx := X.1
  have hb := X.2.1
  have hml := X.2.2.1
  have hown : s.vm.findClass "MarkupStore$TextReader" = some m.cls := X.2.2.2.1
  have hts := X.2.2.2.2.2.2.1
  have hK := X.2.2.2.2.2.2.2.2.1
  have hA := X.2.2.2.2.2.2.2.2.2.2
  refine lv_aload_n hx hb d33_0 rfl (lv_at hl 0 rfl) ?_
  refine lv_iload_n hx hb d33_1 rfl (lv_at hl 1 rfl) ?_
  refine va_put (D := D) (ci := 6) (v := .int 0) (ty := .int) (C := kR6) (T := kT6) (N := 6) hx hb hts ku6 kt6 kp6 kn6 hown hK hP hD hS 0 rfl rfl 2 (by decide) (hts _ ms_k362) (fun _ h => h) rfl (by decide +kernel) rfl rfl (Nat.le_of_ble_eq_true rfl) d33_2 (fun H locs hP hD hS => ?_)
  have hP : va_P D vwCl [(h, .inr (6, [.ref t, .int 0, .int 0, .ref b, .ref z, .int 0]))] H := hP
  have hD : va_D A [(h, .inr (6, [.ref t, .int 0, .int 0, .ref b, .ref z, .int 0]))] := hD
  refine lv_iconst (v := 0) hx hb d33_5 (by decide) ?_
  exact ms_zret X d33_6 hP hD hS (Nat.le_of_ble_eq_true rfl) (Nat.le_of_ble_eq_true rfl) (⟨rfl, rfl⟩) (rfl)

set_option maxRecDepth 100000 in
set_option maxHeartbeats 8000000 in
theorem c_failed (l : Launch) (D : va_G) (dA : Nat → ClassId) (s0 : State) (hE : ms_EV D dA s0) (h : Nat) (t : Nat) (b : Nat) (z : Nat) : ms_C l D s0 yM34 bM34 1 (Option.some Jvm.ClassFile.FieldType.boolean) 0 0 0 0 [.ref h] [(h, .inr (6, [.ref t, .int 0, .int 0, .ref b, .ref z, .int 0]))] (fun vv ww => vv = some (.int 1) ∧ ww = [(h, .inr (6, [.ref t, .int 0, .int 0, .ref b, .ref z, .int 0]))]) := by
  refine ms_C.mk hE.1 (by decide) (Nat.le_of_ble_eq_true rfl) [(0, .ref h)] rfl ?_
  intro p e s m below meth c A ls X hin hP hD hS hl
  have hx := X.1
  have hb := X.2.1
  have hml := X.2.2.1
  have hown : s.vm.findClass "MarkupStore$TextReader" = some m.cls := X.2.2.2.1
  have hts := X.2.2.2.2.2.2.1
  have hK := X.2.2.2.2.2.2.2.2.1
  have hA := X.2.2.2.2.2.2.2.2.2.2
  refine lv_aload_n hx hb d34_0 rfl (lv_at hl 0 rfl) ?_
  refine va_get (D := D) (ci := 6) (v := .int 0) (C := kR6) (T := kT6) (N := 6) hx hb hts ku6 hown hK hP 0 rfl rfl 2 (by decide) (hts _ ms_k362) (fun _ h => h) rfl d34_1 ?_
  refine lv_iconst (v := (-1)) hx hb d34_4 (by decide) ?_
  refine lv_icmp_eq hx hb d34_5 rfl (fun h9 => absurd h9 (by decide)) (fun _ => ?_)
  refine lv_iconst (v := 1) hx hb d34_8 (by decide) ?_
  refine lv_goto hx hb d34_9 rfl ?_
  exact ms_zret X d34_13 hP hD hS (Nat.le_of_ble_eq_true rfl) (Nat.le_of_ble_eq_true rfl) (⟨rfl, rfl⟩) (rfl)

set_option maxRecDepth 100000 in
set_option maxHeartbeats 8000000 in
theorem c_readDoc (l : Launch) (D : va_G) (dA : Nat → ClassId) (s0 : State) (hE : ms_EV D dA s0) (h : Nat) (t : Nat) (b : Nat) (z : Nat) (u : Nat) (g : Nat → Int32) : ms_C l D s0 yM35 bM35 2 (Option.some Jvm.ClassFile.FieldType.boolean) 3 61 0 0 [.ref h] [(h, .inr (6, [.ref t, .int 0, .int (-1), .ref b, .ref z, .int 0])), (t, .inr (5, [.ref u, .int 0, .int 0, .int 0])), (u, .inl (dA 2, 0, .inl g))] (fun vv ww => vv = some (.int 0) ∧ ww = [(h, .inr (6, [.ref t, .int 0, .int 0, .ref b, .ref z, .int 0])), (t, .inr (5, [.ref u, .int 0, .int 0, .int 0])), (u, .inl (dA 2, 0, .inl g))]) := by
  refine ms_C.mk hE.1 (by decide) (Nat.le_of_ble_eq_true rfl) [(0, .ref h)] rfl ?_
  intro p e s m below meth c A ls X hin hP hD hS hl
  have hx := X.1
  have hb := X.2.1
  have hml := X.2.2.1
  have hown : s.vm.findClass "MarkupStore$MarkupReader" = some m.cls := X.2.2.2.1
  have hts := X.2.2.2.2.2.2.1
  have hK := X.2.2.2.2.2.2.2.2.1
  have hA := X.2.2.2.2.2.2.2.2.2.2
  refine lv_aload_n hx hb d35_0 rfl (lv_at hl 0 rfl) ?_
  refine lv_iconst (v := 0) hx hb d35_1 (by decide) ?_
  refine ms_U (C := "MarkupStore$MarkupReader") (x := ⟨"MarkupStore$MarkupReader", "seen", "(I)C"⟩) (owner := "MarkupStore$TextReader") (rest := []) (as := [.int 0]) (wr := []) X hl (c_seen0 l D dA s0 hE h t b z u g) (List.forall_mem_cons.mpr ⟨ms_k384, List.forall_mem_cons.mpr ⟨ms_k385, List.forall_mem_cons.mpr ⟨ms_k387, List.forall_mem_cons.mpr ⟨ms_k388, List.forall_mem_cons.mpr ⟨ms_k14, List.forall_mem_cons.mpr ⟨ms_k389, fun _ h => absurd h List.not_mem_nil⟩⟩⟩⟩⟩⟩) rfl ⟨by decide +kernel, by decide +kernel, (by decide +kernel : (parseMethodDescriptor "(I)C").map (fun d => d.parameters.length) = some 1)⟩ (va_recv hK hP rfl (q0 := 0) rfl) hP hD hS [0, 1, 2] [] rfl rfl ⟨by decide, by decide, by decide⟩ ⟨⟨Nat.le_of_ble_eq_true rfl, Nat.le_of_ble_eq_true rfl⟩, Nat.le_of_ble_eq_true rfl, Nat.le_of_ble_eq_true rfl⟩ rfl (Nat.le_of_ble_eq_true rfl) d35_2 (fun vv ww H locs hR hP hD hS => ?_)
  obtain ⟨rfl, rfl⟩ := hR
  have hP : va_P D vwCl [(h, .inr (6, [.ref t, .int 0, .int (-1), .ref b, .ref z, .int 0])), (t, .inr (5, [.ref u, .int 0, .int 0, .int 0])), (u, .inl (dA 2, 0, .inl g))] H := hP
  have hD : va_D A [(h, .inr (6, [.ref t, .int 0, .int (-1), .ref b, .ref z, .int 0])), (t, .inr (5, [.ref u, .int 0, .int 0, .int 0])), (u, .inl (dA 2, 0, .inl g))] := hD
  refine W.eq (g2 := F0 m 5 ls [.int 0]) rfl ?_
  refine lv_bipush (v := 60) hx hb d35_5 (by decide) ?_
  refine lv_icmp_eq hx hb d35_7 rfl (fun h9 => absurd h9 (by decide)) (fun _ => ?_)
  refine lv_aload_n hx hb d35_10 rfl (lv_at hl 0 rfl) ?_
  refine lv_iconst (v := 0) hx hb d35_11 (by decide) ?_
  refine ms_U (C := "MarkupStore$MarkupReader") (x := ⟨"MarkupStore$MarkupReader", "failAt", "(I)Z"⟩) (owner := "MarkupStore$TextReader") (rest := []) (as := [.int 0]) (wr := [(t, .inr (5, [.ref u, .int 0, .int 0, .int 0])), (u, .inl (dA 2, 0, .inl g))]) X hl (c_failAt l D dA s0 hE h t b z) (List.forall_mem_cons.mpr ⟨ms_k413, List.forall_mem_cons.mpr ⟨ms_k414, List.forall_mem_cons.mpr ⟨ms_k416, List.forall_mem_cons.mpr ⟨ms_k417, List.forall_mem_cons.mpr ⟨ms_k14, List.forall_mem_cons.mpr ⟨ms_k418, fun _ h => absurd h List.not_mem_nil⟩⟩⟩⟩⟩⟩) rfl ⟨by decide +kernel, by decide +kernel, (by decide +kernel : (parseMethodDescriptor "(I)Z").map (fun d => d.parameters.length) = some 1)⟩ (va_recv hK hP rfl (q0 := 0) rfl) hP hD hS [0] [1, 2] rfl rfl ⟨by decide, by decide, by decide⟩ ⟨⟨Nat.le_of_ble_eq_true rfl, Nat.le_of_ble_eq_true rfl⟩, Nat.le_of_ble_eq_true rfl, Nat.le_of_ble_eq_true rfl⟩ rfl (Nat.le_of_ble_eq_true rfl) d35_12 (fun vv ww H locs hR hP hD hS => ?_)
  obtain ⟨rfl, rfl⟩ := hR
  have hP : va_P D vwCl [(t, .inr (5, [.ref u, .int 0, .int 0, .int 0])), (u, .inl (dA 2, 0, .inl g)), (h, .inr (6, [.ref t, .int 0, .int 0, .ref b, .ref z, .int 0]))] H := hP
  have hD : va_D A [(t, .inr (5, [.ref u, .int 0, .int 0, .int 0])), (u, .inl (dA 2, 0, .inl g)), (h, .inr (6, [.ref t, .int 0, .int 0, .ref b, .ref z, .int 0]))] := hD
  refine W.eq (g2 := F0 m 15 ls [.int 0]) rfl ?_
  have hP := hP.sub (ws' := [(h, .inr (6, [.ref t, .int 0, .int 0, .ref b, .ref z, .int 0])), (t, .inr (5, [.ref u, .int 0, .int 0, .int 0])), (u, .inl (dA 2, 0, .inl g))]) [2, 0, 1] rfl
  have hD := hD.sub (ws' := [(h, .inr (6, [.ref t, .int 0, .int 0, .ref b, .ref z, .int 0])), (t, .inr (5, [.ref u, .int 0, .int 0, .int 0])), (u, .inl (dA 2, 0, .inl g))]) [2, 0, 1] (by decide) rfl
  exact ms_zret X d35_15 hP hD hS (Nat.le_of_ble_eq_true rfl) (Nat.le_of_ble_eq_true rfl) (⟨rfl, rfl⟩) (rfl)

set_option maxRecDepth 100000 in
set_option maxHeartbeats 8000000 in
theorem c_SCinit (l : Launch) (D : va_G) (dA : Nat → ClassId) (s0 : State) (hE : ms_EV D dA s0) (d : Nat) (k : Int32) : ms_C l D s0 yM36 bM36 2 (Option.none : Option Jvm.ClassFile.FieldType) 1 12 0 0 [.ref d, .int k] [(d, .inr (7, [.int 0, .int 0, .int 0]))] (fun vv ww => vv = none ∧ ww = [(d, .inr (7, [.int k, .int 0, .int 0]))]) := by
  refine ms_C.mk hE.1 (by decide) (Nat.le_of_ble_eq_true rfl) [(0, .ref d), (1, .int k)] rfl ?_
  intro p e s m below meth c A ls X hin hP hD hS hl
  have hx := X.1
  have hb := X.2.1
  have hml := X.2.2.1
  have hown : s.vm.findClass "MarkupStore$Scribe" = some m.cls := X.2.2.2.1
  have hts := X.2.2.2.2.2.2.1
  have hK := X.2.2.2.2.2.2.2.2.1
  have hA := X.2.2.2.2.2.2.2.2.2.2
  refine lv_aload_n hx hb d36_0 rfl (lv_at hl 0 rfl) ?_
  refine W.objInit hx hb hown (hts _ ms_k1251) (hts _ ms_k37) (hts _ ms_k38) rfl (by rw [hml]; exact hl.1) rfl d36_1 (Nat.le_of_ble_eq_true rfl) (Nat.le_of_ble_eq_true rfl) ?_
  refine W.eq (g2 := F0 m 4 ls []) rfl ?_
  refine lv_aload_n hx hb d36_4 rfl (lv_at hl 0 rfl) ?_
  refine lv_iload_n hx hb d36_5 rfl (lv_at hl 1 rfl) ?_
  refine va_putF (D := D) (ci := 7) (v := .int k) (ty := .int) (C := kR7) (T := kT7) (N := 3) hx hb hts ku7 kt7 kp7 kn7 hown hK hP hD hS 0 rfl rfl 0 (by decide) (hts _ ms_k1252) (fun _ h => h) rfl hin rfl (by decide +kernel) rfl rfl (Nat.le_of_ble_eq_true rfl) d36_6 (fun H locs hP hD hS => ?_)
  have hP : va_P D vwCl [(d, .inr (7, [.int k, .int 0, .int 0]))] H := hP
  have hD : va_D A [(d, .inr (7, [.int k, .int 0, .int 0]))] := hD
  refine lv_aload_n hx hb d36_9 rfl (lv_at hl 0 rfl) ?_
  refine lv_iconst (v := 0) hx hb d36_10 (by decide) ?_
  refine va_put (D := D) (ci := 7) (v := .int 0) (ty := .int) (C := kR7) (T := kT7) (N := 3) hx hb hts ku7 kt7 kp7 kn7 hown hK hP hD hS 0 rfl rfl 1 (by decide) (hts _ ms_k1253) (fun _ h => h) rfl (by decide +kernel) rfl rfl (Nat.le_of_ble_eq_true rfl) d36_11 (fun H locs hP hD hS => ?_)
  have hP : va_P D vwCl [(d, .inr (7, [.int k, .int 0, .int 0]))] H := hP
  have hD : va_D A [(d, .inr (7, [.int k, .int 0, .int 0]))] := hD
  refine lv_aload_n hx hb d36_14 rfl (lv_at hl 0 rfl) ?_
  refine lv_iconst (v := 0) hx hb d36_15 (by decide) ?_
  refine va_put (D := D) (ci := 7) (v := .int 0) (ty := .int) (C := kR7) (T := kT7) (N := 3) hx hb hts ku7 kt7 kp7 kn7 hown hK hP hD hS 0 rfl rfl 2 (by decide) (hts _ ms_k1255) (fun _ h => h) rfl (by decide +kernel) rfl rfl (Nat.le_of_ble_eq_true rfl) d36_16 (fun H locs hP hD hS => ?_)
  have hP : va_P D vwCl [(d, .inr (7, [.int k, .int 0, .int 0]))] H := hP
  have hD : va_D A [(d, .inr (7, [.int k, .int 0, .int 0]))] := hD
  exact ms_vret X d36_19 hP hD hS (Nat.le_of_ble_eq_true rfl) (Nat.le_of_ble_eq_true rfl) (⟨rfl, rfl⟩)

set_option maxRecDepth 100000 in
set_option maxHeartbeats 8000000 in
theorem c_closeUp (l : Launch) (D : va_G) (dA : Nat → ClassId) (s0 : State) (hE : ms_EV D dA s0) (d : Nat) (k : Int32) : ms_C l D s0 yM37 bM37 4 (Option.none : Option Jvm.ClassFile.FieldType) 0 0 0 0 [.ref d, .null, .null] [(d, .inr (7, [.int k, .int 0, .int 0]))] (fun vv ww => vv = none ∧ ww = [(d, .inr (7, [.int k, .int 0, .int 0]))]) := by
  refine ms_C.mk hE.1 (by decide) (Nat.le_of_ble_eq_true rfl) [(0, .ref d), (1, .null), (2, .null)] rfl ?_
  intro p e s m below meth c A ls X hin hP hD hS hl
  have hx := X.1
  have hb := X.2.1
  have hml := X.2.2.1
  have hown : s.vm.findClass "MarkupStore$Scribe" = some m.cls := X.2.2.2.1
  have hts := X.2.2.2.2.2.2.1
  have hK := X.2.2.2.2.2.2.2.2.1
  have hA := X.2.2.2.2.2.2.2.2.2.2
  refine lv_aload_nN hx hb d37_0 rfl (lv_at hl 1 rfl) ?_
  refine lv_astore_nN hx hb d37_1 rfl hl (by decide) rfl (fun ls hl => ?_)
  have hl : lv_has ls 4 [(3, .null), (0, .ref d), (1, .null), (2, .null)] := hl
  refine lv_aload_nN hx hb d37_2 rfl (lv_at hl 0 rfl) ?_
  refine lv_ifnullN hx hb d37_3 rfl ?_
  exact ms_vret X d37_39 hP hD hS (Nat.le_of_ble_eq_true rfl) (Nat.le_of_ble_eq_true rfl) (⟨rfl, rfl⟩)

set_option maxRecDepth 100000 in
set_option maxHeartbeats 8000000 in
theorem c_SCwrite (l : Launch) (D : va_G) (dA : Nat → ClassId) (s0 : State) (hE : ms_EV D dA s0) (d : Nat) (h : Nat) (a1 : Nat) (a2 : Nat) (a3 : Nat) (k : Int32) : ms_C l D s0 yM38 bM38 6 (Option.none : Option Jvm.ClassFile.FieldType) 1 23 0 0 [.ref d, .ref h] [(d, .inr (7, [.int k, .int 0, .int 0])), (h, .inr (1, [.ref a1, .int 0, .ref a2, .int 0, .ref a3, .int 0]))] (fun vv ww => vv = none ∧ ww = [(d, .inr (7, [.int k, .int 0, .int 0])), (h, .inr (1, [.ref a1, .int 0, .ref a2, .int 0, .ref a3, .int 0]))]) := by
  refine ms_C.mk hE.1 (by decide) (Nat.le_of_ble_eq_true rfl) [(0, .ref d), (1, .ref h)] rfl ?_
  intro p e s m below meth c A ls X hin hP hD hS hl
  have hx := X.1
  have hb := X.2.1
  have hml := X.2.2.1
  have hown : s.vm.findClass "MarkupStore$Scribe" = some m.cls := X.2.2.2.1
  have hts := X.2.2.2.2.2.2.1
  have hK := X.2.2.2.2.2.2.2.2.1
  have hA := X.2.2.2.2.2.2.2.2.2.2
  refine lv_null hx hb d38_0 ?_
  refine lv_astore_nN hx hb d38_1 rfl hl (by decide) rfl (fun ls hl => ?_)
  have hl : lv_has ls 6 [(2, .null), (0, .ref d), (1, .ref h)] := hl
  refine lv_iconst (v := 0) hx hb d38_2 (by decide) ?_
  refine lv_istore_n hx hb d38_3 rfl hl (by decide) rfl (fun ls hl => ?_)
  have hl : lv_has ls 6 [(3, .int 0), (2, .null), (0, .ref d), (1, .ref h)] := hl
  refine lv_iload_n hx hb d38_4 rfl (lv_at hl 0 rfl) ?_
  refine lv_aload_n hx hb d38_5 rfl (lv_at hl 3 rfl) ?_
  refine va_get (D := D) (ci := 1) (v := .int 0) (C := kR1) (T := kT1) (N := 6) hx hb hts ku1 hown hK hP 1 rfl rfl 3 (by decide) (hts _ ms_k86) (fun _ h => h) rfl d38_6 ?_
  refine lv_icmp_ge hx hb d38_9 rfl (fun _ => ?_) (fun h9 => absurd (by decide) h9)
  refine lv_aload_n hx hb d38_139 rfl (lv_at hl 2 rfl) ?_
  refine lv_aload_nN hx hb d38_140 rfl (lv_at hl 1 rfl) ?_
  refine lv_null hx hb d38_141 ?_
  refine ms_V (C := "MarkupStore$Scribe") (rest := []) (as := [.null, .null]) (wr := [(h, .inr (1, [.ref a1, .int 0, .ref a2, .int 0, .ref a3, .int 0]))]) X hl (c_closeUp l D dA s0 hE d k) (List.forall_mem_cons.mpr ⟨ms_k1268, List.forall_mem_cons.mpr ⟨ms_k1270, List.forall_mem_cons.mpr ⟨ms_p39, List.forall_mem_cons.mpr ⟨ms_k30, List.forall_mem_cons.mpr ⟨ms_k1271, fun _ h => absurd h List.not_mem_nil⟩⟩⟩⟩⟩) ⟨rfl, by decide +kernel, by decide +kernel, (by decide +kernel : (parseMethodDescriptor "(LMarkupStore$Node;LMarkupStore$Node;)V").map (fun d => d.parameters.length) = some 2)⟩ (va_recv hK hP rfl (q0 := 0) rfl) hP hD hS [0] [1] rfl rfl ⟨by decide, by decide, by decide⟩ ⟨⟨Nat.le_of_ble_eq_true rfl, Nat.le_of_ble_eq_true rfl⟩, Nat.le_of_ble_eq_true rfl, Nat.le_of_ble_eq_true rfl⟩ rfl (Nat.le_of_ble_eq_true rfl) d38_142 (fun vv ww H locs hR hP hD hS => ?_)
  obtain ⟨rfl, rfl⟩ := hR
  have hP : va_P D vwCl [(h, .inr (1, [.ref a1, .int 0, .ref a2, .int 0, .ref a3, .int 0])), (d, .inr (7, [.int k, .int 0, .int 0]))] H := hP
  have hD : va_D A [(h, .inr (1, [.ref a1, .int 0, .ref a2, .int 0, .ref a3, .int 0])), (d, .inr (7, [.int k, .int 0, .int 0]))] := hD
  refine W.eq (g2 := F0 m 145 ls []) rfl ?_
  have hP := hP.sub (ws' := [(d, .inr (7, [.int k, .int 0, .int 0])), (h, .inr (1, [.ref a1, .int 0, .ref a2, .int 0, .ref a3, .int 0]))]) [1, 0] rfl
  have hD := hD.sub (ws' := [(d, .inr (7, [.int k, .int 0, .int 0])), (h, .inr (1, [.ref a1, .int 0, .ref a2, .int 0, .ref a3, .int 0]))]) [1, 0] (by decide) rfl
  exact ms_vret X d38_145 hP hD hS (Nat.le_of_ble_eq_true rfl) (Nat.le_of_ble_eq_true rfl) (⟨rfl, rfl⟩)

set_option maxRecDepth 100000 in
set_option maxHeartbeats 8000000 in
theorem c_MSinit (l : Launch) (D : va_G) (dA : Nat → ClassId) (s0 : State) (hE : ms_EV D dA s0) (h : Nat) : ms_C l D s0 yM39 bM39 1 (Option.none : Option Jvm.ClassFile.FieldType) 3 53 9 366 [.ref h] [(h, .inr (0, [.null, .null, .null, .null, .int 0, .int 0]))] (fun vv ww => ∃ (r : Nat → Nat), vv = none ∧ ww = [(h, .inr (0, [.ref (r 0), .ref (r 2), .ref (r 4), .ref (r 8), .int 0, .int 0])), ((r 0), .inr (3, [.ref (r 1), .int 0, .int 0, .int 0])), ((r 1), .inl (dA 2, 16, .inl (fun _ => 0))), ((r 2), .inr (3, [.ref (r 3), .int 0, .int 0, .int 0])), ((r 3), .inl (dA 2, 16, .inl (fun _ => 0))), ((r 4), .inr (1, [.ref (r 5), .int 0, .ref (r 6), .int 0, .ref (r 7), .int 0])), ((r 5), .inl (dA 5, 200, .inr (.inr (.inr (.inr (fun _ => none)))))), ((r 6), .inl (dA 5, 40, .inr (.inr (.inr (.inr (fun _ => none)))))), ((r 7), .inl (dA 5, 40, .inr (.inr (.inr (.inr (fun _ => none)))))), ((r 8), .inl (dA 0, 40, .inl (fun _ => 0)))]) := by
  refine ms_C.mk hE.1 (by decide) (Nat.le_of_ble_eq_true rfl) [(0, .ref h)] rfl ?_
  intro p e s m below meth c A ls X hin hP hD hS hl
  have hx := X.1
  have hb := X.2.1
  have hml := X.2.2.1
  have hown : s.vm.findClass "MarkupStore" = some m.cls := X.2.2.2.1
  have hts := X.2.2.2.2.2.2.1
  have hK := X.2.2.2.2.2.2.2.2.1
  have hA := X.2.2.2.2.2.2.2.2.2.2
  refine lv_aload_n hx hb d39_0 rfl (lv_at hl 0 rfl) ?_
  refine W.objInit hx hb hown (hts _ ms_k36) (hts _ ms_k37) (hts _ ms_k38) rfl (by rw [hml]; exact hl.1) rfl d39_1 (Nat.le_of_ble_eq_true rfl) (Nat.le_of_ble_eq_true rfl) ?_
  refine W.eq (g2 := F0 m 4 ls []) rfl ?_
  refine lv_aload_n hx hb d39_4 rfl (lv_at hl 0 rfl) ?_
  refine va_new (ci := 3) (fs := [.null, .int 0, .int 0, .int 0]) (C := kR3) (T := kT3) (N := 4) hx hb hts ku3 kt3 kp3 hown (hts _ ms_k39) (hts _ ms_k40) (hts _ ms_k3) hK hP hD hS hA rfl kz3 (Nat.le_of_ble_eq_true rfl) (Nat.le_of_ble_eq_true rfl) d39_5 (fun q1 H hP hD hS => ?_)
  have hP : va_P D vwCl [(h, .inr (0, [.null, .null, .null, .null, .int 0, .int 0])), (q1, .inr (3, [.null, .int 0, .int 0, .int 0]))] H := hP
  have hD : va_D A [(h, .inr (0, [.null, .null, .null, .null, .int 0, .int 0])), (q1, .inr (3, [.null, .int 0, .int 0, .int 0]))] := hD
  refine lv_dup hx hb d39_8 rfl ?_
  refine ms_I (rest := [.ref q1, .ref h]) (as := []) (wr := [(h, .inr (0, [.null, .null, .null, .null, .int 0, .int 0]))]) X hl (c_SBinit l D dA s0 hE q1) (List.forall_mem_cons.mpr ⟨ms_k41, List.forall_mem_cons.mpr ⟨ms_k42, List.forall_mem_cons.mpr ⟨ms_k3, List.forall_mem_cons.mpr ⟨ms_k43, fun _ h => absurd h List.not_mem_nil⟩⟩⟩⟩) rfl ⟨by decide +kernel, by decide +kernel, (by decide +kernel : (parseMethodDescriptor "()V").map (fun d => d.parameters.length) = some 0)⟩ hP hD hS [1] [0] rfl rfl ⟨by decide, by decide, by decide⟩ ⟨⟨Nat.le_of_ble_eq_true rfl, Nat.le_of_ble_eq_true rfl⟩, Nat.le_of_ble_eq_true rfl, Nat.le_of_ble_eq_true rfl⟩ rfl (Nat.le_of_ble_eq_true rfl) d39_9 (fun vv ww H locs hR hP hD hS => ?_)
  obtain ⟨v_2, rfl, rfl⟩ := hR
  have hP : va_P D vwCl [(h, .inr (0, [.null, .null, .null, .null, .int 0, .int 0])), (q1, .inr (3, [.ref v_2, .int 0, .int 0, .int 0])), (v_2, .inl (dA 2, 16, .inl (fun _ => 0)))] H := hP
  have hD : va_D A [(h, .inr (0, [.null, .null, .null, .null, .int 0, .int 0])), (q1, .inr (3, [.ref v_2, .int 0, .int 0, .int 0])), (v_2, .inl (dA 2, 16, .inl (fun _ => 0)))] := hD
  refine W.eq (g2 := F0 m 12 ls [.ref q1, .ref h]) rfl ?_
  refine va_putF (D := D) (ci := 0) (v := .ref q1) (ty := (.object "java/lang/StringBuilder")) (C := kR0) (T := kT0) (N := 6) hx hb hts ku0 kt0 kp0 kn0 hown hK hP hD hS 0 rfl rfl 0 (by decide) (hts _ ms_k105) (fun _ h => h) rfl hin rfl (by decide +kernel) rfl rfl (Nat.le_of_ble_eq_true rfl) d39_12 (fun H locs hP hD hS => ?_)
  have hP : va_P D vwCl [(h, .inr (0, [.ref q1, .null, .null, .null, .int 0, .int 0])), (q1, .inr (3, [.ref v_2, .int 0, .int 0, .int 0])), (v_2, .inl (dA 2, 16, .inl (fun _ => 0)))] H := hP
  have hD : va_D A [(h, .inr (0, [.ref q1, .null, .null, .null, .int 0, .int 0])), (q1, .inr (3, [.ref v_2, .int 0, .int 0, .int 0])), (v_2, .inl (dA 2, 16, .inl (fun _ => 0)))] := hD
  refine lv_aload_n hx hb d39_15 rfl (lv_at hl 0 rfl) ?_
  refine va_new (ci := 3) (fs := [.null, .int 0, .int 0, .int 0]) (C := kR3) (T := kT3) (N := 4) hx hb hts ku3 kt3 kp3 hown (hts _ ms_k39) (hts _ ms_k40) (hts _ ms_k3) hK hP hD hS hA rfl kz3 (Nat.le_of_ble_eq_true rfl) (Nat.le_of_ble_eq_true rfl) d39_16 (fun q3 H hP hD hS => ?_)
  have hP : va_P D vwCl [(h, .inr (0, [.ref q1, .null, .null, .null, .int 0, .int 0])), (q1, .inr (3, [.ref v_2, .int 0, .int 0, .int 0])), (v_2, .inl (dA 2, 16, .inl (fun _ => 0))), (q3, .inr (3, [.null, .int 0, .int 0, .int 0]))] H := hP
  have hD : va_D A [(h, .inr (0, [.ref q1, .null, .null, .null, .int 0, .int 0])), (q1, .inr (3, [.ref v_2, .int 0, .int 0, .int 0])), (v_2, .inl (dA 2, 16, .inl (fun _ => 0))), (q3, .inr (3, [.null, .int 0, .int 0, .int 0]))] := hD
  refine lv_dup hx hb d39_19 rfl ?_
  refine ms_I (rest := [.ref q3, .ref h]) (as := []) (wr := [(h, .inr (0, [.ref q1, .null, .null, .null, .int 0, .int 0])), (q1, .inr (3, [.ref v_2, .int 0, .int 0, .int 0])), (v_2, .inl (dA 2, 16, .inl (fun _ => 0)))]) X hl (c_SBinit l D dA s0 hE q3) (List.forall_mem_cons.mpr ⟨ms_k41, List.forall_mem_cons.mpr ⟨ms_k42, List.forall_mem_cons.mpr ⟨ms_k3, List.forall_mem_cons.mpr ⟨ms_k43, fun _ h => absurd h List.not_mem_nil⟩⟩⟩⟩) rfl ⟨by decide +kernel, by decide +kernel, (by decide +kernel : (parseMethodDescriptor "()V").map (fun d => d.parameters.length) = some 0)⟩ hP hD hS [3] [0, 1, 2] rfl rfl ⟨by decide, by decide, by decide⟩ ⟨⟨Nat.le_of_ble_eq_true rfl, Nat.le_of_ble_eq_true rfl⟩, Nat.le_of_ble_eq_true rfl, Nat.le_of_ble_eq_true rfl⟩ rfl (Nat.le_of_ble_eq_true rfl) d39_20 (fun vv ww H locs hR hP hD hS => ?_)
  obtain ⟨v_4, rfl, rfl⟩ := hR
  have hP : va_P D vwCl [(h, .inr (0, [.ref q1, .null, .null, .null, .int 0, .int 0])), (q1, .inr (3, [.ref v_2, .int 0, .int 0, .int 0])), (v_2, .inl (dA 2, 16, .inl (fun _ => 0))), (q3, .inr (3, [.ref v_4, .int 0, .int 0, .int 0])), (v_4, .inl (dA 2, 16, .inl (fun _ => 0)))] H := hP
  have hD : va_D A [(h, .inr (0, [.ref q1, .null, .null, .null, .int 0, .int 0])), (q1, .inr (3, [.ref v_2, .int 0, .int 0, .int 0])), (v_2, .inl (dA 2, 16, .inl (fun _ => 0))), (q3, .inr (3, [.ref v_4, .int 0, .int 0, .int 0])), (v_4, .inl (dA 2, 16, .inl (fun _ => 0)))] := hD
  refine W.eq (g2 := F0 m 23 ls [.ref q3, .ref h]) rfl ?_
  refine va_putF (D := D) (ci := 0) (v := .ref q3) (ty := (.object "java/lang/StringBuilder")) (C := kR0) (T := kT0) (N := 6) hx hb hts ku0 kt0 kp0 kn0 hown hK hP hD hS 0 rfl rfl 1 (by decide) (hts _ ms_k106) (fun _ h => h) rfl hin rfl (by decide +kernel) rfl rfl (Nat.le_of_ble_eq_true rfl) d39_23 (fun H locs hP hD hS => ?_)
  have hP : va_P D vwCl [(h, .inr (0, [.ref q1, .ref q3, .null, .null, .int 0, .int 0])), (q1, .inr (3, [.ref v_2, .int 0, .int 0, .int 0])), (v_2, .inl (dA 2, 16, .inl (fun _ => 0))), (q3, .inr (3, [.ref v_4, .int 0, .int 0, .int 0])), (v_4, .inl (dA 2, 16, .inl (fun _ => 0)))] H := hP
  have hD : va_D A [(h, .inr (0, [.ref q1, .ref q3, .null, .null, .int 0, .int 0])), (q1, .inr (3, [.ref v_2, .int 0, .int 0, .int 0])), (v_2, .inl (dA 2, 16, .inl (fun _ => 0))), (q3, .inr (3, [.ref v_4, .int 0, .int 0, .int 0])), (v_4, .inl (dA 2, 16, .inl (fun _ => 0)))] := hD
  refine lv_aload_n hx hb d39_26 rfl (lv_at hl 0 rfl) ?_
  refine va_new (ci := 1) (fs := [.null, .int 0, .null, .int 0, .null, .int 0]) (C := kR1) (T := kT1) (N := 6) hx hb hts ku1 kt1 kp1 hown (hts _ ms_k72) (hts _ ms_k73) (hts _ ms_k6) hK hP hD hS hA rfl kz1 (Nat.le_of_ble_eq_true rfl) (Nat.le_of_ble_eq_true rfl) d39_27 (fun q5 H hP hD hS => ?_)
  have hP : va_P D vwCl [(h, .inr (0, [.ref q1, .ref q3, .null, .null, .int 0, .int 0])), (q1, .inr (3, [.ref v_2, .int 0, .int 0, .int 0])), (v_2, .inl (dA 2, 16, .inl (fun _ => 0))), (q3, .inr (3, [.ref v_4, .int 0, .int 0, .int 0])), (v_4, .inl (dA 2, 16, .inl (fun _ => 0))), (q5, .inr (1, [.null, .int 0, .null, .int 0, .null, .int 0]))] H := hP
  have hD : va_D A [(h, .inr (0, [.ref q1, .ref q3, .null, .null, .int 0, .int 0])), (q1, .inr (3, [.ref v_2, .int 0, .int 0, .int 0])), (v_2, .inl (dA 2, 16, .inl (fun _ => 0))), (q3, .inr (3, [.ref v_4, .int 0, .int 0, .int 0])), (v_4, .inl (dA 2, 16, .inl (fun _ => 0))), (q5, .inr (1, [.null, .int 0, .null, .int 0, .null, .int 0]))] := hD
  refine lv_dup hx hb d39_30 rfl ?_
  refine ms_I (rest := [.ref q5, .ref h]) (as := []) (wr := [(h, .inr (0, [.ref q1, .ref q3, .null, .null, .int 0, .int 0])), (q1, .inr (3, [.ref v_2, .int 0, .int 0, .int 0])), (v_2, .inl (dA 2, 16, .inl (fun _ => 0))), (q3, .inr (3, [.ref v_4, .int 0, .int 0, .int 0])), (v_4, .inl (dA 2, 16, .inl (fun _ => 0)))]) X hl (c_Tinit l D dA s0 hE q5) (List.forall_mem_cons.mpr ⟨ms_k74, List.forall_mem_cons.mpr ⟨ms_k75, List.forall_mem_cons.mpr ⟨ms_k6, List.forall_mem_cons.mpr ⟨ms_k76, fun _ h => absurd h List.not_mem_nil⟩⟩⟩⟩) rfl ⟨by decide +kernel, by decide +kernel, (by decide +kernel : (parseMethodDescriptor "()V").map (fun d => d.parameters.length) = some 0)⟩ hP hD hS [5] [0, 1, 2, 3, 4] rfl rfl ⟨by decide, by decide, by decide⟩ ⟨⟨Nat.le_of_ble_eq_true rfl, Nat.le_of_ble_eq_true rfl⟩, Nat.le_of_ble_eq_true rfl, Nat.le_of_ble_eq_true rfl⟩ rfl (Nat.le_of_ble_eq_true rfl) d39_31 (fun vv ww H locs hR hP hD hS => ?_)
  obtain ⟨a1_6, a2_7, a3_8, rfl, rfl⟩ := hR
  have hP : va_P D vwCl [(h, .inr (0, [.ref q1, .ref q3, .null, .null, .int 0, .int 0])), (q1, .inr (3, [.ref v_2, .int 0, .int 0, .int 0])), (v_2, .inl (dA 2, 16, .inl (fun _ => 0))), (q3, .inr (3, [.ref v_4, .int 0, .int 0, .int 0])), (v_4, .inl (dA 2, 16, .inl (fun _ => 0))), (q5, .inr (1, [.ref a1_6, .int 0, .ref a2_7, .int 0, .ref a3_8, .int 0])), (a1_6, .inl (dA 5, 200, .inr (.inr (.inr (.inr (fun _ => none)))))), (a2_7, .inl (dA 5, 40, .inr (.inr (.inr (.inr (fun _ => none)))))), (a3_8, .inl (dA 5, 40, .inr (.inr (.inr (.inr (fun _ => none))))))] H := hP
  have hD : va_D A [(h, .inr (0, [.ref q1, .ref q3, .null, .null, .int 0, .int 0])), (q1, .inr (3, [.ref v_2, .int 0, .int 0, .int 0])), (v_2, .inl (dA 2, 16, .inl (fun _ => 0))), (q3, .inr (3, [.ref v_4, .int 0, .int 0, .int 0])), (v_4, .inl (dA 2, 16, .inl (fun _ => 0))), (q5, .inr (1, [.ref a1_6, .int 0, .ref a2_7, .int 0, .ref a3_8, .int 0])), (a1_6, .inl (dA 5, 200, .inr (.inr (.inr (.inr (fun _ => none)))))), (a2_7, .inl (dA 5, 40, .inr (.inr (.inr (.inr (fun _ => none)))))), (a3_8, .inl (dA 5, 40, .inr (.inr (.inr (.inr (fun _ => none))))))] := hD
  refine W.eq (g2 := F0 m 34 ls [.ref q5, .ref h]) rfl ?_
  refine va_putF (D := D) (ci := 0) (v := .ref q5) (ty := (.object "MarkupStore$Tree")) (C := kR0) (T := kT0) (N := 6) hx hb hts ku0 kt0 kp0 kn0 hown hK hP hD hS 0 rfl rfl 2 (by decide) (hts _ ms_k107) (fun _ h => h) rfl hin rfl (by decide +kernel) rfl rfl (Nat.le_of_ble_eq_true rfl) d39_34 (fun H locs hP hD hS => ?_)
  have hP : va_P D vwCl [(h, .inr (0, [.ref q1, .ref q3, .ref q5, .null, .int 0, .int 0])), (q1, .inr (3, [.ref v_2, .int 0, .int 0, .int 0])), (v_2, .inl (dA 2, 16, .inl (fun _ => 0))), (q3, .inr (3, [.ref v_4, .int 0, .int 0, .int 0])), (v_4, .inl (dA 2, 16, .inl (fun _ => 0))), (q5, .inr (1, [.ref a1_6, .int 0, .ref a2_7, .int 0, .ref a3_8, .int 0])), (a1_6, .inl (dA 5, 200, .inr (.inr (.inr (.inr (fun _ => none)))))), (a2_7, .inl (dA 5, 40, .inr (.inr (.inr (.inr (fun _ => none)))))), (a3_8, .inl (dA 5, 40, .inr (.inr (.inr (.inr (fun _ => none))))))] H := hP
  have hD : va_D A [(h, .inr (0, [.ref q1, .ref q3, .ref q5, .null, .int 0, .int 0])), (q1, .inr (3, [.ref v_2, .int 0, .int 0, .int 0])), (v_2, .inl (dA 2, 16, .inl (fun _ => 0))), (q3, .inr (3, [.ref v_4, .int 0, .int 0, .int 0])), (v_4, .inl (dA 2, 16, .inl (fun _ => 0))), (q5, .inr (1, [.ref a1_6, .int 0, .ref a2_7, .int 0, .ref a3_8, .int 0])), (a1_6, .inl (dA 5, 200, .inr (.inr (.inr (.inr (fun _ => none)))))), (a2_7, .inl (dA 5, 40, .inr (.inr (.inr (.inr (fun _ => none)))))), (a3_8, .inl (dA 5, 40, .inr (.inr (.inr (.inr (fun _ => none))))))] := hD
  refine lv_aload_n hx hb d39_37 rfl (lv_at hl 0 rfl) ?_
  refine lv_bipush (v := 40) hx hb d39_38 (by decide) ?_
  refine ms_newa (atype := .int) (ty := .int) (a0 := (40, .inl (fun _ => 0))) X ms_k124 rfl 0 rfl (fun _ h => h) hP hD hS (fun _ => rfl) (by decide) (by decide) (by decide) (Nat.le_of_ble_eq_true rfl) (Nat.le_of_ble_eq_true rfl) d39_40 (fun q9 H hP hD hS => ?_)
  have hP : va_P D vwCl [(h, .inr (0, [.ref q1, .ref q3, .ref q5, .null, .int 0, .int 0])), (q1, .inr (3, [.ref v_2, .int 0, .int 0, .int 0])), (v_2, .inl (dA 2, 16, .inl (fun _ => 0))), (q3, .inr (3, [.ref v_4, .int 0, .int 0, .int 0])), (v_4, .inl (dA 2, 16, .inl (fun _ => 0))), (q5, .inr (1, [.ref a1_6, .int 0, .ref a2_7, .int 0, .ref a3_8, .int 0])), (a1_6, .inl (dA 5, 200, .inr (.inr (.inr (.inr (fun _ => none)))))), (a2_7, .inl (dA 5, 40, .inr (.inr (.inr (.inr (fun _ => none)))))), (a3_8, .inl (dA 5, 40, .inr (.inr (.inr (.inr (fun _ => none)))))), (q9, .inl (dA 0, 40, .inl (fun _ => 0)))] H := hP
  have hD : va_D A [(h, .inr (0, [.ref q1, .ref q3, .ref q5, .null, .int 0, .int 0])), (q1, .inr (3, [.ref v_2, .int 0, .int 0, .int 0])), (v_2, .inl (dA 2, 16, .inl (fun _ => 0))), (q3, .inr (3, [.ref v_4, .int 0, .int 0, .int 0])), (v_4, .inl (dA 2, 16, .inl (fun _ => 0))), (q5, .inr (1, [.ref a1_6, .int 0, .ref a2_7, .int 0, .ref a3_8, .int 0])), (a1_6, .inl (dA 5, 200, .inr (.inr (.inr (.inr (fun _ => none)))))), (a2_7, .inl (dA 5, 40, .inr (.inr (.inr (.inr (fun _ => none)))))), (a3_8, .inl (dA 5, 40, .inr (.inr (.inr (.inr (fun _ => none)))))), (q9, .inl (dA 0, 40, .inl (fun _ => 0)))] := hD
  refine va_putF (D := D) (ci := 0) (v := .ref q9) (ty := (.array .int)) (C := kR0) (T := kT0) (N := 6) hx hb hts ku0 kt0 kp0 kn0 hown hK hP hD hS 0 rfl rfl 3 (by decide) (hts _ ms_k108) (fun _ h => h) rfl hin rfl (by decide +kernel) rfl rfl (Nat.le_of_ble_eq_true rfl) d39_42 (fun H locs hP hD hS => ?_)
  have hP : va_P D vwCl [(h, .inr (0, [.ref q1, .ref q3, .ref q5, .ref q9, .int 0, .int 0])), (q1, .inr (3, [.ref v_2, .int 0, .int 0, .int 0])), (v_2, .inl (dA 2, 16, .inl (fun _ => 0))), (q3, .inr (3, [.ref v_4, .int 0, .int 0, .int 0])), (v_4, .inl (dA 2, 16, .inl (fun _ => 0))), (q5, .inr (1, [.ref a1_6, .int 0, .ref a2_7, .int 0, .ref a3_8, .int 0])), (a1_6, .inl (dA 5, 200, .inr (.inr (.inr (.inr (fun _ => none)))))), (a2_7, .inl (dA 5, 40, .inr (.inr (.inr (.inr (fun _ => none)))))), (a3_8, .inl (dA 5, 40, .inr (.inr (.inr (.inr (fun _ => none)))))), (q9, .inl (dA 0, 40, .inl (fun _ => 0)))] H := hP
  have hD : va_D A [(h, .inr (0, [.ref q1, .ref q3, .ref q5, .ref q9, .int 0, .int 0])), (q1, .inr (3, [.ref v_2, .int 0, .int 0, .int 0])), (v_2, .inl (dA 2, 16, .inl (fun _ => 0))), (q3, .inr (3, [.ref v_4, .int 0, .int 0, .int 0])), (v_4, .inl (dA 2, 16, .inl (fun _ => 0))), (q5, .inr (1, [.ref a1_6, .int 0, .ref a2_7, .int 0, .ref a3_8, .int 0])), (a1_6, .inl (dA 5, 200, .inr (.inr (.inr (.inr (fun _ => none)))))), (a2_7, .inl (dA 5, 40, .inr (.inr (.inr (.inr (fun _ => none)))))), (a3_8, .inl (dA 5, 40, .inr (.inr (.inr (.inr (fun _ => none)))))), (q9, .inl (dA 0, 40, .inl (fun _ => 0)))] := hD
  refine lv_aload_n hx hb d39_45 rfl (lv_at hl 0 rfl) ?_
  refine lv_iconst (v := 0) hx hb d39_46 (by decide) ?_
  refine va_put (D := D) (ci := 0) (v := .int 0) (ty := .int) (C := kR0) (T := kT0) (N := 6) hx hb hts ku0 kt0 kp0 kn0 hown hK hP hD hS 0 rfl rfl 4 (by decide) (hts _ ms_k109) (fun _ h => h) rfl (by decide +kernel) rfl rfl (Nat.le_of_ble_eq_true rfl) d39_47 (fun H locs hP hD hS => ?_)
  have hP : va_P D vwCl [(h, .inr (0, [.ref q1, .ref q3, .ref q5, .ref q9, .int 0, .int 0])), (q1, .inr (3, [.ref v_2, .int 0, .int 0, .int 0])), (v_2, .inl (dA 2, 16, .inl (fun _ => 0))), (q3, .inr (3, [.ref v_4, .int 0, .int 0, .int 0])), (v_4, .inl (dA 2, 16, .inl (fun _ => 0))), (q5, .inr (1, [.ref a1_6, .int 0, .ref a2_7, .int 0, .ref a3_8, .int 0])), (a1_6, .inl (dA 5, 200, .inr (.inr (.inr (.inr (fun _ => none)))))), (a2_7, .inl (dA 5, 40, .inr (.inr (.inr (.inr (fun _ => none)))))), (a3_8, .inl (dA 5, 40, .inr (.inr (.inr (.inr (fun _ => none)))))), (q9, .inl (dA 0, 40, .inl (fun _ => 0)))] H := hP
  have hD : va_D A [(h, .inr (0, [.ref q1, .ref q3, .ref q5, .ref q9, .int 0, .int 0])), (q1, .inr (3, [.ref v_2, .int 0, .int 0, .int 0])), (v_2, .inl (dA 2, 16, .inl (fun _ => 0))), (q3, .inr (3, [.ref v_4, .int 0, .int 0, .int 0])), (v_4, .inl (dA 2, 16, .inl (fun _ => 0))), (q5, .inr (1, [.ref a1_6, .int 0, .ref a2_7, .int 0, .ref a3_8, .int 0])), (a1_6, .inl (dA 5, 200, .inr (.inr (.inr (.inr (fun _ => none)))))), (a2_7, .inl (dA 5, 40, .inr (.inr (.inr (.inr (fun _ => none)))))), (a3_8, .inl (dA 5, 40, .inr (.inr (.inr (.inr (fun _ => none)))))), (q9, .inl (dA 0, 40, .inl (fun _ => 0)))] := hD
  refine lv_aload_n hx hb d39_50 rfl (lv_at hl 0 rfl) ?_
  refine lv_iconst (v := 0) hx hb d39_51 (by decide) ?_
  refine va_put (D := D) (ci := 0) (v := .int 0) (ty := .int) (C := kR0) (T := kT0) (N := 6) hx hb hts ku0 kt0 kp0 kn0 hown hK hP hD hS 0 rfl rfl 5 (by decide) (hts _ ms_k110) (fun _ h => h) rfl (by decide +kernel) rfl rfl (Nat.le_of_ble_eq_true rfl) d39_52 (fun H locs hP hD hS => ?_)
  have hP : va_P D vwCl [(h, .inr (0, [.ref q1, .ref q3, .ref q5, .ref q9, .int 0, .int 0])), (q1, .inr (3, [.ref v_2, .int 0, .int 0, .int 0])), (v_2, .inl (dA 2, 16, .inl (fun _ => 0))), (q3, .inr (3, [.ref v_4, .int 0, .int 0, .int 0])), (v_4, .inl (dA 2, 16, .inl (fun _ => 0))), (q5, .inr (1, [.ref a1_6, .int 0, .ref a2_7, .int 0, .ref a3_8, .int 0])), (a1_6, .inl (dA 5, 200, .inr (.inr (.inr (.inr (fun _ => none)))))), (a2_7, .inl (dA 5, 40, .inr (.inr (.inr (.inr (fun _ => none)))))), (a3_8, .inl (dA 5, 40, .inr (.inr (.inr (.inr (fun _ => none)))))), (q9, .inl (dA 0, 40, .inl (fun _ => 0)))] H := hP
  have hD : va_D A [(h, .inr (0, [.ref q1, .ref q3, .ref q5, .ref q9, .int 0, .int 0])), (q1, .inr (3, [.ref v_2, .int 0, .int 0, .int 0])), (v_2, .inl (dA 2, 16, .inl (fun _ => 0))), (q3, .inr (3, [.ref v_4, .int 0, .int 0, .int 0])), (v_4, .inl (dA 2, 16, .inl (fun _ => 0))), (q5, .inr (1, [.ref a1_6, .int 0, .ref a2_7, .int 0, .ref a3_8, .int 0])), (a1_6, .inl (dA 5, 200, .inr (.inr (.inr (.inr (fun _ => none)))))), (a2_7, .inl (dA 5, 40, .inr (.inr (.inr (.inr (fun _ => none)))))), (a3_8, .inl (dA 5, 40, .inr (.inr (.inr (.inr (fun _ => none)))))), (q9, .inl (dA 0, 40, .inl (fun _ => 0)))] := hD
  exact ms_vret X d39_55 hP hD hS (Nat.le_of_ble_eq_true rfl) (Nat.le_of_ble_eq_true rfl) (⟨(fun k => ([q1, v_2, q3, v_4, q5, a1_6, a2_7, a3_8, q9] : List Nat).getD k 0), rfl, rfl⟩)

set_option maxRecDepth 100000 in
set_option maxHeartbeats 8000000 in
theorem c_useBuf (l : Launch) (D : va_G) (dA : Nat → ClassId) (s0 : State) (hE : ms_EV D dA s0) (h : Nat) (r : Nat → Nat) : ms_C l D s0 yM40 bM40 2 (Option.some (Jvm.ClassFile.FieldType.object "java/lang/String")) 6 211 2 4 [.ref h] [(h, .inr (0, [.ref (r 0), .ref (r 2), .ref (r 4), .ref (r 8), .int 0, .int 0])), ((r 0), .inr (3, [.ref (r 1), .int 0, .int 0, .int 0])), ((r 1), .inl (dA 2, 16, .inl (fun _ => 0)))] (fun vv ww => ∃ (t : Nat) (u : Nat) (g : Nat → Int32), vv = some (.ref t) ∧ ww = [(h, .inr (0, [.ref (r 0), .ref (r 2), .ref (r 4), .ref (r 8), .int 0, .int 0])), ((r 0), .inr (3, [.ref (r 1), .int 0, .int 0, .int 0])), ((r 1), .inl (dA 2, 16, .inl (fun _ => 0))), (t, .inr (5, [.ref u, .int 0, .int 0, .int 0])), (u, .inl (dA 2, 0, .inl g))]) := by
  refine ms_C.mk hE.1 (by decide) (Nat.le_of_ble_eq_true rfl) [(0, .ref h)] rfl ?_
  intro p e s m below meth c A ls X hin hP hD hS hl
  have hx := X.1
  have hb := X.2.1
  have hml := X.2.2.1
  have hown : s.vm.findClass "MarkupStore" = some m.cls := X.2.2.2.1
  have hts := X.2.2.2.2.2.2.1
  have hK := X.2.2.2.2.2.2.2.2.1
  have hA := X.2.2.2.2.2.2.2.2.2.2
  refine lv_aload_n hx hb d40_0 rfl (lv_at hl 0 rfl) ?_
  refine va_get (D := D) (ci := 0) (v := .ref (r 0)) (C := kR0) (T := kT0) (N := 6) hx hb hts ku0 hown hK hP 0 rfl rfl 0 (by decide) (hts _ ms_k105) (fun _ h => h) rfl d40_1 ?_
  refine ms_V (C := "java/lang/StringBuilder") (rest := []) (as := []) (wr := [(h, .inr (0, [.ref (r 0), .ref (r 2), .ref (r 4), .ref (r 8), .int 0, .int 0]))]) X hl (c_toStr l D dA s0 hE (r 0) (r 1) (fun _ => 0)) (List.forall_mem_cons.mpr ⟨ms_k241, List.forall_mem_cons.mpr ⟨ms_k242, List.forall_mem_cons.mpr ⟨ms_k243, List.forall_mem_cons.mpr ⟨ms_k3, List.forall_mem_cons.mpr ⟨ms_k244, fun _ h => absurd h List.not_mem_nil⟩⟩⟩⟩⟩) ⟨rfl, by decide +kernel, by decide +kernel, (by decide +kernel : (parseMethodDescriptor "()Ljava/lang/String;").map (fun d => d.parameters.length) = some 0)⟩ (va_recv hK hP rfl (q0 := 1) rfl) hP hD hS [1, 2] [0] rfl rfl ⟨by decide, by decide, by decide⟩ ⟨⟨Nat.le_of_ble_eq_true rfl, Nat.le_of_ble_eq_true rfl⟩, Nat.le_of_ble_eq_true rfl, Nat.le_of_ble_eq_true rfl⟩ rfl (Nat.le_of_ble_eq_true rfl) d40_4 (fun vv ww H locs hR hP hD hS => ?_)
  obtain ⟨t_1, u_2, g_3, rfl, rfl⟩ := hR
  have hP : va_P D vwCl [(h, .inr (0, [.ref (r 0), .ref (r 2), .ref (r 4), .ref (r 8), .int 0, .int 0])), ((r 0), .inr (3, [.ref (r 1), .int 0, .int 0, .int 0])), ((r 1), .inl (dA 2, 16, .inl (fun _ => 0))), (t_1, .inr (5, [.ref u_2, .int 0, .int 0, .int 0])), (u_2, .inl (dA 2, 0, .inl g_3))] H := hP
  have hD : va_D A [(h, .inr (0, [.ref (r 0), .ref (r 2), .ref (r 4), .ref (r 8), .int 0, .int 0])), ((r 0), .inr (3, [.ref (r 1), .int 0, .int 0, .int 0])), ((r 1), .inl (dA 2, 16, .inl (fun _ => 0))), (t_1, .inr (5, [.ref u_2, .int 0, .int 0, .int 0])), (u_2, .inl (dA 2, 0, .inl g_3))] := hD
  refine W.eq (g2 := F0 m 7 ls [.ref t_1]) rfl ?_
  refine lv_astore_n hx hb d40_7 rfl hl (by decide) rfl (fun ls hl => ?_)
  have hl : lv_has ls 2 [(1, .ref t_1), (0, .ref h)] := hl
  refine lv_aload_n hx hb d40_8 rfl (lv_at hl 1 rfl) ?_
  refine va_get (D := D) (ci := 0) (v := .ref (r 0)) (C := kR0) (T := kT0) (N := 6) hx hb hts ku0 hown hK hP 0 rfl rfl 0 (by decide) (hts _ ms_k105) (fun _ h => h) rfl d40_9 ?_
  refine lv_iconst (v := 0) hx hb d40_12 (by decide) ?_
  refine ms_V (C := "java/lang/StringBuilder") (rest := []) (as := [.int 0]) (wr := [(h, .inr (0, [.ref (r 0), .ref (r 2), .ref (r 4), .ref (r 8), .int 0, .int 0])), (t_1, .inr (5, [.ref u_2, .int 0, .int 0, .int 0])), (u_2, .inl (dA 2, 0, .inl g_3))]) X hl (c_SBset l D dA s0 hE (r 0) (r 1) (fun _ => 0)) (List.forall_mem_cons.mpr ⟨ms_k295, List.forall_mem_cons.mpr ⟨ms_k296, List.forall_mem_cons.mpr ⟨ms_k297, List.forall_mem_cons.mpr ⟨ms_k3, List.forall_mem_cons.mpr ⟨ms_k298, fun _ h => absurd h List.not_mem_nil⟩⟩⟩⟩⟩) ⟨rfl, by decide +kernel, by decide +kernel, (by decide +kernel : (parseMethodDescriptor "(I)V").map (fun d => d.parameters.length) = some 1)⟩ (va_recv hK hP rfl (q0 := 1) rfl) hP hD hS [1, 2] [0, 3, 4] rfl rfl ⟨by decide, by decide, by decide⟩ ⟨⟨Nat.le_of_ble_eq_true rfl, Nat.le_of_ble_eq_true rfl⟩, Nat.le_of_ble_eq_true rfl, Nat.le_of_ble_eq_true rfl⟩ rfl (Nat.le_of_ble_eq_true rfl) d40_13 (fun vv ww H locs hR hP hD hS => ?_)
  obtain ⟨rfl, rfl⟩ := hR
  have hP : va_P D vwCl [(h, .inr (0, [.ref (r 0), .ref (r 2), .ref (r 4), .ref (r 8), .int 0, .int 0])), (t_1, .inr (5, [.ref u_2, .int 0, .int 0, .int 0])), (u_2, .inl (dA 2, 0, .inl g_3)), ((r 0), .inr (3, [.ref (r 1), .int 0, .int 0, .int 0])), ((r 1), .inl (dA 2, 16, .inl (fun _ => 0)))] H := hP
  have hD : va_D A [(h, .inr (0, [.ref (r 0), .ref (r 2), .ref (r 4), .ref (r 8), .int 0, .int 0])), (t_1, .inr (5, [.ref u_2, .int 0, .int 0, .int 0])), (u_2, .inl (dA 2, 0, .inl g_3)), ((r 0), .inr (3, [.ref (r 1), .int 0, .int 0, .int 0])), ((r 1), .inl (dA 2, 16, .inl (fun _ => 0)))] := hD
  refine W.eq (g2 := F0 m 16 ls []) rfl ?_
  refine lv_aload_n hx hb d40_16 rfl (lv_at hl 0 rfl) ?_
  have hP := hP.sub (ws' := [(h, .inr (0, [.ref (r 0), .ref (r 2), .ref (r 4), .ref (r 8), .int 0, .int 0])), ((r 0), .inr (3, [.ref (r 1), .int 0, .int 0, .int 0])), ((r 1), .inl (dA 2, 16, .inl (fun _ => 0))), (t_1, .inr (5, [.ref u_2, .int 0, .int 0, .int 0])), (u_2, .inl (dA 2, 0, .inl g_3))]) [0, 3, 4, 1, 2] rfl
  have hD := hD.sub (ws' := [(h, .inr (0, [.ref (r 0), .ref (r 2), .ref (r 4), .ref (r 8), .int 0, .int 0])), ((r 0), .inr (3, [.ref (r 1), .int 0, .int 0, .int 0])), ((r 1), .inl (dA 2, 16, .inl (fun _ => 0))), (t_1, .inr (5, [.ref u_2, .int 0, .int 0, .int 0])), (u_2, .inl (dA 2, 0, .inl g_3))]) [0, 3, 4, 1, 2] (by decide) rfl
  exact ms_aret X d40_17 hP hD hS (Nat.le_of_ble_eq_true rfl) (Nat.le_of_ble_eq_true rfl) (⟨t_1, u_2, g_3, rfl, rfl⟩) (Or.inl ⟨_, rfl⟩) (Or.inr ⟨_, rfl⟩)

set_option maxRecDepth 100000 in
set_option maxHeartbeats 8000000 in
theorem c_beginB (l : Launch) (D : va_G) (dA : Nat → ClassId) (s0 : State) (hE : ms_EV D dA s0) (h : Nat) (r : Nat → Nat) : ms_C l D s0 yM41 bM41 1 (Option.none : Option Jvm.ClassFile.FieldType) 1 21 0 0 [.ref h] [(h, .inr (0, [.ref (r 0), .ref (r 2), .ref (r 4), .ref (r 8), .int 0, .int 0])), ((r 4), .inr (1, [.ref (r 5), .int 0, .ref (r 6), .int 0, .ref (r 7), .int 0]))] (fun vv ww => vv = none ∧ ww = [(h, .inr (0, [.ref (r 0), .ref (r 2), .ref (r 4), .ref (r 8), .int 0, .int 0])), ((r 4), .inr (1, [.ref (r 5), .int 0, .ref (r 6), .int 0, .ref (r 7), .int 0]))]) := by
  refine ms_C.mk hE.1 (by decide) (Nat.le_of_ble_eq_true rfl) [(0, .ref h)] rfl ?_
  intro p e s m below meth c A ls X hin hP hD hS hl
  have hx := X.1
  have hb := X.2.1
  have hml := X.2.2.1
  have hown : s.vm.findClass "MarkupStore" = some m.cls := X.2.2.2.1
  have hts := X.2.2.2.2.2.2.1
  have hK := X.2.2.2.2.2.2.2.2.1
  have hA := X.2.2.2.2.2.2.2.2.2.2
  refine lv_aload_n hx hb d41_0 rfl (lv_at hl 0 rfl) ?_
  refine va_get (D := D) (ci := 0) (v := .ref (r 4)) (C := kR0) (T := kT0) (N := 6) hx hb hts ku0 hown hK hP 0 rfl rfl 2 (by decide) (hts _ ms_k107) (fun _ h => h) rfl d41_1 ?_
  refine ms_V (C := "MarkupStore$Tree") (rest := []) (as := []) (wr := [(h, .inr (0, [.ref (r 0), .ref (r 2), .ref (r 4), .ref (r 8), .int 0, .int 0]))]) X hl (c_keep l D dA s0 hE (r 4) (r 5) (r 6) (r 7)) (List.forall_mem_cons.mpr ⟨ms_k737, List.forall_mem_cons.mpr ⟨ms_k738, List.forall_mem_cons.mpr ⟨ms_k739, List.forall_mem_cons.mpr ⟨ms_k6, List.forall_mem_cons.mpr ⟨ms_k740, fun _ h => absurd h List.not_mem_nil⟩⟩⟩⟩⟩) ⟨rfl, by decide +kernel, by decide +kernel, (by decide +kernel : (parseMethodDescriptor "()V").map (fun d => d.parameters.length) = some 0)⟩ (va_recv hK hP rfl (q0 := 1) rfl) hP hD hS [1] [0] rfl rfl ⟨by decide, by decide, by decide⟩ ⟨⟨Nat.le_of_ble_eq_true rfl, Nat.le_of_ble_eq_true rfl⟩, Nat.le_of_ble_eq_true rfl, Nat.le_of_ble_eq_true rfl⟩ rfl (Nat.le_of_ble_eq_true rfl) d41_4 (fun vv ww H locs hR hP hD hS => ?_)
  obtain ⟨rfl, rfl⟩ := hR
  have hP : va_P D vwCl [(h, .inr (0, [.ref (r 0), .ref (r 2), .ref (r 4), .ref (r 8), .int 0, .int 0])), ((r 4), .inr (1, [.ref (r 5), .int 0, .ref (r 6), .int 0, .ref (r 7), .int 0]))] H := hP
  have hD : va_D A [(h, .inr (0, [.ref (r 0), .ref (r 2), .ref (r 4), .ref (r 8), .int 0, .int 0])), ((r 4), .inr (1, [.ref (r 5), .int 0, .ref (r 6), .int 0, .ref (r 7), .int 0]))] := hD
  refine W.eq (g2 := F0 m 7 ls []) rfl ?_
  refine lv_aload_n hx hb d41_7 rfl (lv_at hl 0 rfl) ?_
  refine lv_iconst (v := 0) hx hb d41_8 (by decide) ?_
  refine va_put (D := D) (ci := 0) (v := .int 0) (ty := .int) (C := kR0) (T := kT0) (N := 6) hx hb hts ku0 kt0 kp0 kn0 hown hK hP hD hS 0 rfl rfl 5 (by decide) (hts _ ms_k110) (fun _ h => h) rfl (by decide +kernel) rfl rfl (Nat.le_of_ble_eq_true rfl) d41_9 (fun H locs hP hD hS => ?_)
  have hP : va_P D vwCl [(h, .inr (0, [.ref (r 0), .ref (r 2), .ref (r 4), .ref (r 8), .int 0, .int 0])), ((r 4), .inr (1, [.ref (r 5), .int 0, .ref (r 6), .int 0, .ref (r 7), .int 0]))] H := hP
  have hD : va_D A [(h, .inr (0, [.ref (r 0), .ref (r 2), .ref (r 4), .ref (r 8), .int 0, .int 0])), ((r 4), .inr (1, [.ref (r 5), .int 0, .ref (r 6), .int 0, .ref (r 7), .int 0]))] := hD
  exact ms_vret X d41_12 hP hD hS (Nat.le_of_ble_eq_true rfl) (Nat.le_of_ble_eq_true rfl) (⟨rfl, rfl⟩)

set_option maxRecDepth 100000 in
set_option maxHeartbeats 8000000 in
theorem c_type (l : Launch) (D : va_G) (dA : Nat → ClassId) (s0 : State) (hE : ms_EV D dA s0) (h : Nat) (r : Nat → Nat) (z : Int32) : ms_C l D s0 yM42 bM42 2 (Option.some Jvm.ClassFile.FieldType.boolean) 3 64 0 0 [.ref h, .int z] [(h, .inr (0, [.ref (r 0), .ref (r 2), .ref (r 4), .ref (r 8), .int 0, .int 0])), ((r 0), .inr (3, [.ref (r 1), .int 0, .int 0, .int 0])), ((r 1), .inl (dA 2, 16, .inl (fun _ => 0)))] (fun vv _ => vv = some (.int (ms_ty z))) := by
  refine ms_C.mk hE.1 (by decide) (Nat.le_of_ble_eq_true rfl) [(0, .ref h), (1, .int z)] rfl ?_
  intro p e s m below meth c A ls X hin hP hD hS hl
  have hx := X.1
  have hb := X.2.1
  have hml := X.2.2.1
  have hown : s.vm.findClass "MarkupStore" = some m.cls := X.2.2.2.1
  have hts := X.2.2.2.2.2.2.1
  have hK := X.2.2.2.2.2.2.2.2.1
  have hA := X.2.2.2.2.2.2.2.2.2.2
  refine lv_iload_n hx hb d42_0 rfl (lv_at hl 1 rfl) ?_
  refine lv_bipush (v := 32) hx hb d42_1 (by decide) ?_
  refine lv_icmp_lt hx hb d42_3 rfl (fun h1 => ?_) (fun h1 => ?_)
  · refine lv_iconst (v := 0) hx hb d42_24 (by decide) ?_
    exact ms_zret X d42_25 hP hD hS (Nat.le_of_ble_eq_true rfl) (Nat.le_of_ble_eq_true rfl) (by simp [ms_ty, h1]) (rfl)
  · refine lv_iload_n hx hb d42_6 rfl (lv_at hl 1 rfl) ?_
    refine lv_bipush (v := 126) hx hb d42_7 (by decide) ?_
    refine lv_icmp_gt hx hb d42_9 rfl (fun h2 => ?_) (fun h2 => ?_)
    · refine lv_iconst (v := 0) hx hb d42_24 (by decide) ?_
      exact ms_zret X d42_25 hP hD hS (Nat.le_of_ble_eq_true rfl) (Nat.le_of_ble_eq_true rfl) (by simp [ms_ty, h1, h2]) (rfl)
    · refine lv_aload_n hx hb d42_12 rfl (lv_at hl 0 rfl) ?_
      refine va_get (D := D) (ci := 0) (v := .ref (r 0)) (C := kR0) (T := kT0) (N := 6) hx hb hts ku0 hown hK hP 0 rfl rfl 0 (by decide) (hts _ ms_k105) (fun _ h => h) rfl d42_13 ?_
      refine ms_V (C := "java/lang/StringBuilder") (rest := []) (as := []) (wr := [(h, .inr (0, [.ref (r 0), .ref (r 2), .ref (r 4), .ref (r 8), .int 0, .int 0])), ((r 1), .inl (dA 2, 16, .inl (fun _ => 0)))]) X hl (c_SBlen l D dA s0 hE (r 0) (r 1) 0) (List.forall_mem_cons.mpr ⟨ms_k129, List.forall_mem_cons.mpr ⟨ms_k130, List.forall_mem_cons.mpr ⟨ms_k131, List.forall_mem_cons.mpr ⟨ms_k3, List.forall_mem_cons.mpr ⟨ms_k132, fun _ h => absurd h List.not_mem_nil⟩⟩⟩⟩⟩) ⟨rfl, by decide +kernel, by decide +kernel, (by decide +kernel : (parseMethodDescriptor "()I").map (fun d => d.parameters.length) = some 0)⟩ (va_recv hK hP rfl (q0 := 1) rfl) hP hD hS [1] [0, 2] rfl rfl ⟨by decide, by decide, by decide⟩ ⟨⟨Nat.le_of_ble_eq_true rfl, Nat.le_of_ble_eq_true rfl⟩, Nat.le_of_ble_eq_true rfl, Nat.le_of_ble_eq_true rfl⟩ rfl (Nat.le_of_ble_eq_true rfl) d42_16 (fun vv ww H locs hR hP hD hS => ?_)
      obtain ⟨rfl, rfl⟩ := hR
      have hP : va_P D vwCl [(h, .inr (0, [.ref (r 0), .ref (r 2), .ref (r 4), .ref (r 8), .int 0, .int 0])), ((r 1), .inl (dA 2, 16, .inl (fun _ => 0))), ((r 0), .inr (3, [.ref (r 1), .int 0, .int 0, .int 0]))] H := hP
      have hD : va_D A [(h, .inr (0, [.ref (r 0), .ref (r 2), .ref (r 4), .ref (r 8), .int 0, .int 0])), ((r 1), .inl (dA 2, 16, .inl (fun _ => 0))), ((r 0), .inr (3, [.ref (r 1), .int 0, .int 0, .int 0]))] := hD
      refine W.eq (g2 := F0 m 19 ls [.int 0]) rfl ?_
      refine lv_bipush (v := 120) hx hb d42_19 (by decide) ?_
      refine lv_icmp_lt hx hb d42_21 rfl (fun _ => ?_) (fun h9 => absurd (by decide) h9)
      refine lv_aload_n hx hb d42_26 rfl (lv_at hl 0 rfl) ?_
      refine va_get (D := D) (ci := 0) (v := .ref (r 0)) (C := kR0) (T := kT0) (N := 6) hx hb hts ku0 hown hK hP 0 rfl rfl 0 (by decide) (hts _ ms_k105) (fun _ h => h) rfl d42_27 ?_
      refine lv_iload_n hx hb d42_30 rfl (lv_at hl 1 rfl) ?_
      refine ms_V (C := "java/lang/StringBuilder") (rest := []) (as := [.int z]) (wr := [(h, .inr (0, [.ref (r 0), .ref (r 2), .ref (r 4), .ref (r 8), .int 0, .int 0]))]) X hl (c_SBapp l D dA s0 hE (r 0) (r 1) (fun _ => 0) z (fun h9 => h2 (Int32.lt_trans (by decide) h9))) (List.forall_mem_cons.mpr ⟨ms_k136, List.forall_mem_cons.mpr ⟨ms_k137, List.forall_mem_cons.mpr ⟨ms_k138, List.forall_mem_cons.mpr ⟨ms_k3, List.forall_mem_cons.mpr ⟨ms_k139, fun _ h => absurd h List.not_mem_nil⟩⟩⟩⟩⟩) ⟨rfl, by decide +kernel, by decide +kernel, (by decide +kernel : (parseMethodDescriptor "(C)Ljava/lang/StringBuilder;").map (fun d => d.parameters.length) = some 1)⟩ (va_recv hK hP rfl (q0 := 2) rfl) hP hD hS [2, 1] [0] rfl rfl ⟨by decide, by decide, by decide⟩ ⟨⟨Nat.le_of_ble_eq_true rfl, Nat.le_of_ble_eq_true rfl⟩, Nat.le_of_ble_eq_true rfl, Nat.le_of_ble_eq_true rfl⟩ rfl (Nat.le_of_ble_eq_true rfl) d42_31 (fun vv ww H locs hR hP hD hS => ?_)
      cases hR
      have hP : va_P D vwCl ([(h, .inr (0, [.ref (r 0), .ref (r 2), .ref (r 4), .ref (r 8), .int 0, .int 0]))] ++ ww) H := hP
      have hD : va_D A ([(h, .inr (0, [.ref (r 0), .ref (r 2), .ref (r 4), .ref (r 8), .int 0, .int 0]))] ++ ww) := hD
      refine W.eq (g2 := F0 m 34 ls [.ref (r 0)]) rfl ?_
      refine lv_pop hx hb d42_34 rfl ?_
      refine lv_iconst (v := 1) hx hb d42_35 (by decide) ?_
      exact ms_zret X d42_36 hP hD hS (Nat.le_of_ble_eq_true rfl) (Nat.le_of_ble_eq_true rfl) (by simp [ms_ty, h1, h2]) (rfl)

set_option maxRecDepth 100000 in
set_option maxHeartbeats 8000000 in
theorem c_load (l : Launch) (D : va_G) (dA : Nat → ClassId) (s0 : State) (hE : ms_EV D dA s0) (h : Nat) (r : Nat → Nat) : ms_C l D s0 yM43 bM43 3 (Option.some Jvm.ClassFile.FieldType.int) 7 232 4 13 [.ref h] [(h, .inr (0, [.ref (r 0), .ref (r 2), .ref (r 4), .ref (r 8), .int 0, .int 0])), ((r 0), .inr (3, [.ref (r 1), .int 0, .int 0, .int 0])), ((r 1), .inl (dA 2, 16, .inl (fun _ => 0)))] (fun vv _ => vv = some (.int (-1))) := by
  refine ms_C.mk hE.1 (by decide) (Nat.le_of_ble_eq_true rfl) [(0, .ref h)] rfl ?_
  intro p e s m below meth c A ls X hin hP hD hS hl
  have hx := X.1
  have hb := X.2.1
  have hml := X.2.2.1
  have hown : s.vm.findClass "MarkupStore" = some m.cls := X.2.2.2.1
  have hts := X.2.2.2.2.2.2.1
  have hK := X.2.2.2.2.2.2.2.2.1
  have hA := X.2.2.2.2.2.2.2.2.2.2
  refine va_new (ci := 6) (fs := [.null, .int 0, .int 0, .null, .null, .int 0]) (C := kR6) (T := kT6) (N := 6) hx hb hts ku6 kt6 kp6 hown (hts _ ms_k235) (hts _ ms_k236) (hts _ ms_k15) hK hP hD hS hA rfl kz6 (Nat.le_of_ble_eq_true rfl) (Nat.le_of_ble_eq_true rfl) d43_0 (fun q1 H hP hD hS => ?_)
  have hP : va_P D vwCl [(h, .inr (0, [.ref (r 0), .ref (r 2), .ref (r 4), .ref (r 8), .int 0, .int 0])), ((r 0), .inr (3, [.ref (r 1), .int 0, .int 0, .int 0])), ((r 1), .inl (dA 2, 16, .inl (fun _ => 0))), (q1, .inr (6, [.null, .int 0, .int 0, .null, .null, .int 0]))] H := hP
  have hD : va_D A [(h, .inr (0, [.ref (r 0), .ref (r 2), .ref (r 4), .ref (r 8), .int 0, .int 0])), ((r 0), .inr (3, [.ref (r 1), .int 0, .int 0, .int 0])), ((r 1), .inl (dA 2, 16, .inl (fun _ => 0))), (q1, .inr (6, [.null, .int 0, .int 0, .null, .null, .int 0]))] := hD
  refine lv_dup hx hb d43_3 rfl ?_
  refine lv_aload_n hx hb d43_4 rfl (lv_at hl 0 rfl) ?_
  refine ms_V (C := "MarkupStore") (rest := [.ref q1, .ref q1]) (as := []) (wr := [(q1, .inr (6, [.null, .int 0, .int 0, .null, .null, .int 0]))]) X hl (c_useBuf l D dA s0 hE h r) (List.forall_mem_cons.mpr ⟨ms_k237, List.forall_mem_cons.mpr ⟨ms_k239, List.forall_mem_cons.mpr ⟨ms_p0, List.forall_mem_cons.mpr ⟨ms_k1, List.forall_mem_cons.mpr ⟨ms_k240, fun _ h => absurd h List.not_mem_nil⟩⟩⟩⟩⟩) ⟨rfl, by decide +kernel, by decide +kernel, (by decide +kernel : (parseMethodDescriptor "()Ljava/lang/String;").map (fun d => d.parameters.length) = some 0)⟩ (va_recv hK hP rfl (q0 := 0) rfl) hP hD hS [0, 1, 2] [3] rfl rfl ⟨by decide, by decide, by decide⟩ ⟨⟨Nat.le_of_ble_eq_true rfl, Nat.le_of_ble_eq_true rfl⟩, Nat.le_of_ble_eq_true rfl, Nat.le_of_ble_eq_true rfl⟩ rfl (Nat.le_of_ble_eq_true rfl) d43_5 (fun vv ww H locs hR hP hD hS => ?_)
  obtain ⟨t_2, u_3, g_4, rfl, rfl⟩ := hR
  have hP : va_P D vwCl [(q1, .inr (6, [.null, .int 0, .int 0, .null, .null, .int 0])), (h, .inr (0, [.ref (r 0), .ref (r 2), .ref (r 4), .ref (r 8), .int 0, .int 0])), ((r 0), .inr (3, [.ref (r 1), .int 0, .int 0, .int 0])), ((r 1), .inl (dA 2, 16, .inl (fun _ => 0))), (t_2, .inr (5, [.ref u_3, .int 0, .int 0, .int 0])), (u_3, .inl (dA 2, 0, .inl g_4))] H := hP
  have hD : va_D A [(q1, .inr (6, [.null, .int 0, .int 0, .null, .null, .int 0])), (h, .inr (0, [.ref (r 0), .ref (r 2), .ref (r 4), .ref (r 8), .int 0, .int 0])), ((r 0), .inr (3, [.ref (r 1), .int 0, .int 0, .int 0])), ((r 1), .inl (dA 2, 16, .inl (fun _ => 0))), (t_2, .inr (5, [.ref u_3, .int 0, .int 0, .int 0])), (u_3, .inl (dA 2, 0, .inl g_4))] := hD
  refine W.eq (g2 := F0 m 8 ls [.ref t_2, .ref q1, .ref q1]) rfl ?_
  refine lv_aload_n hx hb d43_8 rfl (lv_at hl 0 rfl) ?_
  refine va_get (D := D) (ci := 0) (v := .ref (r 2)) (C := kR0) (T := kT0) (N := 6) hx hb hts ku0 hown hK hP 1 rfl rfl 1 (by decide) (hts _ ms_k106) (fun _ h => h) rfl d43_9 ?_
  refine ms_I (rest := [.ref q1]) (as := [.ref t_2, .ref (r 2)]) (wr := [(h, .inr (0, [.ref (r 0), .ref (r 2), .ref (r 4), .ref (r 8), .int 0, .int 0])), ((r 0), .inr (3, [.ref (r 1), .int 0, .int 0, .int 0])), ((r 1), .inl (dA 2, 16, .inl (fun _ => 0))), (t_2, .inr (5, [.ref u_3, .int 0, .int 0, .int 0])), (u_3, .inl (dA 2, 0, .inl g_4))]) X hl (c_MRinit l D dA s0 hE q1 t_2 (r 2)) (List.forall_mem_cons.mpr ⟨ms_k315, List.forall_mem_cons.mpr ⟨ms_k316, List.forall_mem_cons.mpr ⟨ms_k15, List.forall_mem_cons.mpr ⟨ms_k317, fun _ h => absurd h List.not_mem_nil⟩⟩⟩⟩) rfl ⟨by decide +kernel, by decide +kernel, (by decide +kernel : (parseMethodDescriptor "(Ljava/lang/String;Ljava/lang/StringBuilder;)V").map (fun d => d.parameters.length) = some 2)⟩ hP hD hS [0] [1, 2, 3, 4, 5] rfl rfl ⟨by decide, by decide, by decide⟩ ⟨⟨Nat.le_of_ble_eq_true rfl, Nat.le_of_ble_eq_true rfl⟩, Nat.le_of_ble_eq_true rfl, Nat.le_of_ble_eq_true rfl⟩ rfl (Nat.le_of_ble_eq_true rfl) d43_12 (fun vv ww H locs hR hP hD hS => ?_)
  obtain ⟨a_5, b_6, rfl, rfl⟩ := hR
  have hP : va_P D vwCl [(h, .inr (0, [.ref (r 0), .ref (r 2), .ref (r 4), .ref (r 8), .int 0, .int 0])), ((r 0), .inr (3, [.ref (r 1), .int 0, .int 0, .int 0])), ((r 1), .inl (dA 2, 16, .inl (fun _ => 0))), (t_2, .inr (5, [.ref u_3, .int 0, .int 0, .int 0])), (u_3, .inl (dA 2, 0, .inl g_4)), (q1, .inr (6, [.ref t_2, .int 0, .int (-1), .ref b_6, .ref (r 2), .int 0])), (b_6, .inr (4, [.int 0, .ref a_5, .int 0]))] H := hP
  have hD : va_D A [(h, .inr (0, [.ref (r 0), .ref (r 2), .ref (r 4), .ref (r 8), .int 0, .int 0])), ((r 0), .inr (3, [.ref (r 1), .int 0, .int 0, .int 0])), ((r 1), .inl (dA 2, 16, .inl (fun _ => 0))), (t_2, .inr (5, [.ref u_3, .int 0, .int 0, .int 0])), (u_3, .inl (dA 2, 0, .inl g_4)), (q1, .inr (6, [.ref t_2, .int 0, .int (-1), .ref b_6, .ref (r 2), .int 0])), (b_6, .inr (4, [.int 0, .ref a_5, .int 0]))] := hD
  refine W.eq (g2 := F0 m 15 ls [.ref q1]) rfl ?_
  refine lv_astore_n hx hb d43_15 rfl hl (by decide) rfl (fun ls hl => ?_)
  have hl : lv_has ls 3 [(1, .ref q1), (0, .ref h)] := hl
  refine lv_aload_n hx hb d43_16 rfl (lv_at hl 0 rfl) ?_
  refine ms_V (C := "MarkupStore$MarkupReader") (rest := []) (as := []) (wr := [(h, .inr (0, [.ref (r 0), .ref (r 2), .ref (r 4), .ref (r 8), .int 0, .int 0])), ((r 0), .inr (3, [.ref (r 1), .int 0, .int 0, .int 0])), ((r 1), .inl (dA 2, 16, .inl (fun _ => 0))), (b_6, .inr (4, [.int 0, .ref a_5, .int 0]))]) X hl (c_readDoc l D dA s0 hE q1 t_2 b_6 (r 2) u_3 g_4) (List.forall_mem_cons.mpr ⟨ms_k380, List.forall_mem_cons.mpr ⟨ms_k381, List.forall_mem_cons.mpr ⟨ms_k382, List.forall_mem_cons.mpr ⟨ms_k15, List.forall_mem_cons.mpr ⟨ms_k383, fun _ h => absurd h List.not_mem_nil⟩⟩⟩⟩⟩) ⟨rfl, by decide +kernel, by decide +kernel, (by decide +kernel : (parseMethodDescriptor "()Z").map (fun d => d.parameters.length) = some 0)⟩ (va_recv hK hP rfl (q0 := 5) rfl) hP hD hS [5, 3, 4] [0, 1, 2, 6] rfl rfl ⟨by decide, by decide, by decide⟩ ⟨⟨Nat.le_of_ble_eq_true rfl, Nat.le_of_ble_eq_true rfl⟩, Nat.le_of_ble_eq_true rfl, Nat.le_of_ble_eq_true rfl⟩ rfl (Nat.le_of_ble_eq_true rfl) d43_17 (fun vv ww H locs hR hP hD hS => ?_)
  obtain ⟨rfl, rfl⟩ := hR
  have hP : va_P D vwCl [(h, .inr (0, [.ref (r 0), .ref (r 2), .ref (r 4), .ref (r 8), .int 0, .int 0])), ((r 0), .inr (3, [.ref (r 1), .int 0, .int 0, .int 0])), ((r 1), .inl (dA 2, 16, .inl (fun _ => 0))), (b_6, .inr (4, [.int 0, .ref a_5, .int 0])), (q1, .inr (6, [.ref t_2, .int 0, .int 0, .ref b_6, .ref (r 2), .int 0])), (t_2, .inr (5, [.ref u_3, .int 0, .int 0, .int 0])), (u_3, .inl (dA 2, 0, .inl g_4))] H := hP
  have hD : va_D A [(h, .inr (0, [.ref (r 0), .ref (r 2), .ref (r 4), .ref (r 8), .int 0, .int 0])), ((r 0), .inr (3, [.ref (r 1), .int 0, .int 0, .int 0])), ((r 1), .inl (dA 2, 16, .inl (fun _ => 0))), (b_6, .inr (4, [.int 0, .ref a_5, .int 0])), (q1, .inr (6, [.ref t_2, .int 0, .int 0, .ref b_6, .ref (r 2), .int 0])), (t_2, .inr (5, [.ref u_3, .int 0, .int 0, .int 0])), (u_3, .inl (dA 2, 0, .inl g_4))] := hD
  refine W.eq (g2 := F0 m 20 ls [.int 0]) rfl ?_
  refine lv_pop hx hb d43_20 rfl ?_
  refine lv_aload_n hx hb d43_21 rfl (lv_at hl 0 rfl) ?_
  refine ms_U (C := "MarkupStore$MarkupReader") (x := ⟨"MarkupStore$MarkupReader", "failed", "()Z"⟩) (owner := "MarkupStore$TextReader") (rest := []) (as := []) (wr := [(h, .inr (0, [.ref (r 0), .ref (r 2), .ref (r 4), .ref (r 8), .int 0, .int 0])), ((r 0), .inr (3, [.ref (r 1), .int 0, .int 0, .int 0])), ((r 1), .inl (dA 2, 16, .inl (fun _ => 0))), (b_6, .inr (4, [.int 0, .ref a_5, .int 0])), (t_2, .inr (5, [.ref u_3, .int 0, .int 0, .int 0])), (u_3, .inl (dA 2, 0, .inl g_4))]) X hl (c_failed l D dA s0 hE q1 t_2 b_6 (r 2)) (List.forall_mem_cons.mpr ⟨ms_k704, List.forall_mem_cons.mpr ⟨ms_k585, List.forall_mem_cons.mpr ⟨ms_k587, List.forall_mem_cons.mpr ⟨ms_k588, List.forall_mem_cons.mpr ⟨ms_k14, List.forall_mem_cons.mpr ⟨ms_k589, fun _ h => absurd h List.not_mem_nil⟩⟩⟩⟩⟩⟩) rfl ⟨by decide +kernel, by decide +kernel, (by decide +kernel : (parseMethodDescriptor "()Z").map (fun d => d.parameters.length) = some 0)⟩ (va_recv hK hP rfl (q0 := 4) rfl) hP hD hS [4] [0, 1, 2, 3, 5, 6] rfl rfl ⟨by decide, by decide, by decide⟩ ⟨⟨Nat.le_of_ble_eq_true rfl, Nat.le_of_ble_eq_true rfl⟩, Nat.le_of_ble_eq_true rfl, Nat.le_of_ble_eq_true rfl⟩ rfl (Nat.le_of_ble_eq_true rfl) d43_22 (fun vv ww H locs hR hP hD hS => ?_)
  obtain ⟨rfl, rfl⟩ := hR
  have hP : va_P D vwCl [(h, .inr (0, [.ref (r 0), .ref (r 2), .ref (r 4), .ref (r 8), .int 0, .int 0])), ((r 0), .inr (3, [.ref (r 1), .int 0, .int 0, .int 0])), ((r 1), .inl (dA 2, 16, .inl (fun _ => 0))), (b_6, .inr (4, [.int 0, .ref a_5, .int 0])), (t_2, .inr (5, [.ref u_3, .int 0, .int 0, .int 0])), (u_3, .inl (dA 2, 0, .inl g_4)), (q1, .inr (6, [.ref t_2, .int 0, .int 0, .ref b_6, .ref (r 2), .int 0]))] H := hP
  have hD : va_D A [(h, .inr (0, [.ref (r 0), .ref (r 2), .ref (r 4), .ref (r 8), .int 0, .int 0])), ((r 0), .inr (3, [.ref (r 1), .int 0, .int 0, .int 0])), ((r 1), .inl (dA 2, 16, .inl (fun _ => 0))), (b_6, .inr (4, [.int 0, .ref a_5, .int 0])), (t_2, .inr (5, [.ref u_3, .int 0, .int 0, .int 0])), (u_3, .inl (dA 2, 0, .inl g_4)), (q1, .inr (6, [.ref t_2, .int 0, .int 0, .ref b_6, .ref (r 2), .int 0]))] := hD
  refine W.eq (g2 := F0 m 25 ls [.int 1]) rfl ?_
  refine lv_if_eq hx hb d43_25 rfl (fun h9 => absurd h9 (by decide)) (fun _ => ?_)
  refine lv_iconst (v := (-1)) hx hb d43_28 (by decide) ?_
  refine lv_aload_n hx hb d43_29 rfl (lv_at hl 0 rfl) ?_
  refine va_get (D := D) (ci := 6) (v := .int 0) (C := kR6) (T := kT6) (N := 6) hx hb hts ku6 hown hK hP 6 rfl rfl 2 (by decide) (hts _ ms_k363) (fun x9 h9 => u_same (hts _ ms_k364) x9 h9) rfl d43_30 ?_
  refine lv_isub hx hb d43_33 ?_
  refine ms_top (y := (-1)) (by decide) ?_
  exact ms_iret X d43_34 hP hD hS (Nat.le_of_ble_eq_true rfl) (Nat.le_of_ble_eq_true rfl) rfl

set_option maxRecDepth 100000 in
set_option maxHeartbeats 8000000 in
theorem c_insert (l : Launch) (D : va_G) (dA : Nat → ClassId) (s0 : State) (hE : ms_EV D dA s0) (h : Nat) (r : Nat → Nat) (i : Int32) (j : Int32) : ms_C l D s0 yM44 bM44 10 (Option.some Jvm.ClassFile.FieldType.int) 7 232 2 4 [.ref h, .int i, .int j] [(h, .inr (0, [.ref (r 0), .ref (r 2), .ref (r 4), .ref (r 8), .int 0, .int 0])), ((r 0), .inr (3, [.ref (r 1), .int 0, .int 0, .int 0])), ((r 1), .inl (dA 2, 16, .inl (fun _ => 0))), ((r 4), .inr (1, [.ref (r 5), .int 0, .ref (r 6), .int 0, .ref (r 7), .int 0]))] (fun vv _ => vv = some (.int (-1000))) := by
  refine ms_C.mk hE.1 (by decide) (Nat.le_of_ble_eq_true rfl) [(0, .ref h), (1, .int i), (2, .int j)] rfl ?_
  intro p e s m below meth c A ls X hin hP hD hS hl
  have hx := X.1
  have hb := X.2.1
  have hml := X.2.2.1
  have hown : s.vm.findClass "MarkupStore" = some m.cls := X.2.2.2.1
  have hts := X.2.2.2.2.2.2.1
  have hK := X.2.2.2.2.2.2.2.2.1
  have hA := X.2.2.2.2.2.2.2.2.2.2
  refine lv_aload_n hx hb d44_0 rfl (lv_at hl 0 rfl) ?_
  refine ms_V (C := "MarkupStore") (rest := []) (as := []) (wr := [((r 4), .inr (1, [.ref (r 5), .int 0, .ref (r 6), .int 0, .ref (r 7), .int 0]))]) X hl (c_useBuf l D dA s0 hE h r) (List.forall_mem_cons.mpr ⟨ms_k237, List.forall_mem_cons.mpr ⟨ms_k239, List.forall_mem_cons.mpr ⟨ms_p0, List.forall_mem_cons.mpr ⟨ms_k1, List.forall_mem_cons.mpr ⟨ms_k240, fun _ h => absurd h List.not_mem_nil⟩⟩⟩⟩⟩) ⟨rfl, by decide +kernel, by decide +kernel, (by decide +kernel : (parseMethodDescriptor "()Ljava/lang/String;").map (fun d => d.parameters.length) = some 0)⟩ (va_recv hK hP rfl (q0 := 0) rfl) hP hD hS [0, 1, 2] [3] rfl rfl ⟨by decide, by decide, by decide⟩ ⟨⟨Nat.le_of_ble_eq_true rfl, Nat.le_of_ble_eq_true rfl⟩, Nat.le_of_ble_eq_true rfl, Nat.le_of_ble_eq_true rfl⟩ rfl (Nat.le_of_ble_eq_true rfl) d44_1 (fun vv ww H locs hR hP hD hS => ?_)
  obtain ⟨t_1, u_2, g_3, rfl, rfl⟩ := hR
  have hP : va_P D vwCl [((r 4), .inr (1, [.ref (r 5), .int 0, .ref (r 6), .int 0, .ref (r 7), .int 0])), (h, .inr (0, [.ref (r 0), .ref (r 2), .ref (r 4), .ref (r 8), .int 0, .int 0])), ((r 0), .inr (3, [.ref (r 1), .int 0, .int 0, .int 0])), ((r 1), .inl (dA 2, 16, .inl (fun _ => 0))), (t_1, .inr (5, [.ref u_2, .int 0, .int 0, .int 0])), (u_2, .inl (dA 2, 0, .inl g_3))] H := hP
  have hD : va_D A [((r 4), .inr (1, [.ref (r 5), .int 0, .ref (r 6), .int 0, .ref (r 7), .int 0])), (h, .inr (0, [.ref (r 0), .ref (r 2), .ref (r 4), .ref (r 8), .int 0, .int 0])), ((r 0), .inr (3, [.ref (r 1), .int 0, .int 0, .int 0])), ((r 1), .inl (dA 2, 16, .inl (fun _ => 0))), (t_1, .inr (5, [.ref u_2, .int 0, .int 0, .int 0])), (u_2, .inl (dA 2, 0, .inl g_3))] := hD
  refine W.eq (g2 := F0 m 4 ls [.ref t_1]) rfl ?_
  refine lv_astore_n hx hb d44_4 rfl hl (by decide) rfl (fun ls hl => ?_)
  have hl : lv_has ls 10 [(3, .ref t_1), (0, .ref h), (1, .int i), (2, .int j)] := hl
  refine lv_aload_n hx hb d44_5 rfl (lv_at hl 1 rfl) ?_
  refine va_get (D := D) (ci := 0) (v := .ref (r 4)) (C := kR0) (T := kT0) (N := 6) hx hb hts ku0 hown hK hP 1 rfl rfl 2 (by decide) (hts _ ms_k107) (fun _ h => h) rfl d44_6 ?_
  refine lv_iload_n hx hb d44_9 rfl (lv_at hl 2 rfl) ?_
  refine ms_V (C := "MarkupStore$Tree") (rest := []) (as := [.int i]) (wr := [(h, .inr (0, [.ref (r 0), .ref (r 2), .ref (r 4), .ref (r 8), .int 0, .int 0])), ((r 0), .inr (3, [.ref (r 1), .int 0, .int 0, .int 0])), ((r 1), .inl (dA 2, 16, .inl (fun _ => 0))), (t_1, .inr (5, [.ref u_2, .int 0, .int 0, .int 0])), (u_2, .inl (dA 2, 0, .inl g_3))]) X hl (c_find l D dA s0 hE (r 4) (r 5) (r 6) (r 7) i) (List.forall_mem_cons.mpr ⟨ms_k745, List.forall_mem_cons.mpr ⟨ms_k746, List.forall_mem_cons.mpr ⟨ms_k747, List.forall_mem_cons.mpr ⟨ms_k6, List.forall_mem_cons.mpr ⟨ms_k748, fun _ h => absurd h List.not_mem_nil⟩⟩⟩⟩⟩) ⟨rfl, by decide +kernel, by decide +kernel, (by decide +kernel : (parseMethodDescriptor "(I)LMarkupStore$Node;").map (fun d => d.parameters.length) = some 1)⟩ (va_recv hK hP rfl (q0 := 0) rfl) hP hD hS [0] [1, 2, 3, 4, 5] rfl rfl ⟨by decide, by decide, by decide⟩ ⟨⟨Nat.le_of_ble_eq_true rfl, Nat.le_of_ble_eq_true rfl⟩, Nat.le_of_ble_eq_true rfl, Nat.le_of_ble_eq_true rfl⟩ rfl (Nat.le_of_ble_eq_true rfl) d44_10 (fun vv ww H locs hR hP hD hS => ?_)
  obtain ⟨rfl, rfl⟩ := hR
  have hP : va_P D vwCl [(h, .inr (0, [.ref (r 0), .ref (r 2), .ref (r 4), .ref (r 8), .int 0, .int 0])), ((r 0), .inr (3, [.ref (r 1), .int 0, .int 0, .int 0])), ((r 1), .inl (dA 2, 16, .inl (fun _ => 0))), (t_1, .inr (5, [.ref u_2, .int 0, .int 0, .int 0])), (u_2, .inl (dA 2, 0, .inl g_3)), ((r 4), .inr (1, [.ref (r 5), .int 0, .ref (r 6), .int 0, .ref (r 7), .int 0]))] H := hP
  have hD : va_D A [(h, .inr (0, [.ref (r 0), .ref (r 2), .ref (r 4), .ref (r 8), .int 0, .int 0])), ((r 0), .inr (3, [.ref (r 1), .int 0, .int 0, .int 0])), ((r 1), .inl (dA 2, 16, .inl (fun _ => 0))), (t_1, .inr (5, [.ref u_2, .int 0, .int 0, .int 0])), (u_2, .inl (dA 2, 0, .inl g_3)), ((r 4), .inr (1, [.ref (r 5), .int 0, .ref (r 6), .int 0, .ref (r 7), .int 0]))] := hD
  refine W.eq (g2 := F0 m 13 ls [.null]) rfl ?_
  refine lv_astoreN hx hb d44_13 hl (by decide) rfl (fun ls hl => ?_)
  have hl : lv_has ls 10 [(4, .null), (3, .ref t_1), (0, .ref h), (1, .int i), (2, .int j)] := hl
  refine lv_aloadN hx hb d44_15 (lv_at hl 0 rfl) ?_
  refine lv_ifnonnullN hx hb d44_17 ?_
  refine lv_sipush (v := (-1000)) hx hb d44_20 (by decide) ?_
  exact ms_iret X d44_23 hP hD hS (Nat.le_of_ble_eq_true rfl) (Nat.le_of_ble_eq_true rfl) rfl

set_option maxRecDepth 100000 in
set_option maxHeartbeats 8000000 in
theorem c_remove (l : Launch) (D : va_G) (dA : Nat → ClassId) (s0 : State) (hE : ms_EV D dA s0) (h : Nat) (r : Nat → Nat) (i : Int32) : ms_C l D s0 yM45 bM45 7 (Option.some Jvm.ClassFile.FieldType.int) 1 21 0 0 [.ref h, .int i] [(h, .inr (0, [.ref (r 0), .ref (r 2), .ref (r 4), .ref (r 8), .int 0, .int 0])), ((r 4), .inr (1, [.ref (r 5), .int 0, .ref (r 6), .int 0, .ref (r 7), .int 0]))] (fun vv _ => vv = some (.int (-1000))) := by
  refine ms_C.mk hE.1 (by decide) (Nat.le_of_ble_eq_true rfl) [(0, .ref h), (1, .int i)] rfl ?_
  intro p e s m below meth c A ls X hin hP hD hS hl
  have hx := X.1
  have hb := X.2.1
  have hml := X.2.2.1
  have hown : s.vm.findClass "MarkupStore" = some m.cls := X.2.2.2.1
  have hts := X.2.2.2.2.2.2.1
  have hK := X.2.2.2.2.2.2.2.2.1
  have hA := X.2.2.2.2.2.2.2.2.2.2
  refine lv_aload_n hx hb d45_0 rfl (lv_at hl 0 rfl) ?_
  refine va_get (D := D) (ci := 0) (v := .ref (r 4)) (C := kR0) (T := kT0) (N := 6) hx hb hts ku0 hown hK hP 0 rfl rfl 2 (by decide) (hts _ ms_k107) (fun _ h => h) rfl d45_1 ?_
  refine lv_iload_n hx hb d45_4 rfl (lv_at hl 1 rfl) ?_
  refine ms_V (C := "MarkupStore$Tree") (rest := []) (as := [.int i]) (wr := [(h, .inr (0, [.ref (r 0), .ref (r 2), .ref (r 4), .ref (r 8), .int 0, .int 0]))]) X hl (c_find l D dA s0 hE (r 4) (r 5) (r 6) (r 7) i) (List.forall_mem_cons.mpr ⟨ms_k745, List.forall_mem_cons.mpr ⟨ms_k746, List.forall_mem_cons.mpr ⟨ms_k747, List.forall_mem_cons.mpr ⟨ms_k6, List.forall_mem_cons.mpr ⟨ms_k748, fun _ h => absurd h List.not_mem_nil⟩⟩⟩⟩⟩) ⟨rfl, by decide +kernel, by decide +kernel, (by decide +kernel : (parseMethodDescriptor "(I)LMarkupStore$Node;").map (fun d => d.parameters.length) = some 1)⟩ (va_recv hK hP rfl (q0 := 1) rfl) hP hD hS [1] [0] rfl rfl ⟨by decide, by decide, by decide⟩ ⟨⟨Nat.le_of_ble_eq_true rfl, Nat.le_of_ble_eq_true rfl⟩, Nat.le_of_ble_eq_true rfl, Nat.le_of_ble_eq_true rfl⟩ rfl (Nat.le_of_ble_eq_true rfl) d45_5 (fun vv ww H locs hR hP hD hS => ?_)
  obtain ⟨rfl, rfl⟩ := hR
  have hP : va_P D vwCl [(h, .inr (0, [.ref (r 0), .ref (r 2), .ref (r 4), .ref (r 8), .int 0, .int 0])), ((r 4), .inr (1, [.ref (r 5), .int 0, .ref (r 6), .int 0, .ref (r 7), .int 0]))] H := hP
  have hD : va_D A [(h, .inr (0, [.ref (r 0), .ref (r 2), .ref (r 4), .ref (r 8), .int 0, .int 0])), ((r 4), .inr (1, [.ref (r 5), .int 0, .ref (r 6), .int 0, .ref (r 7), .int 0]))] := hD
  refine W.eq (g2 := F0 m 8 ls [.null]) rfl ?_
  refine lv_astore_nN hx hb d45_8 rfl hl (by decide) rfl (fun ls hl => ?_)
  have hl : lv_has ls 7 [(2, .null), (0, .ref h), (1, .int i)] := hl
  refine lv_aload_nN hx hb d45_9 rfl (lv_at hl 0 rfl) ?_
  refine lv_ifnonnullN hx hb d45_10 ?_
  refine lv_sipush (v := (-1000)) hx hb d45_13 (by decide) ?_
  exact ms_iret X d45_16 hP hD hS (Nat.le_of_ble_eq_true rfl) (Nat.le_of_ble_eq_true rfl) rfl

set_option maxRecDepth 100000 in
set_option maxHeartbeats 8000000 in
theorem c_replace (l : Launch) (D : va_G) (dA : Nat → ClassId) (s0 : State) (hE : ms_EV D dA s0) (h : Nat) (r : Nat → Nat) (i : Int32) : ms_C l D s0 yM46 bM46 4 (Option.some Jvm.ClassFile.FieldType.boolean) 7 232 2 4 [.ref h, .int i] [(h, .inr (0, [.ref (r 0), .ref (r 2), .ref (r 4), .ref (r 8), .int 0, .int 0])), ((r 0), .inr (3, [.ref (r 1), .int 0, .int 0, .int 0])), ((r 1), .inl (dA 2, 16, .inl (fun _ => 0))), ((r 4), .inr (1, [.ref (r 5), .int 0, .ref (r 6), .int 0, .ref (r 7), .int 0]))] (fun vv _ => vv = some (.int 0)) := by
  refine ms_C.mk hE.1 (by decide) (Nat.le_of_ble_eq_true rfl) [(0, .ref h), (1, .int i)] rfl ?_
  intro p e s m below meth c A ls X hin hP hD hS hl
  have hx := X.1
  have hb := X.2.1
  have hml := X.2.2.1
  have hown : s.vm.findClass "MarkupStore" = some m.cls := X.2.2.2.1
  have hts := X.2.2.2.2.2.2.1
  have hK := X.2.2.2.2.2.2.2.2.1
  have hA := X.2.2.2.2.2.2.2.2.2.2
  refine lv_aload_n hx hb d46_0 rfl (lv_at hl 0 rfl) ?_
  refine ms_V (C := "MarkupStore") (rest := []) (as := []) (wr := [((r 4), .inr (1, [.ref (r 5), .int 0, .ref (r 6), .int 0, .ref (r 7), .int 0]))]) X hl (c_useBuf l D dA s0 hE h r) (List.forall_mem_cons.mpr ⟨ms_k237, List.forall_mem_cons.mpr ⟨ms_k239, List.forall_mem_cons.mpr ⟨ms_p0, List.forall_mem_cons.mpr ⟨ms_k1, List.forall_mem_cons.mpr ⟨ms_k240, fun _ h => absurd h List.not_mem_nil⟩⟩⟩⟩⟩) ⟨rfl, by decide +kernel, by decide +kernel, (by decide +kernel : (parseMethodDescriptor "()Ljava/lang/String;").map (fun d => d.parameters.length) = some 0)⟩ (va_recv hK hP rfl (q0 := 0) rfl) hP hD hS [0, 1, 2] [3] rfl rfl ⟨by decide, by decide, by decide⟩ ⟨⟨Nat.le_of_ble_eq_true rfl, Nat.le_of_ble_eq_true rfl⟩, Nat.le_of_ble_eq_true rfl, Nat.le_of_ble_eq_true rfl⟩ rfl (Nat.le_of_ble_eq_true rfl) d46_1 (fun vv ww H locs hR hP hD hS => ?_)
  obtain ⟨t_1, u_2, g_3, rfl, rfl⟩ := hR
  have hP : va_P D vwCl [((r 4), .inr (1, [.ref (r 5), .int 0, .ref (r 6), .int 0, .ref (r 7), .int 0])), (h, .inr (0, [.ref (r 0), .ref (r 2), .ref (r 4), .ref (r 8), .int 0, .int 0])), ((r 0), .inr (3, [.ref (r 1), .int 0, .int 0, .int 0])), ((r 1), .inl (dA 2, 16, .inl (fun _ => 0))), (t_1, .inr (5, [.ref u_2, .int 0, .int 0, .int 0])), (u_2, .inl (dA 2, 0, .inl g_3))] H := hP
  have hD : va_D A [((r 4), .inr (1, [.ref (r 5), .int 0, .ref (r 6), .int 0, .ref (r 7), .int 0])), (h, .inr (0, [.ref (r 0), .ref (r 2), .ref (r 4), .ref (r 8), .int 0, .int 0])), ((r 0), .inr (3, [.ref (r 1), .int 0, .int 0, .int 0])), ((r 1), .inl (dA 2, 16, .inl (fun _ => 0))), (t_1, .inr (5, [.ref u_2, .int 0, .int 0, .int 0])), (u_2, .inl (dA 2, 0, .inl g_3))] := hD
  refine W.eq (g2 := F0 m 4 ls [.ref t_1]) rfl ?_
  refine lv_astore_n hx hb d46_4 rfl hl (by decide) rfl (fun ls hl => ?_)
  have hl : lv_has ls 4 [(2, .ref t_1), (0, .ref h), (1, .int i)] := hl
  refine lv_aload_n hx hb d46_5 rfl (lv_at hl 1 rfl) ?_
  refine va_get (D := D) (ci := 0) (v := .ref (r 4)) (C := kR0) (T := kT0) (N := 6) hx hb hts ku0 hown hK hP 1 rfl rfl 2 (by decide) (hts _ ms_k107) (fun _ h => h) rfl d46_6 ?_
  refine lv_iload_n hx hb d46_9 rfl (lv_at hl 2 rfl) ?_
  refine ms_V (C := "MarkupStore$Tree") (rest := []) (as := [.int i]) (wr := [(h, .inr (0, [.ref (r 0), .ref (r 2), .ref (r 4), .ref (r 8), .int 0, .int 0])), ((r 0), .inr (3, [.ref (r 1), .int 0, .int 0, .int 0])), ((r 1), .inl (dA 2, 16, .inl (fun _ => 0))), (t_1, .inr (5, [.ref u_2, .int 0, .int 0, .int 0])), (u_2, .inl (dA 2, 0, .inl g_3))]) X hl (c_find l D dA s0 hE (r 4) (r 5) (r 6) (r 7) i) (List.forall_mem_cons.mpr ⟨ms_k745, List.forall_mem_cons.mpr ⟨ms_k746, List.forall_mem_cons.mpr ⟨ms_k747, List.forall_mem_cons.mpr ⟨ms_k6, List.forall_mem_cons.mpr ⟨ms_k748, fun _ h => absurd h List.not_mem_nil⟩⟩⟩⟩⟩) ⟨rfl, by decide +kernel, by decide +kernel, (by decide +kernel : (parseMethodDescriptor "(I)LMarkupStore$Node;").map (fun d => d.parameters.length) = some 1)⟩ (va_recv hK hP rfl (q0 := 0) rfl) hP hD hS [0] [1, 2, 3, 4, 5] rfl rfl ⟨by decide, by decide, by decide⟩ ⟨⟨Nat.le_of_ble_eq_true rfl, Nat.le_of_ble_eq_true rfl⟩, Nat.le_of_ble_eq_true rfl, Nat.le_of_ble_eq_true rfl⟩ rfl (Nat.le_of_ble_eq_true rfl) d46_10 (fun vv ww H locs hR hP hD hS => ?_)
  obtain ⟨rfl, rfl⟩ := hR
  have hP : va_P D vwCl [(h, .inr (0, [.ref (r 0), .ref (r 2), .ref (r 4), .ref (r 8), .int 0, .int 0])), ((r 0), .inr (3, [.ref (r 1), .int 0, .int 0, .int 0])), ((r 1), .inl (dA 2, 16, .inl (fun _ => 0))), (t_1, .inr (5, [.ref u_2, .int 0, .int 0, .int 0])), (u_2, .inl (dA 2, 0, .inl g_3)), ((r 4), .inr (1, [.ref (r 5), .int 0, .ref (r 6), .int 0, .ref (r 7), .int 0]))] H := hP
  have hD : va_D A [(h, .inr (0, [.ref (r 0), .ref (r 2), .ref (r 4), .ref (r 8), .int 0, .int 0])), ((r 0), .inr (3, [.ref (r 1), .int 0, .int 0, .int 0])), ((r 1), .inl (dA 2, 16, .inl (fun _ => 0))), (t_1, .inr (5, [.ref u_2, .int 0, .int 0, .int 0])), (u_2, .inl (dA 2, 0, .inl g_3)), ((r 4), .inr (1, [.ref (r 5), .int 0, .ref (r 6), .int 0, .ref (r 7), .int 0]))] := hD
  refine W.eq (g2 := F0 m 13 ls [.null]) rfl ?_
  refine lv_astore_nN hx hb d46_13 rfl hl (by decide) rfl (fun ls hl => ?_)
  have hl : lv_has ls 4 [(3, .null), (2, .ref t_1), (0, .ref h), (1, .int i)] := hl
  refine lv_aload_nN hx hb d46_14 rfl (lv_at hl 0 rfl) ?_
  refine lv_ifnullN hx hb d46_15 rfl ?_
  refine lv_iconst (v := 0) hx hb d46_29 (by decide) ?_
  exact ms_zret X d46_30 hP hD hS (Nat.le_of_ble_eq_true rfl) (Nat.le_of_ble_eq_true rfl) rfl (rfl)

set_option maxRecDepth 100000 in
set_option maxHeartbeats 8000000 in
theorem c_query (l : Launch) (D : va_G) (dA : Nat → ClassId) (s0 : State) (hE : ms_EV D dA s0) (h : Nat) (r : Nat → Nat) (i : Int32) : ms_C l D s0 yM47 bM47 7 (Option.some Jvm.ClassFile.FieldType.int) 7 232 2 4 [.ref h, .int i] [(h, .inr (0, [.ref (r 0), .ref (r 2), .ref (r 4), .ref (r 8), .int 0, .int 0])), ((r 0), .inr (3, [.ref (r 1), .int 0, .int 0, .int 0])), ((r 1), .inl (dA 2, 16, .inl (fun _ => 0))), ((r 4), .inr (1, [.ref (r 5), .int 0, .ref (r 6), .int 0, .ref (r 7), .int 0]))] (fun vv _ => vv = some (.int (-1000))) := by
  refine ms_C.mk hE.1 (by decide) (Nat.le_of_ble_eq_true rfl) [(0, .ref h), (1, .int i)] rfl ?_
  intro p e s m below meth c A ls X hin hP hD hS hl
  have hx := X.1
  have hb := X.2.1
  have hml := X.2.2.1
  have hown : s.vm.findClass "MarkupStore" = some m.cls := X.2.2.2.1
  have hts := X.2.2.2.2.2.2.1
  have hK := X.2.2.2.2.2.2.2.2.1
  have hA := X.2.2.2.2.2.2.2.2.2.2
  refine lv_aload_n hx hb d47_0 rfl (lv_at hl 0 rfl) ?_
  refine ms_V (C := "MarkupStore") (rest := []) (as := []) (wr := [((r 4), .inr (1, [.ref (r 5), .int 0, .ref (r 6), .int 0, .ref (r 7), .int 0]))]) X hl (c_useBuf l D dA s0 hE h r) (List.forall_mem_cons.mpr ⟨ms_k237, List.forall_mem_cons.mpr ⟨ms_k239, List.forall_mem_cons.mpr ⟨ms_p0, List.forall_mem_cons.mpr ⟨ms_k1, List.forall_mem_cons.mpr ⟨ms_k240, fun _ h => absurd h List.not_mem_nil⟩⟩⟩⟩⟩) ⟨rfl, by decide +kernel, by decide +kernel, (by decide +kernel : (parseMethodDescriptor "()Ljava/lang/String;").map (fun d => d.parameters.length) = some 0)⟩ (va_recv hK hP rfl (q0 := 0) rfl) hP hD hS [0, 1, 2] [3] rfl rfl ⟨by decide, by decide, by decide⟩ ⟨⟨Nat.le_of_ble_eq_true rfl, Nat.le_of_ble_eq_true rfl⟩, Nat.le_of_ble_eq_true rfl, Nat.le_of_ble_eq_true rfl⟩ rfl (Nat.le_of_ble_eq_true rfl) d47_1 (fun vv ww H locs hR hP hD hS => ?_)
  obtain ⟨t_1, u_2, g_3, rfl, rfl⟩ := hR
  have hP : va_P D vwCl [((r 4), .inr (1, [.ref (r 5), .int 0, .ref (r 6), .int 0, .ref (r 7), .int 0])), (h, .inr (0, [.ref (r 0), .ref (r 2), .ref (r 4), .ref (r 8), .int 0, .int 0])), ((r 0), .inr (3, [.ref (r 1), .int 0, .int 0, .int 0])), ((r 1), .inl (dA 2, 16, .inl (fun _ => 0))), (t_1, .inr (5, [.ref u_2, .int 0, .int 0, .int 0])), (u_2, .inl (dA 2, 0, .inl g_3))] H := hP
  have hD : va_D A [((r 4), .inr (1, [.ref (r 5), .int 0, .ref (r 6), .int 0, .ref (r 7), .int 0])), (h, .inr (0, [.ref (r 0), .ref (r 2), .ref (r 4), .ref (r 8), .int 0, .int 0])), ((r 0), .inr (3, [.ref (r 1), .int 0, .int 0, .int 0])), ((r 1), .inl (dA 2, 16, .inl (fun _ => 0))), (t_1, .inr (5, [.ref u_2, .int 0, .int 0, .int 0])), (u_2, .inl (dA 2, 0, .inl g_3))] := hD
  refine W.eq (g2 := F0 m 4 ls [.ref t_1]) rfl ?_
  refine lv_astore_n hx hb d47_4 rfl hl (by decide) rfl (fun ls hl => ?_)
  have hl : lv_has ls 7 [(2, .ref t_1), (0, .ref h), (1, .int i)] := hl
  refine lv_aload_n hx hb d47_5 rfl (lv_at hl 1 rfl) ?_
  refine va_get (D := D) (ci := 0) (v := .ref (r 4)) (C := kR0) (T := kT0) (N := 6) hx hb hts ku0 hown hK hP 1 rfl rfl 2 (by decide) (hts _ ms_k107) (fun _ h => h) rfl d47_6 ?_
  refine lv_iload_n hx hb d47_9 rfl (lv_at hl 2 rfl) ?_
  refine ms_V (C := "MarkupStore$Tree") (rest := []) (as := [.int i]) (wr := [(h, .inr (0, [.ref (r 0), .ref (r 2), .ref (r 4), .ref (r 8), .int 0, .int 0])), ((r 0), .inr (3, [.ref (r 1), .int 0, .int 0, .int 0])), ((r 1), .inl (dA 2, 16, .inl (fun _ => 0))), (t_1, .inr (5, [.ref u_2, .int 0, .int 0, .int 0])), (u_2, .inl (dA 2, 0, .inl g_3))]) X hl (c_find l D dA s0 hE (r 4) (r 5) (r 6) (r 7) i) (List.forall_mem_cons.mpr ⟨ms_k745, List.forall_mem_cons.mpr ⟨ms_k746, List.forall_mem_cons.mpr ⟨ms_k747, List.forall_mem_cons.mpr ⟨ms_k6, List.forall_mem_cons.mpr ⟨ms_k748, fun _ h => absurd h List.not_mem_nil⟩⟩⟩⟩⟩) ⟨rfl, by decide +kernel, by decide +kernel, (by decide +kernel : (parseMethodDescriptor "(I)LMarkupStore$Node;").map (fun d => d.parameters.length) = some 1)⟩ (va_recv hK hP rfl (q0 := 0) rfl) hP hD hS [0] [1, 2, 3, 4, 5] rfl rfl ⟨by decide, by decide, by decide⟩ ⟨⟨Nat.le_of_ble_eq_true rfl, Nat.le_of_ble_eq_true rfl⟩, Nat.le_of_ble_eq_true rfl, Nat.le_of_ble_eq_true rfl⟩ rfl (Nat.le_of_ble_eq_true rfl) d47_10 (fun vv ww H locs hR hP hD hS => ?_)
  obtain ⟨rfl, rfl⟩ := hR
  have hP : va_P D vwCl [(h, .inr (0, [.ref (r 0), .ref (r 2), .ref (r 4), .ref (r 8), .int 0, .int 0])), ((r 0), .inr (3, [.ref (r 1), .int 0, .int 0, .int 0])), ((r 1), .inl (dA 2, 16, .inl (fun _ => 0))), (t_1, .inr (5, [.ref u_2, .int 0, .int 0, .int 0])), (u_2, .inl (dA 2, 0, .inl g_3)), ((r 4), .inr (1, [.ref (r 5), .int 0, .ref (r 6), .int 0, .ref (r 7), .int 0]))] H := hP
  have hD : va_D A [(h, .inr (0, [.ref (r 0), .ref (r 2), .ref (r 4), .ref (r 8), .int 0, .int 0])), ((r 0), .inr (3, [.ref (r 1), .int 0, .int 0, .int 0])), ((r 1), .inl (dA 2, 16, .inl (fun _ => 0))), (t_1, .inr (5, [.ref u_2, .int 0, .int 0, .int 0])), (u_2, .inl (dA 2, 0, .inl g_3)), ((r 4), .inr (1, [.ref (r 5), .int 0, .ref (r 6), .int 0, .ref (r 7), .int 0]))] := hD
  refine W.eq (g2 := F0 m 13 ls [.null]) rfl ?_
  refine lv_astore_nN hx hb d47_13 rfl hl (by decide) rfl (fun ls hl => ?_)
  have hl : lv_has ls 7 [(3, .null), (2, .ref t_1), (0, .ref h), (1, .int i)] := hl
  refine lv_aload_nN hx hb d47_14 rfl (lv_at hl 0 rfl) ?_
  refine lv_ifnonnullN hx hb d47_15 ?_
  refine lv_sipush (v := (-1000)) hx hb d47_18 (by decide) ?_
  exact ms_iret X d47_21 hP hD hS (Nat.le_of_ble_eq_true rfl) (Nat.le_of_ble_eq_true rfl) rfl

set_option maxRecDepth 100000 in
set_option maxHeartbeats 8000000 in
theorem c_result (l : Launch) (D : va_G) (dA : Nat → ClassId) (s0 : State) (hE : ms_EV D dA s0) (h : Nat) (r : Nat → Nat) (i : Int32) : ms_C l D s0 yM48 bM48 2 (Option.some Jvm.ClassFile.FieldType.int) 0 0 0 0 [.ref h, .int i] [(h, .inr (0, [.ref (r 0), .ref (r 2), .ref (r 4), .ref (r 8), .int 0, .int 0]))] (fun vv _ => vv = some (.int (-1000))) := by
  refine ms_C.mk hE.1 (by decide) (Nat.le_of_ble_eq_true rfl) [(0, .ref h), (1, .int i)] rfl ?_
  intro p e s m below meth c A ls X hin hP hD hS hl
  have hx := X.1
  have hb := X.2.1
  have hml := X.2.2.1
  have hown : s.vm.findClass "MarkupStore" = some m.cls := X.2.2.2.1
  have hts := X.2.2.2.2.2.2.1
  have hK := X.2.2.2.2.2.2.2.2.1
  have hA := X.2.2.2.2.2.2.2.2.2.2
  refine lv_iload_n hx hb d48_0 rfl (lv_at hl 1 rfl) ?_
  refine lv_if_lt hx hb d48_1 rfl (fun hc => ?_) (fun hc => ?_)
  · refine lv_sipush (v := (-1000)) hx hb d48_21 (by decide) ?_
    exact ms_iret X d48_24 hP hD hS (Nat.le_of_ble_eq_true rfl) (Nat.le_of_ble_eq_true rfl) rfl
  · refine lv_iload_n hx hb d48_4 rfl (lv_at hl 1 rfl) ?_
    refine lv_aload_n hx hb d48_5 rfl (lv_at hl 0 rfl) ?_
    refine va_get (D := D) (ci := 0) (v := .int 0) (C := kR0) (T := kT0) (N := 6) hx hb hts ku0 hown hK hP 0 rfl rfl 4 (by decide) (hts _ ms_k109) (fun _ h => h) rfl d48_6 ?_
    refine lv_icmp_ge hx hb d48_9 rfl (fun _ => ?_) (fun h9 => absurd (Int32.not_lt.mp hc) h9)
    refine lv_sipush (v := (-1000)) hx hb d48_21 (by decide) ?_
    exact ms_iret X d48_24 hP hD hS (Nat.le_of_ble_eq_true rfl) (Nat.le_of_ble_eq_true rfl) rfl

set_option maxRecDepth 100000 in
set_option maxHeartbeats 8000000 in
theorem c_commit (l : Launch) (D : va_G) (dA : Nat → ClassId) (s0 : State) (hE : ms_EV D dA s0) (h : Nat) (r : Nat → Nat) : ms_C l D s0 yM49 bM49 2 (Option.some Jvm.ClassFile.FieldType.int) 2 41 0 0 [.ref h] [(h, .inr (0, [.ref (r 0), .ref (r 2), .ref (r 4), .ref (r 8), .int 0, .int 0])), ((r 4), .inr (1, [.ref (r 5), .int 0, .ref (r 6), .int 0, .ref (r 7), .int 0]))] (fun vv _ => vv = some (.int 0)) := by
  refine ms_C.mk hE.1 (by decide) (Nat.le_of_ble_eq_true rfl) [(0, .ref h)] rfl ?_
  intro p e s m below meth c A ls X hin hP hD hS hl
  have hx := X.1
  have hb := X.2.1
  have hml := X.2.2.1
  have hown : s.vm.findClass "MarkupStore" = some m.cls := X.2.2.2.1
  have hts := X.2.2.2.2.2.2.1
  have hK := X.2.2.2.2.2.2.2.2.1
  have hA := X.2.2.2.2.2.2.2.2.2.2
  refine lv_aload_n hx hb d49_0 rfl (lv_at hl 0 rfl) ?_
  refine va_get (D := D) (ci := 0) (v := .int 0) (C := kR0) (T := kT0) (N := 6) hx hb hts ku0 hown hK hP 0 rfl rfl 5 (by decide) (hts _ ms_k110) (fun _ h => h) rfl d49_1 ?_
  refine lv_istore_n hx hb d49_4 rfl hl (by decide) rfl (fun ls hl => ?_)
  have hl : lv_has ls 2 [(1, .int 0), (0, .ref h)] := hl
  refine lv_aload_n hx hb d49_5 rfl (lv_at hl 1 rfl) ?_
  refine ms_V (C := "MarkupStore") (rest := []) (as := []) (wr := []) X hl (c_beginB l D dA s0 hE h r) (List.forall_mem_cons.mpr ⟨ms_k733, List.forall_mem_cons.mpr ⟨ms_k735, List.forall_mem_cons.mpr ⟨ms_p15, List.forall_mem_cons.mpr ⟨ms_k1, List.forall_mem_cons.mpr ⟨ms_k736, fun _ h => absurd h List.not_mem_nil⟩⟩⟩⟩⟩) ⟨rfl, by decide +kernel, by decide +kernel, (by decide +kernel : (parseMethodDescriptor "()V").map (fun d => d.parameters.length) = some 0)⟩ (va_recv hK hP rfl (q0 := 0) rfl) hP hD hS [0, 1] [] rfl rfl ⟨by decide, by decide, by decide⟩ ⟨⟨Nat.le_of_ble_eq_true rfl, Nat.le_of_ble_eq_true rfl⟩, Nat.le_of_ble_eq_true rfl, Nat.le_of_ble_eq_true rfl⟩ rfl (Nat.le_of_ble_eq_true rfl) d49_6 (fun vv ww H locs hR hP hD hS => ?_)
  obtain ⟨rfl, rfl⟩ := hR
  have hP : va_P D vwCl [(h, .inr (0, [.ref (r 0), .ref (r 2), .ref (r 4), .ref (r 8), .int 0, .int 0])), ((r 4), .inr (1, [.ref (r 5), .int 0, .ref (r 6), .int 0, .ref (r 7), .int 0]))] H := hP
  have hD : va_D A [(h, .inr (0, [.ref (r 0), .ref (r 2), .ref (r 4), .ref (r 8), .int 0, .int 0])), ((r 4), .inr (1, [.ref (r 5), .int 0, .ref (r 6), .int 0, .ref (r 7), .int 0]))] := hD
  refine W.eq (g2 := F0 m 9 ls []) rfl ?_
  refine lv_iload_n hx hb d49_9 rfl (lv_at hl 0 rfl) ?_
  exact ms_iret X d49_10 hP hD hS (Nat.le_of_ble_eq_true rfl) (Nat.le_of_ble_eq_true rfl) rfl

set_option maxRecDepth 100000 in
set_option maxHeartbeats 8000000 in
theorem c_crash (l : Launch) (D : va_G) (dA : Nat → ClassId) (s0 : State) (hE : ms_EV D dA s0) (h : Nat) (r : Nat → Nat) : ms_C l D s0 yM50 bM50 2 (Option.some Jvm.ClassFile.FieldType.int) 4 85 0 0 [.ref h] [(h, .inr (0, [.ref (r 0), .ref (r 2), .ref (r 4), .ref (r 8), .int 0, .int 0])), ((r 0), .inr (3, [.ref (r 1), .int 0, .int 0, .int 0])), ((r 1), .inl (dA 2, 16, .inl (fun _ => 0))), ((r 4), .inr (1, [.ref (r 5), .int 0, .ref (r 6), .int 0, .ref (r 7), .int 0]))] (fun vv _ => vv = some (.int 0)) := by
  refine ms_C.mk hE.1 (by decide) (Nat.le_of_ble_eq_true rfl) [(0, .ref h)] rfl ?_
  intro p e s m below meth c A ls X hin hP hD hS hl
  have hx := X.1
  have hb := X.2.1
  have hml := X.2.2.1
  have hown : s.vm.findClass "MarkupStore" = some m.cls := X.2.2.2.1
  have hts := X.2.2.2.2.2.2.1
  have hK := X.2.2.2.2.2.2.2.2.1
  have hA := X.2.2.2.2.2.2.2.2.2.2
  refine lv_aload_n hx hb d50_0 rfl (lv_at hl 0 rfl) ?_
  refine va_get (D := D) (ci := 0) (v := .int 0) (C := kR0) (T := kT0) (N := 6) hx hb hts ku0 hown hK hP 0 rfl rfl 5 (by decide) (hts _ ms_k110) (fun _ h => h) rfl d50_1 ?_
  refine lv_istore_n hx hb d50_4 rfl hl (by decide) rfl (fun ls hl => ?_)
  have hl : lv_has ls 2 [(1, .int 0), (0, .ref h)] := hl
  refine lv_aload_n hx hb d50_5 rfl (lv_at hl 1 rfl) ?_
  refine va_get (D := D) (ci := 0) (v := .ref (r 0)) (C := kR0) (T := kT0) (N := 6) hx hb hts ku0 hown hK hP 0 rfl rfl 0 (by decide) (hts _ ms_k105) (fun _ h => h) rfl d50_6 ?_
  refine lv_iconst (v := 0) hx hb d50_9 (by decide) ?_
  refine ms_V (C := "java/lang/StringBuilder") (rest := []) (as := [.int 0]) (wr := [(h, .inr (0, [.ref (r 0), .ref (r 2), .ref (r 4), .ref (r 8), .int 0, .int 0])), ((r 4), .inr (1, [.ref (r 5), .int 0, .ref (r 6), .int 0, .ref (r 7), .int 0]))]) X hl (c_SBset l D dA s0 hE (r 0) (r 1) (fun _ => 0)) (List.forall_mem_cons.mpr ⟨ms_k295, List.forall_mem_cons.mpr ⟨ms_k296, List.forall_mem_cons.mpr ⟨ms_k297, List.forall_mem_cons.mpr ⟨ms_k3, List.forall_mem_cons.mpr ⟨ms_k298, fun _ h => absurd h List.not_mem_nil⟩⟩⟩⟩⟩) ⟨rfl, by decide +kernel, by decide +kernel, (by decide +kernel : (parseMethodDescriptor "(I)V").map (fun d => d.parameters.length) = some 1)⟩ (va_recv hK hP rfl (q0 := 1) rfl) hP hD hS [1, 2] [0, 3] rfl rfl ⟨by decide, by decide, by decide⟩ ⟨⟨Nat.le_of_ble_eq_true rfl, Nat.le_of_ble_eq_true rfl⟩, Nat.le_of_ble_eq_true rfl, Nat.le_of_ble_eq_true rfl⟩ rfl (Nat.le_of_ble_eq_true rfl) d50_10 (fun vv ww H locs hR hP hD hS => ?_)
  obtain ⟨rfl, rfl⟩ := hR
  have hP : va_P D vwCl [(h, .inr (0, [.ref (r 0), .ref (r 2), .ref (r 4), .ref (r 8), .int 0, .int 0])), ((r 4), .inr (1, [.ref (r 5), .int 0, .ref (r 6), .int 0, .ref (r 7), .int 0])), ((r 0), .inr (3, [.ref (r 1), .int 0, .int 0, .int 0])), ((r 1), .inl (dA 2, 16, .inl (fun _ => 0)))] H := hP
  have hD : va_D A [(h, .inr (0, [.ref (r 0), .ref (r 2), .ref (r 4), .ref (r 8), .int 0, .int 0])), ((r 4), .inr (1, [.ref (r 5), .int 0, .ref (r 6), .int 0, .ref (r 7), .int 0])), ((r 0), .inr (3, [.ref (r 1), .int 0, .int 0, .int 0])), ((r 1), .inl (dA 2, 16, .inl (fun _ => 0)))] := hD
  refine W.eq (g2 := F0 m 13 ls []) rfl ?_
  refine lv_aload_n hx hb d50_13 rfl (lv_at hl 1 rfl) ?_
  refine va_get (D := D) (ci := 0) (v := .ref (r 4)) (C := kR0) (T := kT0) (N := 6) hx hb hts ku0 hown hK hP 0 rfl rfl 2 (by decide) (hts _ ms_k107) (fun _ h => h) rfl d50_14 ?_
  refine ms_V (C := "MarkupStore$Tree") (rest := []) (as := []) (wr := [(h, .inr (0, [.ref (r 0), .ref (r 2), .ref (r 4), .ref (r 8), .int 0, .int 0])), ((r 0), .inr (3, [.ref (r 1), .int 0, .int 0, .int 0])), ((r 1), .inl (dA 2, 16, .inl (fun _ => 0)))]) X hl (c_giveB l D dA s0 hE (r 4) (r 5) (r 6) (r 7)) (List.forall_mem_cons.mpr ⟨ms_k1209, List.forall_mem_cons.mpr ⟨ms_k1210, List.forall_mem_cons.mpr ⟨ms_k1211, List.forall_mem_cons.mpr ⟨ms_k6, List.forall_mem_cons.mpr ⟨ms_k1212, fun _ h => absurd h List.not_mem_nil⟩⟩⟩⟩⟩) ⟨rfl, by decide +kernel, by decide +kernel, (by decide +kernel : (parseMethodDescriptor "()V").map (fun d => d.parameters.length) = some 0)⟩ (va_recv hK hP rfl (q0 := 1) rfl) hP hD hS [1] [0, 2, 3] rfl rfl ⟨by decide, by decide, by decide⟩ ⟨⟨Nat.le_of_ble_eq_true rfl, Nat.le_of_ble_eq_true rfl⟩, Nat.le_of_ble_eq_true rfl, Nat.le_of_ble_eq_true rfl⟩ rfl (Nat.le_of_ble_eq_true rfl) d50_17 (fun vv ww H locs hR hP hD hS => ?_)
  obtain ⟨rfl, rfl⟩ := hR
  have hP : va_P D vwCl [(h, .inr (0, [.ref (r 0), .ref (r 2), .ref (r 4), .ref (r 8), .int 0, .int 0])), ((r 0), .inr (3, [.ref (r 1), .int 0, .int 0, .int 0])), ((r 1), .inl (dA 2, 16, .inl (fun _ => 0))), ((r 4), .inr (1, [.ref (r 5), .int 0, .ref (r 6), .int 0, .ref (r 7), .int 0]))] H := hP
  have hD : va_D A [(h, .inr (0, [.ref (r 0), .ref (r 2), .ref (r 4), .ref (r 8), .int 0, .int 0])), ((r 0), .inr (3, [.ref (r 1), .int 0, .int 0, .int 0])), ((r 1), .inl (dA 2, 16, .inl (fun _ => 0))), ((r 4), .inr (1, [.ref (r 5), .int 0, .ref (r 6), .int 0, .ref (r 7), .int 0]))] := hD
  refine W.eq (g2 := F0 m 20 ls []) rfl ?_
  refine lv_aload_n hx hb d50_20 rfl (lv_at hl 1 rfl) ?_
  refine ms_V (C := "MarkupStore") (rest := []) (as := []) (wr := [((r 0), .inr (3, [.ref (r 1), .int 0, .int 0, .int 0])), ((r 1), .inl (dA 2, 16, .inl (fun _ => 0)))]) X hl (c_beginB l D dA s0 hE h r) (List.forall_mem_cons.mpr ⟨ms_k733, List.forall_mem_cons.mpr ⟨ms_k735, List.forall_mem_cons.mpr ⟨ms_p15, List.forall_mem_cons.mpr ⟨ms_k1, List.forall_mem_cons.mpr ⟨ms_k736, fun _ h => absurd h List.not_mem_nil⟩⟩⟩⟩⟩) ⟨rfl, by decide +kernel, by decide +kernel, (by decide +kernel : (parseMethodDescriptor "()V").map (fun d => d.parameters.length) = some 0)⟩ (va_recv hK hP rfl (q0 := 0) rfl) hP hD hS [0, 3] [1, 2] rfl rfl ⟨by decide, by decide, by decide⟩ ⟨⟨Nat.le_of_ble_eq_true rfl, Nat.le_of_ble_eq_true rfl⟩, Nat.le_of_ble_eq_true rfl, Nat.le_of_ble_eq_true rfl⟩ rfl (Nat.le_of_ble_eq_true rfl) d50_21 (fun vv ww H locs hR hP hD hS => ?_)
  obtain ⟨rfl, rfl⟩ := hR
  have hP : va_P D vwCl [((r 0), .inr (3, [.ref (r 1), .int 0, .int 0, .int 0])), ((r 1), .inl (dA 2, 16, .inl (fun _ => 0))), (h, .inr (0, [.ref (r 0), .ref (r 2), .ref (r 4), .ref (r 8), .int 0, .int 0])), ((r 4), .inr (1, [.ref (r 5), .int 0, .ref (r 6), .int 0, .ref (r 7), .int 0]))] H := hP
  have hD : va_D A [((r 0), .inr (3, [.ref (r 1), .int 0, .int 0, .int 0])), ((r 1), .inl (dA 2, 16, .inl (fun _ => 0))), (h, .inr (0, [.ref (r 0), .ref (r 2), .ref (r 4), .ref (r 8), .int 0, .int 0])), ((r 4), .inr (1, [.ref (r 5), .int 0, .ref (r 6), .int 0, .ref (r 7), .int 0]))] := hD
  refine W.eq (g2 := F0 m 24 ls []) rfl ?_
  refine lv_iload_n hx hb d50_24 rfl (lv_at hl 0 rfl) ?_
  exact ms_iret X d50_25 hP hD hS (Nat.le_of_ble_eq_true rfl) (Nat.le_of_ble_eq_true rfl) rfl

set_option maxRecDepth 100000 in
set_option maxHeartbeats 8000000 in
theorem c_kind (l : Launch) (D : va_G) (dA : Nat → ClassId) (s0 : State) (hE : ms_EV D dA s0) (h : Nat) (r : Nat → Nat) (i : Int32) : ms_C l D s0 yM51 bM51 3 (Option.some Jvm.ClassFile.FieldType.int) 1 21 0 0 [.ref h, .int i] [(h, .inr (0, [.ref (r 0), .ref (r 2), .ref (r 4), .ref (r 8), .int 0, .int 0])), ((r 4), .inr (1, [.ref (r 5), .int 0, .ref (r 6), .int 0, .ref (r 7), .int 0]))] (fun vv _ => vv = some (.int (-1000))) := by
  refine ms_C.mk hE.1 (by decide) (Nat.le_of_ble_eq_true rfl) [(0, .ref h), (1, .int i)] rfl ?_
  intro p e s m below meth c A ls X hin hP hD hS hl
  have hx := X.1
  have hb := X.2.1
  have hml := X.2.2.1
  have hown : s.vm.findClass "MarkupStore" = some m.cls := X.2.2.2.1
  have hts := X.2.2.2.2.2.2.1
  have hK := X.2.2.2.2.2.2.2.2.1
  have hA := X.2.2.2.2.2.2.2.2.2.2
  refine lv_aload_n hx hb d51_0 rfl (lv_at hl 0 rfl) ?_
  refine va_get (D := D) (ci := 0) (v := .ref (r 4)) (C := kR0) (T := kT0) (N := 6) hx hb hts ku0 hown hK hP 0 rfl rfl 2 (by decide) (hts _ ms_k107) (fun _ h => h) rfl d51_1 ?_
  refine lv_iload_n hx hb d51_4 rfl (lv_at hl 1 rfl) ?_
  refine ms_V (C := "MarkupStore$Tree") (rest := []) (as := [.int i]) (wr := [(h, .inr (0, [.ref (r 0), .ref (r 2), .ref (r 4), .ref (r 8), .int 0, .int 0]))]) X hl (c_find l D dA s0 hE (r 4) (r 5) (r 6) (r 7) i) (List.forall_mem_cons.mpr ⟨ms_k745, List.forall_mem_cons.mpr ⟨ms_k746, List.forall_mem_cons.mpr ⟨ms_k747, List.forall_mem_cons.mpr ⟨ms_k6, List.forall_mem_cons.mpr ⟨ms_k748, fun _ h => absurd h List.not_mem_nil⟩⟩⟩⟩⟩) ⟨rfl, by decide +kernel, by decide +kernel, (by decide +kernel : (parseMethodDescriptor "(I)LMarkupStore$Node;").map (fun d => d.parameters.length) = some 1)⟩ (va_recv hK hP rfl (q0 := 1) rfl) hP hD hS [1] [0] rfl rfl ⟨by decide, by decide, by decide⟩ ⟨⟨Nat.le_of_ble_eq_true rfl, Nat.le_of_ble_eq_true rfl⟩, Nat.le_of_ble_eq_true rfl, Nat.le_of_ble_eq_true rfl⟩ rfl (Nat.le_of_ble_eq_true rfl) d51_5 (fun vv ww H locs hR hP hD hS => ?_)
  obtain ⟨rfl, rfl⟩ := hR
  have hP : va_P D vwCl [(h, .inr (0, [.ref (r 0), .ref (r 2), .ref (r 4), .ref (r 8), .int 0, .int 0])), ((r 4), .inr (1, [.ref (r 5), .int 0, .ref (r 6), .int 0, .ref (r 7), .int 0]))] H := hP
  have hD : va_D A [(h, .inr (0, [.ref (r 0), .ref (r 2), .ref (r 4), .ref (r 8), .int 0, .int 0])), ((r 4), .inr (1, [.ref (r 5), .int 0, .ref (r 6), .int 0, .ref (r 7), .int 0]))] := hD
  refine W.eq (g2 := F0 m 8 ls [.null]) rfl ?_
  refine lv_astore_nN hx hb d51_8 rfl hl (by decide) rfl (fun ls hl => ?_)
  have hl : lv_has ls 3 [(2, .null), (0, .ref h), (1, .int i)] := hl
  refine lv_aload_nN hx hb d51_9 rfl (lv_at hl 0 rfl) ?_
  refine lv_ifnonnullN hx hb d51_10 ?_
  refine lv_sipush (v := (-1000)) hx hb d51_13 (by decide) ?_
  refine lv_goto hx hb d51_16 rfl ?_
  exact ms_iret X d51_23 hP hD hS (Nat.le_of_ble_eq_true rfl) (Nat.le_of_ble_eq_true rfl) rfl

set_option maxRecDepth 100000 in
set_option maxHeartbeats 8000000 in
theorem c_node (l : Launch) (D : va_G) (dA : Nat → ClassId) (s0 : State) (hE : ms_EV D dA s0) (h : Nat) (r : Nat → Nat) (i : Int32) (j : Int32) : ms_C l D s0 yM52 bM52 4 (Option.some Jvm.ClassFile.FieldType.int) 1 21 0 0 [.ref h, .int i, .int j] [(h, .inr (0, [.ref (r 0), .ref (r 2), .ref (r 4), .ref (r 8), .int 0, .int 0])), ((r 4), .inr (1, [.ref (r 5), .int 0, .ref (r 6), .int 0, .ref (r 7), .int 0]))] (fun vv _ => vv = some (.int (-1000))) := by
  refine ms_C.mk hE.1 (by decide) (Nat.le_of_ble_eq_true rfl) [(0, .ref h), (1, .int i), (2, .int j)] rfl ?_
  intro p e s m below meth c A ls X hin hP hD hS hl
  have hx := X.1
  have hb := X.2.1
  have hml := X.2.2.1
  have hown : s.vm.findClass "MarkupStore" = some m.cls := X.2.2.2.1
  have hts := X.2.2.2.2.2.2.1
  have hK := X.2.2.2.2.2.2.2.2.1
  have hA := X.2.2.2.2.2.2.2.2.2.2
  refine lv_aload_n hx hb d52_0 rfl (lv_at hl 0 rfl) ?_
  refine va_get (D := D) (ci := 0) (v := .ref (r 4)) (C := kR0) (T := kT0) (N := 6) hx hb hts ku0 hown hK hP 0 rfl rfl 2 (by decide) (hts _ ms_k107) (fun _ h => h) rfl d52_1 ?_
  refine lv_iload_n hx hb d52_4 rfl (lv_at hl 1 rfl) ?_
  refine ms_V (C := "MarkupStore$Tree") (rest := []) (as := [.int i]) (wr := [(h, .inr (0, [.ref (r 0), .ref (r 2), .ref (r 4), .ref (r 8), .int 0, .int 0]))]) X hl (c_find l D dA s0 hE (r 4) (r 5) (r 6) (r 7) i) (List.forall_mem_cons.mpr ⟨ms_k745, List.forall_mem_cons.mpr ⟨ms_k746, List.forall_mem_cons.mpr ⟨ms_k747, List.forall_mem_cons.mpr ⟨ms_k6, List.forall_mem_cons.mpr ⟨ms_k748, fun _ h => absurd h List.not_mem_nil⟩⟩⟩⟩⟩) ⟨rfl, by decide +kernel, by decide +kernel, (by decide +kernel : (parseMethodDescriptor "(I)LMarkupStore$Node;").map (fun d => d.parameters.length) = some 1)⟩ (va_recv hK hP rfl (q0 := 1) rfl) hP hD hS [1] [0] rfl rfl ⟨by decide, by decide, by decide⟩ ⟨⟨Nat.le_of_ble_eq_true rfl, Nat.le_of_ble_eq_true rfl⟩, Nat.le_of_ble_eq_true rfl, Nat.le_of_ble_eq_true rfl⟩ rfl (Nat.le_of_ble_eq_true rfl) d52_5 (fun vv ww H locs hR hP hD hS => ?_)
  obtain ⟨rfl, rfl⟩ := hR
  have hP : va_P D vwCl [(h, .inr (0, [.ref (r 0), .ref (r 2), .ref (r 4), .ref (r 8), .int 0, .int 0])), ((r 4), .inr (1, [.ref (r 5), .int 0, .ref (r 6), .int 0, .ref (r 7), .int 0]))] H := hP
  have hD : va_D A [(h, .inr (0, [.ref (r 0), .ref (r 2), .ref (r 4), .ref (r 8), .int 0, .int 0])), ((r 4), .inr (1, [.ref (r 5), .int 0, .ref (r 6), .int 0, .ref (r 7), .int 0]))] := hD
  refine W.eq (g2 := F0 m 8 ls [.null]) rfl ?_
  refine lv_astore_nN hx hb d52_8 rfl hl (by decide) rfl (fun ls hl => ?_)
  have hl : lv_has ls 4 [(3, .null), (0, .ref h), (1, .int i), (2, .int j)] := hl
  refine lv_aload_nN hx hb d52_9 rfl (lv_at hl 0 rfl) ?_
  refine lv_ifnonnullN hx hb d52_10 ?_
  refine lv_sipush (v := (-1000)) hx hb d52_13 (by decide) ?_
  exact ms_iret X d52_16 hP hD hS (Nat.le_of_ble_eq_true rfl) (Nat.le_of_ble_eq_true rfl) rfl

set_option maxRecDepth 100000 in
set_option maxHeartbeats 8000000 in
theorem c_letter (l : Launch) (D : va_G) (dA : Nat → ClassId) (s0 : State) (hE : ms_EV D dA s0) (h : Nat) (r : Nat → Nat) (i : Int32) (j : Int32) : ms_C l D s0 yM53 bM53 4 (Option.some Jvm.ClassFile.FieldType.int) 1 21 0 0 [.ref h, .int i, .int j] [(h, .inr (0, [.ref (r 0), .ref (r 2), .ref (r 4), .ref (r 8), .int 0, .int 0])), ((r 4), .inr (1, [.ref (r 5), .int 0, .ref (r 6), .int 0, .ref (r 7), .int 0]))] (fun vv _ => vv = some (.int 0)) := by
  refine ms_C.mk hE.1 (by decide) (Nat.le_of_ble_eq_true rfl) [(0, .ref h), (1, .int i), (2, .int j)] rfl ?_
  intro p e s m below meth c A ls X hin hP hD hS hl
  have hx := X.1
  have hb := X.2.1
  have hml := X.2.2.1
  have hown : s.vm.findClass "MarkupStore" = some m.cls := X.2.2.2.1
  have hts := X.2.2.2.2.2.2.1
  have hK := X.2.2.2.2.2.2.2.2.1
  have hA := X.2.2.2.2.2.2.2.2.2.2
  refine lv_aload_n hx hb d53_0 rfl (lv_at hl 0 rfl) ?_
  refine va_get (D := D) (ci := 0) (v := .ref (r 4)) (C := kR0) (T := kT0) (N := 6) hx hb hts ku0 hown hK hP 0 rfl rfl 2 (by decide) (hts _ ms_k107) (fun _ h => h) rfl d53_1 ?_
  refine lv_iload_n hx hb d53_4 rfl (lv_at hl 1 rfl) ?_
  refine ms_V (C := "MarkupStore$Tree") (rest := []) (as := [.int i]) (wr := [(h, .inr (0, [.ref (r 0), .ref (r 2), .ref (r 4), .ref (r 8), .int 0, .int 0]))]) X hl (c_find l D dA s0 hE (r 4) (r 5) (r 6) (r 7) i) (List.forall_mem_cons.mpr ⟨ms_k745, List.forall_mem_cons.mpr ⟨ms_k746, List.forall_mem_cons.mpr ⟨ms_k747, List.forall_mem_cons.mpr ⟨ms_k6, List.forall_mem_cons.mpr ⟨ms_k748, fun _ h => absurd h List.not_mem_nil⟩⟩⟩⟩⟩) ⟨rfl, by decide +kernel, by decide +kernel, (by decide +kernel : (parseMethodDescriptor "(I)LMarkupStore$Node;").map (fun d => d.parameters.length) = some 1)⟩ (va_recv hK hP rfl (q0 := 1) rfl) hP hD hS [1] [0] rfl rfl ⟨by decide, by decide, by decide⟩ ⟨⟨Nat.le_of_ble_eq_true rfl, Nat.le_of_ble_eq_true rfl⟩, Nat.le_of_ble_eq_true rfl, Nat.le_of_ble_eq_true rfl⟩ rfl (Nat.le_of_ble_eq_true rfl) d53_5 (fun vv ww H locs hR hP hD hS => ?_)
  obtain ⟨rfl, rfl⟩ := hR
  have hP : va_P D vwCl [(h, .inr (0, [.ref (r 0), .ref (r 2), .ref (r 4), .ref (r 8), .int 0, .int 0])), ((r 4), .inr (1, [.ref (r 5), .int 0, .ref (r 6), .int 0, .ref (r 7), .int 0]))] H := hP
  have hD : va_D A [(h, .inr (0, [.ref (r 0), .ref (r 2), .ref (r 4), .ref (r 8), .int 0, .int 0])), ((r 4), .inr (1, [.ref (r 5), .int 0, .ref (r 6), .int 0, .ref (r 7), .int 0]))] := hD
  refine W.eq (g2 := F0 m 8 ls [.null]) rfl ?_
  refine lv_astore_nN hx hb d53_8 rfl hl (by decide) rfl (fun ls hl => ?_)
  have hl : lv_has ls 4 [(3, .null), (0, .ref h), (1, .int i), (2, .int j)] := hl
  refine lv_aload_nN hx hb d53_9 rfl (lv_at hl 0 rfl) ?_
  refine lv_ifnullN hx hb d53_10 rfl ?_
  refine lv_iconst (v := 0) hx hb d53_28 (by decide) ?_
  refine lv_goto hx hb d53_29 rfl ?_
  exact ms_iret X d53_40 hP hD hS (Nat.le_of_ble_eq_true rfl) (Nat.le_of_ble_eq_true rfl) rfl

set_option maxRecDepth 100000 in
set_option maxHeartbeats 8000000 in
theorem c_label (l : Launch) (D : va_G) (dA : Nat → ClassId) (s0 : State) (hE : ms_EV D dA s0) (h : Nat) (r : Nat → Nat) (i : Int32) (j : Int32) : ms_C l D s0 yM54 bM54 4 (Option.some Jvm.ClassFile.FieldType.int) 1 21 0 0 [.ref h, .int i, .int j] [(h, .inr (0, [.ref (r 0), .ref (r 2), .ref (r 4), .ref (r 8), .int 0, .int 0])), ((r 4), .inr (1, [.ref (r 5), .int 0, .ref (r 6), .int 0, .ref (r 7), .int 0]))] (fun vv _ => vv = some (.int 0)) := by
  refine ms_C.mk hE.1 (by decide) (Nat.le_of_ble_eq_true rfl) [(0, .ref h), (1, .int i), (2, .int j)] rfl ?_
  intro p e s m below meth c A ls X hin hP hD hS hl
  have hx := X.1
  have hb := X.2.1
  have hml := X.2.2.1
  have hown : s.vm.findClass "MarkupStore" = some m.cls := X.2.2.2.1
  have hts := X.2.2.2.2.2.2.1
  have hK := X.2.2.2.2.2.2.2.2.1
  have hA := X.2.2.2.2.2.2.2.2.2.2
  refine lv_aload_n hx hb d54_0 rfl (lv_at hl 0 rfl) ?_
  refine va_get (D := D) (ci := 0) (v := .ref (r 4)) (C := kR0) (T := kT0) (N := 6) hx hb hts ku0 hown hK hP 0 rfl rfl 2 (by decide) (hts _ ms_k107) (fun _ h => h) rfl d54_1 ?_
  refine lv_iload_n hx hb d54_4 rfl (lv_at hl 1 rfl) ?_
  refine ms_V (C := "MarkupStore$Tree") (rest := []) (as := [.int i]) (wr := [(h, .inr (0, [.ref (r 0), .ref (r 2), .ref (r 4), .ref (r 8), .int 0, .int 0]))]) X hl (c_find l D dA s0 hE (r 4) (r 5) (r 6) (r 7) i) (List.forall_mem_cons.mpr ⟨ms_k745, List.forall_mem_cons.mpr ⟨ms_k746, List.forall_mem_cons.mpr ⟨ms_k747, List.forall_mem_cons.mpr ⟨ms_k6, List.forall_mem_cons.mpr ⟨ms_k748, fun _ h => absurd h List.not_mem_nil⟩⟩⟩⟩⟩) ⟨rfl, by decide +kernel, by decide +kernel, (by decide +kernel : (parseMethodDescriptor "(I)LMarkupStore$Node;").map (fun d => d.parameters.length) = some 1)⟩ (va_recv hK hP rfl (q0 := 1) rfl) hP hD hS [1] [0] rfl rfl ⟨by decide, by decide, by decide⟩ ⟨⟨Nat.le_of_ble_eq_true rfl, Nat.le_of_ble_eq_true rfl⟩, Nat.le_of_ble_eq_true rfl, Nat.le_of_ble_eq_true rfl⟩ rfl (Nat.le_of_ble_eq_true rfl) d54_5 (fun vv ww H locs hR hP hD hS => ?_)
  obtain ⟨rfl, rfl⟩ := hR
  have hP : va_P D vwCl [(h, .inr (0, [.ref (r 0), .ref (r 2), .ref (r 4), .ref (r 8), .int 0, .int 0])), ((r 4), .inr (1, [.ref (r 5), .int 0, .ref (r 6), .int 0, .ref (r 7), .int 0]))] H := hP
  have hD : va_D A [(h, .inr (0, [.ref (r 0), .ref (r 2), .ref (r 4), .ref (r 8), .int 0, .int 0])), ((r 4), .inr (1, [.ref (r 5), .int 0, .ref (r 6), .int 0, .ref (r 7), .int 0]))] := hD
  refine W.eq (g2 := F0 m 8 ls [.null]) rfl ?_
  refine lv_astore_nN hx hb d54_8 rfl hl (by decide) rfl (fun ls hl => ?_)
  have hl : lv_has ls 4 [(3, .null), (0, .ref h), (1, .int i), (2, .int j)] := hl
  refine lv_aload_nN hx hb d54_9 rfl (lv_at hl 0 rfl) ?_
  refine lv_ifnullN hx hb d54_10 rfl ?_
  refine lv_iconst (v := 0) hx hb d54_26 (by decide) ?_
  refine lv_goto hx hb d54_27 rfl ?_
  exact ms_iret X d54_36 hP hD hS (Nat.le_of_ble_eq_true rfl) (Nat.le_of_ble_eq_true rfl) rfl

set_option maxRecDepth 100000 in
set_option maxHeartbeats 8000000 in
theorem c_root (l : Launch) (D : va_G) (dA : Nat → ClassId) (s0 : State) (hE : ms_EV D dA s0) (h : Nat) (r : Nat → Nat) : ms_C l D s0 yM55 bM55 1 (Option.some Jvm.ClassFile.FieldType.int) 0 0 0 0 [.ref h] [(h, .inr (0, [.ref (r 0), .ref (r 2), .ref (r 4), .ref (r 8), .int 0, .int 0])), ((r 4), .inr (1, [.ref (r 5), .int 0, .ref (r 6), .int 0, .ref (r 7), .int 0]))] (fun vv _ => vv = some (.int (-1000))) := by
  refine ms_C.mk hE.1 (by decide) (Nat.le_of_ble_eq_true rfl) [(0, .ref h)] rfl ?_
  intro p e s m below meth c A ls X hin hP hD hS hl
  have hx := X.1
  have hb := X.2.1
  have hml := X.2.2.1
  have hown : s.vm.findClass "MarkupStore" = some m.cls := X.2.2.2.1
  have hts := X.2.2.2.2.2.2.1
  have hK := X.2.2.2.2.2.2.2.2.1
  have hA := X.2.2.2.2.2.2.2.2.2.2
  refine lv_aload_n hx hb d55_0 rfl (lv_at hl 0 rfl) ?_
  refine va_get (D := D) (ci := 0) (v := .ref (r 4)) (C := kR0) (T := kT0) (N := 6) hx hb hts ku0 hown hK hP 0 rfl rfl 2 (by decide) (hts _ ms_k107) (fun _ h => h) rfl d55_1 ?_
  refine va_get (D := D) (ci := 1) (v := .int 0) (C := kR1) (T := kT1) (N := 6) hx hb hts ku1 hown hK hP 1 rfl rfl 3 (by decide) (hts _ ms_k89) (fun _ h => h) rfl d55_4 ?_
  refine lv_if_ne hx hb d55_7 rfl (fun h9 => absurd h9 (by decide)) (fun _ => ?_)
  refine lv_sipush (v := (-1000)) hx hb d55_10 (by decide) ?_
  refine lv_goto hx hb d55_13 rfl ?_
  exact ms_iret X d55_28 hP hD hS (Nat.le_of_ble_eq_true rfl) (Nat.le_of_ble_eq_true rfl) rfl

set_option maxRecDepth 100000 in
set_option maxHeartbeats 8000000 in
theorem c_nodes (l : Launch) (D : va_G) (dA : Nat → ClassId) (s0 : State) (hE : ms_EV D dA s0) (h : Nat) (r : Nat → Nat) : ms_C l D s0 yM56 bM56 1 (Option.some Jvm.ClassFile.FieldType.int) 0 0 0 0 [.ref h] [(h, .inr (0, [.ref (r 0), .ref (r 2), .ref (r 4), .ref (r 8), .int 0, .int 0])), ((r 4), .inr (1, [.ref (r 5), .int 0, .ref (r 6), .int 0, .ref (r 7), .int 0]))] (fun vv _ => vv = some (.int 0)) := by
  refine ms_C.mk hE.1 (by decide) (Nat.le_of_ble_eq_true rfl) [(0, .ref h)] rfl ?_
  intro p e s m below meth c A ls X hin hP hD hS hl
  have hx := X.1
  have hb := X.2.1
  have hml := X.2.2.1
  have hown : s.vm.findClass "MarkupStore" = some m.cls := X.2.2.2.1
  have hts := X.2.2.2.2.2.2.1
  have hK := X.2.2.2.2.2.2.2.2.1
  have hA := X.2.2.2.2.2.2.2.2.2.2
  refine lv_aload_n hx hb d56_0 rfl (lv_at hl 0 rfl) ?_
  refine va_get (D := D) (ci := 0) (v := .ref (r 4)) (C := kR0) (T := kT0) (N := 6) hx hb hts ku0 hown hK hP 0 rfl rfl 2 (by decide) (hts _ ms_k107) (fun _ h => h) rfl d56_1 ?_
  refine va_get (D := D) (ci := 1) (v := .int 0) (C := kR1) (T := kT1) (N := 6) hx hb hts ku1 hown hK hP 1 rfl rfl 3 (by decide) (hts _ ms_k89) (fun _ h => h) rfl d56_4 ?_
  exact ms_iret X d56_7 hP hD hS (Nat.le_of_ble_eq_true rfl) (Nat.le_of_ble_eq_true rfl) rfl

set_option maxRecDepth 100000 in
set_option maxHeartbeats 8000000 in
theorem c_length (l : Launch) (D : va_G) (dA : Nat → ClassId) (s0 : State) (hE : ms_EV D dA s0) (h : Nat) (r : Nat → Nat) : ms_C l D s0 yM57 bM57 2 (Option.some Jvm.ClassFile.FieldType.int) 2 48 1 3 [.ref h] [(h, .inr (0, [.ref (r 0), .ref (r 2), .ref (r 4), .ref (r 8), .int 0, .int 0])), ((r 4), .inr (1, [.ref (r 5), .int 0, .ref (r 6), .int 0, .ref (r 7), .int 0]))] (fun vv _ => vv = some (.int 0)) := by
  refine ms_C.mk hE.1 (by decide) (Nat.le_of_ble_eq_true rfl) [(0, .ref h)] rfl ?_
  intro p e s m below meth c A ls X hin hP hD hS hl
  have hx := X.1
  have hb := X.2.1
  have hml := X.2.2.1
  have hown : s.vm.findClass "MarkupStore" = some m.cls := X.2.2.2.1
  have hts := X.2.2.2.2.2.2.1
  have hK := X.2.2.2.2.2.2.2.2.1
  have hA := X.2.2.2.2.2.2.2.2.2.2
  refine va_new (ci := 7) (fs := [.int 0, .int 0, .int 0]) (C := kR7) (T := kT7) (N := 3) hx hb hts ku7 kt7 kp7 hown (hts _ ms_k1246) (hts _ ms_k1247) (hts _ ms_k30) hK hP hD hS hA rfl kz7 (Nat.le_of_ble_eq_true rfl) (Nat.le_of_ble_eq_true rfl) d57_0 (fun q1 H hP hD hS => ?_)
  have hP : va_P D vwCl [(h, .inr (0, [.ref (r 0), .ref (r 2), .ref (r 4), .ref (r 8), .int 0, .int 0])), ((r 4), .inr (1, [.ref (r 5), .int 0, .ref (r 6), .int 0, .ref (r 7), .int 0])), (q1, .inr (7, [.int 0, .int 0, .int 0]))] H := hP
  have hD : va_D A [(h, .inr (0, [.ref (r 0), .ref (r 2), .ref (r 4), .ref (r 8), .int 0, .int 0])), ((r 4), .inr (1, [.ref (r 5), .int 0, .ref (r 6), .int 0, .ref (r 7), .int 0])), (q1, .inr (7, [.int 0, .int 0, .int 0]))] := hD
  refine lv_dup hx hb d57_3 rfl ?_
  refine lv_iconst (v := (-1)) hx hb d57_4 (by decide) ?_
  refine ms_I (rest := [.ref q1]) (as := [.int (-1)]) (wr := [(h, .inr (0, [.ref (r 0), .ref (r 2), .ref (r 4), .ref (r 8), .int 0, .int 0])), ((r 4), .inr (1, [.ref (r 5), .int 0, .ref (r 6), .int 0, .ref (r 7), .int 0]))]) X hl (c_SCinit l D dA s0 hE q1 (-1)) (List.forall_mem_cons.mpr ⟨ms_k1248, List.forall_mem_cons.mpr ⟨ms_k1249, List.forall_mem_cons.mpr ⟨ms_k30, List.forall_mem_cons.mpr ⟨ms_k1250, fun _ h => absurd h List.not_mem_nil⟩⟩⟩⟩) rfl ⟨by decide +kernel, by decide +kernel, (by decide +kernel : (parseMethodDescriptor "(I)V").map (fun d => d.parameters.length) = some 1)⟩ hP hD hS [2] [0, 1] rfl rfl ⟨by decide, by decide, by decide⟩ ⟨⟨Nat.le_of_ble_eq_true rfl, Nat.le_of_ble_eq_true rfl⟩, Nat.le_of_ble_eq_true rfl, Nat.le_of_ble_eq_true rfl⟩ rfl (Nat.le_of_ble_eq_true rfl) d57_5 (fun vv ww H locs hR hP hD hS => ?_)
  obtain ⟨rfl, rfl⟩ := hR
  have hP : va_P D vwCl [(h, .inr (0, [.ref (r 0), .ref (r 2), .ref (r 4), .ref (r 8), .int 0, .int 0])), ((r 4), .inr (1, [.ref (r 5), .int 0, .ref (r 6), .int 0, .ref (r 7), .int 0])), (q1, .inr (7, [.int (-1), .int 0, .int 0]))] H := hP
  have hD : va_D A [(h, .inr (0, [.ref (r 0), .ref (r 2), .ref (r 4), .ref (r 8), .int 0, .int 0])), ((r 4), .inr (1, [.ref (r 5), .int 0, .ref (r 6), .int 0, .ref (r 7), .int 0])), (q1, .inr (7, [.int (-1), .int 0, .int 0]))] := hD
  refine W.eq (g2 := F0 m 8 ls [.ref q1]) rfl ?_
  refine lv_astore_n hx hb d57_8 rfl hl (by decide) rfl (fun ls hl => ?_)
  have hl : lv_has ls 2 [(1, .ref q1), (0, .ref h)] := hl
  refine lv_aload_n hx hb d57_9 rfl (lv_at hl 0 rfl) ?_
  refine lv_aload_n hx hb d57_10 rfl (lv_at hl 1 rfl) ?_
  refine va_get (D := D) (ci := 0) (v := .ref (r 4)) (C := kR0) (T := kT0) (N := 6) hx hb hts ku0 hown hK hP 0 rfl rfl 2 (by decide) (hts _ ms_k107) (fun _ h => h) rfl d57_11 ?_
  refine ms_V (C := "MarkupStore$Scribe") (rest := []) (as := [.ref (r 4)]) (wr := [(h, .inr (0, [.ref (r 0), .ref (r 2), .ref (r 4), .ref (r 8), .int 0, .int 0]))]) X hl (c_SCwrite l D dA s0 hE q1 (r 4) (r 5) (r 6) (r 7) (-1)) (List.forall_mem_cons.mpr ⟨ms_k1264, List.forall_mem_cons.mpr ⟨ms_k1265, List.forall_mem_cons.mpr ⟨ms_k1266, List.forall_mem_cons.mpr ⟨ms_k30, List.forall_mem_cons.mpr ⟨ms_k1267, fun _ h => absurd h List.not_mem_nil⟩⟩⟩⟩⟩) ⟨rfl, by decide +kernel, by decide +kernel, (by decide +kernel : (parseMethodDescriptor "(LMarkupStore$Tree;)V").map (fun d => d.parameters.length) = some 1)⟩ (va_recv hK hP rfl (q0 := 2) rfl) hP hD hS [2, 1] [0] rfl rfl ⟨by decide, by decide, by decide⟩ ⟨⟨Nat.le_of_ble_eq_true rfl, Nat.le_of_ble_eq_true rfl⟩, Nat.le_of_ble_eq_true rfl, Nat.le_of_ble_eq_true rfl⟩ rfl (Nat.le_of_ble_eq_true rfl) d57_14 (fun vv ww H locs hR hP hD hS => ?_)
  obtain ⟨rfl, rfl⟩ := hR
  have hP : va_P D vwCl [(h, .inr (0, [.ref (r 0), .ref (r 2), .ref (r 4), .ref (r 8), .int 0, .int 0])), (q1, .inr (7, [.int (-1), .int 0, .int 0])), ((r 4), .inr (1, [.ref (r 5), .int 0, .ref (r 6), .int 0, .ref (r 7), .int 0]))] H := hP
  have hD : va_D A [(h, .inr (0, [.ref (r 0), .ref (r 2), .ref (r 4), .ref (r 8), .int 0, .int 0])), (q1, .inr (7, [.int (-1), .int 0, .int 0])), ((r 4), .inr (1, [.ref (r 5), .int 0, .ref (r 6), .int 0, .ref (r 7), .int 0]))] := hD
  refine W.eq (g2 := F0 m 17 ls []) rfl ?_
  refine lv_aload_n hx hb d57_17 rfl (lv_at hl 0 rfl) ?_
  refine va_get (D := D) (ci := 7) (v := .int 0) (C := kR7) (T := kT7) (N := 3) hx hb hts ku7 hown hK hP 1 rfl rfl 1 (by decide) (hts _ ms_k1254) (fun _ h => h) rfl d57_18 ?_
  exact ms_iret X d57_21 hP hD hS (Nat.le_of_ble_eq_true rfl) (Nat.le_of_ble_eq_true rfl) rfl

set_option maxRecDepth 100000 in
set_option maxHeartbeats 8000000 in
theorem c_written (l : Launch) (D : va_G) (dA : Nat → ClassId) (s0 : State) (hE : ms_EV D dA s0) (h : Nat) (r : Nat → Nat) (i : Int32) : ms_C l D s0 yM58 bM58 3 (Option.some Jvm.ClassFile.FieldType.int) 2 48 1 3 [.ref h, .int i] [(h, .inr (0, [.ref (r 0), .ref (r 2), .ref (r 4), .ref (r 8), .int 0, .int 0])), ((r 4), .inr (1, [.ref (r 5), .int 0, .ref (r 6), .int 0, .ref (r 7), .int 0]))] (fun vv _ => vv = some (.int 0)) := by
  refine ms_C.mk hE.1 (by decide) (Nat.le_of_ble_eq_true rfl) [(0, .ref h), (1, .int i)] rfl ?_
  intro p e s m below meth c A ls X hin hP hD hS hl
  have hx := X.1
  have hb := X.2.1
  have hml := X.2.2.1
  have hown : s.vm.findClass "MarkupStore" = some m.cls := X.2.2.2.1
  have hts := X.2.2.2.2.2.2.1
  have hK := X.2.2.2.2.2.2.2.2.1
  have hA := X.2.2.2.2.2.2.2.2.2.2
  refine va_new (ci := 7) (fs := [.int 0, .int 0, .int 0]) (C := kR7) (T := kT7) (N := 3) hx hb hts ku7 kt7 kp7 hown (hts _ ms_k1246) (hts _ ms_k1247) (hts _ ms_k30) hK hP hD hS hA rfl kz7 (Nat.le_of_ble_eq_true rfl) (Nat.le_of_ble_eq_true rfl) d58_0 (fun q1 H hP hD hS => ?_)
  have hP : va_P D vwCl [(h, .inr (0, [.ref (r 0), .ref (r 2), .ref (r 4), .ref (r 8), .int 0, .int 0])), ((r 4), .inr (1, [.ref (r 5), .int 0, .ref (r 6), .int 0, .ref (r 7), .int 0])), (q1, .inr (7, [.int 0, .int 0, .int 0]))] H := hP
  have hD : va_D A [(h, .inr (0, [.ref (r 0), .ref (r 2), .ref (r 4), .ref (r 8), .int 0, .int 0])), ((r 4), .inr (1, [.ref (r 5), .int 0, .ref (r 6), .int 0, .ref (r 7), .int 0])), (q1, .inr (7, [.int 0, .int 0, .int 0]))] := hD
  refine lv_dup hx hb d58_3 rfl ?_
  refine lv_iload_n hx hb d58_4 rfl (lv_at hl 1 rfl) ?_
  refine ms_I (rest := [.ref q1]) (as := [.int i]) (wr := [(h, .inr (0, [.ref (r 0), .ref (r 2), .ref (r 4), .ref (r 8), .int 0, .int 0])), ((r 4), .inr (1, [.ref (r 5), .int 0, .ref (r 6), .int 0, .ref (r 7), .int 0]))]) X hl (c_SCinit l D dA s0 hE q1 i) (List.forall_mem_cons.mpr ⟨ms_k1248, List.forall_mem_cons.mpr ⟨ms_k1249, List.forall_mem_cons.mpr ⟨ms_k30, List.forall_mem_cons.mpr ⟨ms_k1250, fun _ h => absurd h List.not_mem_nil⟩⟩⟩⟩) rfl ⟨by decide +kernel, by decide +kernel, (by decide +kernel : (parseMethodDescriptor "(I)V").map (fun d => d.parameters.length) = some 1)⟩ hP hD hS [2] [0, 1] rfl rfl ⟨by decide, by decide, by decide⟩ ⟨⟨Nat.le_of_ble_eq_true rfl, Nat.le_of_ble_eq_true rfl⟩, Nat.le_of_ble_eq_true rfl, Nat.le_of_ble_eq_true rfl⟩ rfl (Nat.le_of_ble_eq_true rfl) d58_5 (fun vv ww H locs hR hP hD hS => ?_)
  obtain ⟨rfl, rfl⟩ := hR
  have hP : va_P D vwCl [(h, .inr (0, [.ref (r 0), .ref (r 2), .ref (r 4), .ref (r 8), .int 0, .int 0])), ((r 4), .inr (1, [.ref (r 5), .int 0, .ref (r 6), .int 0, .ref (r 7), .int 0])), (q1, .inr (7, [.int i, .int 0, .int 0]))] H := hP
  have hD : va_D A [(h, .inr (0, [.ref (r 0), .ref (r 2), .ref (r 4), .ref (r 8), .int 0, .int 0])), ((r 4), .inr (1, [.ref (r 5), .int 0, .ref (r 6), .int 0, .ref (r 7), .int 0])), (q1, .inr (7, [.int i, .int 0, .int 0]))] := hD
  refine W.eq (g2 := F0 m 8 ls [.ref q1]) rfl ?_
  refine lv_astore_n hx hb d58_8 rfl hl (by decide) rfl (fun ls hl => ?_)
  have hl : lv_has ls 3 [(2, .ref q1), (0, .ref h), (1, .int i)] := hl
  refine lv_aload_n hx hb d58_9 rfl (lv_at hl 0 rfl) ?_
  refine lv_aload_n hx hb d58_10 rfl (lv_at hl 1 rfl) ?_
  refine va_get (D := D) (ci := 0) (v := .ref (r 4)) (C := kR0) (T := kT0) (N := 6) hx hb hts ku0 hown hK hP 0 rfl rfl 2 (by decide) (hts _ ms_k107) (fun _ h => h) rfl d58_11 ?_
  refine ms_V (C := "MarkupStore$Scribe") (rest := []) (as := [.ref (r 4)]) (wr := [(h, .inr (0, [.ref (r 0), .ref (r 2), .ref (r 4), .ref (r 8), .int 0, .int 0]))]) X hl (c_SCwrite l D dA s0 hE q1 (r 4) (r 5) (r 6) (r 7) i) (List.forall_mem_cons.mpr ⟨ms_k1264, List.forall_mem_cons.mpr ⟨ms_k1265, List.forall_mem_cons.mpr ⟨ms_k1266, List.forall_mem_cons.mpr ⟨ms_k30, List.forall_mem_cons.mpr ⟨ms_k1267, fun _ h => absurd h List.not_mem_nil⟩⟩⟩⟩⟩) ⟨rfl, by decide +kernel, by decide +kernel, (by decide +kernel : (parseMethodDescriptor "(LMarkupStore$Tree;)V").map (fun d => d.parameters.length) = some 1)⟩ (va_recv hK hP rfl (q0 := 2) rfl) hP hD hS [2, 1] [0] rfl rfl ⟨by decide, by decide, by decide⟩ ⟨⟨Nat.le_of_ble_eq_true rfl, Nat.le_of_ble_eq_true rfl⟩, Nat.le_of_ble_eq_true rfl, Nat.le_of_ble_eq_true rfl⟩ rfl (Nat.le_of_ble_eq_true rfl) d58_14 (fun vv ww H locs hR hP hD hS => ?_)
  obtain ⟨rfl, rfl⟩ := hR
  have hP : va_P D vwCl [(h, .inr (0, [.ref (r 0), .ref (r 2), .ref (r 4), .ref (r 8), .int 0, .int 0])), (q1, .inr (7, [.int i, .int 0, .int 0])), ((r 4), .inr (1, [.ref (r 5), .int 0, .ref (r 6), .int 0, .ref (r 7), .int 0]))] H := hP
  have hD : va_D A [(h, .inr (0, [.ref (r 0), .ref (r 2), .ref (r 4), .ref (r 8), .int 0, .int 0])), (q1, .inr (7, [.int i, .int 0, .int 0])), ((r 4), .inr (1, [.ref (r 5), .int 0, .ref (r 6), .int 0, .ref (r 7), .int 0]))] := hD
  refine W.eq (g2 := F0 m 17 ls []) rfl ?_
  refine lv_aload_n hx hb d58_17 rfl (lv_at hl 0 rfl) ?_
  refine va_get (D := D) (ci := 7) (v := .int 0) (C := kR7) (T := kT7) (N := 3) hx hb hts ku7 hown hK hP 1 rfl rfl 2 (by decide) (hts _ ms_k1256) (fun _ h => h) rfl d58_18 ?_
  exact ms_iret X d58_21 hP hD hS (Nat.le_of_ble_eq_true rfl) (Nat.le_of_ble_eq_true rfl) rfl
