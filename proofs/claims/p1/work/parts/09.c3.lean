set_option maxRecDepth 100000 in
set_option maxHeartbeats 8000000 in
theorem c_place (l : Launch) (D : va_G) (dA : Nat → ClassId) (s0 : State) (hE : ms_EV D dA s0) (h : Nat) (r : Nat → Nat) (i : Int32) : ms_C l D s0 yM61 bM61 3 (Option.some Jvm.ClassFile.FieldType.int) 1 20 0 0 [.ref h, .int i] [(h, .inr (2, [.ref (r 0), .ref (r 1), .ref (r 2), .ref (r 3), .int 0, .int 0, .ref (r 6), .int 0, .int 0, .int 0, .int 0, .int 0, .int 0, .int 0, .int 0, .ref (r 15), .ref (r 16), .ref (r 17), .int 0, .int 0, .ref (r 20), .ref (r 21), .ref (r 22), .int 0, .int 0, .ref (r 25), .ref (r 26), .ref (r 27), .ref (r 28), .ref (r 29), .ref (r 30), .int 0, .ref (r 32), .ref (r 33), .ref (r 34), .ref (r 35), .ref (r 36), .ref (r 37), .ref (r 38), .ref (r 39), .ref (r 40), .ref (r 41), .ref (r 42), .int 0, .ref (r 44), .int 0, .int 0, .int 0, .int 0, .int 0, .ref (r 50), .ref (r 51), .ref (r 52), .int 0, .ref (r 54), .int 0, .ref (r 56), .int 0, .int 0, .int 0])), ((r 0), .inl (dA 0, 5161, .inl (fun _ => 0)))] (fun vv ww => vv = some (.int (-1)) ∧ ww = [(h, .inr (2, [.ref (r 0), .ref (r 1), .ref (r 2), .ref (r 3), .int 0, .int 0, .ref (r 6), .int 0, .int 0, .int 0, .int 0, .int 0, .int 0, .int 0, .int 0, .ref (r 15), .ref (r 16), .ref (r 17), .int 0, .int 0, .ref (r 20), .ref (r 21), .ref (r 22), .int 0, .int 0, .ref (r 25), .ref (r 26), .ref (r 27), .ref (r 28), .ref (r 29), .ref (r 30), .int 0, .ref (r 32), .ref (r 33), .ref (r 34), .ref (r 35), .ref (r 36), .ref (r 37), .ref (r 38), .ref (r 39), .ref (r 40), .ref (r 41), .ref (r 42), .int 0, .ref (r 44), .int 0, .int 0, .int 0, .int 0, .int 0, .ref (r 50), .ref (r 51), .ref (r 52), .int 0, .ref (r 54), .int 0, .ref (r 56), .int 0, .int 0, .int 0])), ((r 0), .inl (dA 0, 5161, .inl (fun _ => 0)))]) := by
  refine ms_C.mk hE.1 (by decide) (Nat.le_of_ble_eq_true rfl) [(0, .ref h), (1, .int i)] rfl ?_
  intro p e s m below meth c A ls X hin hP hD hS hl
  have hx := X.1
  have hb := X.2.1
  have hml := X.2.2.1
  have hown : s.vm.findClass "MarkupStoreModel" = some m.cls := X.2.2.2.1
  have hts := X.2.2.2.2.2.2.1
  have hK := X.2.2.2.2.2.2.2.2.1
  have hA := X.2.2.2.2.2.2.2.2.2.2
  refine lv_iconst (v := 0) hx hb d61_0 (by decide) ?_
  refine lv_istore_n hx hb d61_1 rfl hl (by decide) rfl (fun ls hl => ?_)
  have hl : lv_has ls 3 [(2, .int 0), (0, .ref h), (1, .int i)] := hl
  refine lv_iload_n hx hb d61_2 rfl (lv_at hl 0 rfl) ?_
  refine lv_aload_n hx hb d61_3 rfl (lv_at hl 1 rfl) ?_
  refine ms_V (C := "MarkupStoreModel") (rest := [.int 0]) (as := []) (wr := []) X hl (c_count l D dA s0 hE h r 0) (List.forall_mem_cons.mpr ⟨ms_k1583, List.forall_mem_cons.mpr ⟨ms_k1585, List.forall_mem_cons.mpr ⟨ms_p62, List.forall_mem_cons.mpr ⟨ms_k7, List.forall_mem_cons.mpr ⟨ms_k1586, fun _ h => absurd h List.not_mem_nil⟩⟩⟩⟩⟩) ⟨rfl, by decide +kernel, by decide +kernel, (by decide +kernel : (parseMethodDescriptor "()I").map (fun d => d.parameters.length) = some 0)⟩ (va_recv hK hP rfl (q0 := 0) rfl) hP hD hS [0, 1] [] rfl rfl ⟨by decide, by decide, by decide⟩ ⟨⟨Nat.le_of_ble_eq_true rfl, Nat.le_of_ble_eq_true rfl⟩, Nat.le_of_ble_eq_true rfl, Nat.le_of_ble_eq_true rfl⟩ rfl (Nat.le_of_ble_eq_true rfl) d61_4 (fun vv ww H locs hR hP hD hS => ?_)
  obtain ⟨rfl, rfl⟩ := hR
  have hP : va_P D vwCl [(h, .inr (2, [.ref (r 0), .ref (r 1), .ref (r 2), .ref (r 3), .int 0, .int 0, .ref (r 6), .int 0, .int 0, .int 0, .int 0, .int 0, .int 0, .int 0, .int 0, .ref (r 15), .ref (r 16), .ref (r 17), .int 0, .int 0, .ref (r 20), .ref (r 21), .ref (r 22), .int 0, .int 0, .ref (r 25), .ref (r 26), .ref (r 27), .ref (r 28), .ref (r 29), .ref (r 30), .int 0, .ref (r 32), .ref (r 33), .ref (r 34), .ref (r 35), .ref (r 36), .ref (r 37), .ref (r 38), .ref (r 39), .ref (r 40), .ref (r 41), .ref (r 42), .int 0, .ref (r 44), .int 0, .int 0, .int 0, .int 0, .int 0, .ref (r 50), .ref (r 51), .ref (r 52), .int 0, .ref (r 54), .int 0, .ref (r 56), .int 0, .int 0, .int 0])), ((r 0), .inl (dA 0, 5161, .inl (fun _ => 0)))] H := hP
  have hD : va_D A [(h, .inr (2, [.ref (r 0), .ref (r 1), .ref (r 2), .ref (r 3), .int 0, .int 0, .ref (r 6), .int 0, .int 0, .int 0, .int 0, .int 0, .int 0, .int 0, .int 0, .ref (r 15), .ref (r 16), .ref (r 17), .int 0, .int 0, .ref (r 20), .ref (r 21), .ref (r 22), .int 0, .int 0, .ref (r 25), .ref (r 26), .ref (r 27), .ref (r 28), .ref (r 29), .ref (r 30), .int 0, .ref (r 32), .ref (r 33), .ref (r 34), .ref (r 35), .ref (r 36), .ref (r 37), .ref (r 38), .ref (r 39), .ref (r 40), .ref (r 41), .ref (r 42), .int 0, .ref (r 44), .int 0, .int 0, .int 0, .int 0, .int 0, .ref (r 50), .ref (r 51), .ref (r 52), .int 0, .ref (r 54), .int 0, .ref (r 56), .int 0, .int 0, .int 0])), ((r 0), .inl (dA 0, 5161, .inl (fun _ => 0)))] := hD
  refine W.eq (g2 := F0 m 7 ls [.int 0, .int 0]) rfl ?_
  refine lv_icmp_ge hx hb d61_7 rfl (fun _ => ?_) (fun h9 => absurd (by decide) h9)
  refine lv_iconst (v := (-1)) hx hb d61_38 (by decide) ?_
  exact ms_iret X d61_39 hP hD hS (Nat.le_of_ble_eq_true rfl) (Nat.le_of_ble_eq_true rfl) (⟨rfl, rfl⟩)

set_option maxRecDepth 100000 in
set_option maxHeartbeats 8000000 in
theorem c_mtype (l : Launch) (D : va_G) (dA : Nat → ClassId) (s0 : State) (hE : ms_EV D dA s0) (h : Nat) (r : Nat → Nat) (z : Int32) : ms_C l D s0 yM62 bM62 2 (Option.some Jvm.ClassFile.FieldType.boolean) 0 0 0 0 [.ref h, .int z] [(h, .inr (2, [.ref (r 0), .ref (r 1), .ref (r 2), .ref (r 3), .int 0, .int 0, .ref (r 6), .int 0, .int 0, .int 0, .int 0, .int 0, .int 0, .int 0, .int 0, .ref (r 15), .ref (r 16), .ref (r 17), .int 0, .int 0, .ref (r 20), .ref (r 21), .ref (r 22), .int 0, .int 0, .ref (r 25), .ref (r 26), .ref (r 27), .ref (r 28), .ref (r 29), .ref (r 30), .int 0, .ref (r 32), .ref (r 33), .ref (r 34), .ref (r 35), .ref (r 36), .ref (r 37), .ref (r 38), .ref (r 39), .ref (r 40), .ref (r 41), .ref (r 42), .int 0, .ref (r 44), .int 0, .int 0, .int 0, .int 0, .int 0, .ref (r 50), .ref (r 51), .ref (r 52), .int 0, .ref (r 54), .int 0, .ref (r 56), .int 0, .int 0, .int 0])), ((r 6), .inl (dA 1, 120, .inl (fun _ => 0)))] (fun vv _ => vv = some (.int (ms_ty z))) := by
  refine ms_C.mk hE.1 (by decide) (Nat.le_of_ble_eq_true rfl) [(0, .ref h), (1, .int z)] rfl ?_
  intro p e s m below meth c A ls X hin hP hD hS hl
  have hx := X.1
  have hb := X.2.1
  have hml := X.2.2.1
  have hown : s.vm.findClass "MarkupStoreModel" = some m.cls := X.2.2.2.1
  have hts := X.2.2.2.2.2.2.1
  have hK := X.2.2.2.2.2.2.2.2.1
  have hA := X.2.2.2.2.2.2.2.2.2.2
  refine lv_iload_n hx hb d62_0 rfl (lv_at hl 1 rfl) ?_
  refine lv_bipush (v := 32) hx hb d62_1 (by decide) ?_
  refine lv_icmp_lt hx hb d62_3 rfl (fun h1 => ?_) (fun h1 => ?_)
  · refine lv_iconst (v := 0) hx hb d62_21 (by decide) ?_
    exact ms_zret X d62_22 hP hD hS (Nat.le_of_ble_eq_true rfl) (Nat.le_of_ble_eq_true rfl) (by simp [ms_ty, h1]) (rfl)
  · refine lv_iload_n hx hb d62_6 rfl (lv_at hl 1 rfl) ?_
    refine lv_bipush (v := 126) hx hb d62_7 (by decide) ?_
    refine lv_icmp_gt hx hb d62_9 rfl (fun h2 => ?_) (fun h2 => ?_)
    · refine lv_iconst (v := 0) hx hb d62_21 (by decide) ?_
      exact ms_zret X d62_22 hP hD hS (Nat.le_of_ble_eq_true rfl) (Nat.le_of_ble_eq_true rfl) (by simp [ms_ty, h1, h2]) (rfl)
    · refine lv_aload_n hx hb d62_12 rfl (lv_at hl 0 rfl) ?_
      refine va_get (D := D) (ci := 2) (v := .int 0) (C := kR2) (T := kT2) (N := 60) hx hb hts ku2 hown hK hP 0 rfl rfl 7 (by decide) (hts _ ms_k1323) (fun _ h => h) rfl d62_13 ?_
      refine lv_bipush (v := 120) hx hb d62_16 (by decide) ?_
      refine lv_icmp_lt hx hb d62_18 rfl (fun _ => ?_) (fun h9 => absurd (by decide) h9)
      refine lv_aload_n hx hb d62_23 rfl (lv_at hl 0 rfl) ?_
      refine va_get (D := D) (ci := 2) (v := .ref (r 6)) (C := kR2) (T := kT2) (N := 60) hx hb hts ku2 hown hK hP 0 rfl rfl 6 (by decide) (hts _ ms_k1322) (fun _ h => h) rfl d62_24 ?_
      refine lv_aload_n hx hb d62_27 rfl (lv_at hl 0 rfl) ?_
      refine va_get (D := D) (ci := 2) (v := .int 0) (C := kR2) (T := kT2) (N := 60) hx hb hts ku2 hown hK hP 0 rfl rfl 7 (by decide) (hts _ ms_k1323) (fun _ h => h) rfl d62_28 ?_
      refine lv_iload_n hx hb d62_31 rfl (lv_at hl 1 rfl) ?_
      refine va_cast hx hb hK hP hD hS 1 1 rfl rfl (by unfold vp_in; decide) d62_32 (fun H locs hP hD hS => ?_)
      have hP : va_P D vwCl [(h, .inr (2, [.ref (r 0), .ref (r 1), .ref (r 2), .ref (r 3), .int 0, .int 0, .ref (r 6), .int 0, .int 0, .int 0, .int 0, .int 0, .int 0, .int 0, .int 0, .ref (r 15), .ref (r 16), .ref (r 17), .int 0, .int 0, .ref (r 20), .ref (r 21), .ref (r 22), .int 0, .int 0, .ref (r 25), .ref (r 26), .ref (r 27), .ref (r 28), .ref (r 29), .ref (r 30), .int 0, .ref (r 32), .ref (r 33), .ref (r 34), .ref (r 35), .ref (r 36), .ref (r 37), .ref (r 38), .ref (r 39), .ref (r 40), .ref (r 41), .ref (r 42), .int 0, .ref (r 44), .int 0, .int 0, .int 0, .int 0, .int 0, .ref (r 50), .ref (r 51), .ref (r 52), .int 0, .ref (r 54), .int 0, .ref (r 56), .int 0, .int 0, .int 0])), ((r 6), .inl (dA 1, 120, .inl (upd (fun _ => 0) 0 (vp_nar .char z))))] H := hP
      have hD : va_D A [(h, .inr (2, [.ref (r 0), .ref (r 1), .ref (r 2), .ref (r 3), .int 0, .int 0, .ref (r 6), .int 0, .int 0, .int 0, .int 0, .int 0, .int 0, .int 0, .int 0, .ref (r 15), .ref (r 16), .ref (r 17), .int 0, .int 0, .ref (r 20), .ref (r 21), .ref (r 22), .int 0, .int 0, .ref (r 25), .ref (r 26), .ref (r 27), .ref (r 28), .ref (r 29), .ref (r 30), .int 0, .ref (r 32), .ref (r 33), .ref (r 34), .ref (r 35), .ref (r 36), .ref (r 37), .ref (r 38), .ref (r 39), .ref (r 40), .ref (r 41), .ref (r 42), .int 0, .ref (r 44), .int 0, .int 0, .int 0, .int 0, .int 0, .ref (r 50), .ref (r 51), .ref (r 52), .int 0, .ref (r 54), .int 0, .ref (r 56), .int 0, .int 0, .int 0])), ((r 6), .inl (dA 1, 120, .inl (upd (fun _ => 0) 0 (vp_nar .char z))))] := hD
      refine lv_aload_n hx hb d62_33 rfl (lv_at hl 0 rfl) ?_
      refine lv_dup hx hb d62_34 rfl ?_
      refine va_get (D := D) (ci := 2) (v := .int 0) (C := kR2) (T := kT2) (N := 60) hx hb hts ku2 hown hK hP 0 rfl rfl 7 (by decide) (hts _ ms_k1323) (fun _ h => h) rfl d62_35 ?_
      refine lv_iconst (v := 1) hx hb d62_38 (by decide) ?_
      refine lv_iadd hx hb d62_39 ?_
      refine ms_top (y := 1) (by decide) ?_
      refine va_put (D := D) (ci := 2) (v := .int 1) (ty := .int) (C := kR2) (T := kT2) (N := 60) hx hb hts ku2 kt2 kp2 kn2 hown hK hP hD hS 0 rfl rfl 7 (by decide) (hts _ ms_k1323) (fun _ h => h) rfl (by decide +kernel) rfl rfl (Nat.le_of_ble_eq_true rfl) d62_40 (fun H locs hP hD hS => ?_)
      have hP : va_P D vwCl [(h, .inr (2, [.ref (r 0), .ref (r 1), .ref (r 2), .ref (r 3), .int 0, .int 0, .ref (r 6), .int 1, .int 0, .int 0, .int 0, .int 0, .int 0, .int 0, .int 0, .ref (r 15), .ref (r 16), .ref (r 17), .int 0, .int 0, .ref (r 20), .ref (r 21), .ref (r 22), .int 0, .int 0, .ref (r 25), .ref (r 26), .ref (r 27), .ref (r 28), .ref (r 29), .ref (r 30), .int 0, .ref (r 32), .ref (r 33), .ref (r 34), .ref (r 35), .ref (r 36), .ref (r 37), .ref (r 38), .ref (r 39), .ref (r 40), .ref (r 41), .ref (r 42), .int 0, .ref (r 44), .int 0, .int 0, .int 0, .int 0, .int 0, .ref (r 50), .ref (r 51), .ref (r 52), .int 0, .ref (r 54), .int 0, .ref (r 56), .int 0, .int 0, .int 0])), ((r 6), .inl (dA 1, 120, .inl (upd (fun _ => 0) 0 (vp_nar .char z))))] H := hP
      have hD : va_D A [(h, .inr (2, [.ref (r 0), .ref (r 1), .ref (r 2), .ref (r 3), .int 0, .int 0, .ref (r 6), .int 1, .int 0, .int 0, .int 0, .int 0, .int 0, .int 0, .int 0, .ref (r 15), .ref (r 16), .ref (r 17), .int 0, .int 0, .ref (r 20), .ref (r 21), .ref (r 22), .int 0, .int 0, .ref (r 25), .ref (r 26), .ref (r 27), .ref (r 28), .ref (r 29), .ref (r 30), .int 0, .ref (r 32), .ref (r 33), .ref (r 34), .ref (r 35), .ref (r 36), .ref (r 37), .ref (r 38), .ref (r 39), .ref (r 40), .ref (r 41), .ref (r 42), .int 0, .ref (r 44), .int 0, .int 0, .int 0, .int 0, .int 0, .ref (r 50), .ref (r 51), .ref (r 52), .int 0, .ref (r 54), .int 0, .ref (r 56), .int 0, .int 0, .int 0])), ((r 6), .inl (dA 1, 120, .inl (upd (fun _ => 0) 0 (vp_nar .char z))))] := hD
      refine lv_iconst (v := 1) hx hb d62_43 (by decide) ?_
      exact ms_zret X d62_44 hP hD hS (Nat.le_of_ble_eq_true rfl) (Nat.le_of_ble_eq_true rfl) (by simp [ms_ty, h1, h2]) (rfl)

set_option maxRecDepth 100000 in
set_option maxHeartbeats 8000000 in
theorem c_merror (l : Launch) (D : va_G) (dA : Nat → ClassId) (s0 : State) (hE : ms_EV D dA s0) (h : Nat) (r : Nat → Nat) : ms_C l D s0 yM63 bM63 2 (Option.none : Option Jvm.ClassFile.FieldType) 0 0 0 0 [.ref h, .int 0] [(h, .inr (2, [.ref (r 0), .ref (r 1), .ref (r 2), .ref (r 3), .int 0, .int 0, .ref (r 6), .int 0, .int 0, .int (-1), .int 0, .int 0, .int (-1), .int 0, .int 0, .ref (r 15), .ref (r 16), .ref (r 17), .int 0, .int 0, .ref (r 20), .ref (r 21), .ref (r 22), .int 0, .int 0, .ref (r 25), .ref (r 26), .ref (r 27), .ref (r 28), .ref (r 29), .ref (r 30), .int 0, .ref (r 32), .ref (r 33), .ref (r 34), .ref (r 35), .ref (r 36), .ref (r 37), .ref (r 38), .ref (r 39), .ref (r 40), .ref (r 41), .ref (r 42), .int 0, .ref (r 44), .int 0, .int 0, .int 0, .int 0, .int 0, .ref (r 50), .ref (r 51), .ref (r 52), .int 0, .ref (r 54), .int 0, .ref (r 56), .int 0, .int 0, .int 0]))] (fun vv ww => vv = none ∧ ww = [(h, .inr (2, [.ref (r 0), .ref (r 1), .ref (r 2), .ref (r 3), .int 0, .int 0, .ref (r 6), .int 0, .int 0, .int 0, .int 0, .int 0, .int (-1), .int 0, .int 0, .ref (r 15), .ref (r 16), .ref (r 17), .int 0, .int 0, .ref (r 20), .ref (r 21), .ref (r 22), .int 0, .int 0, .ref (r 25), .ref (r 26), .ref (r 27), .ref (r 28), .ref (r 29), .ref (r 30), .int 0, .ref (r 32), .ref (r 33), .ref (r 34), .ref (r 35), .ref (r 36), .ref (r 37), .ref (r 38), .ref (r 39), .ref (r 40), .ref (r 41), .ref (r 42), .int 0, .ref (r 44), .int 0, .int 0, .int 0, .int 0, .int 0, .ref (r 50), .ref (r 51), .ref (r 52), .int 0, .ref (r 54), .int 0, .ref (r 56), .int 0, .int 0, .int 0]))]) := by
  refine ms_C.mk hE.1 (by decide) (Nat.le_of_ble_eq_true rfl) [(0, .ref h), (1, .int 0)] rfl ?_
  intro p e s m below meth c A ls X hin hP hD hS hl
  have hx := X.1
  have hb := X.2.1
  have hml := X.2.2.1
  have hown : s.vm.findClass "MarkupStoreModel" = some m.cls := X.2.2.2.1
  have hts := X.2.2.2.2.2.2.1
  have hK := X.2.2.2.2.2.2.2.2.1
  have hA := X.2.2.2.2.2.2.2.2.2.2
  refine lv_aload_n hx hb d63_0 rfl (lv_at hl 0 rfl) ?_
  refine va_get (D := D) (ci := 2) (v := .int (-1)) (C := kR2) (T := kT2) (N := 60) hx hb hts ku2 hown hK hP 0 rfl rfl 9 (by decide) (hts _ ms_k1325) (fun _ h => h) rfl d63_1 ?_
  refine lv_if_ge hx hb d63_4 rfl (fun h9 => absurd h9 (by decide)) (fun _ => ?_)
  refine lv_aload_n hx hb d63_7 rfl (lv_at hl 0 rfl) ?_
  refine lv_iload_n hx hb d63_8 rfl (lv_at hl 1 rfl) ?_
  refine lv_aload_n hx hb d63_9 rfl (lv_at hl 0 rfl) ?_
  refine va_get (D := D) (ci := 2) (v := .int 0) (C := kR2) (T := kT2) (N := 60) hx hb hts ku2 hown hK hP 0 rfl rfl 7 (by decide) (hts _ ms_k1323) (fun _ h => h) rfl d63_10 ?_
  refine lv_icmp_ge hx hb d63_13 rfl (fun _ => ?_) (fun h9 => absurd (by decide) h9)
  refine lv_aload_n hx hb d63_20 rfl (lv_at hl 0 rfl) ?_
  refine va_get (D := D) (ci := 2) (v := .int 0) (C := kR2) (T := kT2) (N := 60) hx hb hts ku2 hown hK hP 0 rfl rfl 7 (by decide) (hts _ ms_k1323) (fun _ h => h) rfl d63_21 ?_
  refine va_put (D := D) (ci := 2) (v := .int 0) (ty := .int) (C := kR2) (T := kT2) (N := 60) hx hb hts ku2 kt2 kp2 kn2 hown hK hP hD hS 0 rfl rfl 9 (by decide) (hts _ ms_k1325) (fun _ h => h) rfl (by decide +kernel) rfl rfl (Nat.le_of_ble_eq_true rfl) d63_24 (fun H locs hP hD hS => ?_)
  have hP : va_P D vwCl [(h, .inr (2, [.ref (r 0), .ref (r 1), .ref (r 2), .ref (r 3), .int 0, .int 0, .ref (r 6), .int 0, .int 0, .int 0, .int 0, .int 0, .int (-1), .int 0, .int 0, .ref (r 15), .ref (r 16), .ref (r 17), .int 0, .int 0, .ref (r 20), .ref (r 21), .ref (r 22), .int 0, .int 0, .ref (r 25), .ref (r 26), .ref (r 27), .ref (r 28), .ref (r 29), .ref (r 30), .int 0, .ref (r 32), .ref (r 33), .ref (r 34), .ref (r 35), .ref (r 36), .ref (r 37), .ref (r 38), .ref (r 39), .ref (r 40), .ref (r 41), .ref (r 42), .int 0, .ref (r 44), .int 0, .int 0, .int 0, .int 0, .int 0, .ref (r 50), .ref (r 51), .ref (r 52), .int 0, .ref (r 54), .int 0, .ref (r 56), .int 0, .int 0, .int 0]))] H := hP
  have hD : va_D A [(h, .inr (2, [.ref (r 0), .ref (r 1), .ref (r 2), .ref (r 3), .int 0, .int 0, .ref (r 6), .int 0, .int 0, .int 0, .int 0, .int 0, .int (-1), .int 0, .int 0, .ref (r 15), .ref (r 16), .ref (r 17), .int 0, .int 0, .ref (r 20), .ref (r 21), .ref (r 22), .int 0, .int 0, .ref (r 25), .ref (r 26), .ref (r 27), .ref (r 28), .ref (r 29), .ref (r 30), .int 0, .ref (r 32), .ref (r 33), .ref (r 34), .ref (r 35), .ref (r 36), .ref (r 37), .ref (r 38), .ref (r 39), .ref (r 40), .ref (r 41), .ref (r 42), .int 0, .ref (r 44), .int 0, .int 0, .int 0, .int 0, .int 0, .ref (r 50), .ref (r 51), .ref (r 52), .int 0, .ref (r 54), .int 0, .ref (r 56), .int 0, .int 0, .int 0]))] := hD
  exact ms_vret X d63_27 hP hD hS (Nat.le_of_ble_eq_true rfl) (Nat.le_of_ble_eq_true rfl) (⟨rfl, rfl⟩)

set_option maxRecDepth 100000 in
set_option maxHeartbeats 8000000 in
theorem c_parse (l : Launch) (D : va_G) (dA : Nat → ClassId) (s0 : State) (hE : ms_EV D dA s0) (h : Nat) (r : Nat → Nat) : ms_C l D s0 yM64 bM64 5 (Option.none : Option Jvm.ClassFile.FieldType) 1 21 0 0 [.ref h, .int 1, .int 0] [(h, .inr (2, [.ref (r 0), .ref (r 1), .ref (r 2), .ref (r 3), .int 0, .int 0, .ref (r 6), .int 0, .int 0, .int 0, .int 0, .int 0, .int 0, .int 0, .int 0, .ref (r 15), .ref (r 16), .ref (r 17), .int 0, .int 0, .ref (r 20), .ref (r 21), .ref (r 22), .int 0, .int 0, .ref (r 25), .ref (r 26), .ref (r 27), .ref (r 28), .ref (r 29), .ref (r 30), .int 0, .ref (r 32), .ref (r 33), .ref (r 34), .ref (r 35), .ref (r 36), .ref (r 37), .ref (r 38), .ref (r 39), .ref (r 40), .ref (r 41), .ref (r 42), .int 0, .ref (r 44), .int 0, .int 0, .int 0, .int 0, .int 0, .ref (r 50), .ref (r 51), .ref (r 52), .int 0, .ref (r 54), .int 0, .ref (r 56), .int 0, .int 0, .int 0]))] (fun vv ww => vv = none ∧ ww = [(h, .inr (2, [.ref (r 0), .ref (r 1), .ref (r 2), .ref (r 3), .int 0, .int 0, .ref (r 6), .int 0, .int 0, .int 0, .int 0, .int 0, .int (-1), .int 0, .int 0, .ref (r 15), .ref (r 16), .ref (r 17), .int 0, .int 0, .ref (r 20), .ref (r 21), .ref (r 22), .int 0, .int 0, .ref (r 25), .ref (r 26), .ref (r 27), .ref (r 28), .ref (r 29), .ref (r 30), .int 0, .ref (r 32), .ref (r 33), .ref (r 34), .ref (r 35), .ref (r 36), .ref (r 37), .ref (r 38), .ref (r 39), .ref (r 40), .ref (r 41), .ref (r 42), .int 0, .ref (r 44), .int 0, .int 0, .int 0, .int 0, .int 0, .ref (r 50), .ref (r 51), .ref (r 52), .int 0, .ref (r 54), .int 0, .ref (r 56), .int 0, .int 0, .int 0]))]) := by
  refine ms_C.mk hE.1 (by decide) (Nat.le_of_ble_eq_true rfl) [(0, .ref h), (1, .int 1), (2, .int 0)] rfl ?_
  intro p e s m below meth c A ls X hin hP hD hS hl
  have hx := X.1
  have hb := X.2.1
  have hml := X.2.2.1
  have hown : s.vm.findClass "MarkupStoreModel" = some m.cls := X.2.2.2.1
  have hts := X.2.2.2.2.2.2.1
  have hK := X.2.2.2.2.2.2.2.2.1
  have hA := X.2.2.2.2.2.2.2.2.2.2
  refine lv_aload_n hx hb d64_0 rfl (lv_at hl 0 rfl) ?_
  refine lv_iconst (v := 0) hx hb d64_1 (by decide) ?_
  refine va_put (D := D) (ci := 2) (v := .int 0) (ty := .int) (C := kR2) (T := kT2) (N := 60) hx hb hts ku2 kt2 kp2 kn2 hown hK hP hD hS 0 rfl rfl 8 (by decide) (hts _ ms_k1324) (fun _ h => h) rfl (by decide +kernel) rfl rfl (Nat.le_of_ble_eq_true rfl) d64_2 (fun H locs hP hD hS => ?_)
  have hP : va_P D vwCl [(h, .inr (2, [.ref (r 0), .ref (r 1), .ref (r 2), .ref (r 3), .int 0, .int 0, .ref (r 6), .int 0, .int 0, .int 0, .int 0, .int 0, .int 0, .int 0, .int 0, .ref (r 15), .ref (r 16), .ref (r 17), .int 0, .int 0, .ref (r 20), .ref (r 21), .ref (r 22), .int 0, .int 0, .ref (r 25), .ref (r 26), .ref (r 27), .ref (r 28), .ref (r 29), .ref (r 30), .int 0, .ref (r 32), .ref (r 33), .ref (r 34), .ref (r 35), .ref (r 36), .ref (r 37), .ref (r 38), .ref (r 39), .ref (r 40), .ref (r 41), .ref (r 42), .int 0, .ref (r 44), .int 0, .int 0, .int 0, .int 0, .int 0, .ref (r 50), .ref (r 51), .ref (r 52), .int 0, .ref (r 54), .int 0, .ref (r 56), .int 0, .int 0, .int 0]))] H := hP
  have hD : va_D A [(h, .inr (2, [.ref (r 0), .ref (r 1), .ref (r 2), .ref (r 3), .int 0, .int 0, .ref (r 6), .int 0, .int 0, .int 0, .int 0, .int 0, .int 0, .int 0, .int 0, .ref (r 15), .ref (r 16), .ref (r 17), .int 0, .int 0, .ref (r 20), .ref (r 21), .ref (r 22), .int 0, .int 0, .ref (r 25), .ref (r 26), .ref (r 27), .ref (r 28), .ref (r 29), .ref (r 30), .int 0, .ref (r 32), .ref (r 33), .ref (r 34), .ref (r 35), .ref (r 36), .ref (r 37), .ref (r 38), .ref (r 39), .ref (r 40), .ref (r 41), .ref (r 42), .int 0, .ref (r 44), .int 0, .int 0, .int 0, .int 0, .int 0, .ref (r 50), .ref (r 51), .ref (r 52), .int 0, .ref (r 54), .int 0, .ref (r 56), .int 0, .int 0, .int 0]))] := hD
  refine lv_aload_n hx hb d64_5 rfl (lv_at hl 0 rfl) ?_
  refine lv_iconst (v := (-1)) hx hb d64_6 (by decide) ?_
  refine va_put (D := D) (ci := 2) (v := .int (-1)) (ty := .int) (C := kR2) (T := kT2) (N := 60) hx hb hts ku2 kt2 kp2 kn2 hown hK hP hD hS 0 rfl rfl 9 (by decide) (hts _ ms_k1325) (fun _ h => h) rfl (by decide +kernel) rfl rfl (Nat.le_of_ble_eq_true rfl) d64_7 (fun H locs hP hD hS => ?_)
  have hP : va_P D vwCl [(h, .inr (2, [.ref (r 0), .ref (r 1), .ref (r 2), .ref (r 3), .int 0, .int 0, .ref (r 6), .int 0, .int 0, .int (-1), .int 0, .int 0, .int 0, .int 0, .int 0, .ref (r 15), .ref (r 16), .ref (r 17), .int 0, .int 0, .ref (r 20), .ref (r 21), .ref (r 22), .int 0, .int 0, .ref (r 25), .ref (r 26), .ref (r 27), .ref (r 28), .ref (r 29), .ref (r 30), .int 0, .ref (r 32), .ref (r 33), .ref (r 34), .ref (r 35), .ref (r 36), .ref (r 37), .ref (r 38), .ref (r 39), .ref (r 40), .ref (r 41), .ref (r 42), .int 0, .ref (r 44), .int 0, .int 0, .int 0, .int 0, .int 0, .ref (r 50), .ref (r 51), .ref (r 52), .int 0, .ref (r 54), .int 0, .ref (r 56), .int 0, .int 0, .int 0]))] H := hP
  have hD : va_D A [(h, .inr (2, [.ref (r 0), .ref (r 1), .ref (r 2), .ref (r 3), .int 0, .int 0, .ref (r 6), .int 0, .int 0, .int (-1), .int 0, .int 0, .int 0, .int 0, .int 0, .ref (r 15), .ref (r 16), .ref (r 17), .int 0, .int 0, .ref (r 20), .ref (r 21), .ref (r 22), .int 0, .int 0, .ref (r 25), .ref (r 26), .ref (r 27), .ref (r 28), .ref (r 29), .ref (r 30), .int 0, .ref (r 32), .ref (r 33), .ref (r 34), .ref (r 35), .ref (r 36), .ref (r 37), .ref (r 38), .ref (r 39), .ref (r 40), .ref (r 41), .ref (r 42), .int 0, .ref (r 44), .int 0, .int 0, .int 0, .int 0, .int 0, .ref (r 50), .ref (r 51), .ref (r 52), .int 0, .ref (r 54), .int 0, .ref (r 56), .int 0, .int 0, .int 0]))] := hD
  refine lv_aload_n hx hb d64_10 rfl (lv_at hl 0 rfl) ?_
  refine lv_iconst (v := 0) hx hb d64_11 (by decide) ?_
  refine va_put (D := D) (ci := 2) (v := .int 0) (ty := .int) (C := kR2) (T := kT2) (N := 60) hx hb hts ku2 kt2 kp2 kn2 hown hK hP hD hS 0 rfl rfl 10 (by decide) (hts _ ms_k1326) (fun _ h => h) rfl (by decide +kernel) rfl rfl (Nat.le_of_ble_eq_true rfl) d64_12 (fun H locs hP hD hS => ?_)
  have hP : va_P D vwCl [(h, .inr (2, [.ref (r 0), .ref (r 1), .ref (r 2), .ref (r 3), .int 0, .int 0, .ref (r 6), .int 0, .int 0, .int (-1), .int 0, .int 0, .int 0, .int 0, .int 0, .ref (r 15), .ref (r 16), .ref (r 17), .int 0, .int 0, .ref (r 20), .ref (r 21), .ref (r 22), .int 0, .int 0, .ref (r 25), .ref (r 26), .ref (r 27), .ref (r 28), .ref (r 29), .ref (r 30), .int 0, .ref (r 32), .ref (r 33), .ref (r 34), .ref (r 35), .ref (r 36), .ref (r 37), .ref (r 38), .ref (r 39), .ref (r 40), .ref (r 41), .ref (r 42), .int 0, .ref (r 44), .int 0, .int 0, .int 0, .int 0, .int 0, .ref (r 50), .ref (r 51), .ref (r 52), .int 0, .ref (r 54), .int 0, .ref (r 56), .int 0, .int 0, .int 0]))] H := hP
  have hD : va_D A [(h, .inr (2, [.ref (r 0), .ref (r 1), .ref (r 2), .ref (r 3), .int 0, .int 0, .ref (r 6), .int 0, .int 0, .int (-1), .int 0, .int 0, .int 0, .int 0, .int 0, .ref (r 15), .ref (r 16), .ref (r 17), .int 0, .int 0, .ref (r 20), .ref (r 21), .ref (r 22), .int 0, .int 0, .ref (r 25), .ref (r 26), .ref (r 27), .ref (r 28), .ref (r 29), .ref (r 30), .int 0, .ref (r 32), .ref (r 33), .ref (r 34), .ref (r 35), .ref (r 36), .ref (r 37), .ref (r 38), .ref (r 39), .ref (r 40), .ref (r 41), .ref (r 42), .int 0, .ref (r 44), .int 0, .int 0, .int 0, .int 0, .int 0, .ref (r 50), .ref (r 51), .ref (r 52), .int 0, .ref (r 54), .int 0, .ref (r 56), .int 0, .int 0, .int 0]))] := hD
  refine lv_aload_n hx hb d64_15 rfl (lv_at hl 0 rfl) ?_
  refine lv_iconst (v := 0) hx hb d64_16 (by decide) ?_
  refine va_put (D := D) (ci := 2) (v := .int 0) (ty := .boolean) (C := kR2) (T := kT2) (N := 60) hx hb hts ku2 kt2 kp2 kn2 hown hK hP hD hS 0 rfl rfl 11 (by decide) (hts _ ms_k1327) (fun _ h => h) rfl (by decide +kernel) rfl rfl (Nat.le_of_ble_eq_true rfl) d64_17 (fun H locs hP hD hS => ?_)
  have hP : va_P D vwCl [(h, .inr (2, [.ref (r 0), .ref (r 1), .ref (r 2), .ref (r 3), .int 0, .int 0, .ref (r 6), .int 0, .int 0, .int (-1), .int 0, .int 0, .int 0, .int 0, .int 0, .ref (r 15), .ref (r 16), .ref (r 17), .int 0, .int 0, .ref (r 20), .ref (r 21), .ref (r 22), .int 0, .int 0, .ref (r 25), .ref (r 26), .ref (r 27), .ref (r 28), .ref (r 29), .ref (r 30), .int 0, .ref (r 32), .ref (r 33), .ref (r 34), .ref (r 35), .ref (r 36), .ref (r 37), .ref (r 38), .ref (r 39), .ref (r 40), .ref (r 41), .ref (r 42), .int 0, .ref (r 44), .int 0, .int 0, .int 0, .int 0, .int 0, .ref (r 50), .ref (r 51), .ref (r 52), .int 0, .ref (r 54), .int 0, .ref (r 56), .int 0, .int 0, .int 0]))] H := hP
  have hD : va_D A [(h, .inr (2, [.ref (r 0), .ref (r 1), .ref (r 2), .ref (r 3), .int 0, .int 0, .ref (r 6), .int 0, .int 0, .int (-1), .int 0, .int 0, .int 0, .int 0, .int 0, .ref (r 15), .ref (r 16), .ref (r 17), .int 0, .int 0, .ref (r 20), .ref (r 21), .ref (r 22), .int 0, .int 0, .ref (r 25), .ref (r 26), .ref (r 27), .ref (r 28), .ref (r 29), .ref (r 30), .int 0, .ref (r 32), .ref (r 33), .ref (r 34), .ref (r 35), .ref (r 36), .ref (r 37), .ref (r 38), .ref (r 39), .ref (r 40), .ref (r 41), .ref (r 42), .int 0, .ref (r 44), .int 0, .int 0, .int 0, .int 0, .int 0, .ref (r 50), .ref (r 51), .ref (r 52), .int 0, .ref (r 54), .int 0, .ref (r 56), .int 0, .int 0, .int 0]))] := hD
  refine lv_aload_n hx hb d64_20 rfl (lv_at hl 0 rfl) ?_
  refine lv_iconst (v := (-1)) hx hb d64_21 (by decide) ?_
  refine va_put (D := D) (ci := 2) (v := .int (-1)) (ty := .int) (C := kR2) (T := kT2) (N := 60) hx hb hts ku2 kt2 kp2 kn2 hown hK hP hD hS 0 rfl rfl 12 (by decide) (hts _ ms_k1328) (fun _ h => h) rfl (by decide +kernel) rfl rfl (Nat.le_of_ble_eq_true rfl) d64_22 (fun H locs hP hD hS => ?_)
  have hP : va_P D vwCl [(h, .inr (2, [.ref (r 0), .ref (r 1), .ref (r 2), .ref (r 3), .int 0, .int 0, .ref (r 6), .int 0, .int 0, .int (-1), .int 0, .int 0, .int (-1), .int 0, .int 0, .ref (r 15), .ref (r 16), .ref (r 17), .int 0, .int 0, .ref (r 20), .ref (r 21), .ref (r 22), .int 0, .int 0, .ref (r 25), .ref (r 26), .ref (r 27), .ref (r 28), .ref (r 29), .ref (r 30), .int 0, .ref (r 32), .ref (r 33), .ref (r 34), .ref (r 35), .ref (r 36), .ref (r 37), .ref (r 38), .ref (r 39), .ref (r 40), .ref (r 41), .ref (r 42), .int 0, .ref (r 44), .int 0, .int 0, .int 0, .int 0, .int 0, .ref (r 50), .ref (r 51), .ref (r 52), .int 0, .ref (r 54), .int 0, .ref (r 56), .int 0, .int 0, .int 0]))] H := hP
  have hD : va_D A [(h, .inr (2, [.ref (r 0), .ref (r 1), .ref (r 2), .ref (r 3), .int 0, .int 0, .ref (r 6), .int 0, .int 0, .int (-1), .int 0, .int 0, .int (-1), .int 0, .int 0, .ref (r 15), .ref (r 16), .ref (r 17), .int 0, .int 0, .ref (r 20), .ref (r 21), .ref (r 22), .int 0, .int 0, .ref (r 25), .ref (r 26), .ref (r 27), .ref (r 28), .ref (r 29), .ref (r 30), .int 0, .ref (r 32), .ref (r 33), .ref (r 34), .ref (r 35), .ref (r 36), .ref (r 37), .ref (r 38), .ref (r 39), .ref (r 40), .ref (r 41), .ref (r 42), .int 0, .ref (r 44), .int 0, .int 0, .int 0, .int 0, .int 0, .ref (r 50), .ref (r 51), .ref (r 52), .int 0, .ref (r 54), .int 0, .ref (r 56), .int 0, .int 0, .int 0]))] := hD
  refine lv_aload_n hx hb d64_25 rfl (lv_at hl 0 rfl) ?_
  refine lv_iload_n hx hb d64_26 rfl (lv_at hl 2 rfl) ?_
  refine va_put (D := D) (ci := 2) (v := .int 0) (ty := .int) (C := kR2) (T := kT2) (N := 60) hx hb hts ku2 kt2 kp2 kn2 hown hK hP hD hS 0 rfl rfl 13 (by decide) (hts _ ms_k1329) (fun _ h => h) rfl (by decide +kernel) rfl rfl (Nat.le_of_ble_eq_true rfl) d64_27 (fun H locs hP hD hS => ?_)
  have hP : va_P D vwCl [(h, .inr (2, [.ref (r 0), .ref (r 1), .ref (r 2), .ref (r 3), .int 0, .int 0, .ref (r 6), .int 0, .int 0, .int (-1), .int 0, .int 0, .int (-1), .int 0, .int 0, .ref (r 15), .ref (r 16), .ref (r 17), .int 0, .int 0, .ref (r 20), .ref (r 21), .ref (r 22), .int 0, .int 0, .ref (r 25), .ref (r 26), .ref (r 27), .ref (r 28), .ref (r 29), .ref (r 30), .int 0, .ref (r 32), .ref (r 33), .ref (r 34), .ref (r 35), .ref (r 36), .ref (r 37), .ref (r 38), .ref (r 39), .ref (r 40), .ref (r 41), .ref (r 42), .int 0, .ref (r 44), .int 0, .int 0, .int 0, .int 0, .int 0, .ref (r 50), .ref (r 51), .ref (r 52), .int 0, .ref (r 54), .int 0, .ref (r 56), .int 0, .int 0, .int 0]))] H := hP
  have hD : va_D A [(h, .inr (2, [.ref (r 0), .ref (r 1), .ref (r 2), .ref (r 3), .int 0, .int 0, .ref (r 6), .int 0, .int 0, .int (-1), .int 0, .int 0, .int (-1), .int 0, .int 0, .ref (r 15), .ref (r 16), .ref (r 17), .int 0, .int 0, .ref (r 20), .ref (r 21), .ref (r 22), .int 0, .int 0, .ref (r 25), .ref (r 26), .ref (r 27), .ref (r 28), .ref (r 29), .ref (r 30), .int 0, .ref (r 32), .ref (r 33), .ref (r 34), .ref (r 35), .ref (r 36), .ref (r 37), .ref (r 38), .ref (r 39), .ref (r 40), .ref (r 41), .ref (r 42), .int 0, .ref (r 44), .int 0, .int 0, .int 0, .int 0, .int 0, .ref (r 50), .ref (r 51), .ref (r 52), .int 0, .ref (r 54), .int 0, .ref (r 56), .int 0, .int 0, .int 0]))] := hD
  refine lv_aload_n hx hb d64_30 rfl (lv_at hl 0 rfl) ?_
  refine lv_iconst (v := 0) hx hb d64_31 (by decide) ?_
  refine va_put (D := D) (ci := 2) (v := .int 0) (ty := .int) (C := kR2) (T := kT2) (N := 60) hx hb hts ku2 kt2 kp2 kn2 hown hK hP hD hS 0 rfl rfl 14 (by decide) (hts _ ms_k1330) (fun _ h => h) rfl (by decide +kernel) rfl rfl (Nat.le_of_ble_eq_true rfl) d64_32 (fun H locs hP hD hS => ?_)
  have hP : va_P D vwCl [(h, .inr (2, [.ref (r 0), .ref (r 1), .ref (r 2), .ref (r 3), .int 0, .int 0, .ref (r 6), .int 0, .int 0, .int (-1), .int 0, .int 0, .int (-1), .int 0, .int 0, .ref (r 15), .ref (r 16), .ref (r 17), .int 0, .int 0, .ref (r 20), .ref (r 21), .ref (r 22), .int 0, .int 0, .ref (r 25), .ref (r 26), .ref (r 27), .ref (r 28), .ref (r 29), .ref (r 30), .int 0, .ref (r 32), .ref (r 33), .ref (r 34), .ref (r 35), .ref (r 36), .ref (r 37), .ref (r 38), .ref (r 39), .ref (r 40), .ref (r 41), .ref (r 42), .int 0, .ref (r 44), .int 0, .int 0, .int 0, .int 0, .int 0, .ref (r 50), .ref (r 51), .ref (r 52), .int 0, .ref (r 54), .int 0, .ref (r 56), .int 0, .int 0, .int 0]))] H := hP
  have hD : va_D A [(h, .inr (2, [.ref (r 0), .ref (r 1), .ref (r 2), .ref (r 3), .int 0, .int 0, .ref (r 6), .int 0, .int 0, .int (-1), .int 0, .int 0, .int (-1), .int 0, .int 0, .ref (r 15), .ref (r 16), .ref (r 17), .int 0, .int 0, .ref (r 20), .ref (r 21), .ref (r 22), .int 0, .int 0, .ref (r 25), .ref (r 26), .ref (r 27), .ref (r 28), .ref (r 29), .ref (r 30), .int 0, .ref (r 32), .ref (r 33), .ref (r 34), .ref (r 35), .ref (r 36), .ref (r 37), .ref (r 38), .ref (r 39), .ref (r 40), .ref (r 41), .ref (r 42), .int 0, .ref (r 44), .int 0, .int 0, .int 0, .int 0, .int 0, .ref (r 50), .ref (r 51), .ref (r 52), .int 0, .ref (r 54), .int 0, .ref (r 56), .int 0, .int 0, .int 0]))] := hD
  refine lv_aload_n hx hb d64_35 rfl (lv_at hl 0 rfl) ?_
  refine va_get (D := D) (ci := 2) (v := .int (-1)) (C := kR2) (T := kT2) (N := 60) hx hb hts ku2 hown hK hP 0 rfl rfl 9 (by decide) (hts _ ms_k1325) (fun _ h => h) rfl d64_36 ?_
  refine lv_if_ge hx hb d64_39 rfl (fun h9 => absurd h9 (by decide)) (fun _ => ?_)
  refine lv_aload_n hx hb d64_42 rfl (lv_at hl 0 rfl) ?_
  refine va_get (D := D) (ci := 2) (v := .int 0) (C := kR2) (T := kT2) (N := 60) hx hb hts ku2 hown hK hP 0 rfl rfl 8 (by decide) (hts _ ms_k1324) (fun _ h => h) rfl d64_43 ?_
  refine lv_aload_n hx hb d64_46 rfl (lv_at hl 0 rfl) ?_
  refine va_get (D := D) (ci := 2) (v := .int 0) (C := kR2) (T := kT2) (N := 60) hx hb hts ku2 hown hK hP 0 rfl rfl 7 (by decide) (hts _ ms_k1323) (fun _ h => h) rfl d64_47 ?_
  refine lv_icmp_ge hx hb d64_50 rfl (fun _ => ?_) (fun h9 => absurd (by decide) h9)
  refine lv_aload_n hx hb d64_246 rfl (lv_at hl 0 rfl) ?_
  refine va_get (D := D) (ci := 2) (v := .int 0) (C := kR2) (T := kT2) (N := 60) hx hb hts ku2 hown hK hP 0 rfl rfl 14 (by decide) (hts _ ms_k1330) (fun _ h => h) rfl d64_247 ?_
  refine lv_if_gt hx hb d64_250 rfl (fun h9 => absurd h9 (by decide)) (fun _ => ?_)
  refine lv_aload_n hx hb d64_253 rfl (lv_at hl 0 rfl) ?_
  refine va_get (D := D) (ci := 2) (v := .int 0) (C := kR2) (T := kT2) (N := 60) hx hb hts ku2 hown hK hP 0 rfl rfl 10 (by decide) (hts _ ms_k1326) (fun _ h => h) rfl d64_254 ?_
  refine lv_if_ne hx hb d64_257 rfl (fun h9 => absurd h9 (by decide)) (fun _ => ?_)
  refine lv_aload_n hx hb d64_260 rfl (lv_at hl 0 rfl) ?_
  refine lv_aload_n hx hb d64_261 rfl (lv_at hl 0 rfl) ?_
  refine va_get (D := D) (ci := 2) (v := .int 0) (C := kR2) (T := kT2) (N := 60) hx hb hts ku2 hown hK hP 0 rfl rfl 7 (by decide) (hts _ ms_k1323) (fun _ h => h) rfl d64_262 ?_
  refine ms_V (C := "MarkupStoreModel") (rest := []) (as := [.int 0]) (wr := []) X hl (c_merror l D dA s0 hE h r) (List.forall_mem_cons.mpr ⟨ms_k1520, List.forall_mem_cons.mpr ⟨ms_k1522, List.forall_mem_cons.mpr ⟨ms_p47, List.forall_mem_cons.mpr ⟨ms_k7, List.forall_mem_cons.mpr ⟨ms_k1523, fun _ h => absurd h List.not_mem_nil⟩⟩⟩⟩⟩) ⟨rfl, by decide +kernel, by decide +kernel, (by decide +kernel : (parseMethodDescriptor "(I)V").map (fun d => d.parameters.length) = some 1)⟩ (va_recv hK hP rfl (q0 := 0) rfl) hP hD hS [0] [] rfl rfl ⟨by decide, by decide, by decide⟩ ⟨⟨Nat.le_of_ble_eq_true rfl, Nat.le_of_ble_eq_true rfl⟩, Nat.le_of_ble_eq_true rfl, Nat.le_of_ble_eq_true rfl⟩ rfl (Nat.le_of_ble_eq_true rfl) d64_265 (fun vv ww H locs hR hP hD hS => ?_)
  obtain ⟨rfl, rfl⟩ := hR
  have hP : va_P D vwCl [(h, .inr (2, [.ref (r 0), .ref (r 1), .ref (r 2), .ref (r 3), .int 0, .int 0, .ref (r 6), .int 0, .int 0, .int 0, .int 0, .int 0, .int (-1), .int 0, .int 0, .ref (r 15), .ref (r 16), .ref (r 17), .int 0, .int 0, .ref (r 20), .ref (r 21), .ref (r 22), .int 0, .int 0, .ref (r 25), .ref (r 26), .ref (r 27), .ref (r 28), .ref (r 29), .ref (r 30), .int 0, .ref (r 32), .ref (r 33), .ref (r 34), .ref (r 35), .ref (r 36), .ref (r 37), .ref (r 38), .ref (r 39), .ref (r 40), .ref (r 41), .ref (r 42), .int 0, .ref (r 44), .int 0, .int 0, .int 0, .int 0, .int 0, .ref (r 50), .ref (r 51), .ref (r 52), .int 0, .ref (r 54), .int 0, .ref (r 56), .int 0, .int 0, .int 0]))] H := hP
  have hD : va_D A [(h, .inr (2, [.ref (r 0), .ref (r 1), .ref (r 2), .ref (r 3), .int 0, .int 0, .ref (r 6), .int 0, .int 0, .int 0, .int 0, .int 0, .int (-1), .int 0, .int 0, .ref (r 15), .ref (r 16), .ref (r 17), .int 0, .int 0, .ref (r 20), .ref (r 21), .ref (r 22), .int 0, .int 0, .ref (r 25), .ref (r 26), .ref (r 27), .ref (r 28), .ref (r 29), .ref (r 30), .int 0, .ref (r 32), .ref (r 33), .ref (r 34), .ref (r 35), .ref (r 36), .ref (r 37), .ref (r 38), .ref (r 39), .ref (r 40), .ref (r 41), .ref (r 42), .int 0, .ref (r 44), .int 0, .int 0, .int 0, .int 0, .int 0, .ref (r 50), .ref (r 51), .ref (r 52), .int 0, .ref (r 54), .int 0, .ref (r 56), .int 0, .int 0, .int 0]))] := hD
  refine W.eq (g2 := F0 m 268 ls []) rfl ?_
  exact ms_vret X d64_268 hP hD hS (Nat.le_of_ble_eq_true rfl) (Nat.le_of_ble_eq_true rfl) (⟨rfl, rfl⟩)

set_option maxRecDepth 100000 in
set_option maxHeartbeats 8000000 in
theorem c_loaded (l : Launch) (D : va_G) (dA : Nat → ClassId) (s0 : State) (hE : ms_EV D dA s0) (h : Nat) (r : Nat → Nat) : ms_C l D s0 yM65 bM65 2 (Option.some Jvm.ClassFile.FieldType.int) 2 45 0 0 [.ref h] [(h, .inr (2, [.ref (r 0), .ref (r 1), .ref (r 2), .ref (r 3), .int 0, .int 0, .ref (r 6), .int 0, .int 0, .int 0, .int 0, .int 0, .int 0, .int 0, .int 0, .ref (r 15), .ref (r 16), .ref (r 17), .int 0, .int 0, .ref (r 20), .ref (r 21), .ref (r 22), .int 0, .int 0, .ref (r 25), .ref (r 26), .ref (r 27), .ref (r 28), .ref (r 29), .ref (r 30), .int 0, .ref (r 32), .ref (r 33), .ref (r 34), .ref (r 35), .ref (r 36), .ref (r 37), .ref (r 38), .ref (r 39), .ref (r 40), .ref (r 41), .ref (r 42), .int 0, .ref (r 44), .int 0, .int 0, .int 0, .int 0, .int 0, .ref (r 50), .ref (r 51), .ref (r 52), .int 0, .ref (r 54), .int 0, .ref (r 56), .int 0, .int 0, .int 0]))] (fun vv ww => vv = some (.int (-1)) ∧ ww = [(h, .inr (2, [.ref (r 0), .ref (r 1), .ref (r 2), .ref (r 3), .int 0, .int 0, .ref (r 6), .int 0, .int 0, .int 0, .int 0, .int 0, .int (-1), .int 0, .int 0, .ref (r 15), .ref (r 16), .ref (r 17), .int 0, .int 0, .ref (r 20), .ref (r 21), .ref (r 22), .int 0, .int 0, .ref (r 25), .ref (r 26), .ref (r 27), .ref (r 28), .ref (r 29), .ref (r 30), .int 0, .ref (r 32), .ref (r 33), .ref (r 34), .ref (r 35), .ref (r 36), .ref (r 37), .ref (r 38), .ref (r 39), .ref (r 40), .ref (r 41), .ref (r 42), .int 0, .ref (r 44), .int 0, .int 0, .int 0, .int 0, .int 0, .ref (r 50), .ref (r 51), .ref (r 52), .int 0, .ref (r 54), .int 0, .ref (r 56), .int 0, .int 0, .int 0]))]) := by
  refine ms_C.mk hE.1 (by decide) (Nat.le_of_ble_eq_true rfl) [(0, .ref h)] rfl ?_
  intro p e s m below meth c A ls X hin hP hD hS hl
  have hx := X.1
  have hb := X.2.1
  have hml := X.2.2.1
  have hown : s.vm.findClass "MarkupStoreModel" = some m.cls := X.2.2.2.1
  have hts := X.2.2.2.2.2.2.1
  have hK := X.2.2.2.2.2.2.2.2.1
  have hA := X.2.2.2.2.2.2.2.2.2.2
  refine lv_aload_n hx hb d65_0 rfl (lv_at hl 0 rfl) ?_
  refine lv_iconst (v := 1) hx hb d65_1 (by decide) ?_
  refine lv_iconst (v := 0) hx hb d65_2 (by decide) ?_
  refine ms_V (C := "MarkupStoreModel") (rest := []) (as := [.int 1, .int 0]) (wr := []) X hl (c_parse l D dA s0 hE h r) (List.forall_mem_cons.mpr ⟨ms_k1512, List.forall_mem_cons.mpr ⟨ms_k1514, List.forall_mem_cons.mpr ⟨ms_p45, List.forall_mem_cons.mpr ⟨ms_k7, List.forall_mem_cons.mpr ⟨ms_k1515, fun _ h => absurd h List.not_mem_nil⟩⟩⟩⟩⟩) ⟨rfl, by decide +kernel, by decide +kernel, (by decide +kernel : (parseMethodDescriptor "(ZI)V").map (fun d => d.parameters.length) = some 2)⟩ (va_recv hK hP rfl (q0 := 0) rfl) hP hD hS [0] [] rfl rfl ⟨by decide, by decide, by decide⟩ ⟨⟨Nat.le_of_ble_eq_true rfl, Nat.le_of_ble_eq_true rfl⟩, Nat.le_of_ble_eq_true rfl, Nat.le_of_ble_eq_true rfl⟩ rfl (Nat.le_of_ble_eq_true rfl) d65_3 (fun vv ww H locs hR hP hD hS => ?_)
  obtain ⟨rfl, rfl⟩ := hR
  have hP : va_P D vwCl [(h, .inr (2, [.ref (r 0), .ref (r 1), .ref (r 2), .ref (r 3), .int 0, .int 0, .ref (r 6), .int 0, .int 0, .int 0, .int 0, .int 0, .int (-1), .int 0, .int 0, .ref (r 15), .ref (r 16), .ref (r 17), .int 0, .int 0, .ref (r 20), .ref (r 21), .ref (r 22), .int 0, .int 0, .ref (r 25), .ref (r 26), .ref (r 27), .ref (r 28), .ref (r 29), .ref (r 30), .int 0, .ref (r 32), .ref (r 33), .ref (r 34), .ref (r 35), .ref (r 36), .ref (r 37), .ref (r 38), .ref (r 39), .ref (r 40), .ref (r 41), .ref (r 42), .int 0, .ref (r 44), .int 0, .int 0, .int 0, .int 0, .int 0, .ref (r 50), .ref (r 51), .ref (r 52), .int 0, .ref (r 54), .int 0, .ref (r 56), .int 0, .int 0, .int 0]))] H := hP
  have hD : va_D A [(h, .inr (2, [.ref (r 0), .ref (r 1), .ref (r 2), .ref (r 3), .int 0, .int 0, .ref (r 6), .int 0, .int 0, .int 0, .int 0, .int 0, .int (-1), .int 0, .int 0, .ref (r 15), .ref (r 16), .ref (r 17), .int 0, .int 0, .ref (r 20), .ref (r 21), .ref (r 22), .int 0, .int 0, .ref (r 25), .ref (r 26), .ref (r 27), .ref (r 28), .ref (r 29), .ref (r 30), .int 0, .ref (r 32), .ref (r 33), .ref (r 34), .ref (r 35), .ref (r 36), .ref (r 37), .ref (r 38), .ref (r 39), .ref (r 40), .ref (r 41), .ref (r 42), .int 0, .ref (r 44), .int 0, .int 0, .int 0, .int 0, .int 0, .ref (r 50), .ref (r 51), .ref (r 52), .int 0, .ref (r 54), .int 0, .ref (r 56), .int 0, .int 0, .int 0]))] := hD
  refine W.eq (g2 := F0 m 6 ls []) rfl ?_
  refine lv_aload_n hx hb d65_6 rfl (lv_at hl 0 rfl) ?_
  refine va_get (D := D) (ci := 2) (v := .int 0) (C := kR2) (T := kT2) (N := 60) hx hb hts ku2 hown hK hP 0 rfl rfl 9 (by decide) (hts _ ms_k1325) (fun _ h => h) rfl d65_7 ?_
  refine lv_if_lt hx hb d65_10 rfl (fun h9 => absurd h9 (by decide)) (fun _ => ?_)
  refine lv_iconst (v := (-1)) hx hb d65_13 (by decide) ?_
  refine lv_aload_n hx hb d65_14 rfl (lv_at hl 0 rfl) ?_
  refine va_get (D := D) (ci := 2) (v := .int 0) (C := kR2) (T := kT2) (N := 60) hx hb hts ku2 hown hK hP 0 rfl rfl 9 (by decide) (hts _ ms_k1325) (fun _ h => h) rfl d65_15 ?_
  refine lv_isub hx hb d65_18 ?_
  refine ms_top (y := (-1)) (by decide) ?_
  exact ms_iret X d65_19 hP hD hS (Nat.le_of_ble_eq_true rfl) (Nat.le_of_ble_eq_true rfl) (⟨rfl, rfl⟩)

set_option maxRecDepth 100000 in
set_option maxHeartbeats 8000000 in
theorem c_mload (l : Launch) (D : va_G) (dA : Nat → ClassId) (s0 : State) (hE : ms_EV D dA s0) (h : Nat) (r : Nat → Nat) : ms_C l D s0 yM66 bM66 2 (Option.some Jvm.ClassFile.FieldType.int) 3 66 0 0 [.ref h] [(h, .inr (2, [.ref (r 0), .ref (r 1), .ref (r 2), .ref (r 3), .int 0, .int 0, .ref (r 6), .int 0, .int 0, .int 0, .int 0, .int 0, .int 0, .int 0, .int 0, .ref (r 15), .ref (r 16), .ref (r 17), .int 0, .int 0, .ref (r 20), .ref (r 21), .ref (r 22), .int 0, .int 0, .ref (r 25), .ref (r 26), .ref (r 27), .ref (r 28), .ref (r 29), .ref (r 30), .int 0, .ref (r 32), .ref (r 33), .ref (r 34), .ref (r 35), .ref (r 36), .ref (r 37), .ref (r 38), .ref (r 39), .ref (r 40), .ref (r 41), .ref (r 42), .int 0, .ref (r 44), .int 0, .int 0, .int 0, .int 0, .int 0, .ref (r 50), .ref (r 51), .ref (r 52), .int 0, .ref (r 54), .int 0, .ref (r 56), .int 0, .int 0, .int 0]))] (fun vv _ => vv = some (.int (-1))) := by
  refine ms_C.mk hE.1 (by decide) (Nat.le_of_ble_eq_true rfl) [(0, .ref h)] rfl ?_
  intro p e s m below meth c A ls X hin hP hD hS hl
  have hx := X.1
  have hb := X.2.1
  have hml := X.2.2.1
  have hown : s.vm.findClass "MarkupStoreModel" = some m.cls := X.2.2.2.1
  have hts := X.2.2.2.2.2.2.1
  have hK := X.2.2.2.2.2.2.2.2.1
  have hA := X.2.2.2.2.2.2.2.2.2.2
  refine lv_aload_n hx hb d66_0 rfl (lv_at hl 0 rfl) ?_
  refine ms_V (C := "MarkupStoreModel") (rest := []) (as := []) (wr := []) X hl (c_loaded l D dA s0 hE h r) (List.forall_mem_cons.mpr ⟨ms_k1508, List.forall_mem_cons.mpr ⟨ms_k1510, List.forall_mem_cons.mpr ⟨ms_p44, List.forall_mem_cons.mpr ⟨ms_k7, List.forall_mem_cons.mpr ⟨ms_k1511, fun _ h => absurd h List.not_mem_nil⟩⟩⟩⟩⟩) ⟨rfl, by decide +kernel, by decide +kernel, (by decide +kernel : (parseMethodDescriptor "()I").map (fun d => d.parameters.length) = some 0)⟩ (va_recv hK hP rfl (q0 := 0) rfl) hP hD hS [0] [] rfl rfl ⟨by decide, by decide, by decide⟩ ⟨⟨Nat.le_of_ble_eq_true rfl, Nat.le_of_ble_eq_true rfl⟩, Nat.le_of_ble_eq_true rfl, Nat.le_of_ble_eq_true rfl⟩ rfl (Nat.le_of_ble_eq_true rfl) d66_1 (fun vv ww H locs hR hP hD hS => ?_)
  obtain ⟨rfl, rfl⟩ := hR
  have hP : va_P D vwCl [(h, .inr (2, [.ref (r 0), .ref (r 1), .ref (r 2), .ref (r 3), .int 0, .int 0, .ref (r 6), .int 0, .int 0, .int 0, .int 0, .int 0, .int (-1), .int 0, .int 0, .ref (r 15), .ref (r 16), .ref (r 17), .int 0, .int 0, .ref (r 20), .ref (r 21), .ref (r 22), .int 0, .int 0, .ref (r 25), .ref (r 26), .ref (r 27), .ref (r 28), .ref (r 29), .ref (r 30), .int 0, .ref (r 32), .ref (r 33), .ref (r 34), .ref (r 35), .ref (r 36), .ref (r 37), .ref (r 38), .ref (r 39), .ref (r 40), .ref (r 41), .ref (r 42), .int 0, .ref (r 44), .int 0, .int 0, .int 0, .int 0, .int 0, .ref (r 50), .ref (r 51), .ref (r 52), .int 0, .ref (r 54), .int 0, .ref (r 56), .int 0, .int 0, .int 0]))] H := hP
  have hD : va_D A [(h, .inr (2, [.ref (r 0), .ref (r 1), .ref (r 2), .ref (r 3), .int 0, .int 0, .ref (r 6), .int 0, .int 0, .int 0, .int 0, .int 0, .int (-1), .int 0, .int 0, .ref (r 15), .ref (r 16), .ref (r 17), .int 0, .int 0, .ref (r 20), .ref (r 21), .ref (r 22), .int 0, .int 0, .ref (r 25), .ref (r 26), .ref (r 27), .ref (r 28), .ref (r 29), .ref (r 30), .int 0, .ref (r 32), .ref (r 33), .ref (r 34), .ref (r 35), .ref (r 36), .ref (r 37), .ref (r 38), .ref (r 39), .ref (r 40), .ref (r 41), .ref (r 42), .int 0, .ref (r 44), .int 0, .int 0, .int 0, .int 0, .int 0, .ref (r 50), .ref (r 51), .ref (r 52), .int 0, .ref (r 54), .int 0, .ref (r 56), .int 0, .int 0, .int 0]))] := hD
  refine W.eq (g2 := F0 m 4 ls [.int (-1)]) rfl ?_
  refine lv_istore_n hx hb d66_4 rfl hl (by decide) rfl (fun ls hl => ?_)
  have hl : lv_has ls 2 [(1, .int (-1)), (0, .ref h)] := hl
  refine lv_aload_n hx hb d66_5 rfl (lv_at hl 1 rfl) ?_
  refine lv_iconst (v := 0) hx hb d66_6 (by decide) ?_
  refine va_put (D := D) (ci := 2) (v := .int 0) (ty := .int) (C := kR2) (T := kT2) (N := 60) hx hb hts ku2 kt2 kp2 kn2 hown hK hP hD hS 0 rfl rfl 7 (by decide) (hts _ ms_k1323) (fun _ h => h) rfl (by decide +kernel) rfl rfl (Nat.le_of_ble_eq_true rfl) d66_7 (fun H locs hP hD hS => ?_)
  have hP : va_P D vwCl [(h, .inr (2, [.ref (r 0), .ref (r 1), .ref (r 2), .ref (r 3), .int 0, .int 0, .ref (r 6), .int 0, .int 0, .int 0, .int 0, .int 0, .int (-1), .int 0, .int 0, .ref (r 15), .ref (r 16), .ref (r 17), .int 0, .int 0, .ref (r 20), .ref (r 21), .ref (r 22), .int 0, .int 0, .ref (r 25), .ref (r 26), .ref (r 27), .ref (r 28), .ref (r 29), .ref (r 30), .int 0, .ref (r 32), .ref (r 33), .ref (r 34), .ref (r 35), .ref (r 36), .ref (r 37), .ref (r 38), .ref (r 39), .ref (r 40), .ref (r 41), .ref (r 42), .int 0, .ref (r 44), .int 0, .int 0, .int 0, .int 0, .int 0, .ref (r 50), .ref (r 51), .ref (r 52), .int 0, .ref (r 54), .int 0, .ref (r 56), .int 0, .int 0, .int 0]))] H := hP
  have hD : va_D A [(h, .inr (2, [.ref (r 0), .ref (r 1), .ref (r 2), .ref (r 3), .int 0, .int 0, .ref (r 6), .int 0, .int 0, .int 0, .int 0, .int 0, .int (-1), .int 0, .int 0, .ref (r 15), .ref (r 16), .ref (r 17), .int 0, .int 0, .ref (r 20), .ref (r 21), .ref (r 22), .int 0, .int 0, .ref (r 25), .ref (r 26), .ref (r 27), .ref (r 28), .ref (r 29), .ref (r 30), .int 0, .ref (r 32), .ref (r 33), .ref (r 34), .ref (r 35), .ref (r 36), .ref (r 37), .ref (r 38), .ref (r 39), .ref (r 40), .ref (r 41), .ref (r 42), .int 0, .ref (r 44), .int 0, .int 0, .int 0, .int 0, .int 0, .ref (r 50), .ref (r 51), .ref (r 52), .int 0, .ref (r 54), .int 0, .ref (r 56), .int 0, .int 0, .int 0]))] := hD
  refine lv_iload_n hx hb d66_10 rfl (lv_at hl 0 rfl) ?_
  exact ms_iret X d66_11 hP hD hS (Nat.le_of_ble_eq_true rfl) (Nat.le_of_ble_eq_true rfl) rfl

set_option maxRecDepth 100000 in
set_option maxHeartbeats 8000000 in
theorem c_minsert (l : Launch) (D : va_G) (dA : Nat → ClassId) (s0 : State) (hE : ms_EV D dA s0) (h : Nat) (r : Nat → Nat) (i : Int32) (j : Int32) : ms_C l D s0 yM67 bM67 5 (Option.some Jvm.ClassFile.FieldType.int) 2 42 0 0 [.ref h, .int i, .int j] [(h, .inr (2, [.ref (r 0), .ref (r 1), .ref (r 2), .ref (r 3), .int 0, .int 0, .ref (r 6), .int 0, .int 0, .int 0, .int 0, .int 0, .int 0, .int 0, .int 0, .ref (r 15), .ref (r 16), .ref (r 17), .int 0, .int 0, .ref (r 20), .ref (r 21), .ref (r 22), .int 0, .int 0, .ref (r 25), .ref (r 26), .ref (r 27), .ref (r 28), .ref (r 29), .ref (r 30), .int 0, .ref (r 32), .ref (r 33), .ref (r 34), .ref (r 35), .ref (r 36), .ref (r 37), .ref (r 38), .ref (r 39), .ref (r 40), .ref (r 41), .ref (r 42), .int 0, .ref (r 44), .int 0, .int 0, .int 0, .int 0, .int 0, .ref (r 50), .ref (r 51), .ref (r 52), .int 0, .ref (r 54), .int 0, .ref (r 56), .int 0, .int 0, .int 0])), ((r 0), .inl (dA 0, 5161, .inl (fun _ => 0)))] (fun vv _ => vv = some (.int (-1000))) := by
  refine ms_C.mk hE.1 (by decide) (Nat.le_of_ble_eq_true rfl) [(0, .ref h), (1, .int i), (2, .int j)] rfl ?_
  intro p e s m below meth c A ls X hin hP hD hS hl
  have hx := X.1
  have hb := X.2.1
  have hml := X.2.2.1
  have hown : s.vm.findClass "MarkupStoreModel" = some m.cls := X.2.2.2.1
  have hts := X.2.2.2.2.2.2.1
  have hK := X.2.2.2.2.2.2.2.2.1
  have hA := X.2.2.2.2.2.2.2.2.2.2
  refine lv_aload_n hx hb d67_0 rfl (lv_at hl 0 rfl) ?_
  refine lv_iload_n hx hb d67_1 rfl (lv_at hl 1 rfl) ?_
  refine ms_V (C := "MarkupStoreModel") (rest := []) (as := [.int i]) (wr := []) X hl (c_place l D dA s0 hE h r i) (List.forall_mem_cons.mpr ⟨ms_k1603, List.forall_mem_cons.mpr ⟨ms_k1605, List.forall_mem_cons.mpr ⟨ms_p66, List.forall_mem_cons.mpr ⟨ms_k7, List.forall_mem_cons.mpr ⟨ms_k1606, fun _ h => absurd h List.not_mem_nil⟩⟩⟩⟩⟩) ⟨rfl, by decide +kernel, by decide +kernel, (by decide +kernel : (parseMethodDescriptor "(I)I").map (fun d => d.parameters.length) = some 1)⟩ (va_recv hK hP rfl (q0 := 0) rfl) hP hD hS [0, 1] [] rfl rfl ⟨by decide, by decide, by decide⟩ ⟨⟨Nat.le_of_ble_eq_true rfl, Nat.le_of_ble_eq_true rfl⟩, Nat.le_of_ble_eq_true rfl, Nat.le_of_ble_eq_true rfl⟩ rfl (Nat.le_of_ble_eq_true rfl) d67_2 (fun vv ww H locs hR hP hD hS => ?_)
  obtain ⟨rfl, rfl⟩ := hR
  have hP : va_P D vwCl [(h, .inr (2, [.ref (r 0), .ref (r 1), .ref (r 2), .ref (r 3), .int 0, .int 0, .ref (r 6), .int 0, .int 0, .int 0, .int 0, .int 0, .int 0, .int 0, .int 0, .ref (r 15), .ref (r 16), .ref (r 17), .int 0, .int 0, .ref (r 20), .ref (r 21), .ref (r 22), .int 0, .int 0, .ref (r 25), .ref (r 26), .ref (r 27), .ref (r 28), .ref (r 29), .ref (r 30), .int 0, .ref (r 32), .ref (r 33), .ref (r 34), .ref (r 35), .ref (r 36), .ref (r 37), .ref (r 38), .ref (r 39), .ref (r 40), .ref (r 41), .ref (r 42), .int 0, .ref (r 44), .int 0, .int 0, .int 0, .int 0, .int 0, .ref (r 50), .ref (r 51), .ref (r 52), .int 0, .ref (r 54), .int 0, .ref (r 56), .int 0, .int 0, .int 0])), ((r 0), .inl (dA 0, 5161, .inl (fun _ => 0)))] H := hP
  have hD : va_D A [(h, .inr (2, [.ref (r 0), .ref (r 1), .ref (r 2), .ref (r 3), .int 0, .int 0, .ref (r 6), .int 0, .int 0, .int 0, .int 0, .int 0, .int 0, .int 0, .int 0, .ref (r 15), .ref (r 16), .ref (r 17), .int 0, .int 0, .ref (r 20), .ref (r 21), .ref (r 22), .int 0, .int 0, .ref (r 25), .ref (r 26), .ref (r 27), .ref (r 28), .ref (r 29), .ref (r 30), .int 0, .ref (r 32), .ref (r 33), .ref (r 34), .ref (r 35), .ref (r 36), .ref (r 37), .ref (r 38), .ref (r 39), .ref (r 40), .ref (r 41), .ref (r 42), .int 0, .ref (r 44), .int 0, .int 0, .int 0, .int 0, .int 0, .ref (r 50), .ref (r 51), .ref (r 52), .int 0, .ref (r 54), .int 0, .ref (r 56), .int 0, .int 0, .int 0])), ((r 0), .inl (dA 0, 5161, .inl (fun _ => 0)))] := hD
  refine W.eq (g2 := F0 m 5 ls [.int (-1)]) rfl ?_
  refine lv_istore_n hx hb d67_5 rfl hl (by decide) rfl (fun ls hl => ?_)
  have hl : lv_has ls 5 [(3, .int (-1)), (0, .ref h), (1, .int i), (2, .int j)] := hl
  refine lv_iload_n hx hb d67_6 rfl (lv_at hl 0 rfl) ?_
  refine lv_if_ge hx hb d67_7 rfl (fun h9 => absurd h9 (by decide)) (fun _ => ?_)
  refine lv_sipush (v := (-1000)) hx hb d67_10 (by decide) ?_
  refine lv_goto hx hb d67_13 rfl ?_
  refine lv_istore hx hb d67_22 hl (by decide) rfl (fun ls hl => ?_)
  have hl : lv_has ls 5 [(4, .int (-1000)), (3, .int (-1)), (0, .ref h), (1, .int i), (2, .int j)] := hl
  refine lv_aload_n hx hb d67_24 rfl (lv_at hl 2 rfl) ?_
  refine lv_iconst (v := 0) hx hb d67_25 (by decide) ?_
  refine va_put (D := D) (ci := 2) (v := .int 0) (ty := .int) (C := kR2) (T := kT2) (N := 60) hx hb hts ku2 kt2 kp2 kn2 hown hK hP hD hS 0 rfl rfl 7 (by decide) (hts _ ms_k1323) (fun _ h => h) rfl (by decide +kernel) rfl rfl (Nat.le_of_ble_eq_true rfl) d67_26 (fun H locs hP hD hS => ?_)
  have hP : va_P D vwCl [(h, .inr (2, [.ref (r 0), .ref (r 1), .ref (r 2), .ref (r 3), .int 0, .int 0, .ref (r 6), .int 0, .int 0, .int 0, .int 0, .int 0, .int 0, .int 0, .int 0, .ref (r 15), .ref (r 16), .ref (r 17), .int 0, .int 0, .ref (r 20), .ref (r 21), .ref (r 22), .int 0, .int 0, .ref (r 25), .ref (r 26), .ref (r 27), .ref (r 28), .ref (r 29), .ref (r 30), .int 0, .ref (r 32), .ref (r 33), .ref (r 34), .ref (r 35), .ref (r 36), .ref (r 37), .ref (r 38), .ref (r 39), .ref (r 40), .ref (r 41), .ref (r 42), .int 0, .ref (r 44), .int 0, .int 0, .int 0, .int 0, .int 0, .ref (r 50), .ref (r 51), .ref (r 52), .int 0, .ref (r 54), .int 0, .ref (r 56), .int 0, .int 0, .int 0])), ((r 0), .inl (dA 0, 5161, .inl (fun _ => 0)))] H := hP
  have hD : va_D A [(h, .inr (2, [.ref (r 0), .ref (r 1), .ref (r 2), .ref (r 3), .int 0, .int 0, .ref (r 6), .int 0, .int 0, .int 0, .int 0, .int 0, .int 0, .int 0, .int 0, .ref (r 15), .ref (r 16), .ref (r 17), .int 0, .int 0, .ref (r 20), .ref (r 21), .ref (r 22), .int 0, .int 0, .ref (r 25), .ref (r 26), .ref (r 27), .ref (r 28), .ref (r 29), .ref (r 30), .int 0, .ref (r 32), .ref (r 33), .ref (r 34), .ref (r 35), .ref (r 36), .ref (r 37), .ref (r 38), .ref (r 39), .ref (r 40), .ref (r 41), .ref (r 42), .int 0, .ref (r 44), .int 0, .int 0, .int 0, .int 0, .int 0, .ref (r 50), .ref (r 51), .ref (r 52), .int 0, .ref (r 54), .int 0, .ref (r 56), .int 0, .int 0, .int 0])), ((r 0), .inl (dA 0, 5161, .inl (fun _ => 0)))] := hD
  refine lv_iload hx hb d67_29 (lv_at hl 0 rfl) ?_
  exact ms_iret X d67_31 hP hD hS (Nat.le_of_ble_eq_true rfl) (Nat.le_of_ble_eq_true rfl) rfl

set_option maxRecDepth 100000 in
set_option maxHeartbeats 8000000 in
theorem c_mremove (l : Launch) (D : va_G) (dA : Nat → ClassId) (s0 : State) (hE : ms_EV D dA s0) (h : Nat) (r : Nat → Nat) (i : Int32) : ms_C l D s0 yM68 bM68 11 (Option.some Jvm.ClassFile.FieldType.int) 2 42 0 0 [.ref h, .int i] [(h, .inr (2, [.ref (r 0), .ref (r 1), .ref (r 2), .ref (r 3), .int 0, .int 0, .ref (r 6), .int 0, .int 0, .int 0, .int 0, .int 0, .int 0, .int 0, .int 0, .ref (r 15), .ref (r 16), .ref (r 17), .int 0, .int 0, .ref (r 20), .ref (r 21), .ref (r 22), .int 0, .int 0, .ref (r 25), .ref (r 26), .ref (r 27), .ref (r 28), .ref (r 29), .ref (r 30), .int 0, .ref (r 32), .ref (r 33), .ref (r 34), .ref (r 35), .ref (r 36), .ref (r 37), .ref (r 38), .ref (r 39), .ref (r 40), .ref (r 41), .ref (r 42), .int 0, .ref (r 44), .int 0, .int 0, .int 0, .int 0, .int 0, .ref (r 50), .ref (r 51), .ref (r 52), .int 0, .ref (r 54), .int 0, .ref (r 56), .int 0, .int 0, .int 0])), ((r 0), .inl (dA 0, 5161, .inl (fun _ => 0)))] (fun vv _ => vv = some (.int (-1000))) := by
  refine ms_C.mk hE.1 (by decide) (Nat.le_of_ble_eq_true rfl) [(0, .ref h), (1, .int i)] rfl ?_
  intro p e s m below meth c A ls X hin hP hD hS hl
  have hx := X.1
  have hb := X.2.1
  have hml := X.2.2.1
  have hown : s.vm.findClass "MarkupStoreModel" = some m.cls := X.2.2.2.1
  have hts := X.2.2.2.2.2.2.1
  have hK := X.2.2.2.2.2.2.2.2.1
  have hA := X.2.2.2.2.2.2.2.2.2.2
  refine lv_aload_n hx hb d68_0 rfl (lv_at hl 0 rfl) ?_
  refine lv_iload_n hx hb d68_1 rfl (lv_at hl 1 rfl) ?_
  refine ms_V (C := "MarkupStoreModel") (rest := []) (as := [.int i]) (wr := []) X hl (c_place l D dA s0 hE h r i) (List.forall_mem_cons.mpr ⟨ms_k1603, List.forall_mem_cons.mpr ⟨ms_k1605, List.forall_mem_cons.mpr ⟨ms_p66, List.forall_mem_cons.mpr ⟨ms_k7, List.forall_mem_cons.mpr ⟨ms_k1606, fun _ h => absurd h List.not_mem_nil⟩⟩⟩⟩⟩) ⟨rfl, by decide +kernel, by decide +kernel, (by decide +kernel : (parseMethodDescriptor "(I)I").map (fun d => d.parameters.length) = some 1)⟩ (va_recv hK hP rfl (q0 := 0) rfl) hP hD hS [0, 1] [] rfl rfl ⟨by decide, by decide, by decide⟩ ⟨⟨Nat.le_of_ble_eq_true rfl, Nat.le_of_ble_eq_true rfl⟩, Nat.le_of_ble_eq_true rfl, Nat.le_of_ble_eq_true rfl⟩ rfl (Nat.le_of_ble_eq_true rfl) d68_2 (fun vv ww H locs hR hP hD hS => ?_)
  obtain ⟨rfl, rfl⟩ := hR
  have hP : va_P D vwCl [(h, .inr (2, [.ref (r 0), .ref (r 1), .ref (r 2), .ref (r 3), .int 0, .int 0, .ref (r 6), .int 0, .int 0, .int 0, .int 0, .int 0, .int 0, .int 0, .int 0, .ref (r 15), .ref (r 16), .ref (r 17), .int 0, .int 0, .ref (r 20), .ref (r 21), .ref (r 22), .int 0, .int 0, .ref (r 25), .ref (r 26), .ref (r 27), .ref (r 28), .ref (r 29), .ref (r 30), .int 0, .ref (r 32), .ref (r 33), .ref (r 34), .ref (r 35), .ref (r 36), .ref (r 37), .ref (r 38), .ref (r 39), .ref (r 40), .ref (r 41), .ref (r 42), .int 0, .ref (r 44), .int 0, .int 0, .int 0, .int 0, .int 0, .ref (r 50), .ref (r 51), .ref (r 52), .int 0, .ref (r 54), .int 0, .ref (r 56), .int 0, .int 0, .int 0])), ((r 0), .inl (dA 0, 5161, .inl (fun _ => 0)))] H := hP
  have hD : va_D A [(h, .inr (2, [.ref (r 0), .ref (r 1), .ref (r 2), .ref (r 3), .int 0, .int 0, .ref (r 6), .int 0, .int 0, .int 0, .int 0, .int 0, .int 0, .int 0, .int 0, .ref (r 15), .ref (r 16), .ref (r 17), .int 0, .int 0, .ref (r 20), .ref (r 21), .ref (r 22), .int 0, .int 0, .ref (r 25), .ref (r 26), .ref (r 27), .ref (r 28), .ref (r 29), .ref (r 30), .int 0, .ref (r 32), .ref (r 33), .ref (r 34), .ref (r 35), .ref (r 36), .ref (r 37), .ref (r 38), .ref (r 39), .ref (r 40), .ref (r 41), .ref (r 42), .int 0, .ref (r 44), .int 0, .int 0, .int 0, .int 0, .int 0, .ref (r 50), .ref (r 51), .ref (r 52), .int 0, .ref (r 54), .int 0, .ref (r 56), .int 0, .int 0, .int 0])), ((r 0), .inl (dA 0, 5161, .inl (fun _ => 0)))] := hD
  refine W.eq (g2 := F0 m 5 ls [.int (-1)]) rfl ?_
  refine lv_istore_n hx hb d68_5 rfl hl (by decide) rfl (fun ls hl => ?_)
  have hl : lv_has ls 11 [(2, .int (-1)), (0, .ref h), (1, .int i)] := hl
  refine lv_iload_n hx hb d68_6 rfl (lv_at hl 0 rfl) ?_
  refine lv_if_lt hx hb d68_7 rfl (fun _ => ?_) (fun h9 => absurd (by decide) h9)
  refine lv_iload_n hx hb d68_19 rfl (lv_at hl 0 rfl) ?_
  refine lv_if_ge hx hb d68_20 rfl (fun h9 => absurd h9 (by decide)) (fun _ => ?_)
  refine lv_sipush (v := (-1000)) hx hb d68_23 (by decide) ?_
  refine lv_goto hx hb d68_26 rfl ?_
  exact ms_iret X d68_32 hP hD hS (Nat.le_of_ble_eq_true rfl) (Nat.le_of_ble_eq_true rfl) rfl

set_option maxRecDepth 100000 in
set_option maxHeartbeats 8000000 in
theorem c_mreplace (l : Launch) (D : va_G) (dA : Nat → ClassId) (s0 : State) (hE : ms_EV D dA s0) (h : Nat) (r : Nat → Nat) (i : Int32) : ms_C l D s0 yM69 bM69 5 (Option.some Jvm.ClassFile.FieldType.boolean) 2 42 0 0 [.ref h, .int i] [(h, .inr (2, [.ref (r 0), .ref (r 1), .ref (r 2), .ref (r 3), .int 0, .int 0, .ref (r 6), .int 0, .int 0, .int 0, .int 0, .int 0, .int 0, .int 0, .int 0, .ref (r 15), .ref (r 16), .ref (r 17), .int 0, .int 0, .ref (r 20), .ref (r 21), .ref (r 22), .int 0, .int 0, .ref (r 25), .ref (r 26), .ref (r 27), .ref (r 28), .ref (r 29), .ref (r 30), .int 0, .ref (r 32), .ref (r 33), .ref (r 34), .ref (r 35), .ref (r 36), .ref (r 37), .ref (r 38), .ref (r 39), .ref (r 40), .ref (r 41), .ref (r 42), .int 0, .ref (r 44), .int 0, .int 0, .int 0, .int 0, .int 0, .ref (r 50), .ref (r 51), .ref (r 52), .int 0, .ref (r 54), .int 0, .ref (r 56), .int 0, .int 0, .int 0])), ((r 0), .inl (dA 0, 5161, .inl (fun _ => 0)))] (fun vv _ => vv = some (.int 0)) := by
  refine ms_C.mk hE.1 (by decide) (Nat.le_of_ble_eq_true rfl) [(0, .ref h), (1, .int i)] rfl ?_
  intro p e s m below meth c A ls X hin hP hD hS hl
  have hx := X.1
  have hb := X.2.1
  have hml := X.2.2.1
  have hown : s.vm.findClass "MarkupStoreModel" = some m.cls := X.2.2.2.1
  have hts := X.2.2.2.2.2.2.1
  have hK := X.2.2.2.2.2.2.2.2.1
  have hA := X.2.2.2.2.2.2.2.2.2.2
  refine lv_aload_n hx hb d69_0 rfl (lv_at hl 0 rfl) ?_
  refine lv_iload_n hx hb d69_1 rfl (lv_at hl 1 rfl) ?_
  refine ms_V (C := "MarkupStoreModel") (rest := []) (as := [.int i]) (wr := []) X hl (c_place l D dA s0 hE h r i) (List.forall_mem_cons.mpr ⟨ms_k1603, List.forall_mem_cons.mpr ⟨ms_k1605, List.forall_mem_cons.mpr ⟨ms_p66, List.forall_mem_cons.mpr ⟨ms_k7, List.forall_mem_cons.mpr ⟨ms_k1606, fun _ h => absurd h List.not_mem_nil⟩⟩⟩⟩⟩) ⟨rfl, by decide +kernel, by decide +kernel, (by decide +kernel : (parseMethodDescriptor "(I)I").map (fun d => d.parameters.length) = some 1)⟩ (va_recv hK hP rfl (q0 := 0) rfl) hP hD hS [0, 1] [] rfl rfl ⟨by decide, by decide, by decide⟩ ⟨⟨Nat.le_of_ble_eq_true rfl, Nat.le_of_ble_eq_true rfl⟩, Nat.le_of_ble_eq_true rfl, Nat.le_of_ble_eq_true rfl⟩ rfl (Nat.le_of_ble_eq_true rfl) d69_2 (fun vv ww H locs hR hP hD hS => ?_)
  obtain ⟨rfl, rfl⟩ := hR
  have hP : va_P D vwCl [(h, .inr (2, [.ref (r 0), .ref (r 1), .ref (r 2), .ref (r 3), .int 0, .int 0, .ref (r 6), .int 0, .int 0, .int 0, .int 0, .int 0, .int 0, .int 0, .int 0, .ref (r 15), .ref (r 16), .ref (r 17), .int 0, .int 0, .ref (r 20), .ref (r 21), .ref (r 22), .int 0, .int 0, .ref (r 25), .ref (r 26), .ref (r 27), .ref (r 28), .ref (r 29), .ref (r 30), .int 0, .ref (r 32), .ref (r 33), .ref (r 34), .ref (r 35), .ref (r 36), .ref (r 37), .ref (r 38), .ref (r 39), .ref (r 40), .ref (r 41), .ref (r 42), .int 0, .ref (r 44), .int 0, .int 0, .int 0, .int 0, .int 0, .ref (r 50), .ref (r 51), .ref (r 52), .int 0, .ref (r 54), .int 0, .ref (r 56), .int 0, .int 0, .int 0])), ((r 0), .inl (dA 0, 5161, .inl (fun _ => 0)))] H := hP
  have hD : va_D A [(h, .inr (2, [.ref (r 0), .ref (r 1), .ref (r 2), .ref (r 3), .int 0, .int 0, .ref (r 6), .int 0, .int 0, .int 0, .int 0, .int 0, .int 0, .int 0, .int 0, .ref (r 15), .ref (r 16), .ref (r 17), .int 0, .int 0, .ref (r 20), .ref (r 21), .ref (r 22), .int 0, .int 0, .ref (r 25), .ref (r 26), .ref (r 27), .ref (r 28), .ref (r 29), .ref (r 30), .int 0, .ref (r 32), .ref (r 33), .ref (r 34), .ref (r 35), .ref (r 36), .ref (r 37), .ref (r 38), .ref (r 39), .ref (r 40), .ref (r 41), .ref (r 42), .int 0, .ref (r 44), .int 0, .int 0, .int 0, .int 0, .int 0, .ref (r 50), .ref (r 51), .ref (r 52), .int 0, .ref (r 54), .int 0, .ref (r 56), .int 0, .int 0, .int 0])), ((r 0), .inl (dA 0, 5161, .inl (fun _ => 0)))] := hD
  refine W.eq (g2 := F0 m 5 ls [.int (-1)]) rfl ?_
  refine lv_istore_n hx hb d69_5 rfl hl (by decide) rfl (fun ls hl => ?_)
  have hl : lv_has ls 5 [(2, .int (-1)), (0, .ref h), (1, .int i)] := hl
  refine lv_iload_n hx hb d69_6 rfl (lv_at hl 0 rfl) ?_
  refine lv_if_lt hx hb d69_7 rfl (fun _ => ?_) (fun h9 => absurd (by decide) h9)
  refine lv_iconst (v := 0) hx hb d69_30 (by decide) ?_
  refine lv_istore_n hx hb d69_31 rfl hl (by decide) rfl (fun ls hl => ?_)
  have hl : lv_has ls 5 [(3, .int 0), (2, .int (-1)), (0, .ref h), (1, .int i)] := hl
  refine lv_iload_n hx hb d69_32 rfl (lv_at hl 0 rfl) ?_
  refine lv_if_eq hx hb d69_33 rfl (fun _ => ?_) (fun h9 => absurd (by decide) h9)
  refine lv_iconst (v := 0) hx hb d69_64 (by decide) ?_
  refine lv_istore hx hb d69_65 hl (by decide) rfl (fun ls hl => ?_)
  have hl : lv_has ls 5 [(4, .int 0), (3, .int 0), (2, .int (-1)), (0, .ref h), (1, .int i)] := hl
  refine lv_iload hx hb d69_67 (lv_at hl 0 rfl) ?_
  refine lv_aload_n hx hb d69_69 rfl (lv_at hl 3 rfl) ?_
  refine va_get (D := D) (ci := 2) (v := .int 0) (C := kR2) (T := kT2) (N := 60) hx hb hts ku2 hown hK hP 0 rfl rfl 7 (by decide) (hts _ ms_k1323) (fun _ h => h) rfl d69_70 ?_
  refine lv_icmp_ge hx hb d69_73 rfl (fun _ => ?_) (fun h9 => absurd (by decide) h9)
  refine lv_iconst (v := 0) hx hb d69_137 (by decide) ?_
  refine lv_istore hx hb d69_138 hl (by decide) rfl (fun ls hl => ?_)
  have hl : lv_has ls 5 [(4, .int 0), (3, .int 0), (2, .int (-1)), (0, .ref h), (1, .int i)] := hl
  refine lv_iload hx hb d69_140 (lv_at hl 0 rfl) ?_
  refine lv_aload_n hx hb d69_142 rfl (lv_at hl 3 rfl) ?_
  refine va_get (D := D) (ci := 2) (v := .int 0) (C := kR2) (T := kT2) (N := 60) hx hb hts ku2 hown hK hP 0 rfl rfl 7 (by decide) (hts _ ms_k1323) (fun _ h => h) rfl d69_143 ?_
  refine lv_icmp_ge hx hb d69_146 rfl (fun _ => ?_) (fun h9 => absurd (by decide) h9)
  refine lv_iload_n hx hb d69_175 rfl (lv_at hl 1 rfl) ?_
  refine lv_if_eq hx hb d69_176 rfl (fun _ => ?_) (fun h9 => absurd (by decide) h9)
  refine lv_aload_n hx hb d69_199 rfl (lv_at hl 3 rfl) ?_
  refine lv_iconst (v := 0) hx hb d69_200 (by decide) ?_
  refine va_put (D := D) (ci := 2) (v := .int 0) (ty := .int) (C := kR2) (T := kT2) (N := 60) hx hb hts ku2 kt2 kp2 kn2 hown hK hP hD hS 0 rfl rfl 7 (by decide) (hts _ ms_k1323) (fun _ h => h) rfl (by decide +kernel) rfl rfl (Nat.le_of_ble_eq_true rfl) d69_201 (fun H locs hP hD hS => ?_)
  have hP : va_P D vwCl [(h, .inr (2, [.ref (r 0), .ref (r 1), .ref (r 2), .ref (r 3), .int 0, .int 0, .ref (r 6), .int 0, .int 0, .int 0, .int 0, .int 0, .int 0, .int 0, .int 0, .ref (r 15), .ref (r 16), .ref (r 17), .int 0, .int 0, .ref (r 20), .ref (r 21), .ref (r 22), .int 0, .int 0, .ref (r 25), .ref (r 26), .ref (r 27), .ref (r 28), .ref (r 29), .ref (r 30), .int 0, .ref (r 32), .ref (r 33), .ref (r 34), .ref (r 35), .ref (r 36), .ref (r 37), .ref (r 38), .ref (r 39), .ref (r 40), .ref (r 41), .ref (r 42), .int 0, .ref (r 44), .int 0, .int 0, .int 0, .int 0, .int 0, .ref (r 50), .ref (r 51), .ref (r 52), .int 0, .ref (r 54), .int 0, .ref (r 56), .int 0, .int 0, .int 0])), ((r 0), .inl (dA 0, 5161, .inl (fun _ => 0)))] H := hP
  have hD : va_D A [(h, .inr (2, [.ref (r 0), .ref (r 1), .ref (r 2), .ref (r 3), .int 0, .int 0, .ref (r 6), .int 0, .int 0, .int 0, .int 0, .int 0, .int 0, .int 0, .int 0, .ref (r 15), .ref (r 16), .ref (r 17), .int 0, .int 0, .ref (r 20), .ref (r 21), .ref (r 22), .int 0, .int 0, .ref (r 25), .ref (r 26), .ref (r 27), .ref (r 28), .ref (r 29), .ref (r 30), .int 0, .ref (r 32), .ref (r 33), .ref (r 34), .ref (r 35), .ref (r 36), .ref (r 37), .ref (r 38), .ref (r 39), .ref (r 40), .ref (r 41), .ref (r 42), .int 0, .ref (r 44), .int 0, .int 0, .int 0, .int 0, .int 0, .ref (r 50), .ref (r 51), .ref (r 52), .int 0, .ref (r 54), .int 0, .ref (r 56), .int 0, .int 0, .int 0])), ((r 0), .inl (dA 0, 5161, .inl (fun _ => 0)))] := hD
  refine lv_iload_n hx hb d69_204 rfl (lv_at hl 1 rfl) ?_
  exact ms_zret X d69_205 hP hD hS (Nat.le_of_ble_eq_true rfl) (Nat.le_of_ble_eq_true rfl) rfl (rfl)

set_option maxRecDepth 100000 in
set_option maxHeartbeats 8000000 in
theorem c_mquery (l : Launch) (D : va_G) (dA : Nat → ClassId) (s0 : State) (hE : ms_EV D dA s0) (h : Nat) (r : Nat → Nat) (i : Int32) : ms_C l D s0 yM70 bM70 4 (Option.some Jvm.ClassFile.FieldType.int) 2 42 0 0 [.ref h, .int i] [(h, .inr (2, [.ref (r 0), .ref (r 1), .ref (r 2), .ref (r 3), .int 0, .int 0, .ref (r 6), .int 0, .int 0, .int 0, .int 0, .int 0, .int 0, .int 0, .int 0, .ref (r 15), .ref (r 16), .ref (r 17), .int 0, .int 0, .ref (r 20), .ref (r 21), .ref (r 22), .int 0, .int 0, .ref (r 25), .ref (r 26), .ref (r 27), .ref (r 28), .ref (r 29), .ref (r 30), .int 0, .ref (r 32), .ref (r 33), .ref (r 34), .ref (r 35), .ref (r 36), .ref (r 37), .ref (r 38), .ref (r 39), .ref (r 40), .ref (r 41), .ref (r 42), .int 0, .ref (r 44), .int 0, .int 0, .int 0, .int 0, .int 0, .ref (r 50), .ref (r 51), .ref (r 52), .int 0, .ref (r 54), .int 0, .ref (r 56), .int 0, .int 0, .int 0])), ((r 0), .inl (dA 0, 5161, .inl (fun _ => 0)))] (fun vv _ => vv = some (.int (-1000))) := by
  refine ms_C.mk hE.1 (by decide) (Nat.le_of_ble_eq_true rfl) [(0, .ref h), (1, .int i)] rfl ?_
  intro p e s m below meth c A ls X hin hP hD hS hl
  have hx := X.1
  have hb := X.2.1
  have hml := X.2.2.1
  have hown : s.vm.findClass "MarkupStoreModel" = some m.cls := X.2.2.2.1
  have hts := X.2.2.2.2.2.2.1
  have hK := X.2.2.2.2.2.2.2.2.1
  have hA := X.2.2.2.2.2.2.2.2.2.2
  refine lv_aload_n hx hb d70_0 rfl (lv_at hl 0 rfl) ?_
  refine lv_iload_n hx hb d70_1 rfl (lv_at hl 1 rfl) ?_
  refine ms_V (C := "MarkupStoreModel") (rest := []) (as := [.int i]) (wr := []) X hl (c_place l D dA s0 hE h r i) (List.forall_mem_cons.mpr ⟨ms_k1603, List.forall_mem_cons.mpr ⟨ms_k1605, List.forall_mem_cons.mpr ⟨ms_p66, List.forall_mem_cons.mpr ⟨ms_k7, List.forall_mem_cons.mpr ⟨ms_k1606, fun _ h => absurd h List.not_mem_nil⟩⟩⟩⟩⟩) ⟨rfl, by decide +kernel, by decide +kernel, (by decide +kernel : (parseMethodDescriptor "(I)I").map (fun d => d.parameters.length) = some 1)⟩ (va_recv hK hP rfl (q0 := 0) rfl) hP hD hS [0, 1] [] rfl rfl ⟨by decide, by decide, by decide⟩ ⟨⟨Nat.le_of_ble_eq_true rfl, Nat.le_of_ble_eq_true rfl⟩, Nat.le_of_ble_eq_true rfl, Nat.le_of_ble_eq_true rfl⟩ rfl (Nat.le_of_ble_eq_true rfl) d70_2 (fun vv ww H locs hR hP hD hS => ?_)
  obtain ⟨rfl, rfl⟩ := hR
  have hP : va_P D vwCl [(h, .inr (2, [.ref (r 0), .ref (r 1), .ref (r 2), .ref (r 3), .int 0, .int 0, .ref (r 6), .int 0, .int 0, .int 0, .int 0, .int 0, .int 0, .int 0, .int 0, .ref (r 15), .ref (r 16), .ref (r 17), .int 0, .int 0, .ref (r 20), .ref (r 21), .ref (r 22), .int 0, .int 0, .ref (r 25), .ref (r 26), .ref (r 27), .ref (r 28), .ref (r 29), .ref (r 30), .int 0, .ref (r 32), .ref (r 33), .ref (r 34), .ref (r 35), .ref (r 36), .ref (r 37), .ref (r 38), .ref (r 39), .ref (r 40), .ref (r 41), .ref (r 42), .int 0, .ref (r 44), .int 0, .int 0, .int 0, .int 0, .int 0, .ref (r 50), .ref (r 51), .ref (r 52), .int 0, .ref (r 54), .int 0, .ref (r 56), .int 0, .int 0, .int 0])), ((r 0), .inl (dA 0, 5161, .inl (fun _ => 0)))] H := hP
  have hD : va_D A [(h, .inr (2, [.ref (r 0), .ref (r 1), .ref (r 2), .ref (r 3), .int 0, .int 0, .ref (r 6), .int 0, .int 0, .int 0, .int 0, .int 0, .int 0, .int 0, .int 0, .ref (r 15), .ref (r 16), .ref (r 17), .int 0, .int 0, .ref (r 20), .ref (r 21), .ref (r 22), .int 0, .int 0, .ref (r 25), .ref (r 26), .ref (r 27), .ref (r 28), .ref (r 29), .ref (r 30), .int 0, .ref (r 32), .ref (r 33), .ref (r 34), .ref (r 35), .ref (r 36), .ref (r 37), .ref (r 38), .ref (r 39), .ref (r 40), .ref (r 41), .ref (r 42), .int 0, .ref (r 44), .int 0, .int 0, .int 0, .int 0, .int 0, .ref (r 50), .ref (r 51), .ref (r 52), .int 0, .ref (r 54), .int 0, .ref (r 56), .int 0, .int 0, .int 0])), ((r 0), .inl (dA 0, 5161, .inl (fun _ => 0)))] := hD
  refine W.eq (g2 := F0 m 5 ls [.int (-1)]) rfl ?_
  refine lv_istore_n hx hb d70_5 rfl hl (by decide) rfl (fun ls hl => ?_)
  have hl : lv_has ls 4 [(2, .int (-1)), (0, .ref h), (1, .int i)] := hl
  refine lv_iload_n hx hb d70_6 rfl (lv_at hl 0 rfl) ?_
  refine lv_if_ge hx hb d70_7 rfl (fun h9 => absurd h9 (by decide)) (fun _ => ?_)
  refine lv_sipush (v := (-1000)) hx hb d70_10 (by decide) ?_
  refine lv_goto hx hb d70_13 rfl ?_
  refine lv_istore_n hx hb d70_21 rfl hl (by decide) rfl (fun ls hl => ?_)
  have hl : lv_has ls 4 [(3, .int (-1000)), (2, .int (-1)), (0, .ref h), (1, .int i)] := hl
  refine lv_aload_n hx hb d70_22 rfl (lv_at hl 2 rfl) ?_
  refine lv_iconst (v := 0) hx hb d70_23 (by decide) ?_
  refine va_put (D := D) (ci := 2) (v := .int 0) (ty := .int) (C := kR2) (T := kT2) (N := 60) hx hb hts ku2 kt2 kp2 kn2 hown hK hP hD hS 0 rfl rfl 7 (by decide) (hts _ ms_k1323) (fun _ h => h) rfl (by decide +kernel) rfl rfl (Nat.le_of_ble_eq_true rfl) d70_24 (fun H locs hP hD hS => ?_)
  have hP : va_P D vwCl [(h, .inr (2, [.ref (r 0), .ref (r 1), .ref (r 2), .ref (r 3), .int 0, .int 0, .ref (r 6), .int 0, .int 0, .int 0, .int 0, .int 0, .int 0, .int 0, .int 0, .ref (r 15), .ref (r 16), .ref (r 17), .int 0, .int 0, .ref (r 20), .ref (r 21), .ref (r 22), .int 0, .int 0, .ref (r 25), .ref (r 26), .ref (r 27), .ref (r 28), .ref (r 29), .ref (r 30), .int 0, .ref (r 32), .ref (r 33), .ref (r 34), .ref (r 35), .ref (r 36), .ref (r 37), .ref (r 38), .ref (r 39), .ref (r 40), .ref (r 41), .ref (r 42), .int 0, .ref (r 44), .int 0, .int 0, .int 0, .int 0, .int 0, .ref (r 50), .ref (r 51), .ref (r 52), .int 0, .ref (r 54), .int 0, .ref (r 56), .int 0, .int 0, .int 0])), ((r 0), .inl (dA 0, 5161, .inl (fun _ => 0)))] H := hP
  have hD : va_D A [(h, .inr (2, [.ref (r 0), .ref (r 1), .ref (r 2), .ref (r 3), .int 0, .int 0, .ref (r 6), .int 0, .int 0, .int 0, .int 0, .int 0, .int 0, .int 0, .int 0, .ref (r 15), .ref (r 16), .ref (r 17), .int 0, .int 0, .ref (r 20), .ref (r 21), .ref (r 22), .int 0, .int 0, .ref (r 25), .ref (r 26), .ref (r 27), .ref (r 28), .ref (r 29), .ref (r 30), .int 0, .ref (r 32), .ref (r 33), .ref (r 34), .ref (r 35), .ref (r 36), .ref (r 37), .ref (r 38), .ref (r 39), .ref (r 40), .ref (r 41), .ref (r 42), .int 0, .ref (r 44), .int 0, .int 0, .int 0, .int 0, .int 0, .ref (r 50), .ref (r 51), .ref (r 52), .int 0, .ref (r 54), .int 0, .ref (r 56), .int 0, .int 0, .int 0])), ((r 0), .inl (dA 0, 5161, .inl (fun _ => 0)))] := hD
  refine lv_iload_n hx hb d70_27 rfl (lv_at hl 0 rfl) ?_
  exact ms_iret X d70_28 hP hD hS (Nat.le_of_ble_eq_true rfl) (Nat.le_of_ble_eq_true rfl) rfl

set_option maxRecDepth 100000 in
set_option maxHeartbeats 8000000 in
theorem c_mkind (l : Launch) (D : va_G) (dA : Nat → ClassId) (s0 : State) (hE : ms_EV D dA s0) (h : Nat) (r : Nat → Nat) (i : Int32) : ms_C l D s0 yM71 bM71 3 (Option.some Jvm.ClassFile.FieldType.int) 2 42 0 0 [.ref h, .int i] [(h, .inr (2, [.ref (r 0), .ref (r 1), .ref (r 2), .ref (r 3), .int 0, .int 0, .ref (r 6), .int 0, .int 0, .int 0, .int 0, .int 0, .int 0, .int 0, .int 0, .ref (r 15), .ref (r 16), .ref (r 17), .int 0, .int 0, .ref (r 20), .ref (r 21), .ref (r 22), .int 0, .int 0, .ref (r 25), .ref (r 26), .ref (r 27), .ref (r 28), .ref (r 29), .ref (r 30), .int 0, .ref (r 32), .ref (r 33), .ref (r 34), .ref (r 35), .ref (r 36), .ref (r 37), .ref (r 38), .ref (r 39), .ref (r 40), .ref (r 41), .ref (r 42), .int 0, .ref (r 44), .int 0, .int 0, .int 0, .int 0, .int 0, .ref (r 50), .ref (r 51), .ref (r 52), .int 0, .ref (r 54), .int 0, .ref (r 56), .int 0, .int 0, .int 0])), ((r 0), .inl (dA 0, 5161, .inl (fun _ => 0)))] (fun vv _ => vv = some (.int (-1000))) := by
  refine ms_C.mk hE.1 (by decide) (Nat.le_of_ble_eq_true rfl) [(0, .ref h), (1, .int i)] rfl ?_
  intro p e s m below meth c A ls X hin hP hD hS hl
  have hx := X.1
  have hb := X.2.1
  have hml := X.2.2.1
  have hown : s.vm.findClass "MarkupStoreModel" = some m.cls := X.2.2.2.1
  have hts := X.2.2.2.2.2.2.1
  have hK := X.2.2.2.2.2.2.2.2.1
  have hA := X.2.2.2.2.2.2.2.2.2.2
  refine lv_aload_n hx hb d71_0 rfl (lv_at hl 0 rfl) ?_
  refine lv_iload_n hx hb d71_1 rfl (lv_at hl 1 rfl) ?_
  refine ms_V (C := "MarkupStoreModel") (rest := []) (as := [.int i]) (wr := []) X hl (c_place l D dA s0 hE h r i) (List.forall_mem_cons.mpr ⟨ms_k1603, List.forall_mem_cons.mpr ⟨ms_k1605, List.forall_mem_cons.mpr ⟨ms_p66, List.forall_mem_cons.mpr ⟨ms_k7, List.forall_mem_cons.mpr ⟨ms_k1606, fun _ h => absurd h List.not_mem_nil⟩⟩⟩⟩⟩) ⟨rfl, by decide +kernel, by decide +kernel, (by decide +kernel : (parseMethodDescriptor "(I)I").map (fun d => d.parameters.length) = some 1)⟩ (va_recv hK hP rfl (q0 := 0) rfl) hP hD hS [0, 1] [] rfl rfl ⟨by decide, by decide, by decide⟩ ⟨⟨Nat.le_of_ble_eq_true rfl, Nat.le_of_ble_eq_true rfl⟩, Nat.le_of_ble_eq_true rfl, Nat.le_of_ble_eq_true rfl⟩ rfl (Nat.le_of_ble_eq_true rfl) d71_2 (fun vv ww H locs hR hP hD hS => ?_)
  obtain ⟨rfl, rfl⟩ := hR
  have hP : va_P D vwCl [(h, .inr (2, [.ref (r 0), .ref (r 1), .ref (r 2), .ref (r 3), .int 0, .int 0, .ref (r 6), .int 0, .int 0, .int 0, .int 0, .int 0, .int 0, .int 0, .int 0, .ref (r 15), .ref (r 16), .ref (r 17), .int 0, .int 0, .ref (r 20), .ref (r 21), .ref (r 22), .int 0, .int 0, .ref (r 25), .ref (r 26), .ref (r 27), .ref (r 28), .ref (r 29), .ref (r 30), .int 0, .ref (r 32), .ref (r 33), .ref (r 34), .ref (r 35), .ref (r 36), .ref (r 37), .ref (r 38), .ref (r 39), .ref (r 40), .ref (r 41), .ref (r 42), .int 0, .ref (r 44), .int 0, .int 0, .int 0, .int 0, .int 0, .ref (r 50), .ref (r 51), .ref (r 52), .int 0, .ref (r 54), .int 0, .ref (r 56), .int 0, .int 0, .int 0])), ((r 0), .inl (dA 0, 5161, .inl (fun _ => 0)))] H := hP
  have hD : va_D A [(h, .inr (2, [.ref (r 0), .ref (r 1), .ref (r 2), .ref (r 3), .int 0, .int 0, .ref (r 6), .int 0, .int 0, .int 0, .int 0, .int 0, .int 0, .int 0, .int 0, .ref (r 15), .ref (r 16), .ref (r 17), .int 0, .int 0, .ref (r 20), .ref (r 21), .ref (r 22), .int 0, .int 0, .ref (r 25), .ref (r 26), .ref (r 27), .ref (r 28), .ref (r 29), .ref (r 30), .int 0, .ref (r 32), .ref (r 33), .ref (r 34), .ref (r 35), .ref (r 36), .ref (r 37), .ref (r 38), .ref (r 39), .ref (r 40), .ref (r 41), .ref (r 42), .int 0, .ref (r 44), .int 0, .int 0, .int 0, .int 0, .int 0, .ref (r 50), .ref (r 51), .ref (r 52), .int 0, .ref (r 54), .int 0, .ref (r 56), .int 0, .int 0, .int 0])), ((r 0), .inl (dA 0, 5161, .inl (fun _ => 0)))] := hD
  refine W.eq (g2 := F0 m 5 ls [.int (-1)]) rfl ?_
  refine lv_istore_n hx hb d71_5 rfl hl (by decide) rfl (fun ls hl => ?_)
  have hl : lv_has ls 3 [(2, .int (-1)), (0, .ref h), (1, .int i)] := hl
  refine lv_iload_n hx hb d71_6 rfl (lv_at hl 0 rfl) ?_
  refine lv_if_ge hx hb d71_7 rfl (fun h9 => absurd h9 (by decide)) (fun _ => ?_)
  refine lv_sipush (v := (-1000)) hx hb d71_10 (by decide) ?_
  refine lv_goto hx hb d71_13 rfl ?_
  exact ms_iret X d71_22 hP hD hS (Nat.le_of_ble_eq_true rfl) (Nat.le_of_ble_eq_true rfl) rfl

set_option maxRecDepth 100000 in
set_option maxHeartbeats 8000000 in
theorem c_mnode (l : Launch) (D : va_G) (dA : Nat → ClassId) (s0 : State) (hE : ms_EV D dA s0) (h : Nat) (r : Nat → Nat) (i : Int32) (j : Int32) : ms_C l D s0 yM72 bM72 4 (Option.some Jvm.ClassFile.FieldType.int) 2 42 0 0 [.ref h, .int i, .int j] [(h, .inr (2, [.ref (r 0), .ref (r 1), .ref (r 2), .ref (r 3), .int 0, .int 0, .ref (r 6), .int 0, .int 0, .int 0, .int 0, .int 0, .int 0, .int 0, .int 0, .ref (r 15), .ref (r 16), .ref (r 17), .int 0, .int 0, .ref (r 20), .ref (r 21), .ref (r 22), .int 0, .int 0, .ref (r 25), .ref (r 26), .ref (r 27), .ref (r 28), .ref (r 29), .ref (r 30), .int 0, .ref (r 32), .ref (r 33), .ref (r 34), .ref (r 35), .ref (r 36), .ref (r 37), .ref (r 38), .ref (r 39), .ref (r 40), .ref (r 41), .ref (r 42), .int 0, .ref (r 44), .int 0, .int 0, .int 0, .int 0, .int 0, .ref (r 50), .ref (r 51), .ref (r 52), .int 0, .ref (r 54), .int 0, .ref (r 56), .int 0, .int 0, .int 0])), ((r 0), .inl (dA 0, 5161, .inl (fun _ => 0)))] (fun vv _ => vv = some (.int (-1000))) := by
  refine ms_C.mk hE.1 (by decide) (Nat.le_of_ble_eq_true rfl) [(0, .ref h), (1, .int i), (2, .int j)] rfl ?_
  intro p e s m below meth c A ls X hin hP hD hS hl
  have hx := X.1
  have hb := X.2.1
  have hml := X.2.2.1
  have hown : s.vm.findClass "MarkupStoreModel" = some m.cls := X.2.2.2.1
  have hts := X.2.2.2.2.2.2.1
  have hK := X.2.2.2.2.2.2.2.2.1
  have hA := X.2.2.2.2.2.2.2.2.2.2
  refine lv_aload_n hx hb d72_0 rfl (lv_at hl 0 rfl) ?_
  refine lv_iload_n hx hb d72_1 rfl (lv_at hl 1 rfl) ?_
  refine ms_V (C := "MarkupStoreModel") (rest := []) (as := [.int i]) (wr := []) X hl (c_place l D dA s0 hE h r i) (List.forall_mem_cons.mpr ⟨ms_k1603, List.forall_mem_cons.mpr ⟨ms_k1605, List.forall_mem_cons.mpr ⟨ms_p66, List.forall_mem_cons.mpr ⟨ms_k7, List.forall_mem_cons.mpr ⟨ms_k1606, fun _ h => absurd h List.not_mem_nil⟩⟩⟩⟩⟩) ⟨rfl, by decide +kernel, by decide +kernel, (by decide +kernel : (parseMethodDescriptor "(I)I").map (fun d => d.parameters.length) = some 1)⟩ (va_recv hK hP rfl (q0 := 0) rfl) hP hD hS [0, 1] [] rfl rfl ⟨by decide, by decide, by decide⟩ ⟨⟨Nat.le_of_ble_eq_true rfl, Nat.le_of_ble_eq_true rfl⟩, Nat.le_of_ble_eq_true rfl, Nat.le_of_ble_eq_true rfl⟩ rfl (Nat.le_of_ble_eq_true rfl) d72_2 (fun vv ww H locs hR hP hD hS => ?_)
  obtain ⟨rfl, rfl⟩ := hR
  have hP : va_P D vwCl [(h, .inr (2, [.ref (r 0), .ref (r 1), .ref (r 2), .ref (r 3), .int 0, .int 0, .ref (r 6), .int 0, .int 0, .int 0, .int 0, .int 0, .int 0, .int 0, .int 0, .ref (r 15), .ref (r 16), .ref (r 17), .int 0, .int 0, .ref (r 20), .ref (r 21), .ref (r 22), .int 0, .int 0, .ref (r 25), .ref (r 26), .ref (r 27), .ref (r 28), .ref (r 29), .ref (r 30), .int 0, .ref (r 32), .ref (r 33), .ref (r 34), .ref (r 35), .ref (r 36), .ref (r 37), .ref (r 38), .ref (r 39), .ref (r 40), .ref (r 41), .ref (r 42), .int 0, .ref (r 44), .int 0, .int 0, .int 0, .int 0, .int 0, .ref (r 50), .ref (r 51), .ref (r 52), .int 0, .ref (r 54), .int 0, .ref (r 56), .int 0, .int 0, .int 0])), ((r 0), .inl (dA 0, 5161, .inl (fun _ => 0)))] H := hP
  have hD : va_D A [(h, .inr (2, [.ref (r 0), .ref (r 1), .ref (r 2), .ref (r 3), .int 0, .int 0, .ref (r 6), .int 0, .int 0, .int 0, .int 0, .int 0, .int 0, .int 0, .int 0, .ref (r 15), .ref (r 16), .ref (r 17), .int 0, .int 0, .ref (r 20), .ref (r 21), .ref (r 22), .int 0, .int 0, .ref (r 25), .ref (r 26), .ref (r 27), .ref (r 28), .ref (r 29), .ref (r 30), .int 0, .ref (r 32), .ref (r 33), .ref (r 34), .ref (r 35), .ref (r 36), .ref (r 37), .ref (r 38), .ref (r 39), .ref (r 40), .ref (r 41), .ref (r 42), .int 0, .ref (r 44), .int 0, .int 0, .int 0, .int 0, .int 0, .ref (r 50), .ref (r 51), .ref (r 52), .int 0, .ref (r 54), .int 0, .ref (r 56), .int 0, .int 0, .int 0])), ((r 0), .inl (dA 0, 5161, .inl (fun _ => 0)))] := hD
  refine W.eq (g2 := F0 m 5 ls [.int (-1)]) rfl ?_
  refine lv_istore_n hx hb d72_5 rfl hl (by decide) rfl (fun ls hl => ?_)
  have hl : lv_has ls 4 [(3, .int (-1)), (0, .ref h), (1, .int i), (2, .int j)] := hl
  refine lv_iload_n hx hb d72_6 rfl (lv_at hl 0 rfl) ?_
  refine lv_if_ge hx hb d72_7 rfl (fun h9 => absurd h9 (by decide)) (fun _ => ?_)
  refine lv_sipush (v := (-1000)) hx hb d72_10 (by decide) ?_
  exact ms_iret X d72_13 hP hD hS (Nat.le_of_ble_eq_true rfl) (Nat.le_of_ble_eq_true rfl) rfl

set_option maxRecDepth 100000 in
set_option maxHeartbeats 8000000 in
theorem c_mletter (l : Launch) (D : va_G) (dA : Nat → ClassId) (s0 : State) (hE : ms_EV D dA s0) (h : Nat) (r : Nat → Nat) (i : Int32) (j : Int32) : ms_C l D s0 yM73 bM73 4 (Option.some Jvm.ClassFile.FieldType.int) 2 42 0 0 [.ref h, .int i, .int j] [(h, .inr (2, [.ref (r 0), .ref (r 1), .ref (r 2), .ref (r 3), .int 0, .int 0, .ref (r 6), .int 0, .int 0, .int 0, .int 0, .int 0, .int 0, .int 0, .int 0, .ref (r 15), .ref (r 16), .ref (r 17), .int 0, .int 0, .ref (r 20), .ref (r 21), .ref (r 22), .int 0, .int 0, .ref (r 25), .ref (r 26), .ref (r 27), .ref (r 28), .ref (r 29), .ref (r 30), .int 0, .ref (r 32), .ref (r 33), .ref (r 34), .ref (r 35), .ref (r 36), .ref (r 37), .ref (r 38), .ref (r 39), .ref (r 40), .ref (r 41), .ref (r 42), .int 0, .ref (r 44), .int 0, .int 0, .int 0, .int 0, .int 0, .ref (r 50), .ref (r 51), .ref (r 52), .int 0, .ref (r 54), .int 0, .ref (r 56), .int 0, .int 0, .int 0])), ((r 0), .inl (dA 0, 5161, .inl (fun _ => 0)))] (fun vv _ => vv = some (.int 0)) := by
  refine ms_C.mk hE.1 (by decide) (Nat.le_of_ble_eq_true rfl) [(0, .ref h), (1, .int i), (2, .int j)] rfl ?_
  intro p e s m below meth c A ls X hin hP hD hS hl
  have hx := X.1
  have hb := X.2.1
  have hml := X.2.2.1
  have hown : s.vm.findClass "MarkupStoreModel" = some m.cls := X.2.2.2.1
  have hts := X.2.2.2.2.2.2.1
  have hK := X.2.2.2.2.2.2.2.2.1
  have hA := X.2.2.2.2.2.2.2.2.2.2
  refine lv_aload_n hx hb d73_0 rfl (lv_at hl 0 rfl) ?_
  refine lv_iload_n hx hb d73_1 rfl (lv_at hl 1 rfl) ?_
  refine ms_V (C := "MarkupStoreModel") (rest := []) (as := [.int i]) (wr := []) X hl (c_place l D dA s0 hE h r i) (List.forall_mem_cons.mpr ⟨ms_k1603, List.forall_mem_cons.mpr ⟨ms_k1605, List.forall_mem_cons.mpr ⟨ms_p66, List.forall_mem_cons.mpr ⟨ms_k7, List.forall_mem_cons.mpr ⟨ms_k1606, fun _ h => absurd h List.not_mem_nil⟩⟩⟩⟩⟩) ⟨rfl, by decide +kernel, by decide +kernel, (by decide +kernel : (parseMethodDescriptor "(I)I").map (fun d => d.parameters.length) = some 1)⟩ (va_recv hK hP rfl (q0 := 0) rfl) hP hD hS [0, 1] [] rfl rfl ⟨by decide, by decide, by decide⟩ ⟨⟨Nat.le_of_ble_eq_true rfl, Nat.le_of_ble_eq_true rfl⟩, Nat.le_of_ble_eq_true rfl, Nat.le_of_ble_eq_true rfl⟩ rfl (Nat.le_of_ble_eq_true rfl) d73_2 (fun vv ww H locs hR hP hD hS => ?_)
  obtain ⟨rfl, rfl⟩ := hR
  have hP : va_P D vwCl [(h, .inr (2, [.ref (r 0), .ref (r 1), .ref (r 2), .ref (r 3), .int 0, .int 0, .ref (r 6), .int 0, .int 0, .int 0, .int 0, .int 0, .int 0, .int 0, .int 0, .ref (r 15), .ref (r 16), .ref (r 17), .int 0, .int 0, .ref (r 20), .ref (r 21), .ref (r 22), .int 0, .int 0, .ref (r 25), .ref (r 26), .ref (r 27), .ref (r 28), .ref (r 29), .ref (r 30), .int 0, .ref (r 32), .ref (r 33), .ref (r 34), .ref (r 35), .ref (r 36), .ref (r 37), .ref (r 38), .ref (r 39), .ref (r 40), .ref (r 41), .ref (r 42), .int 0, .ref (r 44), .int 0, .int 0, .int 0, .int 0, .int 0, .ref (r 50), .ref (r 51), .ref (r 52), .int 0, .ref (r 54), .int 0, .ref (r 56), .int 0, .int 0, .int 0])), ((r 0), .inl (dA 0, 5161, .inl (fun _ => 0)))] H := hP
  have hD : va_D A [(h, .inr (2, [.ref (r 0), .ref (r 1), .ref (r 2), .ref (r 3), .int 0, .int 0, .ref (r 6), .int 0, .int 0, .int 0, .int 0, .int 0, .int 0, .int 0, .int 0, .ref (r 15), .ref (r 16), .ref (r 17), .int 0, .int 0, .ref (r 20), .ref (r 21), .ref (r 22), .int 0, .int 0, .ref (r 25), .ref (r 26), .ref (r 27), .ref (r 28), .ref (r 29), .ref (r 30), .int 0, .ref (r 32), .ref (r 33), .ref (r 34), .ref (r 35), .ref (r 36), .ref (r 37), .ref (r 38), .ref (r 39), .ref (r 40), .ref (r 41), .ref (r 42), .int 0, .ref (r 44), .int 0, .int 0, .int 0, .int 0, .int 0, .ref (r 50), .ref (r 51), .ref (r 52), .int 0, .ref (r 54), .int 0, .ref (r 56), .int 0, .int 0, .int 0])), ((r 0), .inl (dA 0, 5161, .inl (fun _ => 0)))] := hD
  refine W.eq (g2 := F0 m 5 ls [.int (-1)]) rfl ?_
  refine lv_istore_n hx hb d73_5 rfl hl (by decide) rfl (fun ls hl => ?_)
  have hl : lv_has ls 4 [(3, .int (-1)), (0, .ref h), (1, .int i), (2, .int j)] := hl
  refine lv_iload_n hx hb d73_6 rfl (lv_at hl 0 rfl) ?_
  refine lv_if_lt hx hb d73_7 rfl (fun _ => ?_) (fun h9 => absurd (by decide) h9)
  refine lv_iconst (v := 0) hx hb d73_24 (by decide) ?_
  refine lv_goto hx hb d73_25 rfl ?_
  exact ms_iret X d73_37 hP hD hS (Nat.le_of_ble_eq_true rfl) (Nat.le_of_ble_eq_true rfl) rfl

set_option maxRecDepth 100000 in
set_option maxHeartbeats 8000000 in
theorem c_mlabel (l : Launch) (D : va_G) (dA : Nat → ClassId) (s0 : State) (hE : ms_EV D dA s0) (h : Nat) (r : Nat → Nat) (i : Int32) (j : Int32) : ms_C l D s0 yM74 bM74 4 (Option.some Jvm.ClassFile.FieldType.int) 2 42 0 0 [.ref h, .int i, .int j] [(h, .inr (2, [.ref (r 0), .ref (r 1), .ref (r 2), .ref (r 3), .int 0, .int 0, .ref (r 6), .int 0, .int 0, .int 0, .int 0, .int 0, .int 0, .int 0, .int 0, .ref (r 15), .ref (r 16), .ref (r 17), .int 0, .int 0, .ref (r 20), .ref (r 21), .ref (r 22), .int 0, .int 0, .ref (r 25), .ref (r 26), .ref (r 27), .ref (r 28), .ref (r 29), .ref (r 30), .int 0, .ref (r 32), .ref (r 33), .ref (r 34), .ref (r 35), .ref (r 36), .ref (r 37), .ref (r 38), .ref (r 39), .ref (r 40), .ref (r 41), .ref (r 42), .int 0, .ref (r 44), .int 0, .int 0, .int 0, .int 0, .int 0, .ref (r 50), .ref (r 51), .ref (r 52), .int 0, .ref (r 54), .int 0, .ref (r 56), .int 0, .int 0, .int 0])), ((r 0), .inl (dA 0, 5161, .inl (fun _ => 0)))] (fun vv _ => vv = some (.int 0)) := by
  refine ms_C.mk hE.1 (by decide) (Nat.le_of_ble_eq_true rfl) [(0, .ref h), (1, .int i), (2, .int j)] rfl ?_
  intro p e s m below meth c A ls X hin hP hD hS hl
  have hx := X.1
  have hb := X.2.1
  have hml := X.2.2.1
  have hown : s.vm.findClass "MarkupStoreModel" = some m.cls := X.2.2.2.1
  have hts := X.2.2.2.2.2.2.1
  have hK := X.2.2.2.2.2.2.2.2.1
  have hA := X.2.2.2.2.2.2.2.2.2.2
  refine lv_aload_n hx hb d74_0 rfl (lv_at hl 0 rfl) ?_
  refine lv_iload_n hx hb d74_1 rfl (lv_at hl 1 rfl) ?_
  refine ms_V (C := "MarkupStoreModel") (rest := []) (as := [.int i]) (wr := []) X hl (c_place l D dA s0 hE h r i) (List.forall_mem_cons.mpr ⟨ms_k1603, List.forall_mem_cons.mpr ⟨ms_k1605, List.forall_mem_cons.mpr ⟨ms_p66, List.forall_mem_cons.mpr ⟨ms_k7, List.forall_mem_cons.mpr ⟨ms_k1606, fun _ h => absurd h List.not_mem_nil⟩⟩⟩⟩⟩) ⟨rfl, by decide +kernel, by decide +kernel, (by decide +kernel : (parseMethodDescriptor "(I)I").map (fun d => d.parameters.length) = some 1)⟩ (va_recv hK hP rfl (q0 := 0) rfl) hP hD hS [0, 1] [] rfl rfl ⟨by decide, by decide, by decide⟩ ⟨⟨Nat.le_of_ble_eq_true rfl, Nat.le_of_ble_eq_true rfl⟩, Nat.le_of_ble_eq_true rfl, Nat.le_of_ble_eq_true rfl⟩ rfl (Nat.le_of_ble_eq_true rfl) d74_2 (fun vv ww H locs hR hP hD hS => ?_)
  obtain ⟨rfl, rfl⟩ := hR
  have hP : va_P D vwCl [(h, .inr (2, [.ref (r 0), .ref (r 1), .ref (r 2), .ref (r 3), .int 0, .int 0, .ref (r 6), .int 0, .int 0, .int 0, .int 0, .int 0, .int 0, .int 0, .int 0, .ref (r 15), .ref (r 16), .ref (r 17), .int 0, .int 0, .ref (r 20), .ref (r 21), .ref (r 22), .int 0, .int 0, .ref (r 25), .ref (r 26), .ref (r 27), .ref (r 28), .ref (r 29), .ref (r 30), .int 0, .ref (r 32), .ref (r 33), .ref (r 34), .ref (r 35), .ref (r 36), .ref (r 37), .ref (r 38), .ref (r 39), .ref (r 40), .ref (r 41), .ref (r 42), .int 0, .ref (r 44), .int 0, .int 0, .int 0, .int 0, .int 0, .ref (r 50), .ref (r 51), .ref (r 52), .int 0, .ref (r 54), .int 0, .ref (r 56), .int 0, .int 0, .int 0])), ((r 0), .inl (dA 0, 5161, .inl (fun _ => 0)))] H := hP
  have hD : va_D A [(h, .inr (2, [.ref (r 0), .ref (r 1), .ref (r 2), .ref (r 3), .int 0, .int 0, .ref (r 6), .int 0, .int 0, .int 0, .int 0, .int 0, .int 0, .int 0, .int 0, .ref (r 15), .ref (r 16), .ref (r 17), .int 0, .int 0, .ref (r 20), .ref (r 21), .ref (r 22), .int 0, .int 0, .ref (r 25), .ref (r 26), .ref (r 27), .ref (r 28), .ref (r 29), .ref (r 30), .int 0, .ref (r 32), .ref (r 33), .ref (r 34), .ref (r 35), .ref (r 36), .ref (r 37), .ref (r 38), .ref (r 39), .ref (r 40), .ref (r 41), .ref (r 42), .int 0, .ref (r 44), .int 0, .int 0, .int 0, .int 0, .int 0, .ref (r 50), .ref (r 51), .ref (r 52), .int 0, .ref (r 54), .int 0, .ref (r 56), .int 0, .int 0, .int 0])), ((r 0), .inl (dA 0, 5161, .inl (fun _ => 0)))] := hD
  refine W.eq (g2 := F0 m 5 ls [.int (-1)]) rfl ?_
  refine lv_istore_n hx hb d74_5 rfl hl (by decide) rfl (fun ls hl => ?_)
  have hl : lv_has ls 4 [(3, .int (-1)), (0, .ref h), (1, .int i), (2, .int j)] := hl
  refine lv_iload_n hx hb d74_6 rfl (lv_at hl 0 rfl) ?_
  refine lv_if_lt hx hb d74_7 rfl (fun _ => ?_) (fun h9 => absurd (by decide) h9)
  refine lv_iconst (v := 0) hx hb d74_24 (by decide) ?_
  refine lv_goto hx hb d74_25 rfl ?_
  exact ms_iret X d74_37 hP hD hS (Nat.le_of_ble_eq_true rfl) (Nat.le_of_ble_eq_true rfl) rfl

set_option maxRecDepth 100000 in
set_option maxHeartbeats 8000000 in
theorem c_mresult (l : Launch) (D : va_G) (dA : Nat → ClassId) (s0 : State) (hE : ms_EV D dA s0) (h : Nat) (r : Nat → Nat) (i : Int32) : ms_C l D s0 yM75 bM75 2 (Option.some Jvm.ClassFile.FieldType.int) 0 0 0 0 [.ref h, .int i] [(h, .inr (2, [.ref (r 0), .ref (r 1), .ref (r 2), .ref (r 3), .int 0, .int 0, .ref (r 6), .int 0, .int 0, .int 0, .int 0, .int 0, .int 0, .int 0, .int 0, .ref (r 15), .ref (r 16), .ref (r 17), .int 0, .int 0, .ref (r 20), .ref (r 21), .ref (r 22), .int 0, .int 0, .ref (r 25), .ref (r 26), .ref (r 27), .ref (r 28), .ref (r 29), .ref (r 30), .int 0, .ref (r 32), .ref (r 33), .ref (r 34), .ref (r 35), .ref (r 36), .ref (r 37), .ref (r 38), .ref (r 39), .ref (r 40), .ref (r 41), .ref (r 42), .int 0, .ref (r 44), .int 0, .int 0, .int 0, .int 0, .int 0, .ref (r 50), .ref (r 51), .ref (r 52), .int 0, .ref (r 54), .int 0, .ref (r 56), .int 0, .int 0, .int 0]))] (fun vv _ => vv = some (.int (-1000))) := by
  refine ms_C.mk hE.1 (by decide) (Nat.le_of_ble_eq_true rfl) [(0, .ref h), (1, .int i)] rfl ?_
  intro p e s m below meth c A ls X hin hP hD hS hl
  have hx := X.1
  have hb := X.2.1
  have hml := X.2.2.1
  have hown : s.vm.findClass "MarkupStoreModel" = some m.cls := X.2.2.2.1
  have hts := X.2.2.2.2.2.2.1
  have hK := X.2.2.2.2.2.2.2.2.1
  have hA := X.2.2.2.2.2.2.2.2.2.2
  refine lv_iload_n hx hb d75_0 rfl (lv_at hl 1 rfl) ?_
  refine lv_if_lt hx hb d75_1 rfl (fun hc => ?_) (fun hc => ?_)
  · refine lv_sipush (v := (-1000)) hx hb d75_21 (by decide) ?_
    exact ms_iret X d75_24 hP hD hS (Nat.le_of_ble_eq_true rfl) (Nat.le_of_ble_eq_true rfl) rfl
  · refine lv_iload_n hx hb d75_4 rfl (lv_at hl 1 rfl) ?_
    refine lv_aload_n hx hb d75_5 rfl (lv_at hl 0 rfl) ?_
    refine va_get (D := D) (ci := 2) (v := .int 0) (C := kR2) (T := kT2) (N := 60) hx hb hts ku2 hown hK hP 0 rfl rfl 55 (by decide) (hts _ ms_k1371) (fun _ h => h) rfl d75_6 ?_
    refine lv_icmp_ge hx hb d75_9 rfl (fun _ => ?_) (fun h9 => absurd (Int32.not_lt.mp hc) h9)
    refine lv_sipush (v := (-1000)) hx hb d75_21 (by decide) ?_
    exact ms_iret X d75_24 hP hD hS (Nat.le_of_ble_eq_true rfl) (Nat.le_of_ble_eq_true rfl) rfl

set_option maxRecDepth 100000 in
set_option maxHeartbeats 8000000 in
theorem c_mroot (l : Launch) (D : va_G) (dA : Nat → ClassId) (s0 : State) (hE : ms_EV D dA s0) (h : Nat) (r : Nat → Nat) : ms_C l D s0 yM76 bM76 1 (Option.some Jvm.ClassFile.FieldType.int) 1 20 0 0 [.ref h] [(h, .inr (2, [.ref (r 0), .ref (r 1), .ref (r 2), .ref (r 3), .int 0, .int 0, .ref (r 6), .int 0, .int 0, .int 0, .int 0, .int 0, .int 0, .int 0, .int 0, .ref (r 15), .ref (r 16), .ref (r 17), .int 0, .int 0, .ref (r 20), .ref (r 21), .ref (r 22), .int 0, .int 0, .ref (r 25), .ref (r 26), .ref (r 27), .ref (r 28), .ref (r 29), .ref (r 30), .int 0, .ref (r 32), .ref (r 33), .ref (r 34), .ref (r 35), .ref (r 36), .ref (r 37), .ref (r 38), .ref (r 39), .ref (r 40), .ref (r 41), .ref (r 42), .int 0, .ref (r 44), .int 0, .int 0, .int 0, .int 0, .int 0, .ref (r 50), .ref (r 51), .ref (r 52), .int 0, .ref (r 54), .int 0, .ref (r 56), .int 0, .int 0, .int 0])), ((r 0), .inl (dA 0, 5161, .inl (fun _ => 0)))] (fun vv _ => vv = some (.int (-1000))) := by
  refine ms_C.mk hE.1 (by decide) (Nat.le_of_ble_eq_true rfl) [(0, .ref h)] rfl ?_
  intro p e s m below meth c A ls X hin hP hD hS hl
  have hx := X.1
  have hb := X.2.1
  have hml := X.2.2.1
  have hown : s.vm.findClass "MarkupStoreModel" = some m.cls := X.2.2.2.1
  have hts := X.2.2.2.2.2.2.1
  have hK := X.2.2.2.2.2.2.2.2.1
  have hA := X.2.2.2.2.2.2.2.2.2.2
  refine lv_aload_n hx hb d76_0 rfl (lv_at hl 0 rfl) ?_
  refine ms_V (C := "MarkupStoreModel") (rest := []) (as := []) (wr := []) X hl (c_count l D dA s0 hE h r 0) (List.forall_mem_cons.mpr ⟨ms_k1583, List.forall_mem_cons.mpr ⟨ms_k1585, List.forall_mem_cons.mpr ⟨ms_p62, List.forall_mem_cons.mpr ⟨ms_k7, List.forall_mem_cons.mpr ⟨ms_k1586, fun _ h => absurd h List.not_mem_nil⟩⟩⟩⟩⟩) ⟨rfl, by decide +kernel, by decide +kernel, (by decide +kernel : (parseMethodDescriptor "()I").map (fun d => d.parameters.length) = some 0)⟩ (va_recv hK hP rfl (q0 := 0) rfl) hP hD hS [0, 1] [] rfl rfl ⟨by decide, by decide, by decide⟩ ⟨⟨Nat.le_of_ble_eq_true rfl, Nat.le_of_ble_eq_true rfl⟩, Nat.le_of_ble_eq_true rfl, Nat.le_of_ble_eq_true rfl⟩ rfl (Nat.le_of_ble_eq_true rfl) d76_1 (fun vv ww H locs hR hP hD hS => ?_)
  obtain ⟨rfl, rfl⟩ := hR
  have hP : va_P D vwCl [(h, .inr (2, [.ref (r 0), .ref (r 1), .ref (r 2), .ref (r 3), .int 0, .int 0, .ref (r 6), .int 0, .int 0, .int 0, .int 0, .int 0, .int 0, .int 0, .int 0, .ref (r 15), .ref (r 16), .ref (r 17), .int 0, .int 0, .ref (r 20), .ref (r 21), .ref (r 22), .int 0, .int 0, .ref (r 25), .ref (r 26), .ref (r 27), .ref (r 28), .ref (r 29), .ref (r 30), .int 0, .ref (r 32), .ref (r 33), .ref (r 34), .ref (r 35), .ref (r 36), .ref (r 37), .ref (r 38), .ref (r 39), .ref (r 40), .ref (r 41), .ref (r 42), .int 0, .ref (r 44), .int 0, .int 0, .int 0, .int 0, .int 0, .ref (r 50), .ref (r 51), .ref (r 52), .int 0, .ref (r 54), .int 0, .ref (r 56), .int 0, .int 0, .int 0])), ((r 0), .inl (dA 0, 5161, .inl (fun _ => 0)))] H := hP
  have hD : va_D A [(h, .inr (2, [.ref (r 0), .ref (r 1), .ref (r 2), .ref (r 3), .int 0, .int 0, .ref (r 6), .int 0, .int 0, .int 0, .int 0, .int 0, .int 0, .int 0, .int 0, .ref (r 15), .ref (r 16), .ref (r 17), .int 0, .int 0, .ref (r 20), .ref (r 21), .ref (r 22), .int 0, .int 0, .ref (r 25), .ref (r 26), .ref (r 27), .ref (r 28), .ref (r 29), .ref (r 30), .int 0, .ref (r 32), .ref (r 33), .ref (r 34), .ref (r 35), .ref (r 36), .ref (r 37), .ref (r 38), .ref (r 39), .ref (r 40), .ref (r 41), .ref (r 42), .int 0, .ref (r 44), .int 0, .int 0, .int 0, .int 0, .int 0, .ref (r 50), .ref (r 51), .ref (r 52), .int 0, .ref (r 54), .int 0, .ref (r 56), .int 0, .int 0, .int 0])), ((r 0), .inl (dA 0, 5161, .inl (fun _ => 0)))] := hD
  refine W.eq (g2 := F0 m 4 ls [.int 0]) rfl ?_
  refine lv_if_ne hx hb d76_4 rfl (fun h9 => absurd h9 (by decide)) (fun _ => ?_)
  refine lv_sipush (v := (-1000)) hx hb d76_7 (by decide) ?_
  refine lv_goto hx hb d76_10 rfl ?_
  exact ms_iret X d76_25 hP hD hS (Nat.le_of_ble_eq_true rfl) (Nat.le_of_ble_eq_true rfl) rfl

set_option maxRecDepth 100000 in
set_option maxHeartbeats 8000000 in
theorem c_mnodes (l : Launch) (D : va_G) (dA : Nat → ClassId) (s0 : State) (hE : ms_EV D dA s0) (h : Nat) (r : Nat → Nat) : ms_C l D s0 yM77 bM77 1 (Option.some Jvm.ClassFile.FieldType.int) 1 20 0 0 [.ref h] [(h, .inr (2, [.ref (r 0), .ref (r 1), .ref (r 2), .ref (r 3), .int 0, .int 0, .ref (r 6), .int 0, .int 0, .int 0, .int 0, .int 0, .int 0, .int 0, .int 0, .ref (r 15), .ref (r 16), .ref (r 17), .int 0, .int 0, .ref (r 20), .ref (r 21), .ref (r 22), .int 0, .int 0, .ref (r 25), .ref (r 26), .ref (r 27), .ref (r 28), .ref (r 29), .ref (r 30), .int 0, .ref (r 32), .ref (r 33), .ref (r 34), .ref (r 35), .ref (r 36), .ref (r 37), .ref (r 38), .ref (r 39), .ref (r 40), .ref (r 41), .ref (r 42), .int 0, .ref (r 44), .int 0, .int 0, .int 0, .int 0, .int 0, .ref (r 50), .ref (r 51), .ref (r 52), .int 0, .ref (r 54), .int 0, .ref (r 56), .int 0, .int 0, .int 0])), ((r 0), .inl (dA 0, 5161, .inl (fun _ => 0)))] (fun vv _ => vv = some (.int 0)) := by
  refine ms_C.mk hE.1 (by decide) (Nat.le_of_ble_eq_true rfl) [(0, .ref h)] rfl ?_
  intro p e s m below meth c A ls X hin hP hD hS hl
  have hx := X.1
  have hb := X.2.1
  have hml := X.2.2.1
  have hown : s.vm.findClass "MarkupStoreModel" = some m.cls := X.2.2.2.1
  have hts := X.2.2.2.2.2.2.1
  have hK := X.2.2.2.2.2.2.2.2.1
  have hA := X.2.2.2.2.2.2.2.2.2.2
  refine lv_aload_n hx hb d77_0 rfl (lv_at hl 0 rfl) ?_
  refine ms_V (C := "MarkupStoreModel") (rest := []) (as := []) (wr := []) X hl (c_count l D dA s0 hE h r 0) (List.forall_mem_cons.mpr ⟨ms_k1583, List.forall_mem_cons.mpr ⟨ms_k1585, List.forall_mem_cons.mpr ⟨ms_p62, List.forall_mem_cons.mpr ⟨ms_k7, List.forall_mem_cons.mpr ⟨ms_k1586, fun _ h => absurd h List.not_mem_nil⟩⟩⟩⟩⟩) ⟨rfl, by decide +kernel, by decide +kernel, (by decide +kernel : (parseMethodDescriptor "()I").map (fun d => d.parameters.length) = some 0)⟩ (va_recv hK hP rfl (q0 := 0) rfl) hP hD hS [0, 1] [] rfl rfl ⟨by decide, by decide, by decide⟩ ⟨⟨Nat.le_of_ble_eq_true rfl, Nat.le_of_ble_eq_true rfl⟩, Nat.le_of_ble_eq_true rfl, Nat.le_of_ble_eq_true rfl⟩ rfl (Nat.le_of_ble_eq_true rfl) d77_1 (fun vv ww H locs hR hP hD hS => ?_)
  obtain ⟨rfl, rfl⟩ := hR
  have hP : va_P D vwCl [(h, .inr (2, [.ref (r 0), .ref (r 1), .ref (r 2), .ref (r 3), .int 0, .int 0, .ref (r 6), .int 0, .int 0, .int 0, .int 0, .int 0, .int 0, .int 0, .int 0, .ref (r 15), .ref (r 16), .ref (r 17), .int 0, .int 0, .ref (r 20), .ref (r 21), .ref (r 22), .int 0, .int 0, .ref (r 25), .ref (r 26), .ref (r 27), .ref (r 28), .ref (r 29), .ref (r 30), .int 0, .ref (r 32), .ref (r 33), .ref (r 34), .ref (r 35), .ref (r 36), .ref (r 37), .ref (r 38), .ref (r 39), .ref (r 40), .ref (r 41), .ref (r 42), .int 0, .ref (r 44), .int 0, .int 0, .int 0, .int 0, .int 0, .ref (r 50), .ref (r 51), .ref (r 52), .int 0, .ref (r 54), .int 0, .ref (r 56), .int 0, .int 0, .int 0])), ((r 0), .inl (dA 0, 5161, .inl (fun _ => 0)))] H := hP
  have hD : va_D A [(h, .inr (2, [.ref (r 0), .ref (r 1), .ref (r 2), .ref (r 3), .int 0, .int 0, .ref (r 6), .int 0, .int 0, .int 0, .int 0, .int 0, .int 0, .int 0, .int 0, .ref (r 15), .ref (r 16), .ref (r 17), .int 0, .int 0, .ref (r 20), .ref (r 21), .ref (r 22), .int 0, .int 0, .ref (r 25), .ref (r 26), .ref (r 27), .ref (r 28), .ref (r 29), .ref (r 30), .int 0, .ref (r 32), .ref (r 33), .ref (r 34), .ref (r 35), .ref (r 36), .ref (r 37), .ref (r 38), .ref (r 39), .ref (r 40), .ref (r 41), .ref (r 42), .int 0, .ref (r 44), .int 0, .int 0, .int 0, .int 0, .int 0, .ref (r 50), .ref (r 51), .ref (r 52), .int 0, .ref (r 54), .int 0, .ref (r 56), .int 0, .int 0, .int 0])), ((r 0), .inl (dA 0, 5161, .inl (fun _ => 0)))] := hD
  refine W.eq (g2 := F0 m 4 ls [.int 0]) rfl ?_
  exact ms_iret X d77_4 hP hD hS (Nat.le_of_ble_eq_true rfl) (Nat.le_of_ble_eq_true rfl) rfl

set_option maxRecDepth 100000 in
set_option maxHeartbeats 8000000 in
theorem c_mwrite (l : Launch) (D : va_G) (dA : Nat → ClassId) (s0 : State) (hE : ms_EV D dA s0) (h : Nat) (r : Nat → Nat) (i : Int32) : ms_C l D s0 yM78 bM78 6 (Option.none : Option Jvm.ClassFile.FieldType) 1 20 0 0 [.ref h, .int i] [(h, .inr (2, [.ref (r 0), .ref (r 1), .ref (r 2), .ref (r 3), .int 0, .int 0, .ref (r 6), .int 0, .int 0, .int 0, .int 0, .int 0, .int 0, .int 0, .int 0, .ref (r 15), .ref (r 16), .ref (r 17), .int 0, .int 0, .ref (r 20), .ref (r 21), .ref (r 22), .int 0, .int 0, .ref (r 25), .ref (r 26), .ref (r 27), .ref (r 28), .ref (r 29), .ref (r 30), .int 0, .ref (r 32), .ref (r 33), .ref (r 34), .ref (r 35), .ref (r 36), .ref (r 37), .ref (r 38), .ref (r 39), .ref (r 40), .ref (r 41), .ref (r 42), .int 0, .ref (r 44), .int 0, .int 0, .int 0, .int 0, .int 0, .ref (r 50), .ref (r 51), .ref (r 52), .int 0, .ref (r 54), .int 0, .ref (r 56), .int 0, .int 0, .int 0])), ((r 0), .inl (dA 0, 5161, .inl (fun _ => 0)))] (fun vv ww => vv = none ∧ ww = [(h, .inr (2, [.ref (r 0), .ref (r 1), .ref (r 2), .ref (r 3), .int 0, .int 0, .ref (r 6), .int 0, .int 0, .int 0, .int 0, .int 0, .int 0, .int 0, .int 0, .ref (r 15), .ref (r 16), .ref (r 17), .int 0, .int 0, .ref (r 20), .ref (r 21), .ref (r 22), .int 0, .int 0, .ref (r 25), .ref (r 26), .ref (r 27), .ref (r 28), .ref (r 29), .ref (r 30), .int 0, .ref (r 32), .ref (r 33), .ref (r 34), .ref (r 35), .ref (r 36), .ref (r 37), .ref (r 38), .ref (r 39), .ref (r 40), .ref (r 41), .ref (r 42), .int 0, .ref (r 44), .int 0, .int 0, .int 0, .int 0, .int 0, .ref (r 50), .ref (r 51), .ref (r 52), .int 0, .ref (r 54), .int 0, .ref (r 56), .int 0, .int i, .int 0])), ((r 0), .inl (dA 0, 5161, .inl (fun _ => 0)))]) := by
  refine ms_C.mk hE.1 (by decide) (Nat.le_of_ble_eq_true rfl) [(0, .ref h), (1, .int i)] rfl ?_
  intro p e s m below meth c A ls X hin hP hD hS hl
  have hx := X.1
  have hb := X.2.1
  have hml := X.2.2.1
  have hown : s.vm.findClass "MarkupStoreModel" = some m.cls := X.2.2.2.1
  have hts := X.2.2.2.2.2.2.1
  have hK := X.2.2.2.2.2.2.2.2.1
  have hA := X.2.2.2.2.2.2.2.2.2.2
  refine lv_aload_n hx hb d78_0 rfl (lv_at hl 0 rfl) ?_
  refine lv_iload_n hx hb d78_1 rfl (lv_at hl 1 rfl) ?_
  refine va_put (D := D) (ci := 2) (v := .int i) (ty := .int) (C := kR2) (T := kT2) (N := 60) hx hb hts ku2 kt2 kp2 kn2 hown hK hP hD hS 0 rfl rfl 58 (by decide) (hts _ ms_k1374) (fun _ h => h) rfl (by decide +kernel) rfl rfl (Nat.le_of_ble_eq_true rfl) d78_2 (fun H locs hP hD hS => ?_)
  have hP : va_P D vwCl [(h, .inr (2, [.ref (r 0), .ref (r 1), .ref (r 2), .ref (r 3), .int 0, .int 0, .ref (r 6), .int 0, .int 0, .int 0, .int 0, .int 0, .int 0, .int 0, .int 0, .ref (r 15), .ref (r 16), .ref (r 17), .int 0, .int 0, .ref (r 20), .ref (r 21), .ref (r 22), .int 0, .int 0, .ref (r 25), .ref (r 26), .ref (r 27), .ref (r 28), .ref (r 29), .ref (r 30), .int 0, .ref (r 32), .ref (r 33), .ref (r 34), .ref (r 35), .ref (r 36), .ref (r 37), .ref (r 38), .ref (r 39), .ref (r 40), .ref (r 41), .ref (r 42), .int 0, .ref (r 44), .int 0, .int 0, .int 0, .int 0, .int 0, .ref (r 50), .ref (r 51), .ref (r 52), .int 0, .ref (r 54), .int 0, .ref (r 56), .int 0, .int i, .int 0])), ((r 0), .inl (dA 0, 5161, .inl (fun _ => 0)))] H := hP
  have hD : va_D A [(h, .inr (2, [.ref (r 0), .ref (r 1), .ref (r 2), .ref (r 3), .int 0, .int 0, .ref (r 6), .int 0, .int 0, .int 0, .int 0, .int 0, .int 0, .int 0, .int 0, .ref (r 15), .ref (r 16), .ref (r 17), .int 0, .int 0, .ref (r 20), .ref (r 21), .ref (r 22), .int 0, .int 0, .ref (r 25), .ref (r 26), .ref (r 27), .ref (r 28), .ref (r 29), .ref (r 30), .int 0, .ref (r 32), .ref (r 33), .ref (r 34), .ref (r 35), .ref (r 36), .ref (r 37), .ref (r 38), .ref (r 39), .ref (r 40), .ref (r 41), .ref (r 42), .int 0, .ref (r 44), .int 0, .int 0, .int 0, .int 0, .int 0, .ref (r 50), .ref (r 51), .ref (r 52), .int 0, .ref (r 54), .int 0, .ref (r 56), .int 0, .int i, .int 0])), ((r 0), .inl (dA 0, 5161, .inl (fun _ => 0)))] := hD
  refine lv_aload_n hx hb d78_5 rfl (lv_at hl 0 rfl) ?_
  refine lv_iconst (v := 0) hx hb d78_6 (by decide) ?_
  refine va_put (D := D) (ci := 2) (v := .int 0) (ty := .int) (C := kR2) (T := kT2) (N := 60) hx hb hts ku2 kt2 kp2 kn2 hown hK hP hD hS 0 rfl rfl 57 (by decide) (hts _ ms_k1373) (fun _ h => h) rfl (by decide +kernel) rfl rfl (Nat.le_of_ble_eq_true rfl) d78_7 (fun H locs hP hD hS => ?_)
  have hP : va_P D vwCl [(h, .inr (2, [.ref (r 0), .ref (r 1), .ref (r 2), .ref (r 3), .int 0, .int 0, .ref (r 6), .int 0, .int 0, .int 0, .int 0, .int 0, .int 0, .int 0, .int 0, .ref (r 15), .ref (r 16), .ref (r 17), .int 0, .int 0, .ref (r 20), .ref (r 21), .ref (r 22), .int 0, .int 0, .ref (r 25), .ref (r 26), .ref (r 27), .ref (r 28), .ref (r 29), .ref (r 30), .int 0, .ref (r 32), .ref (r 33), .ref (r 34), .ref (r 35), .ref (r 36), .ref (r 37), .ref (r 38), .ref (r 39), .ref (r 40), .ref (r 41), .ref (r 42), .int 0, .ref (r 44), .int 0, .int 0, .int 0, .int 0, .int 0, .ref (r 50), .ref (r 51), .ref (r 52), .int 0, .ref (r 54), .int 0, .ref (r 56), .int 0, .int i, .int 0])), ((r 0), .inl (dA 0, 5161, .inl (fun _ => 0)))] H := hP
  have hD : va_D A [(h, .inr (2, [.ref (r 0), .ref (r 1), .ref (r 2), .ref (r 3), .int 0, .int 0, .ref (r 6), .int 0, .int 0, .int 0, .int 0, .int 0, .int 0, .int 0, .int 0, .ref (r 15), .ref (r 16), .ref (r 17), .int 0, .int 0, .ref (r 20), .ref (r 21), .ref (r 22), .int 0, .int 0, .ref (r 25), .ref (r 26), .ref (r 27), .ref (r 28), .ref (r 29), .ref (r 30), .int 0, .ref (r 32), .ref (r 33), .ref (r 34), .ref (r 35), .ref (r 36), .ref (r 37), .ref (r 38), .ref (r 39), .ref (r 40), .ref (r 41), .ref (r 42), .int 0, .ref (r 44), .int 0, .int 0, .int 0, .int 0, .int 0, .ref (r 50), .ref (r 51), .ref (r 52), .int 0, .ref (r 54), .int 0, .ref (r 56), .int 0, .int i, .int 0])), ((r 0), .inl (dA 0, 5161, .inl (fun _ => 0)))] := hD
  refine lv_aload_n hx hb d78_10 rfl (lv_at hl 0 rfl) ?_
  refine lv_iconst (v := 0) hx hb d78_11 (by decide) ?_
  refine va_put (D := D) (ci := 2) (v := .int 0) (ty := .int) (C := kR2) (T := kT2) (N := 60) hx hb hts ku2 kt2 kp2 kn2 hown hK hP hD hS 0 rfl rfl 59 (by decide) (hts _ ms_k1375) (fun _ h => h) rfl (by decide +kernel) rfl rfl (Nat.le_of_ble_eq_true rfl) d78_12 (fun H locs hP hD hS => ?_)
  have hP : va_P D vwCl [(h, .inr (2, [.ref (r 0), .ref (r 1), .ref (r 2), .ref (r 3), .int 0, .int 0, .ref (r 6), .int 0, .int 0, .int 0, .int 0, .int 0, .int 0, .int 0, .int 0, .ref (r 15), .ref (r 16), .ref (r 17), .int 0, .int 0, .ref (r 20), .ref (r 21), .ref (r 22), .int 0, .int 0, .ref (r 25), .ref (r 26), .ref (r 27), .ref (r 28), .ref (r 29), .ref (r 30), .int 0, .ref (r 32), .ref (r 33), .ref (r 34), .ref (r 35), .ref (r 36), .ref (r 37), .ref (r 38), .ref (r 39), .ref (r 40), .ref (r 41), .ref (r 42), .int 0, .ref (r 44), .int 0, .int 0, .int 0, .int 0, .int 0, .ref (r 50), .ref (r 51), .ref (r 52), .int 0, .ref (r 54), .int 0, .ref (r 56), .int 0, .int i, .int 0])), ((r 0), .inl (dA 0, 5161, .inl (fun _ => 0)))] H := hP
  have hD : va_D A [(h, .inr (2, [.ref (r 0), .ref (r 1), .ref (r 2), .ref (r 3), .int 0, .int 0, .ref (r 6), .int 0, .int 0, .int 0, .int 0, .int 0, .int 0, .int 0, .int 0, .ref (r 15), .ref (r 16), .ref (r 17), .int 0, .int 0, .ref (r 20), .ref (r 21), .ref (r 22), .int 0, .int 0, .ref (r 25), .ref (r 26), .ref (r 27), .ref (r 28), .ref (r 29), .ref (r 30), .int 0, .ref (r 32), .ref (r 33), .ref (r 34), .ref (r 35), .ref (r 36), .ref (r 37), .ref (r 38), .ref (r 39), .ref (r 40), .ref (r 41), .ref (r 42), .int 0, .ref (r 44), .int 0, .int 0, .int 0, .int 0, .int 0, .ref (r 50), .ref (r 51), .ref (r 52), .int 0, .ref (r 54), .int 0, .ref (r 56), .int 0, .int i, .int 0])), ((r 0), .inl (dA 0, 5161, .inl (fun _ => 0)))] := hD
  refine lv_iconst (v := 0) hx hb d78_15 (by decide) ?_
  refine lv_istore_n hx hb d78_16 rfl hl (by decide) rfl (fun ls hl => ?_)
  have hl : lv_has ls 6 [(2, .int 0), (0, .ref h), (1, .int i)] := hl
  refine lv_iload_n hx hb d78_17 rfl (lv_at hl 0 rfl) ?_
  refine lv_aload_n hx hb d78_18 rfl (lv_at hl 1 rfl) ?_
  refine ms_V (C := "MarkupStoreModel") (rest := [.int 0]) (as := []) (wr := []) X hl (c_count l D dA s0 hE h r i) (List.forall_mem_cons.mpr ⟨ms_k1583, List.forall_mem_cons.mpr ⟨ms_k1585, List.forall_mem_cons.mpr ⟨ms_p62, List.forall_mem_cons.mpr ⟨ms_k7, List.forall_mem_cons.mpr ⟨ms_k1586, fun _ h => absurd h List.not_mem_nil⟩⟩⟩⟩⟩) ⟨rfl, by decide +kernel, by decide +kernel, (by decide +kernel : (parseMethodDescriptor "()I").map (fun d => d.parameters.length) = some 0)⟩ (va_recv hK hP rfl (q0 := 0) rfl) hP hD hS [0, 1] [] rfl rfl ⟨by decide, by decide, by decide⟩ ⟨⟨Nat.le_of_ble_eq_true rfl, Nat.le_of_ble_eq_true rfl⟩, Nat.le_of_ble_eq_true rfl, Nat.le_of_ble_eq_true rfl⟩ rfl (Nat.le_of_ble_eq_true rfl) d78_19 (fun vv ww H locs hR hP hD hS => ?_)
  obtain ⟨rfl, rfl⟩ := hR
  have hP : va_P D vwCl [(h, .inr (2, [.ref (r 0), .ref (r 1), .ref (r 2), .ref (r 3), .int 0, .int 0, .ref (r 6), .int 0, .int 0, .int 0, .int 0, .int 0, .int 0, .int 0, .int 0, .ref (r 15), .ref (r 16), .ref (r 17), .int 0, .int 0, .ref (r 20), .ref (r 21), .ref (r 22), .int 0, .int 0, .ref (r 25), .ref (r 26), .ref (r 27), .ref (r 28), .ref (r 29), .ref (r 30), .int 0, .ref (r 32), .ref (r 33), .ref (r 34), .ref (r 35), .ref (r 36), .ref (r 37), .ref (r 38), .ref (r 39), .ref (r 40), .ref (r 41), .ref (r 42), .int 0, .ref (r 44), .int 0, .int 0, .int 0, .int 0, .int 0, .ref (r 50), .ref (r 51), .ref (r 52), .int 0, .ref (r 54), .int 0, .ref (r 56), .int 0, .int i, .int 0])), ((r 0), .inl (dA 0, 5161, .inl (fun _ => 0)))] H := hP
  have hD : va_D A [(h, .inr (2, [.ref (r 0), .ref (r 1), .ref (r 2), .ref (r 3), .int 0, .int 0, .ref (r 6), .int 0, .int 0, .int 0, .int 0, .int 0, .int 0, .int 0, .int 0, .ref (r 15), .ref (r 16), .ref (r 17), .int 0, .int 0, .ref (r 20), .ref (r 21), .ref (r 22), .int 0, .int 0, .ref (r 25), .ref (r 26), .ref (r 27), .ref (r 28), .ref (r 29), .ref (r 30), .int 0, .ref (r 32), .ref (r 33), .ref (r 34), .ref (r 35), .ref (r 36), .ref (r 37), .ref (r 38), .ref (r 39), .ref (r 40), .ref (r 41), .ref (r 42), .int 0, .ref (r 44), .int 0, .int 0, .int 0, .int 0, .int 0, .ref (r 50), .ref (r 51), .ref (r 52), .int 0, .ref (r 54), .int 0, .ref (r 56), .int 0, .int i, .int 0])), ((r 0), .inl (dA 0, 5161, .inl (fun _ => 0)))] := hD
  refine W.eq (g2 := F0 m 22 ls [.int 0, .int 0]) rfl ?_
  refine lv_icmp_ge hx hb d78_22 rfl (fun _ => ?_) (fun h9 => absurd (by decide) h9)
  exact ms_vret X d78_219 hP hD hS (Nat.le_of_ble_eq_true rfl) (Nat.le_of_ble_eq_true rfl) (⟨rfl, rfl⟩)

set_option maxRecDepth 100000 in
set_option maxHeartbeats 8000000 in
theorem c_mlength (l : Launch) (D : va_G) (dA : Nat → ClassId) (s0 : State) (hE : ms_EV D dA s0) (h : Nat) (r : Nat → Nat) : ms_C l D s0 yM79 bM79 1 (Option.some Jvm.ClassFile.FieldType.int) 2 45 0 0 [.ref h] [(h, .inr (2, [.ref (r 0), .ref (r 1), .ref (r 2), .ref (r 3), .int 0, .int 0, .ref (r 6), .int 0, .int 0, .int 0, .int 0, .int 0, .int 0, .int 0, .int 0, .ref (r 15), .ref (r 16), .ref (r 17), .int 0, .int 0, .ref (r 20), .ref (r 21), .ref (r 22), .int 0, .int 0, .ref (r 25), .ref (r 26), .ref (r 27), .ref (r 28), .ref (r 29), .ref (r 30), .int 0, .ref (r 32), .ref (r 33), .ref (r 34), .ref (r 35), .ref (r 36), .ref (r 37), .ref (r 38), .ref (r 39), .ref (r 40), .ref (r 41), .ref (r 42), .int 0, .ref (r 44), .int 0, .int 0, .int 0, .int 0, .int 0, .ref (r 50), .ref (r 51), .ref (r 52), .int 0, .ref (r 54), .int 0, .ref (r 56), .int 0, .int 0, .int 0])), ((r 0), .inl (dA 0, 5161, .inl (fun _ => 0)))] (fun vv _ => vv = some (.int 0)) := by
  refine ms_C.mk hE.1 (by decide) (Nat.le_of_ble_eq_true rfl) [(0, .ref h)] rfl ?_
  intro p e s m below meth c A ls X hin hP hD hS hl
  have hx := X.1
  have hb := X.2.1
  have hml := X.2.2.1
  have hown : s.vm.findClass "MarkupStoreModel" = some m.cls := X.2.2.2.1
  have hts := X.2.2.2.2.2.2.1
  have hK := X.2.2.2.2.2.2.2.2.1
  have hA := X.2.2.2.2.2.2.2.2.2.2
  refine lv_aload_n hx hb d79_0 rfl (lv_at hl 0 rfl) ?_
  refine lv_iconst (v := (-1)) hx hb d79_1 (by decide) ?_
  refine ms_V (C := "MarkupStoreModel") (rest := []) (as := [.int (-1)]) (wr := []) X hl (c_mwrite l D dA s0 hE h r (-1)) (List.forall_mem_cons.mpr ⟨ms_k1800, List.forall_mem_cons.mpr ⟨ms_k1802, List.forall_mem_cons.mpr ⟨ms_p100, List.forall_mem_cons.mpr ⟨ms_k7, List.forall_mem_cons.mpr ⟨ms_k1803, fun _ h => absurd h List.not_mem_nil⟩⟩⟩⟩⟩) ⟨rfl, by decide +kernel, by decide +kernel, (by decide +kernel : (parseMethodDescriptor "(I)V").map (fun d => d.parameters.length) = some 1)⟩ (va_recv hK hP rfl (q0 := 0) rfl) hP hD hS [0, 1] [] rfl rfl ⟨by decide, by decide, by decide⟩ ⟨⟨Nat.le_of_ble_eq_true rfl, Nat.le_of_ble_eq_true rfl⟩, Nat.le_of_ble_eq_true rfl, Nat.le_of_ble_eq_true rfl⟩ rfl (Nat.le_of_ble_eq_true rfl) d79_2 (fun vv ww H locs hR hP hD hS => ?_)
  obtain ⟨rfl, rfl⟩ := hR
  have hP : va_P D vwCl [(h, .inr (2, [.ref (r 0), .ref (r 1), .ref (r 2), .ref (r 3), .int 0, .int 0, .ref (r 6), .int 0, .int 0, .int 0, .int 0, .int 0, .int 0, .int 0, .int 0, .ref (r 15), .ref (r 16), .ref (r 17), .int 0, .int 0, .ref (r 20), .ref (r 21), .ref (r 22), .int 0, .int 0, .ref (r 25), .ref (r 26), .ref (r 27), .ref (r 28), .ref (r 29), .ref (r 30), .int 0, .ref (r 32), .ref (r 33), .ref (r 34), .ref (r 35), .ref (r 36), .ref (r 37), .ref (r 38), .ref (r 39), .ref (r 40), .ref (r 41), .ref (r 42), .int 0, .ref (r 44), .int 0, .int 0, .int 0, .int 0, .int 0, .ref (r 50), .ref (r 51), .ref (r 52), .int 0, .ref (r 54), .int 0, .ref (r 56), .int 0, .int (-1), .int 0])), ((r 0), .inl (dA 0, 5161, .inl (fun _ => 0)))] H := hP
  have hD : va_D A [(h, .inr (2, [.ref (r 0), .ref (r 1), .ref (r 2), .ref (r 3), .int 0, .int 0, .ref (r 6), .int 0, .int 0, .int 0, .int 0, .int 0, .int 0, .int 0, .int 0, .ref (r 15), .ref (r 16), .ref (r 17), .int 0, .int 0, .ref (r 20), .ref (r 21), .ref (r 22), .int 0, .int 0, .ref (r 25), .ref (r 26), .ref (r 27), .ref (r 28), .ref (r 29), .ref (r 30), .int 0, .ref (r 32), .ref (r 33), .ref (r 34), .ref (r 35), .ref (r 36), .ref (r 37), .ref (r 38), .ref (r 39), .ref (r 40), .ref (r 41), .ref (r 42), .int 0, .ref (r 44), .int 0, .int 0, .int 0, .int 0, .int 0, .ref (r 50), .ref (r 51), .ref (r 52), .int 0, .ref (r 54), .int 0, .ref (r 56), .int 0, .int (-1), .int 0])), ((r 0), .inl (dA 0, 5161, .inl (fun _ => 0)))] := hD
  refine W.eq (g2 := F0 m 5 ls []) rfl ?_
  refine lv_aload_n hx hb d79_5 rfl (lv_at hl 0 rfl) ?_
  refine va_get (D := D) (ci := 2) (v := .int 0) (C := kR2) (T := kT2) (N := 60) hx hb hts ku2 hown hK hP 0 rfl rfl 57 (by decide) (hts _ ms_k1373) (fun _ h => h) rfl d79_6 ?_
  exact ms_iret X d79_9 hP hD hS (Nat.le_of_ble_eq_true rfl) (Nat.le_of_ble_eq_true rfl) rfl

set_option maxRecDepth 100000 in
set_option maxHeartbeats 8000000 in
theorem c_mwritten (l : Launch) (D : va_G) (dA : Nat → ClassId) (s0 : State) (hE : ms_EV D dA s0) (h : Nat) (r : Nat → Nat) (i : Int32) : ms_C l D s0 yM80 bM80 2 (Option.some Jvm.ClassFile.FieldType.int) 2 45 0 0 [.ref h, .int i] [(h, .inr (2, [.ref (r 0), .ref (r 1), .ref (r 2), .ref (r 3), .int 0, .int 0, .ref (r 6), .int 0, .int 0, .int 0, .int 0, .int 0, .int 0, .int 0, .int 0, .ref (r 15), .ref (r 16), .ref (r 17), .int 0, .int 0, .ref (r 20), .ref (r 21), .ref (r 22), .int 0, .int 0, .ref (r 25), .ref (r 26), .ref (r 27), .ref (r 28), .ref (r 29), .ref (r 30), .int 0, .ref (r 32), .ref (r 33), .ref (r 34), .ref (r 35), .ref (r 36), .ref (r 37), .ref (r 38), .ref (r 39), .ref (r 40), .ref (r 41), .ref (r 42), .int 0, .ref (r 44), .int 0, .int 0, .int 0, .int 0, .int 0, .ref (r 50), .ref (r 51), .ref (r 52), .int 0, .ref (r 54), .int 0, .ref (r 56), .int 0, .int 0, .int 0])), ((r 0), .inl (dA 0, 5161, .inl (fun _ => 0)))] (fun vv _ => vv = some (.int 0)) := by
  refine ms_C.mk hE.1 (by decide) (Nat.le_of_ble_eq_true rfl) [(0, .ref h), (1, .int i)] rfl ?_
  intro p e s m below meth c A ls X hin hP hD hS hl
  have hx := X.1
  have hb := X.2.1
  have hml := X.2.2.1
  have hown : s.vm.findClass "MarkupStoreModel" = some m.cls := X.2.2.2.1
  have hts := X.2.2.2.2.2.2.1
  have hK := X.2.2.2.2.2.2.2.2.1
  have hA := X.2.2.2.2.2.2.2.2.2.2
  refine lv_aload_n hx hb d80_0 rfl (lv_at hl 0 rfl) ?_
  refine lv_iload_n hx hb d80_1 rfl (lv_at hl 1 rfl) ?_
  refine ms_V (C := "MarkupStoreModel") (rest := []) (as := [.int i]) (wr := []) X hl (c_mwrite l D dA s0 hE h r i) (List.forall_mem_cons.mpr ⟨ms_k1800, List.forall_mem_cons.mpr ⟨ms_k1802, List.forall_mem_cons.mpr ⟨ms_p100, List.forall_mem_cons.mpr ⟨ms_k7, List.forall_mem_cons.mpr ⟨ms_k1803, fun _ h => absurd h List.not_mem_nil⟩⟩⟩⟩⟩) ⟨rfl, by decide +kernel, by decide +kernel, (by decide +kernel : (parseMethodDescriptor "(I)V").map (fun d => d.parameters.length) = some 1)⟩ (va_recv hK hP rfl (q0 := 0) rfl) hP hD hS [0, 1] [] rfl rfl ⟨by decide, by decide, by decide⟩ ⟨⟨Nat.le_of_ble_eq_true rfl, Nat.le_of_ble_eq_true rfl⟩, Nat.le_of_ble_eq_true rfl, Nat.le_of_ble_eq_true rfl⟩ rfl (Nat.le_of_ble_eq_true rfl) d80_2 (fun vv ww H locs hR hP hD hS => ?_)
  obtain ⟨rfl, rfl⟩ := hR
  have hP : va_P D vwCl [(h, .inr (2, [.ref (r 0), .ref (r 1), .ref (r 2), .ref (r 3), .int 0, .int 0, .ref (r 6), .int 0, .int 0, .int 0, .int 0, .int 0, .int 0, .int 0, .int 0, .ref (r 15), .ref (r 16), .ref (r 17), .int 0, .int 0, .ref (r 20), .ref (r 21), .ref (r 22), .int 0, .int 0, .ref (r 25), .ref (r 26), .ref (r 27), .ref (r 28), .ref (r 29), .ref (r 30), .int 0, .ref (r 32), .ref (r 33), .ref (r 34), .ref (r 35), .ref (r 36), .ref (r 37), .ref (r 38), .ref (r 39), .ref (r 40), .ref (r 41), .ref (r 42), .int 0, .ref (r 44), .int 0, .int 0, .int 0, .int 0, .int 0, .ref (r 50), .ref (r 51), .ref (r 52), .int 0, .ref (r 54), .int 0, .ref (r 56), .int 0, .int i, .int 0])), ((r 0), .inl (dA 0, 5161, .inl (fun _ => 0)))] H := hP
  have hD : va_D A [(h, .inr (2, [.ref (r 0), .ref (r 1), .ref (r 2), .ref (r 3), .int 0, .int 0, .ref (r 6), .int 0, .int 0, .int 0, .int 0, .int 0, .int 0, .int 0, .int 0, .ref (r 15), .ref (r 16), .ref (r 17), .int 0, .int 0, .ref (r 20), .ref (r 21), .ref (r 22), .int 0, .int 0, .ref (r 25), .ref (r 26), .ref (r 27), .ref (r 28), .ref (r 29), .ref (r 30), .int 0, .ref (r 32), .ref (r 33), .ref (r 34), .ref (r 35), .ref (r 36), .ref (r 37), .ref (r 38), .ref (r 39), .ref (r 40), .ref (r 41), .ref (r 42), .int 0, .ref (r 44), .int 0, .int 0, .int 0, .int 0, .int 0, .ref (r 50), .ref (r 51), .ref (r 52), .int 0, .ref (r 54), .int 0, .ref (r 56), .int 0, .int i, .int 0])), ((r 0), .inl (dA 0, 5161, .inl (fun _ => 0)))] := hD
  refine W.eq (g2 := F0 m 5 ls []) rfl ?_
  refine lv_aload_n hx hb d80_5 rfl (lv_at hl 0 rfl) ?_
  refine va_get (D := D) (ci := 2) (v := .int 0) (C := kR2) (T := kT2) (N := 60) hx hb hts ku2 hown hK hP 0 rfl rfl 59 (by decide) (hts _ ms_k1375) (fun _ h => h) rfl d80_6 ?_
  exact ms_iret X d80_9 hP hD hS (Nat.le_of_ble_eq_true rfl) (Nat.le_of_ble_eq_true rfl) rfl

set_option maxRecDepth 100000 in
set_option maxHeartbeats 8000000 in
theorem lp_save {p : Program} {l : Launch} {e : Env} {R : Room} {s s0 : State} {m : MethodId} {args : Array Value} {below : List Frame} {meth : Method} {c : Code} {A : Nat → Prop} {Q : State → Prop} (D : va_G) (dA : Nat → ClassId) (h : Nat) (r : Nat → Nat) (f : Nat → Int32) (X : ms_X D (ms_tys dA) s0 p s m args meth c A yM81 bM81 2 (Option.none : Option Jvm.ClassFile.FieldType))
    (kx : ∀ (g : Nat → Int32) (H : Heap) (locs : List Loc) (ls : Array Slot), va_P D vwCl [(h, .inr (2, [.ref (r 0), .ref (r 1), .ref (r 2), .ref (r 3), .int 0, .int 0, .ref (r 6), .int 0, .int 0, .int 0, .int 0, .int 0, .int 0, .int 0, .int 0, .ref (r 15), .ref (r 16), .ref (r 17), .int 0, .int 0, .ref (r 20), .ref (r 21), .ref (r 22), .int 0, .int 0, .ref (r 25), .ref (r 26), .ref (r 27), .ref (r 28), .ref (r 29), .ref (r 30), .int 0, .ref (r 32), .ref (r 33), .ref (r 34), .ref (r 35), .ref (r 36), .ref (r 37), .ref (r 38), .ref (r 39), .ref (r 40), .ref (r 41), .ref (r 42), .int 0, .ref (r 44), .int 0, .int 0, .int 0, .int 0, .int 0, .ref (r 50), .ref (r 51), .ref (r 52), .int 0, .ref (r 54), .int 0, .ref (r 56), .int 0, .int 0, .int 0])), ((r 1), .inl (dA 0, 5161, .inl g)), ((r 0), .inl (dA 0, 5161, .inl f))] H → va_D A [(h, .inr (2, [.ref (r 0), .ref (r 1), .ref (r 2), .ref (r 3), .int 0, .int 0, .ref (r 6), .int 0, .int 0, .int 0, .int 0, .int 0, .int 0, .int 0, .int 0, .ref (r 15), .ref (r 16), .ref (r 17), .int 0, .int 0, .ref (r 20), .ref (r 21), .ref (r 22), .int 0, .int 0, .ref (r 25), .ref (r 26), .ref (r 27), .ref (r 28), .ref (r 29), .ref (r 30), .int 0, .ref (r 32), .ref (r 33), .ref (r 34), .ref (r 35), .ref (r 36), .ref (r 37), .ref (r 38), .ref (r 39), .ref (r 40), .ref (r 41), .ref (r 42), .int 0, .ref (r 44), .int 0, .int 0, .int 0, .int 0, .int 0, .ref (r 50), .ref (r 51), .ref (r 52), .int 0, .ref (r 54), .int 0, .ref (r 56), .int 0, .int 0, .int 0])), ((r 1), .inl (dA 0, 5161, .inl g)), ((r 0), .inl (dA 0, 5161, .inl f))] → va_S A s.heap H locs → lv_has ls 2 [(1, .int (nI 5161)), (0, .ref h)] → W p l e R s m args below meth c H locs 0 0 Q (F0 m 27 ls [])) : ∀ (n k : Nat) (g : Nat → Int32) (H : Heap) (locs : List Loc) (ls : Array Slot), k + n = 5161 → va_P D vwCl [(h, .inr (2, [.ref (r 0), .ref (r 1), .ref (r 2), .ref (r 3), .int 0, .int 0, .ref (r 6), .int 0, .int 0, .int 0, .int 0, .int 0, .int 0, .int 0, .int 0, .ref (r 15), .ref (r 16), .ref (r 17), .int 0, .int 0, .ref (r 20), .ref (r 21), .ref (r 22), .int 0, .int 0, .ref (r 25), .ref (r 26), .ref (r 27), .ref (r 28), .ref (r 29), .ref (r 30), .int 0, .ref (r 32), .ref (r 33), .ref (r 34), .ref (r 35), .ref (r 36), .ref (r 37), .ref (r 38), .ref (r 39), .ref (r 40), .ref (r 41), .ref (r 42), .int 0, .ref (r 44), .int 0, .int 0, .int 0, .int 0, .int 0, .ref (r 50), .ref (r 51), .ref (r 52), .int 0, .ref (r 54), .int 0, .ref (r 56), .int 0, .int 0, .int 0])), ((r 1), .inl (dA 0, 5161, .inl g)), ((r 0), .inl (dA 0, 5161, .inl f))] H → va_D A [(h, .inr (2, [.ref (r 0), .ref (r 1), .ref (r 2), .ref (r 3), .int 0, .int 0, .ref (r 6), .int 0, .int 0, .int 0, .int 0, .int 0, .int 0, .int 0, .int 0, .ref (r 15), .ref (r 16), .ref (r 17), .int 0, .int 0, .ref (r 20), .ref (r 21), .ref (r 22), .int 0, .int 0, .ref (r 25), .ref (r 26), .ref (r 27), .ref (r 28), .ref (r 29), .ref (r 30), .int 0, .ref (r 32), .ref (r 33), .ref (r 34), .ref (r 35), .ref (r 36), .ref (r 37), .ref (r 38), .ref (r 39), .ref (r 40), .ref (r 41), .ref (r 42), .int 0, .ref (r 44), .int 0, .int 0, .int 0, .int 0, .int 0, .ref (r 50), .ref (r 51), .ref (r 52), .int 0, .ref (r 54), .int 0, .ref (r 56), .int 0, .int 0, .int 0])), ((r 1), .inl (dA 0, 5161, .inl g)), ((r 0), .inl (dA 0, 5161, .inl f))] → va_S A s.heap H locs → lv_has ls 2 [(1, .int (nI k)), (0, .ref h)] → W p l e R s m args below meth c H locs 0 0 Q (F0 m 2 ls []) := by
  have hx := X.1
  have hb := X.2.1
  have hml := X.2.2.1
  have hown : s.vm.findClass "MarkupStoreModel" = some m.cls := X.2.2.2.1
  have hts := X.2.2.2.2.2.2.1
  have hK := X.2.2.2.2.2.2.2.2.1
  intro n
  induction n with
  | zero =>
    intro k g H locs ls hk hP hD hS hl
    obtain rfl : k = 5161 := by omega
    refine lv_iload_n hx hb d81_2 rfl (lv_at hl 0 rfl) ?_
    refine lv_sipush (v := 5161) hx hb d81_3 (by decide) ?_
    refine lv_icmp_ge hx hb d81_6 rfl (fun _ => ?_) (fun h9 => absurd (by decide) h9)
    exact kx g H locs ls hP hD hS hl
  | succ n ih =>
    intro k g H locs ls hk hP hD hS hl
    refine lv_iload_n hx hb d81_2 rfl (lv_at hl 0 rfl) ?_
    refine lv_sipush (v := 5161) hx hb d81_3 (by decide) ?_
    refine lv_icmp_ge hx hb d81_6 rfl (fun h9 => absurd h9 (show ¬ ((5161 : Int32) ≤ nI k) from nI_ge (a := k) (b := 5161) (by omega) (by decide))) (fun _ => ?_)
    refine lv_aload_n hx hb d81_9 rfl (lv_at hl 1 rfl) ?_
    refine va_get (D := D) (ci := 2) (v := .ref (r 1)) (C := kR2) (T := kT2) (N := 60) hx hb hts ku2 hown hK hP 0 rfl rfl 1 (by decide) (hts _ ms_k1317) (fun _ h => h) rfl d81_10 ?_
    refine lv_iload_n hx hb d81_13 rfl (lv_at hl 0 rfl) ?_
    refine lv_aload_n hx hb d81_14 rfl (lv_at hl 1 rfl) ?_
    refine va_get (D := D) (ci := 2) (v := .ref (r 0)) (C := kR2) (T := kT2) (N := 60) hx hb hts ku2 hown hK hP 0 rfl rfl 0 (by decide) (hts _ ms_k1316) (fun _ h => h) rfl d81_15 ?_
    refine lv_iload_n hx hb d81_18 rfl (lv_at hl 0 rfl) ?_
    refine va_iald hx hb hK hP 2 0 rfl rfl (vp_in_nI (by omega) (by decide)) d81_19 ?_
    refine va_iast hx hb hK hP hD hS 1 0 rfl rfl (vp_in_nI (by omega) (by decide)) d81_20 (fun H locs hP hD hS => ?_)
    have hP : va_P D vwCl [(h, .inr (2, [.ref (r 0), .ref (r 1), .ref (r 2), .ref (r 3), .int 0, .int 0, .ref (r 6), .int 0, .int 0, .int 0, .int 0, .int 0, .int 0, .int 0, .int 0, .ref (r 15), .ref (r 16), .ref (r 17), .int 0, .int 0, .ref (r 20), .ref (r 21), .ref (r 22), .int 0, .int 0, .ref (r 25), .ref (r 26), .ref (r 27), .ref (r 28), .ref (r 29), .ref (r 30), .int 0, .ref (r 32), .ref (r 33), .ref (r 34), .ref (r 35), .ref (r 36), .ref (r 37), .ref (r 38), .ref (r 39), .ref (r 40), .ref (r 41), .ref (r 42), .int 0, .ref (r 44), .int 0, .int 0, .int 0, .int 0, .int 0, .ref (r 50), .ref (r 51), .ref (r 52), .int 0, .ref (r 54), .int 0, .ref (r 56), .int 0, .int 0, .int 0])), ((r 1), .inl (dA 0, 5161, .inl (upd g (nI k).toNatClampNeg (f (nI k).toNatClampNeg)))), ((r 0), .inl (dA 0, 5161, .inl f))] H := hP
    have hD : va_D A [(h, .inr (2, [.ref (r 0), .ref (r 1), .ref (r 2), .ref (r 3), .int 0, .int 0, .ref (r 6), .int 0, .int 0, .int 0, .int 0, .int 0, .int 0, .int 0, .int 0, .ref (r 15), .ref (r 16), .ref (r 17), .int 0, .int 0, .ref (r 20), .ref (r 21), .ref (r 22), .int 0, .int 0, .ref (r 25), .ref (r 26), .ref (r 27), .ref (r 28), .ref (r 29), .ref (r 30), .int 0, .ref (r 32), .ref (r 33), .ref (r 34), .ref (r 35), .ref (r 36), .ref (r 37), .ref (r 38), .ref (r 39), .ref (r 40), .ref (r 41), .ref (r 42), .int 0, .ref (r 44), .int 0, .int 0, .int 0, .int 0, .int 0, .ref (r 50), .ref (r 51), .ref (r 52), .int 0, .ref (r 54), .int 0, .ref (r 56), .int 0, .int 0, .int 0])), ((r 1), .inl (dA 0, 5161, .inl (upd g (nI k).toNatClampNeg (f (nI k).toNatClampNeg)))), ((r 0), .inl (dA 0, 5161, .inl f))] := hD
    refine lv_iinc (k := 0) (v := (nI (k + 1))) hx hb d81_21 hl rfl (nI_1 k) (by decide) rfl (fun ls hl => ?_)
    have hl : lv_has ls 2 [(1, .int (nI (k + 1))), (0, .ref h)] := hl
    refine lv_goto hx hb d81_24 rfl ?_
    exact ih (k + 1) _ H locs ls (by omega) hP hD hS hl

set_option maxRecDepth 100000 in
set_option maxHeartbeats 8000000 in
theorem c_msave (l : Launch) (D : va_G) (dA : Nat → ClassId) (s0 : State) (hE : ms_EV D dA s0) (h : Nat) (r : Nat → Nat) : ms_C l D s0 yM81 bM81 2 (Option.none : Option Jvm.ClassFile.FieldType) 0 0 0 0 [.ref h] [(h, .inr (2, [.ref (r 0), .ref (r 1), .ref (r 2), .ref (r 3), .int 0, .int 0, .ref (r 6), .int 0, .int 0, .int 0, .int 0, .int 0, .int 0, .int 0, .int 0, .ref (r 15), .ref (r 16), .ref (r 17), .int 0, .int 0, .ref (r 20), .ref (r 21), .ref (r 22), .int 0, .int 0, .ref (r 25), .ref (r 26), .ref (r 27), .ref (r 28), .ref (r 29), .ref (r 30), .int 0, .ref (r 32), .ref (r 33), .ref (r 34), .ref (r 35), .ref (r 36), .ref (r 37), .ref (r 38), .ref (r 39), .ref (r 40), .ref (r 41), .ref (r 42), .int 0, .ref (r 44), .int 0, .int 0, .int 0, .int 0, .int 0, .ref (r 50), .ref (r 51), .ref (r 52), .int 0, .ref (r 54), .int 0, .ref (r 56), .int 0, .int 0, .int 0])), ((r 1), .inl (dA 0, 5161, .inl (fun _ => 0))), ((r 0), .inl (dA 0, 5161, .inl (fun _ => 0)))] (fun vv ww => vv = none ∧ ww = [(h, .inr (2, [.ref (r 0), .ref (r 1), .ref (r 2), .ref (r 3), .int 0, .int 0, .ref (r 6), .int 0, .int 0, .int 0, .int 0, .int 0, .int 0, .int 0, .int 0, .ref (r 15), .ref (r 16), .ref (r 17), .int 0, .int 0, .ref (r 20), .ref (r 21), .ref (r 22), .int 0, .int 0, .ref (r 25), .ref (r 26), .ref (r 27), .ref (r 28), .ref (r 29), .ref (r 30), .int 0, .ref (r 32), .ref (r 33), .ref (r 34), .ref (r 35), .ref (r 36), .ref (r 37), .ref (r 38), .ref (r 39), .ref (r 40), .ref (r 41), .ref (r 42), .int 0, .ref (r 44), .int 0, .int 0, .int 0, .int 0, .int 0, .ref (r 50), .ref (r 51), .ref (r 52), .int 0, .ref (r 54), .int 0, .ref (r 56), .int 0, .int 0, .int 0])), ((r 0), .inl (dA 0, 5161, .inl (fun _ => 0)))]) := by
  refine ms_C.mk hE.1 (by decide) (Nat.le_of_ble_eq_true rfl) [(0, .ref h)] rfl ?_
  intro p e s m below meth c A ls X hin hP hD hS hl
  have hx := X.1
  have hb := X.2.1
  have hml := X.2.2.1
  have hown : s.vm.findClass "MarkupStoreModel" = some m.cls := X.2.2.2.1
  have hts := X.2.2.2.2.2.2.1
  have hK := X.2.2.2.2.2.2.2.2.1
  have hA := X.2.2.2.2.2.2.2.2.2.2
  refine lv_iconst (v := 0) hx hb d81_0 (by decide) ?_
  refine lv_istore_n hx hb d81_1 rfl hl (by decide) rfl (fun ls hl => ?_)
  have hl : lv_has ls 2 [(1, .int 0), (0, .ref h)] := hl
  refine lp_save D dA h r _ X (fun g H locs ls hP hD hS hl => ?_) 5161 0 _ _ _ _ rfl hP hD hS hl
  have hP : va_P D vwCl [(h, .inr (2, [.ref (r 0), .ref (r 1), .ref (r 2), .ref (r 3), .int 0, .int 0, .ref (r 6), .int 0, .int 0, .int 0, .int 0, .int 0, .int 0, .int 0, .int 0, .ref (r 15), .ref (r 16), .ref (r 17), .int 0, .int 0, .ref (r 20), .ref (r 21), .ref (r 22), .int 0, .int 0, .ref (r 25), .ref (r 26), .ref (r 27), .ref (r 28), .ref (r 29), .ref (r 30), .int 0, .ref (r 32), .ref (r 33), .ref (r 34), .ref (r 35), .ref (r 36), .ref (r 37), .ref (r 38), .ref (r 39), .ref (r 40), .ref (r 41), .ref (r 42), .int 0, .ref (r 44), .int 0, .int 0, .int 0, .int 0, .int 0, .ref (r 50), .ref (r 51), .ref (r 52), .int 0, .ref (r 54), .int 0, .ref (r 56), .int 0, .int 0, .int 0])), ((r 1), .inl (dA 0, 5161, .inl g)), ((r 0), .inl (dA 0, 5161, .inl (fun _ => 0)))] H := hP
  have hD : va_D A [(h, .inr (2, [.ref (r 0), .ref (r 1), .ref (r 2), .ref (r 3), .int 0, .int 0, .ref (r 6), .int 0, .int 0, .int 0, .int 0, .int 0, .int 0, .int 0, .int 0, .ref (r 15), .ref (r 16), .ref (r 17), .int 0, .int 0, .ref (r 20), .ref (r 21), .ref (r 22), .int 0, .int 0, .ref (r 25), .ref (r 26), .ref (r 27), .ref (r 28), .ref (r 29), .ref (r 30), .int 0, .ref (r 32), .ref (r 33), .ref (r 34), .ref (r 35), .ref (r 36), .ref (r 37), .ref (r 38), .ref (r 39), .ref (r 40), .ref (r 41), .ref (r 42), .int 0, .ref (r 44), .int 0, .int 0, .int 0, .int 0, .int 0, .ref (r 50), .ref (r 51), .ref (r 52), .int 0, .ref (r 54), .int 0, .ref (r 56), .int 0, .int 0, .int 0])), ((r 1), .inl (dA 0, 5161, .inl g)), ((r 0), .inl (dA 0, 5161, .inl (fun _ => 0)))] := hD
  refine lv_aload_n hx hb d81_27 rfl (lv_at hl 1 rfl) ?_
  refine lv_iconst (v := 0) hx hb d81_28 (by decide) ?_
  refine va_put (D := D) (ci := 2) (v := .int 0) (ty := .int) (C := kR2) (T := kT2) (N := 60) hx hb hts ku2 kt2 kp2 kn2 hown hK hP hD hS 0 rfl rfl 5 (by decide) (hts _ ms_k1321) (fun _ h => h) rfl (by decide +kernel) rfl rfl (Nat.le_of_ble_eq_true rfl) d81_29 (fun H locs hP hD hS => ?_)
  have hP : va_P D vwCl [(h, .inr (2, [.ref (r 0), .ref (r 1), .ref (r 2), .ref (r 3), .int 0, .int 0, .ref (r 6), .int 0, .int 0, .int 0, .int 0, .int 0, .int 0, .int 0, .int 0, .ref (r 15), .ref (r 16), .ref (r 17), .int 0, .int 0, .ref (r 20), .ref (r 21), .ref (r 22), .int 0, .int 0, .ref (r 25), .ref (r 26), .ref (r 27), .ref (r 28), .ref (r 29), .ref (r 30), .int 0, .ref (r 32), .ref (r 33), .ref (r 34), .ref (r 35), .ref (r 36), .ref (r 37), .ref (r 38), .ref (r 39), .ref (r 40), .ref (r 41), .ref (r 42), .int 0, .ref (r 44), .int 0, .int 0, .int 0, .int 0, .int 0, .ref (r 50), .ref (r 51), .ref (r 52), .int 0, .ref (r 54), .int 0, .ref (r 56), .int 0, .int 0, .int 0])), ((r 1), .inl (dA 0, 5161, .inl g)), ((r 0), .inl (dA 0, 5161, .inl (fun _ => 0)))] H := hP
  have hD : va_D A [(h, .inr (2, [.ref (r 0), .ref (r 1), .ref (r 2), .ref (r 3), .int 0, .int 0, .ref (r 6), .int 0, .int 0, .int 0, .int 0, .int 0, .int 0, .int 0, .int 0, .ref (r 15), .ref (r 16), .ref (r 17), .int 0, .int 0, .ref (r 20), .ref (r 21), .ref (r 22), .int 0, .int 0, .ref (r 25), .ref (r 26), .ref (r 27), .ref (r 28), .ref (r 29), .ref (r 30), .int 0, .ref (r 32), .ref (r 33), .ref (r 34), .ref (r 35), .ref (r 36), .ref (r 37), .ref (r 38), .ref (r 39), .ref (r 40), .ref (r 41), .ref (r 42), .int 0, .ref (r 44), .int 0, .int 0, .int 0, .int 0, .int 0, .ref (r 50), .ref (r 51), .ref (r 52), .int 0, .ref (r 54), .int 0, .ref (r 56), .int 0, .int 0, .int 0])), ((r 1), .inl (dA 0, 5161, .inl g)), ((r 0), .inl (dA 0, 5161, .inl (fun _ => 0)))] := hD
  have hP := hP.sub (ws' := [(h, .inr (2, [.ref (r 0), .ref (r 1), .ref (r 2), .ref (r 3), .int 0, .int 0, .ref (r 6), .int 0, .int 0, .int 0, .int 0, .int 0, .int 0, .int 0, .int 0, .ref (r 15), .ref (r 16), .ref (r 17), .int 0, .int 0, .ref (r 20), .ref (r 21), .ref (r 22), .int 0, .int 0, .ref (r 25), .ref (r 26), .ref (r 27), .ref (r 28), .ref (r 29), .ref (r 30), .int 0, .ref (r 32), .ref (r 33), .ref (r 34), .ref (r 35), .ref (r 36), .ref (r 37), .ref (r 38), .ref (r 39), .ref (r 40), .ref (r 41), .ref (r 42), .int 0, .ref (r 44), .int 0, .int 0, .int 0, .int 0, .int 0, .ref (r 50), .ref (r 51), .ref (r 52), .int 0, .ref (r 54), .int 0, .ref (r 56), .int 0, .int 0, .int 0])), ((r 0), .inl (dA 0, 5161, .inl (fun _ => 0)))]) [0, 2] rfl
  have hD := hD.sub (ws' := [(h, .inr (2, [.ref (r 0), .ref (r 1), .ref (r 2), .ref (r 3), .int 0, .int 0, .ref (r 6), .int 0, .int 0, .int 0, .int 0, .int 0, .int 0, .int 0, .int 0, .ref (r 15), .ref (r 16), .ref (r 17), .int 0, .int 0, .ref (r 20), .ref (r 21), .ref (r 22), .int 0, .int 0, .ref (r 25), .ref (r 26), .ref (r 27), .ref (r 28), .ref (r 29), .ref (r 30), .int 0, .ref (r 32), .ref (r 33), .ref (r 34), .ref (r 35), .ref (r 36), .ref (r 37), .ref (r 38), .ref (r 39), .ref (r 40), .ref (r 41), .ref (r 42), .int 0, .ref (r 44), .int 0, .int 0, .int 0, .int 0, .int 0, .ref (r 50), .ref (r 51), .ref (r 52), .int 0, .ref (r 54), .int 0, .ref (r 56), .int 0, .int 0, .int 0])), ((r 0), .inl (dA 0, 5161, .inl (fun _ => 0)))]) [0, 2] (by decide) rfl
  exact ms_vret X d81_32 hP hD hS (Nat.le_of_ble_eq_true rfl) (Nat.le_of_ble_eq_true rfl) (⟨rfl, rfl⟩)

set_option maxRecDepth 100000 in
set_option maxHeartbeats 8000000 in
theorem c_mcommit (l : Launch) (D : va_G) (dA : Nat → ClassId) (s0 : State) (hE : ms_EV D dA s0) (h : Nat) (r : Nat → Nat) : ms_C l D s0 yM82 bM82 2 (Option.some Jvm.ClassFile.FieldType.int) 1 21 0 0 [.ref h] [(h, .inr (2, [.ref (r 0), .ref (r 1), .ref (r 2), .ref (r 3), .int 0, .int 0, .ref (r 6), .int 0, .int 0, .int 0, .int 0, .int 0, .int 0, .int 0, .int 0, .ref (r 15), .ref (r 16), .ref (r 17), .int 0, .int 0, .ref (r 20), .ref (r 21), .ref (r 22), .int 0, .int 0, .ref (r 25), .ref (r 26), .ref (r 27), .ref (r 28), .ref (r 29), .ref (r 30), .int 0, .ref (r 32), .ref (r 33), .ref (r 34), .ref (r 35), .ref (r 36), .ref (r 37), .ref (r 38), .ref (r 39), .ref (r 40), .ref (r 41), .ref (r 42), .int 0, .ref (r 44), .int 0, .int 0, .int 0, .int 0, .int 0, .ref (r 50), .ref (r 51), .ref (r 52), .int 0, .ref (r 54), .int 0, .ref (r 56), .int 0, .int 0, .int 0])), ((r 1), .inl (dA 0, 5161, .inl (fun _ => 0))), ((r 0), .inl (dA 0, 5161, .inl (fun _ => 0)))] (fun vv _ => vv = some (.int 0)) := by
  refine ms_C.mk hE.1 (by decide) (Nat.le_of_ble_eq_true rfl) [(0, .ref h)] rfl ?_
  intro p e s m below meth c A ls X hin hP hD hS hl
  have hx := X.1
  have hb := X.2.1
  have hml := X.2.2.1
  have hown : s.vm.findClass "MarkupStoreModel" = some m.cls := X.2.2.2.1
  have hts := X.2.2.2.2.2.2.1
  have hK := X.2.2.2.2.2.2.2.2.1
  have hA := X.2.2.2.2.2.2.2.2.2.2
  refine lv_aload_n hx hb d82_0 rfl (lv_at hl 0 rfl) ?_
  refine va_get (D := D) (ci := 2) (v := .int 0) (C := kR2) (T := kT2) (N := 60) hx hb hts ku2 hown hK hP 0 rfl rfl 5 (by decide) (hts _ ms_k1321) (fun _ h => h) rfl d82_1 ?_
  refine lv_istore_n hx hb d82_4 rfl hl (by decide) rfl (fun ls hl => ?_)
  have hl : lv_has ls 2 [(1, .int 0), (0, .ref h)] := hl
  refine lv_aload_n hx hb d82_5 rfl (lv_at hl 1 rfl) ?_
  refine ms_V (C := "MarkupStoreModel") (rest := []) (as := []) (wr := []) X hl (c_msave l D dA s0 hE h r) (List.forall_mem_cons.mpr ⟨ms_k1595, List.forall_mem_cons.mpr ⟨ms_k1597, List.forall_mem_cons.mpr ⟨ms_p65, List.forall_mem_cons.mpr ⟨ms_k7, List.forall_mem_cons.mpr ⟨ms_k1598, fun _ h => absurd h List.not_mem_nil⟩⟩⟩⟩⟩) ⟨rfl, by decide +kernel, by decide +kernel, (by decide +kernel : (parseMethodDescriptor "()V").map (fun d => d.parameters.length) = some 0)⟩ (va_recv hK hP rfl (q0 := 0) rfl) hP hD hS [0, 1, 2] [] rfl rfl ⟨by decide, by decide, by decide⟩ ⟨⟨Nat.le_of_ble_eq_true rfl, Nat.le_of_ble_eq_true rfl⟩, Nat.le_of_ble_eq_true rfl, Nat.le_of_ble_eq_true rfl⟩ rfl (Nat.le_of_ble_eq_true rfl) d82_6 (fun vv ww H locs hR hP hD hS => ?_)
  obtain ⟨rfl, rfl⟩ := hR
  have hP : va_P D vwCl [(h, .inr (2, [.ref (r 0), .ref (r 1), .ref (r 2), .ref (r 3), .int 0, .int 0, .ref (r 6), .int 0, .int 0, .int 0, .int 0, .int 0, .int 0, .int 0, .int 0, .ref (r 15), .ref (r 16), .ref (r 17), .int 0, .int 0, .ref (r 20), .ref (r 21), .ref (r 22), .int 0, .int 0, .ref (r 25), .ref (r 26), .ref (r 27), .ref (r 28), .ref (r 29), .ref (r 30), .int 0, .ref (r 32), .ref (r 33), .ref (r 34), .ref (r 35), .ref (r 36), .ref (r 37), .ref (r 38), .ref (r 39), .ref (r 40), .ref (r 41), .ref (r 42), .int 0, .ref (r 44), .int 0, .int 0, .int 0, .int 0, .int 0, .ref (r 50), .ref (r 51), .ref (r 52), .int 0, .ref (r 54), .int 0, .ref (r 56), .int 0, .int 0, .int 0])), ((r 0), .inl (dA 0, 5161, .inl (fun _ => 0)))] H := hP
  have hD : va_D A [(h, .inr (2, [.ref (r 0), .ref (r 1), .ref (r 2), .ref (r 3), .int 0, .int 0, .ref (r 6), .int 0, .int 0, .int 0, .int 0, .int 0, .int 0, .int 0, .int 0, .ref (r 15), .ref (r 16), .ref (r 17), .int 0, .int 0, .ref (r 20), .ref (r 21), .ref (r 22), .int 0, .int 0, .ref (r 25), .ref (r 26), .ref (r 27), .ref (r 28), .ref (r 29), .ref (r 30), .int 0, .ref (r 32), .ref (r 33), .ref (r 34), .ref (r 35), .ref (r 36), .ref (r 37), .ref (r 38), .ref (r 39), .ref (r 40), .ref (r 41), .ref (r 42), .int 0, .ref (r 44), .int 0, .int 0, .int 0, .int 0, .int 0, .ref (r 50), .ref (r 51), .ref (r 52), .int 0, .ref (r 54), .int 0, .ref (r 56), .int 0, .int 0, .int 0])), ((r 0), .inl (dA 0, 5161, .inl (fun _ => 0)))] := hD
  refine W.eq (g2 := F0 m 9 ls []) rfl ?_
  refine lv_iload_n hx hb d82_9 rfl (lv_at hl 0 rfl) ?_
  exact ms_iret X d82_10 hP hD hS (Nat.le_of_ble_eq_true rfl) (Nat.le_of_ble_eq_true rfl) rfl

set_option maxRecDepth 100000 in
set_option maxHeartbeats 8000000 in
theorem lp_crash {p : Program} {l : Launch} {e : Env} {R : Room} {s s0 : State} {m : MethodId} {args : Array Value} {below : List Frame} {meth : Method} {c : Code} {A : Nat → Prop} {Q : State → Prop} (D : va_G) (dA : Nat → ClassId) (h : Nat) (r : Nat → Nat) (f : Nat → Int32) (X : ms_X D (ms_tys dA) s0 p s m args meth c A yM83 bM83 3 (Option.some Jvm.ClassFile.FieldType.int))
    (kx : ∀ (g : Nat → Int32) (H : Heap) (locs : List Loc) (ls : Array Slot), va_P D vwCl [(h, .inr (2, [.ref (r 0), .ref (r 1), .ref (r 2), .ref (r 3), .int 0, .int 0, .ref (r 6), .int 0, .int 0, .int 0, .int 0, .int 0, .int 0, .int 0, .int 0, .ref (r 15), .ref (r 16), .ref (r 17), .int 0, .int 0, .ref (r 20), .ref (r 21), .ref (r 22), .int 0, .int 0, .ref (r 25), .ref (r 26), .ref (r 27), .ref (r 28), .ref (r 29), .ref (r 30), .int 0, .ref (r 32), .ref (r 33), .ref (r 34), .ref (r 35), .ref (r 36), .ref (r 37), .ref (r 38), .ref (r 39), .ref (r 40), .ref (r 41), .ref (r 42), .int 0, .ref (r 44), .int 0, .int 0, .int 0, .int 0, .int 0, .ref (r 50), .ref (r 51), .ref (r 52), .int 0, .ref (r 54), .int 0, .ref (r 56), .int 0, .int 0, .int 0])), ((r 0), .inl (dA 0, 5161, .inl g)), ((r 1), .inl (dA 0, 5161, .inl f))] H → va_D A [(h, .inr (2, [.ref (r 0), .ref (r 1), .ref (r 2), .ref (r 3), .int 0, .int 0, .ref (r 6), .int 0, .int 0, .int 0, .int 0, .int 0, .int 0, .int 0, .int 0, .ref (r 15), .ref (r 16), .ref (r 17), .int 0, .int 0, .ref (r 20), .ref (r 21), .ref (r 22), .int 0, .int 0, .ref (r 25), .ref (r 26), .ref (r 27), .ref (r 28), .ref (r 29), .ref (r 30), .int 0, .ref (r 32), .ref (r 33), .ref (r 34), .ref (r 35), .ref (r 36), .ref (r 37), .ref (r 38), .ref (r 39), .ref (r 40), .ref (r 41), .ref (r 42), .int 0, .ref (r 44), .int 0, .int 0, .int 0, .int 0, .int 0, .ref (r 50), .ref (r 51), .ref (r 52), .int 0, .ref (r 54), .int 0, .ref (r 56), .int 0, .int 0, .int 0])), ((r 0), .inl (dA 0, 5161, .inl g)), ((r 1), .inl (dA 0, 5161, .inl f))] → va_S A s.heap H locs → lv_has ls 3 [(2, .int (nI 5161)), (1, .int 0), (0, .ref h)] → W p l e R s m args below meth c H locs 0 0 Q (F0 m 32 ls [])) : ∀ (n k : Nat) (g : Nat → Int32) (H : Heap) (locs : List Loc) (ls : Array Slot), k + n = 5161 → va_P D vwCl [(h, .inr (2, [.ref (r 0), .ref (r 1), .ref (r 2), .ref (r 3), .int 0, .int 0, .ref (r 6), .int 0, .int 0, .int 0, .int 0, .int 0, .int 0, .int 0, .int 0, .ref (r 15), .ref (r 16), .ref (r 17), .int 0, .int 0, .ref (r 20), .ref (r 21), .ref (r 22), .int 0, .int 0, .ref (r 25), .ref (r 26), .ref (r 27), .ref (r 28), .ref (r 29), .ref (r 30), .int 0, .ref (r 32), .ref (r 33), .ref (r 34), .ref (r 35), .ref (r 36), .ref (r 37), .ref (r 38), .ref (r 39), .ref (r 40), .ref (r 41), .ref (r 42), .int 0, .ref (r 44), .int 0, .int 0, .int 0, .int 0, .int 0, .ref (r 50), .ref (r 51), .ref (r 52), .int 0, .ref (r 54), .int 0, .ref (r 56), .int 0, .int 0, .int 0])), ((r 0), .inl (dA 0, 5161, .inl g)), ((r 1), .inl (dA 0, 5161, .inl f))] H → va_D A [(h, .inr (2, [.ref (r 0), .ref (r 1), .ref (r 2), .ref (r 3), .int 0, .int 0, .ref (r 6), .int 0, .int 0, .int 0, .int 0, .int 0, .int 0, .int 0, .int 0, .ref (r 15), .ref (r 16), .ref (r 17), .int 0, .int 0, .ref (r 20), .ref (r 21), .ref (r 22), .int 0, .int 0, .ref (r 25), .ref (r 26), .ref (r 27), .ref (r 28), .ref (r 29), .ref (r 30), .int 0, .ref (r 32), .ref (r 33), .ref (r 34), .ref (r 35), .ref (r 36), .ref (r 37), .ref (r 38), .ref (r 39), .ref (r 40), .ref (r 41), .ref (r 42), .int 0, .ref (r 44), .int 0, .int 0, .int 0, .int 0, .int 0, .ref (r 50), .ref (r 51), .ref (r 52), .int 0, .ref (r 54), .int 0, .ref (r 56), .int 0, .int 0, .int 0])), ((r 0), .inl (dA 0, 5161, .inl g)), ((r 1), .inl (dA 0, 5161, .inl f))] → va_S A s.heap H locs → lv_has ls 3 [(2, .int (nI k)), (1, .int 0), (0, .ref h)] → W p l e R s m args below meth c H locs 0 0 Q (F0 m 7 ls []) := by
  have hx := X.1
  have hb := X.2.1
  have hml := X.2.2.1
  have hown : s.vm.findClass "MarkupStoreModel" = some m.cls := X.2.2.2.1
  have hts := X.2.2.2.2.2.2.1
  have hK := X.2.2.2.2.2.2.2.2.1
  intro n
  induction n with
  | zero =>
    intro k g H locs ls hk hP hD hS hl
    obtain rfl : k = 5161 := by omega
    refine lv_iload_n hx hb d83_7 rfl (lv_at hl 0 rfl) ?_
    refine lv_sipush (v := 5161) hx hb d83_8 (by decide) ?_
    refine lv_icmp_ge hx hb d83_11 rfl (fun _ => ?_) (fun h9 => absurd (by decide) h9)
    exact kx g H locs ls hP hD hS hl
  | succ n ih =>
    intro k g H locs ls hk hP hD hS hl
    refine lv_iload_n hx hb d83_7 rfl (lv_at hl 0 rfl) ?_
    refine lv_sipush (v := 5161) hx hb d83_8 (by decide) ?_
    refine lv_icmp_ge hx hb d83_11 rfl (fun h9 => absurd h9 (show ¬ ((5161 : Int32) ≤ nI k) from nI_ge (a := k) (b := 5161) (by omega) (by decide))) (fun _ => ?_)
    refine lv_aload_n hx hb d83_14 rfl (lv_at hl 2 rfl) ?_
    refine va_get (D := D) (ci := 2) (v := .ref (r 0)) (C := kR2) (T := kT2) (N := 60) hx hb hts ku2 hown hK hP 0 rfl rfl 0 (by decide) (hts _ ms_k1316) (fun _ h => h) rfl d83_15 ?_
    refine lv_iload_n hx hb d83_18 rfl (lv_at hl 0 rfl) ?_
    refine lv_aload_n hx hb d83_19 rfl (lv_at hl 2 rfl) ?_
    refine va_get (D := D) (ci := 2) (v := .ref (r 1)) (C := kR2) (T := kT2) (N := 60) hx hb hts ku2 hown hK hP 0 rfl rfl 1 (by decide) (hts _ ms_k1317) (fun _ h => h) rfl d83_20 ?_
    refine lv_iload_n hx hb d83_23 rfl (lv_at hl 0 rfl) ?_
    refine va_iald hx hb hK hP 2 0 rfl rfl (vp_in_nI (by omega) (by decide)) d83_24 ?_
    refine va_iast hx hb hK hP hD hS 1 0 rfl rfl (vp_in_nI (by omega) (by decide)) d83_25 (fun H locs hP hD hS => ?_)
    have hP : va_P D vwCl [(h, .inr (2, [.ref (r 0), .ref (r 1), .ref (r 2), .ref (r 3), .int 0, .int 0, .ref (r 6), .int 0, .int 0, .int 0, .int 0, .int 0, .int 0, .int 0, .int 0, .ref (r 15), .ref (r 16), .ref (r 17), .int 0, .int 0, .ref (r 20), .ref (r 21), .ref (r 22), .int 0, .int 0, .ref (r 25), .ref (r 26), .ref (r 27), .ref (r 28), .ref (r 29), .ref (r 30), .int 0, .ref (r 32), .ref (r 33), .ref (r 34), .ref (r 35), .ref (r 36), .ref (r 37), .ref (r 38), .ref (r 39), .ref (r 40), .ref (r 41), .ref (r 42), .int 0, .ref (r 44), .int 0, .int 0, .int 0, .int 0, .int 0, .ref (r 50), .ref (r 51), .ref (r 52), .int 0, .ref (r 54), .int 0, .ref (r 56), .int 0, .int 0, .int 0])), ((r 0), .inl (dA 0, 5161, .inl (upd g (nI k).toNatClampNeg (f (nI k).toNatClampNeg)))), ((r 1), .inl (dA 0, 5161, .inl f))] H := hP
    have hD : va_D A [(h, .inr (2, [.ref (r 0), .ref (r 1), .ref (r 2), .ref (r 3), .int 0, .int 0, .ref (r 6), .int 0, .int 0, .int 0, .int 0, .int 0, .int 0, .int 0, .int 0, .ref (r 15), .ref (r 16), .ref (r 17), .int 0, .int 0, .ref (r 20), .ref (r 21), .ref (r 22), .int 0, .int 0, .ref (r 25), .ref (r 26), .ref (r 27), .ref (r 28), .ref (r 29), .ref (r 30), .int 0, .ref (r 32), .ref (r 33), .ref (r 34), .ref (r 35), .ref (r 36), .ref (r 37), .ref (r 38), .ref (r 39), .ref (r 40), .ref (r 41), .ref (r 42), .int 0, .ref (r 44), .int 0, .int 0, .int 0, .int 0, .int 0, .ref (r 50), .ref (r 51), .ref (r 52), .int 0, .ref (r 54), .int 0, .ref (r 56), .int 0, .int 0, .int 0])), ((r 0), .inl (dA 0, 5161, .inl (upd g (nI k).toNatClampNeg (f (nI k).toNatClampNeg)))), ((r 1), .inl (dA 0, 5161, .inl f))] := hD
    refine lv_iinc (k := 0) (v := (nI (k + 1))) hx hb d83_26 hl rfl (nI_1 k) (by decide) rfl (fun ls hl => ?_)
    have hl : lv_has ls 3 [(2, .int (nI (k + 1))), (1, .int 0), (0, .ref h)] := hl
    refine lv_goto hx hb d83_29 rfl ?_
    exact ih (k + 1) _ H locs ls (by omega) hP hD hS hl

set_option maxRecDepth 100000 in
set_option maxHeartbeats 8000000 in
theorem c_mcrash (l : Launch) (D : va_G) (dA : Nat → ClassId) (s0 : State) (hE : ms_EV D dA s0) (h : Nat) (r : Nat → Nat) : ms_C l D s0 yM83 bM83 3 (Option.some Jvm.ClassFile.FieldType.int) 0 0 0 0 [.ref h] [(h, .inr (2, [.ref (r 0), .ref (r 1), .ref (r 2), .ref (r 3), .int 0, .int 0, .ref (r 6), .int 0, .int 0, .int 0, .int 0, .int 0, .int 0, .int 0, .int 0, .ref (r 15), .ref (r 16), .ref (r 17), .int 0, .int 0, .ref (r 20), .ref (r 21), .ref (r 22), .int 0, .int 0, .ref (r 25), .ref (r 26), .ref (r 27), .ref (r 28), .ref (r 29), .ref (r 30), .int 0, .ref (r 32), .ref (r 33), .ref (r 34), .ref (r 35), .ref (r 36), .ref (r 37), .ref (r 38), .ref (r 39), .ref (r 40), .ref (r 41), .ref (r 42), .int 0, .ref (r 44), .int 0, .int 0, .int 0, .int 0, .int 0, .ref (r 50), .ref (r 51), .ref (r 52), .int 0, .ref (r 54), .int 0, .ref (r 56), .int 0, .int 0, .int 0])), ((r 0), .inl (dA 0, 5161, .inl (fun _ => 0))), ((r 1), .inl (dA 0, 5161, .inl (fun _ => 0)))] (fun vv _ => vv = some (.int 0)) := by
  refine ms_C.mk hE.1 (by decide) (Nat.le_of_ble_eq_true rfl) [(0, .ref h)] rfl ?_
  intro p e s m below meth c A ls X hin hP hD hS hl
  have hx := X.1
  have hb := X.2.1
  have hml := X.2.2.1
  have hown : s.vm.findClass "MarkupStoreModel" = some m.cls := X.2.2.2.1
  have hts := X.2.2.2.2.2.2.1
  have hK := X.2.2.2.2.2.2.2.2.1
  have hA := X.2.2.2.2.2.2.2.2.2.2
  refine lv_aload_n hx hb d83_0 rfl (lv_at hl 0 rfl) ?_
  refine va_get (D := D) (ci := 2) (v := .int 0) (C := kR2) (T := kT2) (N := 60) hx hb hts ku2 hown hK hP 0 rfl rfl 5 (by decide) (hts _ ms_k1321) (fun _ h => h) rfl d83_1 ?_
  refine lv_istore_n hx hb d83_4 rfl hl (by decide) rfl (fun ls hl => ?_)
  have hl : lv_has ls 3 [(1, .int 0), (0, .ref h)] := hl
  refine lv_iconst (v := 0) hx hb d83_5 (by decide) ?_
  refine lv_istore_n hx hb d83_6 rfl hl (by decide) rfl (fun ls hl => ?_)
  have hl : lv_has ls 3 [(2, .int 0), (1, .int 0), (0, .ref h)] := hl
  refine lp_crash D dA h r _ X (fun g H locs ls hP hD hS hl => ?_) 5161 0 _ _ _ _ rfl hP hD hS hl
  have hP : va_P D vwCl [(h, .inr (2, [.ref (r 0), .ref (r 1), .ref (r 2), .ref (r 3), .int 0, .int 0, .ref (r 6), .int 0, .int 0, .int 0, .int 0, .int 0, .int 0, .int 0, .int 0, .ref (r 15), .ref (r 16), .ref (r 17), .int 0, .int 0, .ref (r 20), .ref (r 21), .ref (r 22), .int 0, .int 0, .ref (r 25), .ref (r 26), .ref (r 27), .ref (r 28), .ref (r 29), .ref (r 30), .int 0, .ref (r 32), .ref (r 33), .ref (r 34), .ref (r 35), .ref (r 36), .ref (r 37), .ref (r 38), .ref (r 39), .ref (r 40), .ref (r 41), .ref (r 42), .int 0, .ref (r 44), .int 0, .int 0, .int 0, .int 0, .int 0, .ref (r 50), .ref (r 51), .ref (r 52), .int 0, .ref (r 54), .int 0, .ref (r 56), .int 0, .int 0, .int 0])), ((r 0), .inl (dA 0, 5161, .inl g)), ((r 1), .inl (dA 0, 5161, .inl (fun _ => 0)))] H := hP
  have hD : va_D A [(h, .inr (2, [.ref (r 0), .ref (r 1), .ref (r 2), .ref (r 3), .int 0, .int 0, .ref (r 6), .int 0, .int 0, .int 0, .int 0, .int 0, .int 0, .int 0, .int 0, .ref (r 15), .ref (r 16), .ref (r 17), .int 0, .int 0, .ref (r 20), .ref (r 21), .ref (r 22), .int 0, .int 0, .ref (r 25), .ref (r 26), .ref (r 27), .ref (r 28), .ref (r 29), .ref (r 30), .int 0, .ref (r 32), .ref (r 33), .ref (r 34), .ref (r 35), .ref (r 36), .ref (r 37), .ref (r 38), .ref (r 39), .ref (r 40), .ref (r 41), .ref (r 42), .int 0, .ref (r 44), .int 0, .int 0, .int 0, .int 0, .int 0, .ref (r 50), .ref (r 51), .ref (r 52), .int 0, .ref (r 54), .int 0, .ref (r 56), .int 0, .int 0, .int 0])), ((r 0), .inl (dA 0, 5161, .inl g)), ((r 1), .inl (dA 0, 5161, .inl (fun _ => 0)))] := hD
  refine lv_aload_n hx hb d83_32 rfl (lv_at hl 2 rfl) ?_
  refine lv_iconst (v := 0) hx hb d83_33 (by decide) ?_
  refine va_put (D := D) (ci := 2) (v := .int 0) (ty := .int) (C := kR2) (T := kT2) (N := 60) hx hb hts ku2 kt2 kp2 kn2 hown hK hP hD hS 0 rfl rfl 5 (by decide) (hts _ ms_k1321) (fun _ h => h) rfl (by decide +kernel) rfl rfl (Nat.le_of_ble_eq_true rfl) d83_34 (fun H locs hP hD hS => ?_)
  have hP : va_P D vwCl [(h, .inr (2, [.ref (r 0), .ref (r 1), .ref (r 2), .ref (r 3), .int 0, .int 0, .ref (r 6), .int 0, .int 0, .int 0, .int 0, .int 0, .int 0, .int 0, .int 0, .ref (r 15), .ref (r 16), .ref (r 17), .int 0, .int 0, .ref (r 20), .ref (r 21), .ref (r 22), .int 0, .int 0, .ref (r 25), .ref (r 26), .ref (r 27), .ref (r 28), .ref (r 29), .ref (r 30), .int 0, .ref (r 32), .ref (r 33), .ref (r 34), .ref (r 35), .ref (r 36), .ref (r 37), .ref (r 38), .ref (r 39), .ref (r 40), .ref (r 41), .ref (r 42), .int 0, .ref (r 44), .int 0, .int 0, .int 0, .int 0, .int 0, .ref (r 50), .ref (r 51), .ref (r 52), .int 0, .ref (r 54), .int 0, .ref (r 56), .int 0, .int 0, .int 0])), ((r 0), .inl (dA 0, 5161, .inl g)), ((r 1), .inl (dA 0, 5161, .inl (fun _ => 0)))] H := hP
  have hD : va_D A [(h, .inr (2, [.ref (r 0), .ref (r 1), .ref (r 2), .ref (r 3), .int 0, .int 0, .ref (r 6), .int 0, .int 0, .int 0, .int 0, .int 0, .int 0, .int 0, .int 0, .ref (r 15), .ref (r 16), .ref (r 17), .int 0, .int 0, .ref (r 20), .ref (r 21), .ref (r 22), .int 0, .int 0, .ref (r 25), .ref (r 26), .ref (r 27), .ref (r 28), .ref (r 29), .ref (r 30), .int 0, .ref (r 32), .ref (r 33), .ref (r 34), .ref (r 35), .ref (r 36), .ref (r 37), .ref (r 38), .ref (r 39), .ref (r 40), .ref (r 41), .ref (r 42), .int 0, .ref (r 44), .int 0, .int 0, .int 0, .int 0, .int 0, .ref (r 50), .ref (r 51), .ref (r 52), .int 0, .ref (r 54), .int 0, .ref (r 56), .int 0, .int 0, .int 0])), ((r 0), .inl (dA 0, 5161, .inl g)), ((r 1), .inl (dA 0, 5161, .inl (fun _ => 0)))] := hD
  refine lv_aload_n hx hb d83_37 rfl (lv_at hl 2 rfl) ?_
  refine lv_iconst (v := 0) hx hb d83_38 (by decide) ?_
  refine va_put (D := D) (ci := 2) (v := .int 0) (ty := .int) (C := kR2) (T := kT2) (N := 60) hx hb hts ku2 kt2 kp2 kn2 hown hK hP hD hS 0 rfl rfl 7 (by decide) (hts _ ms_k1323) (fun _ h => h) rfl (by decide +kernel) rfl rfl (Nat.le_of_ble_eq_true rfl) d83_39 (fun H locs hP hD hS => ?_)
  have hP : va_P D vwCl [(h, .inr (2, [.ref (r 0), .ref (r 1), .ref (r 2), .ref (r 3), .int 0, .int 0, .ref (r 6), .int 0, .int 0, .int 0, .int 0, .int 0, .int 0, .int 0, .int 0, .ref (r 15), .ref (r 16), .ref (r 17), .int 0, .int 0, .ref (r 20), .ref (r 21), .ref (r 22), .int 0, .int 0, .ref (r 25), .ref (r 26), .ref (r 27), .ref (r 28), .ref (r 29), .ref (r 30), .int 0, .ref (r 32), .ref (r 33), .ref (r 34), .ref (r 35), .ref (r 36), .ref (r 37), .ref (r 38), .ref (r 39), .ref (r 40), .ref (r 41), .ref (r 42), .int 0, .ref (r 44), .int 0, .int 0, .int 0, .int 0, .int 0, .ref (r 50), .ref (r 51), .ref (r 52), .int 0, .ref (r 54), .int 0, .ref (r 56), .int 0, .int 0, .int 0])), ((r 0), .inl (dA 0, 5161, .inl g)), ((r 1), .inl (dA 0, 5161, .inl (fun _ => 0)))] H := hP
  have hD : va_D A [(h, .inr (2, [.ref (r 0), .ref (r 1), .ref (r 2), .ref (r 3), .int 0, .int 0, .ref (r 6), .int 0, .int 0, .int 0, .int 0, .int 0, .int 0, .int 0, .int 0, .ref (r 15), .ref (r 16), .ref (r 17), .int 0, .int 0, .ref (r 20), .ref (r 21), .ref (r 22), .int 0, .int 0, .ref (r 25), .ref (r 26), .ref (r 27), .ref (r 28), .ref (r 29), .ref (r 30), .int 0, .ref (r 32), .ref (r 33), .ref (r 34), .ref (r 35), .ref (r 36), .ref (r 37), .ref (r 38), .ref (r 39), .ref (r 40), .ref (r 41), .ref (r 42), .int 0, .ref (r 44), .int 0, .int 0, .int 0, .int 0, .int 0, .ref (r 50), .ref (r 51), .ref (r 52), .int 0, .ref (r 54), .int 0, .ref (r 56), .int 0, .int 0, .int 0])), ((r 0), .inl (dA 0, 5161, .inl g)), ((r 1), .inl (dA 0, 5161, .inl (fun _ => 0)))] := hD
  refine lv_iload_n hx hb d83_42 rfl (lv_at hl 1 rfl) ?_
  exact ms_iret X d83_43 hP hD hS (Nat.le_of_ble_eq_true rfl) (Nat.le_of_ble_eq_true rfl) rfl
