set_option maxRecDepth 100000 in
set_option maxHeartbeats 8000000 in
theorem c_place (l : Launch) (D : va_G) (dA : Nat → ClassId) (s0 : State) (hE : ms_EV D dA s0) (h : Nat) (r : Nat → Nat) (i : Int32) : ms_C l D s0 yM62 bM62 3 (Option.some Jvm.ClassFile.FieldType.int) 1 20 0 0 [.ref h, .int i] [(h, .inr (2, [.ref (r 0), .ref (r 1), .ref (r 2), .ref (r 3), .int 0, .int 0, .ref (r 6), .int 0, .int 0, .int 0, .int 0, .int 0, .int 0, .int 0, .int 0, .ref (r 15), .ref (r 16), .ref (r 17), .int 0, .int 0, .ref (r 20), .ref (r 21), .ref (r 22), .int 0, .int 0, .ref (r 25), .ref (r 26), .ref (r 27), .ref (r 28), .ref (r 29), .ref (r 30), .int 0, .ref (r 32), .ref (r 33), .ref (r 34), .ref (r 35), .ref (r 36), .ref (r 37), .ref (r 38), .ref (r 39), .ref (r 40), .ref (r 41), .ref (r 42), .int 0, .ref (r 44), .int 0, .int 0, .int 0, .int 0, .int 0, .ref (r 50), .ref (r 51), .ref (r 52), .int 0, .ref (r 54), .int 0, .ref (r 56), .int 0, .int 0, .int 0])), ((r 0), .inl (dA 0, 5161, .inl (fun _ => 0)))] (fun vv ww => vv = some (.int (-1)) ∧ ww = [(h, .inr (2, [.ref (r 0), .ref (r 1), .ref (r 2), .ref (r 3), .int 0, .int 0, .ref (r 6), .int 0, .int 0, .int 0, .int 0, .int 0, .int 0, .int 0, .int 0, .ref (r 15), .ref (r 16), .ref (r 17), .int 0, .int 0, .ref (r 20), .ref (r 21), .ref (r 22), .int 0, .int 0, .ref (r 25), .ref (r 26), .ref (r 27), .ref (r 28), .ref (r 29), .ref (r 30), .int 0, .ref (r 32), .ref (r 33), .ref (r 34), .ref (r 35), .ref (r 36), .ref (r 37), .ref (r 38), .ref (r 39), .ref (r 40), .ref (r 41), .ref (r 42), .int 0, .ref (r 44), .int 0, .int 0, .int 0, .int 0, .int 0, .ref (r 50), .ref (r 51), .ref (r 52), .int 0, .ref (r 54), .int 0, .ref (r 56), .int 0, .int 0, .int 0])), ((r 0), .inl (dA 0, 5161, .inl (fun _ => 0)))]) := by
  refine ms_C.mk hE.1 (by decide) (Nat.le_of_ble_eq_true rfl) [(0, .ref h), (1, .int i)] rfl ?_
  intro p e s m below meth c A ls X hin hP hD hS hl
  have hx := X.1
  have hb := X.2.1
  have hml := X.2.2.1
  have hown : s.vm.findClass "MarkupStoreModel" = some m.cls := X.2.2.2.1
  have hts := X.2.2.2.2.2.2.1
  have hK := X.2.2.2.2.2.2.2.2.1
  have hA := X.2.2.2.2.2.2.2.2.2.2
  refine lv_iconst (v := 0) hx hb d62_0 (by decide) ?_
  refine lv_istore_n hx hb d62_1 rfl hl (by decide) rfl (fun ls hl => ?_)
  have hl : lv_has ls 3 [(2, .int 0), (0, .ref h), (1, .int i)] := hl
  refine lv_iload_n hx hb d62_2 rfl (lv_at hl 0 rfl) ?_
  refine lv_aload_n hx hb d62_3 rfl (lv_at hl 1 rfl) ?_
  refine ms_V (C := "MarkupStoreModel") (rest := [.int 0]) (as := []) X hl (c_count l D dA s0 hE h r 0) (List.forall_mem_cons.mpr ⟨ms_k1583, List.forall_mem_cons.mpr ⟨ms_k1585, List.forall_mem_cons.mpr ⟨ms_p62, List.forall_mem_cons.mpr ⟨ms_k7, List.forall_mem_cons.mpr ⟨ms_k1586, fun _ h => absurd h List.not_mem_nil⟩⟩⟩⟩⟩) ⟨rfl, by decide +kernel, by decide +kernel, by decide +kernel⟩ (va_recv hK hP rfl (q0 := 0) rfl) hP hD hS [0, 1] [] rfl rfl ⟨by decide, by decide, by decide⟩ ⟨⟨Nat.le_of_ble_eq_true rfl, Nat.le_of_ble_eq_true rfl⟩, Nat.le_of_ble_eq_true rfl, Nat.le_of_ble_eq_true rfl⟩ rfl (Nat.le_of_ble_eq_true rfl) d62_4 (fun vv ww H locs hR hP hD hS => ?_)
  obtain ⟨rfl, rfl⟩ := hR
  have hP : va_P D vwCl [(h, .inr (2, [.ref (r 0), .ref (r 1), .ref (r 2), .ref (r 3), .int 0, .int 0, .ref (r 6), .int 0, .int 0, .int 0, .int 0, .int 0, .int 0, .int 0, .int 0, .ref (r 15), .ref (r 16), .ref (r 17), .int 0, .int 0, .ref (r 20), .ref (r 21), .ref (r 22), .int 0, .int 0, .ref (r 25), .ref (r 26), .ref (r 27), .ref (r 28), .ref (r 29), .ref (r 30), .int 0, .ref (r 32), .ref (r 33), .ref (r 34), .ref (r 35), .ref (r 36), .ref (r 37), .ref (r 38), .ref (r 39), .ref (r 40), .ref (r 41), .ref (r 42), .int 0, .ref (r 44), .int 0, .int 0, .int 0, .int 0, .int 0, .ref (r 50), .ref (r 51), .ref (r 52), .int 0, .ref (r 54), .int 0, .ref (r 56), .int 0, .int 0, .int 0])), ((r 0), .inl (dA 0, 5161, .inl (fun _ => 0)))] H := hP
  have hD : va_D A [(h, .inr (2, [.ref (r 0), .ref (r 1), .ref (r 2), .ref (r 3), .int 0, .int 0, .ref (r 6), .int 0, .int 0, .int 0, .int 0, .int 0, .int 0, .int 0, .int 0, .ref (r 15), .ref (r 16), .ref (r 17), .int 0, .int 0, .ref (r 20), .ref (r 21), .ref (r 22), .int 0, .int 0, .ref (r 25), .ref (r 26), .ref (r 27), .ref (r 28), .ref (r 29), .ref (r 30), .int 0, .ref (r 32), .ref (r 33), .ref (r 34), .ref (r 35), .ref (r 36), .ref (r 37), .ref (r 38), .ref (r 39), .ref (r 40), .ref (r 41), .ref (r 42), .int 0, .ref (r 44), .int 0, .int 0, .int 0, .int 0, .int 0, .ref (r 50), .ref (r 51), .ref (r 52), .int 0, .ref (r 54), .int 0, .ref (r 56), .int 0, .int 0, .int 0])), ((r 0), .inl (dA 0, 5161, .inl (fun _ => 0)))] := hD
  refine W.eq (g2 := F0 m 7 ls [.int 0, .int 0]) rfl ?_
  refine lv_icmp_ge hx hb d62_7 rfl (fun _ => ?_) (fun h9 => absurd (by decide) h9)
  refine lv_iconst (v := (-1)) hx hb d62_38 (by decide) ?_
  exact ms_iret X d62_39 hP hD hS (Nat.le_of_ble_eq_true rfl) (Nat.le_of_ble_eq_true rfl) (⟨rfl, rfl⟩)

set_option maxRecDepth 100000 in
set_option maxHeartbeats 8000000 in
theorem c_mtype (l : Launch) (D : va_G) (dA : Nat → ClassId) (s0 : State) (hE : ms_EV D dA s0) (h : Nat) (r : Nat → Nat) (z : Int32) : ms_C l D s0 yM63 bM63 2 (Option.some Jvm.ClassFile.FieldType.boolean) 0 0 0 0 [.ref h, .int z] [(h, .inr (2, [.ref (r 0), .ref (r 1), .ref (r 2), .ref (r 3), .int 0, .int 0, .ref (r 6), .int 0, .int 0, .int 0, .int 0, .int 0, .int 0, .int 0, .int 0, .ref (r 15), .ref (r 16), .ref (r 17), .int 0, .int 0, .ref (r 20), .ref (r 21), .ref (r 22), .int 0, .int 0, .ref (r 25), .ref (r 26), .ref (r 27), .ref (r 28), .ref (r 29), .ref (r 30), .int 0, .ref (r 32), .ref (r 33), .ref (r 34), .ref (r 35), .ref (r 36), .ref (r 37), .ref (r 38), .ref (r 39), .ref (r 40), .ref (r 41), .ref (r 42), .int 0, .ref (r 44), .int 0, .int 0, .int 0, .int 0, .int 0, .ref (r 50), .ref (r 51), .ref (r 52), .int 0, .ref (r 54), .int 0, .ref (r 56), .int 0, .int 0, .int 0])), ((r 6), .inl (dA 1, 120, .inl (fun _ => 0)))] (fun vv _ => vv = some (.int (ms_ty z))) := by
  refine ms_C.mk hE.1 (by decide) (Nat.le_of_ble_eq_true rfl) [(0, .ref h), (1, .int z)] rfl ?_
  intro p e s m below meth c A ls X hin hP hD hS hl
  have hx := X.1
  have hb := X.2.1
  have hml := X.2.2.1
  have hown : s.vm.findClass "MarkupStoreModel" = some m.cls := X.2.2.2.1
  have hts := X.2.2.2.2.2.2.1
  have hK := X.2.2.2.2.2.2.2.2.1
  have hA := X.2.2.2.2.2.2.2.2.2.2
  refine lv_iload_n hx hb d63_0 rfl (lv_at hl 1 rfl) ?_
  refine lv_bipush (v := 32) hx hb d63_1 (by decide) ?_
  refine lv_icmp_lt hx hb d63_3 rfl (fun h1 => ?_) (fun h1 => ?_)
  · refine lv_iconst (v := 0) hx hb d63_21 (by decide) ?_
    exact ms_zret X d63_22 hP hD hS (Nat.le_of_ble_eq_true rfl) (Nat.le_of_ble_eq_true rfl) (by simp [ms_ty, h1]) (rfl)
  · refine lv_iload_n hx hb d63_6 rfl (lv_at hl 1 rfl) ?_
    refine lv_bipush (v := 126) hx hb d63_7 (by decide) ?_
    refine lv_icmp_gt hx hb d63_9 rfl (fun h2 => ?_) (fun h2 => ?_)
    · refine lv_iconst (v := 0) hx hb d63_21 (by decide) ?_
      exact ms_zret X d63_22 hP hD hS (Nat.le_of_ble_eq_true rfl) (Nat.le_of_ble_eq_true rfl) (by simp [ms_ty, h1, h2]) (rfl)
    · refine lv_aload_n hx hb d63_12 rfl (lv_at hl 0 rfl) ?_
      refine va_get (D := D) (ci := 2) (v := .int 0) (C := kR2) (T := kT2) (N := 60) hx hb hts ku2 hown hK hP 0 rfl rfl 7 (by decide) (hts _ ms_k1323) (fun _ h => h) rfl d63_13 ?_
      refine lv_bipush (v := 120) hx hb d63_16 (by decide) ?_
      refine lv_icmp_lt hx hb d63_18 rfl (fun _ => ?_) (fun h9 => absurd (by decide) h9)
      refine lv_aload_n hx hb d63_23 rfl (lv_at hl 0 rfl) ?_
      refine va_get (D := D) (ci := 2) (v := .ref (r 6)) (C := kR2) (T := kT2) (N := 60) hx hb hts ku2 hown hK hP 0 rfl rfl 6 (by decide) (hts _ ms_k1322) (fun _ h => h) rfl d63_24 ?_
      refine lv_aload_n hx hb d63_27 rfl (lv_at hl 0 rfl) ?_
      refine va_get (D := D) (ci := 2) (v := .int 0) (C := kR2) (T := kT2) (N := 60) hx hb hts ku2 hown hK hP 0 rfl rfl 7 (by decide) (hts _ ms_k1323) (fun _ h => h) rfl d63_28 ?_
      refine lv_iload_n hx hb d63_31 rfl (lv_at hl 1 rfl) ?_
      refine va_cast hx hb hK hP hD hS 1 1 rfl rfl (by decide) d63_32 (fun H locs hP hD hS => ?_)
      have hP : va_P D vwCl [(h, .inr (2, [.ref (r 0), .ref (r 1), .ref (r 2), .ref (r 3), .int 0, .int 0, .ref (r 6), .int 0, .int 0, .int 0, .int 0, .int 0, .int 0, .int 0, .int 0, .ref (r 15), .ref (r 16), .ref (r 17), .int 0, .int 0, .ref (r 20), .ref (r 21), .ref (r 22), .int 0, .int 0, .ref (r 25), .ref (r 26), .ref (r 27), .ref (r 28), .ref (r 29), .ref (r 30), .int 0, .ref (r 32), .ref (r 33), .ref (r 34), .ref (r 35), .ref (r 36), .ref (r 37), .ref (r 38), .ref (r 39), .ref (r 40), .ref (r 41), .ref (r 42), .int 0, .ref (r 44), .int 0, .int 0, .int 0, .int 0, .int 0, .ref (r 50), .ref (r 51), .ref (r 52), .int 0, .ref (r 54), .int 0, .ref (r 56), .int 0, .int 0, .int 0])), ((r 6), .inl (dA 1, 120, .inl (upd (fun _ => 0) 0 (vp_nar .char z))))] H := hP
      have hD : va_D A [(h, .inr (2, [.ref (r 0), .ref (r 1), .ref (r 2), .ref (r 3), .int 0, .int 0, .ref (r 6), .int 0, .int 0, .int 0, .int 0, .int 0, .int 0, .int 0, .int 0, .ref (r 15), .ref (r 16), .ref (r 17), .int 0, .int 0, .ref (r 20), .ref (r 21), .ref (r 22), .int 0, .int 0, .ref (r 25), .ref (r 26), .ref (r 27), .ref (r 28), .ref (r 29), .ref (r 30), .int 0, .ref (r 32), .ref (r 33), .ref (r 34), .ref (r 35), .ref (r 36), .ref (r 37), .ref (r 38), .ref (r 39), .ref (r 40), .ref (r 41), .ref (r 42), .int 0, .ref (r 44), .int 0, .int 0, .int 0, .int 0, .int 0, .ref (r 50), .ref (r 51), .ref (r 52), .int 0, .ref (r 54), .int 0, .ref (r 56), .int 0, .int 0, .int 0])), ((r 6), .inl (dA 1, 120, .inl (upd (fun _ => 0) 0 (vp_nar .char z))))] := hD
      refine lv_aload_n hx hb d63_33 rfl (lv_at hl 0 rfl) ?_
      refine lv_dup hx hb d63_34 rfl ?_
      refine va_get (D := D) (ci := 2) (v := .int 0) (C := kR2) (T := kT2) (N := 60) hx hb hts ku2 hown hK hP 0 rfl rfl 7 (by decide) (hts _ ms_k1323) (fun _ h => h) rfl d63_35 ?_
      refine lv_iconst (v := 1) hx hb d63_38 (by decide) ?_
      refine lv_iadd hx hb d63_39 ?_
      refine ms_top (y := 1) (by decide) ?_
      refine va_put (D := D) (ci := 2) (v := .int 1) (ty := .int) (C := kR2) (T := kT2) (N := 60) hx hb hts ku2 kt2 kp2 kn2 hown hK hP hD hS 0 rfl rfl 7 (by decide) (hts _ ms_k1323) (fun _ h => h) rfl (by decide +kernel) rfl rfl (Nat.le_of_ble_eq_true rfl) d63_40 (fun H locs hP hD hS => ?_)
      have hP : va_P D vwCl [(h, .inr (2, [.ref (r 0), .ref (r 1), .ref (r 2), .ref (r 3), .int 0, .int 0, .ref (r 6), .int 1, .int 0, .int 0, .int 0, .int 0, .int 0, .int 0, .int 0, .ref (r 15), .ref (r 16), .ref (r 17), .int 0, .int 0, .ref (r 20), .ref (r 21), .ref (r 22), .int 0, .int 0, .ref (r 25), .ref (r 26), .ref (r 27), .ref (r 28), .ref (r 29), .ref (r 30), .int 0, .ref (r 32), .ref (r 33), .ref (r 34), .ref (r 35), .ref (r 36), .ref (r 37), .ref (r 38), .ref (r 39), .ref (r 40), .ref (r 41), .ref (r 42), .int 0, .ref (r 44), .int 0, .int 0, .int 0, .int 0, .int 0, .ref (r 50), .ref (r 51), .ref (r 52), .int 0, .ref (r 54), .int 0, .ref (r 56), .int 0, .int 0, .int 0])), ((r 6), .inl (dA 1, 120, .inl (upd (fun _ => 0) 0 (vp_nar .char z))))] H := hP
      have hD : va_D A [(h, .inr (2, [.ref (r 0), .ref (r 1), .ref (r 2), .ref (r 3), .int 0, .int 0, .ref (r 6), .int 1, .int 0, .int 0, .int 0, .int 0, .int 0, .int 0, .int 0, .ref (r 15), .ref (r 16), .ref (r 17), .int 0, .int 0, .ref (r 20), .ref (r 21), .ref (r 22), .int 0, .int 0, .ref (r 25), .ref (r 26), .ref (r 27), .ref (r 28), .ref (r 29), .ref (r 30), .int 0, .ref (r 32), .ref (r 33), .ref (r 34), .ref (r 35), .ref (r 36), .ref (r 37), .ref (r 38), .ref (r 39), .ref (r 40), .ref (r 41), .ref (r 42), .int 0, .ref (r 44), .int 0, .int 0, .int 0, .int 0, .int 0, .ref (r 50), .ref (r 51), .ref (r 52), .int 0, .ref (r 54), .int 0, .ref (r 56), .int 0, .int 0, .int 0])), ((r 6), .inl (dA 1, 120, .inl (upd (fun _ => 0) 0 (vp_nar .char z))))] := hD
      refine lv_iconst (v := 1) hx hb d63_43 (by decide) ?_
      exact ms_zret X d63_44 hP hD hS (Nat.le_of_ble_eq_true rfl) (Nat.le_of_ble_eq_true rfl) (by simp [ms_ty, h1, h2]) (rfl)

set_option maxRecDepth 100000 in
set_option maxHeartbeats 8000000 in
theorem c_merror (l : Launch) (D : va_G) (dA : Nat → ClassId) (s0 : State) (hE : ms_EV D dA s0) (h : Nat) (r : Nat → Nat) : ms_C l D s0 yM64 bM64 2 (Option.none : Option Jvm.ClassFile.FieldType) 0 0 0 0 [.ref h, .int 0] [(h, .inr (2, [.ref (r 0), .ref (r 1), .ref (r 2), .ref (r 3), .int 0, .int 0, .ref (r 6), .int 0, .int 0, .int (-1), .int 0, .int 0, .int (-1), .int 0, .int 0, .ref (r 15), .ref (r 16), .ref (r 17), .int 0, .int 0, .ref (r 20), .ref (r 21), .ref (r 22), .int 0, .int 0, .ref (r 25), .ref (r 26), .ref (r 27), .ref (r 28), .ref (r 29), .ref (r 30), .int 0, .ref (r 32), .ref (r 33), .ref (r 34), .ref (r 35), .ref (r 36), .ref (r 37), .ref (r 38), .ref (r 39), .ref (r 40), .ref (r 41), .ref (r 42), .int 0, .ref (r 44), .int 0, .int 0, .int 0, .int 0, .int 0, .ref (r 50), .ref (r 51), .ref (r 52), .int 0, .ref (r 54), .int 0, .ref (r 56), .int 0, .int 0, .int 0]))] (fun vv ww => vv = none ∧ ww = [(h, .inr (2, [.ref (r 0), .ref (r 1), .ref (r 2), .ref (r 3), .int 0, .int 0, .ref (r 6), .int 0, .int 0, .int 0, .int 0, .int 0, .int (-1), .int 0, .int 0, .ref (r 15), .ref (r 16), .ref (r 17), .int 0, .int 0, .ref (r 20), .ref (r 21), .ref (r 22), .int 0, .int 0, .ref (r 25), .ref (r 26), .ref (r 27), .ref (r 28), .ref (r 29), .ref (r 30), .int 0, .ref (r 32), .ref (r 33), .ref (r 34), .ref (r 35), .ref (r 36), .ref (r 37), .ref (r 38), .ref (r 39), .ref (r 40), .ref (r 41), .ref (r 42), .int 0, .ref (r 44), .int 0, .int 0, .int 0, .int 0, .int 0, .ref (r 50), .ref (r 51), .ref (r 52), .int 0, .ref (r 54), .int 0, .ref (r 56), .int 0, .int 0, .int 0]))]) := by
  refine ms_C.mk hE.1 (by decide) (Nat.le_of_ble_eq_true rfl) [(0, .ref h), (1, .int 0)] rfl ?_
  intro p e s m below meth c A ls X hin hP hD hS hl
  have hx := X.1
  have hb := X.2.1
  have hml := X.2.2.1
  have hown : s.vm.findClass "MarkupStoreModel" = some m.cls := X.2.2.2.1
  have hts := X.2.2.2.2.2.2.1
  have hK := X.2.2.2.2.2.2.2.2.1
  have hA := X.2.2.2.2.2.2.2.2.2.2
  refine lv_aload_n hx hb d64_0 rfl (lv_at hl 0 rfl) ?_
  refine va_get (D := D) (ci := 2) (v := .int (-1)) (C := kR2) (T := kT2) (N := 60) hx hb hts ku2 hown hK hP 0 rfl rfl 9 (by decide) (hts _ ms_k1325) (fun _ h => h) rfl d64_1 ?_
  refine lv_if_ge hx hb d64_4 rfl (fun h9 => absurd h9 (by decide)) (fun _ => ?_)
  refine lv_aload_n hx hb d64_7 rfl (lv_at hl 0 rfl) ?_
  refine lv_iload_n hx hb d64_8 rfl (lv_at hl 1 rfl) ?_
  refine lv_aload_n hx hb d64_9 rfl (lv_at hl 0 rfl) ?_
  refine va_get (D := D) (ci := 2) (v := .int 0) (C := kR2) (T := kT2) (N := 60) hx hb hts ku2 hown hK hP 0 rfl rfl 7 (by decide) (hts _ ms_k1323) (fun _ h => h) rfl d64_10 ?_
  refine lv_icmp_ge hx hb d64_13 rfl (fun _ => ?_) (fun h9 => absurd (by decide) h9)
  refine lv_aload_n hx hb d64_20 rfl (lv_at hl 0 rfl) ?_
  refine va_get (D := D) (ci := 2) (v := .int 0) (C := kR2) (T := kT2) (N := 60) hx hb hts ku2 hown hK hP 0 rfl rfl 7 (by decide) (hts _ ms_k1323) (fun _ h => h) rfl d64_21 ?_
  refine va_put (D := D) (ci := 2) (v := .int 0) (ty := .int) (C := kR2) (T := kT2) (N := 60) hx hb hts ku2 kt2 kp2 kn2 hown hK hP hD hS 0 rfl rfl 9 (by decide) (hts _ ms_k1325) (fun _ h => h) rfl (by decide +kernel) rfl rfl (Nat.le_of_ble_eq_true rfl) d64_24 (fun H locs hP hD hS => ?_)
  have hP : va_P D vwCl [(h, .inr (2, [.ref (r 0), .ref (r 1), .ref (r 2), .ref (r 3), .int 0, .int 0, .ref (r 6), .int 0, .int 0, .int 0, .int 0, .int 0, .int (-1), .int 0, .int 0, .ref (r 15), .ref (r 16), .ref (r 17), .int 0, .int 0, .ref (r 20), .ref (r 21), .ref (r 22), .int 0, .int 0, .ref (r 25), .ref (r 26), .ref (r 27), .ref (r 28), .ref (r 29), .ref (r 30), .int 0, .ref (r 32), .ref (r 33), .ref (r 34), .ref (r 35), .ref (r 36), .ref (r 37), .ref (r 38), .ref (r 39), .ref (r 40), .ref (r 41), .ref (r 42), .int 0, .ref (r 44), .int 0, .int 0, .int 0, .int 0, .int 0, .ref (r 50), .ref (r 51), .ref (r 52), .int 0, .ref (r 54), .int 0, .ref (r 56), .int 0, .int 0, .int 0]))] H := hP
  have hD : va_D A [(h, .inr (2, [.ref (r 0), .ref (r 1), .ref (r 2), .ref (r 3), .int 0, .int 0, .ref (r 6), .int 0, .int 0, .int 0, .int 0, .int 0, .int (-1), .int 0, .int 0, .ref (r 15), .ref (r 16), .ref (r 17), .int 0, .int 0, .ref (r 20), .ref (r 21), .ref (r 22), .int 0, .int 0, .ref (r 25), .ref (r 26), .ref (r 27), .ref (r 28), .ref (r 29), .ref (r 30), .int 0, .ref (r 32), .ref (r 33), .ref (r 34), .ref (r 35), .ref (r 36), .ref (r 37), .ref (r 38), .ref (r 39), .ref (r 40), .ref (r 41), .ref (r 42), .int 0, .ref (r 44), .int 0, .int 0, .int 0, .int 0, .int 0, .ref (r 50), .ref (r 51), .ref (r 52), .int 0, .ref (r 54), .int 0, .ref (r 56), .int 0, .int 0, .int 0]))] := hD
  exact ms_vret X d64_27 hP hD hS (Nat.le_of_ble_eq_true rfl) (Nat.le_of_ble_eq_true rfl) (⟨rfl, rfl⟩)

set_option maxRecDepth 100000 in
set_option maxHeartbeats 8000000 in
theorem c_parse (l : Launch) (D : va_G) (dA : Nat → ClassId) (s0 : State) (hE : ms_EV D dA s0) (h : Nat) (r : Nat → Nat) : ms_C l D s0 yM65 bM65 5 (Option.none : Option Jvm.ClassFile.FieldType) 1 21 0 0 [.ref h, .int 1, .int 0] [(h, .inr (2, [.ref (r 0), .ref (r 1), .ref (r 2), .ref (r 3), .int 0, .int 0, .ref (r 6), .int 0, .int 0, .int 0, .int 0, .int 0, .int 0, .int 0, .int 0, .ref (r 15), .ref (r 16), .ref (r 17), .int 0, .int 0, .ref (r 20), .ref (r 21), .ref (r 22), .int 0, .int 0, .ref (r 25), .ref (r 26), .ref (r 27), .ref (r 28), .ref (r 29), .ref (r 30), .int 0, .ref (r 32), .ref (r 33), .ref (r 34), .ref (r 35), .ref (r 36), .ref (r 37), .ref (r 38), .ref (r 39), .ref (r 40), .ref (r 41), .ref (r 42), .int 0, .ref (r 44), .int 0, .int 0, .int 0, .int 0, .int 0, .ref (r 50), .ref (r 51), .ref (r 52), .int 0, .ref (r 54), .int 0, .ref (r 56), .int 0, .int 0, .int 0]))] (fun vv ww => vv = none ∧ ww = [(h, .inr (2, [.ref (r 0), .ref (r 1), .ref (r 2), .ref (r 3), .int 0, .int 0, .ref (r 6), .int 0, .int 0, .int 0, .int 0, .int 0, .int (-1), .int 0, .int 0, .ref (r 15), .ref (r 16), .ref (r 17), .int 0, .int 0, .ref (r 20), .ref (r 21), .ref (r 22), .int 0, .int 0, .ref (r 25), .ref (r 26), .ref (r 27), .ref (r 28), .ref (r 29), .ref (r 30), .int 0, .ref (r 32), .ref (r 33), .ref (r 34), .ref (r 35), .ref (r 36), .ref (r 37), .ref (r 38), .ref (r 39), .ref (r 40), .ref (r 41), .ref (r 42), .int 0, .ref (r 44), .int 0, .int 0, .int 0, .int 0, .int 0, .ref (r 50), .ref (r 51), .ref (r 52), .int 0, .ref (r 54), .int 0, .ref (r 56), .int 0, .int 0, .int 0]))]) := by
  refine ms_C.mk hE.1 (by decide) (Nat.le_of_ble_eq_true rfl) [(0, .ref h), (1, .int 1), (2, .int 0)] rfl ?_
  intro p e s m below meth c A ls X hin hP hD hS hl
  have hx := X.1
  have hb := X.2.1
  have hml := X.2.2.1
  have hown : s.vm.findClass "MarkupStoreModel" = some m.cls := X.2.2.2.1
  have hts := X.2.2.2.2.2.2.1
  have hK := X.2.2.2.2.2.2.2.2.1
  have hA := X.2.2.2.2.2.2.2.2.2.2
  refine lv_aload_n hx hb d65_0 rfl (lv_at hl 0 rfl) ?_
  refine lv_iconst (v := 0) hx hb d65_1 (by decide) ?_
  refine va_put (D := D) (ci := 2) (v := .int 0) (ty := .int) (C := kR2) (T := kT2) (N := 60) hx hb hts ku2 kt2 kp2 kn2 hown hK hP hD hS 0 rfl rfl 8 (by decide) (hts _ ms_k1324) (fun _ h => h) rfl (by decide +kernel) rfl rfl (Nat.le_of_ble_eq_true rfl) d65_2 (fun H locs hP hD hS => ?_)
  have hP : va_P D vwCl [(h, .inr (2, [.ref (r 0), .ref (r 1), .ref (r 2), .ref (r 3), .int 0, .int 0, .ref (r 6), .int 0, .int 0, .int 0, .int 0, .int 0, .int 0, .int 0, .int 0, .ref (r 15), .ref (r 16), .ref (r 17), .int 0, .int 0, .ref (r 20), .ref (r 21), .ref (r 22), .int 0, .int 0, .ref (r 25), .ref (r 26), .ref (r 27), .ref (r 28), .ref (r 29), .ref (r 30), .int 0, .ref (r 32), .ref (r 33), .ref (r 34), .ref (r 35), .ref (r 36), .ref (r 37), .ref (r 38), .ref (r 39), .ref (r 40), .ref (r 41), .ref (r 42), .int 0, .ref (r 44), .int 0, .int 0, .int 0, .int 0, .int 0, .ref (r 50), .ref (r 51), .ref (r 52), .int 0, .ref (r 54), .int 0, .ref (r 56), .int 0, .int 0, .int 0]))] H := hP
  have hD : va_D A [(h, .inr (2, [.ref (r 0), .ref (r 1), .ref (r 2), .ref (r 3), .int 0, .int 0, .ref (r 6), .int 0, .int 0, .int 0, .int 0, .int 0, .int 0, .int 0, .int 0, .ref (r 15), .ref (r 16), .ref (r 17), .int 0, .int 0, .ref (r 20), .ref (r 21), .ref (r 22), .int 0, .int 0, .ref (r 25), .ref (r 26), .ref (r 27), .ref (r 28), .ref (r 29), .ref (r 30), .int 0, .ref (r 32), .ref (r 33), .ref (r 34), .ref (r 35), .ref (r 36), .ref (r 37), .ref (r 38), .ref (r 39), .ref (r 40), .ref (r 41), .ref (r 42), .int 0, .ref (r 44), .int 0, .int 0, .int 0, .int 0, .int 0, .ref (r 50), .ref (r 51), .ref (r 52), .int 0, .ref (r 54), .int 0, .ref (r 56), .int 0, .int 0, .int 0]))] := hD
  refine lv_aload_n hx hb d65_5 rfl (lv_at hl 0 rfl) ?_
  refine lv_iconst (v := (-1)) hx hb d65_6 (by decide) ?_
  refine va_put (D := D) (ci := 2) (v := .int (-1)) (ty := .int) (C := kR2) (T := kT2) (N := 60) hx hb hts ku2 kt2 kp2 kn2 hown hK hP hD hS 0 rfl rfl 9 (by decide) (hts _ ms_k1325) (fun _ h => h) rfl (by decide +kernel) rfl rfl (Nat.le_of_ble_eq_true rfl) d65_7 (fun H locs hP hD hS => ?_)
  have hP : va_P D vwCl [(h, .inr (2, [.ref (r 0), .ref (r 1), .ref (r 2), .ref (r 3), .int 0, .int 0, .ref (r 6), .int 0, .int 0, .int (-1), .int 0, .int 0, .int 0, .int 0, .int 0, .ref (r 15), .ref (r 16), .ref (r 17), .int 0, .int 0, .ref (r 20), .ref (r 21), .ref (r 22), .int 0, .int 0, .ref (r 25), .ref (r 26), .ref (r 27), .ref (r 28), .ref (r 29), .ref (r 30), .int 0, .ref (r 32), .ref (r 33), .ref (r 34), .ref (r 35), .ref (r 36), .ref (r 37), .ref (r 38), .ref (r 39), .ref (r 40), .ref (r 41), .ref (r 42), .int 0, .ref (r 44), .int 0, .int 0, .int 0, .int 0, .int 0, .ref (r 50), .ref (r 51), .ref (r 52), .int 0, .ref (r 54), .int 0, .ref (r 56), .int 0, .int 0, .int 0]))] H := hP
  have hD : va_D A [(h, .inr (2, [.ref (r 0), .ref (r 1), .ref (r 2), .ref (r 3), .int 0, .int 0, .ref (r 6), .int 0, .int 0, .int (-1), .int 0, .int 0, .int 0, .int 0, .int 0, .ref (r 15), .ref (r 16), .ref (r 17), .int 0, .int 0, .ref (r 20), .ref (r 21), .ref (r 22), .int 0, .int 0, .ref (r 25), .ref (r 26), .ref (r 27), .ref (r 28), .ref (r 29), .ref (r 30), .int 0, .ref (r 32), .ref (r 33), .ref (r 34), .ref (r 35), .ref (r 36), .ref (r 37), .ref (r 38), .ref (r 39), .ref (r 40), .ref (r 41), .ref (r 42), .int 0, .ref (r 44), .int 0, .int 0, .int 0, .int 0, .int 0, .ref (r 50), .ref (r 51), .ref (r 52), .int 0, .ref (r 54), .int 0, .ref (r 56), .int 0, .int 0, .int 0]))] := hD
  refine lv_aload_n hx hb d65_10 rfl (lv_at hl 0 rfl) ?_
  refine lv_iconst (v := 0) hx hb d65_11 (by decide) ?_
  refine va_put (D := D) (ci := 2) (v := .int 0) (ty := .int) (C := kR2) (T := kT2) (N := 60) hx hb hts ku2 kt2 kp2 kn2 hown hK hP hD hS 0 rfl rfl 10 (by decide) (hts _ ms_k1326) (fun _ h => h) rfl (by decide +kernel) rfl rfl (Nat.le_of_ble_eq_true rfl) d65_12 (fun H locs hP hD hS => ?_)
  have hP : va_P D vwCl [(h, .inr (2, [.ref (r 0), .ref (r 1), .ref (r 2), .ref (r 3), .int 0, .int 0, .ref (r 6), .int 0, .int 0, .int (-1), .int 0, .int 0, .int 0, .int 0, .int 0, .ref (r 15), .ref (r 16), .ref (r 17), .int 0, .int 0, .ref (r 20), .ref (r 21), .ref (r 22), .int 0, .int 0, .ref (r 25), .ref (r 26), .ref (r 27), .ref (r 28), .ref (r 29), .ref (r 30), .int 0, .ref (r 32), .ref (r 33), .ref (r 34), .ref (r 35), .ref (r 36), .ref (r 37), .ref (r 38), .ref (r 39), .ref (r 40), .ref (r 41), .ref (r 42), .int 0, .ref (r 44), .int 0, .int 0, .int 0, .int 0, .int 0, .ref (r 50), .ref (r 51), .ref (r 52), .int 0, .ref (r 54), .int 0, .ref (r 56), .int 0, .int 0, .int 0]))] H := hP
  have hD : va_D A [(h, .inr (2, [.ref (r 0), .ref (r 1), .ref (r 2), .ref (r 3), .int 0, .int 0, .ref (r 6), .int 0, .int 0, .int (-1), .int 0, .int 0, .int 0, .int 0, .int 0, .ref (r 15), .ref (r 16), .ref (r 17), .int 0, .int 0, .ref (r 20), .ref (r 21), .ref (r 22), .int 0, .int 0, .ref (r 25), .ref (r 26), .ref (r 27), .ref (r 28), .ref (r 29), .ref (r 30), .int 0, .ref (r 32), .ref (r 33), .ref (r 34), .ref (r 35), .ref (r 36), .ref (r 37), .ref (r 38), .ref (r 39), .ref (r 40), .ref (r 41), .ref (r 42), .int 0, .ref (r 44), .int 0, .int 0, .int 0, .int 0, .int 0, .ref (r 50), .ref (r 51), .ref (r 52), .int 0, .ref (r 54), .int 0, .ref (r 56), .int 0, .int 0, .int 0]))] := hD
  refine lv_aload_n hx hb d65_15 rfl (lv_at hl 0 rfl) ?_
  refine lv_iconst (v := 0) hx hb d65_16 (by decide) ?_
  refine va_put (D := D) (ci := 2) (v := .int 0) (ty := .boolean) (C := kR2) (T := kT2) (N := 60) hx hb hts ku2 kt2 kp2 kn2 hown hK hP hD hS 0 rfl rfl 11 (by decide) (hts _ ms_k1327) (fun _ h => h) rfl (by decide +kernel) rfl rfl (Nat.le_of_ble_eq_true rfl) d65_17 (fun H locs hP hD hS => ?_)
  have hP : va_P D vwCl [(h, .inr (2, [.ref (r 0), .ref (r 1), .ref (r 2), .ref (r 3), .int 0, .int 0, .ref (r 6), .int 0, .int 0, .int (-1), .int 0, .int 0, .int 0, .int 0, .int 0, .ref (r 15), .ref (r 16), .ref (r 17), .int 0, .int 0, .ref (r 20), .ref (r 21), .ref (r 22), .int 0, .int 0, .ref (r 25), .ref (r 26), .ref (r 27), .ref (r 28), .ref (r 29), .ref (r 30), .int 0, .ref (r 32), .ref (r 33), .ref (r 34), .ref (r 35), .ref (r 36), .ref (r 37), .ref (r 38), .ref (r 39), .ref (r 40), .ref (r 41), .ref (r 42), .int 0, .ref (r 44), .int 0, .int 0, .int 0, .int 0, .int 0, .ref (r 50), .ref (r 51), .ref (r 52), .int 0, .ref (r 54), .int 0, .ref (r 56), .int 0, .int 0, .int 0]))] H := hP
  have hD : va_D A [(h, .inr (2, [.ref (r 0), .ref (r 1), .ref (r 2), .ref (r 3), .int 0, .int 0, .ref (r 6), .int 0, .int 0, .int (-1), .int 0, .int 0, .int 0, .int 0, .int 0, .ref (r 15), .ref (r 16), .ref (r 17), .int 0, .int 0, .ref (r 20), .ref (r 21), .ref (r 22), .int 0, .int 0, .ref (r 25), .ref (r 26), .ref (r 27), .ref (r 28), .ref (r 29), .ref (r 30), .int 0, .ref (r 32), .ref (r 33), .ref (r 34), .ref (r 35), .ref (r 36), .ref (r 37), .ref (r 38), .ref (r 39), .ref (r 40), .ref (r 41), .ref (r 42), .int 0, .ref (r 44), .int 0, .int 0, .int 0, .int 0, .int 0, .ref (r 50), .ref (r 51), .ref (r 52), .int 0, .ref (r 54), .int 0, .ref (r 56), .int 0, .int 0, .int 0]))] := hD
  refine lv_aload_n hx hb d65_20 rfl (lv_at hl 0 rfl) ?_
  refine lv_iconst (v := (-1)) hx hb d65_21 (by decide) ?_
  refine va_put (D := D) (ci := 2) (v := .int (-1)) (ty := .int) (C := kR2) (T := kT2) (N := 60) hx hb hts ku2 kt2 kp2 kn2 hown hK hP hD hS 0 rfl rfl 12 (by decide) (hts _ ms_k1328) (fun _ h => h) rfl (by decide +kernel) rfl rfl (Nat.le_of_ble_eq_true rfl) d65_22 (fun H locs hP hD hS => ?_)
  have hP : va_P D vwCl [(h, .inr (2, [.ref (r 0), .ref (r 1), .ref (r 2), .ref (r 3), .int 0, .int 0, .ref (r 6), .int 0, .int 0, .int (-1), .int 0, .int 0, .int (-1), .int 0, .int 0, .ref (r 15), .ref (r 16), .ref (r 17), .int 0, .int 0, .ref (r 20), .ref (r 21), .ref (r 22), .int 0, .int 0, .ref (r 25), .ref (r 26), .ref (r 27), .ref (r 28), .ref (r 29), .ref (r 30), .int 0, .ref (r 32), .ref (r 33), .ref (r 34), .ref (r 35), .ref (r 36), .ref (r 37), .ref (r 38), .ref (r 39), .ref (r 40), .ref (r 41), .ref (r 42), .int 0, .ref (r 44), .int 0, .int 0, .int 0, .int 0, .int 0, .ref (r 50), .ref (r 51), .ref (r 52), .int 0, .ref (r 54), .int 0, .ref (r 56), .int 0, .int 0, .int 0]))] H := hP
  have hD : va_D A [(h, .inr (2, [.ref (r 0), .ref (r 1), .ref (r 2), .ref (r 3), .int 0, .int 0, .ref (r 6), .int 0, .int 0, .int (-1), .int 0, .int 0, .int (-1), .int 0, .int 0, .ref (r 15), .ref (r 16), .ref (r 17), .int 0, .int 0, .ref (r 20), .ref (r 21), .ref (r 22), .int 0, .int 0, .ref (r 25), .ref (r 26), .ref (r 27), .ref (r 28), .ref (r 29), .ref (r 30), .int 0, .ref (r 32), .ref (r 33), .ref (r 34), .ref (r 35), .ref (r 36), .ref (r 37), .ref (r 38), .ref (r 39), .ref (r 40), .ref (r 41), .ref (r 42), .int 0, .ref (r 44), .int 0, .int 0, .int 0, .int 0, .int 0, .ref (r 50), .ref (r 51), .ref (r 52), .int 0, .ref (r 54), .int 0, .ref (r 56), .int 0, .int 0, .int 0]))] := hD
  refine lv_aload_n hx hb d65_25 rfl (lv_at hl 0 rfl) ?_
  refine lv_iload_n hx hb d65_26 rfl (lv_at hl 2 rfl) ?_
  refine va_put (D := D) (ci := 2) (v := .int 0) (ty := .int) (C := kR2) (T := kT2) (N := 60) hx hb hts ku2 kt2 kp2 kn2 hown hK hP hD hS 0 rfl rfl 13 (by decide) (hts _ ms_k1329) (fun _ h => h) rfl (by decide +kernel) rfl rfl (Nat.le_of_ble_eq_true rfl) d65_27 (fun H locs hP hD hS => ?_)
  have hP : va_P D vwCl [(h, .inr (2, [.ref (r 0), .ref (r 1), .ref (r 2), .ref (r 3), .int 0, .int 0, .ref (r 6), .int 0, .int 0, .int (-1), .int 0, .int 0, .int (-1), .int 0, .int 0, .ref (r 15), .ref (r 16), .ref (r 17), .int 0, .int 0, .ref (r 20), .ref (r 21), .ref (r 22), .int 0, .int 0, .ref (r 25), .ref (r 26), .ref (r 27), .ref (r 28), .ref (r 29), .ref (r 30), .int 0, .ref (r 32), .ref (r 33), .ref (r 34), .ref (r 35), .ref (r 36), .ref (r 37), .ref (r 38), .ref (r 39), .ref (r 40), .ref (r 41), .ref (r 42), .int 0, .ref (r 44), .int 0, .int 0, .int 0, .int 0, .int 0, .ref (r 50), .ref (r 51), .ref (r 52), .int 0, .ref (r 54), .int 0, .ref (r 56), .int 0, .int 0, .int 0]))] H := hP
  have hD : va_D A [(h, .inr (2, [.ref (r 0), .ref (r 1), .ref (r 2), .ref (r 3), .int 0, .int 0, .ref (r 6), .int 0, .int 0, .int (-1), .int 0, .int 0, .int (-1), .int 0, .int 0, .ref (r 15), .ref (r 16), .ref (r 17), .int 0, .int 0, .ref (r 20), .ref (r 21), .ref (r 22), .int 0, .int 0, .ref (r 25), .ref (r 26), .ref (r 27), .ref (r 28), .ref (r 29), .ref (r 30), .int 0, .ref (r 32), .ref (r 33), .ref (r 34), .ref (r 35), .ref (r 36), .ref (r 37), .ref (r 38), .ref (r 39), .ref (r 40), .ref (r 41), .ref (r 42), .int 0, .ref (r 44), .int 0, .int 0, .int 0, .int 0, .int 0, .ref (r 50), .ref (r 51), .ref (r 52), .int 0, .ref (r 54), .int 0, .ref (r 56), .int 0, .int 0, .int 0]))] := hD
  refine lv_aload_n hx hb d65_30 rfl (lv_at hl 0 rfl) ?_
  refine lv_iconst (v := 0) hx hb d65_31 (by decide) ?_
  refine va_put (D := D) (ci := 2) (v := .int 0) (ty := .int) (C := kR2) (T := kT2) (N := 60) hx hb hts ku2 kt2 kp2 kn2 hown hK hP hD hS 0 rfl rfl 14 (by decide) (hts _ ms_k1330) (fun _ h => h) rfl (by decide +kernel) rfl rfl (Nat.le_of_ble_eq_true rfl) d65_32 (fun H locs hP hD hS => ?_)
  have hP : va_P D vwCl [(h, .inr (2, [.ref (r 0), .ref (r 1), .ref (r 2), .ref (r 3), .int 0, .int 0, .ref (r 6), .int 0, .int 0, .int (-1), .int 0, .int 0, .int (-1), .int 0, .int 0, .ref (r 15), .ref (r 16), .ref (r 17), .int 0, .int 0, .ref (r 20), .ref (r 21), .ref (r 22), .int 0, .int 0, .ref (r 25), .ref (r 26), .ref (r 27), .ref (r 28), .ref (r 29), .ref (r 30), .int 0, .ref (r 32), .ref (r 33), .ref (r 34), .ref (r 35), .ref (r 36), .ref (r 37), .ref (r 38), .ref (r 39), .ref (r 40), .ref (r 41), .ref (r 42), .int 0, .ref (r 44), .int 0, .int 0, .int 0, .int 0, .int 0, .ref (r 50), .ref (r 51), .ref (r 52), .int 0, .ref (r 54), .int 0, .ref (r 56), .int 0, .int 0, .int 0]))] H := hP
  have hD : va_D A [(h, .inr (2, [.ref (r 0), .ref (r 1), .ref (r 2), .ref (r 3), .int 0, .int 0, .ref (r 6), .int 0, .int 0, .int (-1), .int 0, .int 0, .int (-1), .int 0, .int 0, .ref (r 15), .ref (r 16), .ref (r 17), .int 0, .int 0, .ref (r 20), .ref (r 21), .ref (r 22), .int 0, .int 0, .ref (r 25), .ref (r 26), .ref (r 27), .ref (r 28), .ref (r 29), .ref (r 30), .int 0, .ref (r 32), .ref (r 33), .ref (r 34), .ref (r 35), .ref (r 36), .ref (r 37), .ref (r 38), .ref (r 39), .ref (r 40), .ref (r 41), .ref (r 42), .int 0, .ref (r 44), .int 0, .int 0, .int 0, .int 0, .int 0, .ref (r 50), .ref (r 51), .ref (r 52), .int 0, .ref (r 54), .int 0, .ref (r 56), .int 0, .int 0, .int 0]))] := hD
  refine lv_aload_n hx hb d65_35 rfl (lv_at hl 0 rfl) ?_
  refine va_get (D := D) (ci := 2) (v := .int (-1)) (C := kR2) (T := kT2) (N := 60) hx hb hts ku2 hown hK hP 0 rfl rfl 9 (by decide) (hts _ ms_k1325) (fun _ h => h) rfl d65_36 ?_
  refine lv_if_ge hx hb d65_39 rfl (fun h9 => absurd h9 (by decide)) (fun _ => ?_)
  refine lv_aload_n hx hb d65_42 rfl (lv_at hl 0 rfl) ?_
  refine va_get (D := D) (ci := 2) (v := .int 0) (C := kR2) (T := kT2) (N := 60) hx hb hts ku2 hown hK hP 0 rfl rfl 8 (by decide) (hts _ ms_k1324) (fun _ h => h) rfl d65_43 ?_
  refine lv_aload_n hx hb d65_46 rfl (lv_at hl 0 rfl) ?_
  refine va_get (D := D) (ci := 2) (v := .int 0) (C := kR2) (T := kT2) (N := 60) hx hb hts ku2 hown hK hP 0 rfl rfl 7 (by decide) (hts _ ms_k1323) (fun _ h => h) rfl d65_47 ?_
  refine lv_icmp_ge hx hb d65_50 rfl (fun _ => ?_) (fun h9 => absurd (by decide) h9)
  refine lv_aload_n hx hb d65_246 rfl (lv_at hl 0 rfl) ?_
  refine va_get (D := D) (ci := 2) (v := .int 0) (C := kR2) (T := kT2) (N := 60) hx hb hts ku2 hown hK hP 0 rfl rfl 14 (by decide) (hts _ ms_k1330) (fun _ h => h) rfl d65_247 ?_
  refine lv_if_gt hx hb d65_250 rfl (fun h9 => absurd h9 (by decide)) (fun _ => ?_)
  refine lv_aload_n hx hb d65_253 rfl (lv_at hl 0 rfl) ?_
  refine va_get (D := D) (ci := 2) (v := .int 0) (C := kR2) (T := kT2) (N := 60) hx hb hts ku2 hown hK hP 0 rfl rfl 10 (by decide) (hts _ ms_k1326) (fun _ h => h) rfl d65_254 ?_
  refine lv_if_ne hx hb d65_257 rfl (fun h9 => absurd h9 (by decide)) (fun _ => ?_)
  refine lv_aload_n hx hb d65_260 rfl (lv_at hl 0 rfl) ?_
  refine lv_aload_n hx hb d65_261 rfl (lv_at hl 0 rfl) ?_
  refine va_get (D := D) (ci := 2) (v := .int 0) (C := kR2) (T := kT2) (N := 60) hx hb hts ku2 hown hK hP 0 rfl rfl 7 (by decide) (hts _ ms_k1323) (fun _ h => h) rfl d65_262 ?_
  refine ms_V (C := "MarkupStoreModel") (rest := []) (as := [.int 0]) X hl (c_merror l D dA s0 hE h r) (List.forall_mem_cons.mpr ⟨ms_k1520, List.forall_mem_cons.mpr ⟨ms_k1522, List.forall_mem_cons.mpr ⟨ms_p47, List.forall_mem_cons.mpr ⟨ms_k7, List.forall_mem_cons.mpr ⟨ms_k1523, fun _ h => absurd h List.not_mem_nil⟩⟩⟩⟩⟩) ⟨rfl, by decide +kernel, by decide +kernel, by decide +kernel⟩ (va_recv hK hP rfl (q0 := 0) rfl) hP hD hS [0] [] rfl rfl ⟨by decide, by decide, by decide⟩ ⟨⟨Nat.le_of_ble_eq_true rfl, Nat.le_of_ble_eq_true rfl⟩, Nat.le_of_ble_eq_true rfl, Nat.le_of_ble_eq_true rfl⟩ rfl (Nat.le_of_ble_eq_true rfl) d65_265 (fun vv ww H locs hR hP hD hS => ?_)
  obtain ⟨rfl, rfl⟩ := hR
  have hP : va_P D vwCl [(h, .inr (2, [.ref (r 0), .ref (r 1), .ref (r 2), .ref (r 3), .int 0, .int 0, .ref (r 6), .int 0, .int 0, .int 0, .int 0, .int 0, .int (-1), .int 0, .int 0, .ref (r 15), .ref (r 16), .ref (r 17), .int 0, .int 0, .ref (r 20), .ref (r 21), .ref (r 22), .int 0, .int 0, .ref (r 25), .ref (r 26), .ref (r 27), .ref (r 28), .ref (r 29), .ref (r 30), .int 0, .ref (r 32), .ref (r 33), .ref (r 34), .ref (r 35), .ref (r 36), .ref (r 37), .ref (r 38), .ref (r 39), .ref (r 40), .ref (r 41), .ref (r 42), .int 0, .ref (r 44), .int 0, .int 0, .int 0, .int 0, .int 0, .ref (r 50), .ref (r 51), .ref (r 52), .int 0, .ref (r 54), .int 0, .ref (r 56), .int 0, .int 0, .int 0]))] H := hP
  have hD : va_D A [(h, .inr (2, [.ref (r 0), .ref (r 1), .ref (r 2), .ref (r 3), .int 0, .int 0, .ref (r 6), .int 0, .int 0, .int 0, .int 0, .int 0, .int (-1), .int 0, .int 0, .ref (r 15), .ref (r 16), .ref (r 17), .int 0, .int 0, .ref (r 20), .ref (r 21), .ref (r 22), .int 0, .int 0, .ref (r 25), .ref (r 26), .ref (r 27), .ref (r 28), .ref (r 29), .ref (r 30), .int 0, .ref (r 32), .ref (r 33), .ref (r 34), .ref (r 35), .ref (r 36), .ref (r 37), .ref (r 38), .ref (r 39), .ref (r 40), .ref (r 41), .ref (r 42), .int 0, .ref (r 44), .int 0, .int 0, .int 0, .int 0, .int 0, .ref (r 50), .ref (r 51), .ref (r 52), .int 0, .ref (r 54), .int 0, .ref (r 56), .int 0, .int 0, .int 0]))] := hD
  refine W.eq (g2 := F0 m 268 ls []) rfl ?_
  exact ms_vret X d65_268 hP hD hS (Nat.le_of_ble_eq_true rfl) (Nat.le_of_ble_eq_true rfl) (⟨rfl, rfl⟩)

set_option maxRecDepth 100000 in
set_option maxHeartbeats 8000000 in
theorem c_loaded (l : Launch) (D : va_G) (dA : Nat → ClassId) (s0 : State) (hE : ms_EV D dA s0) (h : Nat) (r : Nat → Nat) : ms_C l D s0 yM66 bM66 2 (Option.some Jvm.ClassFile.FieldType.int) 2 45 0 0 [.ref h] [(h, .inr (2, [.ref (r 0), .ref (r 1), .ref (r 2), .ref (r 3), .int 0, .int 0, .ref (r 6), .int 0, .int 0, .int 0, .int 0, .int 0, .int 0, .int 0, .int 0, .ref (r 15), .ref (r 16), .ref (r 17), .int 0, .int 0, .ref (r 20), .ref (r 21), .ref (r 22), .int 0, .int 0, .ref (r 25), .ref (r 26), .ref (r 27), .ref (r 28), .ref (r 29), .ref (r 30), .int 0, .ref (r 32), .ref (r 33), .ref (r 34), .ref (r 35), .ref (r 36), .ref (r 37), .ref (r 38), .ref (r 39), .ref (r 40), .ref (r 41), .ref (r 42), .int 0, .ref (r 44), .int 0, .int 0, .int 0, .int 0, .int 0, .ref (r 50), .ref (r 51), .ref (r 52), .int 0, .ref (r 54), .int 0, .ref (r 56), .int 0, .int 0, .int 0]))] (fun vv ww => vv = some (.int (-1)) ∧ ww = [(h, .inr (2, [.ref (r 0), .ref (r 1), .ref (r 2), .ref (r 3), .int 0, .int 0, .ref (r 6), .int 0, .int 0, .int 0, .int 0, .int 0, .int (-1), .int 0, .int 0, .ref (r 15), .ref (r 16), .ref (r 17), .int 0, .int 0, .ref (r 20), .ref (r 21), .ref (r 22), .int 0, .int 0, .ref (r 25), .ref (r 26), .ref (r 27), .ref (r 28), .ref (r 29), .ref (r 30), .int 0, .ref (r 32), .ref (r 33), .ref (r 34), .ref (r 35), .ref (r 36), .ref (r 37), .ref (r 38), .ref (r 39), .ref (r 40), .ref (r 41), .ref (r 42), .int 0, .ref (r 44), .int 0, .int 0, .int 0, .int 0, .int 0, .ref (r 50), .ref (r 51), .ref (r 52), .int 0, .ref (r 54), .int 0, .ref (r 56), .int 0, .int 0, .int 0]))]) := by
  refine ms_C.mk hE.1 (by decide) (Nat.le_of_ble_eq_true rfl) [(0, .ref h)] rfl ?_
  intro p e s m below meth c A ls X hin hP hD hS hl
  have hx := X.1
  have hb := X.2.1
  have hml := X.2.2.1
  have hown : s.vm.findClass "MarkupStoreModel" = some m.cls := X.2.2.2.1
  have hts := X.2.2.2.2.2.2.1
  have hK := X.2.2.2.2.2.2.2.2.1
  have hA := X.2.2.2.2.2.2.2.2.2.2
  refine lv_aload_n hx hb d66_0 rfl (lv_at hl 0 rfl) ?_
  refine lv_iconst (v := 1) hx hb d66_1 (by decide) ?_
  refine lv_iconst (v := 0) hx hb d66_2 (by decide) ?_
  refine ms_V (C := "MarkupStoreModel") (rest := []) (as := [.int 1, .int 0]) X hl (c_parse l D dA s0 hE h r) (List.forall_mem_cons.mpr ⟨ms_k1512, List.forall_mem_cons.mpr ⟨ms_k1514, List.forall_mem_cons.mpr ⟨ms_p45, List.forall_mem_cons.mpr ⟨ms_k7, List.forall_mem_cons.mpr ⟨ms_k1515, fun _ h => absurd h List.not_mem_nil⟩⟩⟩⟩⟩) ⟨rfl, by decide +kernel, by decide +kernel, by decide +kernel⟩ (va_recv hK hP rfl (q0 := 0) rfl) hP hD hS [0] [] rfl rfl ⟨by decide, by decide, by decide⟩ ⟨⟨Nat.le_of_ble_eq_true rfl, Nat.le_of_ble_eq_true rfl⟩, Nat.le_of_ble_eq_true rfl, Nat.le_of_ble_eq_true rfl⟩ rfl (Nat.le_of_ble_eq_true rfl) d66_3 (fun vv ww H locs hR hP hD hS => ?_)
  obtain ⟨rfl, rfl⟩ := hR
  have hP : va_P D vwCl [(h, .inr (2, [.ref (r 0), .ref (r 1), .ref (r 2), .ref (r 3), .int 0, .int 0, .ref (r 6), .int 0, .int 0, .int 0, .int 0, .int 0, .int (-1), .int 0, .int 0, .ref (r 15), .ref (r 16), .ref (r 17), .int 0, .int 0, .ref (r 20), .ref (r 21), .ref (r 22), .int 0, .int 0, .ref (r 25), .ref (r 26), .ref (r 27), .ref (r 28), .ref (r 29), .ref (r 30), .int 0, .ref (r 32), .ref (r 33), .ref (r 34), .ref (r 35), .ref (r 36), .ref (r 37), .ref (r 38), .ref (r 39), .ref (r 40), .ref (r 41), .ref (r 42), .int 0, .ref (r 44), .int 0, .int 0, .int 0, .int 0, .int 0, .ref (r 50), .ref (r 51), .ref (r 52), .int 0, .ref (r 54), .int 0, .ref (r 56), .int 0, .int 0, .int 0]))] H := hP
  have hD : va_D A [(h, .inr (2, [.ref (r 0), .ref (r 1), .ref (r 2), .ref (r 3), .int 0, .int 0, .ref (r 6), .int 0, .int 0, .int 0, .int 0, .int 0, .int (-1), .int 0, .int 0, .ref (r 15), .ref (r 16), .ref (r 17), .int 0, .int 0, .ref (r 20), .ref (r 21), .ref (r 22), .int 0, .int 0, .ref (r 25), .ref (r 26), .ref (r 27), .ref (r 28), .ref (r 29), .ref (r 30), .int 0, .ref (r 32), .ref (r 33), .ref (r 34), .ref (r 35), .ref (r 36), .ref (r 37), .ref (r 38), .ref (r 39), .ref (r 40), .ref (r 41), .ref (r 42), .int 0, .ref (r 44), .int 0, .int 0, .int 0, .int 0, .int 0, .ref (r 50), .ref (r 51), .ref (r 52), .int 0, .ref (r 54), .int 0, .ref (r 56), .int 0, .int 0, .int 0]))] := hD
  refine W.eq (g2 := F0 m 6 ls []) rfl ?_
  refine lv_aload_n hx hb d66_6 rfl (lv_at hl 0 rfl) ?_
  refine va_get (D := D) (ci := 2) (v := .int 0) (C := kR2) (T := kT2) (N := 60) hx hb hts ku2 hown hK hP 0 rfl rfl 9 (by decide) (hts _ ms_k1325) (fun _ h => h) rfl d66_7 ?_
  refine lv_if_lt hx hb d66_10 rfl (fun h9 => absurd h9 (by decide)) (fun _ => ?_)
  refine lv_iconst (v := (-1)) hx hb d66_13 (by decide) ?_
  refine lv_aload_n hx hb d66_14 rfl (lv_at hl 0 rfl) ?_
  refine va_get (D := D) (ci := 2) (v := .int 0) (C := kR2) (T := kT2) (N := 60) hx hb hts ku2 hown hK hP 0 rfl rfl 9 (by decide) (hts _ ms_k1325) (fun _ h => h) rfl d66_15 ?_
  refine lv_isub hx hb d66_18 ?_
  refine ms_top (y := (-1)) (by decide) ?_
  exact ms_iret X d66_19 hP hD hS (Nat.le_of_ble_eq_true rfl) (Nat.le_of_ble_eq_true rfl) (⟨rfl, rfl⟩)

set_option maxRecDepth 100000 in
set_option maxHeartbeats 8000000 in
theorem c_mload (l : Launch) (D : va_G) (dA : Nat → ClassId) (s0 : State) (hE : ms_EV D dA s0) (h : Nat) (r : Nat → Nat) : ms_C l D s0 yM67 bM67 2 (Option.some Jvm.ClassFile.FieldType.int) 3 66 0 0 [.ref h] [(h, .inr (2, [.ref (r 0), .ref (r 1), .ref (r 2), .ref (r 3), .int 0, .int 0, .ref (r 6), .int 0, .int 0, .int 0, .int 0, .int 0, .int 0, .int 0, .int 0, .ref (r 15), .ref (r 16), .ref (r 17), .int 0, .int 0, .ref (r 20), .ref (r 21), .ref (r 22), .int 0, .int 0, .ref (r 25), .ref (r 26), .ref (r 27), .ref (r 28), .ref (r 29), .ref (r 30), .int 0, .ref (r 32), .ref (r 33), .ref (r 34), .ref (r 35), .ref (r 36), .ref (r 37), .ref (r 38), .ref (r 39), .ref (r 40), .ref (r 41), .ref (r 42), .int 0, .ref (r 44), .int 0, .int 0, .int 0, .int 0, .int 0, .ref (r 50), .ref (r 51), .ref (r 52), .int 0, .ref (r 54), .int 0, .ref (r 56), .int 0, .int 0, .int 0]))] (fun vv _ => vv = some (.int (-1))) := by
  refine ms_C.mk hE.1 (by decide) (Nat.le_of_ble_eq_true rfl) [(0, .ref h)] rfl ?_
  intro p e s m below meth c A ls X hin hP hD hS hl
  have hx := X.1
  have hb := X.2.1
  have hml := X.2.2.1
  have hown : s.vm.findClass "MarkupStoreModel" = some m.cls := X.2.2.2.1
  have hts := X.2.2.2.2.2.2.1
  have hK := X.2.2.2.2.2.2.2.2.1
  have hA := X.2.2.2.2.2.2.2.2.2.2
  refine lv_aload_n hx hb d67_0 rfl (lv_at hl 0 rfl) ?_
  refine ms_V (C := "MarkupStoreModel") (rest := []) (as := []) X hl (c_loaded l D dA s0 hE h r) (List.forall_mem_cons.mpr ⟨ms_k1508, List.forall_mem_cons.mpr ⟨ms_k1510, List.forall_mem_cons.mpr ⟨ms_p44, List.forall_mem_cons.mpr ⟨ms_k7, List.forall_mem_cons.mpr ⟨ms_k1511, fun _ h => absurd h List.not_mem_nil⟩⟩⟩⟩⟩) ⟨rfl, by decide +kernel, by decide +kernel, by decide +kernel⟩ (va_recv hK hP rfl (q0 := 0) rfl) hP hD hS [0] [] rfl rfl ⟨by decide, by decide, by decide⟩ ⟨⟨Nat.le_of_ble_eq_true rfl, Nat.le_of_ble_eq_true rfl⟩, Nat.le_of_ble_eq_true rfl, Nat.le_of_ble_eq_true rfl⟩ rfl (Nat.le_of_ble_eq_true rfl) d67_1 (fun vv ww H locs hR hP hD hS => ?_)
  obtain ⟨rfl, rfl⟩ := hR
  have hP : va_P D vwCl [(h, .inr (2, [.ref (r 0), .ref (r 1), .ref (r 2), .ref (r 3), .int 0, .int 0, .ref (r 6), .int 0, .int 0, .int 0, .int 0, .int 0, .int (-1), .int 0, .int 0, .ref (r 15), .ref (r 16), .ref (r 17), .int 0, .int 0, .ref (r 20), .ref (r 21), .ref (r 22), .int 0, .int 0, .ref (r 25), .ref (r 26), .ref (r 27), .ref (r 28), .ref (r 29), .ref (r 30), .int 0, .ref (r 32), .ref (r 33), .ref (r 34), .ref (r 35), .ref (r 36), .ref (r 37), .ref (r 38), .ref (r 39), .ref (r 40), .ref (r 41), .ref (r 42), .int 0, .ref (r 44), .int 0, .int 0, .int 0, .int 0, .int 0, .ref (r 50), .ref (r 51), .ref (r 52), .int 0, .ref (r 54), .int 0, .ref (r 56), .int 0, .int 0, .int 0]))] H := hP
  have hD : va_D A [(h, .inr (2, [.ref (r 0), .ref (r 1), .ref (r 2), .ref (r 3), .int 0, .int 0, .ref (r 6), .int 0, .int 0, .int 0, .int 0, .int 0, .int (-1), .int 0, .int 0, .ref (r 15), .ref (r 16), .ref (r 17), .int 0, .int 0, .ref (r 20), .ref (r 21), .ref (r 22), .int 0, .int 0, .ref (r 25), .ref (r 26), .ref (r 27), .ref (r 28), .ref (r 29), .ref (r 30), .int 0, .ref (r 32), .ref (r 33), .ref (r 34), .ref (r 35), .ref (r 36), .ref (r 37), .ref (r 38), .ref (r 39), .ref (r 40), .ref (r 41), .ref (r 42), .int 0, .ref (r 44), .int 0, .int 0, .int 0, .int 0, .int 0, .ref (r 50), .ref (r 51), .ref (r 52), .int 0, .ref (r 54), .int 0, .ref (r 56), .int 0, .int 0, .int 0]))] := hD
  refine W.eq (g2 := F0 m 4 ls [.int (-1)]) rfl ?_
  refine lv_istore_n hx hb d67_4 rfl hl (by decide) rfl (fun ls hl => ?_)
  have hl : lv_has ls 2 [(1, .int (-1)), (0, .ref h)] := hl
  refine lv_aload_n hx hb d67_5 rfl (lv_at hl 1 rfl) ?_
  refine lv_iconst (v := 0) hx hb d67_6 (by decide) ?_
  refine va_put (D := D) (ci := 2) (v := .int 0) (ty := .int) (C := kR2) (T := kT2) (N := 60) hx hb hts ku2 kt2 kp2 kn2 hown hK hP hD hS 0 rfl rfl 7 (by decide) (hts _ ms_k1323) (fun _ h => h) rfl (by decide +kernel) rfl rfl (Nat.le_of_ble_eq_true rfl) d67_7 (fun H locs hP hD hS => ?_)
  have hP : va_P D vwCl [(h, .inr (2, [.ref (r 0), .ref (r 1), .ref (r 2), .ref (r 3), .int 0, .int 0, .ref (r 6), .int 0, .int 0, .int 0, .int 0, .int 0, .int (-1), .int 0, .int 0, .ref (r 15), .ref (r 16), .ref (r 17), .int 0, .int 0, .ref (r 20), .ref (r 21), .ref (r 22), .int 0, .int 0, .ref (r 25), .ref (r 26), .ref (r 27), .ref (r 28), .ref (r 29), .ref (r 30), .int 0, .ref (r 32), .ref (r 33), .ref (r 34), .ref (r 35), .ref (r 36), .ref (r 37), .ref (r 38), .ref (r 39), .ref (r 40), .ref (r 41), .ref (r 42), .int 0, .ref (r 44), .int 0, .int 0, .int 0, .int 0, .int 0, .ref (r 50), .ref (r 51), .ref (r 52), .int 0, .ref (r 54), .int 0, .ref (r 56), .int 0, .int 0, .int 0]))] H := hP
  have hD : va_D A [(h, .inr (2, [.ref (r 0), .ref (r 1), .ref (r 2), .ref (r 3), .int 0, .int 0, .ref (r 6), .int 0, .int 0, .int 0, .int 0, .int 0, .int (-1), .int 0, .int 0, .ref (r 15), .ref (r 16), .ref (r 17), .int 0, .int 0, .ref (r 20), .ref (r 21), .ref (r 22), .int 0, .int 0, .ref (r 25), .ref (r 26), .ref (r 27), .ref (r 28), .ref (r 29), .ref (r 30), .int 0, .ref (r 32), .ref (r 33), .ref (r 34), .ref (r 35), .ref (r 36), .ref (r 37), .ref (r 38), .ref (r 39), .ref (r 40), .ref (r 41), .ref (r 42), .int 0, .ref (r 44), .int 0, .int 0, .int 0, .int 0, .int 0, .ref (r 50), .ref (r 51), .ref (r 52), .int 0, .ref (r 54), .int 0, .ref (r 56), .int 0, .int 0, .int 0]))] := hD
  refine lv_iload_n hx hb d67_10 rfl (lv_at hl 0 rfl) ?_
  exact ms_iret X d67_11 hP hD hS (Nat.le_of_ble_eq_true rfl) (Nat.le_of_ble_eq_true rfl) rfl

set_option maxRecDepth 100000 in
set_option maxHeartbeats 8000000 in
theorem c_minsert (l : Launch) (D : va_G) (dA : Nat → ClassId) (s0 : State) (hE : ms_EV D dA s0) (h : Nat) (r : Nat → Nat) (i : Int32) (j : Int32) : ms_C l D s0 yM68 bM68 5 (Option.some Jvm.ClassFile.FieldType.int) 2 42 0 0 [.ref h, .int i, .int j] [(h, .inr (2, [.ref (r 0), .ref (r 1), .ref (r 2), .ref (r 3), .int 0, .int 0, .ref (r 6), .int 0, .int 0, .int 0, .int 0, .int 0, .int 0, .int 0, .int 0, .ref (r 15), .ref (r 16), .ref (r 17), .int 0, .int 0, .ref (r 20), .ref (r 21), .ref (r 22), .int 0, .int 0, .ref (r 25), .ref (r 26), .ref (r 27), .ref (r 28), .ref (r 29), .ref (r 30), .int 0, .ref (r 32), .ref (r 33), .ref (r 34), .ref (r 35), .ref (r 36), .ref (r 37), .ref (r 38), .ref (r 39), .ref (r 40), .ref (r 41), .ref (r 42), .int 0, .ref (r 44), .int 0, .int 0, .int 0, .int 0, .int 0, .ref (r 50), .ref (r 51), .ref (r 52), .int 0, .ref (r 54), .int 0, .ref (r 56), .int 0, .int 0, .int 0])), ((r 0), .inl (dA 0, 5161, .inl (fun _ => 0)))] (fun vv _ => vv = some (.int (-1000))) := by
  refine ms_C.mk hE.1 (by decide) (Nat.le_of_ble_eq_true rfl) [(0, .ref h), (1, .int i), (2, .int j)] rfl ?_
  intro p e s m below meth c A ls X hin hP hD hS hl
  have hx := X.1
  have hb := X.2.1
  have hml := X.2.2.1
  have hown : s.vm.findClass "MarkupStoreModel" = some m.cls := X.2.2.2.1
  have hts := X.2.2.2.2.2.2.1
  have hK := X.2.2.2.2.2.2.2.2.1
  have hA := X.2.2.2.2.2.2.2.2.2.2
  refine lv_aload_n hx hb d68_0 rfl (lv_at hl 0 rfl) ?_
  refine lv_iload_n hx hb d68_1 rfl (lv_at hl 1 rfl) ?_
  refine ms_V (C := "MarkupStoreModel") (rest := []) (as := [.int i]) X hl (c_place l D dA s0 hE h r i) (List.forall_mem_cons.mpr ⟨ms_k1603, List.forall_mem_cons.mpr ⟨ms_k1605, List.forall_mem_cons.mpr ⟨ms_p66, List.forall_mem_cons.mpr ⟨ms_k7, List.forall_mem_cons.mpr ⟨ms_k1606, fun _ h => absurd h List.not_mem_nil⟩⟩⟩⟩⟩) ⟨rfl, by decide +kernel, by decide +kernel, by decide +kernel⟩ (va_recv hK hP rfl (q0 := 0) rfl) hP hD hS [0, 1] [] rfl rfl ⟨by decide, by decide, by decide⟩ ⟨⟨Nat.le_of_ble_eq_true rfl, Nat.le_of_ble_eq_true rfl⟩, Nat.le_of_ble_eq_true rfl, Nat.le_of_ble_eq_true rfl⟩ rfl (Nat.le_of_ble_eq_true rfl) d68_2 (fun vv ww H locs hR hP hD hS => ?_)
  obtain ⟨rfl, rfl⟩ := hR
  have hP : va_P D vwCl [(h, .inr (2, [.ref (r 0), .ref (r 1), .ref (r 2), .ref (r 3), .int 0, .int 0, .ref (r 6), .int 0, .int 0, .int 0, .int 0, .int 0, .int 0, .int 0, .int 0, .ref (r 15), .ref (r 16), .ref (r 17), .int 0, .int 0, .ref (r 20), .ref (r 21), .ref (r 22), .int 0, .int 0, .ref (r 25), .ref (r 26), .ref (r 27), .ref (r 28), .ref (r 29), .ref (r 30), .int 0, .ref (r 32), .ref (r 33), .ref (r 34), .ref (r 35), .ref (r 36), .ref (r 37), .ref (r 38), .ref (r 39), .ref (r 40), .ref (r 41), .ref (r 42), .int 0, .ref (r 44), .int 0, .int 0, .int 0, .int 0, .int 0, .ref (r 50), .ref (r 51), .ref (r 52), .int 0, .ref (r 54), .int 0, .ref (r 56), .int 0, .int 0, .int 0])), ((r 0), .inl (dA 0, 5161, .inl (fun _ => 0)))] H := hP
  have hD : va_D A [(h, .inr (2, [.ref (r 0), .ref (r 1), .ref (r 2), .ref (r 3), .int 0, .int 0, .ref (r 6), .int 0, .int 0, .int 0, .int 0, .int 0, .int 0, .int 0, .int 0, .ref (r 15), .ref (r 16), .ref (r 17), .int 0, .int 0, .ref (r 20), .ref (r 21), .ref (r 22), .int 0, .int 0, .ref (r 25), .ref (r 26), .ref (r 27), .ref (r 28), .ref (r 29), .ref (r 30), .int 0, .ref (r 32), .ref (r 33), .ref (r 34), .ref (r 35), .ref (r 36), .ref (r 37), .ref (r 38), .ref (r 39), .ref (r 40), .ref (r 41), .ref (r 42), .int 0, .ref (r 44), .int 0, .int 0, .int 0, .int 0, .int 0, .ref (r 50), .ref (r 51), .ref (r 52), .int 0, .ref (r 54), .int 0, .ref (r 56), .int 0, .int 0, .int 0])), ((r 0), .inl (dA 0, 5161, .inl (fun _ => 0)))] := hD
  refine W.eq (g2 := F0 m 5 ls [.int (-1)]) rfl ?_
  refine lv_istore_n hx hb d68_5 rfl hl (by decide) rfl (fun ls hl => ?_)
  have hl : lv_has ls 5 [(3, .int (-1)), (0, .ref h), (1, .int i), (2, .int j)] := hl
  refine lv_iload_n hx hb d68_6 rfl (lv_at hl 0 rfl) ?_
  refine lv_if_ge hx hb d68_7 rfl (fun h9 => absurd h9 (by decide)) (fun _ => ?_)
  refine lv_sipush (v := (-1000)) hx hb d68_10 (by decide) ?_
  refine lv_goto hx hb d68_13 rfl ?_
  refine lv_istore hx hb d68_22 hl (by decide) rfl (fun ls hl => ?_)
  have hl : lv_has ls 5 [(4, .int (-1000)), (3, .int (-1)), (0, .ref h), (1, .int i), (2, .int j)] := hl
  refine lv_aload_n hx hb d68_24 rfl (lv_at hl 2 rfl) ?_
  refine lv_iconst (v := 0) hx hb d68_25 (by decide) ?_
  refine va_put (D := D) (ci := 2) (v := .int 0) (ty := .int) (C := kR2) (T := kT2) (N := 60) hx hb hts ku2 kt2 kp2 kn2 hown hK hP hD hS 0 rfl rfl 7 (by decide) (hts _ ms_k1323) (fun _ h => h) rfl (by decide +kernel) rfl rfl (Nat.le_of_ble_eq_true rfl) d68_26 (fun H locs hP hD hS => ?_)
  have hP : va_P D vwCl [(h, .inr (2, [.ref (r 0), .ref (r 1), .ref (r 2), .ref (r 3), .int 0, .int 0, .ref (r 6), .int 0, .int 0, .int 0, .int 0, .int 0, .int 0, .int 0, .int 0, .ref (r 15), .ref (r 16), .ref (r 17), .int 0, .int 0, .ref (r 20), .ref (r 21), .ref (r 22), .int 0, .int 0, .ref (r 25), .ref (r 26), .ref (r 27), .ref (r 28), .ref (r 29), .ref (r 30), .int 0, .ref (r 32), .ref (r 33), .ref (r 34), .ref (r 35), .ref (r 36), .ref (r 37), .ref (r 38), .ref (r 39), .ref (r 40), .ref (r 41), .ref (r 42), .int 0, .ref (r 44), .int 0, .int 0, .int 0, .int 0, .int 0, .ref (r 50), .ref (r 51), .ref (r 52), .int 0, .ref (r 54), .int 0, .ref (r 56), .int 0, .int 0, .int 0])), ((r 0), .inl (dA 0, 5161, .inl (fun _ => 0)))] H := hP
  have hD : va_D A [(h, .inr (2, [.ref (r 0), .ref (r 1), .ref (r 2), .ref (r 3), .int 0, .int 0, .ref (r 6), .int 0, .int 0, .int 0, .int 0, .int 0, .int 0, .int 0, .int 0, .ref (r 15), .ref (r 16), .ref (r 17), .int 0, .int 0, .ref (r 20), .ref (r 21), .ref (r 22), .int 0, .int 0, .ref (r 25), .ref (r 26), .ref (r 27), .ref (r 28), .ref (r 29), .ref (r 30), .int 0, .ref (r 32), .ref (r 33), .ref (r 34), .ref (r 35), .ref (r 36), .ref (r 37), .ref (r 38), .ref (r 39), .ref (r 40), .ref (r 41), .ref (r 42), .int 0, .ref (r 44), .int 0, .int 0, .int 0, .int 0, .int 0, .ref (r 50), .ref (r 51), .ref (r 52), .int 0, .ref (r 54), .int 0, .ref (r 56), .int 0, .int 0, .int 0])), ((r 0), .inl (dA 0, 5161, .inl (fun _ => 0)))] := hD
  refine lv_iload hx hb d68_29 (lv_at hl 0 rfl) ?_
  exact ms_iret X d68_31 hP hD hS (Nat.le_of_ble_eq_true rfl) (Nat.le_of_ble_eq_true rfl) rfl

set_option maxRecDepth 100000 in
set_option maxHeartbeats 8000000 in
theorem c_mremove (l : Launch) (D : va_G) (dA : Nat → ClassId) (s0 : State) (hE : ms_EV D dA s0) (h : Nat) (r : Nat → Nat) (i : Int32) : ms_C l D s0 yM69 bM69 11 (Option.some Jvm.ClassFile.FieldType.int) 2 42 0 0 [.ref h, .int i] [(h, .inr (2, [.ref (r 0), .ref (r 1), .ref (r 2), .ref (r 3), .int 0, .int 0, .ref (r 6), .int 0, .int 0, .int 0, .int 0, .int 0, .int 0, .int 0, .int 0, .ref (r 15), .ref (r 16), .ref (r 17), .int 0, .int 0, .ref (r 20), .ref (r 21), .ref (r 22), .int 0, .int 0, .ref (r 25), .ref (r 26), .ref (r 27), .ref (r 28), .ref (r 29), .ref (r 30), .int 0, .ref (r 32), .ref (r 33), .ref (r 34), .ref (r 35), .ref (r 36), .ref (r 37), .ref (r 38), .ref (r 39), .ref (r 40), .ref (r 41), .ref (r 42), .int 0, .ref (r 44), .int 0, .int 0, .int 0, .int 0, .int 0, .ref (r 50), .ref (r 51), .ref (r 52), .int 0, .ref (r 54), .int 0, .ref (r 56), .int 0, .int 0, .int 0])), ((r 0), .inl (dA 0, 5161, .inl (fun _ => 0)))] (fun vv _ => vv = some (.int (-1000))) := by
  refine ms_C.mk hE.1 (by decide) (Nat.le_of_ble_eq_true rfl) [(0, .ref h), (1, .int i)] rfl ?_
  intro p e s m below meth c A ls X hin hP hD hS hl
  have hx := X.1
  have hb := X.2.1
  have hml := X.2.2.1
  have hown : s.vm.findClass "MarkupStoreModel" = some m.cls := X.2.2.2.1
  have hts := X.2.2.2.2.2.2.1
  have hK := X.2.2.2.2.2.2.2.2.1
  have hA := X.2.2.2.2.2.2.2.2.2.2
  refine lv_aload_n hx hb d69_0 rfl (lv_at hl 0 rfl) ?_
  refine lv_iload_n hx hb d69_1 rfl (lv_at hl 1 rfl) ?_
  refine ms_V (C := "MarkupStoreModel") (rest := []) (as := [.int i]) X hl (c_place l D dA s0 hE h r i) (List.forall_mem_cons.mpr ⟨ms_k1603, List.forall_mem_cons.mpr ⟨ms_k1605, List.forall_mem_cons.mpr ⟨ms_p66, List.forall_mem_cons.mpr ⟨ms_k7, List.forall_mem_cons.mpr ⟨ms_k1606, fun _ h => absurd h List.not_mem_nil⟩⟩⟩⟩⟩) ⟨rfl, by decide +kernel, by decide +kernel, by decide +kernel⟩ (va_recv hK hP rfl (q0 := 0) rfl) hP hD hS [0, 1] [] rfl rfl ⟨by decide, by decide, by decide⟩ ⟨⟨Nat.le_of_ble_eq_true rfl, Nat.le_of_ble_eq_true rfl⟩, Nat.le_of_ble_eq_true rfl, Nat.le_of_ble_eq_true rfl⟩ rfl (Nat.le_of_ble_eq_true rfl) d69_2 (fun vv ww H locs hR hP hD hS => ?_)
  obtain ⟨rfl, rfl⟩ := hR
  have hP : va_P D vwCl [(h, .inr (2, [.ref (r 0), .ref (r 1), .ref (r 2), .ref (r 3), .int 0, .int 0, .ref (r 6), .int 0, .int 0, .int 0, .int 0, .int 0, .int 0, .int 0, .int 0, .ref (r 15), .ref (r 16), .ref (r 17), .int 0, .int 0, .ref (r 20), .ref (r 21), .ref (r 22), .int 0, .int 0, .ref (r 25), .ref (r 26), .ref (r 27), .ref (r 28), .ref (r 29), .ref (r 30), .int 0, .ref (r 32), .ref (r 33), .ref (r 34), .ref (r 35), .ref (r 36), .ref (r 37), .ref (r 38), .ref (r 39), .ref (r 40), .ref (r 41), .ref (r 42), .int 0, .ref (r 44), .int 0, .int 0, .int 0, .int 0, .int 0, .ref (r 50), .ref (r 51), .ref (r 52), .int 0, .ref (r 54), .int 0, .ref (r 56), .int 0, .int 0, .int 0])), ((r 0), .inl (dA 0, 5161, .inl (fun _ => 0)))] H := hP
  have hD : va_D A [(h, .inr (2, [.ref (r 0), .ref (r 1), .ref (r 2), .ref (r 3), .int 0, .int 0, .ref (r 6), .int 0, .int 0, .int 0, .int 0, .int 0, .int 0, .int 0, .int 0, .ref (r 15), .ref (r 16), .ref (r 17), .int 0, .int 0, .ref (r 20), .ref (r 21), .ref (r 22), .int 0, .int 0, .ref (r 25), .ref (r 26), .ref (r 27), .ref (r 28), .ref (r 29), .ref (r 30), .int 0, .ref (r 32), .ref (r 33), .ref (r 34), .ref (r 35), .ref (r 36), .ref (r 37), .ref (r 38), .ref (r 39), .ref (r 40), .ref (r 41), .ref (r 42), .int 0, .ref (r 44), .int 0, .int 0, .int 0, .int 0, .int 0, .ref (r 50), .ref (r 51), .ref (r 52), .int 0, .ref (r 54), .int 0, .ref (r 56), .int 0, .int 0, .int 0])), ((r 0), .inl (dA 0, 5161, .inl (fun _ => 0)))] := hD
  refine W.eq (g2 := F0 m 5 ls [.int (-1)]) rfl ?_
  refine lv_istore_n hx hb d69_5 rfl hl (by decide) rfl (fun ls hl => ?_)
  have hl : lv_has ls 11 [(2, .int (-1)), (0, .ref h), (1, .int i)] := hl
  refine lv_iload_n hx hb d69_6 rfl (lv_at hl 0 rfl) ?_
  refine lv_if_lt hx hb d69_7 rfl (fun _ => ?_) (fun h9 => absurd (by decide) h9)
  refine lv_iload_n hx hb d69_19 rfl (lv_at hl 0 rfl) ?_
  refine lv_if_ge hx hb d69_20 rfl (fun h9 => absurd h9 (by decide)) (fun _ => ?_)
  refine lv_sipush (v := (-1000)) hx hb d69_23 (by decide) ?_
  refine lv_goto hx hb d69_26 rfl ?_
  exact ms_iret X d69_32 hP hD hS (Nat.le_of_ble_eq_true rfl) (Nat.le_of_ble_eq_true rfl) rfl

set_option maxRecDepth 100000 in
set_option maxHeartbeats 8000000 in
theorem c_mreplace (l : Launch) (D : va_G) (dA : Nat → ClassId) (s0 : State) (hE : ms_EV D dA s0) (h : Nat) (r : Nat → Nat) (i : Int32) : ms_C l D s0 yM70 bM70 5 (Option.some Jvm.ClassFile.FieldType.boolean) 2 42 0 0 [.ref h, .int i] [(h, .inr (2, [.ref (r 0), .ref (r 1), .ref (r 2), .ref (r 3), .int 0, .int 0, .ref (r 6), .int 0, .int 0, .int 0, .int 0, .int 0, .int 0, .int 0, .int 0, .ref (r 15), .ref (r 16), .ref (r 17), .int 0, .int 0, .ref (r 20), .ref (r 21), .ref (r 22), .int 0, .int 0, .ref (r 25), .ref (r 26), .ref (r 27), .ref (r 28), .ref (r 29), .ref (r 30), .int 0, .ref (r 32), .ref (r 33), .ref (r 34), .ref (r 35), .ref (r 36), .ref (r 37), .ref (r 38), .ref (r 39), .ref (r 40), .ref (r 41), .ref (r 42), .int 0, .ref (r 44), .int 0, .int 0, .int 0, .int 0, .int 0, .ref (r 50), .ref (r 51), .ref (r 52), .int 0, .ref (r 54), .int 0, .ref (r 56), .int 0, .int 0, .int 0])), ((r 0), .inl (dA 0, 5161, .inl (fun _ => 0)))] (fun vv _ => vv = some (.int 0)) := by
  refine ms_C.mk hE.1 (by decide) (Nat.le_of_ble_eq_true rfl) [(0, .ref h), (1, .int i)] rfl ?_
  intro p e s m below meth c A ls X hin hP hD hS hl
  have hx := X.1
  have hb := X.2.1
  have hml := X.2.2.1
  have hown : s.vm.findClass "MarkupStoreModel" = some m.cls := X.2.2.2.1
  have hts := X.2.2.2.2.2.2.1
  have hK := X.2.2.2.2.2.2.2.2.1
  have hA := X.2.2.2.2.2.2.2.2.2.2
  refine lv_aload_n hx hb d70_0 rfl (lv_at hl 0 rfl) ?_
  refine lv_iload_n hx hb d70_1 rfl (lv_at hl 1 rfl) ?_
  refine ms_V (C := "MarkupStoreModel") (rest := []) (as := [.int i]) X hl (c_place l D dA s0 hE h r i) (List.forall_mem_cons.mpr ⟨ms_k1603, List.forall_mem_cons.mpr ⟨ms_k1605, List.forall_mem_cons.mpr ⟨ms_p66, List.forall_mem_cons.mpr ⟨ms_k7, List.forall_mem_cons.mpr ⟨ms_k1606, fun _ h => absurd h List.not_mem_nil⟩⟩⟩⟩⟩) ⟨rfl, by decide +kernel, by decide +kernel, by decide +kernel⟩ (va_recv hK hP rfl (q0 := 0) rfl) hP hD hS [0, 1] [] rfl rfl ⟨by decide, by decide, by decide⟩ ⟨⟨Nat.le_of_ble_eq_true rfl, Nat.le_of_ble_eq_true rfl⟩, Nat.le_of_ble_eq_true rfl, Nat.le_of_ble_eq_true rfl⟩ rfl (Nat.le_of_ble_eq_true rfl) d70_2 (fun vv ww H locs hR hP hD hS => ?_)
  obtain ⟨rfl, rfl⟩ := hR
  have hP : va_P D vwCl [(h, .inr (2, [.ref (r 0), .ref (r 1), .ref (r 2), .ref (r 3), .int 0, .int 0, .ref (r 6), .int 0, .int 0, .int 0, .int 0, .int 0, .int 0, .int 0, .int 0, .ref (r 15), .ref (r 16), .ref (r 17), .int 0, .int 0, .ref (r 20), .ref (r 21), .ref (r 22), .int 0, .int 0, .ref (r 25), .ref (r 26), .ref (r 27), .ref (r 28), .ref (r 29), .ref (r 30), .int 0, .ref (r 32), .ref (r 33), .ref (r 34), .ref (r 35), .ref (r 36), .ref (r 37), .ref (r 38), .ref (r 39), .ref (r 40), .ref (r 41), .ref (r 42), .int 0, .ref (r 44), .int 0, .int 0, .int 0, .int 0, .int 0, .ref (r 50), .ref (r 51), .ref (r 52), .int 0, .ref (r 54), .int 0, .ref (r 56), .int 0, .int 0, .int 0])), ((r 0), .inl (dA 0, 5161, .inl (fun _ => 0)))] H := hP
  have hD : va_D A [(h, .inr (2, [.ref (r 0), .ref (r 1), .ref (r 2), .ref (r 3), .int 0, .int 0, .ref (r 6), .int 0, .int 0, .int 0, .int 0, .int 0, .int 0, .int 0, .int 0, .ref (r 15), .ref (r 16), .ref (r 17), .int 0, .int 0, .ref (r 20), .ref (r 21), .ref (r 22), .int 0, .int 0, .ref (r 25), .ref (r 26), .ref (r 27), .ref (r 28), .ref (r 29), .ref (r 30), .int 0, .ref (r 32), .ref (r 33), .ref (r 34), .ref (r 35), .ref (r 36), .ref (r 37), .ref (r 38), .ref (r 39), .ref (r 40), .ref (r 41), .ref (r 42), .int 0, .ref (r 44), .int 0, .int 0, .int 0, .int 0, .int 0, .ref (r 50), .ref (r 51), .ref (r 52), .int 0, .ref (r 54), .int 0, .ref (r 56), .int 0, .int 0, .int 0])), ((r 0), .inl (dA 0, 5161, .inl (fun _ => 0)))] := hD
  refine W.eq (g2 := F0 m 5 ls [.int (-1)]) rfl ?_
  refine lv_istore_n hx hb d70_5 rfl hl (by decide) rfl (fun ls hl => ?_)
  have hl : lv_has ls 5 [(2, .int (-1)), (0, .ref h), (1, .int i)] := hl
  refine lv_iload_n hx hb d70_6 rfl (lv_at hl 0 rfl) ?_
  refine lv_if_lt hx hb d70_7 rfl (fun _ => ?_) (fun h9 => absurd (by decide) h9)
  refine lv_iconst (v := 0) hx hb d70_30 (by decide) ?_
  refine lv_istore_n hx hb d70_31 rfl hl (by decide) rfl (fun ls hl => ?_)
  have hl : lv_has ls 5 [(3, .int 0), (2, .int (-1)), (0, .ref h), (1, .int i)] := hl
  refine lv_iload_n hx hb d70_32 rfl (lv_at hl 0 rfl) ?_
  refine lv_if_eq hx hb d70_33 rfl (fun _ => ?_) (fun h9 => absurd (by decide) h9)
  refine lv_iconst (v := 0) hx hb d70_64 (by decide) ?_
  refine lv_istore hx hb d70_65 hl (by decide) rfl (fun ls hl => ?_)
  have hl : lv_has ls 5 [(4, .int 0), (3, .int 0), (2, .int (-1)), (0, .ref h), (1, .int i)] := hl
  refine lv_iload hx hb d70_67 (lv_at hl 0 rfl) ?_
  refine lv_aload_n hx hb d70_69 rfl (lv_at hl 3 rfl) ?_
  refine va_get (D := D) (ci := 2) (v := .int 0) (C := kR2) (T := kT2) (N := 60) hx hb hts ku2 hown hK hP 0 rfl rfl 7 (by decide) (hts _ ms_k1323) (fun _ h => h) rfl d70_70 ?_
  refine lv_icmp_ge hx hb d70_73 rfl (fun _ => ?_) (fun h9 => absurd (by decide) h9)
  refine lv_iconst (v := 0) hx hb d70_137 (by decide) ?_
  refine lv_istore hx hb d70_138 hl (by decide) rfl (fun ls hl => ?_)
  have hl : lv_has ls 5 [(4, .int 0), (3, .int 0), (2, .int (-1)), (0, .ref h), (1, .int i)] := hl
  refine lv_iload hx hb d70_140 (lv_at hl 0 rfl) ?_
  refine lv_aload_n hx hb d70_142 rfl (lv_at hl 3 rfl) ?_
  refine va_get (D := D) (ci := 2) (v := .int 0) (C := kR2) (T := kT2) (N := 60) hx hb hts ku2 hown hK hP 0 rfl rfl 7 (by decide) (hts _ ms_k1323) (fun _ h => h) rfl d70_143 ?_
  refine lv_icmp_ge hx hb d70_146 rfl (fun _ => ?_) (fun h9 => absurd (by decide) h9)
  refine lv_iload_n hx hb d70_175 rfl (lv_at hl 1 rfl) ?_
  refine lv_if_eq hx hb d70_176 rfl (fun _ => ?_) (fun h9 => absurd (by decide) h9)
  refine lv_aload_n hx hb d70_199 rfl (lv_at hl 3 rfl) ?_
  refine lv_iconst (v := 0) hx hb d70_200 (by decide) ?_
  refine va_put (D := D) (ci := 2) (v := .int 0) (ty := .int) (C := kR2) (T := kT2) (N := 60) hx hb hts ku2 kt2 kp2 kn2 hown hK hP hD hS 0 rfl rfl 7 (by decide) (hts _ ms_k1323) (fun _ h => h) rfl (by decide +kernel) rfl rfl (Nat.le_of_ble_eq_true rfl) d70_201 (fun H locs hP hD hS => ?_)
  have hP : va_P D vwCl [(h, .inr (2, [.ref (r 0), .ref (r 1), .ref (r 2), .ref (r 3), .int 0, .int 0, .ref (r 6), .int 0, .int 0, .int 0, .int 0, .int 0, .int 0, .int 0, .int 0, .ref (r 15), .ref (r 16), .ref (r 17), .int 0, .int 0, .ref (r 20), .ref (r 21), .ref (r 22), .int 0, .int 0, .ref (r 25), .ref (r 26), .ref (r 27), .ref (r 28), .ref (r 29), .ref (r 30), .int 0, .ref (r 32), .ref (r 33), .ref (r 34), .ref (r 35), .ref (r 36), .ref (r 37), .ref (r 38), .ref (r 39), .ref (r 40), .ref (r 41), .ref (r 42), .int 0, .ref (r 44), .int 0, .int 0, .int 0, .int 0, .int 0, .ref (r 50), .ref (r 51), .ref (r 52), .int 0, .ref (r 54), .int 0, .ref (r 56), .int 0, .int 0, .int 0])), ((r 0), .inl (dA 0, 5161, .inl (fun _ => 0)))] H := hP
  have hD : va_D A [(h, .inr (2, [.ref (r 0), .ref (r 1), .ref (r 2), .ref (r 3), .int 0, .int 0, .ref (r 6), .int 0, .int 0, .int 0, .int 0, .int 0, .int 0, .int 0, .int 0, .ref (r 15), .ref (r 16), .ref (r 17), .int 0, .int 0, .ref (r 20), .ref (r 21), .ref (r 22), .int 0, .int 0, .ref (r 25), .ref (r 26), .ref (r 27), .ref (r 28), .ref (r 29), .ref (r 30), .int 0, .ref (r 32), .ref (r 33), .ref (r 34), .ref (r 35), .ref (r 36), .ref (r 37), .ref (r 38), .ref (r 39), .ref (r 40), .ref (r 41), .ref (r 42), .int 0, .ref (r 44), .int 0, .int 0, .int 0, .int 0, .int 0, .ref (r 50), .ref (r 51), .ref (r 52), .int 0, .ref (r 54), .int 0, .ref (r 56), .int 0, .int 0, .int 0])), ((r 0), .inl (dA 0, 5161, .inl (fun _ => 0)))] := hD
  refine lv_iload_n hx hb d70_204 rfl (lv_at hl 1 rfl) ?_
  exact ms_zret X d70_205 hP hD hS (Nat.le_of_ble_eq_true rfl) (Nat.le_of_ble_eq_true rfl) rfl (rfl)

set_option maxRecDepth 100000 in
set_option maxHeartbeats 8000000 in
theorem c_mquery (l : Launch) (D : va_G) (dA : Nat → ClassId) (s0 : State) (hE : ms_EV D dA s0) (h : Nat) (r : Nat → Nat) (i : Int32) : ms_C l D s0 yM71 bM71 4 (Option.some Jvm.ClassFile.FieldType.int) 2 42 0 0 [.ref h, .int i] [(h, .inr (2, [.ref (r 0), .ref (r 1), .ref (r 2), .ref (r 3), .int 0, .int 0, .ref (r 6), .int 0, .int 0, .int 0, .int 0, .int 0, .int 0, .int 0, .int 0, .ref (r 15), .ref (r 16), .ref (r 17), .int 0, .int 0, .ref (r 20), .ref (r 21), .ref (r 22), .int 0, .int 0, .ref (r 25), .ref (r 26), .ref (r 27), .ref (r 28), .ref (r 29), .ref (r 30), .int 0, .ref (r 32), .ref (r 33), .ref (r 34), .ref (r 35), .ref (r 36), .ref (r 37), .ref (r 38), .ref (r 39), .ref (r 40), .ref (r 41), .ref (r 42), .int 0, .ref (r 44), .int 0, .int 0, .int 0, .int 0, .int 0, .ref (r 50), .ref (r 51), .ref (r 52), .int 0, .ref (r 54), .int 0, .ref (r 56), .int 0, .int 0, .int 0])), ((r 0), .inl (dA 0, 5161, .inl (fun _ => 0)))] (fun vv _ => vv = some (.int (-1000))) := by
  refine ms_C.mk hE.1 (by decide) (Nat.le_of_ble_eq_true rfl) [(0, .ref h), (1, .int i)] rfl ?_
  intro p e s m below meth c A ls X hin hP hD hS hl
  have hx := X.1
  have hb := X.2.1
  have hml := X.2.2.1
  have hown : s.vm.findClass "MarkupStoreModel" = some m.cls := X.2.2.2.1
  have hts := X.2.2.2.2.2.2.1
  have hK := X.2.2.2.2.2.2.2.2.1
  have hA := X.2.2.2.2.2.2.2.2.2.2
  refine lv_aload_n hx hb d71_0 rfl (lv_at hl 0 rfl) ?_
  refine lv_iload_n hx hb d71_1 rfl (lv_at hl 1 rfl) ?_
  refine ms_V (C := "MarkupStoreModel") (rest := []) (as := [.int i]) X hl (c_place l D dA s0 hE h r i) (List.forall_mem_cons.mpr ⟨ms_k1603, List.forall_mem_cons.mpr ⟨ms_k1605, List.forall_mem_cons.mpr ⟨ms_p66, List.forall_mem_cons.mpr ⟨ms_k7, List.forall_mem_cons.mpr ⟨ms_k1606, fun _ h => absurd h List.not_mem_nil⟩⟩⟩⟩⟩) ⟨rfl, by decide +kernel, by decide +kernel, by decide +kernel⟩ (va_recv hK hP rfl (q0 := 0) rfl) hP hD hS [0, 1] [] rfl rfl ⟨by decide, by decide, by decide⟩ ⟨⟨Nat.le_of_ble_eq_true rfl, Nat.le_of_ble_eq_true rfl⟩, Nat.le_of_ble_eq_true rfl, Nat.le_of_ble_eq_true rfl⟩ rfl (Nat.le_of_ble_eq_true rfl) d71_2 (fun vv ww H locs hR hP hD hS => ?_)
  obtain ⟨rfl, rfl⟩ := hR
  have hP : va_P D vwCl [(h, .inr (2, [.ref (r 0), .ref (r 1), .ref (r 2), .ref (r 3), .int 0, .int 0, .ref (r 6), .int 0, .int 0, .int 0, .int 0, .int 0, .int 0, .int 0, .int 0, .ref (r 15), .ref (r 16), .ref (r 17), .int 0, .int 0, .ref (r 20), .ref (r 21), .ref (r 22), .int 0, .int 0, .ref (r 25), .ref (r 26), .ref (r 27), .ref (r 28), .ref (r 29), .ref (r 30), .int 0, .ref (r 32), .ref (r 33), .ref (r 34), .ref (r 35), .ref (r 36), .ref (r 37), .ref (r 38), .ref (r 39), .ref (r 40), .ref (r 41), .ref (r 42), .int 0, .ref (r 44), .int 0, .int 0, .int 0, .int 0, .int 0, .ref (r 50), .ref (r 51), .ref (r 52), .int 0, .ref (r 54), .int 0, .ref (r 56), .int 0, .int 0, .int 0])), ((r 0), .inl (dA 0, 5161, .inl (fun _ => 0)))] H := hP
  have hD : va_D A [(h, .inr (2, [.ref (r 0), .ref (r 1), .ref (r 2), .ref (r 3), .int 0, .int 0, .ref (r 6), .int 0, .int 0, .int 0, .int 0, .int 0, .int 0, .int 0, .int 0, .ref (r 15), .ref (r 16), .ref (r 17), .int 0, .int 0, .ref (r 20), .ref (r 21), .ref (r 22), .int 0, .int 0, .ref (r 25), .ref (r 26), .ref (r 27), .ref (r 28), .ref (r 29), .ref (r 30), .int 0, .ref (r 32), .ref (r 33), .ref (r 34), .ref (r 35), .ref (r 36), .ref (r 37), .ref (r 38), .ref (r 39), .ref (r 40), .ref (r 41), .ref (r 42), .int 0, .ref (r 44), .int 0, .int 0, .int 0, .int 0, .int 0, .ref (r 50), .ref (r 51), .ref (r 52), .int 0, .ref (r 54), .int 0, .ref (r 56), .int 0, .int 0, .int 0])), ((r 0), .inl (dA 0, 5161, .inl (fun _ => 0)))] := hD
  refine W.eq (g2 := F0 m 5 ls [.int (-1)]) rfl ?_
  refine lv_istore_n hx hb d71_5 rfl hl (by decide) rfl (fun ls hl => ?_)
  have hl : lv_has ls 4 [(2, .int (-1)), (0, .ref h), (1, .int i)] := hl
  refine lv_iload_n hx hb d71_6 rfl (lv_at hl 0 rfl) ?_
  refine lv_if_ge hx hb d71_7 rfl (fun h9 => absurd h9 (by decide)) (fun _ => ?_)
  refine lv_sipush (v := (-1000)) hx hb d71_10 (by decide) ?_
  refine lv_goto hx hb d71_13 rfl ?_
  refine lv_istore_n hx hb d71_21 rfl hl (by decide) rfl (fun ls hl => ?_)
  have hl : lv_has ls 4 [(3, .int (-1000)), (2, .int (-1)), (0, .ref h), (1, .int i)] := hl
  refine lv_aload_n hx hb d71_22 rfl (lv_at hl 2 rfl) ?_
  refine lv_iconst (v := 0) hx hb d71_23 (by decide) ?_
  refine va_put (D := D) (ci := 2) (v := .int 0) (ty := .int) (C := kR2) (T := kT2) (N := 60) hx hb hts ku2 kt2 kp2 kn2 hown hK hP hD hS 0 rfl rfl 7 (by decide) (hts _ ms_k1323) (fun _ h => h) rfl (by decide +kernel) rfl rfl (Nat.le_of_ble_eq_true rfl) d71_24 (fun H locs hP hD hS => ?_)
  have hP : va_P D vwCl [(h, .inr (2, [.ref (r 0), .ref (r 1), .ref (r 2), .ref (r 3), .int 0, .int 0, .ref (r 6), .int 0, .int 0, .int 0, .int 0, .int 0, .int 0, .int 0, .int 0, .ref (r 15), .ref (r 16), .ref (r 17), .int 0, .int 0, .ref (r 20), .ref (r 21), .ref (r 22), .int 0, .int 0, .ref (r 25), .ref (r 26), .ref (r 27), .ref (r 28), .ref (r 29), .ref (r 30), .int 0, .ref (r 32), .ref (r 33), .ref (r 34), .ref (r 35), .ref (r 36), .ref (r 37), .ref (r 38), .ref (r 39), .ref (r 40), .ref (r 41), .ref (r 42), .int 0, .ref (r 44), .int 0, .int 0, .int 0, .int 0, .int 0, .ref (r 50), .ref (r 51), .ref (r 52), .int 0, .ref (r 54), .int 0, .ref (r 56), .int 0, .int 0, .int 0])), ((r 0), .inl (dA 0, 5161, .inl (fun _ => 0)))] H := hP
  have hD : va_D A [(h, .inr (2, [.ref (r 0), .ref (r 1), .ref (r 2), .ref (r 3), .int 0, .int 0, .ref (r 6), .int 0, .int 0, .int 0, .int 0, .int 0, .int 0, .int 0, .int 0, .ref (r 15), .ref (r 16), .ref (r 17), .int 0, .int 0, .ref (r 20), .ref (r 21), .ref (r 22), .int 0, .int 0, .ref (r 25), .ref (r 26), .ref (r 27), .ref (r 28), .ref (r 29), .ref (r 30), .int 0, .ref (r 32), .ref (r 33), .ref (r 34), .ref (r 35), .ref (r 36), .ref (r 37), .ref (r 38), .ref (r 39), .ref (r 40), .ref (r 41), .ref (r 42), .int 0, .ref (r 44), .int 0, .int 0, .int 0, .int 0, .int 0, .ref (r 50), .ref (r 51), .ref (r 52), .int 0, .ref (r 54), .int 0, .ref (r 56), .int 0, .int 0, .int 0])), ((r 0), .inl (dA 0, 5161, .inl (fun _ => 0)))] := hD
  refine lv_iload_n hx hb d71_27 rfl (lv_at hl 0 rfl) ?_
  exact ms_iret X d71_28 hP hD hS (Nat.le_of_ble_eq_true rfl) (Nat.le_of_ble_eq_true rfl) rfl

set_option maxRecDepth 100000 in
set_option maxHeartbeats 8000000 in
theorem c_mkind (l : Launch) (D : va_G) (dA : Nat → ClassId) (s0 : State) (hE : ms_EV D dA s0) (h : Nat) (r : Nat → Nat) (i : Int32) : ms_C l D s0 yM72 bM72 3 (Option.some Jvm.ClassFile.FieldType.int) 2 42 0 0 [.ref h, .int i] [(h, .inr (2, [.ref (r 0), .ref (r 1), .ref (r 2), .ref (r 3), .int 0, .int 0, .ref (r 6), .int 0, .int 0, .int 0, .int 0, .int 0, .int 0, .int 0, .int 0, .ref (r 15), .ref (r 16), .ref (r 17), .int 0, .int 0, .ref (r 20), .ref (r 21), .ref (r 22), .int 0, .int 0, .ref (r 25), .ref (r 26), .ref (r 27), .ref (r 28), .ref (r 29), .ref (r 30), .int 0, .ref (r 32), .ref (r 33), .ref (r 34), .ref (r 35), .ref (r 36), .ref (r 37), .ref (r 38), .ref (r 39), .ref (r 40), .ref (r 41), .ref (r 42), .int 0, .ref (r 44), .int 0, .int 0, .int 0, .int 0, .int 0, .ref (r 50), .ref (r 51), .ref (r 52), .int 0, .ref (r 54), .int 0, .ref (r 56), .int 0, .int 0, .int 0])), ((r 0), .inl (dA 0, 5161, .inl (fun _ => 0)))] (fun vv _ => vv = some (.int (-1000))) := by
  refine ms_C.mk hE.1 (by decide) (Nat.le_of_ble_eq_true rfl) [(0, .ref h), (1, .int i)] rfl ?_
  intro p e s m below meth c A ls X hin hP hD hS hl
  have hx := X.1
  have hb := X.2.1
  have hml := X.2.2.1
  have hown : s.vm.findClass "MarkupStoreModel" = some m.cls := X.2.2.2.1
  have hts := X.2.2.2.2.2.2.1
  have hK := X.2.2.2.2.2.2.2.2.1
  have hA := X.2.2.2.2.2.2.2.2.2.2
  refine lv_aload_n hx hb d72_0 rfl (lv_at hl 0 rfl) ?_
  refine lv_iload_n hx hb d72_1 rfl (lv_at hl 1 rfl) ?_
  refine ms_V (C := "MarkupStoreModel") (rest := []) (as := [.int i]) X hl (c_place l D dA s0 hE h r i) (List.forall_mem_cons.mpr ⟨ms_k1603, List.forall_mem_cons.mpr ⟨ms_k1605, List.forall_mem_cons.mpr ⟨ms_p66, List.forall_mem_cons.mpr ⟨ms_k7, List.forall_mem_cons.mpr ⟨ms_k1606, fun _ h => absurd h List.not_mem_nil⟩⟩⟩⟩⟩) ⟨rfl, by decide +kernel, by decide +kernel, by decide +kernel⟩ (va_recv hK hP rfl (q0 := 0) rfl) hP hD hS [0, 1] [] rfl rfl ⟨by decide, by decide, by decide⟩ ⟨⟨Nat.le_of_ble_eq_true rfl, Nat.le_of_ble_eq_true rfl⟩, Nat.le_of_ble_eq_true rfl, Nat.le_of_ble_eq_true rfl⟩ rfl (Nat.le_of_ble_eq_true rfl) d72_2 (fun vv ww H locs hR hP hD hS => ?_)
  obtain ⟨rfl, rfl⟩ := hR
  have hP : va_P D vwCl [(h, .inr (2, [.ref (r 0), .ref (r 1), .ref (r 2), .ref (r 3), .int 0, .int 0, .ref (r 6), .int 0, .int 0, .int 0, .int 0, .int 0, .int 0, .int 0, .int 0, .ref (r 15), .ref (r 16), .ref (r 17), .int 0, .int 0, .ref (r 20), .ref (r 21), .ref (r 22), .int 0, .int 0, .ref (r 25), .ref (r 26), .ref (r 27), .ref (r 28), .ref (r 29), .ref (r 30), .int 0, .ref (r 32), .ref (r 33), .ref (r 34), .ref (r 35), .ref (r 36), .ref (r 37), .ref (r 38), .ref (r 39), .ref (r 40), .ref (r 41), .ref (r 42), .int 0, .ref (r 44), .int 0, .int 0, .int 0, .int 0, .int 0, .ref (r 50), .ref (r 51), .ref (r 52), .int 0, .ref (r 54), .int 0, .ref (r 56), .int 0, .int 0, .int 0])), ((r 0), .inl (dA 0, 5161, .inl (fun _ => 0)))] H := hP
  have hD : va_D A [(h, .inr (2, [.ref (r 0), .ref (r 1), .ref (r 2), .ref (r 3), .int 0, .int 0, .ref (r 6), .int 0, .int 0, .int 0, .int 0, .int 0, .int 0, .int 0, .int 0, .ref (r 15), .ref (r 16), .ref (r 17), .int 0, .int 0, .ref (r 20), .ref (r 21), .ref (r 22), .int 0, .int 0, .ref (r 25), .ref (r 26), .ref (r 27), .ref (r 28), .ref (r 29), .ref (r 30), .int 0, .ref (r 32), .ref (r 33), .ref (r 34), .ref (r 35), .ref (r 36), .ref (r 37), .ref (r 38), .ref (r 39), .ref (r 40), .ref (r 41), .ref (r 42), .int 0, .ref (r 44), .int 0, .int 0, .int 0, .int 0, .int 0, .ref (r 50), .ref (r 51), .ref (r 52), .int 0, .ref (r 54), .int 0, .ref (r 56), .int 0, .int 0, .int 0])), ((r 0), .inl (dA 0, 5161, .inl (fun _ => 0)))] := hD
  refine W.eq (g2 := F0 m 5 ls [.int (-1)]) rfl ?_
  refine lv_istore_n hx hb d72_5 rfl hl (by decide) rfl (fun ls hl => ?_)
  have hl : lv_has ls 3 [(2, .int (-1)), (0, .ref h), (1, .int i)] := hl
  refine lv_iload_n hx hb d72_6 rfl (lv_at hl 0 rfl) ?_
  refine lv_if_ge hx hb d72_7 rfl (fun h9 => absurd h9 (by decide)) (fun _ => ?_)
  refine lv_sipush (v := (-1000)) hx hb d72_10 (by decide) ?_
  refine lv_goto hx hb d72_13 rfl ?_
  exact ms_iret X d72_22 hP hD hS (Nat.le_of_ble_eq_true rfl) (Nat.le_of_ble_eq_true rfl) rfl

set_option maxRecDepth 100000 in
set_option maxHeartbeats 8000000 in
theorem c_mnode (l : Launch) (D : va_G) (dA : Nat → ClassId) (s0 : State) (hE : ms_EV D dA s0) (h : Nat) (r : Nat → Nat) (i : Int32) (j : Int32) : ms_C l D s0 yM73 bM73 4 (Option.some Jvm.ClassFile.FieldType.int) 2 42 0 0 [.ref h, .int i, .int j] [(h, .inr (2, [.ref (r 0), .ref (r 1), .ref (r 2), .ref (r 3), .int 0, .int 0, .ref (r 6), .int 0, .int 0, .int 0, .int 0, .int 0, .int 0, .int 0, .int 0, .ref (r 15), .ref (r 16), .ref (r 17), .int 0, .int 0, .ref (r 20), .ref (r 21), .ref (r 22), .int 0, .int 0, .ref (r 25), .ref (r 26), .ref (r 27), .ref (r 28), .ref (r 29), .ref (r 30), .int 0, .ref (r 32), .ref (r 33), .ref (r 34), .ref (r 35), .ref (r 36), .ref (r 37), .ref (r 38), .ref (r 39), .ref (r 40), .ref (r 41), .ref (r 42), .int 0, .ref (r 44), .int 0, .int 0, .int 0, .int 0, .int 0, .ref (r 50), .ref (r 51), .ref (r 52), .int 0, .ref (r 54), .int 0, .ref (r 56), .int 0, .int 0, .int 0])), ((r 0), .inl (dA 0, 5161, .inl (fun _ => 0)))] (fun vv _ => vv = some (.int (-1000))) := by
  refine ms_C.mk hE.1 (by decide) (Nat.le_of_ble_eq_true rfl) [(0, .ref h), (1, .int i), (2, .int j)] rfl ?_
  intro p e s m below meth c A ls X hin hP hD hS hl
  have hx := X.1
  have hb := X.2.1
  have hml := X.2.2.1
  have hown : s.vm.findClass "MarkupStoreModel" = some m.cls := X.2.2.2.1
  have hts := X.2.2.2.2.2.2.1
  have hK := X.2.2.2.2.2.2.2.2.1
  have hA := X.2.2.2.2.2.2.2.2.2.2
  refine lv_aload_n hx hb d73_0 rfl (lv_at hl 0 rfl) ?_
  refine lv_iload_n hx hb d73_1 rfl (lv_at hl 1 rfl) ?_
  refine ms_V (C := "MarkupStoreModel") (rest := []) (as := [.int i]) X hl (c_place l D dA s0 hE h r i) (List.forall_mem_cons.mpr ⟨ms_k1603, List.forall_mem_cons.mpr ⟨ms_k1605, List.forall_mem_cons.mpr ⟨ms_p66, List.forall_mem_cons.mpr ⟨ms_k7, List.forall_mem_cons.mpr ⟨ms_k1606, fun _ h => absurd h List.not_mem_nil⟩⟩⟩⟩⟩) ⟨rfl, by decide +kernel, by decide +kernel, by decide +kernel⟩ (va_recv hK hP rfl (q0 := 0) rfl) hP hD hS [0, 1] [] rfl rfl ⟨by decide, by decide, by decide⟩ ⟨⟨Nat.le_of_ble_eq_true rfl, Nat.le_of_ble_eq_true rfl⟩, Nat.le_of_ble_eq_true rfl, Nat.le_of_ble_eq_true rfl⟩ rfl (Nat.le_of_ble_eq_true rfl) d73_2 (fun vv ww H locs hR hP hD hS => ?_)
  obtain ⟨rfl, rfl⟩ := hR
  have hP : va_P D vwCl [(h, .inr (2, [.ref (r 0), .ref (r 1), .ref (r 2), .ref (r 3), .int 0, .int 0, .ref (r 6), .int 0, .int 0, .int 0, .int 0, .int 0, .int 0, .int 0, .int 0, .ref (r 15), .ref (r 16), .ref (r 17), .int 0, .int 0, .ref (r 20), .ref (r 21), .ref (r 22), .int 0, .int 0, .ref (r 25), .ref (r 26), .ref (r 27), .ref (r 28), .ref (r 29), .ref (r 30), .int 0, .ref (r 32), .ref (r 33), .ref (r 34), .ref (r 35), .ref (r 36), .ref (r 37), .ref (r 38), .ref (r 39), .ref (r 40), .ref (r 41), .ref (r 42), .int 0, .ref (r 44), .int 0, .int 0, .int 0, .int 0, .int 0, .ref (r 50), .ref (r 51), .ref (r 52), .int 0, .ref (r 54), .int 0, .ref (r 56), .int 0, .int 0, .int 0])), ((r 0), .inl (dA 0, 5161, .inl (fun _ => 0)))] H := hP
  have hD : va_D A [(h, .inr (2, [.ref (r 0), .ref (r 1), .ref (r 2), .ref (r 3), .int 0, .int 0, .ref (r 6), .int 0, .int 0, .int 0, .int 0, .int 0, .int 0, .int 0, .int 0, .ref (r 15), .ref (r 16), .ref (r 17), .int 0, .int 0, .ref (r 20), .ref (r 21), .ref (r 22), .int 0, .int 0, .ref (r 25), .ref (r 26), .ref (r 27), .ref (r 28), .ref (r 29), .ref (r 30), .int 0, .ref (r 32), .ref (r 33), .ref (r 34), .ref (r 35), .ref (r 36), .ref (r 37), .ref (r 38), .ref (r 39), .ref (r 40), .ref (r 41), .ref (r 42), .int 0, .ref (r 44), .int 0, .int 0, .int 0, .int 0, .int 0, .ref (r 50), .ref (r 51), .ref (r 52), .int 0, .ref (r 54), .int 0, .ref (r 56), .int 0, .int 0, .int 0])), ((r 0), .inl (dA 0, 5161, .inl (fun _ => 0)))] := hD
  refine W.eq (g2 := F0 m 5 ls [.int (-1)]) rfl ?_
  refine lv_istore_n hx hb d73_5 rfl hl (by decide) rfl (fun ls hl => ?_)
  have hl : lv_has ls 4 [(3, .int (-1)), (0, .ref h), (1, .int i), (2, .int j)] := hl
  refine lv_iload_n hx hb d73_6 rfl (lv_at hl 0 rfl) ?_
  refine lv_if_ge hx hb d73_7 rfl (fun h9 => absurd h9 (by decide)) (fun _ => ?_)
  refine lv_sipush (v := (-1000)) hx hb d73_10 (by decide) ?_
  exact ms_iret X d73_13 hP hD hS (Nat.le_of_ble_eq_true rfl) (Nat.le_of_ble_eq_true rfl) rfl

set_option maxRecDepth 100000 in
set_option maxHeartbeats 8000000 in
theorem c_mletter (l : Launch) (D : va_G) (dA : Nat → ClassId) (s0 : State) (hE : ms_EV D dA s0) (h : Nat) (r : Nat → Nat) (i : Int32) (j : Int32) : ms_C l D s0 yM74 bM74 4 (Option.some Jvm.ClassFile.FieldType.int) 2 42 0 0 [.ref h, .int i, .int j] [(h, .inr (2, [.ref (r 0), .ref (r 1), .ref (r 2), .ref (r 3), .int 0, .int 0, .ref (r 6), .int 0, .int 0, .int 0, .int 0, .int 0, .int 0, .int 0, .int 0, .ref (r 15), .ref (r 16), .ref (r 17), .int 0, .int 0, .ref (r 20), .ref (r 21), .ref (r 22), .int 0, .int 0, .ref (r 25), .ref (r 26), .ref (r 27), .ref (r 28), .ref (r 29), .ref (r 30), .int 0, .ref (r 32), .ref (r 33), .ref (r 34), .ref (r 35), .ref (r 36), .ref (r 37), .ref (r 38), .ref (r 39), .ref (r 40), .ref (r 41), .ref (r 42), .int 0, .ref (r 44), .int 0, .int 0, .int 0, .int 0, .int 0, .ref (r 50), .ref (r 51), .ref (r 52), .int 0, .ref (r 54), .int 0, .ref (r 56), .int 0, .int 0, .int 0])), ((r 0), .inl (dA 0, 5161, .inl (fun _ => 0)))] (fun vv _ => vv = some (.int 0)) := by
  refine ms_C.mk hE.1 (by decide) (Nat.le_of_ble_eq_true rfl) [(0, .ref h), (1, .int i), (2, .int j)] rfl ?_
  intro p e s m below meth c A ls X hin hP hD hS hl
  have hx := X.1
  have hb := X.2.1
  have hml := X.2.2.1
  have hown : s.vm.findClass "MarkupStoreModel" = some m.cls := X.2.2.2.1
  have hts := X.2.2.2.2.2.2.1
  have hK := X.2.2.2.2.2.2.2.2.1
  have hA := X.2.2.2.2.2.2.2.2.2.2
  refine lv_aload_n hx hb d74_0 rfl (lv_at hl 0 rfl) ?_
  refine lv_iload_n hx hb d74_1 rfl (lv_at hl 1 rfl) ?_
  refine ms_V (C := "MarkupStoreModel") (rest := []) (as := [.int i]) X hl (c_place l D dA s0 hE h r i) (List.forall_mem_cons.mpr ⟨ms_k1603, List.forall_mem_cons.mpr ⟨ms_k1605, List.forall_mem_cons.mpr ⟨ms_p66, List.forall_mem_cons.mpr ⟨ms_k7, List.forall_mem_cons.mpr ⟨ms_k1606, fun _ h => absurd h List.not_mem_nil⟩⟩⟩⟩⟩) ⟨rfl, by decide +kernel, by decide +kernel, by decide +kernel⟩ (va_recv hK hP rfl (q0 := 0) rfl) hP hD hS [0, 1] [] rfl rfl ⟨by decide, by decide, by decide⟩ ⟨⟨Nat.le_of_ble_eq_true rfl, Nat.le_of_ble_eq_true rfl⟩, Nat.le_of_ble_eq_true rfl, Nat.le_of_ble_eq_true rfl⟩ rfl (Nat.le_of_ble_eq_true rfl) d74_2 (fun vv ww H locs hR hP hD hS => ?_)
  obtain ⟨rfl, rfl⟩ := hR
  have hP : va_P D vwCl [(h, .inr (2, [.ref (r 0), .ref (r 1), .ref (r 2), .ref (r 3), .int 0, .int 0, .ref (r 6), .int 0, .int 0, .int 0, .int 0, .int 0, .int 0, .int 0, .int 0, .ref (r 15), .ref (r 16), .ref (r 17), .int 0, .int 0, .ref (r 20), .ref (r 21), .ref (r 22), .int 0, .int 0, .ref (r 25), .ref (r 26), .ref (r 27), .ref (r 28), .ref (r 29), .ref (r 30), .int 0, .ref (r 32), .ref (r 33), .ref (r 34), .ref (r 35), .ref (r 36), .ref (r 37), .ref (r 38), .ref (r 39), .ref (r 40), .ref (r 41), .ref (r 42), .int 0, .ref (r 44), .int 0, .int 0, .int 0, .int 0, .int 0, .ref (r 50), .ref (r 51), .ref (r 52), .int 0, .ref (r 54), .int 0, .ref (r 56), .int 0, .int 0, .int 0])), ((r 0), .inl (dA 0, 5161, .inl (fun _ => 0)))] H := hP
  have hD : va_D A [(h, .inr (2, [.ref (r 0), .ref (r 1), .ref (r 2), .ref (r 3), .int 0, .int 0, .ref (r 6), .int 0, .int 0, .int 0, .int 0, .int 0, .int 0, .int 0, .int 0, .ref (r 15), .ref (r 16), .ref (r 17), .int 0, .int 0, .ref (r 20), .ref (r 21), .ref (r 22), .int 0, .int 0, .ref (r 25), .ref (r 26), .ref (r 27), .ref (r 28), .ref (r 29), .ref (r 30), .int 0, .ref (r 32), .ref (r 33), .ref (r 34), .ref (r 35), .ref (r 36), .ref (r 37), .ref (r 38), .ref (r 39), .ref (r 40), .ref (r 41), .ref (r 42), .int 0, .ref (r 44), .int 0, .int 0, .int 0, .int 0, .int 0, .ref (r 50), .ref (r 51), .ref (r 52), .int 0, .ref (r 54), .int 0, .ref (r 56), .int 0, .int 0, .int 0])), ((r 0), .inl (dA 0, 5161, .inl (fun _ => 0)))] := hD
  refine W.eq (g2 := F0 m 5 ls [.int (-1)]) rfl ?_
  refine lv_istore_n hx hb d74_5 rfl hl (by decide) rfl (fun ls hl => ?_)
  have hl : lv_has ls 4 [(3, .int (-1)), (0, .ref h), (1, .int i), (2, .int j)] := hl
  refine lv_iload_n hx hb d74_6 rfl (lv_at hl 0 rfl) ?_
  refine lv_if_lt hx hb d74_7 rfl (fun _ => ?_) (fun h9 => absurd (by decide) h9)
  refine lv_iconst (v := 0) hx hb d74_24 (by decide) ?_
  refine lv_goto hx hb d74_25 rfl ?_
  exact ms_iret X d74_37 hP hD hS (Nat.le_of_ble_eq_true rfl) (Nat.le_of_ble_eq_true rfl) rfl

set_option maxRecDepth 100000 in
set_option maxHeartbeats 8000000 in
theorem c_mlabel (l : Launch) (D : va_G) (dA : Nat → ClassId) (s0 : State) (hE : ms_EV D dA s0) (h : Nat) (r : Nat → Nat) (i : Int32) (j : Int32) : ms_C l D s0 yM75 bM75 4 (Option.some Jvm.ClassFile.FieldType.int) 2 42 0 0 [.ref h, .int i, .int j] [(h, .inr (2, [.ref (r 0), .ref (r 1), .ref (r 2), .ref (r 3), .int 0, .int 0, .ref (r 6), .int 0, .int 0, .int 0, .int 0, .int 0, .int 0, .int 0, .int 0, .ref (r 15), .ref (r 16), .ref (r 17), .int 0, .int 0, .ref (r 20), .ref (r 21), .ref (r 22), .int 0, .int 0, .ref (r 25), .ref (r 26), .ref (r 27), .ref (r 28), .ref (r 29), .ref (r 30), .int 0, .ref (r 32), .ref (r 33), .ref (r 34), .ref (r 35), .ref (r 36), .ref (r 37), .ref (r 38), .ref (r 39), .ref (r 40), .ref (r 41), .ref (r 42), .int 0, .ref (r 44), .int 0, .int 0, .int 0, .int 0, .int 0, .ref (r 50), .ref (r 51), .ref (r 52), .int 0, .ref (r 54), .int 0, .ref (r 56), .int 0, .int 0, .int 0])), ((r 0), .inl (dA 0, 5161, .inl (fun _ => 0)))] (fun vv _ => vv = some (.int 0)) := by
  refine ms_C.mk hE.1 (by decide) (Nat.le_of_ble_eq_true rfl) [(0, .ref h), (1, .int i), (2, .int j)] rfl ?_
  intro p e s m below meth c A ls X hin hP hD hS hl
  have hx := X.1
  have hb := X.2.1
  have hml := X.2.2.1
  have hown : s.vm.findClass "MarkupStoreModel" = some m.cls := X.2.2.2.1
  have hts := X.2.2.2.2.2.2.1
  have hK := X.2.2.2.2.2.2.2.2.1
  have hA := X.2.2.2.2.2.2.2.2.2.2
  refine lv_aload_n hx hb d75_0 rfl (lv_at hl 0 rfl) ?_
  refine lv_iload_n hx hb d75_1 rfl (lv_at hl 1 rfl) ?_
  refine ms_V (C := "MarkupStoreModel") (rest := []) (as := [.int i]) X hl (c_place l D dA s0 hE h r i) (List.forall_mem_cons.mpr ⟨ms_k1603, List.forall_mem_cons.mpr ⟨ms_k1605, List.forall_mem_cons.mpr ⟨ms_p66, List.forall_mem_cons.mpr ⟨ms_k7, List.forall_mem_cons.mpr ⟨ms_k1606, fun _ h => absurd h List.not_mem_nil⟩⟩⟩⟩⟩) ⟨rfl, by decide +kernel, by decide +kernel, by decide +kernel⟩ (va_recv hK hP rfl (q0 := 0) rfl) hP hD hS [0, 1] [] rfl rfl ⟨by decide, by decide, by decide⟩ ⟨⟨Nat.le_of_ble_eq_true rfl, Nat.le_of_ble_eq_true rfl⟩, Nat.le_of_ble_eq_true rfl, Nat.le_of_ble_eq_true rfl⟩ rfl (Nat.le_of_ble_eq_true rfl) d75_2 (fun vv ww H locs hR hP hD hS => ?_)
  obtain ⟨rfl, rfl⟩ := hR
  have hP : va_P D vwCl [(h, .inr (2, [.ref (r 0), .ref (r 1), .ref (r 2), .ref (r 3), .int 0, .int 0, .ref (r 6), .int 0, .int 0, .int 0, .int 0, .int 0, .int 0, .int 0, .int 0, .ref (r 15), .ref (r 16), .ref (r 17), .int 0, .int 0, .ref (r 20), .ref (r 21), .ref (r 22), .int 0, .int 0, .ref (r 25), .ref (r 26), .ref (r 27), .ref (r 28), .ref (r 29), .ref (r 30), .int 0, .ref (r 32), .ref (r 33), .ref (r 34), .ref (r 35), .ref (r 36), .ref (r 37), .ref (r 38), .ref (r 39), .ref (r 40), .ref (r 41), .ref (r 42), .int 0, .ref (r 44), .int 0, .int 0, .int 0, .int 0, .int 0, .ref (r 50), .ref (r 51), .ref (r 52), .int 0, .ref (r 54), .int 0, .ref (r 56), .int 0, .int 0, .int 0])), ((r 0), .inl (dA 0, 5161, .inl (fun _ => 0)))] H := hP
  have hD : va_D A [(h, .inr (2, [.ref (r 0), .ref (r 1), .ref (r 2), .ref (r 3), .int 0, .int 0, .ref (r 6), .int 0, .int 0, .int 0, .int 0, .int 0, .int 0, .int 0, .int 0, .ref (r 15), .ref (r 16), .ref (r 17), .int 0, .int 0, .ref (r 20), .ref (r 21), .ref (r 22), .int 0, .int 0, .ref (r 25), .ref (r 26), .ref (r 27), .ref (r 28), .ref (r 29), .ref (r 30), .int 0, .ref (r 32), .ref (r 33), .ref (r 34), .ref (r 35), .ref (r 36), .ref (r 37), .ref (r 38), .ref (r 39), .ref (r 40), .ref (r 41), .ref (r 42), .int 0, .ref (r 44), .int 0, .int 0, .int 0, .int 0, .int 0, .ref (r 50), .ref (r 51), .ref (r 52), .int 0, .ref (r 54), .int 0, .ref (r 56), .int 0, .int 0, .int 0])), ((r 0), .inl (dA 0, 5161, .inl (fun _ => 0)))] := hD
  refine W.eq (g2 := F0 m 5 ls [.int (-1)]) rfl ?_
  refine lv_istore_n hx hb d75_5 rfl hl (by decide) rfl (fun ls hl => ?_)
  have hl : lv_has ls 4 [(3, .int (-1)), (0, .ref h), (1, .int i), (2, .int j)] := hl
  refine lv_iload_n hx hb d75_6 rfl (lv_at hl 0 rfl) ?_
  refine lv_if_lt hx hb d75_7 rfl (fun _ => ?_) (fun h9 => absurd (by decide) h9)
  refine lv_iconst (v := 0) hx hb d75_24 (by decide) ?_
  refine lv_goto hx hb d75_25 rfl ?_
  exact ms_iret X d75_37 hP hD hS (Nat.le_of_ble_eq_true rfl) (Nat.le_of_ble_eq_true rfl) rfl

set_option maxRecDepth 100000 in
set_option maxHeartbeats 8000000 in
theorem c_mresult (l : Launch) (D : va_G) (dA : Nat → ClassId) (s0 : State) (hE : ms_EV D dA s0) (h : Nat) (r : Nat → Nat) (i : Int32) : ms_C l D s0 yM76 bM76 2 (Option.some Jvm.ClassFile.FieldType.int) 0 0 0 0 [.ref h, .int i] [(h, .inr (2, [.ref (r 0), .ref (r 1), .ref (r 2), .ref (r 3), .int 0, .int 0, .ref (r 6), .int 0, .int 0, .int 0, .int 0, .int 0, .int 0, .int 0, .int 0, .ref (r 15), .ref (r 16), .ref (r 17), .int 0, .int 0, .ref (r 20), .ref (r 21), .ref (r 22), .int 0, .int 0, .ref (r 25), .ref (r 26), .ref (r 27), .ref (r 28), .ref (r 29), .ref (r 30), .int 0, .ref (r 32), .ref (r 33), .ref (r 34), .ref (r 35), .ref (r 36), .ref (r 37), .ref (r 38), .ref (r 39), .ref (r 40), .ref (r 41), .ref (r 42), .int 0, .ref (r 44), .int 0, .int 0, .int 0, .int 0, .int 0, .ref (r 50), .ref (r 51), .ref (r 52), .int 0, .ref (r 54), .int 0, .ref (r 56), .int 0, .int 0, .int 0]))] (fun vv _ => vv = some (.int (-1000))) := by
  refine ms_C.mk hE.1 (by decide) (Nat.le_of_ble_eq_true rfl) [(0, .ref h), (1, .int i)] rfl ?_
  intro p e s m below meth c A ls X hin hP hD hS hl
  have hx := X.1
  have hb := X.2.1
  have hml := X.2.2.1
  have hown : s.vm.findClass "MarkupStoreModel" = some m.cls := X.2.2.2.1
  have hts := X.2.2.2.2.2.2.1
  have hK := X.2.2.2.2.2.2.2.2.1
  have hA := X.2.2.2.2.2.2.2.2.2.2
  refine lv_iload_n hx hb d76_0 rfl (lv_at hl 1 rfl) ?_
  refine lv_if_lt hx hb d76_1 rfl (fun hc => ?_) (fun hc => ?_)
  · refine lv_sipush (v := (-1000)) hx hb d76_21 (by decide) ?_
    exact ms_iret X d76_24 hP hD hS (Nat.le_of_ble_eq_true rfl) (Nat.le_of_ble_eq_true rfl) rfl
  · refine lv_iload_n hx hb d76_4 rfl (lv_at hl 1 rfl) ?_
    refine lv_aload_n hx hb d76_5 rfl (lv_at hl 0 rfl) ?_
    refine va_get (D := D) (ci := 2) (v := .int 0) (C := kR2) (T := kT2) (N := 60) hx hb hts ku2 hown hK hP 0 rfl rfl 55 (by decide) (hts _ ms_k1371) (fun _ h => h) rfl d76_6 ?_
    refine lv_icmp_ge hx hb d76_9 rfl (fun _ => ?_) (fun h9 => absurd (Int32.not_lt.mp hc) h9)
    refine lv_sipush (v := (-1000)) hx hb d76_21 (by decide) ?_
    exact ms_iret X d76_24 hP hD hS (Nat.le_of_ble_eq_true rfl) (Nat.le_of_ble_eq_true rfl) rfl

set_option maxRecDepth 100000 in
set_option maxHeartbeats 8000000 in
theorem c_mroot (l : Launch) (D : va_G) (dA : Nat → ClassId) (s0 : State) (hE : ms_EV D dA s0) (h : Nat) (r : Nat → Nat) : ms_C l D s0 yM77 bM77 1 (Option.some Jvm.ClassFile.FieldType.int) 1 20 0 0 [.ref h] [(h, .inr (2, [.ref (r 0), .ref (r 1), .ref (r 2), .ref (r 3), .int 0, .int 0, .ref (r 6), .int 0, .int 0, .int 0, .int 0, .int 0, .int 0, .int 0, .int 0, .ref (r 15), .ref (r 16), .ref (r 17), .int 0, .int 0, .ref (r 20), .ref (r 21), .ref (r 22), .int 0, .int 0, .ref (r 25), .ref (r 26), .ref (r 27), .ref (r 28), .ref (r 29), .ref (r 30), .int 0, .ref (r 32), .ref (r 33), .ref (r 34), .ref (r 35), .ref (r 36), .ref (r 37), .ref (r 38), .ref (r 39), .ref (r 40), .ref (r 41), .ref (r 42), .int 0, .ref (r 44), .int 0, .int 0, .int 0, .int 0, .int 0, .ref (r 50), .ref (r 51), .ref (r 52), .int 0, .ref (r 54), .int 0, .ref (r 56), .int 0, .int 0, .int 0])), ((r 0), .inl (dA 0, 5161, .inl (fun _ => 0)))] (fun vv _ => vv = some (.int (-1000))) := by
  refine ms_C.mk hE.1 (by decide) (Nat.le_of_ble_eq_true rfl) [(0, .ref h)] rfl ?_
  intro p e s m below meth c A ls X hin hP hD hS hl
  have hx := X.1
  have hb := X.2.1
  have hml := X.2.2.1
  have hown : s.vm.findClass "MarkupStoreModel" = some m.cls := X.2.2.2.1
  have hts := X.2.2.2.2.2.2.1
  have hK := X.2.2.2.2.2.2.2.2.1
  have hA := X.2.2.2.2.2.2.2.2.2.2
  refine lv_aload_n hx hb d77_0 rfl (lv_at hl 0 rfl) ?_
  refine ms_V (C := "MarkupStoreModel") (rest := []) (as := []) X hl (c_count l D dA s0 hE h r 0) (List.forall_mem_cons.mpr ⟨ms_k1583, List.forall_mem_cons.mpr ⟨ms_k1585, List.forall_mem_cons.mpr ⟨ms_p62, List.forall_mem_cons.mpr ⟨ms_k7, List.forall_mem_cons.mpr ⟨ms_k1586, fun _ h => absurd h List.not_mem_nil⟩⟩⟩⟩⟩) ⟨rfl, by decide +kernel, by decide +kernel, by decide +kernel⟩ (va_recv hK hP rfl (q0 := 0) rfl) hP hD hS [0, 1] [] rfl rfl ⟨by decide, by decide, by decide⟩ ⟨⟨Nat.le_of_ble_eq_true rfl, Nat.le_of_ble_eq_true rfl⟩, Nat.le_of_ble_eq_true rfl, Nat.le_of_ble_eq_true rfl⟩ rfl (Nat.le_of_ble_eq_true rfl) d77_1 (fun vv ww H locs hR hP hD hS => ?_)
  obtain ⟨rfl, rfl⟩ := hR
  have hP : va_P D vwCl [(h, .inr (2, [.ref (r 0), .ref (r 1), .ref (r 2), .ref (r 3), .int 0, .int 0, .ref (r 6), .int 0, .int 0, .int 0, .int 0, .int 0, .int 0, .int 0, .int 0, .ref (r 15), .ref (r 16), .ref (r 17), .int 0, .int 0, .ref (r 20), .ref (r 21), .ref (r 22), .int 0, .int 0, .ref (r 25), .ref (r 26), .ref (r 27), .ref (r 28), .ref (r 29), .ref (r 30), .int 0, .ref (r 32), .ref (r 33), .ref (r 34), .ref (r 35), .ref (r 36), .ref (r 37), .ref (r 38), .ref (r 39), .ref (r 40), .ref (r 41), .ref (r 42), .int 0, .ref (r 44), .int 0, .int 0, .int 0, .int 0, .int 0, .ref (r 50), .ref (r 51), .ref (r 52), .int 0, .ref (r 54), .int 0, .ref (r 56), .int 0, .int 0, .int 0])), ((r 0), .inl (dA 0, 5161, .inl (fun _ => 0)))] H := hP
  have hD : va_D A [(h, .inr (2, [.ref (r 0), .ref (r 1), .ref (r 2), .ref (r 3), .int 0, .int 0, .ref (r 6), .int 0, .int 0, .int 0, .int 0, .int 0, .int 0, .int 0, .int 0, .ref (r 15), .ref (r 16), .ref (r 17), .int 0, .int 0, .ref (r 20), .ref (r 21), .ref (r 22), .int 0, .int 0, .ref (r 25), .ref (r 26), .ref (r 27), .ref (r 28), .ref (r 29), .ref (r 30), .int 0, .ref (r 32), .ref (r 33), .ref (r 34), .ref (r 35), .ref (r 36), .ref (r 37), .ref (r 38), .ref (r 39), .ref (r 40), .ref (r 41), .ref (r 42), .int 0, .ref (r 44), .int 0, .int 0, .int 0, .int 0, .int 0, .ref (r 50), .ref (r 51), .ref (r 52), .int 0, .ref (r 54), .int 0, .ref (r 56), .int 0, .int 0, .int 0])), ((r 0), .inl (dA 0, 5161, .inl (fun _ => 0)))] := hD
  refine W.eq (g2 := F0 m 4 ls [.int 0]) rfl ?_
  refine lv_if_ne hx hb d77_4 rfl (fun h9 => absurd h9 (by decide)) (fun _ => ?_)
  refine lv_sipush (v := (-1000)) hx hb d77_7 (by decide) ?_
  refine lv_goto hx hb d77_10 rfl ?_
  exact ms_iret X d77_25 hP hD hS (Nat.le_of_ble_eq_true rfl) (Nat.le_of_ble_eq_true rfl) rfl

set_option maxRecDepth 100000 in
set_option maxHeartbeats 8000000 in
theorem c_mnodes (l : Launch) (D : va_G) (dA : Nat → ClassId) (s0 : State) (hE : ms_EV D dA s0) (h : Nat) (r : Nat → Nat) : ms_C l D s0 yM78 bM78 1 (Option.some Jvm.ClassFile.FieldType.int) 1 20 0 0 [.ref h] [(h, .inr (2, [.ref (r 0), .ref (r 1), .ref (r 2), .ref (r 3), .int 0, .int 0, .ref (r 6), .int 0, .int 0, .int 0, .int 0, .int 0, .int 0, .int 0, .int 0, .ref (r 15), .ref (r 16), .ref (r 17), .int 0, .int 0, .ref (r 20), .ref (r 21), .ref (r 22), .int 0, .int 0, .ref (r 25), .ref (r 26), .ref (r 27), .ref (r 28), .ref (r 29), .ref (r 30), .int 0, .ref (r 32), .ref (r 33), .ref (r 34), .ref (r 35), .ref (r 36), .ref (r 37), .ref (r 38), .ref (r 39), .ref (r 40), .ref (r 41), .ref (r 42), .int 0, .ref (r 44), .int 0, .int 0, .int 0, .int 0, .int 0, .ref (r 50), .ref (r 51), .ref (r 52), .int 0, .ref (r 54), .int 0, .ref (r 56), .int 0, .int 0, .int 0])), ((r 0), .inl (dA 0, 5161, .inl (fun _ => 0)))] (fun vv _ => vv = some (.int 0)) := by
  refine ms_C.mk hE.1 (by decide) (Nat.le_of_ble_eq_true rfl) [(0, .ref h)] rfl ?_
  intro p e s m below meth c A ls X hin hP hD hS hl
  have hx := X.1
  have hb := X.2.1
  have hml := X.2.2.1
  have hown : s.vm.findClass "MarkupStoreModel" = some m.cls := X.2.2.2.1
  have hts := X.2.2.2.2.2.2.1
  have hK := X.2.2.2.2.2.2.2.2.1
  have hA := X.2.2.2.2.2.2.2.2.2.2
  refine lv_aload_n hx hb d78_0 rfl (lv_at hl 0 rfl) ?_
  refine ms_V (C := "MarkupStoreModel") (rest := []) (as := []) X hl (c_count l D dA s0 hE h r 0) (List.forall_mem_cons.mpr ⟨ms_k1583, List.forall_mem_cons.mpr ⟨ms_k1585, List.forall_mem_cons.mpr ⟨ms_p62, List.forall_mem_cons.mpr ⟨ms_k7, List.forall_mem_cons.mpr ⟨ms_k1586, fun _ h => absurd h List.not_mem_nil⟩⟩⟩⟩⟩) ⟨rfl, by decide +kernel, by decide +kernel, by decide +kernel⟩ (va_recv hK hP rfl (q0 := 0) rfl) hP hD hS [0, 1] [] rfl rfl ⟨by decide, by decide, by decide⟩ ⟨⟨Nat.le_of_ble_eq_true rfl, Nat.le_of_ble_eq_true rfl⟩, Nat.le_of_ble_eq_true rfl, Nat.le_of_ble_eq_true rfl⟩ rfl (Nat.le_of_ble_eq_true rfl) d78_1 (fun vv ww H locs hR hP hD hS => ?_)
  obtain ⟨rfl, rfl⟩ := hR
  have hP : va_P D vwCl [(h, .inr (2, [.ref (r 0), .ref (r 1), .ref (r 2), .ref (r 3), .int 0, .int 0, .ref (r 6), .int 0, .int 0, .int 0, .int 0, .int 0, .int 0, .int 0, .int 0, .ref (r 15), .ref (r 16), .ref (r 17), .int 0, .int 0, .ref (r 20), .ref (r 21), .ref (r 22), .int 0, .int 0, .ref (r 25), .ref (r 26), .ref (r 27), .ref (r 28), .ref (r 29), .ref (r 30), .int 0, .ref (r 32), .ref (r 33), .ref (r 34), .ref (r 35), .ref (r 36), .ref (r 37), .ref (r 38), .ref (r 39), .ref (r 40), .ref (r 41), .ref (r 42), .int 0, .ref (r 44), .int 0, .int 0, .int 0, .int 0, .int 0, .ref (r 50), .ref (r 51), .ref (r 52), .int 0, .ref (r 54), .int 0, .ref (r 56), .int 0, .int 0, .int 0])), ((r 0), .inl (dA 0, 5161, .inl (fun _ => 0)))] H := hP
  have hD : va_D A [(h, .inr (2, [.ref (r 0), .ref (r 1), .ref (r 2), .ref (r 3), .int 0, .int 0, .ref (r 6), .int 0, .int 0, .int 0, .int 0, .int 0, .int 0, .int 0, .int 0, .ref (r 15), .ref (r 16), .ref (r 17), .int 0, .int 0, .ref (r 20), .ref (r 21), .ref (r 22), .int 0, .int 0, .ref (r 25), .ref (r 26), .ref (r 27), .ref (r 28), .ref (r 29), .ref (r 30), .int 0, .ref (r 32), .ref (r 33), .ref (r 34), .ref (r 35), .ref (r 36), .ref (r 37), .ref (r 38), .ref (r 39), .ref (r 40), .ref (r 41), .ref (r 42), .int 0, .ref (r 44), .int 0, .int 0, .int 0, .int 0, .int 0, .ref (r 50), .ref (r 51), .ref (r 52), .int 0, .ref (r 54), .int 0, .ref (r 56), .int 0, .int 0, .int 0])), ((r 0), .inl (dA 0, 5161, .inl (fun _ => 0)))] := hD
  refine W.eq (g2 := F0 m 4 ls [.int 0]) rfl ?_
  exact ms_iret X d78_4 hP hD hS (Nat.le_of_ble_eq_true rfl) (Nat.le_of_ble_eq_true rfl) rfl

set_option maxRecDepth 100000 in
set_option maxHeartbeats 8000000 in
theorem c_mwrite (l : Launch) (D : va_G) (dA : Nat → ClassId) (s0 : State) (hE : ms_EV D dA s0) (h : Nat) (r : Nat → Nat) (i : Int32) : ms_C l D s0 yM79 bM79 6 (Option.none : Option Jvm.ClassFile.FieldType) 1 20 0 0 [.ref h, .int i] [(h, .inr (2, [.ref (r 0), .ref (r 1), .ref (r 2), .ref (r 3), .int 0, .int 0, .ref (r 6), .int 0, .int 0, .int 0, .int 0, .int 0, .int 0, .int 0, .int 0, .ref (r 15), .ref (r 16), .ref (r 17), .int 0, .int 0, .ref (r 20), .ref (r 21), .ref (r 22), .int 0, .int 0, .ref (r 25), .ref (r 26), .ref (r 27), .ref (r 28), .ref (r 29), .ref (r 30), .int 0, .ref (r 32), .ref (r 33), .ref (r 34), .ref (r 35), .ref (r 36), .ref (r 37), .ref (r 38), .ref (r 39), .ref (r 40), .ref (r 41), .ref (r 42), .int 0, .ref (r 44), .int 0, .int 0, .int 0, .int 0, .int 0, .ref (r 50), .ref (r 51), .ref (r 52), .int 0, .ref (r 54), .int 0, .ref (r 56), .int 0, .int 0, .int 0])), ((r 0), .inl (dA 0, 5161, .inl (fun _ => 0)))] (fun vv ww => vv = none ∧ ww = [(h, .inr (2, [.ref (r 0), .ref (r 1), .ref (r 2), .ref (r 3), .int 0, .int 0, .ref (r 6), .int 0, .int 0, .int 0, .int 0, .int 0, .int 0, .int 0, .int 0, .ref (r 15), .ref (r 16), .ref (r 17), .int 0, .int 0, .ref (r 20), .ref (r 21), .ref (r 22), .int 0, .int 0, .ref (r 25), .ref (r 26), .ref (r 27), .ref (r 28), .ref (r 29), .ref (r 30), .int 0, .ref (r 32), .ref (r 33), .ref (r 34), .ref (r 35), .ref (r 36), .ref (r 37), .ref (r 38), .ref (r 39), .ref (r 40), .ref (r 41), .ref (r 42), .int 0, .ref (r 44), .int 0, .int 0, .int 0, .int 0, .int 0, .ref (r 50), .ref (r 51), .ref (r 52), .int 0, .ref (r 54), .int 0, .ref (r 56), .int 0, .int i, .int 0])), ((r 0), .inl (dA 0, 5161, .inl (fun _ => 0)))]) := by
  refine ms_C.mk hE.1 (by decide) (Nat.le_of_ble_eq_true rfl) [(0, .ref h), (1, .int i)] rfl ?_
  intro p e s m below meth c A ls X hin hP hD hS hl
  have hx := X.1
  have hb := X.2.1
  have hml := X.2.2.1
  have hown : s.vm.findClass "MarkupStoreModel" = some m.cls := X.2.2.2.1
  have hts := X.2.2.2.2.2.2.1
  have hK := X.2.2.2.2.2.2.2.2.1
  have hA := X.2.2.2.2.2.2.2.2.2.2
  refine lv_aload_n hx hb d79_0 rfl (lv_at hl 0 rfl) ?_
  refine lv_iload_n hx hb d79_1 rfl (lv_at hl 1 rfl) ?_
  refine va_put (D := D) (ci := 2) (v := .int i) (ty := .int) (C := kR2) (T := kT2) (N := 60) hx hb hts ku2 kt2 kp2 kn2 hown hK hP hD hS 0 rfl rfl 58 (by decide) (hts _ ms_k1374) (fun _ h => h) rfl (by decide +kernel) rfl rfl (Nat.le_of_ble_eq_true rfl) d79_2 (fun H locs hP hD hS => ?_)
  have hP : va_P D vwCl [(h, .inr (2, [.ref (r 0), .ref (r 1), .ref (r 2), .ref (r 3), .int 0, .int 0, .ref (r 6), .int 0, .int 0, .int 0, .int 0, .int 0, .int 0, .int 0, .int 0, .ref (r 15), .ref (r 16), .ref (r 17), .int 0, .int 0, .ref (r 20), .ref (r 21), .ref (r 22), .int 0, .int 0, .ref (r 25), .ref (r 26), .ref (r 27), .ref (r 28), .ref (r 29), .ref (r 30), .int 0, .ref (r 32), .ref (r 33), .ref (r 34), .ref (r 35), .ref (r 36), .ref (r 37), .ref (r 38), .ref (r 39), .ref (r 40), .ref (r 41), .ref (r 42), .int 0, .ref (r 44), .int 0, .int 0, .int 0, .int 0, .int 0, .ref (r 50), .ref (r 51), .ref (r 52), .int 0, .ref (r 54), .int 0, .ref (r 56), .int 0, .int i, .int 0])), ((r 0), .inl (dA 0, 5161, .inl (fun _ => 0)))] H := hP
  have hD : va_D A [(h, .inr (2, [.ref (r 0), .ref (r 1), .ref (r 2), .ref (r 3), .int 0, .int 0, .ref (r 6), .int 0, .int 0, .int 0, .int 0, .int 0, .int 0, .int 0, .int 0, .ref (r 15), .ref (r 16), .ref (r 17), .int 0, .int 0, .ref (r 20), .ref (r 21), .ref (r 22), .int 0, .int 0, .ref (r 25), .ref (r 26), .ref (r 27), .ref (r 28), .ref (r 29), .ref (r 30), .int 0, .ref (r 32), .ref (r 33), .ref (r 34), .ref (r 35), .ref (r 36), .ref (r 37), .ref (r 38), .ref (r 39), .ref (r 40), .ref (r 41), .ref (r 42), .int 0, .ref (r 44), .int 0, .int 0, .int 0, .int 0, .int 0, .ref (r 50), .ref (r 51), .ref (r 52), .int 0, .ref (r 54), .int 0, .ref (r 56), .int 0, .int i, .int 0])), ((r 0), .inl (dA 0, 5161, .inl (fun _ => 0)))] := hD
  refine lv_aload_n hx hb d79_5 rfl (lv_at hl 0 rfl) ?_
  refine lv_iconst (v := 0) hx hb d79_6 (by decide) ?_
  refine va_put (D := D) (ci := 2) (v := .int 0) (ty := .int) (C := kR2) (T := kT2) (N := 60) hx hb hts ku2 kt2 kp2 kn2 hown hK hP hD hS 0 rfl rfl 57 (by decide) (hts _ ms_k1373) (fun _ h => h) rfl (by decide +kernel) rfl rfl (Nat.le_of_ble_eq_true rfl) d79_7 (fun H locs hP hD hS => ?_)
  have hP : va_P D vwCl [(h, .inr (2, [.ref (r 0), .ref (r 1), .ref (r 2), .ref (r 3), .int 0, .int 0, .ref (r 6), .int 0, .int 0, .int 0, .int 0, .int 0, .int 0, .int 0, .int 0, .ref (r 15), .ref (r 16), .ref (r 17), .int 0, .int 0, .ref (r 20), .ref (r 21), .ref (r 22), .int 0, .int 0, .ref (r 25), .ref (r 26), .ref (r 27), .ref (r 28), .ref (r 29), .ref (r 30), .int 0, .ref (r 32), .ref (r 33), .ref (r 34), .ref (r 35), .ref (r 36), .ref (r 37), .ref (r 38), .ref (r 39), .ref (r 40), .ref (r 41), .ref (r 42), .int 0, .ref (r 44), .int 0, .int 0, .int 0, .int 0, .int 0, .ref (r 50), .ref (r 51), .ref (r 52), .int 0, .ref (r 54), .int 0, .ref (r 56), .int 0, .int i, .int 0])), ((r 0), .inl (dA 0, 5161, .inl (fun _ => 0)))] H := hP
  have hD : va_D A [(h, .inr (2, [.ref (r 0), .ref (r 1), .ref (r 2), .ref (r 3), .int 0, .int 0, .ref (r 6), .int 0, .int 0, .int 0, .int 0, .int 0, .int 0, .int 0, .int 0, .ref (r 15), .ref (r 16), .ref (r 17), .int 0, .int 0, .ref (r 20), .ref (r 21), .ref (r 22), .int 0, .int 0, .ref (r 25), .ref (r 26), .ref (r 27), .ref (r 28), .ref (r 29), .ref (r 30), .int 0, .ref (r 32), .ref (r 33), .ref (r 34), .ref (r 35), .ref (r 36), .ref (r 37), .ref (r 38), .ref (r 39), .ref (r 40), .ref (r 41), .ref (r 42), .int 0, .ref (r 44), .int 0, .int 0, .int 0, .int 0, .int 0, .ref (r 50), .ref (r 51), .ref (r 52), .int 0, .ref (r 54), .int 0, .ref (r 56), .int 0, .int i, .int 0])), ((r 0), .inl (dA 0, 5161, .inl (fun _ => 0)))] := hD
  refine lv_aload_n hx hb d79_10 rfl (lv_at hl 0 rfl) ?_
  refine lv_iconst (v := 0) hx hb d79_11 (by decide) ?_
  refine va_put (D := D) (ci := 2) (v := .int 0) (ty := .int) (C := kR2) (T := kT2) (N := 60) hx hb hts ku2 kt2 kp2 kn2 hown hK hP hD hS 0 rfl rfl 59 (by decide) (hts _ ms_k1375) (fun _ h => h) rfl (by decide +kernel) rfl rfl (Nat.le_of_ble_eq_true rfl) d79_12 (fun H locs hP hD hS => ?_)
  have hP : va_P D vwCl [(h, .inr (2, [.ref (r 0), .ref (r 1), .ref (r 2), .ref (r 3), .int 0, .int 0, .ref (r 6), .int 0, .int 0, .int 0, .int 0, .int 0, .int 0, .int 0, .int 0, .ref (r 15), .ref (r 16), .ref (r 17), .int 0, .int 0, .ref (r 20), .ref (r 21), .ref (r 22), .int 0, .int 0, .ref (r 25), .ref (r 26), .ref (r 27), .ref (r 28), .ref (r 29), .ref (r 30), .int 0, .ref (r 32), .ref (r 33), .ref (r 34), .ref (r 35), .ref (r 36), .ref (r 37), .ref (r 38), .ref (r 39), .ref (r 40), .ref (r 41), .ref (r 42), .int 0, .ref (r 44), .int 0, .int 0, .int 0, .int 0, .int 0, .ref (r 50), .ref (r 51), .ref (r 52), .int 0, .ref (r 54), .int 0, .ref (r 56), .int 0, .int i, .int 0])), ((r 0), .inl (dA 0, 5161, .inl (fun _ => 0)))] H := hP
  have hD : va_D A [(h, .inr (2, [.ref (r 0), .ref (r 1), .ref (r 2), .ref (r 3), .int 0, .int 0, .ref (r 6), .int 0, .int 0, .int 0, .int 0, .int 0, .int 0, .int 0, .int 0, .ref (r 15), .ref (r 16), .ref (r 17), .int 0, .int 0, .ref (r 20), .ref (r 21), .ref (r 22), .int 0, .int 0, .ref (r 25), .ref (r 26), .ref (r 27), .ref (r 28), .ref (r 29), .ref (r 30), .int 0, .ref (r 32), .ref (r 33), .ref (r 34), .ref (r 35), .ref (r 36), .ref (r 37), .ref (r 38), .ref (r 39), .ref (r 40), .ref (r 41), .ref (r 42), .int 0, .ref (r 44), .int 0, .int 0, .int 0, .int 0, .int 0, .ref (r 50), .ref (r 51), .ref (r 52), .int 0, .ref (r 54), .int 0, .ref (r 56), .int 0, .int i, .int 0])), ((r 0), .inl (dA 0, 5161, .inl (fun _ => 0)))] := hD
  refine lv_iconst (v := 0) hx hb d79_15 (by decide) ?_
  refine lv_istore_n hx hb d79_16 rfl hl (by decide) rfl (fun ls hl => ?_)
  have hl : lv_has ls 6 [(2, .int 0), (0, .ref h), (1, .int i)] := hl
  refine lv_iload_n hx hb d79_17 rfl (lv_at hl 0 rfl) ?_
  refine lv_aload_n hx hb d79_18 rfl (lv_at hl 1 rfl) ?_
  refine ms_V (C := "MarkupStoreModel") (rest := [.int 0]) (as := []) X hl (c_count l D dA s0 hE h r i) (List.forall_mem_cons.mpr ⟨ms_k1583, List.forall_mem_cons.mpr ⟨ms_k1585, List.forall_mem_cons.mpr ⟨ms_p62, List.forall_mem_cons.mpr ⟨ms_k7, List.forall_mem_cons.mpr ⟨ms_k1586, fun _ h => absurd h List.not_mem_nil⟩⟩⟩⟩⟩) ⟨rfl, by decide +kernel, by decide +kernel, by decide +kernel⟩ (va_recv hK hP rfl (q0 := 0) rfl) hP hD hS [0, 1] [] rfl rfl ⟨by decide, by decide, by decide⟩ ⟨⟨Nat.le_of_ble_eq_true rfl, Nat.le_of_ble_eq_true rfl⟩, Nat.le_of_ble_eq_true rfl, Nat.le_of_ble_eq_true rfl⟩ rfl (Nat.le_of_ble_eq_true rfl) d79_19 (fun vv ww H locs hR hP hD hS => ?_)
  obtain ⟨rfl, rfl⟩ := hR
  have hP : va_P D vwCl [(h, .inr (2, [.ref (r 0), .ref (r 1), .ref (r 2), .ref (r 3), .int 0, .int 0, .ref (r 6), .int 0, .int 0, .int 0, .int 0, .int 0, .int 0, .int 0, .int 0, .ref (r 15), .ref (r 16), .ref (r 17), .int 0, .int 0, .ref (r 20), .ref (r 21), .ref (r 22), .int 0, .int 0, .ref (r 25), .ref (r 26), .ref (r 27), .ref (r 28), .ref (r 29), .ref (r 30), .int 0, .ref (r 32), .ref (r 33), .ref (r 34), .ref (r 35), .ref (r 36), .ref (r 37), .ref (r 38), .ref (r 39), .ref (r 40), .ref (r 41), .ref (r 42), .int 0, .ref (r 44), .int 0, .int 0, .int 0, .int 0, .int 0, .ref (r 50), .ref (r 51), .ref (r 52), .int 0, .ref (r 54), .int 0, .ref (r 56), .int 0, .int i, .int 0])), ((r 0), .inl (dA 0, 5161, .inl (fun _ => 0)))] H := hP
  have hD : va_D A [(h, .inr (2, [.ref (r 0), .ref (r 1), .ref (r 2), .ref (r 3), .int 0, .int 0, .ref (r 6), .int 0, .int 0, .int 0, .int 0, .int 0, .int 0, .int 0, .int 0, .ref (r 15), .ref (r 16), .ref (r 17), .int 0, .int 0, .ref (r 20), .ref (r 21), .ref (r 22), .int 0, .int 0, .ref (r 25), .ref (r 26), .ref (r 27), .ref (r 28), .ref (r 29), .ref (r 30), .int 0, .ref (r 32), .ref (r 33), .ref (r 34), .ref (r 35), .ref (r 36), .ref (r 37), .ref (r 38), .ref (r 39), .ref (r 40), .ref (r 41), .ref (r 42), .int 0, .ref (r 44), .int 0, .int 0, .int 0, .int 0, .int 0, .ref (r 50), .ref (r 51), .ref (r 52), .int 0, .ref (r 54), .int 0, .ref (r 56), .int 0, .int i, .int 0])), ((r 0), .inl (dA 0, 5161, .inl (fun _ => 0)))] := hD
  refine W.eq (g2 := F0 m 22 ls [.int 0, .int 0]) rfl ?_
  refine lv_icmp_ge hx hb d79_22 rfl (fun _ => ?_) (fun h9 => absurd (by decide) h9)
  exact ms_vret X d79_219 hP hD hS (Nat.le_of_ble_eq_true rfl) (Nat.le_of_ble_eq_true rfl) (⟨rfl, rfl⟩)

set_option maxRecDepth 100000 in
set_option maxHeartbeats 8000000 in
theorem c_mlength (l : Launch) (D : va_G) (dA : Nat → ClassId) (s0 : State) (hE : ms_EV D dA s0) (h : Nat) (r : Nat → Nat) : ms_C l D s0 yM80 bM80 1 (Option.some Jvm.ClassFile.FieldType.int) 2 45 0 0 [.ref h] [(h, .inr (2, [.ref (r 0), .ref (r 1), .ref (r 2), .ref (r 3), .int 0, .int 0, .ref (r 6), .int 0, .int 0, .int 0, .int 0, .int 0, .int 0, .int 0, .int 0, .ref (r 15), .ref (r 16), .ref (r 17), .int 0, .int 0, .ref (r 20), .ref (r 21), .ref (r 22), .int 0, .int 0, .ref (r 25), .ref (r 26), .ref (r 27), .ref (r 28), .ref (r 29), .ref (r 30), .int 0, .ref (r 32), .ref (r 33), .ref (r 34), .ref (r 35), .ref (r 36), .ref (r 37), .ref (r 38), .ref (r 39), .ref (r 40), .ref (r 41), .ref (r 42), .int 0, .ref (r 44), .int 0, .int 0, .int 0, .int 0, .int 0, .ref (r 50), .ref (r 51), .ref (r 52), .int 0, .ref (r 54), .int 0, .ref (r 56), .int 0, .int 0, .int 0])), ((r 0), .inl (dA 0, 5161, .inl (fun _ => 0)))] (fun vv _ => vv = some (.int 0)) := by
  refine ms_C.mk hE.1 (by decide) (Nat.le_of_ble_eq_true rfl) [(0, .ref h)] rfl ?_
  intro p e s m below meth c A ls X hin hP hD hS hl
  have hx := X.1
  have hb := X.2.1
  have hml := X.2.2.1
  have hown : s.vm.findClass "MarkupStoreModel" = some m.cls := X.2.2.2.1
  have hts := X.2.2.2.2.2.2.1
  have hK := X.2.2.2.2.2.2.2.2.1
  have hA := X.2.2.2.2.2.2.2.2.2.2
  refine lv_aload_n hx hb d80_0 rfl (lv_at hl 0 rfl) ?_
  refine lv_iconst (v := (-1)) hx hb d80_1 (by decide) ?_
  refine ms_V (C := "MarkupStoreModel") (rest := []) (as := [.int (-1)]) X hl (c_mwrite l D dA s0 hE h r (-1)) (List.forall_mem_cons.mpr ⟨ms_k1800, List.forall_mem_cons.mpr ⟨ms_k1802, List.forall_mem_cons.mpr ⟨ms_p100, List.forall_mem_cons.mpr ⟨ms_k7, List.forall_mem_cons.mpr ⟨ms_k1803, fun _ h => absurd h List.not_mem_nil⟩⟩⟩⟩⟩) ⟨rfl, by decide +kernel, by decide +kernel, by decide +kernel⟩ (va_recv hK hP rfl (q0 := 0) rfl) hP hD hS [0, 1] [] rfl rfl ⟨by decide, by decide, by decide⟩ ⟨⟨Nat.le_of_ble_eq_true rfl, Nat.le_of_ble_eq_true rfl⟩, Nat.le_of_ble_eq_true rfl, Nat.le_of_ble_eq_true rfl⟩ rfl (Nat.le_of_ble_eq_true rfl) d80_2 (fun vv ww H locs hR hP hD hS => ?_)
  obtain ⟨rfl, rfl⟩ := hR
  have hP : va_P D vwCl [(h, .inr (2, [.ref (r 0), .ref (r 1), .ref (r 2), .ref (r 3), .int 0, .int 0, .ref (r 6), .int 0, .int 0, .int 0, .int 0, .int 0, .int 0, .int 0, .int 0, .ref (r 15), .ref (r 16), .ref (r 17), .int 0, .int 0, .ref (r 20), .ref (r 21), .ref (r 22), .int 0, .int 0, .ref (r 25), .ref (r 26), .ref (r 27), .ref (r 28), .ref (r 29), .ref (r 30), .int 0, .ref (r 32), .ref (r 33), .ref (r 34), .ref (r 35), .ref (r 36), .ref (r 37), .ref (r 38), .ref (r 39), .ref (r 40), .ref (r 41), .ref (r 42), .int 0, .ref (r 44), .int 0, .int 0, .int 0, .int 0, .int 0, .ref (r 50), .ref (r 51), .ref (r 52), .int 0, .ref (r 54), .int 0, .ref (r 56), .int 0, .int (-1), .int 0])), ((r 0), .inl (dA 0, 5161, .inl (fun _ => 0)))] H := hP
  have hD : va_D A [(h, .inr (2, [.ref (r 0), .ref (r 1), .ref (r 2), .ref (r 3), .int 0, .int 0, .ref (r 6), .int 0, .int 0, .int 0, .int 0, .int 0, .int 0, .int 0, .int 0, .ref (r 15), .ref (r 16), .ref (r 17), .int 0, .int 0, .ref (r 20), .ref (r 21), .ref (r 22), .int 0, .int 0, .ref (r 25), .ref (r 26), .ref (r 27), .ref (r 28), .ref (r 29), .ref (r 30), .int 0, .ref (r 32), .ref (r 33), .ref (r 34), .ref (r 35), .ref (r 36), .ref (r 37), .ref (r 38), .ref (r 39), .ref (r 40), .ref (r 41), .ref (r 42), .int 0, .ref (r 44), .int 0, .int 0, .int 0, .int 0, .int 0, .ref (r 50), .ref (r 51), .ref (r 52), .int 0, .ref (r 54), .int 0, .ref (r 56), .int 0, .int (-1), .int 0])), ((r 0), .inl (dA 0, 5161, .inl (fun _ => 0)))] := hD
  refine W.eq (g2 := F0 m 5 ls []) rfl ?_
  refine lv_aload_n hx hb d80_5 rfl (lv_at hl 0 rfl) ?_
  refine va_get (D := D) (ci := 2) (v := .int 0) (C := kR2) (T := kT2) (N := 60) hx hb hts ku2 hown hK hP 0 rfl rfl 57 (by decide) (hts _ ms_k1373) (fun _ h => h) rfl d80_6 ?_
  exact ms_iret X d80_9 hP hD hS (Nat.le_of_ble_eq_true rfl) (Nat.le_of_ble_eq_true rfl) rfl

set_option maxRecDepth 100000 in
set_option maxHeartbeats 8000000 in
theorem c_mwritten (l : Launch) (D : va_G) (dA : Nat → ClassId) (s0 : State) (hE : ms_EV D dA s0) (h : Nat) (r : Nat → Nat) (i : Int32) : ms_C l D s0 yM81 bM81 2 (Option.some Jvm.ClassFile.FieldType.int) 2 45 0 0 [.ref h, .int i] [(h, .inr (2, [.ref (r 0), .ref (r 1), .ref (r 2), .ref (r 3), .int 0, .int 0, .ref (r 6), .int 0, .int 0, .int 0, .int 0, .int 0, .int 0, .int 0, .int 0, .ref (r 15), .ref (r 16), .ref (r 17), .int 0, .int 0, .ref (r 20), .ref (r 21), .ref (r 22), .int 0, .int 0, .ref (r 25), .ref (r 26), .ref (r 27), .ref (r 28), .ref (r 29), .ref (r 30), .int 0, .ref (r 32), .ref (r 33), .ref (r 34), .ref (r 35), .ref (r 36), .ref (r 37), .ref (r 38), .ref (r 39), .ref (r 40), .ref (r 41), .ref (r 42), .int 0, .ref (r 44), .int 0, .int 0, .int 0, .int 0, .int 0, .ref (r 50), .ref (r 51), .ref (r 52), .int 0, .ref (r 54), .int 0, .ref (r 56), .int 0, .int 0, .int 0])), ((r 0), .inl (dA 0, 5161, .inl (fun _ => 0)))] (fun vv _ => vv = some (.int 0)) := by
  refine ms_C.mk hE.1 (by decide) (Nat.le_of_ble_eq_true rfl) [(0, .ref h), (1, .int i)] rfl ?_
  intro p e s m below meth c A ls X hin hP hD hS hl
  have hx := X.1
  have hb := X.2.1
  have hml := X.2.2.1
  have hown : s.vm.findClass "MarkupStoreModel" = some m.cls := X.2.2.2.1
  have hts := X.2.2.2.2.2.2.1
  have hK := X.2.2.2.2.2.2.2.2.1
  have hA := X.2.2.2.2.2.2.2.2.2.2
  refine lv_aload_n hx hb d81_0 rfl (lv_at hl 0 rfl) ?_
  refine lv_iload_n hx hb d81_1 rfl (lv_at hl 1 rfl) ?_
  refine ms_V (C := "MarkupStoreModel") (rest := []) (as := [.int i]) X hl (c_mwrite l D dA s0 hE h r i) (List.forall_mem_cons.mpr ⟨ms_k1800, List.forall_mem_cons.mpr ⟨ms_k1802, List.forall_mem_cons.mpr ⟨ms_p100, List.forall_mem_cons.mpr ⟨ms_k7, List.forall_mem_cons.mpr ⟨ms_k1803, fun _ h => absurd h List.not_mem_nil⟩⟩⟩⟩⟩) ⟨rfl, by decide +kernel, by decide +kernel, by decide +kernel⟩ (va_recv hK hP rfl (q0 := 0) rfl) hP hD hS [0, 1] [] rfl rfl ⟨by decide, by decide, by decide⟩ ⟨⟨Nat.le_of_ble_eq_true rfl, Nat.le_of_ble_eq_true rfl⟩, Nat.le_of_ble_eq_true rfl, Nat.le_of_ble_eq_true rfl⟩ rfl (Nat.le_of_ble_eq_true rfl) d81_2 (fun vv ww H locs hR hP hD hS => ?_)
  obtain ⟨rfl, rfl⟩ := hR
  have hP : va_P D vwCl [(h, .inr (2, [.ref (r 0), .ref (r 1), .ref (r 2), .ref (r 3), .int 0, .int 0, .ref (r 6), .int 0, .int 0, .int 0, .int 0, .int 0, .int 0, .int 0, .int 0, .ref (r 15), .ref (r 16), .ref (r 17), .int 0, .int 0, .ref (r 20), .ref (r 21), .ref (r 22), .int 0, .int 0, .ref (r 25), .ref (r 26), .ref (r 27), .ref (r 28), .ref (r 29), .ref (r 30), .int 0, .ref (r 32), .ref (r 33), .ref (r 34), .ref (r 35), .ref (r 36), .ref (r 37), .ref (r 38), .ref (r 39), .ref (r 40), .ref (r 41), .ref (r 42), .int 0, .ref (r 44), .int 0, .int 0, .int 0, .int 0, .int 0, .ref (r 50), .ref (r 51), .ref (r 52), .int 0, .ref (r 54), .int 0, .ref (r 56), .int 0, .int i, .int 0])), ((r 0), .inl (dA 0, 5161, .inl (fun _ => 0)))] H := hP
  have hD : va_D A [(h, .inr (2, [.ref (r 0), .ref (r 1), .ref (r 2), .ref (r 3), .int 0, .int 0, .ref (r 6), .int 0, .int 0, .int 0, .int 0, .int 0, .int 0, .int 0, .int 0, .ref (r 15), .ref (r 16), .ref (r 17), .int 0, .int 0, .ref (r 20), .ref (r 21), .ref (r 22), .int 0, .int 0, .ref (r 25), .ref (r 26), .ref (r 27), .ref (r 28), .ref (r 29), .ref (r 30), .int 0, .ref (r 32), .ref (r 33), .ref (r 34), .ref (r 35), .ref (r 36), .ref (r 37), .ref (r 38), .ref (r 39), .ref (r 40), .ref (r 41), .ref (r 42), .int 0, .ref (r 44), .int 0, .int 0, .int 0, .int 0, .int 0, .ref (r 50), .ref (r 51), .ref (r 52), .int 0, .ref (r 54), .int 0, .ref (r 56), .int 0, .int i, .int 0])), ((r 0), .inl (dA 0, 5161, .inl (fun _ => 0)))] := hD
  refine W.eq (g2 := F0 m 5 ls []) rfl ?_
  refine lv_aload_n hx hb d81_5 rfl (lv_at hl 0 rfl) ?_
  refine va_get (D := D) (ci := 2) (v := .int 0) (C := kR2) (T := kT2) (N := 60) hx hb hts ku2 hown hK hP 0 rfl rfl 59 (by decide) (hts _ ms_k1375) (fun _ h => h) rfl d81_6 ?_
  exact ms_iret X d81_9 hP hD hS (Nat.le_of_ble_eq_true rfl) (Nat.le_of_ble_eq_true rfl) rfl

set_option maxRecDepth 100000 in
set_option maxHeartbeats 8000000 in
theorem lp_save {p : Program} {l : Launch} {e : Env} {R : Room} {s s0 : State} {m : MethodId} {args : Array Value} {below : List Frame} {meth : Method} {c : Code} {A : Nat → Prop} {Q : State → Prop} (D : va_G) (dA : Nat → ClassId) (h : Nat) (r : Nat → Nat) (f : Nat → Int32) (X : ms_X D (ms_tys dA) s0 p s m args meth c A yM82 bM82 2 (Option.none : Option Jvm.ClassFile.FieldType))
    (kx : ∀ (g : Nat → Int32) (H : Heap) (locs : List Loc) (ls : Array Slot), va_P D vwCl [(h, .inr (2, [.ref (r 0), .ref (r 1), .ref (r 2), .ref (r 3), .int 0, .int 0, .ref (r 6), .int 0, .int 0, .int 0, .int 0, .int 0, .int 0, .int 0, .int 0, .ref (r 15), .ref (r 16), .ref (r 17), .int 0, .int 0, .ref (r 20), .ref (r 21), .ref (r 22), .int 0, .int 0, .ref (r 25), .ref (r 26), .ref (r 27), .ref (r 28), .ref (r 29), .ref (r 30), .int 0, .ref (r 32), .ref (r 33), .ref (r 34), .ref (r 35), .ref (r 36), .ref (r 37), .ref (r 38), .ref (r 39), .ref (r 40), .ref (r 41), .ref (r 42), .int 0, .ref (r 44), .int 0, .int 0, .int 0, .int 0, .int 0, .ref (r 50), .ref (r 51), .ref (r 52), .int 0, .ref (r 54), .int 0, .ref (r 56), .int 0, .int 0, .int 0])), ((r 1), .inl (dA 0, 5161, .inl g)), ((r 0), .inl (dA 0, 5161, .inl f))] H → va_D A [(h, .inr (2, [.ref (r 0), .ref (r 1), .ref (r 2), .ref (r 3), .int 0, .int 0, .ref (r 6), .int 0, .int 0, .int 0, .int 0, .int 0, .int 0, .int 0, .int 0, .ref (r 15), .ref (r 16), .ref (r 17), .int 0, .int 0, .ref (r 20), .ref (r 21), .ref (r 22), .int 0, .int 0, .ref (r 25), .ref (r 26), .ref (r 27), .ref (r 28), .ref (r 29), .ref (r 30), .int 0, .ref (r 32), .ref (r 33), .ref (r 34), .ref (r 35), .ref (r 36), .ref (r 37), .ref (r 38), .ref (r 39), .ref (r 40), .ref (r 41), .ref (r 42), .int 0, .ref (r 44), .int 0, .int 0, .int 0, .int 0, .int 0, .ref (r 50), .ref (r 51), .ref (r 52), .int 0, .ref (r 54), .int 0, .ref (r 56), .int 0, .int 0, .int 0])), ((r 1), .inl (dA 0, 5161, .inl g)), ((r 0), .inl (dA 0, 5161, .inl f))] → va_S A s.heap H locs → lv_has ls 2 [(1, .int (nI 5161)), (0, .ref h)] → W p l e R s m args below meth c H locs 0 0 Q (F0 m 27 ls [])) : ∀ (n k : Nat) (g : Nat → Int32) (H : Heap) (locs : List Loc) (ls : Array Slot), k + n = 5161 → va_P D vwCl [(h, .inr (2, [.ref (r 0), .ref (r 1), .ref (r 2), .ref (r 3), .int 0, .int 0, .ref (r 6), .int 0, .int 0, .int 0, .int 0, .int 0, .int 0, .int 0, .int 0, .ref (r 15), .ref (r 16), .ref (r 17), .int 0, .int 0, .ref (r 20), .ref (r 21), .ref (r 22), .int 0, .int 0, .ref (r 25), .ref (r 26), .ref (r 27), .ref (r 28), .ref (r 29), .ref (r 30), .int 0, .ref (r 32), .ref (r 33), .ref (r 34), .ref (r 35), .ref (r 36), .ref (r 37), .ref (r 38), .ref (r 39), .ref (r 40), .ref (r 41), .ref (r 42), .int 0, .ref (r 44), .int 0, .int 0, .int 0, .int 0, .int 0, .ref (r 50), .ref (r 51), .ref (r 52), .int 0, .ref (r 54), .int 0, .ref (r 56), .int 0, .int 0, .int 0])), ((r 1), .inl (dA 0, 5161, .inl g)), ((r 0), .inl (dA 0, 5161, .inl f))] H → va_D A [(h, .inr (2, [.ref (r 0), .ref (r 1), .ref (r 2), .ref (r 3), .int 0, .int 0, .ref (r 6), .int 0, .int 0, .int 0, .int 0, .int 0, .int 0, .int 0, .int 0, .ref (r 15), .ref (r 16), .ref (r 17), .int 0, .int 0, .ref (r 20), .ref (r 21), .ref (r 22), .int 0, .int 0, .ref (r 25), .ref (r 26), .ref (r 27), .ref (r 28), .ref (r 29), .ref (r 30), .int 0, .ref (r 32), .ref (r 33), .ref (r 34), .ref (r 35), .ref (r 36), .ref (r 37), .ref (r 38), .ref (r 39), .ref (r 40), .ref (r 41), .ref (r 42), .int 0, .ref (r 44), .int 0, .int 0, .int 0, .int 0, .int 0, .ref (r 50), .ref (r 51), .ref (r 52), .int 0, .ref (r 54), .int 0, .ref (r 56), .int 0, .int 0, .int 0])), ((r 1), .inl (dA 0, 5161, .inl g)), ((r 0), .inl (dA 0, 5161, .inl f))] → va_S A s.heap H locs → lv_has ls 2 [(1, .int (nI k)), (0, .ref h)] → W p l e R s m args below meth c H locs 0 0 Q (F0 m 2 ls []) := by
  have hx := X.1
  have hb := X.2.1
  have hml := X.2.2.1
  have hown : s.vm.findClass "MarkupStoreModel" = some m.cls := X.2.2.2.1
  have hts := X.2.2.2.2.2.2.1
  have hK := X.2.2.2.2.2.2.2.2.1
  intro n
  induction n with
  | zero =>
    intro k g H locs ls hk hP hD hS hl
    obtain rfl : k = 5161 := by omega
    refine lv_iload_n hx hb d82_2 rfl (lv_at hl 0 rfl) ?_
    refine lv_sipush (v := 5161) hx hb d82_3 (by decide) ?_
    refine lv_icmp_ge hx hb d82_6 rfl (fun _ => ?_) (fun h9 => absurd (by decide) h9)
    exact kx g H locs ls hP hD hS hl
  | succ n ih =>
    intro k g H locs ls hk hP hD hS hl
    refine lv_iload_n hx hb d82_2 rfl (lv_at hl 0 rfl) ?_
    refine lv_sipush (v := 5161) hx hb d82_3 (by decide) ?_
    refine lv_icmp_ge hx hb d82_6 rfl (fun h9 => absurd h9 (show ¬ ((5161 : Int32) ≤ nI k) from nI_ge (a := k) (b := 5161) (by omega) (by decide))) (fun _ => ?_)
    refine lv_aload_n hx hb d82_9 rfl (lv_at hl 1 rfl) ?_
    refine va_get (D := D) (ci := 2) (v := .ref (r 1)) (C := kR2) (T := kT2) (N := 60) hx hb hts ku2 hown hK hP 0 rfl rfl 1 (by decide) (hts _ ms_k1317) (fun _ h => h) rfl d82_10 ?_
    refine lv_iload_n hx hb d82_13 rfl (lv_at hl 0 rfl) ?_
    refine lv_aload_n hx hb d82_14 rfl (lv_at hl 1 rfl) ?_
    refine va_get (D := D) (ci := 2) (v := .ref (r 0)) (C := kR2) (T := kT2) (N := 60) hx hb hts ku2 hown hK hP 0 rfl rfl 0 (by decide) (hts _ ms_k1316) (fun _ h => h) rfl d82_15 ?_
    refine lv_iload_n hx hb d82_18 rfl (lv_at hl 0 rfl) ?_
    refine va_iald hx hb hK hP 2 0 rfl rfl (vp_in_nI (by omega) (by decide)) d82_19 ?_
    refine va_iast hx hb hK hP hD hS 1 0 rfl rfl (vp_in_nI (by omega) (by decide)) d82_20 (fun H locs hP hD hS => ?_)
    have hP : va_P D vwCl [(h, .inr (2, [.ref (r 0), .ref (r 1), .ref (r 2), .ref (r 3), .int 0, .int 0, .ref (r 6), .int 0, .int 0, .int 0, .int 0, .int 0, .int 0, .int 0, .int 0, .ref (r 15), .ref (r 16), .ref (r 17), .int 0, .int 0, .ref (r 20), .ref (r 21), .ref (r 22), .int 0, .int 0, .ref (r 25), .ref (r 26), .ref (r 27), .ref (r 28), .ref (r 29), .ref (r 30), .int 0, .ref (r 32), .ref (r 33), .ref (r 34), .ref (r 35), .ref (r 36), .ref (r 37), .ref (r 38), .ref (r 39), .ref (r 40), .ref (r 41), .ref (r 42), .int 0, .ref (r 44), .int 0, .int 0, .int 0, .int 0, .int 0, .ref (r 50), .ref (r 51), .ref (r 52), .int 0, .ref (r 54), .int 0, .ref (r 56), .int 0, .int 0, .int 0])), ((r 1), .inl (dA 0, 5161, .inl (upd g (nI k).toNatClampNeg (f (nI k).toNatClampNeg)))), ((r 0), .inl (dA 0, 5161, .inl f))] H := hP
    have hD : va_D A [(h, .inr (2, [.ref (r 0), .ref (r 1), .ref (r 2), .ref (r 3), .int 0, .int 0, .ref (r 6), .int 0, .int 0, .int 0, .int 0, .int 0, .int 0, .int 0, .int 0, .ref (r 15), .ref (r 16), .ref (r 17), .int 0, .int 0, .ref (r 20), .ref (r 21), .ref (r 22), .int 0, .int 0, .ref (r 25), .ref (r 26), .ref (r 27), .ref (r 28), .ref (r 29), .ref (r 30), .int 0, .ref (r 32), .ref (r 33), .ref (r 34), .ref (r 35), .ref (r 36), .ref (r 37), .ref (r 38), .ref (r 39), .ref (r 40), .ref (r 41), .ref (r 42), .int 0, .ref (r 44), .int 0, .int 0, .int 0, .int 0, .int 0, .ref (r 50), .ref (r 51), .ref (r 52), .int 0, .ref (r 54), .int 0, .ref (r 56), .int 0, .int 0, .int 0])), ((r 1), .inl (dA 0, 5161, .inl (upd g (nI k).toNatClampNeg (f (nI k).toNatClampNeg)))), ((r 0), .inl (dA 0, 5161, .inl f))] := hD
    refine lv_iinc (k := 0) (v := (nI (k + 1))) hx hb d82_21 hl rfl (nI_1 k) (by decide) rfl (fun ls hl => ?_)
    have hl : lv_has ls 2 [(1, .int (nI (k + 1))), (0, .ref h)] := hl
    refine lv_goto hx hb d82_24 rfl ?_
    exact ih (k + 1) _ H locs ls (by omega) hP hD hS hl

set_option maxRecDepth 100000 in
set_option maxHeartbeats 8000000 in
theorem c_msave (l : Launch) (D : va_G) (dA : Nat → ClassId) (s0 : State) (hE : ms_EV D dA s0) (h : Nat) (r : Nat → Nat) : ms_C l D s0 yM82 bM82 2 (Option.none : Option Jvm.ClassFile.FieldType) 0 0 0 0 [.ref h] [(h, .inr (2, [.ref (r 0), .ref (r 1), .ref (r 2), .ref (r 3), .int 0, .int 0, .ref (r 6), .int 0, .int 0, .int 0, .int 0, .int 0, .int 0, .int 0, .int 0, .ref (r 15), .ref (r 16), .ref (r 17), .int 0, .int 0, .ref (r 20), .ref (r 21), .ref (r 22), .int 0, .int 0, .ref (r 25), .ref (r 26), .ref (r 27), .ref (r 28), .ref (r 29), .ref (r 30), .int 0, .ref (r 32), .ref (r 33), .ref (r 34), .ref (r 35), .ref (r 36), .ref (r 37), .ref (r 38), .ref (r 39), .ref (r 40), .ref (r 41), .ref (r 42), .int 0, .ref (r 44), .int 0, .int 0, .int 0, .int 0, .int 0, .ref (r 50), .ref (r 51), .ref (r 52), .int 0, .ref (r 54), .int 0, .ref (r 56), .int 0, .int 0, .int 0])), ((r 1), .inl (dA 0, 5161, .inl (fun _ => 0))), ((r 0), .inl (dA 0, 5161, .inl (fun _ => 0)))] (fun vv ww => vv = none ∧ ww = [(h, .inr (2, [.ref (r 0), .ref (r 1), .ref (r 2), .ref (r 3), .int 0, .int 0, .ref (r 6), .int 0, .int 0, .int 0, .int 0, .int 0, .int 0, .int 0, .int 0, .ref (r 15), .ref (r 16), .ref (r 17), .int 0, .int 0, .ref (r 20), .ref (r 21), .ref (r 22), .int 0, .int 0, .ref (r 25), .ref (r 26), .ref (r 27), .ref (r 28), .ref (r 29), .ref (r 30), .int 0, .ref (r 32), .ref (r 33), .ref (r 34), .ref (r 35), .ref (r 36), .ref (r 37), .ref (r 38), .ref (r 39), .ref (r 40), .ref (r 41), .ref (r 42), .int 0, .ref (r 44), .int 0, .int 0, .int 0, .int 0, .int 0, .ref (r 50), .ref (r 51), .ref (r 52), .int 0, .ref (r 54), .int 0, .ref (r 56), .int 0, .int 0, .int 0])), ((r 0), .inl (dA 0, 5161, .inl (fun _ => 0)))]) := by
  refine ms_C.mk hE.1 (by decide) (Nat.le_of_ble_eq_true rfl) [(0, .ref h)] rfl ?_
  intro p e s m below meth c A ls X hin hP hD hS hl
  have hx := X.1
  have hb := X.2.1
  have hml := X.2.2.1
  have hown : s.vm.findClass "MarkupStoreModel" = some m.cls := X.2.2.2.1
  have hts := X.2.2.2.2.2.2.1
  have hK := X.2.2.2.2.2.2.2.2.1
  have hA := X.2.2.2.2.2.2.2.2.2.2
  refine lv_iconst (v := 0) hx hb d82_0 (by decide) ?_
  refine lv_istore_n hx hb d82_1 rfl hl (by decide) rfl (fun ls hl => ?_)
  have hl : lv_has ls 2 [(1, .int 0), (0, .ref h)] := hl
  refine lp_save D dA h r _ X (fun g H locs ls hP hD hS hl => ?_) 5161 0 _ _ _ _ rfl hP hD hS hl
  have hP : va_P D vwCl [(h, .inr (2, [.ref (r 0), .ref (r 1), .ref (r 2), .ref (r 3), .int 0, .int 0, .ref (r 6), .int 0, .int 0, .int 0, .int 0, .int 0, .int 0, .int 0, .int 0, .ref (r 15), .ref (r 16), .ref (r 17), .int 0, .int 0, .ref (r 20), .ref (r 21), .ref (r 22), .int 0, .int 0, .ref (r 25), .ref (r 26), .ref (r 27), .ref (r 28), .ref (r 29), .ref (r 30), .int 0, .ref (r 32), .ref (r 33), .ref (r 34), .ref (r 35), .ref (r 36), .ref (r 37), .ref (r 38), .ref (r 39), .ref (r 40), .ref (r 41), .ref (r 42), .int 0, .ref (r 44), .int 0, .int 0, .int 0, .int 0, .int 0, .ref (r 50), .ref (r 51), .ref (r 52), .int 0, .ref (r 54), .int 0, .ref (r 56), .int 0, .int 0, .int 0])), ((r 1), .inl (dA 0, 5161, .inl g)), ((r 0), .inl (dA 0, 5161, .inl (fun _ => 0)))] H := hP
  have hD : va_D A [(h, .inr (2, [.ref (r 0), .ref (r 1), .ref (r 2), .ref (r 3), .int 0, .int 0, .ref (r 6), .int 0, .int 0, .int 0, .int 0, .int 0, .int 0, .int 0, .int 0, .ref (r 15), .ref (r 16), .ref (r 17), .int 0, .int 0, .ref (r 20), .ref (r 21), .ref (r 22), .int 0, .int 0, .ref (r 25), .ref (r 26), .ref (r 27), .ref (r 28), .ref (r 29), .ref (r 30), .int 0, .ref (r 32), .ref (r 33), .ref (r 34), .ref (r 35), .ref (r 36), .ref (r 37), .ref (r 38), .ref (r 39), .ref (r 40), .ref (r 41), .ref (r 42), .int 0, .ref (r 44), .int 0, .int 0, .int 0, .int 0, .int 0, .ref (r 50), .ref (r 51), .ref (r 52), .int 0, .ref (r 54), .int 0, .ref (r 56), .int 0, .int 0, .int 0])), ((r 1), .inl (dA 0, 5161, .inl g)), ((r 0), .inl (dA 0, 5161, .inl (fun _ => 0)))] := hD
  refine lv_aload_n hx hb d82_27 rfl (lv_at hl 1 rfl) ?_
  refine lv_iconst (v := 0) hx hb d82_28 (by decide) ?_
  refine va_put (D := D) (ci := 2) (v := .int 0) (ty := .int) (C := kR2) (T := kT2) (N := 60) hx hb hts ku2 kt2 kp2 kn2 hown hK hP hD hS 0 rfl rfl 5 (by decide) (hts _ ms_k1321) (fun _ h => h) rfl (by decide +kernel) rfl rfl (Nat.le_of_ble_eq_true rfl) d82_29 (fun H locs hP hD hS => ?_)
  have hP : va_P D vwCl [(h, .inr (2, [.ref (r 0), .ref (r 1), .ref (r 2), .ref (r 3), .int 0, .int 0, .ref (r 6), .int 0, .int 0, .int 0, .int 0, .int 0, .int 0, .int 0, .int 0, .ref (r 15), .ref (r 16), .ref (r 17), .int 0, .int 0, .ref (r 20), .ref (r 21), .ref (r 22), .int 0, .int 0, .ref (r 25), .ref (r 26), .ref (r 27), .ref (r 28), .ref (r 29), .ref (r 30), .int 0, .ref (r 32), .ref (r 33), .ref (r 34), .ref (r 35), .ref (r 36), .ref (r 37), .ref (r 38), .ref (r 39), .ref (r 40), .ref (r 41), .ref (r 42), .int 0, .ref (r 44), .int 0, .int 0, .int 0, .int 0, .int 0, .ref (r 50), .ref (r 51), .ref (r 52), .int 0, .ref (r 54), .int 0, .ref (r 56), .int 0, .int 0, .int 0])), ((r 1), .inl (dA 0, 5161, .inl g)), ((r 0), .inl (dA 0, 5161, .inl (fun _ => 0)))] H := hP
  have hD : va_D A [(h, .inr (2, [.ref (r 0), .ref (r 1), .ref (r 2), .ref (r 3), .int 0, .int 0, .ref (r 6), .int 0, .int 0, .int 0, .int 0, .int 0, .int 0, .int 0, .int 0, .ref (r 15), .ref (r 16), .ref (r 17), .int 0, .int 0, .ref (r 20), .ref (r 21), .ref (r 22), .int 0, .int 0, .ref (r 25), .ref (r 26), .ref (r 27), .ref (r 28), .ref (r 29), .ref (r 30), .int 0, .ref (r 32), .ref (r 33), .ref (r 34), .ref (r 35), .ref (r 36), .ref (r 37), .ref (r 38), .ref (r 39), .ref (r 40), .ref (r 41), .ref (r 42), .int 0, .ref (r 44), .int 0, .int 0, .int 0, .int 0, .int 0, .ref (r 50), .ref (r 51), .ref (r 52), .int 0, .ref (r 54), .int 0, .ref (r 56), .int 0, .int 0, .int 0])), ((r 1), .inl (dA 0, 5161, .inl g)), ((r 0), .inl (dA 0, 5161, .inl (fun _ => 0)))] := hD
  have hP := hP.sub (ws' := [(h, .inr (2, [.ref (r 0), .ref (r 1), .ref (r 2), .ref (r 3), .int 0, .int 0, .ref (r 6), .int 0, .int 0, .int 0, .int 0, .int 0, .int 0, .int 0, .int 0, .ref (r 15), .ref (r 16), .ref (r 17), .int 0, .int 0, .ref (r 20), .ref (r 21), .ref (r 22), .int 0, .int 0, .ref (r 25), .ref (r 26), .ref (r 27), .ref (r 28), .ref (r 29), .ref (r 30), .int 0, .ref (r 32), .ref (r 33), .ref (r 34), .ref (r 35), .ref (r 36), .ref (r 37), .ref (r 38), .ref (r 39), .ref (r 40), .ref (r 41), .ref (r 42), .int 0, .ref (r 44), .int 0, .int 0, .int 0, .int 0, .int 0, .ref (r 50), .ref (r 51), .ref (r 52), .int 0, .ref (r 54), .int 0, .ref (r 56), .int 0, .int 0, .int 0])), ((r 0), .inl (dA 0, 5161, .inl (fun _ => 0)))]) [0, 2] rfl
  have hD := hD.sub (ws' := [(h, .inr (2, [.ref (r 0), .ref (r 1), .ref (r 2), .ref (r 3), .int 0, .int 0, .ref (r 6), .int 0, .int 0, .int 0, .int 0, .int 0, .int 0, .int 0, .int 0, .ref (r 15), .ref (r 16), .ref (r 17), .int 0, .int 0, .ref (r 20), .ref (r 21), .ref (r 22), .int 0, .int 0, .ref (r 25), .ref (r 26), .ref (r 27), .ref (r 28), .ref (r 29), .ref (r 30), .int 0, .ref (r 32), .ref (r 33), .ref (r 34), .ref (r 35), .ref (r 36), .ref (r 37), .ref (r 38), .ref (r 39), .ref (r 40), .ref (r 41), .ref (r 42), .int 0, .ref (r 44), .int 0, .int 0, .int 0, .int 0, .int 0, .ref (r 50), .ref (r 51), .ref (r 52), .int 0, .ref (r 54), .int 0, .ref (r 56), .int 0, .int 0, .int 0])), ((r 0), .inl (dA 0, 5161, .inl (fun _ => 0)))]) [0, 2] (by decide) rfl
  exact ms_vret X d82_32 hP hD hS (Nat.le_of_ble_eq_true rfl) (Nat.le_of_ble_eq_true rfl) (⟨rfl, rfl⟩)

set_option maxRecDepth 100000 in
set_option maxHeartbeats 8000000 in
theorem c_mcommit (l : Launch) (D : va_G) (dA : Nat → ClassId) (s0 : State) (hE : ms_EV D dA s0) (h : Nat) (r : Nat → Nat) : ms_C l D s0 yM83 bM83 2 (Option.some Jvm.ClassFile.FieldType.int) 1 21 0 0 [.ref h] [(h, .inr (2, [.ref (r 0), .ref (r 1), .ref (r 2), .ref (r 3), .int 0, .int 0, .ref (r 6), .int 0, .int 0, .int 0, .int 0, .int 0, .int 0, .int 0, .int 0, .ref (r 15), .ref (r 16), .ref (r 17), .int 0, .int 0, .ref (r 20), .ref (r 21), .ref (r 22), .int 0, .int 0, .ref (r 25), .ref (r 26), .ref (r 27), .ref (r 28), .ref (r 29), .ref (r 30), .int 0, .ref (r 32), .ref (r 33), .ref (r 34), .ref (r 35), .ref (r 36), .ref (r 37), .ref (r 38), .ref (r 39), .ref (r 40), .ref (r 41), .ref (r 42), .int 0, .ref (r 44), .int 0, .int 0, .int 0, .int 0, .int 0, .ref (r 50), .ref (r 51), .ref (r 52), .int 0, .ref (r 54), .int 0, .ref (r 56), .int 0, .int 0, .int 0])), ((r 1), .inl (dA 0, 5161, .inl (fun _ => 0))), ((r 0), .inl (dA 0, 5161, .inl (fun _ => 0)))] (fun vv _ => vv = some (.int 0)) := by
  refine ms_C.mk hE.1 (by decide) (Nat.le_of_ble_eq_true rfl) [(0, .ref h)] rfl ?_
  intro p e s m below meth c A ls X hin hP hD hS hl
  have hx := X.1
  have hb := X.2.1
  have hml := X.2.2.1
  have hown : s.vm.findClass "MarkupStoreModel" = some m.cls := X.2.2.2.1
  have hts := X.2.2.2.2.2.2.1
  have hK := X.2.2.2.2.2.2.2.2.1
  have hA := X.2.2.2.2.2.2.2.2.2.2
  refine lv_aload_n hx hb d83_0 rfl (lv_at hl 0 rfl) ?_
  refine va_get (D := D) (ci := 2) (v := .int 0) (C := kR2) (T := kT2) (N := 60) hx hb hts ku2 hown hK hP 0 rfl rfl 5 (by decide) (hts _ ms_k1321) (fun _ h => h) rfl d83_1 ?_
  refine lv_istore_n hx hb d83_4 rfl hl (by decide) rfl (fun ls hl => ?_)
  have hl : lv_has ls 2 [(1, .int 0), (0, .ref h)] := hl
  refine lv_aload_n hx hb d83_5 rfl (lv_at hl 1 rfl) ?_
  refine ms_V (C := "MarkupStoreModel") (rest := []) (as := []) X hl (c_msave l D dA s0 hE h r) (List.forall_mem_cons.mpr ⟨ms_k1595, List.forall_mem_cons.mpr ⟨ms_k1597, List.forall_mem_cons.mpr ⟨ms_p65, List.forall_mem_cons.mpr ⟨ms_k7, List.forall_mem_cons.mpr ⟨ms_k1598, fun _ h => absurd h List.not_mem_nil⟩⟩⟩⟩⟩) ⟨rfl, by decide +kernel, by decide +kernel, by decide +kernel⟩ (va_recv hK hP rfl (q0 := 0) rfl) hP hD hS [0, 1, 2] [] rfl rfl ⟨by decide, by decide, by decide⟩ ⟨⟨Nat.le_of_ble_eq_true rfl, Nat.le_of_ble_eq_true rfl⟩, Nat.le_of_ble_eq_true rfl, Nat.le_of_ble_eq_true rfl⟩ rfl (Nat.le_of_ble_eq_true rfl) d83_6 (fun vv ww H locs hR hP hD hS => ?_)
  obtain ⟨rfl, rfl⟩ := hR
  have hP : va_P D vwCl [(h, .inr (2, [.ref (r 0), .ref (r 1), .ref (r 2), .ref (r 3), .int 0, .int 0, .ref (r 6), .int 0, .int 0, .int 0, .int 0, .int 0, .int 0, .int 0, .int 0, .ref (r 15), .ref (r 16), .ref (r 17), .int 0, .int 0, .ref (r 20), .ref (r 21), .ref (r 22), .int 0, .int 0, .ref (r 25), .ref (r 26), .ref (r 27), .ref (r 28), .ref (r 29), .ref (r 30), .int 0, .ref (r 32), .ref (r 33), .ref (r 34), .ref (r 35), .ref (r 36), .ref (r 37), .ref (r 38), .ref (r 39), .ref (r 40), .ref (r 41), .ref (r 42), .int 0, .ref (r 44), .int 0, .int 0, .int 0, .int 0, .int 0, .ref (r 50), .ref (r 51), .ref (r 52), .int 0, .ref (r 54), .int 0, .ref (r 56), .int 0, .int 0, .int 0])), ((r 0), .inl (dA 0, 5161, .inl (fun _ => 0)))] H := hP
  have hD : va_D A [(h, .inr (2, [.ref (r 0), .ref (r 1), .ref (r 2), .ref (r 3), .int 0, .int 0, .ref (r 6), .int 0, .int 0, .int 0, .int 0, .int 0, .int 0, .int 0, .int 0, .ref (r 15), .ref (r 16), .ref (r 17), .int 0, .int 0, .ref (r 20), .ref (r 21), .ref (r 22), .int 0, .int 0, .ref (r 25), .ref (r 26), .ref (r 27), .ref (r 28), .ref (r 29), .ref (r 30), .int 0, .ref (r 32), .ref (r 33), .ref (r 34), .ref (r 35), .ref (r 36), .ref (r 37), .ref (r 38), .ref (r 39), .ref (r 40), .ref (r 41), .ref (r 42), .int 0, .ref (r 44), .int 0, .int 0, .int 0, .int 0, .int 0, .ref (r 50), .ref (r 51), .ref (r 52), .int 0, .ref (r 54), .int 0, .ref (r 56), .int 0, .int 0, .int 0])), ((r 0), .inl (dA 0, 5161, .inl (fun _ => 0)))] := hD
  refine W.eq (g2 := F0 m 9 ls []) rfl ?_
  refine lv_iload_n hx hb d83_9 rfl (lv_at hl 0 rfl) ?_
  exact ms_iret X d83_10 hP hD hS (Nat.le_of_ble_eq_true rfl) (Nat.le_of_ble_eq_true rfl) rfl

set_option maxRecDepth 100000 in
set_option maxHeartbeats 8000000 in
theorem lp_crash {p : Program} {l : Launch} {e : Env} {R : Room} {s s0 : State} {m : MethodId} {args : Array Value} {below : List Frame} {meth : Method} {c : Code} {A : Nat → Prop} {Q : State → Prop} (D : va_G) (dA : Nat → ClassId) (h : Nat) (r : Nat → Nat) (f : Nat → Int32) (X : ms_X D (ms_tys dA) s0 p s m args meth c A yM84 bM84 3 (Option.some Jvm.ClassFile.FieldType.int))
    (kx : ∀ (g : Nat → Int32) (H : Heap) (locs : List Loc) (ls : Array Slot), va_P D vwCl [(h, .inr (2, [.ref (r 0), .ref (r 1), .ref (r 2), .ref (r 3), .int 0, .int 0, .ref (r 6), .int 0, .int 0, .int 0, .int 0, .int 0, .int 0, .int 0, .int 0, .ref (r 15), .ref (r 16), .ref (r 17), .int 0, .int 0, .ref (r 20), .ref (r 21), .ref (r 22), .int 0, .int 0, .ref (r 25), .ref (r 26), .ref (r 27), .ref (r 28), .ref (r 29), .ref (r 30), .int 0, .ref (r 32), .ref (r 33), .ref (r 34), .ref (r 35), .ref (r 36), .ref (r 37), .ref (r 38), .ref (r 39), .ref (r 40), .ref (r 41), .ref (r 42), .int 0, .ref (r 44), .int 0, .int 0, .int 0, .int 0, .int 0, .ref (r 50), .ref (r 51), .ref (r 52), .int 0, .ref (r 54), .int 0, .ref (r 56), .int 0, .int 0, .int 0])), ((r 0), .inl (dA 0, 5161, .inl g)), ((r 1), .inl (dA 0, 5161, .inl f))] H → va_D A [(h, .inr (2, [.ref (r 0), .ref (r 1), .ref (r 2), .ref (r 3), .int 0, .int 0, .ref (r 6), .int 0, .int 0, .int 0, .int 0, .int 0, .int 0, .int 0, .int 0, .ref (r 15), .ref (r 16), .ref (r 17), .int 0, .int 0, .ref (r 20), .ref (r 21), .ref (r 22), .int 0, .int 0, .ref (r 25), .ref (r 26), .ref (r 27), .ref (r 28), .ref (r 29), .ref (r 30), .int 0, .ref (r 32), .ref (r 33), .ref (r 34), .ref (r 35), .ref (r 36), .ref (r 37), .ref (r 38), .ref (r 39), .ref (r 40), .ref (r 41), .ref (r 42), .int 0, .ref (r 44), .int 0, .int 0, .int 0, .int 0, .int 0, .ref (r 50), .ref (r 51), .ref (r 52), .int 0, .ref (r 54), .int 0, .ref (r 56), .int 0, .int 0, .int 0])), ((r 0), .inl (dA 0, 5161, .inl g)), ((r 1), .inl (dA 0, 5161, .inl f))] → va_S A s.heap H locs → lv_has ls 3 [(2, .int (nI 5161)), (1, .int 0), (0, .ref h)] → W p l e R s m args below meth c H locs 0 0 Q (F0 m 32 ls [])) : ∀ (n k : Nat) (g : Nat → Int32) (H : Heap) (locs : List Loc) (ls : Array Slot), k + n = 5161 → va_P D vwCl [(h, .inr (2, [.ref (r 0), .ref (r 1), .ref (r 2), .ref (r 3), .int 0, .int 0, .ref (r 6), .int 0, .int 0, .int 0, .int 0, .int 0, .int 0, .int 0, .int 0, .ref (r 15), .ref (r 16), .ref (r 17), .int 0, .int 0, .ref (r 20), .ref (r 21), .ref (r 22), .int 0, .int 0, .ref (r 25), .ref (r 26), .ref (r 27), .ref (r 28), .ref (r 29), .ref (r 30), .int 0, .ref (r 32), .ref (r 33), .ref (r 34), .ref (r 35), .ref (r 36), .ref (r 37), .ref (r 38), .ref (r 39), .ref (r 40), .ref (r 41), .ref (r 42), .int 0, .ref (r 44), .int 0, .int 0, .int 0, .int 0, .int 0, .ref (r 50), .ref (r 51), .ref (r 52), .int 0, .ref (r 54), .int 0, .ref (r 56), .int 0, .int 0, .int 0])), ((r 0), .inl (dA 0, 5161, .inl g)), ((r 1), .inl (dA 0, 5161, .inl f))] H → va_D A [(h, .inr (2, [.ref (r 0), .ref (r 1), .ref (r 2), .ref (r 3), .int 0, .int 0, .ref (r 6), .int 0, .int 0, .int 0, .int 0, .int 0, .int 0, .int 0, .int 0, .ref (r 15), .ref (r 16), .ref (r 17), .int 0, .int 0, .ref (r 20), .ref (r 21), .ref (r 22), .int 0, .int 0, .ref (r 25), .ref (r 26), .ref (r 27), .ref (r 28), .ref (r 29), .ref (r 30), .int 0, .ref (r 32), .ref (r 33), .ref (r 34), .ref (r 35), .ref (r 36), .ref (r 37), .ref (r 38), .ref (r 39), .ref (r 40), .ref (r 41), .ref (r 42), .int 0, .ref (r 44), .int 0, .int 0, .int 0, .int 0, .int 0, .ref (r 50), .ref (r 51), .ref (r 52), .int 0, .ref (r 54), .int 0, .ref (r 56), .int 0, .int 0, .int 0])), ((r 0), .inl (dA 0, 5161, .inl g)), ((r 1), .inl (dA 0, 5161, .inl f))] → va_S A s.heap H locs → lv_has ls 3 [(2, .int (nI k)), (1, .int 0), (0, .ref h)] → W p l e R s m args below meth c H locs 0 0 Q (F0 m 7 ls []) := by
  have hx := X.1
  have hb := X.2.1
  have hml := X.2.2.1
  have hown : s.vm.findClass "MarkupStoreModel" = some m.cls := X.2.2.2.1
  have hts := X.2.2.2.2.2.2.1
  have hK := X.2.2.2.2.2.2.2.2.1
  intro n
  induction n with
  | zero =>
    intro k g H locs ls hk hP hD hS hl
    obtain rfl : k = 5161 := by omega
    refine lv_iload_n hx hb d84_7 rfl (lv_at hl 0 rfl) ?_
    refine lv_sipush (v := 5161) hx hb d84_8 (by decide) ?_
    refine lv_icmp_ge hx hb d84_11 rfl (fun _ => ?_) (fun h9 => absurd (by decide) h9)
    exact kx g H locs ls hP hD hS hl
  | succ n ih =>
    intro k g H locs ls hk hP hD hS hl
    refine lv_iload_n hx hb d84_7 rfl (lv_at hl 0 rfl) ?_
    refine lv_sipush (v := 5161) hx hb d84_8 (by decide) ?_
    refine lv_icmp_ge hx hb d84_11 rfl (fun h9 => absurd h9 (show ¬ ((5161 : Int32) ≤ nI k) from nI_ge (a := k) (b := 5161) (by omega) (by decide))) (fun _ => ?_)
    refine lv_aload_n hx hb d84_14 rfl (lv_at hl 2 rfl) ?_
    refine va_get (D := D) (ci := 2) (v := .ref (r 0)) (C := kR2) (T := kT2) (N := 60) hx hb hts ku2 hown hK hP 0 rfl rfl 0 (by decide) (hts _ ms_k1316) (fun _ h => h) rfl d84_15 ?_
    refine lv_iload_n hx hb d84_18 rfl (lv_at hl 0 rfl) ?_
    refine lv_aload_n hx hb d84_19 rfl (lv_at hl 2 rfl) ?_
    refine va_get (D := D) (ci := 2) (v := .ref (r 1)) (C := kR2) (T := kT2) (N := 60) hx hb hts ku2 hown hK hP 0 rfl rfl 1 (by decide) (hts _ ms_k1317) (fun _ h => h) rfl d84_20 ?_
    refine lv_iload_n hx hb d84_23 rfl (lv_at hl 0 rfl) ?_
    refine va_iald hx hb hK hP 2 0 rfl rfl (vp_in_nI (by omega) (by decide)) d84_24 ?_
    refine va_iast hx hb hK hP hD hS 1 0 rfl rfl (vp_in_nI (by omega) (by decide)) d84_25 (fun H locs hP hD hS => ?_)
    have hP : va_P D vwCl [(h, .inr (2, [.ref (r 0), .ref (r 1), .ref (r 2), .ref (r 3), .int 0, .int 0, .ref (r 6), .int 0, .int 0, .int 0, .int 0, .int 0, .int 0, .int 0, .int 0, .ref (r 15), .ref (r 16), .ref (r 17), .int 0, .int 0, .ref (r 20), .ref (r 21), .ref (r 22), .int 0, .int 0, .ref (r 25), .ref (r 26), .ref (r 27), .ref (r 28), .ref (r 29), .ref (r 30), .int 0, .ref (r 32), .ref (r 33), .ref (r 34), .ref (r 35), .ref (r 36), .ref (r 37), .ref (r 38), .ref (r 39), .ref (r 40), .ref (r 41), .ref (r 42), .int 0, .ref (r 44), .int 0, .int 0, .int 0, .int 0, .int 0, .ref (r 50), .ref (r 51), .ref (r 52), .int 0, .ref (r 54), .int 0, .ref (r 56), .int 0, .int 0, .int 0])), ((r 0), .inl (dA 0, 5161, .inl (upd g (nI k).toNatClampNeg (f (nI k).toNatClampNeg)))), ((r 1), .inl (dA 0, 5161, .inl f))] H := hP
    have hD : va_D A [(h, .inr (2, [.ref (r 0), .ref (r 1), .ref (r 2), .ref (r 3), .int 0, .int 0, .ref (r 6), .int 0, .int 0, .int 0, .int 0, .int 0, .int 0, .int 0, .int 0, .ref (r 15), .ref (r 16), .ref (r 17), .int 0, .int 0, .ref (r 20), .ref (r 21), .ref (r 22), .int 0, .int 0, .ref (r 25), .ref (r 26), .ref (r 27), .ref (r 28), .ref (r 29), .ref (r 30), .int 0, .ref (r 32), .ref (r 33), .ref (r 34), .ref (r 35), .ref (r 36), .ref (r 37), .ref (r 38), .ref (r 39), .ref (r 40), .ref (r 41), .ref (r 42), .int 0, .ref (r 44), .int 0, .int 0, .int 0, .int 0, .int 0, .ref (r 50), .ref (r 51), .ref (r 52), .int 0, .ref (r 54), .int 0, .ref (r 56), .int 0, .int 0, .int 0])), ((r 0), .inl (dA 0, 5161, .inl (upd g (nI k).toNatClampNeg (f (nI k).toNatClampNeg)))), ((r 1), .inl (dA 0, 5161, .inl f))] := hD
    refine lv_iinc (k := 0) (v := (nI (k + 1))) hx hb d84_26 hl rfl (nI_1 k) (by decide) rfl (fun ls hl => ?_)
    have hl : lv_has ls 3 [(2, .int (nI (k + 1))), (1, .int 0), (0, .ref h)] := hl
    refine lv_goto hx hb d84_29 rfl ?_
    exact ih (k + 1) _ H locs ls (by omega) hP hD hS hl

set_option maxRecDepth 100000 in
set_option maxHeartbeats 8000000 in
theorem c_mcrash (l : Launch) (D : va_G) (dA : Nat → ClassId) (s0 : State) (hE : ms_EV D dA s0) (h : Nat) (r : Nat → Nat) : ms_C l D s0 yM84 bM84 3 (Option.some Jvm.ClassFile.FieldType.int) 0 0 0 0 [.ref h] [(h, .inr (2, [.ref (r 0), .ref (r 1), .ref (r 2), .ref (r 3), .int 0, .int 0, .ref (r 6), .int 0, .int 0, .int 0, .int 0, .int 0, .int 0, .int 0, .int 0, .ref (r 15), .ref (r 16), .ref (r 17), .int 0, .int 0, .ref (r 20), .ref (r 21), .ref (r 22), .int 0, .int 0, .ref (r 25), .ref (r 26), .ref (r 27), .ref (r 28), .ref (r 29), .ref (r 30), .int 0, .ref (r 32), .ref (r 33), .ref (r 34), .ref (r 35), .ref (r 36), .ref (r 37), .ref (r 38), .ref (r 39), .ref (r 40), .ref (r 41), .ref (r 42), .int 0, .ref (r 44), .int 0, .int 0, .int 0, .int 0, .int 0, .ref (r 50), .ref (r 51), .ref (r 52), .int 0, .ref (r 54), .int 0, .ref (r 56), .int 0, .int 0, .int 0])), ((r 0), .inl (dA 0, 5161, .inl (fun _ => 0))), ((r 1), .inl (dA 0, 5161, .inl (fun _ => 0)))] (fun vv _ => vv = some (.int 0)) := by
  refine ms_C.mk hE.1 (by decide) (Nat.le_of_ble_eq_true rfl) [(0, .ref h)] rfl ?_
  intro p e s m below meth c A ls X hin hP hD hS hl
  have hx := X.1
  have hb := X.2.1
  have hml := X.2.2.1
  have hown : s.vm.findClass "MarkupStoreModel" = some m.cls := X.2.2.2.1
  have hts := X.2.2.2.2.2.2.1
  have hK := X.2.2.2.2.2.2.2.2.1
  have hA := X.2.2.2.2.2.2.2.2.2.2
  refine lv_aload_n hx hb d84_0 rfl (lv_at hl 0 rfl) ?_
  refine va_get (D := D) (ci := 2) (v := .int 0) (C := kR2) (T := kT2) (N := 60) hx hb hts ku2 hown hK hP 0 rfl rfl 5 (by decide) (hts _ ms_k1321) (fun _ h => h) rfl d84_1 ?_
  refine lv_istore_n hx hb d84_4 rfl hl (by decide) rfl (fun ls hl => ?_)
  have hl : lv_has ls 3 [(1, .int 0), (0, .ref h)] := hl
  refine lv_iconst (v := 0) hx hb d84_5 (by decide) ?_
  refine lv_istore_n hx hb d84_6 rfl hl (by decide) rfl (fun ls hl => ?_)
  have hl : lv_has ls 3 [(2, .int 0), (1, .int 0), (0, .ref h)] := hl
  refine lp_crash D dA h r _ X (fun g H locs ls hP hD hS hl => ?_) 5161 0 _ _ _ _ rfl hP hD hS hl
  have hP : va_P D vwCl [(h, .inr (2, [.ref (r 0), .ref (r 1), .ref (r 2), .ref (r 3), .int 0, .int 0, .ref (r 6), .int 0, .int 0, .int 0, .int 0, .int 0, .int 0, .int 0, .int 0, .ref (r 15), .ref (r 16), .ref (r 17), .int 0, .int 0, .ref (r 20), .ref (r 21), .ref (r 22), .int 0, .int 0, .ref (r 25), .ref (r 26), .ref (r 27), .ref (r 28), .ref (r 29), .ref (r 30), .int 0, .ref (r 32), .ref (r 33), .ref (r 34), .ref (r 35), .ref (r 36), .ref (r 37), .ref (r 38), .ref (r 39), .ref (r 40), .ref (r 41), .ref (r 42), .int 0, .ref (r 44), .int 0, .int 0, .int 0, .int 0, .int 0, .ref (r 50), .ref (r 51), .ref (r 52), .int 0, .ref (r 54), .int 0, .ref (r 56), .int 0, .int 0, .int 0])), ((r 0), .inl (dA 0, 5161, .inl g)), ((r 1), .inl (dA 0, 5161, .inl (fun _ => 0)))] H := hP
  have hD : va_D A [(h, .inr (2, [.ref (r 0), .ref (r 1), .ref (r 2), .ref (r 3), .int 0, .int 0, .ref (r 6), .int 0, .int 0, .int 0, .int 0, .int 0, .int 0, .int 0, .int 0, .ref (r 15), .ref (r 16), .ref (r 17), .int 0, .int 0, .ref (r 20), .ref (r 21), .ref (r 22), .int 0, .int 0, .ref (r 25), .ref (r 26), .ref (r 27), .ref (r 28), .ref (r 29), .ref (r 30), .int 0, .ref (r 32), .ref (r 33), .ref (r 34), .ref (r 35), .ref (r 36), .ref (r 37), .ref (r 38), .ref (r 39), .ref (r 40), .ref (r 41), .ref (r 42), .int 0, .ref (r 44), .int 0, .int 0, .int 0, .int 0, .int 0, .ref (r 50), .ref (r 51), .ref (r 52), .int 0, .ref (r 54), .int 0, .ref (r 56), .int 0, .int 0, .int 0])), ((r 0), .inl (dA 0, 5161, .inl g)), ((r 1), .inl (dA 0, 5161, .inl (fun _ => 0)))] := hD
  refine lv_aload_n hx hb d84_32 rfl (lv_at hl 2 rfl) ?_
  refine lv_iconst (v := 0) hx hb d84_33 (by decide) ?_
  refine va_put (D := D) (ci := 2) (v := .int 0) (ty := .int) (C := kR2) (T := kT2) (N := 60) hx hb hts ku2 kt2 kp2 kn2 hown hK hP hD hS 0 rfl rfl 5 (by decide) (hts _ ms_k1321) (fun _ h => h) rfl (by decide +kernel) rfl rfl (Nat.le_of_ble_eq_true rfl) d84_34 (fun H locs hP hD hS => ?_)
  have hP : va_P D vwCl [(h, .inr (2, [.ref (r 0), .ref (r 1), .ref (r 2), .ref (r 3), .int 0, .int 0, .ref (r 6), .int 0, .int 0, .int 0, .int 0, .int 0, .int 0, .int 0, .int 0, .ref (r 15), .ref (r 16), .ref (r 17), .int 0, .int 0, .ref (r 20), .ref (r 21), .ref (r 22), .int 0, .int 0, .ref (r 25), .ref (r 26), .ref (r 27), .ref (r 28), .ref (r 29), .ref (r 30), .int 0, .ref (r 32), .ref (r 33), .ref (r 34), .ref (r 35), .ref (r 36), .ref (r 37), .ref (r 38), .ref (r 39), .ref (r 40), .ref (r 41), .ref (r 42), .int 0, .ref (r 44), .int 0, .int 0, .int 0, .int 0, .int 0, .ref (r 50), .ref (r 51), .ref (r 52), .int 0, .ref (r 54), .int 0, .ref (r 56), .int 0, .int 0, .int 0])), ((r 0), .inl (dA 0, 5161, .inl g)), ((r 1), .inl (dA 0, 5161, .inl (fun _ => 0)))] H := hP
  have hD : va_D A [(h, .inr (2, [.ref (r 0), .ref (r 1), .ref (r 2), .ref (r 3), .int 0, .int 0, .ref (r 6), .int 0, .int 0, .int 0, .int 0, .int 0, .int 0, .int 0, .int 0, .ref (r 15), .ref (r 16), .ref (r 17), .int 0, .int 0, .ref (r 20), .ref (r 21), .ref (r 22), .int 0, .int 0, .ref (r 25), .ref (r 26), .ref (r 27), .ref (r 28), .ref (r 29), .ref (r 30), .int 0, .ref (r 32), .ref (r 33), .ref (r 34), .ref (r 35), .ref (r 36), .ref (r 37), .ref (r 38), .ref (r 39), .ref (r 40), .ref (r 41), .ref (r 42), .int 0, .ref (r 44), .int 0, .int 0, .int 0, .int 0, .int 0, .ref (r 50), .ref (r 51), .ref (r 52), .int 0, .ref (r 54), .int 0, .ref (r 56), .int 0, .int 0, .int 0])), ((r 0), .inl (dA 0, 5161, .inl g)), ((r 1), .inl (dA 0, 5161, .inl (fun _ => 0)))] := hD
  refine lv_aload_n hx hb d84_37 rfl (lv_at hl 2 rfl) ?_
  refine lv_iconst (v := 0) hx hb d84_38 (by decide) ?_
  refine va_put (D := D) (ci := 2) (v := .int 0) (ty := .int) (C := kR2) (T := kT2) (N := 60) hx hb hts ku2 kt2 kp2 kn2 hown hK hP hD hS 0 rfl rfl 7 (by decide) (hts _ ms_k1323) (fun _ h => h) rfl (by decide +kernel) rfl rfl (Nat.le_of_ble_eq_true rfl) d84_39 (fun H locs hP hD hS => ?_)
  have hP : va_P D vwCl [(h, .inr (2, [.ref (r 0), .ref (r 1), .ref (r 2), .ref (r 3), .int 0, .int 0, .ref (r 6), .int 0, .int 0, .int 0, .int 0, .int 0, .int 0, .int 0, .int 0, .ref (r 15), .ref (r 16), .ref (r 17), .int 0, .int 0, .ref (r 20), .ref (r 21), .ref (r 22), .int 0, .int 0, .ref (r 25), .ref (r 26), .ref (r 27), .ref (r 28), .ref (r 29), .ref (r 30), .int 0, .ref (r 32), .ref (r 33), .ref (r 34), .ref (r 35), .ref (r 36), .ref (r 37), .ref (r 38), .ref (r 39), .ref (r 40), .ref (r 41), .ref (r 42), .int 0, .ref (r 44), .int 0, .int 0, .int 0, .int 0, .int 0, .ref (r 50), .ref (r 51), .ref (r 52), .int 0, .ref (r 54), .int 0, .ref (r 56), .int 0, .int 0, .int 0])), ((r 0), .inl (dA 0, 5161, .inl g)), ((r 1), .inl (dA 0, 5161, .inl (fun _ => 0)))] H := hP
  have hD : va_D A [(h, .inr (2, [.ref (r 0), .ref (r 1), .ref (r 2), .ref (r 3), .int 0, .int 0, .ref (r 6), .int 0, .int 0, .int 0, .int 0, .int 0, .int 0, .int 0, .int 0, .ref (r 15), .ref (r 16), .ref (r 17), .int 0, .int 0, .ref (r 20), .ref (r 21), .ref (r 22), .int 0, .int 0, .ref (r 25), .ref (r 26), .ref (r 27), .ref (r 28), .ref (r 29), .ref (r 30), .int 0, .ref (r 32), .ref (r 33), .ref (r 34), .ref (r 35), .ref (r 36), .ref (r 37), .ref (r 38), .ref (r 39), .ref (r 40), .ref (r 41), .ref (r 42), .int 0, .ref (r 44), .int 0, .int 0, .int 0, .int 0, .int 0, .ref (r 50), .ref (r 51), .ref (r 52), .int 0, .ref (r 54), .int 0, .ref (r 56), .int 0, .int 0, .int 0])), ((r 0), .inl (dA 0, 5161, .inl g)), ((r 1), .inl (dA 0, 5161, .inl (fun _ => 0)))] := hD
  refine lv_iload_n hx hb d84_42 rfl (lv_at hl 1 rfl) ?_
  exact ms_iret X d84_43 hP hD hS (Nat.le_of_ble_eq_true rfl) (Nat.le_of_ble_eq_true rfl) rfl
