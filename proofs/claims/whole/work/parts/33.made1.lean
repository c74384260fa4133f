
def w_Store_useBuffer (dA : Nat → ClassId) (y0 : Nat) (rc rs : Nat) (K : Option Nat → hm_T → hz_T → Prop) (h0 : hm_T) (z0 : hz_T) : Prop := (cg_R h0 0 0 y0 (fun v21 => (cg_d v21 (fun a22 => (cg_c h0 3 a22 (cg_k rc rs 2 146 (fun c26 s27 => w_SB_str dA a22 (fun v23 h24 z25 => (cg_R h24 0 0 y0 (fun v28 => (cg_d v28 (fun a29 => (cg_c h24 3 a29 (cg_k c26 s27 1 142 (fun c33 s34 => w_SB_set dA a29 0 (fun h31 z32 => (K v23 h31 z32)) h24 z25)))))))) h0 z0)))))))
set_option maxRecDepth 100000 in
set_option maxHeartbeats 8000000 in
theorem cw_Store_useBuffer (l : Launch) (D : va_G) (dA : Nat → ClassId) (s0 : State) (hW : ms_EW D dA s0) (y0 : Nat) (rc rs : Nat) (h0 : hm_T) (z0 : hz_T) (K : Option Nat → hm_T → hz_T → Prop) (hg : w_Store_useBuffer dA y0 rc rs K h0 z0) : ht_C l D s0 yM226 bM226 2 (Option.some (Jvm.ClassFile.FieldType.object "java/lang/String")) (6) (211) rc rs [.ref y0] (fun h z => h = h0 ∧ z = z0) (fun h z vv h1 z1 => ∃ v, vv = some (va_rf v) ∧ K v h1 z1) := by
  have hE := hW.1
  refine ht_C.mk hE.1 (by decide) (Nat.le_of_ble_eq_true rfl) [(0, .ref y0)] rfl ?_
  intro p e s m below meth c ls h z X hin hpre I hl
  have hx := X.1
  have hb := X.2.1
  have hml := X.2.2.1
  have hown : s.vm.findClass "MarkupStore" = some m.cls := X.2.2.2.1
  have hts := X.2.2.2.2.2.2.1
  have hK := X.2.2.2.2.2.2.2.2.1
  rw [hpre.1, hpre.2] at I
  clear hpre
  have hF := hg
  unfold w_Store_useBuffer at hF
  clear h z
  have hc : 0 + rc ≤ rc := by omega
  have hs : 0 + rs ≤ rs := by omega
  refine lv_aload_n hx hb d226_0 rfl (lv_at hl 0 rfl) ?_
  obtain ⟨fs9, v21, c9, e9, hF⟩ := hF
  refine va_get (D := D) (ci := 0) (v := va_rf v21) (C := kR0) (T := kT0) (N := 6) hx hb hts ku0 hown hK (hm_one I.1 c9) 0 rfl rfl 0 (by decide) (hts _ ms_k105) (fun _ h => h) e9 d226_1 ?_
  clear e9 c9 fs9
  obtain ⟨a22, e9, hF⟩ := hF
  refine W.eq (g2 := F0 m 4 ls [.ref a22]) (by rw [e9]; rfl) ?_
  clear e9
  obtain ⟨fs9, c9, hF⟩ := hF
  obtain ⟨c26, s27, ec, es, hF⟩ := hF
  refine ht_V (C := "java/lang/StringBuilder") (rest := []) (as := []) X hl (cw_SB_str l D dA s0 hE a22 h0 z0 _ hF) (List.forall_mem_cons.mpr ⟨ms_k241, List.forall_mem_cons.mpr ⟨ms_k242, List.forall_mem_cons.mpr ⟨ms_k243, List.forall_mem_cons.mpr ⟨ms_k3, List.forall_mem_cons.mpr ⟨ms_k244, fun _ h => absurd h List.not_mem_nil⟩⟩⟩⟩⟩) ⟨rfl, by decide +kernel, by decide +kernel, (by decide +kernel : (parseMethodDescriptor "()Ljava/lang/String;").map (fun d => d.parameters.length) = some 0)⟩ (hm_recv hK I rfl c9) I ⟨rfl, rfl⟩ ⟨⟨Nat.le_of_ble_eq_true rfl, Nat.le_of_ble_eq_true rfl⟩, (rm_u hc ec).1, (rm_u hs es).1⟩ rfl (Nat.le_of_ble_eq_true rfl) d226_4 (fun vv h24 z25 H locs hR I9 => ?_)
  obtain ⟨v23, e1, hF⟩ := hR
  subst e1
  clear I
  have I := I9
  clear I9 c9 fs9
  have hc := (rm_u hc ec).2
  have hs := (rm_u hs es).2
  clear ec es
  refine W.eq (g2 := F0 m 7 ls [va_rf v23]) rfl ?_
  refine lv_astore_nR hx hb d226_7 rfl hl (by decide) rfl (fun ls hl => ?_)
  have hl : lv_has ls 2 [(1, va_rf v23), (0, .ref y0)] := hl
  refine lv_aload_n hx hb d226_8 rfl (lv_at hl 1 rfl) ?_
  obtain ⟨fs9, v28, c9, e9, hF⟩ := hF
  refine va_get (D := D) (ci := 0) (v := va_rf v28) (C := kR0) (T := kT0) (N := 6) hx hb hts ku0 hown hK (hm_one I.1 c9) 0 rfl rfl 0 (by decide) (hts _ ms_k105) (fun _ h => h) e9 d226_9 ?_
  clear e9 c9 fs9
  refine lv_iconst (v := 0) hx hb d226_12 (by decide) ?_
  obtain ⟨a29, e9, hF⟩ := hF
  refine W.eq (g2 := F0 m 13 ls [.int 0, .ref a29]) (by rw [e9]; rfl) ?_
  clear e9
  obtain ⟨fs9, c9, hF⟩ := hF
  obtain ⟨c33, s34, ec, es, hF⟩ := hF
  refine ht_V (C := "java/lang/StringBuilder") (rest := []) (as := [.int 0]) X hl (cw_SB_set l D dA s0 hE a29 0 h24 z25 _ hF) (List.forall_mem_cons.mpr ⟨ms_k295, List.forall_mem_cons.mpr ⟨ms_k296, List.forall_mem_cons.mpr ⟨ms_k297, List.forall_mem_cons.mpr ⟨ms_k3, List.forall_mem_cons.mpr ⟨ms_k298, fun _ h => absurd h List.not_mem_nil⟩⟩⟩⟩⟩) ⟨rfl, by decide +kernel, by decide +kernel, (by decide +kernel : (parseMethodDescriptor "(I)V").map (fun d => d.parameters.length) = some 1)⟩ (hm_recv hK I rfl c9) I ⟨rfl, rfl⟩ ⟨⟨Nat.le_of_ble_eq_true rfl, Nat.le_of_ble_eq_true rfl⟩, (rm_u hc ec).1, (rm_u hs es).1⟩ rfl (Nat.le_of_ble_eq_true rfl) d226_13 (fun vv h31 z32 H locs hR I9 => ?_)
  obtain ⟨e1, hF⟩ := hR
  subst e1
  clear I
  have I := I9
  clear I9 c9 fs9
  have hc := (rm_u hc ec).2
  have hs := (rm_u hs es).2
  clear ec es
  refine W.eq (g2 := F0 m 16 ls []) rfl ?_
  refine lv_aload_nR hx hb d226_16 rfl (lv_at hl 0 rfl) ?_
  exact ht_aret X d226_17 I (rm_r hc) (rm_r hs) ⟨v23, rfl, hF⟩ (Or.inl ⟨_, rfl⟩) (rf_or _)

def w_Store_joined (dA : Nat → ClassId) (y0 : Nat) (y1 : Option Nat) (y2 : Option Nat) (rc rs : Nat) (K : Option Nat → hm_T → hz_T → Prop) (h0 : hm_T) (z0 : hz_T) : Prop := (cg_R h0 0 1 y0 (fun v21 => (cg_d v21 (fun a22 => (cg_c h0 3 a22 (cg_k rc rs 1 142 (fun c26 s27 => w_SB_set dA a22 0 (fun h24 z25 => (cg_R h24 0 1 y0 (fun v28 => (cg_d v28 (fun a29 => (cg_c h24 3 a29 (cg_k c26 s27 1 142 (fun c33 s34 => w_SB_apS dA a29 y1 (fun v30 h31 z32 => (cg_R h31 0 1 y0 (fun v35 => (cg_d v35 (fun a36 => (cg_c h31 3 a36 (cg_k c33 s34 1 142 (fun c40 s41 => w_SB_apS dA a36 y2 (fun v37 h38 z39 => (cg_R h38 0 1 y0 (fun v42 => (cg_d v42 (fun a43 => (cg_c h38 3 a43 (cg_k c40 s41 2 146 (fun c47 s48 => w_SB_str dA a43 (fun v44 h45 z46 => (K v44 h45 z46)) h38 z39)))))))) h31 z32)))))))) h24 z25)))))))) h0 z0)))))))
set_option maxRecDepth 100000 in
set_option maxHeartbeats 8000000 in
theorem cw_Store_joined (l : Launch) (D : va_G) (dA : Nat → ClassId) (s0 : State) (hW : ms_EW D dA s0) (y0 : Nat) (y1 : Option Nat) (y2 : Option Nat) (rc rs : Nat) (h0 : hm_T) (z0 : hz_T) (K : Option Nat → hm_T → hz_T → Prop) (hg : w_Store_joined dA y0 y1 y2 rc rs K h0 z0) : ht_C l D s0 yM227 bM227 3 (Option.some (Jvm.ClassFile.FieldType.object "java/lang/String")) (6) (211) rc rs [.ref y0, va_rf y1, va_rf y2] (fun h z => h = h0 ∧ z = z0) (fun h z vv h1 z1 => ∃ v, vv = some (va_rf v) ∧ K v h1 z1) := by
  have hE := hW.1
  refine ht_C.mk hE.1 (by decide) (by simp [lg_sl, cat_rf, cat_int, cat_ref, cat_null, cat_long]) [(0, .ref y0), (1, va_rf y1), (2, va_rf y2)] (by simp [lv_args, cat_rf, cat_int, cat_ref, cat_null, cat_long]) ?_
  intro p e s m below meth c ls h z X hin hpre I hl
  have hx := X.1
  have hb := X.2.1
  have hml := X.2.2.1
  have hown : s.vm.findClass "MarkupStore" = some m.cls := X.2.2.2.1
  have hts := X.2.2.2.2.2.2.1
  have hK := X.2.2.2.2.2.2.2.2.1
  rw [hpre.1, hpre.2] at I
  clear hpre
  have hF := hg
  unfold w_Store_joined at hF
  clear h z
  have hc : 0 + rc ≤ rc := by omega
  have hs : 0 + rs ≤ rs := by omega
  refine lv_aload_n hx hb d227_0 rfl (lv_at hl 0 rfl) ?_
  obtain ⟨fs9, v21, c9, e9, hF⟩ := hF
  refine va_get (D := D) (ci := 0) (v := va_rf v21) (C := kR0) (T := kT0) (N := 6) hx hb hts ku0 hown hK (hm_one I.1 c9) 0 rfl rfl 1 (by decide) (hts _ ms_k106) (fun _ h => h) e9 d227_1 ?_
  clear e9 c9 fs9
  refine lv_iconst (v := 0) hx hb d227_4 (by decide) ?_
  obtain ⟨a22, e9, hF⟩ := hF
  refine W.eq (g2 := F0 m 5 ls [.int 0, .ref a22]) (by rw [e9]; rfl) ?_
  clear e9
  obtain ⟨fs9, c9, hF⟩ := hF
  obtain ⟨c26, s27, ec, es, hF⟩ := hF
  refine ht_V (C := "java/lang/StringBuilder") (rest := []) (as := [.int 0]) X hl (cw_SB_set l D dA s0 hE a22 0 h0 z0 _ hF) (List.forall_mem_cons.mpr ⟨ms_k295, List.forall_mem_cons.mpr ⟨ms_k296, List.forall_mem_cons.mpr ⟨ms_k297, List.forall_mem_cons.mpr ⟨ms_k3, List.forall_mem_cons.mpr ⟨ms_k298, fun _ h => absurd h List.not_mem_nil⟩⟩⟩⟩⟩) ⟨rfl, by decide +kernel, by decide +kernel, (by decide +kernel : (parseMethodDescriptor "(I)V").map (fun d => d.parameters.length) = some 1)⟩ (hm_recv hK I rfl c9) I ⟨rfl, rfl⟩ ⟨⟨Nat.le_of_ble_eq_true rfl, Nat.le_of_ble_eq_true rfl⟩, (rm_u hc ec).1, (rm_u hs es).1⟩ rfl (Nat.le_of_ble_eq_true rfl) d227_5 (fun vv h24 z25 H locs hR I9 => ?_)
  obtain ⟨e1, hF⟩ := hR
  subst e1
  clear I
  have I := I9
  clear I9 c9 fs9
  have hc := (rm_u hc ec).2
  have hs := (rm_u hs es).2
  clear ec es
  refine W.eq (g2 := F0 m 8 ls []) rfl ?_
  refine lv_aload_n hx hb d227_8 rfl (lv_at hl 0 rfl) ?_
  obtain ⟨fs9, v28, c9, e9, hF⟩ := hF
  refine va_get (D := D) (ci := 0) (v := va_rf v28) (C := kR0) (T := kT0) (N := 6) hx hb hts ku0 hown hK (hm_one I.1 c9) 0 rfl rfl 1 (by decide) (hts _ ms_k106) (fun _ h => h) e9 d227_9 ?_
  clear e9 c9 fs9
  refine lv_aload_nR hx hb d227_12 rfl (lv_at hl 1 rfl) ?_
  obtain ⟨a29, e9, hF⟩ := hF
  refine W.eq (g2 := F0 m 13 ls [va_rf y1, .ref a29]) (by rw [e9]; rfl) ?_
  clear e9
  obtain ⟨fs9, c9, hF⟩ := hF
  obtain ⟨c33, s34, ec, es, hF⟩ := hF
  refine ht_V (C := "java/lang/StringBuilder") (rest := []) (as := [va_rf y1]) X hl (cw_SB_apS l D dA s0 hE a29 y1 h24 z25 _ hF) (List.forall_mem_cons.mpr ⟨ms_k807, List.forall_mem_cons.mpr ⟨ms_k808, List.forall_mem_cons.mpr ⟨ms_k809, List.forall_mem_cons.mpr ⟨ms_k3, List.forall_mem_cons.mpr ⟨ms_k810, fun _ h => absurd h List.not_mem_nil⟩⟩⟩⟩⟩) ⟨rfl, by decide +kernel, by decide +kernel, (by decide +kernel : (parseMethodDescriptor "(Ljava/lang/String;)Ljava/lang/StringBuilder;").map (fun d => d.parameters.length) = some 1)⟩ (hm_recv hK I rfl c9) I ⟨rfl, rfl⟩ ⟨⟨Nat.le_of_ble_eq_true rfl, Nat.le_of_ble_eq_true rfl⟩, (rm_u hc ec).1, (rm_u hs es).1⟩ rfl (Nat.le_of_ble_eq_true rfl) d227_13 (fun vv h31 z32 H locs hR I9 => ?_)
  obtain ⟨v30, e1, hF⟩ := hR
  subst e1
  clear I
  have I := I9
  clear I9 c9 fs9
  have hc := (rm_u hc ec).2
  have hs := (rm_u hs es).2
  clear ec es
  refine W.eq (g2 := F0 m 16 ls [va_rf v30]) rfl ?_
  refine lv_pop hx hb d227_16 (cat_rf _) ?_
  refine lv_aload_n hx hb d227_17 rfl (lv_at hl 0 rfl) ?_
  obtain ⟨fs9, v35, c9, e9, hF⟩ := hF
  refine va_get (D := D) (ci := 0) (v := va_rf v35) (C := kR0) (T := kT0) (N := 6) hx hb hts ku0 hown hK (hm_one I.1 c9) 0 rfl rfl 1 (by decide) (hts _ ms_k106) (fun _ h => h) e9 d227_18 ?_
  clear e9 c9 fs9
  refine lv_aload_nR hx hb d227_21 rfl (lv_at hl 2 rfl) ?_
  obtain ⟨a36, e9, hF⟩ := hF
  refine W.eq (g2 := F0 m 22 ls [va_rf y2, .ref a36]) (by rw [e9]; rfl) ?_
  clear e9
  obtain ⟨fs9, c9, hF⟩ := hF
  obtain ⟨c40, s41, ec, es, hF⟩ := hF
  refine ht_V (C := "java/lang/StringBuilder") (rest := []) (as := [va_rf y2]) X hl (cw_SB_apS l D dA s0 hE a36 y2 h31 z32 _ hF) (List.forall_mem_cons.mpr ⟨ms_k807, List.forall_mem_cons.mpr ⟨ms_k808, List.forall_mem_cons.mpr ⟨ms_k809, List.forall_mem_cons.mpr ⟨ms_k3, List.forall_mem_cons.mpr ⟨ms_k810, fun _ h => absurd h List.not_mem_nil⟩⟩⟩⟩⟩) ⟨rfl, by decide +kernel, by decide +kernel, (by decide +kernel : (parseMethodDescriptor "(Ljava/lang/String;)Ljava/lang/StringBuilder;").map (fun d => d.parameters.length) = some 1)⟩ (hm_recv hK I rfl c9) I ⟨rfl, rfl⟩ ⟨⟨Nat.le_of_ble_eq_true rfl, Nat.le_of_ble_eq_true rfl⟩, (rm_u hc ec).1, (rm_u hs es).1⟩ rfl (Nat.le_of_ble_eq_true rfl) d227_22 (fun vv h38 z39 H locs hR I9 => ?_)
  obtain ⟨v37, e1, hF⟩ := hR
  subst e1
  clear I
  have I := I9
  clear I9 c9 fs9
  have hc := (rm_u hc ec).2
  have hs := (rm_u hs es).2
  clear ec es
  refine W.eq (g2 := F0 m 25 ls [va_rf v37]) rfl ?_
  refine lv_pop hx hb d227_25 (cat_rf _) ?_
  refine lv_aload_n hx hb d227_26 rfl (lv_at hl 0 rfl) ?_
  obtain ⟨fs9, v42, c9, e9, hF⟩ := hF
  refine va_get (D := D) (ci := 0) (v := va_rf v42) (C := kR0) (T := kT0) (N := 6) hx hb hts ku0 hown hK (hm_one I.1 c9) 0 rfl rfl 1 (by decide) (hts _ ms_k106) (fun _ h => h) e9 d227_27 ?_
  clear e9 c9 fs9
  obtain ⟨a43, e9, hF⟩ := hF
  refine W.eq (g2 := F0 m 30 ls [.ref a43]) (by rw [e9]; rfl) ?_
  clear e9
  obtain ⟨fs9, c9, hF⟩ := hF
  obtain ⟨c47, s48, ec, es, hF⟩ := hF
  refine ht_V (C := "java/lang/StringBuilder") (rest := []) (as := []) X hl (cw_SB_str l D dA s0 hE a43 h38 z39 _ hF) (List.forall_mem_cons.mpr ⟨ms_k241, List.forall_mem_cons.mpr ⟨ms_k242, List.forall_mem_cons.mpr ⟨ms_k243, List.forall_mem_cons.mpr ⟨ms_k3, List.forall_mem_cons.mpr ⟨ms_k244, fun _ h => absurd h List.not_mem_nil⟩⟩⟩⟩⟩) ⟨rfl, by decide +kernel, by decide +kernel, (by decide +kernel : (parseMethodDescriptor "()Ljava/lang/String;").map (fun d => d.parameters.length) = some 0)⟩ (hm_recv hK I rfl c9) I ⟨rfl, rfl⟩ ⟨⟨Nat.le_of_ble_eq_true rfl, Nat.le_of_ble_eq_true rfl⟩, (rm_u hc ec).1, (rm_u hs es).1⟩ rfl (Nat.le_of_ble_eq_true rfl) d227_30 (fun vv h45 z46 H locs hR I9 => ?_)
  obtain ⟨v44, e1, hF⟩ := hR
  subst e1
  clear I
  have I := I9
  clear I9 c9 fs9
  have hc := (rm_u hc ec).2
  have hs := (rm_u hs es).2
  clear ec es
  refine W.eq (g2 := F0 m 33 ls [va_rf v44]) rfl ?_
  exact ht_aret X d227_33 I (rm_r hc) (rm_r hs) ⟨v44, rfl, hF⟩ (Or.inl ⟨_, rfl⟩) (rf_or _)

def w_Attribute_init (dA : Nat → ClassId) (y0 : Nat) (y1 : Option Nat) (y2 : Option Nat) (rc rs : Nat) (K : hm_T → hz_T → Prop) (h0 : hm_T) (z0 : hz_T) : Prop := (cg_c h0 9 y0 (cg_rm rc rs (fun c24 s25 c26 s27 => w_Record_init9 dA y0 c24 s25 (fun h22 z23 => (cg_p h22 9 0 y0 (va_rf y1) (fun h28 => (cg_p h28 9 1 y0 (va_rf y2) (fun h29 => (K h29 z23)))))) h0 z0)))
set_option maxRecDepth 100000 in
set_option maxHeartbeats 8000000 in
theorem cw_Attribute_init (l : Launch) (D : va_G) (dA : Nat → ClassId) (s0 : State) (hW : ms_EW D dA s0) (y0 : Nat) (y1 : Option Nat) (y2 : Option Nat) (rc rs : Nat) (h0 : hm_T) (z0 : hz_T) (K : hm_T → hz_T → Prop) (hg : w_Attribute_init dA y0 y1 y2 rc rs K h0 z0) : ht_C l D s0 yM228 bM228 3 (Option.none : Option Jvm.ClassFile.FieldType) (2) (32) rc rs [.ref y0, va_rf y1, va_rf y2] (fun h z => h = h0 ∧ z = z0) (fun h z vv h1 z1 => vv = none ∧ K h1 z1) := by
  have hE := hW.1
  refine ht_C.mk hE.1 (by decide) (by simp [lg_sl, cat_rf, cat_int, cat_ref, cat_null, cat_long]) [(0, .ref y0), (1, va_rf y1), (2, va_rf y2)] (by simp [lv_args, cat_rf, cat_int, cat_ref, cat_null, cat_long]) ?_
  intro p e s m below meth c ls h z X hin hpre I hl
  have hx := X.1
  have hb := X.2.1
  have hml := X.2.2.1
  have hown : s.vm.findClass "MarkupStore$Attribute" = some m.cls := X.2.2.2.1
  have hts := X.2.2.2.2.2.2.1
  have hK := X.2.2.2.2.2.2.2.2.1
  rw [hpre.1, hpre.2] at I
  clear hpre
  have hF := hg
  unfold w_Attribute_init at hF
  clear h z
  have hc : 0 + rc ≤ rc := by omega
  have hs : 0 + rs ≤ rs := by omega
  refine lv_aload_n hx hb d228_0 rfl (lv_at hl 0 rfl) ?_
  obtain ⟨fs9, c9, hF⟩ := hF
  obtain ⟨c24, s25, c26, s27, ec, es, hF⟩ := hF
  refine ht_I (rest := []) (as := []) X hl (cw_Record_init9 l D dA s0 hW y0 c24 s25 h0 z0 _ hF) (List.forall_mem_cons.mpr ⟨ms_k658, List.forall_mem_cons.mpr ⟨ms_k659, List.forall_mem_cons.mpr ⟨ms_k21, List.forall_mem_cons.mpr ⟨ms_k660, fun _ h => absurd h List.not_mem_nil⟩⟩⟩⟩) rfl ⟨by decide +kernel, by decide +kernel, (by decide +kernel : (parseMethodDescriptor "()V").map (fun d => d.parameters.length) = some 0)⟩ I ⟨rfl, rfl⟩ ⟨⟨Nat.le_of_ble_eq_true rfl, Nat.le_of_ble_eq_true rfl⟩, (rm_u hc ec).1, (rm_u hs es).1⟩ rfl (Nat.le_of_ble_eq_true rfl) d228_1 (fun vv h22 z23 H locs hR I9 => ?_)
  obtain ⟨e1, hF⟩ := hR
  subst e1
  clear I
  have I := I9
  clear I9 c9 fs9
  have hc := (rm_u hc ec).2
  have hs := (rm_u hs es).2
  clear ec es
  refine W.eq (g2 := F0 m 4 ls []) rfl ?_
  refine lv_aload_n hx hb d228_4 rfl (lv_at hl 0 rfl) ?_
  refine lv_aload_nR hx hb d228_5 rfl (lv_at hl 1 rfl) ?_
  obtain ⟨fs9, c9, k9, hF⟩ := hF
  refine hm_putF (ci := 9) (v := va_rf y1) (ty := (.object "java/lang/String")) (C := kR9) (T := kT9) (N := 2) X I ku9 kt9 kp9 kn9 c9 rfl 0 (by decide) ms_k662 (fun _ h => h) rfl hin rfl (by decide +kernel) (by cases y1 <;> rfl) (by cases y1 <;> rfl) k9 d228_6 (fun h28 H locs e9 f9 I => ?_)
  rw [← hm_eqU e9 f9] at hF
  clear e9 f9 c9 k9
  refine lv_aload_n hx hb d228_9 rfl (lv_at hl 0 rfl) ?_
  refine lv_aload_nR hx hb d228_10 rfl (lv_at hl 2 rfl) ?_
  obtain ⟨fs9, c9, k9, hF⟩ := hF
  refine hm_putF (ci := 9) (v := va_rf y2) (ty := (.object "java/lang/String")) (C := kR9) (T := kT9) (N := 2) X I ku9 kt9 kp9 kn9 c9 rfl 1 (by decide) ms_k663 (fun _ h => h) rfl hin rfl (by decide +kernel) (by cases y2 <;> rfl) (by cases y2 <;> rfl) k9 d228_11 (fun h29 H locs e9 f9 I => ?_)
  rw [← hm_eqU e9 f9] at hF
  clear e9 f9 c9 k9
  exact ht_vret X d228_14 I (rm_r hc) (rm_r hs) ⟨rfl, hF⟩

def w_MarkupReader_init (dA : Nat → ClassId) (y0 : Nat) (y1 : Option Nat) (y2 : Option Nat) (rc rs : Nat) (K : hm_T → hz_T → Prop) (h0 : hm_T) (z0 : hz_T) : Prop := (cg_c h0 6 y0 (w_TextReader_init6 dA y0 y1 (fun h22 z23 => (cg_new h22 rc rs 4 3 [.int 0, .null, .int 0] (fun q24 c26 s27 h25 => (cg_c h25 4 q24 (cg_rm c26 s27 (fun c31 s32 c33 s34 => w_ArrayList_init dA q24 c31 s32 (fun h29 z30 => (cg_p h29 6 3 y0 (.ref q24) (fun h35 => (cg_p h35 6 4 y0 (va_rf y2) (fun h36 => (cg_p h36 6 5 y0 (.int 0) (fun h37 => (K h37 z30)))))))) h25 z23)))))) h0 z0))
set_option maxRecDepth 100000 in
set_option maxHeartbeats 8000000 in
theorem cw_MarkupReader_init (l : Launch) (D : va_G) (dA : Nat → ClassId) (s0 : State) (hW : ms_EW D dA s0) (y0 : Nat) (y1 : Option Nat) (y2 : Option Nat) (rc rs : Nat) (h0 : hm_T) (z0 : hz_T) (K : hm_T → hz_T → Prop) (hg : w_MarkupReader_init dA y0 y1 y2 rc rs K h0 z0) : ht_C l D s0 yM229 bM229 3 (Option.none : Option Jvm.ClassFile.FieldType) (4) (72) rc rs [.ref y0, va_rf y1, va_rf y2] (fun h z => h = h0 ∧ z = z0) (fun h z vv h1 z1 => vv = none ∧ K h1 z1) := by
  have hE := hW.1
  refine ht_C.mk hE.1 (by decide) (by simp [lg_sl, cat_rf, cat_int, cat_ref, cat_null, cat_long]) [(0, .ref y0), (1, va_rf y1), (2, va_rf y2)] (by simp [lv_args, cat_rf, cat_int, cat_ref, cat_null, cat_long]) ?_
  intro p e s m below meth c ls h z X hin hpre I hl
  have hx := X.1
  have hb := X.2.1
  have hml := X.2.2.1
  have hown : s.vm.findClass "MarkupStore$MarkupReader" = some m.cls := X.2.2.2.1
  have hts := X.2.2.2.2.2.2.1
  have hK := X.2.2.2.2.2.2.2.2.1
  rw [hpre.1, hpre.2] at I
  clear hpre
  have hF := hg
  unfold w_MarkupReader_init at hF
  clear h z
  have hc : 0 + rc ≤ rc := by omega
  have hs : 0 + rs ≤ rs := by omega
  refine lv_aload_n hx hb d229_0 rfl (lv_at hl 0 rfl) ?_
  refine lv_aload_nR hx hb d229_1 rfl (lv_at hl 1 rfl) ?_
  obtain ⟨fs9, c9, hF⟩ := hF
  refine ht_I (rest := []) (as := [va_rf y1]) X hl (cw_TextReader_init6 l D dA s0 hE y0 y1 h0 z0 _ hF) (List.forall_mem_cons.mpr ⟨ms_k318, List.forall_mem_cons.mpr ⟨ms_k319, List.forall_mem_cons.mpr ⟨ms_k14, List.forall_mem_cons.mpr ⟨ms_k320, fun _ h => absurd h List.not_mem_nil⟩⟩⟩⟩) rfl ⟨by decide +kernel, by decide +kernel, (by decide +kernel : (parseMethodDescriptor "(Ljava/lang/String;)V").map (fun d => d.parameters.length) = some 1)⟩ I ⟨rfl, rfl⟩ ⟨⟨Nat.le_of_ble_eq_true rfl, Nat.le_of_ble_eq_true rfl⟩, rm_0 hc, rm_0 hs⟩ rfl (Nat.le_of_ble_eq_true rfl) d229_2 (fun vv h22 z23 H locs hR I9 => ?_)
  obtain ⟨e1, hF⟩ := hR
  subst e1
  clear I
  have I := I9
  clear I9 c9 fs9
  refine W.eq (g2 := F0 m 5 ls []) rfl ?_
  refine lv_aload_n hx hb d229_5 rfl (lv_at hl 0 rfl) ?_
  obtain ⟨c26, s27, ec, es, hF⟩ := hF
  refine hm_mk (ci := 4) (fs := [.int 0, .null, .int 0]) (C := kR4) (T := kT4) (N := 3) X I ku4 kt4 kp4 (List.forall_mem_cons.mpr ⟨ms_k322, List.forall_mem_cons.mpr ⟨ms_k323, List.forall_mem_cons.mpr ⟨ms_k18, fun _ h => absurd h List.not_mem_nil⟩⟩⟩) rfl kz4 (rm_u hc ec).1 (rm_u hs es).1 d229_6 (fun q24 h25 H v9 e9 f9 I => ?_)
  have hF := hF q24 v9
  rw [← hm_eqU e9 f9] at hF
  clear e9 f9 v9
  have hc := (rm_u hc ec).2
  have hs := (rm_u hs es).2
  clear ec es
  refine lv_dup hx hb d229_9 rfl ?_
  obtain ⟨fs9, c9, hF⟩ := hF
  obtain ⟨c31, s32, c33, s34, ec, es, hF⟩ := hF
  refine ht_I (rest := [.ref q24, .ref y0]) (as := []) X hl (cw_ArrayList_init l D dA s0 hW q24 c31 s32 h25 z23 _ hF) (List.forall_mem_cons.mpr ⟨ms_k324, List.forall_mem_cons.mpr ⟨ms_k325, List.forall_mem_cons.mpr ⟨ms_k18, List.forall_mem_cons.mpr ⟨ms_k326, fun _ h => absurd h List.not_mem_nil⟩⟩⟩⟩) rfl ⟨by decide +kernel, by decide +kernel, (by decide +kernel : (parseMethodDescriptor "()V").map (fun d => d.parameters.length) = some 0)⟩ I ⟨rfl, rfl⟩ ⟨⟨Nat.le_of_ble_eq_true rfl, Nat.le_of_ble_eq_true rfl⟩, (rm_u hc ec).1, (rm_u hs es).1⟩ rfl (Nat.le_of_ble_eq_true rfl) d229_10 (fun vv h29 z30 H locs hR I9 => ?_)
  obtain ⟨e1, hF⟩ := hR
  subst e1
  clear I
  have I := I9
  clear I9 c9 fs9
  have hc := (rm_u hc ec).2
  have hs := (rm_u hs es).2
  clear ec es
  refine W.eq (g2 := F0 m 13 ls [.ref q24, .ref y0]) rfl ?_
  obtain ⟨fs9, c9, k9, hF⟩ := hF
  refine hm_putF (ci := 6) (v := .ref q24) (ty := (.object "java/util/ArrayList")) (C := kR6) (T := kT6) (N := 6) X I ku6 kt6 kp6 kn6 c9 rfl 3 (by decide) ms_k348 (fun _ h => h) rfl hin rfl (by decide +kernel) rfl rfl k9 d229_13 (fun h35 H locs e9 f9 I => ?_)
  rw [← hm_eqU e9 f9] at hF
  clear e9 f9 c9 k9
  refine lv_aload_n hx hb d229_16 rfl (lv_at hl 0 rfl) ?_
  refine lv_aload_nR hx hb d229_17 rfl (lv_at hl 2 rfl) ?_
  obtain ⟨fs9, c9, k9, hF⟩ := hF
  refine hm_putF (ci := 6) (v := va_rf y2) (ty := (.object "java/lang/StringBuilder")) (C := kR6) (T := kT6) (N := 6) X I ku6 kt6 kp6 kn6 c9 rfl 4 (by decide) ms_k350 (fun _ h => h) rfl hin rfl (by decide +kernel) (by cases y2 <;> rfl) (by cases y2 <;> rfl) k9 d229_18 (fun h36 H locs e9 f9 I => ?_)
  rw [← hm_eqU e9 f9] at hF
  clear e9 f9 c9 k9
  refine lv_aload_n hx hb d229_21 rfl (lv_at hl 0 rfl) ?_
  refine lv_iconst (v := 0) hx hb d229_22 (by decide) ?_
  obtain ⟨fs9, c9, k9, hF⟩ := hF
  refine hm_put (ci := 6) (v := .int 0) (ty := .boolean) (C := kR6) (T := kT6) (N := 6) X I ku6 kt6 kp6 kn6 c9 rfl 5 (by decide) ms_k351 (fun _ h => h) rfl (by decide +kernel) rfl rfl k9 d229_23 (fun h37 H locs e9 f9 I => ?_)
  rw [← hm_eqU e9 f9] at hF
  clear e9 f9 c9 k9
  exact ht_vret X d229_26 I (rm_r hc) (rm_r hs) ⟨rfl, hF⟩
