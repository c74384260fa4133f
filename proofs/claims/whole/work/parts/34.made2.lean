
def w_MarkupReader_skip_34 (dA : Nat → ClassId) (y0 : Nat) (K : Int32 → hm_T → hz_T → Prop) (cr sr : Nat) (h : hm_T) (z : hz_T) : Prop := (K 0 h z)
def w_MarkupReader_skip (dA : Nat → ClassId) (y0 : Nat) (y1 : Option Nat) (rc rs : Nat) (K : Int32 → hm_T → hz_T → Prop) (h0 : hm_T) (z0 : hz_T) : Prop := (cg_I h0 6 1 y0 (fun v21 => (cg_d y1 (fun a22 => (jd_len z0 a22 (fun v23 => (cg_R h0 6 0 y0 (fun v24 => (cg_d v24 (fun a25 => (jd_len z0 a25 (fun v26 => (if v26 ≤ (v21 + v23) then (w_MarkupReader_skip_34 dA y0 K rc rs h0 z0) else (cg_R h0 6 0 y0 (fun v27 => (cg_d v27 (fun a28 => (jd_at z0 a28 (v21 + v23) (fun v29 => (if v29 = 59 then (cg_R h0 6 0 y0 (fun v30 => (cg_I h0 6 1 y0 (fun v31 => (cg_d v30 (fun a32 => (cg_k rc rs 2 146 (fun c36 s37 => w_S_sub dA a32 v31 (v21 + v23) (fun v33 h34 z35 => (cg_d v33 (fun a38 => (cg_d y1 (fun a39 => (jd_eq z35 a38 a39 (fun v40 => (if v40 = 0 then (K 0 h34 z35) else (cg_p h34 6 1 y0 (.int (v21 + v23)) (fun h41 => (K 1 h41 z35))))))))))) h0 z0)))))))) else (w_MarkupReader_skip_34 dA y0 K rc rs h0 z0)))))))))))))))))))))
set_option maxRecDepth 100000 in
set_option maxHeartbeats 8000000 in
theorem cw_MarkupReader_skip (l : Launch) (D : va_G) (dA : Nat → ClassId) (s0 : State) (hW : ms_EW D dA s0) (y0 : Nat) (y1 : Option Nat) (rc rs : Nat) (h0 : hm_T) (z0 : hz_T) (K : Int32 → hm_T → hz_T → Prop) (hg : w_MarkupReader_skip dA y0 y1 rc rs K h0 z0) : ht_C l D s0 yM230 bM230 3 (Option.some Jvm.ClassFile.FieldType.boolean) (5) (192) rc rs [.ref y0, va_rf y1] (fun h z => h = h0 ∧ z = z0) (fun h z vv h1 z1 => ∃ v, vv = some (.int v) ∧ K v h1 z1) := by
  have hE := hW.1
  refine ht_C.mk hE.1 (by decide) (by simp [lg_sl, cat_rf, cat_int, cat_ref, cat_null, cat_long]) [(0, .ref y0), (1, va_rf y1)] (by simp [lv_args, cat_rf, cat_int, cat_ref, cat_null, cat_long]) ?_
  intro p e s m below meth c ls h z X hin hpre I hl
  have hx := X.1
  have hb := X.2.1
  have hml := X.2.2.1
  have hown : s.vm.findClass "MarkupStore$MarkupReader" = some m.cls := X.2.2.2.1
  have hts := X.2.2.2.2.2.2.1
  have hK := X.2.2.2.2.2.2.2.2.1
  rw [hpre.1, hpre.2] at I
  clear hpre
  have b34 : ∀ (ls : Array Slot) (cr sr cu su : Nat) (h : hm_T) (z : hz_T) (H : Heap) (locs : List Loc), w_MarkupReader_skip_34 dA y0 K cr sr h z → cu + cr ≤ rc → su + sr ≤ rs → lv_has ls 3 [] → hm_I D s0 s h z H locs → W p l e { frames := 5, cells := rc, slots := rs, locals := 192 } s m ([.ref y0, va_rf y1] : List Value).toArray below meth c H locs cu su (MQ below (ht_Q D s0 (fun vv h1 z1 => ∃ v, vv = some (.int v) ∧ K v h1 z1)) ([.ref y0, va_rf y1] : List Value).toArray s rc rs (fun q => s0.heap.size ≤ q)) (F0 m 34 ls []) := by
    intro ls cr sr cu su h z H locs hF hc hs hl I
    unfold w_MarkupReader_skip_34 at hF
    refine lv_iconst (v := 0) hx hb d230_34 (by decide) ?_
    exact ht_zret X d230_35 I (rm_r hc) (rm_r hs) ⟨_, rfl, hF⟩ rfl
  have hF := hg
  unfold w_MarkupReader_skip at hF
  clear h z
  have hc : 0 + rc ≤ rc := by omega
  have hs : 0 + rs ≤ rs := by omega
  refine lv_aload_n hx hb d230_0 rfl (lv_at hl 0 rfl) ?_
  obtain ⟨fs9, v21, c9, e9, hF⟩ := hF
  refine va_get (D := D) (ci := 6) (v := .int v21) (C := kR6) (T := kT6) (N := 6) hx hb hts ku6 hown hK (hm_one I.1 c9) 0 rfl rfl 1 (by decide) (hts _ ms_k360) (fun x9 h9 => u_same (hts _ ms_k361) x9 h9) e9 d230_1 ?_
  clear e9 c9 fs9
  refine lv_aload_nR hx hb d230_4 rfl (lv_at hl 1 rfl) ?_
  obtain ⟨a22, e9, hF⟩ := hF
  refine W.eq (g2 := F0 m 5 ls [.ref a22, .int v21]) (by rw [e9]; rfl) ?_
  clear e9
  obtain ⟨u9, xs9, z9, hF⟩ := hF
  refine ht_V (C := "java/lang/String") (rest := [.int v21]) (as := []) X hl (c_Slen l D dA s0 hE a22 u9 xs9) (List.forall_mem_cons.mpr ⟨ms_k579, List.forall_mem_cons.mpr ⟨ms_k391, List.forall_mem_cons.mpr ⟨ms_k392, List.forall_mem_cons.mpr ⟨ms_k4, List.forall_mem_cons.mpr ⟨ms_k393, fun _ h => absurd h List.not_mem_nil⟩⟩⟩⟩⟩) ⟨rfl, by decide +kernel, by decide +kernel, (by decide +kernel : (parseMethodDescriptor "()I").map (fun d => d.parameters.length) = some 0)⟩ (hz_recv I z9) I z9 ⟨⟨Nat.le_of_ble_eq_true rfl, Nat.le_of_ble_eq_true rfl⟩, rm_0 hc, rm_0 hs⟩ rfl (Nat.le_of_ble_eq_true rfl) d230_5 (fun vv h9 z7 H locs hR I9 => ?_)
  obtain ⟨e1, e2, e3⟩ := hR
  rw [e2, e3] at I9
  subst e1
  clear I
  have I := I9
  clear I9 e2 e3 h9 z7
  refine W.eq (g2 := F0 m 8 ls [.int (nI xs9.length), .int v21]) rfl ?_
  generalize (nI xs9.length) = v23 at hF ⊢
  refine lv_iadd hx hb d230_8 ?_
  refine lv_istore_n (i := 2) hx hb d230_9 rfl hl (by decide) (show _ = [(2, .int (v21 + v23)), (0, .ref y0), (1, va_rf y1)] by simp [cat_rf, cat_int, cat_ref, cat_null, cat_long]) (fun ls hl => ?_)
  have hl : lv_has ls 3 [(2, .int (v21 + v23)), (0, .ref y0), (1, va_rf y1)] := hl
  refine lv_iload_n hx hb d230_10 rfl (lv_at hl 0 rfl) ?_
  refine lv_aload_n hx hb d230_11 rfl (lv_at hl 1 rfl) ?_
  obtain ⟨fs9, v24, c9, e9, hF⟩ := hF
  refine va_get (D := D) (ci := 6) (v := va_rf v24) (C := kR6) (T := kT6) (N := 6) hx hb hts ku6 hown hK (hm_one I.1 c9) 0 rfl rfl 0 (by decide) (hts _ ms_k355) (fun x9 h9 => u_same (hts _ ms_k356) x9 h9) e9 d230_12 ?_
  clear e9 c9 fs9
  obtain ⟨a25, e9, hF⟩ := hF
  refine W.eq (g2 := F0 m 15 ls [.ref a25, .int (v21 + v23)]) (by rw [e9]; rfl) ?_
  clear e9
  obtain ⟨u9, xs9, z9, hF⟩ := hF
  refine ht_V (C := "java/lang/String") (rest := [.int (v21 + v23)]) (as := []) X hl (c_Slen l D dA s0 hE a25 u9 xs9) (List.forall_mem_cons.mpr ⟨ms_k579, List.forall_mem_cons.mpr ⟨ms_k391, List.forall_mem_cons.mpr ⟨ms_k392, List.forall_mem_cons.mpr ⟨ms_k4, List.forall_mem_cons.mpr ⟨ms_k393, fun _ h => absurd h List.not_mem_nil⟩⟩⟩⟩⟩) ⟨rfl, by decide +kernel, by decide +kernel, (by decide +kernel : (parseMethodDescriptor "()I").map (fun d => d.parameters.length) = some 0)⟩ (hz_recv I z9) I z9 ⟨⟨Nat.le_of_ble_eq_true rfl, Nat.le_of_ble_eq_true rfl⟩, rm_0 hc, rm_0 hs⟩ rfl (Nat.le_of_ble_eq_true rfl) d230_15 (fun vv h9 z7 H locs hR I9 => ?_)
  obtain ⟨e1, e2, e3⟩ := hR
  rw [e2, e3] at I9
  subst e1
  clear I
  have I := I9
  clear I9 e2 e3 h9 z7
  refine W.eq (g2 := F0 m 18 ls [.int (nI xs9.length), .int (v21 + v23)]) rfl ?_
  generalize (nI xs9.length) = v26 at hF ⊢
  refine lv_icmp_ge hx hb d230_18 rfl (fun h9 => ?_) (fun h9 => ?_)
  · have hF := Eq.mp (if_pos h9) hF
    exact b34 ls rc rs _ _ h0 z0 _ _ hF hc hs (hl.sub [] rfl) I
  · have hF := Eq.mp (if_neg h9) hF
    refine lv_aload_n hx hb d230_21 rfl (lv_at hl 1 rfl) ?_
    obtain ⟨fs9, v27, c9, e9, hF⟩ := hF
    refine va_get (D := D) (ci := 6) (v := va_rf v27) (C := kR6) (T := kT6) (N := 6) hx hb hts ku6 hown hK (hm_one I.1 c9) 0 rfl rfl 0 (by decide) (hts _ ms_k355) (fun x9 h9 => u_same (hts _ ms_k356) x9 h9) e9 d230_22 ?_
    clear e9 c9 fs9
    refine lv_iload_n hx hb d230_25 rfl (lv_at hl 0 rfl) ?_
    obtain ⟨a28, e9, hF⟩ := hF
    refine W.eq (g2 := F0 m 26 ls [.int (v21 + v23), .ref a28]) (by rw [e9]; rfl) ?_
    clear e9
    obtain ⟨u9, xs9, j9, z9, e8, p1, p2, p3, hF⟩ := hF
    refine ms_top (y := nI j9) e8 ?_
    refine ht_V (C := "java/lang/String") (rest := []) (as := [.int (nI j9)]) X hl (c_SchAt l D dA s0 hE a28 u9 xs9 j9 p1 p2 p3) (List.forall_mem_cons.mpr ⟨ms_k643, List.forall_mem_cons.mpr ⟨ms_k399, List.forall_mem_cons.mpr ⟨ms_k400, List.forall_mem_cons.mpr ⟨ms_k4, List.forall_mem_cons.mpr ⟨ms_k401, fun _ h => absurd h List.not_mem_nil⟩⟩⟩⟩⟩) ⟨rfl, by decide +kernel, by decide +kernel, (by decide +kernel : (parseMethodDescriptor "(I)C").map (fun d => d.parameters.length) = some 1)⟩ (hz_recv I z9) I z9 ⟨⟨Nat.le_of_ble_eq_true rfl, Nat.le_of_ble_eq_true rfl⟩, rm_0 hc, rm_0 hs⟩ rfl (Nat.le_of_ble_eq_true rfl) d230_26 (fun vv h9 z7 H locs hR I9 => ?_)
    obtain ⟨e1, e2, e3⟩ := hR
    rw [e2, e3] at I9
    subst e1
    clear I
    have I := I9
    clear I9 e2 e3 h9 z7
    refine W.eq (g2 := F0 m 29 ls [.int (nI (xs9.getD j9 0))]) rfl ?_
    generalize (nI (xs9.getD j9 0)) = v29 at hF ⊢
    refine lv_bipush (v := 59) hx hb d230_29 (by decide) ?_
    refine lv_icmp_eq hx hb d230_31 rfl (fun h9 => ?_) (fun h9 => ?_)
    · have hF := Eq.mp (if_pos h9) hF
      refine lv_aload_n hx hb d230_36 rfl (lv_at hl 1 rfl) ?_
      obtain ⟨fs9, v30, c9, e9, hF⟩ := hF
      refine va_get (D := D) (ci := 6) (v := va_rf v30) (C := kR6) (T := kT6) (N := 6) hx hb hts ku6 hown hK (hm_one I.1 c9) 0 rfl rfl 0 (by decide) (hts _ ms_k355) (fun x9 h9 => u_same (hts _ ms_k356) x9 h9) e9 d230_37 ?_
      clear e9 c9 fs9
      refine lv_aload_n hx hb d230_40 rfl (lv_at hl 1 rfl) ?_
      obtain ⟨fs9, v31, c9, e9, hF⟩ := hF
      refine va_get (D := D) (ci := 6) (v := .int v31) (C := kR6) (T := kT6) (N := 6) hx hb hts ku6 hown hK (hm_one I.1 c9) 0 rfl rfl 1 (by decide) (hts _ ms_k360) (fun x9 h9 => u_same (hts _ ms_k361) x9 h9) e9 d230_41 ?_
      clear e9 c9 fs9
      refine lv_iload_n hx hb d230_44 rfl (lv_at hl 0 rfl) ?_
      obtain ⟨a32, e9, hF⟩ := hF
      refine W.eq (g2 := F0 m 45 ls [.int (v21 + v23), .int v31, .ref a32]) (by rw [e9]; rfl) ?_
      clear e9
      obtain ⟨c36, s37, ec, es, hF⟩ := hF
      obtain ⟨u9, xs9, z9⟩ := w_S_sub_z hF
      refine ht_V (C := "java/lang/String") (rest := []) (as := [.int v31, .int (v21 + v23)]) X hl (cw_S_sub l D dA s0 hE a32 v31 (v21 + v23) h0 z0 _ hF) (List.forall_mem_cons.mpr ⟨ms_k644, List.forall_mem_cons.mpr ⟨ms_k551, List.forall_mem_cons.mpr ⟨ms_k552, List.forall_mem_cons.mpr ⟨ms_k4, List.forall_mem_cons.mpr ⟨ms_k553, fun _ h => absurd h List.not_mem_nil⟩⟩⟩⟩⟩) ⟨rfl, by decide +kernel, by decide +kernel, (by decide +kernel : (parseMethodDescriptor "(II)Ljava/lang/String;").map (fun d => d.parameters.length) = some 2)⟩ (hz_recv I z9) I ⟨rfl, rfl⟩ ⟨⟨Nat.le_of_ble_eq_true rfl, Nat.le_of_ble_eq_true rfl⟩, (rm_u hc ec).1, (rm_u hs es).1⟩ rfl (Nat.le_of_ble_eq_true rfl) d230_45 (fun vv h34 z35 H locs hR I9 => ?_)
      obtain ⟨v33, e1, hF⟩ := hR
      subst e1
      clear I
      have I := I9
      clear I9 z9
      have hc := (rm_u hc ec).2
      have hs := (rm_u hs es).2
      clear ec es
      refine W.eq (g2 := F0 m 48 ls [va_rf v33]) rfl ?_
      refine lv_aload_nR hx hb d230_48 rfl (lv_at hl 2 rfl) ?_
      obtain ⟨a38, e9, hF⟩ := hF
      refine W.eq (g2 := F0 m 49 ls [va_rf y1, .ref a38]) (by rw [e9]; rfl) ?_
      clear e9
      obtain ⟨a39, e9, hF⟩ := hF
      refine W.eq (g2 := F0 m 49 ls [.ref a39, .ref a38]) (by rw [e9]; rfl) ?_
      clear e9
      obtain ⟨u9, xs9, u8, ys9, z9, z8, p1, p2, p3, p4, hF⟩ := hF
      refine ht_V (C := "java/lang/String") (rest := []) (as := [.ref a39]) X hl (c_Seq l D dA s0 hE a38 u9 xs9 a39 u8 ys9 p1 p2 p3 p4) (List.forall_mem_cons.mpr ⟨ms_k645, List.forall_mem_cons.mpr ⟨ms_k616, List.forall_mem_cons.mpr ⟨ms_k617, List.forall_mem_cons.mpr ⟨ms_k4, List.forall_mem_cons.mpr ⟨ms_k618, fun _ h => absurd h List.not_mem_nil⟩⟩⟩⟩⟩) ⟨rfl, by decide +kernel, by decide +kernel, (by decide +kernel : (parseMethodDescriptor "(Ljava/lang/Object;)Z").map (fun d => d.parameters.length) = some 1)⟩ (hz_recv I z9) I ⟨z9, z8⟩ ⟨⟨Nat.le_of_ble_eq_true rfl, Nat.le_of_ble_eq_true rfl⟩, rm_0 hc, rm_0 hs⟩ rfl (Nat.le_of_ble_eq_true rfl) d230_49 (fun vv h9 z7 H locs hR I9 => ?_)
      obtain ⟨e1, e2, e3⟩ := hR
      rw [e2, e3] at I9
      subst e1
      clear I
      have I := I9
      clear I9 e2 e3 h9 z7
      refine W.eq (g2 := F0 m 52 ls [.int (if xs9 = ys9 then 1 else 0)]) rfl ?_
      generalize (if xs9 = ys9 then 1 else 0) = v40 at hF ⊢
      refine lv_if_ne hx hb d230_52 rfl (fun h9 => ?_) (fun h9 => ?_)
      · have hF := Eq.mp (if_neg h9) hF
        refine lv_aload_n hx hb d230_57 rfl (lv_at hl 1 rfl) ?_
        refine lv_iload_n hx hb d230_58 rfl (lv_at hl 0 rfl) ?_
        obtain ⟨fs9, c9, k9, hF⟩ := hF
        refine hm_put (ci := 6) (v := .int (v21 + v23)) (ty := .int) (C := kR6) (T := kT6) (N := 6) X I ku6 kt6 kp6 kn6 c9 rfl 1 (by decide) ms_k360 (fun x9 h9 => u_same (hts _ ms_k361) x9 h9) rfl (by decide +kernel) rfl rfl k9 d230_59 (fun h41 H locs e9 f9 I => ?_)
        rw [← hm_eqU e9 f9] at hF
        clear e9 f9 c9 k9
        refine lv_iconst (v := 1) hx hb d230_62 (by decide) ?_
        exact ht_zret X d230_63 I (rm_r hc) (rm_r hs) ⟨_, rfl, hF⟩ rfl
      · have hF := Eq.mp (if_pos h9) hF
        refine lv_iconst (v := 0) hx hb d230_55 (by decide) ?_
        exact ht_zret X d230_56 I (rm_r hc) (rm_r hs) ⟨_, rfl, hF⟩ rfl
    · have hF := Eq.mp (if_neg h9) hF
      exact b34 ls rc rs _ _ h0 z0 _ _ hF hc hs (hl.sub [] rfl) I

def w_Node_init_29 (dA : Nat → ClassId) (y0 : Nat) (K : hm_T → hz_T → Prop) (x3 : Option Nat) (w0 : Int32) (cr sr : Nat) (h : hm_T) (z : hz_T) : Prop := (cg_p h 8 2 y0 (.int w0) (fun h25 => (cg_p h25 8 3 y0 (va_rf x3) (fun h26 => (cg_new h26 cr sr 4 3 [.int 0, .null, .int 0] (fun q27 c29 s30 h28 => (cg_c h28 4 q27 (cg_rm c29 s30 (fun c34 s35 c36 s37 => w_ArrayList_init dA q27 c34 s35 (fun h32 z33 => (cg_p h32 8 4 y0 (.ref q27) (fun h38 => (cg_p h38 8 5 y0 (.int (-1)) (fun h39 => (cg_p h39 8 6 y0 (.int (-1)) (fun h40 => (cg_lit z33 [] (fun a41 => (cg_p h40 8 7 y0 (.ref a41) (fun h42 => (cg_lit z33 [] (fun a43 => (cg_p h42 8 8 y0 (.ref a43) (fun h44 => (K h44 z33)))))))))))))))) h28 z)))))))))
def w_Node_init (dA : Nat → ClassId) (y0 : Nat) (y1 : Int32) (y2 : Option Nat) (y3 : Option Nat) (rc rs : Nat) (K : hm_T → hz_T → Prop) (h0 : hm_T) (z0 : hz_T) : Prop := (cg_p h0 8 0 y0 (.int y1) (fun h21 => (cg_p h21 8 1 y0 (va_rf y2) (fun h22 => (if y2 = none then (w_Node_init_29 dA y0 K y3 0 rc rs h22 z0) else (cg_d y2 (fun a23 => (cg_I h22 8 2 a23 (fun v24 => (w_Node_init_29 dA y0 K y3 (v24 + 1) rc rs h22 z0))))))))))
set_option maxRecDepth 100000 in
set_option maxHeartbeats 8000000 in
theorem cw_Node_init (l : Launch) (D : va_G) (dA : Nat → ClassId) (s0 : State) (hW : ms_EW D dA s0) (y0 : Nat) (y1 : Int32) (y2 : Option Nat) (y3 : Option Nat) (rc rs : Nat) (h0 : hm_T) (z0 : hz_T) (K : hm_T → hz_T → Prop) (hg : w_Node_init dA y0 y1 y2 y3 rc rs K h0 z0) : ht_C l D s0 yM231 bM231 4 (Option.none : Option Jvm.ClassFile.FieldType) (4) (72) rc rs [.ref y0, .int y1, va_rf y2, va_rf y3] (fun h z => h = h0 ∧ z = z0) (fun h z vv h1 z1 => vv = none ∧ K h1 z1) := by
  have hE := hW.1
  refine ht_C.mk hE.1 (by decide) (by simp [lg_sl, cat_rf, cat_int, cat_ref, cat_null, cat_long]) [(0, .ref y0), (1, .int y1), (2, va_rf y2), (3, va_rf y3)] (by simp [lv_args, cat_rf, cat_int, cat_ref, cat_null, cat_long]) ?_
  intro p e s m below meth c ls h z X hin hpre I hl
  have hx := X.1
  have hb := X.2.1
  have hml := X.2.2.1
  have hown : s.vm.findClass "MarkupStore$Node" = some m.cls := X.2.2.2.1
  have hts := X.2.2.2.2.2.2.1
  have hK := X.2.2.2.2.2.2.2.2.1
  rw [hpre.1, hpre.2] at I
  clear hpre
  have b29 : ∀ (ls : Array Slot) (x3 : Option Nat) (w0 : Int32) (cr sr cu su : Nat) (h : hm_T) (z : hz_T) (H : Heap) (locs : List Loc), w_Node_init_29 dA y0 K x3 w0 cr sr h z → cu + cr ≤ rc → su + sr ≤ rs → lv_has ls 4 [(0, .ref y0), (3, va_rf x3)] → hm_I D s0 s h z H locs → W p l e { frames := 4, cells := rc, slots := rs, locals := 72 } s m ([.ref y0, .int y1, va_rf y2, va_rf y3] : List Value).toArray below meth c H locs cu su (MQ below (ht_Q D s0 (fun vv h1 z1 => vv = none ∧ K h1 z1)) ([.ref y0, .int y1, va_rf y2, va_rf y3] : List Value).toArray s rc rs (fun q => s0.heap.size ≤ q)) (F0 m 29 ls [.int w0, .ref y0]) := by
    intro ls x3 w0 cr sr cu su h z H locs hF hc hs hl I
    unfold w_Node_init_29 at hF
    obtain ⟨fs9, c9, k9, hF⟩ := hF
    refine hm_putF (ci := 8) (v := .int w0) (ty := .int) (C := kR8) (T := kT8) (N := 9) X I ku8 kt8 kp8 kn8 c9 rfl 2 (by decide) ms_k449 (fun _ h => h) rfl hin rfl (by decide +kernel) rfl rfl k9 d231_29 (fun h25 H locs e9 f9 I => ?_)
    rw [← hm_eqU e9 f9] at hF
    clear e9 f9 c9 k9
    refine lv_aload_n hx hb d231_32 rfl (lv_at hl 0 rfl) ?_
    refine lv_aload_nR hx hb d231_33 rfl (lv_at hl 1 rfl) ?_
    obtain ⟨fs9, c9, k9, hF⟩ := hF
    refine hm_putF (ci := 8) (v := va_rf x3) (ty := (.array .int)) (C := kR8) (T := kT8) (N := 9) X I ku8 kt8 kp8 kn8 c9 rfl 3 (by decide) ms_k452 (fun _ h => h) rfl hin rfl (by decide +kernel) (by cases x3 <;> rfl) (by cases x3 <;> rfl) k9 d231_34 (fun h26 H locs e9 f9 I => ?_)
    rw [← hm_eqU e9 f9] at hF
    clear e9 f9 c9 k9
    refine lv_aload_n hx hb d231_37 rfl (lv_at hl 0 rfl) ?_
    obtain ⟨c29, s30, ec, es, hF⟩ := hF
    refine hm_mk (ci := 4) (fs := [.int 0, .null, .int 0]) (C := kR4) (T := kT4) (N := 3) X I ku4 kt4 kp4 (List.forall_mem_cons.mpr ⟨ms_k436, List.forall_mem_cons.mpr ⟨ms_k323, List.forall_mem_cons.mpr ⟨ms_k18, fun _ h => absurd h List.not_mem_nil⟩⟩⟩) rfl kz4 (rm_u hc ec).1 (rm_u hs es).1 d231_38 (fun q27 h28 H v9 e9 f9 I => ?_)
    have hF := hF q27 v9
    rw [← hm_eqU e9 f9] at hF
    clear e9 f9 v9
    have hc := (rm_u hc ec).2
    have hs := (rm_u hs es).2
    clear ec es
    refine lv_dup hx hb d231_41 rfl ?_
    obtain ⟨fs9, c9, hF⟩ := hF
    obtain ⟨c34, s35, c36, s37, ec, es, hF⟩ := hF
    refine ht_I (rest := [.ref q27, .ref y0]) (as := []) X hl (cw_ArrayList_init l D dA s0 hW q27 c34 s35 h28 z _ hF) (List.forall_mem_cons.mpr ⟨ms_k437, List.forall_mem_cons.mpr ⟨ms_k325, List.forall_mem_cons.mpr ⟨ms_k18, List.forall_mem_cons.mpr ⟨ms_k326, fun _ h => absurd h List.not_mem_nil⟩⟩⟩⟩) rfl ⟨by decide +kernel, by decide +kernel, (by decide +kernel : (parseMethodDescriptor "()V").map (fun d => d.parameters.length) = some 0)⟩ I ⟨rfl, rfl⟩ ⟨⟨Nat.le_of_ble_eq_true rfl, Nat.le_of_ble_eq_true rfl⟩, (rm_u hc ec).1, (rm_u hs es).1⟩ rfl (Nat.le_of_ble_eq_true rfl) d231_42 (fun vv h32 z33 H locs hR I9 => ?_)
    obtain ⟨e1, hF⟩ := hR
    subst e1
    clear I
    have I := I9
    clear I9 c9 fs9
    have hc := (rm_u hc ec).2
    have hs := (rm_u hs es).2
    clear ec es
    refine W.eq (g2 := F0 m 45 ls [.ref q27, .ref y0]) rfl ?_
    obtain ⟨fs9, c9, k9, hF⟩ := hF
    refine hm_putF (ci := 8) (v := .ref q27) (ty := (.object "java/util/ArrayList")) (C := kR8) (T := kT8) (N := 9) X I ku8 kt8 kp8 kn8 c9 rfl 4 (by decide) ms_k455 (fun _ h => h) rfl hin rfl (by decide +kernel) rfl rfl k9 d231_45 (fun h38 H locs e9 f9 I => ?_)
    rw [← hm_eqU e9 f9] at hF
    clear e9 f9 c9 k9
    refine lv_aload_n hx hb d231_48 rfl (lv_at hl 0 rfl) ?_
    refine lv_iconst (v := (-1)) hx hb d231_49 (by decide) ?_
    obtain ⟨fs9, c9, k9, hF⟩ := hF
    refine hm_put (ci := 8) (v := .int (-1)) (ty := .int) (C := kR8) (T := kT8) (N := 9) X I ku8 kt8 kp8 kn8 c9 rfl 5 (by decide) ms_k459 (fun _ h => h) rfl (by decide +kernel) rfl rfl k9 d231_50 (fun h39 H locs e9 f9 I => ?_)
    rw [← hm_eqU e9 f9] at hF
    clear e9 f9 c9 k9
    refine lv_aload_n hx hb d231_53 rfl (lv_at hl 0 rfl) ?_
    refine lv_iconst (v := (-1)) hx hb d231_54 (by decide) ?_
    obtain ⟨fs9, c9, k9, hF⟩ := hF
    refine hm_put (ci := 8) (v := .int (-1)) (ty := .int) (C := kR8) (T := kT8) (N := 9) X I ku8 kt8 kp8 kn8 c9 rfl 6 (by decide) ms_k462 (fun _ h => h) rfl (by decide +kernel) rfl rfl k9 d231_55 (fun h40 H locs e9 f9 I => ?_)
    rw [← hm_eqU e9 f9] at hF
    clear e9 f9 c9 k9
    refine lv_aload_n hx hb d231_58 rfl (lv_at hl 0 rfl) ?_
    refine hz_ldc (xs := []) hE X I 0 rfl hown d231_59 (fun a41 u9 z9 => ?_)
    have hF := hF _ _ z9
    obtain ⟨fs9, c9, k9, hF⟩ := hF
    refine hm_put (ci := 8) (v := .ref a41) (ty := (.object "java/lang/String")) (C := kR8) (T := kT8) (N := 9) X I ku8 kt8 kp8 kn8 c9 rfl 7 (by decide) ms_k466 (fun _ h => h) rfl (by decide +kernel) rfl rfl k9 d231_61 (fun h42 H locs e9 f9 I => ?_)
    rw [← hm_eqU e9 f9] at hF
    clear e9 f9 c9 k9
    refine lv_aload_n hx hb d231_64 rfl (lv_at hl 0 rfl) ?_
    refine hz_ldc (xs := []) hE X I 0 rfl hown d231_65 (fun a43 u9 z9 => ?_)
    have hF := hF _ _ z9
    obtain ⟨fs9, c9, k9, hF⟩ := hF
    refine hm_put (ci := 8) (v := .ref a43) (ty := (.object "java/lang/String")) (C := kR8) (T := kT8) (N := 9) X I ku8 kt8 kp8 kn8 c9 rfl 8 (by decide) ms_k473 (fun _ h => h) rfl (by decide +kernel) rfl rfl k9 d231_67 (fun h44 H locs e9 f9 I => ?_)
    rw [← hm_eqU e9 f9] at hF
    clear e9 f9 c9 k9
    exact ht_vret X d231_70 I (rm_r hc) (rm_r hs) ⟨rfl, hF⟩
  have hF := hg
  unfold w_Node_init at hF
  clear h z
  have hc : 0 + rc ≤ rc := by omega
  have hs : 0 + rs ≤ rs := by omega
  refine lv_aload_n hx hb d231_0 rfl (lv_at hl 0 rfl) ?_
  refine W.objInit hx hb hown (hts _ ms_k435) (hts _ ms_k37) (hts _ ms_k38) rfl (by rw [hml]; exact hl.1) rfl d231_1 (Nat.le_of_ble_eq_true rfl) (Nat.le_of_ble_eq_true rfl) ?_
  refine W.eq (g2 := F0 m 4 ls []) rfl ?_
  refine lv_aload_n hx hb d231_4 rfl (lv_at hl 0 rfl) ?_
  refine lv_iload_n hx hb d231_5 rfl (lv_at hl 1 rfl) ?_
  obtain ⟨fs9, c9, k9, hF⟩ := hF
  refine hm_putF (ci := 8) (v := .int y1) (ty := .int) (C := kR8) (T := kT8) (N := 9) X I ku8 kt8 kp8 kn8 c9 rfl 0 (by decide) ms_k439 (fun _ h => h) rfl hin rfl (by decide +kernel) rfl rfl k9 d231_6 (fun h21 H locs e9 f9 I => ?_)
  rw [← hm_eqU e9 f9] at hF
  clear e9 f9 c9 k9
  refine lv_aload_n hx hb d231_9 rfl (lv_at hl 0 rfl) ?_
  refine lv_aload_nR hx hb d231_10 rfl (lv_at hl 2 rfl) ?_
  obtain ⟨fs9, c9, k9, hF⟩ := hF
  refine hm_putF (ci := 8) (v := va_rf y2) (ty := (.object "MarkupStore$Node")) (C := kR8) (T := kT8) (N := 9) X I ku8 kt8 kp8 kn8 c9 rfl 1 (by decide) ms_k444 (fun _ h => h) rfl hin rfl (by decide +kernel) (by cases y2 <;> rfl) (by cases y2 <;> rfl) k9 d231_11 (fun h22 H locs e9 f9 I => ?_)
  rw [← hm_eqU e9 f9] at hF
  clear e9 f9 c9 k9
  refine lv_aload_n hx hb d231_14 rfl (lv_at hl 0 rfl) ?_
  refine lv_aload_nR hx hb d231_15 rfl (lv_at hl 2 rfl) ?_
  refine lv_ifnonnullR hx hb d231_16 rfl (fun h9 => ?_) (fun h9 => ?_)
  · have hF := Eq.mp (if_neg h9) hF
    refine lv_aload_nR hx hb d231_23 rfl (lv_at hl 2 rfl) ?_
    obtain ⟨a23, e9, hF⟩ := hF
    refine W.eq (g2 := F0 m 24 ls [.ref a23, .ref y0]) (by rw [e9]; rfl) ?_
    clear e9
    obtain ⟨fs9, v24, c9, e9, hF⟩ := hF
    refine va_get (D := D) (ci := 8) (v := .int v24) (C := kR8) (T := kT8) (N := 9) hx hb hts ku8 hown hK (hm_one I.1 c9) 0 rfl rfl 2 (by decide) (hts _ ms_k449) (fun _ h => h) e9 d231_24 ?_
    clear e9 c9 fs9
    refine lv_iconst (v := 1) hx hb d231_27 (by decide) ?_
    refine lv_iadd hx hb d231_28 ?_
    exact b29 ls y3 (v24 + 1) rc rs _ _ h22 z0 _ _ hF hc hs (hl.sub [0, 3] rfl) I
  · have hF := Eq.mp (if_pos h9) hF
    refine lv_iconst (v := 0) hx hb d231_19 (by decide) ?_
    refine lv_goto hx hb d231_20 rfl ?_
    exact b29 ls y3 0 rc rs _ _ h22 z0 _ _ hF hc hs (hl.sub [0, 3] rfl) I

def w_Node_labelOfChild (dA : Nat → ClassId) (y0 : Nat) (y1 : Int32) (rc rs : Nat) (K : Option Nat → hm_T → hz_T → Prop) (h0 : hm_T) (z0 : hz_T) : Prop := (cg_R h0 8 3 y0 (fun v21 => (cg_R h0 8 3 y0 (fun v22 => (cg_d v22 (fun a23 => (cg_al dA h0 0 a23 (fun v24 => (cg_rm rc rs (fun c28 s29 c30 s31 => w_Arrays_copyOfI dA v21 (v24 + 1) c28 s29 (fun v25 h26 z27 => (cg_R h26 8 3 y0 (fun v32 => (cg_d v32 (fun a33 => (cg_al dA h26 0 a33 (fun v34 => (cg_d v25 (fun a35 => (cg_si dA h26 0 a35 v34 ((2 * y1) + 1) (fun h36 => (K v25 h36 z27)))))))))))) h0 z0))))))))))
set_option maxRecDepth 100000 in
set_option maxHeartbeats 8000000 in
theorem cw_Node_labelOfChild (l : Launch) (D : va_G) (dA : Nat → ClassId) (s0 : State) (hW : ms_EW D dA s0) (y0 : Nat) (y1 : Int32) (rc rs : Nat) (h0 : hm_T) (z0 : hz_T) (K : Option Nat → hm_T → hz_T → Prop) (hg : w_Node_labelOfChild dA y0 y1 rc rs K h0 z0) : ht_C l D s0 yM232 bM232 3 (Option.some (Jvm.ClassFile.FieldType.array Jvm.ClassFile.FieldType.int)) (2) (122) rc rs [.ref y0, .int y1] (fun h z => h = h0 ∧ z = z0) (fun h z vv h1 z1 => ∃ v, vv = some (va_rf v) ∧ K v h1 z1) := by
  have hE := hW.1
  refine ht_C.mk hE.1 (by decide) (Nat.le_of_ble_eq_true rfl) [(0, .ref y0), (1, .int y1)] rfl ?_
  intro p e s m below meth c ls h z X hin hpre I hl
  have hx := X.1
  have hb := X.2.1
  have hml := X.2.2.1
  have hown : s.vm.findClass "MarkupStore$Node" = some m.cls := X.2.2.2.1
  have hts := X.2.2.2.2.2.2.1
  have hK := X.2.2.2.2.2.2.2.2.1
  rw [hpre.1, hpre.2] at I
  clear hpre
  have hF := hg
  unfold w_Node_labelOfChild at hF
  clear h z
  have hc : 0 + rc ≤ rc := by omega
  have hs : 0 + rs ≤ rs := by omega
  refine lv_aload_n hx hb d232_0 rfl (lv_at hl 0 rfl) ?_
  obtain ⟨fs9, v21, c9, e9, hF⟩ := hF
  refine va_get (D := D) (ci := 8) (v := va_rf v21) (C := kR8) (T := kT8) (N := 9) hx hb hts ku8 hown hK (hm_one I.1 c9) 0 rfl rfl 3 (by decide) (hts _ ms_k452) (fun _ h => h) e9 d232_1 ?_
  clear e9 c9 fs9
  refine lv_aload_n hx hb d232_4 rfl (lv_at hl 0 rfl) ?_
  obtain ⟨fs9, v22, c9, e9, hF⟩ := hF
  refine va_get (D := D) (ci := 8) (v := va_rf v22) (C := kR8) (T := kT8) (N := 9) hx hb hts ku8 hown hK (hm_one I.1 c9) 0 rfl rfl 3 (by decide) (hts _ ms_k452) (fun _ h => h) e9 d232_5 ?_
  clear e9 c9 fs9
  obtain ⟨a23, e9, hF⟩ := hF
  refine W.eq (g2 := F0 m 8 ls [.ref a23, va_rf v21]) (by rw [e9]; rfl) ?_
  clear e9
  obtain ⟨n8, f8, c9, hF⟩ := hF
  refine va_alen (v := nI n8) hx hb hK (hm_one I.1 c9) 0 0 rfl rfl rfl d232_8 ?_
  generalize nI n8 = v24 at hF ⊢
  clear c9
  refine lv_iconst (v := 1) hx hb d232_9 (by decide) ?_
  refine lv_iadd hx hb d232_10 ?_
  obtain ⟨c28, s29, c30, s31, ec, es, hF⟩ := hF
  refine ht_S (rest := []) (as := [va_rf v21, .int (v24 + 1)]) X hl (cw_Arrays_copyOfI l D dA s0 hW v21 (v24 + 1) c28 s29 h0 z0 _ hF) (List.forall_mem_cons.mpr ⟨ms_k678, List.forall_mem_cons.mpr ⟨ms_k679, List.forall_mem_cons.mpr ⟨ms_k10, List.forall_mem_cons.mpr ⟨ms_k680, fun _ h => absurd h List.not_mem_nil⟩⟩⟩⟩) ⟨by decide +kernel, by decide +kernel, (by decide +kernel : (parseMethodDescriptor "([II)[I").map (fun d => d.parameters.length) = some 2)⟩ I ⟨rfl, rfl⟩ ⟨⟨Nat.le_of_ble_eq_true rfl, Nat.le_of_ble_eq_true rfl⟩, (rm_u hc ec).1, (rm_u hs es).1⟩ rfl (Nat.le_of_ble_eq_true rfl) d232_11 (fun vv h26 z27 H locs hR I9 => ?_)
  obtain ⟨v25, e1, hF⟩ := hR
  subst e1
  clear I
  have I := I9
  clear I9
  have hc := (rm_u hc ec).2
  have hs := (rm_u hs es).2
  clear ec es
  refine W.eq (g2 := F0 m 14 ls [va_rf v25]) rfl ?_
  refine lv_astore_nR hx hb d232_14 rfl hl (by decide) rfl (fun ls hl => ?_)
  have hl : lv_has ls 3 [(2, va_rf v25), (0, .ref y0), (1, .int y1)] := hl
  refine lv_aload_nR hx hb d232_15 rfl (lv_at hl 0 rfl) ?_
  refine lv_aload_n hx hb d232_16 rfl (lv_at hl 1 rfl) ?_
  obtain ⟨fs9, v32, c9, e9, hF⟩ := hF
  refine va_get (D := D) (ci := 8) (v := va_rf v32) (C := kR8) (T := kT8) (N := 9) hx hb hts ku8 hown hK (hm_one I.1 c9) 0 rfl rfl 3 (by decide) (hts _ ms_k452) (fun _ h => h) e9 d232_17 ?_
  clear e9 c9 fs9
  obtain ⟨a33, e9, hF⟩ := hF
  refine W.eq (g2 := F0 m 20 ls [.ref a33, va_rf v25]) (by rw [e9]; rfl) ?_
  clear e9
  obtain ⟨n8, f8, c9, hF⟩ := hF
  refine va_alen (v := nI n8) hx hb hK (hm_one I.1 c9) 0 0 rfl rfl rfl d232_20 ?_
  generalize nI n8 = v34 at hF ⊢
  clear c9
  refine lv_iconst (v := 2) hx hb d232_21 (by decide) ?_
  refine lv_iload_n hx hb d232_22 rfl (lv_at hl 2 rfl) ?_
  refine lv_imul hx hb d232_23 ?_
  refine lv_iconst (v := 1) hx hb d232_24 (by decide) ?_
  refine lv_iadd hx hb d232_25 ?_
  obtain ⟨a35, e9, hF⟩ := hF
  refine W.eq (g2 := F0 m 26 ls [.int ((2 * y1) + 1), .int v34, .ref a35]) (by rw [e9]; rfl) ?_
  clear e9
  obtain ⟨n8, f8, c9, i9, hF⟩ := hF
  refine hm_iast X I 0 c9 rfl i9 d232_26 (fun h36 H locs e9 f9 I => ?_)
  rw [← hm_eqU e9 f9] at hF
  clear e9 f9 c9 i9
  refine lv_aload_nR hx hb d232_27 rfl (lv_at hl 0 rfl) ?_
  exact ht_aret X d232_28 I (rm_r hc) (rm_r hs) ⟨v25, rfl, hF⟩ (Or.inr ⟨_, rfl⟩) (rf_or _)

def w_Node_labelBetween_281 (dA : Nat → ClassId) (K : Option Nat → hm_T → hz_T → Prop) (x5 : Option Nat) (x6 : Int32) (cr sr : Nat) (h : hm_T) (z : hz_T) : Prop := (cg_rm cr sr (fun c41 s42 c43 s44 => w_Arrays_copyOfI dA x5 x6 c41 s42 (fun v38 h39 z40 => (K v38 h39 z40)) h z))
def w_Node_labelBetween_275 (dA : Nat → ClassId) (K : Option Nat → hm_T → hz_T → Prop) (k48 : Option Nat → Option Nat → Option Nat → Int32 → Int32 → Nat → Nat → hm_T → hz_T → Prop) (x3 : Option Nat) (x4 : Option Nat) (x5 : Option Nat) (x6 : Int32) (x7 : Int32) (cr sr : Nat) (h : hm_T) (z : hz_T) : Prop := (k48 x3 x4 x5 (x6 + 1) x7 cr sr h z)
def w_Node_labelBetween_175 (dA : Nat → ClassId) (K : Option Nat → hm_T → hz_T → Prop) (k48 : Option Nat → Option Nat → Option Nat → Int32 → Int32 → Nat → Nat → hm_T → hz_T → Prop) (x3 : Option Nat) (x4 : Option Nat) (x5 : Option Nat) (x6 : Int32) (x12 : Int32) (cr sr : Nat) (h : hm_T) (z : hz_T) : Prop := (cg_d x5 (fun a45 => (cg_si dA h 0 a45 x6 x12 (fun h46 => (w_Node_labelBetween_275 dA K k48 x3 x4 x5 x6 0 cr sr h46 z)))))
def w_Node_labelBetween_228 (dA : Nat → ClassId) (K : Option Nat → hm_T → hz_T → Prop) (k48 : Option Nat → Option Nat → Option Nat → Int32 → Int32 → Nat → Nat → hm_T → hz_T → Prop) (x3 : Option Nat) (x4 : Option Nat) (x5 : Option Nat) (x6 : Int32) (x7 : Int32) (x10 : Int32) (x11 : Int32) (cr sr : Nat) (h : hm_T) (z : hz_T) : Prop := (if x10 = x11 then (cg_d x5 (fun a57 => (cg_si dA h 0 a57 x6 x10 (fun h58 => (w_Node_labelBetween_275 dA K k48 x3 x4 x5 x6 x7 cr sr h58 z))))) else (w_Node_isOdd dA x10 (fun v50 h51 z52 => (if v50 = 0 then (cg_d x5 (fun a55 => (cg_si dA h51 0 a55 x6 x10 (fun h56 => (w_Node_labelBetween_275 dA K k48 x3 none x5 x6 x7 cr sr h56 z52))))) else (cg_d x5 (fun a53 => (cg_si dA h51 0 a53 x6 x11 (fun h54 => (w_Node_labelBetween_275 dA K k48 none x4 x5 x6 x7 cr sr h54 z52))))))) h z))
def w_Node_labelBetween_156 (dA : Nat → ClassId) (K : Option Nat → hm_T → hz_T → Prop) (k48 : Option Nat → Option Nat → Option Nat → Int32 → Int32 → Nat → Nat → hm_T → hz_T → Prop) (x3 : Option Nat) (x4 : Option Nat) (x5 : Option Nat) (x6 : Int32) (x7 : Int32) (x8 : Int32) (x9 : Int32) (x10 : Int32) (x11 : Int32) (w0 : Int32) (cr sr : Nat) (h : hm_T) (z : hz_T) : Prop := (if x8 = 0 then (w_Node_labelBetween_175 dA K k48 x3 x4 x5 x6 w0 cr sr h z) else (if x9 = 0 then (w_Node_labelBetween_175 dA K k48 x3 x4 x5 x6 w0 cr sr h z) else (if x11 ≤ w0 then (w_Node_isOdd dA x10 (fun v47 h48 z49 => (if v47 = 0 then (w_Node_labelBetween_228 dA K k48 x3 x4 x5 x6 x7 x10 x11 cr sr h48 z49) else (w_Node_isOdd dA x11 (fun v59 h60 z61 => (if v59 = 0 then (w_Node_labelBetween_228 dA K k48 x3 x4 x5 x6 x7 x10 x11 cr sr h60 z61) else (cg_d x5 (fun a62 => (cg_si dA h60 0 a62 x6 (x10 + 1) (fun h63 => (cg_d x5 (fun a64 => (cg_si dA h63 0 a64 (x6 + 1) 1 (fun h65 => (w_Node_labelBetween_275 dA K k48 x3 x4 x5 (x6 + 1) 0 cr sr h65 z61))))))))))) h48 z49))) h z) else (w_Node_labelBetween_175 dA K k48 x3 x4 x5 x6 w0 cr sr h z))))
def w_Node_labelBetween_127 (dA : Nat → ClassId) (K : Option Nat → hm_T → hz_T → Prop) (k48 : Option Nat → Option Nat → Option Nat → Int32 → Int32 → Nat → Nat → hm_T → hz_T → Prop) (x3 : Option Nat) (x4 : Option Nat) (x5 : Option Nat) (x6 : Int32) (x7 : Int32) (x8 : Int32) (x9 : Int32) (x10 : Int32) (w0 : Int32) (cr sr : Nat) (h : hm_T) (z : hz_T) : Prop := (if x8 = 0 then (if x9 = 0 then (w_Node_labelBetween_156 dA K k48 x3 x4 x5 x6 x7 x8 x9 x10 w0 1 cr sr h z) else (w_Node_oddBelow dA w0 (fun v66 h67 z68 => (w_Node_labelBetween_156 dA K k48 x3 x4 x5 x6 x7 x8 x9 x10 w0 v66 cr sr h67 z68)) h z)) else (w_Node_oddAbove dA x10 (fun v69 h70 z71 => (w_Node_labelBetween_156 dA K k48 x3 x4 x5 x6 x7 x8 x9 x10 w0 v69 cr sr h70 z71)) h z))
def w_Node_labelBetween_111 (dA : Nat → ClassId) (K : Option Nat → hm_T → hz_T → Prop) (k48 : Option Nat → Option Nat → Option Nat → Int32 → Int32 → Nat → Nat → hm_T → hz_T → Prop) (x3 : Option Nat) (x4 : Option Nat) (x5 : Option Nat) (x6 : Int32) (x7 : Int32) (x8 : Int32) (x9 : Int32) (w0 : Int32) (cr sr : Nat) (h : hm_T) (z : hz_T) : Prop := (if x9 = 0 then (w_Node_labelBetween_127 dA K k48 x3 x4 x5 x6 x7 x8 x9 w0 0 cr sr h z) else (cg_d x4 (fun a72 => (cg_ai dA h 0 a72 x6 (fun v73 => (w_Node_labelBetween_127 dA K k48 x3 x4 x5 x6 x7 x8 x9 w0 v73 cr sr h z))))))
def w_Node_labelBetween_96 (dA : Nat → ClassId) (K : Option Nat → hm_T → hz_T → Prop) (k48 : Option Nat → Option Nat → Option Nat → Int32 → Int32 → Nat → Nat → hm_T → hz_T → Prop) (x3 : Option Nat) (x4 : Option Nat) (x5 : Option Nat) (x6 : Int32) (x7 : Int32) (x8 : Int32) (w0 : Int32) (cr sr : Nat) (h : hm_T) (z : hz_T) : Prop := (if x8 = 0 then (w_Node_labelBetween_111 dA K k48 x3 x4 x5 x6 x7 x8 w0 0 cr sr h z) else (cg_d x3 (fun a74 => (cg_ai dA h 0 a74 x6 (fun v75 => (w_Node_labelBetween_111 dA K k48 x3 x4 x5 x6 x7 x8 w0 v75 cr sr h z))))))
def w_Node_labelBetween_95 (dA : Nat → ClassId) (K : Option Nat → hm_T → hz_T → Prop) (k48 : Option Nat → Option Nat → Option Nat → Int32 → Int32 → Nat → Nat → hm_T → hz_T → Prop) (x3 : Option Nat) (x4 : Option Nat) (x5 : Option Nat) (x6 : Int32) (x7 : Int32) (x8 : Int32) (cr sr : Nat) (h : hm_T) (z : hz_T) : Prop := (w_Node_labelBetween_96 dA K k48 x3 x4 x5 x6 x7 x8 0 cr sr h z)
def w_Node_labelBetween_76 (dA : Nat → ClassId) (K : Option Nat → hm_T → hz_T → Prop) (k48 : Option Nat → Option Nat → Option Nat → Int32 → Int32 → Nat → Nat → hm_T → hz_T → Prop) (x3 : Option Nat) (x4 : Option Nat) (x5 : Option Nat) (x6 : Int32) (x7 : Int32) (w0 : Int32) (cr sr : Nat) (h : hm_T) (z : hz_T) : Prop := (if x4 = none then (w_Node_labelBetween_95 dA K k48 x3 x4 x5 x6 x7 w0 cr sr h z) else (cg_d x4 (fun a76 => (cg_al dA h 0 a76 (fun v77 => (if v77 ≤ x6 then (w_Node_labelBetween_95 dA K k48 x3 x4 x5 x6 x7 w0 cr sr h z) else (w_Node_labelBetween_96 dA K k48 x3 x4 x5 x6 x7 w0 1 cr sr h z)))))))
def w_Node_labelBetween_75 (dA : Nat → ClassId) (K : Option Nat → hm_T → hz_T → Prop) (k48 : Option Nat → Option Nat → Option Nat → Int32 → Int32 → Nat → Nat → hm_T → hz_T → Prop) (x3 : Option Nat) (x4 : Option Nat) (x5 : Option Nat) (x6 : Int32) (x7 : Int32) (cr sr : Nat) (h : hm_T) (z : hz_T) : Prop := (w_Node_labelBetween_76 dA K k48 x3 x4 x5 x6 x7 0 cr sr h z)
def w_Node_labelBetween_48 (dA : Nat → ClassId) (K : Option Nat → hm_T → hz_T → Prop) : Nat → Option Nat → Option Nat → Option Nat → Int32 → Int32 → Nat → Nat → hm_T → hz_T → Prop
  | 0, _, _, _, _, _, _, _, _, _ => False
  | n9 + 1, x3, x4, x5, x6, x7, cr, sr, h, z => (if x7 = 0 then (w_Node_labelBetween_281 dA K x5 x6 cr sr h z) else (if 16 < x6 then (w_Node_labelBetween_281 dA K x5 x6 cr sr h z) else (if x3 = none then (w_Node_labelBetween_75 dA K (w_Node_labelBetween_48 dA K n9) x3 x4 x5 x6 x7 cr sr h z) else (cg_d x3 (fun a78 => (cg_al dA h 0 a78 (fun v79 => (if v79 ≤ x6 then (w_Node_labelBetween_75 dA K (w_Node_labelBetween_48 dA K n9) x3 x4 x5 x6 x7 cr sr h z) else (w_Node_labelBetween_76 dA K (w_Node_labelBetween_48 dA K n9) x3 x4 x5 x6 x7 1 cr sr h z)))))))))
def w_Node_labelBetween_25 (dA : Nat → ClassId) (K : Option Nat → hm_T → hz_T → Prop) (x0 : Option Nat) (x3 : Option Nat) (w0 : Option Nat) (cr sr : Nat) (h : hm_T) (z : hz_T) : Prop := (cg_d x0 (fun a25 => (cg_R h 8 3 a25 (fun v26 => (cg_rm cr sr (fun c30 s31 c32 s33 => w_Arrays_copyOfI dA v26 18 c30 s31 (fun v27 h28 z29 => (cg_d x0 (fun a34 => (cg_R h28 8 3 a34 (fun v35 => (cg_d v35 (fun a36 => (cg_al dA h28 0 a36 (fun v37 => (w_Node_labelBetween_48 dA K mF x3 w0 v27 v37 1 c32 s33 h28 z29)))))))))) h z))))))
def w_Node_labelBetween_12 (dA : Nat → ClassId) (K : Option Nat → hm_T → hz_T → Prop) (x0 : Option Nat) (x2 : Option Nat) (w0 : Option Nat) (cr sr : Nat) (h : hm_T) (z : hz_T) : Prop := (if x2 = none then (w_Node_labelBetween_25 dA K x0 w0 none cr sr h z) else (cg_d x2 (fun a23 => (cg_R h 8 3 a23 (fun v24 => (w_Node_labelBetween_25 dA K x0 w0 v24 cr sr h z))))))
def w_Node_labelBetween (dA : Nat → ClassId) (y0 : Option Nat) (y1 : Option Nat) (y2 : Option Nat) (rc rs : Nat) (K : Option Nat → hm_T → hz_T → Prop) (h0 : hm_T) (z0 : hz_T) : Prop := (if y1 = none then (w_Node_labelBetween_12 dA K y0 y2 none rc rs h0 z0) else (cg_d y1 (fun a21 => (cg_R h0 8 3 a21 (fun v22 => (w_Node_labelBetween_12 dA K y0 y2 v22 rc rs h0 z0))))))
set_option maxRecDepth 100000 in
set_option maxHeartbeats 8000000 in
theorem cw_Node_labelBetween (l : Launch) (D : va_G) (dA : Nat → ClassId) (s0 : State) (hW : ms_EW D dA s0) (y0 : Option Nat) (y1 : Option Nat) (y2 : Option Nat) (rc rs : Nat) (h0 : hm_T) (z0 : hz_T) (K : Option Nat → hm_T → hz_T → Prop) (hg : w_Node_labelBetween dA y0 y1 y2 rc rs K h0 z0) : ht_C l D s0 yM233 bM233 13 (Option.some (Jvm.ClassFile.FieldType.array Jvm.ClassFile.FieldType.int)) (2) (122) rc rs [va_rf y0, va_rf y1, va_rf y2] (fun h z => h = h0 ∧ z = z0) (fun h z vv h1 z1 => ∃ v, vv = some (va_rf v) ∧ K v h1 z1) := by
  have hE := hW.1
  refine ht_C.mk hE.1 (by decide) (by simp [lg_sl, cat_rf, cat_int, cat_ref, cat_null, cat_long]) [(0, va_rf y0), (1, va_rf y1), (2, va_rf y2)] (by simp [lv_args, cat_rf, cat_int, cat_ref, cat_null, cat_long]) ?_
  intro p e s m below meth c ls h z X hin hpre I hl
  have hx := X.1
  have hb := X.2.1
  have hml := X.2.2.1
  have hown : s.vm.findClass "MarkupStore$Node" = some m.cls := X.2.2.2.1
  have hts := X.2.2.2.2.2.2.1
  have hK := X.2.2.2.2.2.2.2.2.1
  rw [hpre.1, hpre.2] at I
  clear hpre
  have b281 : ∀ (ls : Array Slot) (x5 : Option Nat) (x6 : Int32) (cr sr cu su : Nat) (h : hm_T) (z : hz_T) (H : Heap) (locs : List Loc), w_Node_labelBetween_281 dA K x5 x6 cr sr h z → cu + cr ≤ rc → su + sr ≤ rs → lv_has ls 13 [(5, va_rf x5), (6, .int x6)] → hm_I D s0 s h z H locs → W p l e { frames := 2, cells := rc, slots := rs, locals := 122 } s m ([va_rf y0, va_rf y1, va_rf y2] : List Value).toArray below meth c H locs cu su (MQ below (ht_Q D s0 (fun vv h1 z1 => ∃ v, vv = some (va_rf v) ∧ K v h1 z1)) ([va_rf y0, va_rf y1, va_rf y2] : List Value).toArray s rc rs (fun q => s0.heap.size ≤ q)) (F0 m 281 ls []) := by
    intro ls x5 x6 cr sr cu su h z H locs hF hc hs hl I
    unfold w_Node_labelBetween_281 at hF
    refine lv_aloadR hx hb d233_281 (lv_at hl 0 rfl) ?_
    refine lv_iload hx hb d233_283 (lv_at hl 1 rfl) ?_
    obtain ⟨c41, s42, c43, s44, ec, es, hF⟩ := hF
    refine ht_S (rest := []) (as := [va_rf x5, .int x6]) X hl (cw_Arrays_copyOfI l D dA s0 hW x5 x6 c41 s42 h z _ hF) (List.forall_mem_cons.mpr ⟨ms_k678, List.forall_mem_cons.mpr ⟨ms_k679, List.forall_mem_cons.mpr ⟨ms_k10, List.forall_mem_cons.mpr ⟨ms_k680, fun _ h => absurd h List.not_mem_nil⟩⟩⟩⟩) ⟨by decide +kernel, by decide +kernel, (by decide +kernel : (parseMethodDescriptor "([II)[I").map (fun d => d.parameters.length) = some 2)⟩ I ⟨rfl, rfl⟩ ⟨⟨Nat.le_of_ble_eq_true rfl, Nat.le_of_ble_eq_true rfl⟩, (rm_u hc ec).1, (rm_u hs es).1⟩ rfl (Nat.le_of_ble_eq_true rfl) d233_285 (fun vv h39 z40 H locs hR I9 => ?_)
    obtain ⟨v38, e1, hF⟩ := hR
    subst e1
    clear I
    have I := I9
    clear I9
    have hc := (rm_u hc ec).2
    have hs := (rm_u hs es).2
    clear ec es
    refine W.eq (g2 := F0 m 288 ls [va_rf v38]) rfl ?_
    exact ht_aret X d233_288 I (rm_r hc) (rm_r hs) ⟨v38, rfl, hF⟩ (Or.inr ⟨_, rfl⟩) (rf_or _)
  have b275 : ∀ (k48 : Option Nat → Option Nat → Option Nat → Int32 → Int32 → Nat → Nat → hm_T → hz_T → Prop), (∀ (ls : Array Slot) (x3 : Option Nat) (x4 : Option Nat) (x5 : Option Nat) (x6 : Int32) (x7 : Int32) (cr sr cu su : Nat) (h : hm_T) (z : hz_T) (H : Heap) (locs : List Loc), k48 x3 x4 x5 x6 x7 cr sr h z → cu + cr ≤ rc → su + sr ≤ rs → lv_has ls 13 [(3, va_rf x3), (4, va_rf x4), (5, va_rf x5), (6, .int x6), (7, .int x7)] → hm_I D s0 s h z H locs → W p l e { frames := 2, cells := rc, slots := rs, locals := 122 } s m ([va_rf y0, va_rf y1, va_rf y2] : List Value).toArray below meth c H locs cu su (MQ below (ht_Q D s0 (fun vv h1 z1 => ∃ v, vv = some (va_rf v) ∧ K v h1 z1)) ([va_rf y0, va_rf y1, va_rf y2] : List Value).toArray s rc rs (fun q => s0.heap.size ≤ q)) (F0 m 48 ls [])) → ∀ (ls : Array Slot) (x3 : Option Nat) (x4 : Option Nat) (x5 : Option Nat) (x6 : Int32) (x7 : Int32) (cr sr cu su : Nat) (h : hm_T) (z : hz_T) (H : Heap) (locs : List Loc), w_Node_labelBetween_275 dA K k48 x3 x4 x5 x6 x7 cr sr h z → cu + cr ≤ rc → su + sr ≤ rs → lv_has ls 13 [(3, va_rf x3), (4, va_rf x4), (5, va_rf x5), (6, .int x6), (7, .int x7)] → hm_I D s0 s h z H locs → W p l e { frames := 2, cells := rc, slots := rs, locals := 122 } s m ([va_rf y0, va_rf y1, va_rf y2] : List Value).toArray below meth c H locs cu su (MQ below (ht_Q D s0 (fun vv h1 z1 => ∃ v, vv = some (va_rf v) ∧ K v h1 z1)) ([va_rf y0, va_rf y1, va_rf y2] : List Value).toArray s rc rs (fun q => s0.heap.size ≤ q)) (F0 m 275 ls []) := by
    intro k48 hk48 ls x3 x4 x5 x6 x7 cr sr cu su h z H locs hF hc hs hl I
    unfold w_Node_labelBetween_275 at hF
    refine lv_iinc (k := 3) (v := (x6 + 1)) hx hb d233_275 hl rfl (rfl) (by decide) (show _ = [(6, .int (x6 + 1)), (3, va_rf x3), (4, va_rf x4), (5, va_rf x5), (7, .int x7)] by simp [cat_rf, cat_int, cat_ref, cat_null, cat_long]) (fun ls hl => ?_)
    have hl : lv_has ls 13 [(6, .int (x6 + 1)), (3, va_rf x3), (4, va_rf x4), (5, va_rf x5), (7, .int x7)] := hl
    refine lv_goto hx hb d233_278 rfl ?_
    exact hk48 ls x3 x4 x5 (x6 + 1) x7 cr sr _ _ h z _ _ hF hc hs (hl.sub [1, 2, 3, 0, 4] rfl) I
  have b175 : ∀ (k48 : Option Nat → Option Nat → Option Nat → Int32 → Int32 → Nat → Nat → hm_T → hz_T → Prop), (∀ (ls : Array Slot) (x3 : Option Nat) (x4 : Option Nat) (x5 : Option Nat) (x6 : Int32) (x7 : Int32) (cr sr cu su : Nat) (h : hm_T) (z : hz_T) (H : Heap) (locs : List Loc), k48 x3 x4 x5 x6 x7 cr sr h z → cu + cr ≤ rc → su + sr ≤ rs → lv_has ls 13 [(3, va_rf x3), (4, va_rf x4), (5, va_rf x5), (6, .int x6), (7, .int x7)] → hm_I D s0 s h z H locs → W p l e { frames := 2, cells := rc, slots := rs, locals := 122 } s m ([va_rf y0, va_rf y1, va_rf y2] : List Value).toArray below meth c H locs cu su (MQ below (ht_Q D s0 (fun vv h1 z1 => ∃ v, vv = some (va_rf v) ∧ K v h1 z1)) ([va_rf y0, va_rf y1, va_rf y2] : List Value).toArray s rc rs (fun q => s0.heap.size ≤ q)) (F0 m 48 ls [])) → ∀ (ls : Array Slot) (x3 : Option Nat) (x4 : Option Nat) (x5 : Option Nat) (x6 : Int32) (x12 : Int32) (cr sr cu su : Nat) (h : hm_T) (z : hz_T) (H : Heap) (locs : List Loc), w_Node_labelBetween_175 dA K k48 x3 x4 x5 x6 x12 cr sr h z → cu + cr ≤ rc → su + sr ≤ rs → lv_has ls 13 [(3, va_rf x3), (4, va_rf x4), (5, va_rf x5), (6, .int x6), (12, .int x12)] → hm_I D s0 s h z H locs → W p l e { frames := 2, cells := rc, slots := rs, locals := 122 } s m ([va_rf y0, va_rf y1, va_rf y2] : List Value).toArray below meth c H locs cu su (MQ below (ht_Q D s0 (fun vv h1 z1 => ∃ v, vv = some (va_rf v) ∧ K v h1 z1)) ([va_rf y0, va_rf y1, va_rf y2] : List Value).toArray s rc rs (fun q => s0.heap.size ≤ q)) (F0 m 175 ls []) := by
    intro k48 hk48 ls x3 x4 x5 x6 x12 cr sr cu su h z H locs hF hc hs hl I
    unfold w_Node_labelBetween_175 at hF
    refine lv_aloadR hx hb d233_175 (lv_at hl 2 rfl) ?_
    refine lv_iload hx hb d233_177 (lv_at hl 3 rfl) ?_
    refine lv_iload hx hb d233_179 (lv_at hl 4 rfl) ?_
    obtain ⟨a45, e9, hF⟩ := hF
    refine W.eq (g2 := F0 m 181 ls [.int x12, .int x6, .ref a45]) (by rw [e9]; rfl) ?_
    clear e9
    obtain ⟨n8, f8, c9, i9, hF⟩ := hF
    refine hm_iast X I 0 c9 rfl i9 d233_181 (fun h46 H locs e9 f9 I => ?_)
    rw [← hm_eqU e9 f9] at hF
    clear e9 f9 c9 i9
    refine lv_iconst (v := 0) hx hb d233_182 (by decide) ?_
    refine lv_istore hx hb d233_183 hl (by decide) rfl (fun ls hl => ?_)
    have hl : lv_has ls 13 [(7, .int 0), (3, va_rf x3), (4, va_rf x4), (5, va_rf x5), (6, .int x6), (12, .int x12)] := hl
    refine lv_goto hx hb d233_185 rfl ?_
    exact b275 k48 hk48 ls x3 x4 x5 x6 0 cr sr _ _ h46 z _ _ hF hc hs (hl.sub [1, 2, 3, 4, 0] rfl) I
  have b228 : ∀ (k48 : Option Nat → Option Nat → Option Nat → Int32 → Int32 → Nat → Nat → hm_T → hz_T → Prop), (∀ (ls : Array Slot) (x3 : Option Nat) (x4 : Option Nat) (x5 : Option Nat) (x6 : Int32) (x7 : Int32) (cr sr cu su : Nat) (h : hm_T) (z : hz_T) (H : Heap) (locs : List Loc), k48 x3 x4 x5 x6 x7 cr sr h z → cu + cr ≤ rc → su + sr ≤ rs → lv_has ls 13 [(3, va_rf x3), (4, va_rf x4), (5, va_rf x5), (6, .int x6), (7, .int x7)] → hm_I D s0 s h z H locs → W p l e { frames := 2, cells := rc, slots := rs, locals := 122 } s m ([va_rf y0, va_rf y1, va_rf y2] : List Value).toArray below meth c H locs cu su (MQ below (ht_Q D s0 (fun vv h1 z1 => ∃ v, vv = some (va_rf v) ∧ K v h1 z1)) ([va_rf y0, va_rf y1, va_rf y2] : List Value).toArray s rc rs (fun q => s0.heap.size ≤ q)) (F0 m 48 ls [])) → ∀ (ls : Array Slot) (x3 : Option Nat) (x4 : Option Nat) (x5 : Option Nat) (x6 : Int32) (x7 : Int32) (x10 : Int32) (x11 : Int32) (cr sr cu su : Nat) (h : hm_T) (z : hz_T) (H : Heap) (locs : List Loc), w_Node_labelBetween_228 dA K k48 x3 x4 x5 x6 x7 x10 x11 cr sr h z → cu + cr ≤ rc → su + sr ≤ rs → lv_has ls 13 [(3, va_rf x3), (4, va_rf x4), (5, va_rf x5), (6, .int x6), (7, .int x7), (10, .int x10), (11, .int x11)] → hm_I D s0 s h z H locs → W p l e { frames := 2, cells := rc, slots := rs, locals := 122 } s m ([va_rf y0, va_rf y1, va_rf y2] : List Value).toArray below meth c H locs cu su (MQ below (ht_Q D s0 (fun vv h1 z1 => ∃ v, vv = some (va_rf v) ∧ K v h1 z1)) ([va_rf y0, va_rf y1, va_rf y2] : List Value).toArray s rc rs (fun q => s0.heap.size ≤ q)) (F0 m 228 ls []) := by
    intro k48 hk48 ls x3 x4 x5 x6 x7 x10 x11 cr sr cu su h z H locs hF hc hs hl I
    unfold w_Node_labelBetween_228 at hF
    refine lv_iload hx hb d233_228 (lv_at hl 5 rfl) ?_
    refine lv_iload hx hb d233_230 (lv_at hl 6 rfl) ?_
    refine lv_icmp_ne hx hb d233_232 rfl (fun h9 => ?_) (fun h9 => ?_)
    · have hF := Eq.mp (if_neg h9) hF
      refine lv_iload hx hb d233_245 (lv_at hl 5 rfl) ?_
      refine ht_S (rest := []) (as := [.int x10]) X hl (cw_Node_isOdd l D dA s0 hE x10 h z _ hF) (List.forall_mem_cons.mpr ⟨ms_k767, List.forall_mem_cons.mpr ⟨ms_k768, List.forall_mem_cons.mpr ⟨ms_k19, List.forall_mem_cons.mpr ⟨ms_k769, fun _ h => absurd h List.not_mem_nil⟩⟩⟩⟩) ⟨by decide +kernel, by decide +kernel, (by decide +kernel : (parseMethodDescriptor "(I)Z").map (fun d => d.parameters.length) = some 1)⟩ I ⟨rfl, rfl⟩ ⟨⟨Nat.le_of_ble_eq_true rfl, Nat.le_of_ble_eq_true rfl⟩, rm_0 hc, rm_0 hs⟩ rfl (Nat.le_of_ble_eq_true rfl) d233_247 (fun vv h51 z52 H locs hR I9 => ?_)
      obtain ⟨v50, e1, hF⟩ := hR
      subst e1
      clear I
      have I := I9
      clear I9
      refine W.eq (g2 := F0 m 250 ls [.int v50]) rfl ?_
      refine lv_if_ne hx hb d233_250 rfl (fun h9 => ?_) (fun h9 => ?_)
      · have hF := Eq.mp (if_neg h9) hF
        refine lv_aloadR hx hb d233_266 (lv_at hl 2 rfl) ?_
        refine lv_iload hx hb d233_268 (lv_at hl 3 rfl) ?_
        refine lv_iload hx hb d233_270 (lv_at hl 6 rfl) ?_
        obtain ⟨a53, e9, hF⟩ := hF
        refine W.eq (g2 := F0 m 272 ls [.int x11, .int x6, .ref a53]) (by rw [e9]; rfl) ?_
        clear e9
        obtain ⟨n8, f8, c9, i9, hF⟩ := hF
        refine hm_iast X I 0 c9 rfl i9 d233_272 (fun h54 H locs e9 f9 I => ?_)
        rw [← hm_eqU e9 f9] at hF
        clear e9 f9 c9 i9
        refine lv_null hx hb d233_273 ?_
        refine lv_astore_nN hx hb d233_274 rfl hl (by decide) rfl (fun ls hl => ?_)
        have hl : lv_has ls 13 [(3, .null), (4, va_rf x4), (5, va_rf x5), (6, .int x6), (7, .int x7), (10, .int x10), (11, .int x11)] := hl
        exact b275 k48 hk48 ls none x4 x5 x6 x7 cr sr _ _ h54 z52 _ _ hF hc hs (hl.sub [0, 1, 2, 3, 4] rfl) I
      · have hF := Eq.mp (if_pos h9) hF
        refine lv_aloadR hx hb d233_253 (lv_at hl 2 rfl) ?_
        refine lv_iload hx hb d233_255 (lv_at hl 3 rfl) ?_
        refine lv_iload hx hb d233_257 (lv_at hl 5 rfl) ?_
        obtain ⟨a55, e9, hF⟩ := hF
        refine W.eq (g2 := F0 m 259 ls [.int x10, .int x6, .ref a55]) (by rw [e9]; rfl) ?_
        clear e9
        obtain ⟨n8, f8, c9, i9, hF⟩ := hF
        refine hm_iast X I 0 c9 rfl i9 d233_259 (fun h56 H locs e9 f9 I => ?_)
        rw [← hm_eqU e9 f9] at hF
        clear e9 f9 c9 i9
        refine lv_null hx hb d233_260 ?_
        refine lv_astoreN (i := 4) hx hb d233_261 hl (by decide) (show _ = [(4, .null), (3, va_rf x3), (5, va_rf x5), (6, .int x6), (7, .int x7), (10, .int x10), (11, .int x11)] by simp [cat_rf, cat_int, cat_ref, cat_null, cat_long]) (fun ls hl => ?_)
        have hl : lv_has ls 13 [(4, .null), (3, va_rf x3), (5, va_rf x5), (6, .int x6), (7, .int x7), (10, .int x10), (11, .int x11)] := hl
        refine lv_goto hx hb d233_263 rfl ?_
        exact b275 k48 hk48 ls x3 none x5 x6 x7 cr sr _ _ h56 z52 _ _ hF hc hs (hl.sub [1, 0, 2, 3, 4] rfl) I
    · have hF := Eq.mp (if_pos h9) hF
      refine lv_aloadR hx hb d233_235 (lv_at hl 2 rfl) ?_
      refine lv_iload hx hb d233_237 (lv_at hl 3 rfl) ?_
      refine lv_iload hx hb d233_239 (lv_at hl 5 rfl) ?_
      obtain ⟨a57, e9, hF⟩ := hF
      refine W.eq (g2 := F0 m 241 ls [.int x10, .int x6, .ref a57]) (by rw [e9]; rfl) ?_
      clear e9
      obtain ⟨n8, f8, c9, i9, hF⟩ := hF
      refine hm_iast X I 0 c9 rfl i9 d233_241 (fun h58 H locs e9 f9 I => ?_)
      rw [← hm_eqU e9 f9] at hF
      clear e9 f9 c9 i9
      refine lv_goto hx hb d233_242 rfl ?_
      exact b275 k48 hk48 ls x3 x4 x5 x6 x7 cr sr _ _ h58 z _ _ hF hc hs (hl.sub [0, 1, 2, 3, 4] rfl) I
  have b156 : ∀ (k48 : Option Nat → Option Nat → Option Nat → Int32 → Int32 → Nat → Nat → hm_T → hz_T → Prop), (∀ (ls : Array Slot) (x3 : Option Nat) (x4 : Option Nat) (x5 : Option Nat) (x6 : Int32) (x7 : Int32) (cr sr cu su : Nat) (h : hm_T) (z : hz_T) (H : Heap) (locs : List Loc), k48 x3 x4 x5 x6 x7 cr sr h z → cu + cr ≤ rc → su + sr ≤ rs → lv_has ls 13 [(3, va_rf x3), (4, va_rf x4), (5, va_rf x5), (6, .int x6), (7, .int x7)] → hm_I D s0 s h z H locs → W p l e { frames := 2, cells := rc, slots := rs, locals := 122 } s m ([va_rf y0, va_rf y1, va_rf y2] : List Value).toArray below meth c H locs cu su (MQ below (ht_Q D s0 (fun vv h1 z1 => ∃ v, vv = some (va_rf v) ∧ K v h1 z1)) ([va_rf y0, va_rf y1, va_rf y2] : List Value).toArray s rc rs (fun q => s0.heap.size ≤ q)) (F0 m 48 ls [])) → ∀ (ls : Array Slot) (x3 : Option Nat) (x4 : Option Nat) (x5 : Option Nat) (x6 : Int32) (x7 : Int32) (x8 : Int32) (x9 : Int32) (x10 : Int32) (x11 : Int32) (w0 : Int32) (cr sr cu su : Nat) (h : hm_T) (z : hz_T) (H : Heap) (locs : List Loc), w_Node_labelBetween_156 dA K k48 x3 x4 x5 x6 x7 x8 x9 x10 x11 w0 cr sr h z → cu + cr ≤ rc → su + sr ≤ rs → lv_has ls 13 [(3, va_rf x3), (4, va_rf x4), (5, va_rf x5), (6, .int x6), (7, .int x7), (8, .int x8), (9, .int x9), (10, .int x10), (11, .int x11)] → hm_I D s0 s h z H locs → W p l e { frames := 2, cells := rc, slots := rs, locals := 122 } s m ([va_rf y0, va_rf y1, va_rf y2] : List Value).toArray below meth c H locs cu su (MQ below (ht_Q D s0 (fun vv h1 z1 => ∃ v, vv = some (va_rf v) ∧ K v h1 z1)) ([va_rf y0, va_rf y1, va_rf y2] : List Value).toArray s rc rs (fun q => s0.heap.size ≤ q)) (F0 m 156 ls [.int w0]) := by
    intro k48 hk48 ls x3 x4 x5 x6 x7 x8 x9 x10 x11 w0 cr sr cu su h z H locs hF hc hs hl I
    unfold w_Node_labelBetween_156 at hF
    refine lv_istore hx hb d233_156 hl (by decide) rfl (fun ls hl => ?_)
    have hl : lv_has ls 13 [(12, .int w0), (3, va_rf x3), (4, va_rf x4), (5, va_rf x5), (6, .int x6), (7, .int x7), (8, .int x8), (9, .int x9), (10, .int x10), (11, .int x11)] := hl
    refine lv_iload hx hb d233_158 (lv_at hl 6 rfl) ?_
    refine lv_if_eq hx hb d233_160 rfl (fun h9 => ?_) (fun h9 => ?_)
    · have hF := Eq.mp (if_pos h9) hF
      exact b175 k48 hk48 ls x3 x4 x5 x6 w0 cr sr _ _ h z _ _ hF hc hs (hl.sub [1, 2, 3, 4, 0] rfl) I
    · have hF := Eq.mp (if_neg h9) hF
      refine lv_iload hx hb d233_163 (lv_at hl 7 rfl) ?_
      refine lv_if_eq hx hb d233_165 rfl (fun h9 => ?_) (fun h9 => ?_)
      · have hF := Eq.mp (if_pos h9) hF
        exact b175 k48 hk48 ls x3 x4 x5 x6 w0 cr sr _ _ h z _ _ hF hc hs (hl.sub [1, 2, 3, 4, 0] rfl) I
      · have hF := Eq.mp (if_neg h9) hF
        refine lv_iload hx hb d233_168 (lv_at hl 0 rfl) ?_
        refine lv_iload hx hb d233_170 (lv_at hl 9 rfl) ?_
        refine lv_icmp_ge hx hb d233_172 rfl (fun h9 => ?_) (fun h9 => ?_)
        · have hF := Eq.mp (if_pos h9) hF
          refine lv_iload hx hb d233_188 (lv_at hl 8 rfl) ?_
          refine ht_S (rest := []) (as := [.int x10]) X hl (cw_Node_isOdd l D dA s0 hE x10 h z _ hF) (List.forall_mem_cons.mpr ⟨ms_k767, List.forall_mem_cons.mpr ⟨ms_k768, List.forall_mem_cons.mpr ⟨ms_k19, List.forall_mem_cons.mpr ⟨ms_k769, fun _ h => absurd h List.not_mem_nil⟩⟩⟩⟩) ⟨by decide +kernel, by decide +kernel, (by decide +kernel : (parseMethodDescriptor "(I)Z").map (fun d => d.parameters.length) = some 1)⟩ I ⟨rfl, rfl⟩ ⟨⟨Nat.le_of_ble_eq_true rfl, Nat.le_of_ble_eq_true rfl⟩, rm_0 hc, rm_0 hs⟩ rfl (Nat.le_of_ble_eq_true rfl) d233_190 (fun vv h48 z49 H locs hR I9 => ?_)
          obtain ⟨v47, e1, hF⟩ := hR
          subst e1
          clear I
          have I := I9
          clear I9
          refine W.eq (g2 := F0 m 193 ls [.int v47]) rfl ?_
          refine lv_if_eq hx hb d233_193 rfl (fun h9 => ?_) (fun h9 => ?_)
          · have hF := Eq.mp (if_pos h9) hF
            exact b228 k48 hk48 ls x3 x4 x5 x6 x7 x10 x11 cr sr _ _ h48 z49 _ _ hF hc hs (hl.sub [1, 2, 3, 4, 5, 8, 9] rfl) I
          · have hF := Eq.mp (if_neg h9) hF
            refine lv_iload hx hb d233_196 (lv_at hl 9 rfl) ?_
            refine ht_S (rest := []) (as := [.int x11]) X hl (cw_Node_isOdd l D dA s0 hE x11 h48 z49 _ hF) (List.forall_mem_cons.mpr ⟨ms_k767, List.forall_mem_cons.mpr ⟨ms_k768, List.forall_mem_cons.mpr ⟨ms_k19, List.forall_mem_cons.mpr ⟨ms_k769, fun _ h => absurd h List.not_mem_nil⟩⟩⟩⟩) ⟨by decide +kernel, by decide +kernel, (by decide +kernel : (parseMethodDescriptor "(I)Z").map (fun d => d.parameters.length) = some 1)⟩ I ⟨rfl, rfl⟩ ⟨⟨Nat.le_of_ble_eq_true rfl, Nat.le_of_ble_eq_true rfl⟩, rm_0 hc, rm_0 hs⟩ rfl (Nat.le_of_ble_eq_true rfl) d233_198 (fun vv h60 z61 H locs hR I9 => ?_)
            obtain ⟨v59, e1, hF⟩ := hR
            subst e1
            clear I
            have I := I9
            clear I9
            refine W.eq (g2 := F0 m 201 ls [.int v59]) rfl ?_
            refine lv_if_eq hx hb d233_201 rfl (fun h9 => ?_) (fun h9 => ?_)
            · have hF := Eq.mp (if_pos h9) hF
              exact b228 k48 hk48 ls x3 x4 x5 x6 x7 x10 x11 cr sr _ _ h60 z61 _ _ hF hc hs (hl.sub [1, 2, 3, 4, 5, 8, 9] rfl) I
            · have hF := Eq.mp (if_neg h9) hF
              refine lv_aloadR hx hb d233_204 (lv_at hl 3 rfl) ?_
              refine lv_iload hx hb d233_206 (lv_at hl 4 rfl) ?_
              refine lv_iload hx hb d233_208 (lv_at hl 8 rfl) ?_
              refine lv_iconst (v := 1) hx hb d233_210 (by decide) ?_
              refine lv_iadd hx hb d233_211 ?_
              obtain ⟨a62, e9, hF⟩ := hF
              refine W.eq (g2 := F0 m 212 ls [.int (x10 + 1), .int x6, .ref a62]) (by rw [e9]; rfl) ?_
              clear e9
              obtain ⟨n8, f8, c9, i9, hF⟩ := hF
              refine hm_iast X I 0 c9 rfl i9 d233_212 (fun h63 H locs e9 f9 I => ?_)
              rw [← hm_eqU e9 f9] at hF
              clear e9 f9 c9 i9
              refine lv_iinc (k := 4) (v := (x6 + 1)) hx hb d233_213 hl rfl (rfl) (by decide) (show _ = [(6, .int (x6 + 1)), (12, .int w0), (3, va_rf x3), (4, va_rf x4), (5, va_rf x5), (7, .int x7), (8, .int x8), (9, .int x9), (10, .int x10), (11, .int x11)] by simp [cat_rf, cat_int, cat_ref, cat_null, cat_long]) (fun ls hl => ?_)
              have hl : lv_has ls 13 [(6, .int (x6 + 1)), (12, .int w0), (3, va_rf x3), (4, va_rf x4), (5, va_rf x5), (7, .int x7), (8, .int x8), (9, .int x9), (10, .int x10), (11, .int x11)] := hl
              refine lv_aloadR hx hb d233_216 (lv_at hl 4 rfl) ?_
              refine lv_iload hx hb d233_218 (lv_at hl 0 rfl) ?_
              refine lv_iconst (v := 1) hx hb d233_220 (by decide) ?_
              obtain ⟨a64, e9, hF⟩ := hF
              refine W.eq (g2 := F0 m 221 ls [.int 1, .int (x6 + 1), .ref a64]) (by rw [e9]; rfl) ?_
              clear e9
              obtain ⟨n8, f8, c9, i9, hF⟩ := hF
              refine hm_iast X I 0 c9 rfl i9 d233_221 (fun h65 H locs e9 f9 I => ?_)
              rw [← hm_eqU e9 f9] at hF
              clear e9 f9 c9 i9
              refine lv_iconst (v := 0) hx hb d233_222 (by decide) ?_
              refine lv_istore hx hb d233_223 hl (by decide) rfl (fun ls hl => ?_)
              have hl : lv_has ls 13 [(7, .int 0), (6, .int (x6 + 1)), (12, .int w0), (3, va_rf x3), (4, va_rf x4), (5, va_rf x5), (8, .int x8), (9, .int x9), (10, .int x10), (11, .int x11)] := hl
              refine lv_goto hx hb d233_225 rfl ?_
              exact b275 k48 hk48 ls x3 x4 x5 (x6 + 1) 0 cr sr _ _ h65 z61 _ _ hF hc hs (hl.sub [3, 4, 5, 1, 0] rfl) I
        · have hF := Eq.mp (if_neg h9) hF
          exact b175 k48 hk48 ls x3 x4 x5 x6 w0 cr sr _ _ h z _ _ hF hc hs (hl.sub [1, 2, 3, 4, 0] rfl) I
  have b127 : ∀ (k48 : Option Nat → Option Nat → Option Nat → Int32 → Int32 → Nat → Nat → hm_T → hz_T → Prop), (∀ (ls : Array Slot) (x3 : Option Nat) (x4 : Option Nat) (x5 : Option Nat) (x6 : Int32) (x7 : Int32) (cr sr cu su : Nat) (h : hm_T) (z : hz_T) (H : Heap) (locs : List Loc), k48 x3 x4 x5 x6 x7 cr sr h z → cu + cr ≤ rc → su + sr ≤ rs → lv_has ls 13 [(3, va_rf x3), (4, va_rf x4), (5, va_rf x5), (6, .int x6), (7, .int x7)] → hm_I D s0 s h z H locs → W p l e { frames := 2, cells := rc, slots := rs, locals := 122 } s m ([va_rf y0, va_rf y1, va_rf y2] : List Value).toArray below meth c H locs cu su (MQ below (ht_Q D s0 (fun vv h1 z1 => ∃ v, vv = some (va_rf v) ∧ K v h1 z1)) ([va_rf y0, va_rf y1, va_rf y2] : List Value).toArray s rc rs (fun q => s0.heap.size ≤ q)) (F0 m 48 ls [])) → ∀ (ls : Array Slot) (x3 : Option Nat) (x4 : Option Nat) (x5 : Option Nat) (x6 : Int32) (x7 : Int32) (x8 : Int32) (x9 : Int32) (x10 : Int32) (w0 : Int32) (cr sr cu su : Nat) (h : hm_T) (z : hz_T) (H : Heap) (locs : List Loc), w_Node_labelBetween_127 dA K k48 x3 x4 x5 x6 x7 x8 x9 x10 w0 cr sr h z → cu + cr ≤ rc → su + sr ≤ rs → lv_has ls 13 [(3, va_rf x3), (4, va_rf x4), (5, va_rf x5), (6, .int x6), (7, .int x7), (8, .int x8), (9, .int x9), (10, .int x10)] → hm_I D s0 s h z H locs → W p l e { frames := 2, cells := rc, slots := rs, locals := 122 } s m ([va_rf y0, va_rf y1, va_rf y2] : List Value).toArray below meth c H locs cu su (MQ below (ht_Q D s0 (fun vv h1 z1 => ∃ v, vv = some (va_rf v) ∧ K v h1 z1)) ([va_rf y0, va_rf y1, va_rf y2] : List Value).toArray s rc rs (fun q => s0.heap.size ≤ q)) (F0 m 127 ls [.int w0]) := by
    intro k48 hk48 ls x3 x4 x5 x6 x7 x8 x9 x10 w0 cr sr cu su h z H locs hF hc hs hl I
    unfold w_Node_labelBetween_127 at hF
    refine lv_istore hx hb d233_127 hl (by decide) rfl (fun ls hl => ?_)
    have hl : lv_has ls 13 [(11, .int w0), (3, va_rf x3), (4, va_rf x4), (5, va_rf x5), (6, .int x6), (7, .int x7), (8, .int x8), (9, .int x9), (10, .int x10)] := hl
    refine lv_iload hx hb d233_129 (lv_at hl 6 rfl) ?_
    refine lv_if_eq hx hb d233_131 rfl (fun h9 => ?_) (fun h9 => ?_)
    · have hF := Eq.mp (if_pos h9) hF
      refine lv_iload hx hb d233_142 (lv_at hl 7 rfl) ?_
      refine lv_if_eq hx hb d233_144 rfl (fun h9 => ?_) (fun h9 => ?_)
      · have hF := Eq.mp (if_pos h9) hF
        refine lv_iconst (v := 1) hx hb d233_155 (by decide) ?_
        exact b156 k48 hk48 ls x3 x4 x5 x6 x7 x8 x9 x10 w0 1 cr sr _ _ h z _ _ hF hc hs (hl.sub [1, 2, 3, 4, 5, 6, 7, 8, 0] rfl) I
      · have hF := Eq.mp (if_neg h9) hF
        refine lv_iload hx hb d233_147 (lv_at hl 0 rfl) ?_
        refine ht_S (rest := []) (as := [.int w0]) X hl (cw_Node_oddBelow l D dA s0 hE w0 h z _ hF) (List.forall_mem_cons.mpr ⟨ms_k770, List.forall_mem_cons.mpr ⟨ms_k771, List.forall_mem_cons.mpr ⟨ms_k19, List.forall_mem_cons.mpr ⟨ms_k772, fun _ h => absurd h List.not_mem_nil⟩⟩⟩⟩) ⟨by decide +kernel, by decide +kernel, (by decide +kernel : (parseMethodDescriptor "(I)I").map (fun d => d.parameters.length) = some 1)⟩ I ⟨rfl, rfl⟩ ⟨⟨Nat.le_of_ble_eq_true rfl, Nat.le_of_ble_eq_true rfl⟩, rm_0 hc, rm_0 hs⟩ rfl (Nat.le_of_ble_eq_true rfl) d233_149 (fun vv h67 z68 H locs hR I9 => ?_)
        obtain ⟨v66, e1, hF⟩ := hR
        subst e1
        clear I
        have I := I9
        clear I9
        refine W.eq (g2 := F0 m 152 ls [.int v66]) rfl ?_
        refine lv_goto hx hb d233_152 rfl ?_
        exact b156 k48 hk48 ls x3 x4 x5 x6 x7 x8 x9 x10 w0 v66 cr sr _ _ h67 z68 _ _ hF hc hs (hl.sub [1, 2, 3, 4, 5, 6, 7, 8, 0] rfl) I
    · have hF := Eq.mp (if_neg h9) hF
      refine lv_iload hx hb d233_134 (lv_at hl 8 rfl) ?_
      refine ht_S (rest := []) (as := [.int x10]) X hl (cw_Node_oddAbove l D dA s0 hE x10 h z _ hF) (List.forall_mem_cons.mpr ⟨ms_k764, List.forall_mem_cons.mpr ⟨ms_k765, List.forall_mem_cons.mpr ⟨ms_k19, List.forall_mem_cons.mpr ⟨ms_k766, fun _ h => absurd h List.not_mem_nil⟩⟩⟩⟩) ⟨by decide +kernel, by decide +kernel, (by decide +kernel : (parseMethodDescriptor "(I)I").map (fun d => d.parameters.length) = some 1)⟩ I ⟨rfl, rfl⟩ ⟨⟨Nat.le_of_ble_eq_true rfl, Nat.le_of_ble_eq_true rfl⟩, rm_0 hc, rm_0 hs⟩ rfl (Nat.le_of_ble_eq_true rfl) d233_136 (fun vv h70 z71 H locs hR I9 => ?_)
      obtain ⟨v69, e1, hF⟩ := hR
      subst e1
      clear I
      have I := I9
      clear I9
      refine W.eq (g2 := F0 m 139 ls [.int v69]) rfl ?_
      refine lv_goto hx hb d233_139 rfl ?_
      exact b156 k48 hk48 ls x3 x4 x5 x6 x7 x8 x9 x10 w0 v69 cr sr _ _ h70 z71 _ _ hF hc hs (hl.sub [1, 2, 3, 4, 5, 6, 7, 8, 0] rfl) I
  have b111 : ∀ (k48 : Option Nat → Option Nat → Option Nat → Int32 → Int32 → Nat → Nat → hm_T → hz_T → Prop), (∀ (ls : Array Slot) (x3 : Option Nat) (x4 : Option Nat) (x5 : Option Nat) (x6 : Int32) (x7 : Int32) (cr sr cu su : Nat) (h : hm_T) (z : hz_T) (H : Heap) (locs : List Loc), k48 x3 x4 x5 x6 x7 cr sr h z → cu + cr ≤ rc → su + sr ≤ rs → lv_has ls 13 [(3, va_rf x3), (4, va_rf x4), (5, va_rf x5), (6, .int x6), (7, .int x7)] → hm_I D s0 s h z H locs → W p l e { frames := 2, cells := rc, slots := rs, locals := 122 } s m ([va_rf y0, va_rf y1, va_rf y2] : List Value).toArray below meth c H locs cu su (MQ below (ht_Q D s0 (fun vv h1 z1 => ∃ v, vv = some (va_rf v) ∧ K v h1 z1)) ([va_rf y0, va_rf y1, va_rf y2] : List Value).toArray s rc rs (fun q => s0.heap.size ≤ q)) (F0 m 48 ls [])) → ∀ (ls : Array Slot) (x3 : Option Nat) (x4 : Option Nat) (x5 : Option Nat) (x6 : Int32) (x7 : Int32) (x8 : Int32) (x9 : Int32) (w0 : Int32) (cr sr cu su : Nat) (h : hm_T) (z : hz_T) (H : Heap) (locs : List Loc), w_Node_labelBetween_111 dA K k48 x3 x4 x5 x6 x7 x8 x9 w0 cr sr h z → cu + cr ≤ rc → su + sr ≤ rs → lv_has ls 13 [(3, va_rf x3), (4, va_rf x4), (5, va_rf x5), (6, .int x6), (7, .int x7), (8, .int x8), (9, .int x9)] → hm_I D s0 s h z H locs → W p l e { frames := 2, cells := rc, slots := rs, locals := 122 } s m ([va_rf y0, va_rf y1, va_rf y2] : List Value).toArray below meth c H locs cu su (MQ below (ht_Q D s0 (fun vv h1 z1 => ∃ v, vv = some (va_rf v) ∧ K v h1 z1)) ([va_rf y0, va_rf y1, va_rf y2] : List Value).toArray s rc rs (fun q => s0.heap.size ≤ q)) (F0 m 111 ls [.int w0]) := by
    intro k48 hk48 ls x3 x4 x5 x6 x7 x8 x9 w0 cr sr cu su h z H locs hF hc hs hl I
    unfold w_Node_labelBetween_111 at hF
    refine lv_istore hx hb d233_111 hl (by decide) rfl (fun ls hl => ?_)
    have hl : lv_has ls 13 [(10, .int w0), (3, va_rf x3), (4, va_rf x4), (5, va_rf x5), (6, .int x6), (7, .int x7), (8, .int x8), (9, .int x9)] := hl
    refine lv_iload hx hb d233_113 (lv_at hl 7 rfl) ?_
    refine lv_if_eq hx hb d233_115 rfl (fun h9 => ?_) (fun h9 => ?_)
    · have hF := Eq.mp (if_pos h9) hF
      refine lv_iconst (v := 0) hx hb d233_126 (by decide) ?_
      exact b127 k48 hk48 ls x3 x4 x5 x6 x7 x8 x9 w0 0 cr sr _ _ h z _ _ hF hc hs (hl.sub [1, 2, 3, 4, 5, 6, 7, 0] rfl) I
    · have hF := Eq.mp (if_neg h9) hF
      refine lv_aloadR hx hb d233_118 (lv_at hl 2 rfl) ?_
      refine lv_iload hx hb d233_120 (lv_at hl 4 rfl) ?_
      obtain ⟨a72, e9, hF⟩ := hF
      refine W.eq (g2 := F0 m 122 ls [.int x6, .ref a72]) (by rw [e9]; rfl) ?_
      clear e9
      obtain ⟨n8, f8, c9, i9, hF⟩ := hF
      refine va_iald hx hb hK (hm_one I.1 c9) 0 0 rfl rfl i9 d233_122 ?_
      generalize f8 (Int32.toNatClampNeg x6) = v73 at hF ⊢
      clear c9 i9
      refine lv_goto hx hb d233_123 rfl ?_
      exact b127 k48 hk48 ls x3 x4 x5 x6 x7 x8 x9 w0 v73 cr sr _ _ h z _ _ hF hc hs (hl.sub [1, 2, 3, 4, 5, 6, 7, 0] rfl) I
  have b96 : ∀ (k48 : Option Nat → Option Nat → Option Nat → Int32 → Int32 → Nat → Nat → hm_T → hz_T → Prop), (∀ (ls : Array Slot) (x3 : Option Nat) (x4 : Option Nat) (x5 : Option Nat) (x6 : Int32) (x7 : Int32) (cr sr cu su : Nat) (h : hm_T) (z : hz_T) (H : Heap) (locs : List Loc), k48 x3 x4 x5 x6 x7 cr sr h z → cu + cr ≤ rc → su + sr ≤ rs → lv_has ls 13 [(3, va_rf x3), (4, va_rf x4), (5, va_rf x5), (6, .int x6), (7, .int x7)] → hm_I D s0 s h z H locs → W p l e { frames := 2, cells := rc, slots := rs, locals := 122 } s m ([va_rf y0, va_rf y1, va_rf y2] : List Value).toArray below meth c H locs cu su (MQ below (ht_Q D s0 (fun vv h1 z1 => ∃ v, vv = some (va_rf v) ∧ K v h1 z1)) ([va_rf y0, va_rf y1, va_rf y2] : List Value).toArray s rc rs (fun q => s0.heap.size ≤ q)) (F0 m 48 ls [])) → ∀ (ls : Array Slot) (x3 : Option Nat) (x4 : Option Nat) (x5 : Option Nat) (x6 : Int32) (x7 : Int32) (x8 : Int32) (w0 : Int32) (cr sr cu su : Nat) (h : hm_T) (z : hz_T) (H : Heap) (locs : List Loc), w_Node_labelBetween_96 dA K k48 x3 x4 x5 x6 x7 x8 w0 cr sr h z → cu + cr ≤ rc → su + sr ≤ rs → lv_has ls 13 [(3, va_rf x3), (4, va_rf x4), (5, va_rf x5), (6, .int x6), (7, .int x7), (8, .int x8)] → hm_I D s0 s h z H locs → W p l e { frames := 2, cells := rc, slots := rs, locals := 122 } s m ([va_rf y0, va_rf y1, va_rf y2] : List Value).toArray below meth c H locs cu su (MQ below (ht_Q D s0 (fun vv h1 z1 => ∃ v, vv = some (va_rf v) ∧ K v h1 z1)) ([va_rf y0, va_rf y1, va_rf y2] : List Value).toArray s rc rs (fun q => s0.heap.size ≤ q)) (F0 m 96 ls [.int w0]) := by
    intro k48 hk48 ls x3 x4 x5 x6 x7 x8 w0 cr sr cu su h z H locs hF hc hs hl I
    unfold w_Node_labelBetween_96 at hF
    refine lv_istore hx hb d233_96 hl (by decide) rfl (fun ls hl => ?_)
    have hl : lv_has ls 13 [(9, .int w0), (3, va_rf x3), (4, va_rf x4), (5, va_rf x5), (6, .int x6), (7, .int x7), (8, .int x8)] := hl
    refine lv_iload hx hb d233_98 (lv_at hl 6 rfl) ?_
    refine lv_if_eq hx hb d233_100 rfl (fun h9 => ?_) (fun h9 => ?_)
    · have hF := Eq.mp (if_pos h9) hF
      refine lv_iconst (v := 0) hx hb d233_110 (by decide) ?_
      exact b111 k48 hk48 ls x3 x4 x5 x6 x7 x8 w0 0 cr sr _ _ h z _ _ hF hc hs (hl.sub [1, 2, 3, 4, 5, 6, 0] rfl) I
    · have hF := Eq.mp (if_neg h9) hF
      refine lv_aload_nR hx hb d233_103 rfl (lv_at hl 1 rfl) ?_
      refine lv_iload hx hb d233_104 (lv_at hl 4 rfl) ?_
      obtain ⟨a74, e9, hF⟩ := hF
      refine W.eq (g2 := F0 m 106 ls [.int x6, .ref a74]) (by rw [e9]; rfl) ?_
      clear e9
      obtain ⟨n8, f8, c9, i9, hF⟩ := hF
      refine va_iald hx hb hK (hm_one I.1 c9) 0 0 rfl rfl i9 d233_106 ?_
      generalize f8 (Int32.toNatClampNeg x6) = v75 at hF ⊢
      clear c9 i9
      refine lv_goto hx hb d233_107 rfl ?_
      exact b111 k48 hk48 ls x3 x4 x5 x6 x7 x8 w0 v75 cr sr _ _ h z _ _ hF hc hs (hl.sub [1, 2, 3, 4, 5, 6, 0] rfl) I
  have b95 : ∀ (k48 : Option Nat → Option Nat → Option Nat → Int32 → Int32 → Nat → Nat → hm_T → hz_T → Prop), (∀ (ls : Array Slot) (x3 : Option Nat) (x4 : Option Nat) (x5 : Option Nat) (x6 : Int32) (x7 : Int32) (cr sr cu su : Nat) (h : hm_T) (z : hz_T) (H : Heap) (locs : List Loc), k48 x3 x4 x5 x6 x7 cr sr h z → cu + cr ≤ rc → su + sr ≤ rs → lv_has ls 13 [(3, va_rf x3), (4, va_rf x4), (5, va_rf x5), (6, .int x6), (7, .int x7)] → hm_I D s0 s h z H locs → W p l e { frames := 2, cells := rc, slots := rs, locals := 122 } s m ([va_rf y0, va_rf y1, va_rf y2] : List Value).toArray below meth c H locs cu su (MQ below (ht_Q D s0 (fun vv h1 z1 => ∃ v, vv = some (va_rf v) ∧ K v h1 z1)) ([va_rf y0, va_rf y1, va_rf y2] : List Value).toArray s rc rs (fun q => s0.heap.size ≤ q)) (F0 m 48 ls [])) → ∀ (ls : Array Slot) (x3 : Option Nat) (x4 : Option Nat) (x5 : Option Nat) (x6 : Int32) (x7 : Int32) (x8 : Int32) (cr sr cu su : Nat) (h : hm_T) (z : hz_T) (H : Heap) (locs : List Loc), w_Node_labelBetween_95 dA K k48 x3 x4 x5 x6 x7 x8 cr sr h z → cu + cr ≤ rc → su + sr ≤ rs → lv_has ls 13 [(3, va_rf x3), (4, va_rf x4), (5, va_rf x5), (6, .int x6), (7, .int x7), (8, .int x8)] → hm_I D s0 s h z H locs → W p l e { frames := 2, cells := rc, slots := rs, locals := 122 } s m ([va_rf y0, va_rf y1, va_rf y2] : List Value).toArray below meth c H locs cu su (MQ below (ht_Q D s0 (fun vv h1 z1 => ∃ v, vv = some (va_rf v) ∧ K v h1 z1)) ([va_rf y0, va_rf y1, va_rf y2] : List Value).toArray s rc rs (fun q => s0.heap.size ≤ q)) (F0 m 95 ls []) := by
    intro k48 hk48 ls x3 x4 x5 x6 x7 x8 cr sr cu su h z H locs hF hc hs hl I
    unfold w_Node_labelBetween_95 at hF
    refine lv_iconst (v := 0) hx hb d233_95 (by decide) ?_
    exact b96 k48 hk48 ls x3 x4 x5 x6 x7 x8 0 cr sr _ _ h z _ _ hF hc hs (hl.sub [0, 1, 2, 3, 4, 5] rfl) I
  have b76 : ∀ (k48 : Option Nat → Option Nat → Option Nat → Int32 → Int32 → Nat → Nat → hm_T → hz_T → Prop), (∀ (ls : Array Slot) (x3 : Option Nat) (x4 : Option Nat) (x5 : Option Nat) (x6 : Int32) (x7 : Int32) (cr sr cu su : Nat) (h : hm_T) (z : hz_T) (H : Heap) (locs : List Loc), k48 x3 x4 x5 x6 x7 cr sr h z → cu + cr ≤ rc → su + sr ≤ rs → lv_has ls 13 [(3, va_rf x3), (4, va_rf x4), (5, va_rf x5), (6, .int x6), (7, .int x7)] → hm_I D s0 s h z H locs → W p l e { frames := 2, cells := rc, slots := rs, locals := 122 } s m ([va_rf y0, va_rf y1, va_rf y2] : List Value).toArray below meth c H locs cu su (MQ below (ht_Q D s0 (fun vv h1 z1 => ∃ v, vv = some (va_rf v) ∧ K v h1 z1)) ([va_rf y0, va_rf y1, va_rf y2] : List Value).toArray s rc rs (fun q => s0.heap.size ≤ q)) (F0 m 48 ls [])) → ∀ (ls : Array Slot) (x3 : Option Nat) (x4 : Option Nat) (x5 : Option Nat) (x6 : Int32) (x7 : Int32) (w0 : Int32) (cr sr cu su : Nat) (h : hm_T) (z : hz_T) (H : Heap) (locs : List Loc), w_Node_labelBetween_76 dA K k48 x3 x4 x5 x6 x7 w0 cr sr h z → cu + cr ≤ rc → su + sr ≤ rs → lv_has ls 13 [(3, va_rf x3), (4, va_rf x4), (5, va_rf x5), (6, .int x6), (7, .int x7)] → hm_I D s0 s h z H locs → W p l e { frames := 2, cells := rc, slots := rs, locals := 122 } s m ([va_rf y0, va_rf y1, va_rf y2] : List Value).toArray below meth c H locs cu su (MQ below (ht_Q D s0 (fun vv h1 z1 => ∃ v, vv = some (va_rf v) ∧ K v h1 z1)) ([va_rf y0, va_rf y1, va_rf y2] : List Value).toArray s rc rs (fun q => s0.heap.size ≤ q)) (F0 m 76 ls [.int w0]) := by
    intro k48 hk48 ls x3 x4 x5 x6 x7 w0 cr sr cu su h z H locs hF hc hs hl I
    unfold w_Node_labelBetween_76 at hF
    refine lv_istore hx hb d233_76 hl (by decide) rfl (fun ls hl => ?_)
    have hl : lv_has ls 13 [(8, .int w0), (3, va_rf x3), (4, va_rf x4), (5, va_rf x5), (6, .int x6), (7, .int x7)] := hl
    refine lv_aloadR hx hb d233_78 (lv_at hl 2 rfl) ?_
    refine lv_ifnullR hx hb d233_80 rfl (fun h9 => ?_) (fun h9 => ?_)
    · have hF := Eq.mp (if_pos h9) hF
      exact b95 k48 hk48 ls x3 x4 x5 x6 x7 w0 cr sr _ _ h z _ _ hF hc hs (hl.sub [1, 2, 3, 4, 5, 0] rfl) I
    · have hF := Eq.mp (if_neg h9) hF
      refine lv_iload hx hb d233_83 (lv_at hl 4 rfl) ?_
      refine lv_aloadR hx hb d233_85 (lv_at hl 2 rfl) ?_
      obtain ⟨a76, e9, hF⟩ := hF
      refine W.eq (g2 := F0 m 87 ls [.ref a76, .int x6]) (by rw [e9]; rfl) ?_
      clear e9
      obtain ⟨n8, f8, c9, hF⟩ := hF
      refine va_alen (v := nI n8) hx hb hK (hm_one I.1 c9) 0 0 rfl rfl rfl d233_87 ?_
      generalize nI n8 = v77 at hF ⊢
      clear c9
      refine lv_icmp_ge hx hb d233_88 rfl (fun h9 => ?_) (fun h9 => ?_)
      · have hF := Eq.mp (if_pos h9) hF
        exact b95 k48 hk48 ls x3 x4 x5 x6 x7 w0 cr sr _ _ h z _ _ hF hc hs (hl.sub [1, 2, 3, 4, 5, 0] rfl) I
      · have hF := Eq.mp (if_neg h9) hF
        refine lv_iconst (v := 1) hx hb d233_91 (by decide) ?_
        refine lv_goto hx hb d233_92 rfl ?_
        exact b96 k48 hk48 ls x3 x4 x5 x6 x7 w0 1 cr sr _ _ h z _ _ hF hc hs (hl.sub [1, 2, 3, 4, 5, 0] rfl) I
  have b75 : ∀ (k48 : Option Nat → Option Nat → Option Nat → Int32 → Int32 → Nat → Nat → hm_T → hz_T → Prop), (∀ (ls : Array Slot) (x3 : Option Nat) (x4 : Option Nat) (x5 : Option Nat) (x6 : Int32) (x7 : Int32) (cr sr cu su : Nat) (h : hm_T) (z : hz_T) (H : Heap) (locs : List Loc), k48 x3 x4 x5 x6 x7 cr sr h z → cu + cr ≤ rc → su + sr ≤ rs → lv_has ls 13 [(3, va_rf x3), (4, va_rf x4), (5, va_rf x5), (6, .int x6), (7, .int x7)] → hm_I D s0 s h z H locs → W p l e { frames := 2, cells := rc, slots := rs, locals := 122 } s m ([va_rf y0, va_rf y1, va_rf y2] : List Value).toArray below meth c H locs cu su (MQ below (ht_Q D s0 (fun vv h1 z1 => ∃ v, vv = some (va_rf v) ∧ K v h1 z1)) ([va_rf y0, va_rf y1, va_rf y2] : List Value).toArray s rc rs (fun q => s0.heap.size ≤ q)) (F0 m 48 ls [])) → ∀ (ls : Array Slot) (x3 : Option Nat) (x4 : Option Nat) (x5 : Option Nat) (x6 : Int32) (x7 : Int32) (cr sr cu su : Nat) (h : hm_T) (z : hz_T) (H : Heap) (locs : List Loc), w_Node_labelBetween_75 dA K k48 x3 x4 x5 x6 x7 cr sr h z → cu + cr ≤ rc → su + sr ≤ rs → lv_has ls 13 [(3, va_rf x3), (4, va_rf x4), (5, va_rf x5), (6, .int x6), (7, .int x7)] → hm_I D s0 s h z H locs → W p l e { frames := 2, cells := rc, slots := rs, locals := 122 } s m ([va_rf y0, va_rf y1, va_rf y2] : List Value).toArray below meth c H locs cu su (MQ below (ht_Q D s0 (fun vv h1 z1 => ∃ v, vv = some (va_rf v) ∧ K v h1 z1)) ([va_rf y0, va_rf y1, va_rf y2] : List Value).toArray s rc rs (fun q => s0.heap.size ≤ q)) (F0 m 75 ls []) := by
    intro k48 hk48 ls x3 x4 x5 x6 x7 cr sr cu su h z H locs hF hc hs hl I
    unfold w_Node_labelBetween_75 at hF
    refine lv_iconst (v := 0) hx hb d233_75 (by decide) ?_
    exact b76 k48 hk48 ls x3 x4 x5 x6 x7 0 cr sr _ _ h z _ _ hF hc hs (hl.sub [0, 1, 2, 3, 4] rfl) I
  have b48 : ∀ n9 : Nat, ∀ (ls : Array Slot) (x3 : Option Nat) (x4 : Option Nat) (x5 : Option Nat) (x6 : Int32) (x7 : Int32) (cr sr cu su : Nat) (h : hm_T) (z : hz_T) (H : Heap) (locs : List Loc), w_Node_labelBetween_48 dA K n9 x3 x4 x5 x6 x7 cr sr h z → cu + cr ≤ rc → su + sr ≤ rs → lv_has ls 13 [(3, va_rf x3), (4, va_rf x4), (5, va_rf x5), (6, .int x6), (7, .int x7)] → hm_I D s0 s h z H locs → W p l e { frames := 2, cells := rc, slots := rs, locals := 122 } s m ([va_rf y0, va_rf y1, va_rf y2] : List Value).toArray below meth c H locs cu su (MQ below (ht_Q D s0 (fun vv h1 z1 => ∃ v, vv = some (va_rf v) ∧ K v h1 z1)) ([va_rf y0, va_rf y1, va_rf y2] : List Value).toArray s rc rs (fun q => s0.heap.size ≤ q)) (F0 m 48 ls []) := by
    intro n9
    induction n9 with
    | zero => intro ls x3 x4 x5 x6 x7 cr sr cu su h z H locs hF; cases hF
    | succ n9 hk48 =>
    intro ls x3 x4 x5 x6 x7 cr sr cu su h z H locs hF hc hs hl I
    unfold w_Node_labelBetween_48 at hF
    refine lv_iload hx hb d233_48 (lv_at hl 4 rfl) ?_
    refine lv_if_eq hx hb d233_50 rfl (fun h9 => ?_) (fun h9 => ?_)
    · have hF := Eq.mp (if_pos h9) hF
      exact b281 ls x5 x6 cr sr _ _ h z _ _ hF hc hs (hl.sub [2, 3] rfl) I
    · have hF := Eq.mp (if_neg h9) hF
      refine lv_iload hx hb d233_53 (lv_at hl 3 rfl) ?_
      refine lv_bipush (v := 16) hx hb d233_55 (by decide) ?_
      refine lv_icmp_gt hx hb d233_57 rfl (fun h9 => ?_) (fun h9 => ?_)
      · have hF := Eq.mp (if_pos h9) hF
        exact b281 ls x5 x6 cr sr _ _ h z _ _ hF hc hs (hl.sub [2, 3] rfl) I
      · have hF := Eq.mp (if_neg h9) hF
        refine lv_aload_nR hx hb d233_60 rfl (lv_at hl 0 rfl) ?_
        refine lv_ifnullR hx hb d233_61 rfl (fun h9 => ?_) (fun h9 => ?_)
        · have hF := Eq.mp (if_pos h9) hF
          exact b75 (w_Node_labelBetween_48 dA K n9) hk48 ls x3 x4 x5 x6 x7 cr sr _ _ h z _ _ hF hc hs (hl.sub [0, 1, 2, 3, 4] rfl) I
        · have hF := Eq.mp (if_neg h9) hF
          refine lv_iload hx hb d233_64 (lv_at hl 3 rfl) ?_
          refine lv_aload_nR hx hb d233_66 rfl (lv_at hl 0 rfl) ?_
          obtain ⟨a78, e9, hF⟩ := hF
          refine W.eq (g2 := F0 m 67 ls [.ref a78, .int x6]) (by rw [e9]; rfl) ?_
          clear e9
          obtain ⟨n8, f8, c9, hF⟩ := hF
          refine va_alen (v := nI n8) hx hb hK (hm_one I.1 c9) 0 0 rfl rfl rfl d233_67 ?_
          generalize nI n8 = v79 at hF ⊢
          clear c9
          refine lv_icmp_ge hx hb d233_68 rfl (fun h9 => ?_) (fun h9 => ?_)
          · have hF := Eq.mp (if_pos h9) hF
            exact b75 (w_Node_labelBetween_48 dA K n9) hk48 ls x3 x4 x5 x6 x7 cr sr _ _ h z _ _ hF hc hs (hl.sub [0, 1, 2, 3, 4] rfl) I
          · have hF := Eq.mp (if_neg h9) hF
            refine lv_iconst (v := 1) hx hb d233_71 (by decide) ?_
            refine lv_goto hx hb d233_72 rfl ?_
            exact b76 (w_Node_labelBetween_48 dA K n9) hk48 ls x3 x4 x5 x6 x7 1 cr sr _ _ h z _ _ hF hc hs (hl.sub [0, 1, 2, 3, 4] rfl) I
  have b25 : ∀ (ls : Array Slot) (x0 : Option Nat) (x3 : Option Nat) (w0 : Option Nat) (cr sr cu su : Nat) (h : hm_T) (z : hz_T) (H : Heap) (locs : List Loc), w_Node_labelBetween_25 dA K x0 x3 w0 cr sr h z → cu + cr ≤ rc → su + sr ≤ rs → lv_has ls 13 [(0, va_rf x0), (3, va_rf x3)] → hm_I D s0 s h z H locs → W p l e { frames := 2, cells := rc, slots := rs, locals := 122 } s m ([va_rf y0, va_rf y1, va_rf y2] : List Value).toArray below meth c H locs cu su (MQ below (ht_Q D s0 (fun vv h1 z1 => ∃ v, vv = some (va_rf v) ∧ K v h1 z1)) ([va_rf y0, va_rf y1, va_rf y2] : List Value).toArray s rc rs (fun q => s0.heap.size ≤ q)) (F0 m 25 ls [va_rf w0]) := by
    intro ls x0 x3 w0 cr sr cu su h z H locs hF hc hs hl I
    unfold w_Node_labelBetween_25 at hF
    refine lv_astoreR (i := 4) hx hb d233_25 hl (by decide) (show _ = [(4, va_rf w0), (0, va_rf x0), (3, va_rf x3)] by simp [cat_rf, cat_int, cat_ref, cat_null, cat_long]) (fun ls hl => ?_)
    have hl : lv_has ls 13 [(4, va_rf w0), (0, va_rf x0), (3, va_rf x3)] := hl
    refine lv_aload_nR hx hb d233_27 rfl (lv_at hl 1 rfl) ?_
    obtain ⟨a25, e9, hF⟩ := hF
    refine W.eq (g2 := F0 m 28 ls [.ref a25]) (by rw [e9]; rfl) ?_
    clear e9
    obtain ⟨fs9, v26, c9, e9, hF⟩ := hF
    refine va_get (D := D) (ci := 8) (v := va_rf v26) (C := kR8) (T := kT8) (N := 9) hx hb hts ku8 hown hK (hm_one I.1 c9) 0 rfl rfl 3 (by decide) (hts _ ms_k452) (fun _ h => h) e9 d233_28 ?_
    clear e9 c9 fs9
    refine lv_bipush (v := 18) hx hb d233_31 (by decide) ?_
    obtain ⟨c30, s31, c32, s33, ec, es, hF⟩ := hF
    refine ht_S (rest := []) (as := [va_rf v26, .int 18]) X hl (cw_Arrays_copyOfI l D dA s0 hW v26 18 c30 s31 h z _ hF) (List.forall_mem_cons.mpr ⟨ms_k678, List.forall_mem_cons.mpr ⟨ms_k679, List.forall_mem_cons.mpr ⟨ms_k10, List.forall_mem_cons.mpr ⟨ms_k680, fun _ h => absurd h List.not_mem_nil⟩⟩⟩⟩) ⟨by decide +kernel, by decide +kernel, (by decide +kernel : (parseMethodDescriptor "([II)[I").map (fun d => d.parameters.length) = some 2)⟩ I ⟨rfl, rfl⟩ ⟨⟨Nat.le_of_ble_eq_true rfl, Nat.le_of_ble_eq_true rfl⟩, (rm_u hc ec).1, (rm_u hs es).1⟩ rfl (Nat.le_of_ble_eq_true rfl) d233_33 (fun vv h28 z29 H locs hR I9 => ?_)
    obtain ⟨v27, e1, hF⟩ := hR
    subst e1
    clear I
    have I := I9
    clear I9
    have hc := (rm_u hc ec).2
    have hs := (rm_u hs es).2
    clear ec es
    refine W.eq (g2 := F0 m 36 ls [va_rf v27]) rfl ?_
    refine lv_astoreR (i := 5) hx hb d233_36 hl (by decide) (show _ = [(5, va_rf v27), (4, va_rf w0), (0, va_rf x0), (3, va_rf x3)] by simp [cat_rf, cat_int, cat_ref, cat_null, cat_long]) (fun ls hl => ?_)
    have hl : lv_has ls 13 [(5, va_rf v27), (4, va_rf w0), (0, va_rf x0), (3, va_rf x3)] := hl
    refine lv_aload_nR hx hb d233_38 rfl (lv_at hl 2 rfl) ?_
    obtain ⟨a34, e9, hF⟩ := hF
    refine W.eq (g2 := F0 m 39 ls [.ref a34]) (by rw [e9]; rfl) ?_
    clear e9
    obtain ⟨fs9, v35, c9, e9, hF⟩ := hF
    refine va_get (D := D) (ci := 8) (v := va_rf v35) (C := kR8) (T := kT8) (N := 9) hx hb hts ku8 hown hK (hm_one I.1 c9) 0 rfl rfl 3 (by decide) (hts _ ms_k452) (fun _ h => h) e9 d233_39 ?_
    clear e9 c9 fs9
    obtain ⟨a36, e9, hF⟩ := hF
    refine W.eq (g2 := F0 m 42 ls [.ref a36]) (by rw [e9]; rfl) ?_
    clear e9
    obtain ⟨n8, f8, c9, hF⟩ := hF
    refine va_alen (v := nI n8) hx hb hK (hm_one I.1 c9) 0 0 rfl rfl rfl d233_42 ?_
    generalize nI n8 = v37 at hF ⊢
    clear c9
    refine lv_istore (i := 6) hx hb d233_43 hl (by decide) (show _ = [(6, .int v37), (5, va_rf v27), (4, va_rf w0), (0, va_rf x0), (3, va_rf x3)] by simp [cat_rf, cat_int, cat_ref, cat_null, cat_long]) (fun ls hl => ?_)
    have hl : lv_has ls 13 [(6, .int v37), (5, va_rf v27), (4, va_rf w0), (0, va_rf x0), (3, va_rf x3)] := hl
    refine lv_iconst (v := 1) hx hb d233_45 (by decide) ?_
    refine lv_istore hx hb d233_46 hl (by decide) rfl (fun ls hl => ?_)
    have hl : lv_has ls 13 [(7, .int 1), (6, .int v37), (5, va_rf v27), (4, va_rf w0), (0, va_rf x0), (3, va_rf x3)] := hl
    exact b48 mF ls x3 w0 v27 v37 1 c32 s33 _ _ h28 z29 _ _ hF hc hs (hl.sub [5, 3, 2, 1, 0] rfl) I
  have b12 : ∀ (ls : Array Slot) (x0 : Option Nat) (x2 : Option Nat) (w0 : Option Nat) (cr sr cu su : Nat) (h : hm_T) (z : hz_T) (H : Heap) (locs : List Loc), w_Node_labelBetween_12 dA K x0 x2 w0 cr sr h z → cu + cr ≤ rc → su + sr ≤ rs → lv_has ls 13 [(0, va_rf x0), (2, va_rf x2)] → hm_I D s0 s h z H locs → W p l e { frames := 2, cells := rc, slots := rs, locals := 122 } s m ([va_rf y0, va_rf y1, va_rf y2] : List Value).toArray below meth c H locs cu su (MQ below (ht_Q D s0 (fun vv h1 z1 => ∃ v, vv = some (va_rf v) ∧ K v h1 z1)) ([va_rf y0, va_rf y1, va_rf y2] : List Value).toArray s rc rs (fun q => s0.heap.size ≤ q)) (F0 m 12 ls [va_rf w0]) := by
    intro ls x0 x2 w0 cr sr cu su h z H locs hF hc hs hl I
    unfold w_Node_labelBetween_12 at hF
    refine lv_astore_nR (i := 3) hx hb d233_12 rfl hl (by decide) (show _ = [(3, va_rf w0), (0, va_rf x0), (2, va_rf x2)] by simp [cat_rf, cat_int, cat_ref, cat_null, cat_long]) (fun ls hl => ?_)
    have hl : lv_has ls 13 [(3, va_rf w0), (0, va_rf x0), (2, va_rf x2)] := hl
    refine lv_aload_nR hx hb d233_13 rfl (lv_at hl 2 rfl) ?_
    refine lv_ifnonnullR hx hb d233_14 rfl (fun h9 => ?_) (fun h9 => ?_)
    · have hF := Eq.mp (if_neg h9) hF
      refine lv_aload_nR hx hb d233_21 rfl (lv_at hl 2 rfl) ?_
      obtain ⟨a23, e9, hF⟩ := hF
      refine W.eq (g2 := F0 m 22 ls [.ref a23]) (by rw [e9]; rfl) ?_
      clear e9
      obtain ⟨fs9, v24, c9, e9, hF⟩ := hF
      refine va_get (D := D) (ci := 8) (v := va_rf v24) (C := kR8) (T := kT8) (N := 9) hx hb hts ku8 hown hK (hm_one I.1 c9) 0 rfl rfl 3 (by decide) (hts _ ms_k452) (fun _ h => h) e9 d233_22 ?_
      clear e9 c9 fs9
      exact b25 ls x0 w0 v24 cr sr _ _ h z _ _ hF hc hs (hl.sub [1, 0] rfl) I
    · have hF := Eq.mp (if_pos h9) hF
      refine lv_null hx hb d233_17 ?_
      refine lv_goto hx hb d233_18 rfl ?_
      exact b25 ls x0 w0 none cr sr _ _ h z _ _ hF hc hs (hl.sub [1, 0] rfl) I
  have hF := hg
  unfold w_Node_labelBetween at hF
  clear h z
  have hc : 0 + rc ≤ rc := by omega
  have hs : 0 + rs ≤ rs := by omega
  refine lv_aload_nR hx hb d233_0 rfl (lv_at hl 1 rfl) ?_
  refine lv_ifnonnullR hx hb d233_1 rfl (fun h9 => ?_) (fun h9 => ?_)
  · have hF := Eq.mp (if_neg h9) hF
    refine lv_aload_nR hx hb d233_8 rfl (lv_at hl 1 rfl) ?_
    obtain ⟨a21, e9, hF⟩ := hF
    refine W.eq (g2 := F0 m 9 ls [.ref a21]) (by rw [e9]; rfl) ?_
    clear e9
    obtain ⟨fs9, v22, c9, e9, hF⟩ := hF
    refine va_get (D := D) (ci := 8) (v := va_rf v22) (C := kR8) (T := kT8) (N := 9) hx hb hts ku8 hown hK (hm_one I.1 c9) 0 rfl rfl 3 (by decide) (hts _ ms_k452) (fun _ h => h) e9 d233_9 ?_
    clear e9 c9 fs9
    exact b12 ls y0 y2 v22 rc rs _ _ h0 z0 _ _ hF hc hs (hl.sub [0, 2] rfl) I
  · have hF := Eq.mp (if_pos h9) hF
    refine lv_null hx hb d233_4 ?_
    refine lv_goto hx hb d233_5 rfl ?_
    exact b12 ls y0 y2 none rc rs _ _ h0 z0 _ _ hF hc hs (hl.sub [0, 2] rfl) I
