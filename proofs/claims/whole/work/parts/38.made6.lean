
def w_Store_replace_29 (dA : Nat → ClassId) (y0 : Nat) (K : Int32 → hm_T → hz_T → Prop) (cr sr : Nat) (h : hm_T) (z : hz_T) : Prop := (K 0 h z)
def w_Store_replace (dA : Nat → ClassId) (y0 : Nat) (y1 : Int32) (rc rs : Nat) (K : Int32 → hm_T → hz_T → Prop) (h0 : hm_T) (z0 : hz_T) : Prop := (cg_c h0 0 y0 (cg_rm rc rs (fun c24 s25 c26 s27 => w_Store_useBuffer dA y0 c24 s25 (fun v21 h22 z23 => (cg_R h22 0 2 y0 (fun v28 => (cg_d v28 (fun a29 => (cg_c h22 1 a29 (w_Tree_find dA a29 y1 (fun v30 h31 z32 => (if v30 = none then (w_Store_replace_29 dA y0 K c26 s27 h31 z32) else (cg_d v30 (fun a33 => (cg_I h31 8 0 a33 (fun v34 => (w_Store_mayBecome dA v34 v21 (fun v35 h36 z37 => (if v35 = 0 then (w_Store_replace_29 dA y0 K c26 s27 h36 z37) else (cg_d v30 (fun a38 => (cg_p h36 8 7 a38 (va_rf v21) (fun h39 => (cg_I h39 0 5 y0 (fun v40 => (cg_p h39 0 5 y0 (.int (v40 + 1)) (fun h41 => (K 1 h41 z37))))))))))) h31 z32))))))) h22 z23))))))) h0 z0)))
set_option maxRecDepth 100000 in
set_option maxHeartbeats 8000000 in
theorem cw_Store_replace (l : Launch) (D : va_G) (dA : Nat → ClassId) (s0 : State) (hW : ms_EW D dA s0) (y0 : Nat) (y1 : Int32) (rc rs : Nat) (h0 : hm_T) (z0 : hz_T) (K : Int32 → hm_T → hz_T → Prop) (hg : w_Store_replace dA y0 y1 rc rs K h0 z0) : ht_C l D s0 yM246 bM246 4 (Option.some Jvm.ClassFile.FieldType.boolean) (7) (232) rc rs [.ref y0, .int y1] (fun h z => h = h0 ∧ z = z0) (fun h z vv h1 z1 => ∃ v, vv = some (.int v) ∧ K v h1 z1) := by
  have hE := hW.1
  refine ht_C.mk hE.1 (by decide) (Nat.le_of_ble_eq_true rfl) [(0, .ref y0), (1, .int y1)] rfl ?_
  intro p e s m below meth c ls h z X hin hpre I hl
  have hx := X.1
  have hb := X.2.1
  have hml := X.2.2.1
  have hown : s.vm.findClass "MarkupStore" = some m.cls := X.2.2.2.1
  have hts := X.2.2.2.2.2.2.1
  have hK := X.2.2.2.2.2.2.2.2.1
  rw [hpre.1, hpre.2] at I
  clear hpre
  have b29 : ∀ (ls : Array Slot) (cr sr cu su : Nat) (h : hm_T) (z : hz_T) (H : Heap) (locs : List Loc), w_Store_replace_29 dA y0 K cr sr h z → cu + cr ≤ rc → su + sr ≤ rs → lv_has ls 4 [] → hm_I D s0 s h z H locs → W p l e { frames := 7, cells := rc, slots := rs, locals := 232 } s m ([.ref y0, .int y1] : List Value).toArray below meth c H locs cu su (MQ below (ht_Q D s0 (fun vv h1 z1 => ∃ v, vv = some (.int v) ∧ K v h1 z1)) ([.ref y0, .int y1] : List Value).toArray s rc rs (fun q => s0.heap.size ≤ q)) (F0 m 29 ls []) := by
    intro ls cr sr cu su h z H locs hF hc hs hl I
    unfold w_Store_replace_29 at hF
    refine lv_iconst (v := 0) hx hb d246_29 (by decide) ?_
    exact ht_zret X d246_30 I (rm_r hc) (rm_r hs) ⟨_, rfl, hF⟩ rfl
  have hF := hg
  unfold w_Store_replace at hF
  clear h z
  have hc : 0 + rc ≤ rc := by omega
  have hs : 0 + rs ≤ rs := by omega
  refine lv_aload_n hx hb d246_0 rfl (lv_at hl 0 rfl) ?_
  obtain ⟨fs9, c9, hF⟩ := hF
  obtain ⟨c24, s25, c26, s27, ec, es, hF⟩ := hF
  refine ht_V (C := "MarkupStore") (rest := []) (as := []) X hl (cw_Store_useBuffer l D dA s0 hW y0 c24 s25 h0 z0 _ hF) (List.forall_mem_cons.mpr ⟨ms_k237, List.forall_mem_cons.mpr ⟨ms_k239, List.forall_mem_cons.mpr ⟨ms_p0, List.forall_mem_cons.mpr ⟨ms_k1, List.forall_mem_cons.mpr ⟨ms_k240, fun _ h => absurd h List.not_mem_nil⟩⟩⟩⟩⟩) ⟨rfl, by decide +kernel, by decide +kernel, (by decide +kernel : (parseMethodDescriptor "()Ljava/lang/String;").map (fun d => d.parameters.length) = some 0)⟩ (hm_recv hK I rfl c9) I ⟨rfl, rfl⟩ ⟨⟨Nat.le_of_ble_eq_true rfl, Nat.le_of_ble_eq_true rfl⟩, (rm_u hc ec).1, (rm_u hs es).1⟩ rfl (Nat.le_of_ble_eq_true rfl) d246_1 (fun vv h22 z23 H locs hR I9 => ?_)
  obtain ⟨v21, e1, hF⟩ := hR
  subst e1
  clear I
  have I := I9
  clear I9 c9 fs9
  have hc := (rm_u hc ec).2
  have hs := (rm_u hs es).2
  clear ec es
  refine W.eq (g2 := F0 m 4 ls [va_rf v21]) rfl ?_
  refine lv_astore_nR hx hb d246_4 rfl hl (by decide) rfl (fun ls hl => ?_)
  have hl : lv_has ls 4 [(2, va_rf v21), (0, .ref y0), (1, .int y1)] := hl
  refine lv_aload_n hx hb d246_5 rfl (lv_at hl 1 rfl) ?_
  obtain ⟨fs9, v28, c9, e9, hF⟩ := hF
  refine va_get (D := D) (ci := 0) (v := va_rf v28) (C := kR0) (T := kT0) (N := 6) hx hb hts ku0 hown hK (hm_one I.1 c9) 0 rfl rfl 2 (by decide) (hts _ ms_k107) (fun _ h => h) e9 d246_6 ?_
  clear e9 c9 fs9
  refine lv_iload_n hx hb d246_9 rfl (lv_at hl 2 rfl) ?_
  obtain ⟨a29, e9, hF⟩ := hF
  refine W.eq (g2 := F0 m 10 ls [.int y1, .ref a29]) (by rw [e9]; rfl) ?_
  clear e9
  obtain ⟨fs9, c9, hF⟩ := hF
  refine ht_V (C := "MarkupStore$Tree") (rest := []) (as := [.int y1]) X hl (cw_Tree_find l D dA s0 hE a29 y1 h22 z23 _ hF) (List.forall_mem_cons.mpr ⟨ms_k745, List.forall_mem_cons.mpr ⟨ms_k746, List.forall_mem_cons.mpr ⟨ms_k747, List.forall_mem_cons.mpr ⟨ms_k6, List.forall_mem_cons.mpr ⟨ms_k748, fun _ h => absurd h List.not_mem_nil⟩⟩⟩⟩⟩) ⟨rfl, by decide +kernel, by decide +kernel, (by decide +kernel : (parseMethodDescriptor "(I)LMarkupStore$Node;").map (fun d => d.parameters.length) = some 1)⟩ (hm_recv hK I rfl c9) I ⟨rfl, rfl⟩ ⟨⟨Nat.le_of_ble_eq_true rfl, Nat.le_of_ble_eq_true rfl⟩, rm_0 hc, rm_0 hs⟩ rfl (Nat.le_of_ble_eq_true rfl) d246_10 (fun vv h31 z32 H locs hR I9 => ?_)
  obtain ⟨v30, e1, hF⟩ := hR
  subst e1
  clear I
  have I := I9
  clear I9 c9 fs9
  refine W.eq (g2 := F0 m 13 ls [va_rf v30]) rfl ?_
  refine lv_astore_nR (i := 3) hx hb d246_13 rfl hl (by decide) (show _ = [(3, va_rf v30), (2, va_rf v21), (0, .ref y0), (1, .int y1)] by simp [cat_rf, cat_int, cat_ref, cat_null, cat_long]) (fun ls hl => ?_)
  have hl : lv_has ls 4 [(3, va_rf v30), (2, va_rf v21), (0, .ref y0), (1, .int y1)] := hl
  refine lv_aload_nR hx hb d246_14 rfl (lv_at hl 0 rfl) ?_
  refine lv_ifnullR hx hb d246_15 rfl (fun h9 => ?_) (fun h9 => ?_)
  · have hF := Eq.mp (if_pos h9) hF
    exact b29 ls c26 s27 _ _ h31 z32 _ _ hF hc hs (hl.sub [] rfl) I
  · have hF := Eq.mp (if_neg h9) hF
    refine lv_aload_nR hx hb d246_18 rfl (lv_at hl 0 rfl) ?_
    obtain ⟨a33, e9, hF⟩ := hF
    refine W.eq (g2 := F0 m 19 ls [.ref a33]) (by rw [e9]; rfl) ?_
    clear e9
    obtain ⟨fs9, v34, c9, e9, hF⟩ := hF
    refine va_get (D := D) (ci := 8) (v := .int v34) (C := kR8) (T := kT8) (N := 9) hx hb hts ku8 hown hK (hm_one I.1 c9) 0 rfl rfl 0 (by decide) (hts _ ms_k442) (fun _ h => h) e9 d246_19 ?_
    clear e9 c9 fs9
    refine lv_aload_nR hx hb d246_22 rfl (lv_at hl 1 rfl) ?_
    refine ht_S (rest := []) (as := [.int v34, va_rf v21]) X hl (cw_Store_mayBecome l D dA s0 hE v34 v21 h31 z32 _ hF) (List.forall_mem_cons.mpr ⟨ms_k854, List.forall_mem_cons.mpr ⟨ms_k855, List.forall_mem_cons.mpr ⟨ms_k1, List.forall_mem_cons.mpr ⟨ms_k856, fun _ h => absurd h List.not_mem_nil⟩⟩⟩⟩) ⟨by decide +kernel, by decide +kernel, (by decide +kernel : (parseMethodDescriptor "(ILjava/lang/String;)Z").map (fun d => d.parameters.length) = some 2)⟩ I ⟨rfl, rfl⟩ ⟨⟨Nat.le_of_ble_eq_true rfl, Nat.le_of_ble_eq_true rfl⟩, rm_0 hc, rm_0 hs⟩ rfl (Nat.le_of_ble_eq_true rfl) d246_23 (fun vv h36 z37 H locs hR I9 => ?_)
    obtain ⟨v35, e1, hF⟩ := hR
    subst e1
    clear I
    have I := I9
    clear I9
    refine W.eq (g2 := F0 m 26 ls [.int v35]) rfl ?_
    refine lv_if_ne hx hb d246_26 rfl (fun h9 => ?_) (fun h9 => ?_)
    · have hF := Eq.mp (if_neg h9) hF
      refine lv_aload_nR hx hb d246_31 rfl (lv_at hl 0 rfl) ?_
      refine lv_aload_nR hx hb d246_32 rfl (lv_at hl 1 rfl) ?_
      obtain ⟨a38, e9, hF⟩ := hF
      refine W.eq (g2 := F0 m 33 ls [va_rf v21, .ref a38]) (by rw [e9]; rfl) ?_
      clear e9
      obtain ⟨fs9, c9, k9, hF⟩ := hF
      refine hm_put (ci := 8) (v := va_rf v21) (ty := (.object "java/lang/String")) (C := kR8) (T := kT8) (N := 9) X I ku8 kt8 kp8 kn8 c9 rfl 7 (by decide) ms_k470 (fun _ h => h) rfl (by decide +kernel) (by cases v21 <;> rfl) (by cases v21 <;> rfl) k9 d246_33 (fun h39 H locs e9 f9 I => ?_)
      rw [← hm_eqU e9 f9] at hF
      clear e9 f9 c9 k9
      refine lv_aload_n hx hb d246_36 rfl (lv_at hl 2 rfl) ?_
      refine lv_dup hx hb d246_37 rfl ?_
      obtain ⟨fs9, v40, c9, e9, hF⟩ := hF
      refine va_get (D := D) (ci := 0) (v := .int v40) (C := kR0) (T := kT0) (N := 6) hx hb hts ku0 hown hK (hm_one I.1 c9) 0 rfl rfl 5 (by decide) (hts _ ms_k110) (fun _ h => h) e9 d246_38 ?_
      clear e9 c9 fs9
      refine lv_iconst (v := 1) hx hb d246_41 (by decide) ?_
      refine lv_iadd hx hb d246_42 ?_
      obtain ⟨fs9, c9, k9, hF⟩ := hF
      refine hm_put (ci := 0) (v := .int (v40 + 1)) (ty := .int) (C := kR0) (T := kT0) (N := 6) X I ku0 kt0 kp0 kn0 c9 rfl 5 (by decide) ms_k110 (fun _ h => h) rfl (by decide +kernel) rfl rfl k9 d246_43 (fun h41 H locs e9 f9 I => ?_)
      rw [← hm_eqU e9 f9] at hF
      clear e9 f9 c9 k9
      refine lv_iconst (v := 1) hx hb d246_46 (by decide) ?_
      exact ht_zret X d246_47 I (rm_r hc) (rm_r hs) ⟨_, rfl, hF⟩ rfl
    · have hF := Eq.mp (if_pos h9) hF
      exact b29 ls c26 s27 _ _ h36 z37 _ _ hF hc hs (hl.sub [] rfl) I

def w_Store_joinNew (dA : Nat → ClassId) (y0 : Nat) (y1 : Option Nat) (y2 : Option Nat) (y3 : Option Nat) (rc rs : Nat) (K : Int32 → hm_T → hz_T → Prop) (h0 : hm_T) (z0 : hz_T) : Prop := (cg_d y2 (fun a21 => (jd_len z0 a21 (fun v22 => (cg_d y3 (fun a23 => (jd_len z0 a23 (fun v24 => (if (v22 + v24) ≤ 20 then (cg_c h0 0 y0 (cg_rm rc rs (fun c28 s29 c30 s31 => w_Store_joined dA y0 y2 y3 c28 s29 (fun v25 h26 z27 => (cg_d y1 (fun a32 => (cg_p h26 8 7 a32 (va_rf v25) (fun h33 => (cg_I h33 0 5 y0 (fun v34 => (cg_p h33 0 5 y0 (.int (v34 + 1)) (fun h35 => (cg_d y1 (fun a36 => (cg_I h35 8 5 a36 (fun v37 => (K v37 h35 z27)))))))))))))) h0 z0))) else (K (-2000) h0 z0))))))))))
set_option maxRecDepth 100000 in
set_option maxHeartbeats 8000000 in
theorem cw_Store_joinNew (l : Launch) (D : va_G) (dA : Nat → ClassId) (s0 : State) (hW : ms_EW D dA s0) (y0 : Nat) (y1 : Option Nat) (y2 : Option Nat) (y3 : Option Nat) (rc rs : Nat) (h0 : hm_T) (z0 : hz_T) (K : Int32 → hm_T → hz_T → Prop) (hg : w_Store_joinNew dA y0 y1 y2 y3 rc rs K h0 z0) : ht_C l D s0 yM247 bM247 4 (Option.some Jvm.ClassFile.FieldType.int) (7) (233) rc rs [.ref y0, va_rf y1, va_rf y2, va_rf y3] (fun h z => h = h0 ∧ z = z0) (fun h z vv h1 z1 => ∃ v, vv = some (.int v) ∧ K v h1 z1) := by
  have hE := hW.1
  refine ht_C.mk hE.1 (by decide) (by simp [lg_sl, cat_rf, cat_int, cat_ref, cat_null, cat_long]) [(0, .ref y0), (1, va_rf y1), (2, va_rf y2), (3, va_rf y3)] (by simp [lv_args, cat_rf, cat_int, cat_ref, cat_null, cat_long]) ?_
  intro p e s m below meth c ls h z X hin hpre I hl
  have hx := X.1
  have hb := X.2.1
  have hml := X.2.2.1
  have hown : s.vm.findClass "MarkupStore" = some m.cls := X.2.2.2.1
  have hts := X.2.2.2.2.2.2.1
  have hK := X.2.2.2.2.2.2.2.2.1
  rw [hpre.1, hpre.2] at I
  clear hpre
  have hF := hg
  unfold w_Store_joinNew at hF
  clear h z
  have hc : 0 + rc ≤ rc := by omega
  have hs : 0 + rs ≤ rs := by omega
  refine lv_aload_nR hx hb d247_0 rfl (lv_at hl 2 rfl) ?_
  obtain ⟨a21, e9, hF⟩ := hF
  refine W.eq (g2 := F0 m 1 ls [.ref a21]) (by rw [e9]; rfl) ?_
  clear e9
  obtain ⟨u9, xs9, z9, hF⟩ := hF
  refine ht_V (C := "java/lang/String") (rest := []) (as := []) X hl (c_Slen l D dA s0 hE a21 u9 xs9) (List.forall_mem_cons.mpr ⟨ms_k802, List.forall_mem_cons.mpr ⟨ms_k391, List.forall_mem_cons.mpr ⟨ms_k392, List.forall_mem_cons.mpr ⟨ms_k4, List.forall_mem_cons.mpr ⟨ms_k393, fun _ h => absurd h List.not_mem_nil⟩⟩⟩⟩⟩) ⟨rfl, by decide +kernel, by decide +kernel, (by decide +kernel : (parseMethodDescriptor "()I").map (fun d => d.parameters.length) = some 0)⟩ (hz_recv I z9) I z9 ⟨⟨Nat.le_of_ble_eq_true rfl, Nat.le_of_ble_eq_true rfl⟩, rm_0 hc, rm_0 hs⟩ rfl (Nat.le_of_ble_eq_true rfl) d247_1 (fun vv h9 z7 H locs hR I9 => ?_)
  obtain ⟨e1, e2, e3⟩ := hR
  rw [e2, e3] at I9
  subst e1
  clear I
  have I := I9
  clear I9 e2 e3 h9 z7
  refine W.eq (g2 := F0 m 4 ls [.int (nI xs9.length)]) rfl ?_
  generalize (nI xs9.length) = v22 at hF ⊢
  refine lv_aload_nR hx hb d247_4 rfl (lv_at hl 3 rfl) ?_
  obtain ⟨a23, e9, hF⟩ := hF
  refine W.eq (g2 := F0 m 5 ls [.ref a23, .int v22]) (by rw [e9]; rfl) ?_
  clear e9
  obtain ⟨u9, xs9, z9, hF⟩ := hF
  refine ht_V (C := "java/lang/String") (rest := [.int v22]) (as := []) X hl (c_Slen l D dA s0 hE a23 u9 xs9) (List.forall_mem_cons.mpr ⟨ms_k802, List.forall_mem_cons.mpr ⟨ms_k391, List.forall_mem_cons.mpr ⟨ms_k392, List.forall_mem_cons.mpr ⟨ms_k4, List.forall_mem_cons.mpr ⟨ms_k393, fun _ h => absurd h List.not_mem_nil⟩⟩⟩⟩⟩) ⟨rfl, by decide +kernel, by decide +kernel, (by decide +kernel : (parseMethodDescriptor "()I").map (fun d => d.parameters.length) = some 0)⟩ (hz_recv I z9) I z9 ⟨⟨Nat.le_of_ble_eq_true rfl, Nat.le_of_ble_eq_true rfl⟩, rm_0 hc, rm_0 hs⟩ rfl (Nat.le_of_ble_eq_true rfl) d247_5 (fun vv h9 z7 H locs hR I9 => ?_)
  obtain ⟨e1, e2, e3⟩ := hR
  rw [e2, e3] at I9
  subst e1
  clear I
  have I := I9
  clear I9 e2 e3 h9 z7
  refine W.eq (g2 := F0 m 8 ls [.int (nI xs9.length), .int v22]) rfl ?_
  generalize (nI xs9.length) = v24 at hF ⊢
  refine lv_iadd hx hb d247_8 ?_
  refine lv_bipush (v := 20) hx hb d247_9 (by decide) ?_
  refine lv_icmp_le hx hb d247_11 rfl (fun h9 => ?_) (fun h9 => ?_)
  · have hF := Eq.mp (if_pos h9) hF
    refine lv_aload_nR hx hb d247_18 rfl (lv_at hl 1 rfl) ?_
    refine lv_aload_n hx hb d247_19 rfl (lv_at hl 0 rfl) ?_
    refine lv_aload_nR hx hb d247_20 rfl (lv_at hl 2 rfl) ?_
    refine lv_aload_nR hx hb d247_21 rfl (lv_at hl 3 rfl) ?_
    obtain ⟨fs9, c9, hF⟩ := hF
    obtain ⟨c28, s29, c30, s31, ec, es, hF⟩ := hF
    refine ht_V (C := "MarkupStore") (rest := [va_rf y1]) (as := [va_rf y2, va_rf y3]) X hl (cw_Store_joined l D dA s0 hW y0 y2 y3 c28 s29 h0 z0 _ hF) (List.forall_mem_cons.mpr ⟨ms_k803, List.forall_mem_cons.mpr ⟨ms_k805, List.forall_mem_cons.mpr ⟨ms_p17, List.forall_mem_cons.mpr ⟨ms_k1, List.forall_mem_cons.mpr ⟨ms_k806, fun _ h => absurd h List.not_mem_nil⟩⟩⟩⟩⟩) ⟨rfl, by decide +kernel, by decide +kernel, (by decide +kernel : (parseMethodDescriptor "(Ljava/lang/String;Ljava/lang/String;)Ljava/lang/String;").map (fun d => d.parameters.length) = some 2)⟩ (hm_recv hK I rfl c9) I ⟨rfl, rfl⟩ ⟨⟨Nat.le_of_ble_eq_true rfl, Nat.le_of_ble_eq_true rfl⟩, (rm_u hc ec).1, (rm_u hs es).1⟩ rfl (by simp [cat_rf, cat_int, cat_ref, cat_null, cat_long]) d247_22 (fun vv h26 z27 H locs hR I9 => ?_)
    obtain ⟨v25, e1, hF⟩ := hR
    subst e1
    clear I
    have I := I9
    clear I9 c9 fs9
    have hc := (rm_u hc ec).2
    have hs := (rm_u hs es).2
    clear ec es
    refine W.eq (g2 := F0 m 25 ls [va_rf v25, va_rf y1]) rfl ?_
    obtain ⟨a32, e9, hF⟩ := hF
    refine W.eq (g2 := F0 m 25 ls [va_rf v25, .ref a32]) (by rw [e9]; rfl) ?_
    clear e9
    obtain ⟨fs9, c9, k9, hF⟩ := hF
    refine hm_put (ci := 8) (v := va_rf v25) (ty := (.object "java/lang/String")) (C := kR8) (T := kT8) (N := 9) X I ku8 kt8 kp8 kn8 c9 rfl 7 (by decide) ms_k470 (fun _ h => h) rfl (by decide +kernel) (by cases v25 <;> rfl) (by cases v25 <;> rfl) k9 d247_25 (fun h33 H locs e9 f9 I => ?_)
    rw [← hm_eqU e9 f9] at hF
    clear e9 f9 c9 k9
    refine lv_aload_n hx hb d247_28 rfl (lv_at hl 0 rfl) ?_
    refine lv_dup hx hb d247_29 rfl ?_
    obtain ⟨fs9, v34, c9, e9, hF⟩ := hF
    refine va_get (D := D) (ci := 0) (v := .int v34) (C := kR0) (T := kT0) (N := 6) hx hb hts ku0 hown hK (hm_one I.1 c9) 0 rfl rfl 5 (by decide) (hts _ ms_k110) (fun _ h => h) e9 d247_30 ?_
    clear e9 c9 fs9
    refine lv_iconst (v := 1) hx hb d247_33 (by decide) ?_
    refine lv_iadd hx hb d247_34 ?_
    obtain ⟨fs9, c9, k9, hF⟩ := hF
    refine hm_put (ci := 0) (v := .int (v34 + 1)) (ty := .int) (C := kR0) (T := kT0) (N := 6) X I ku0 kt0 kp0 kn0 c9 rfl 5 (by decide) ms_k110 (fun _ h => h) rfl (by decide +kernel) rfl rfl k9 d247_35 (fun h35 H locs e9 f9 I => ?_)
    rw [← hm_eqU e9 f9] at hF
    clear e9 f9 c9 k9
    refine lv_aload_nR hx hb d247_38 rfl (lv_at hl 1 rfl) ?_
    obtain ⟨a36, e9, hF⟩ := hF
    refine W.eq (g2 := F0 m 39 ls [.ref a36]) (by rw [e9]; rfl) ?_
    clear e9
    obtain ⟨fs9, v37, c9, e9, hF⟩ := hF
    refine va_get (D := D) (ci := 8) (v := .int v37) (C := kR8) (T := kT8) (N := 9) hx hb hts ku8 hown hK (hm_one I.1 c9) 0 rfl rfl 5 (by decide) (hts _ ms_k461) (fun _ h => h) e9 d247_39 ?_
    clear e9 c9 fs9
    exact ht_iret X d247_42 I (rm_r hc) (rm_r hs) ⟨_, rfl, hF⟩
  · have hF := Eq.mp (if_neg h9) hF
    refine lv_sipush (v := (-2000)) hx hb d247_14 (by decide) ?_
    exact ht_iret X d247_17 I (rm_r hc) (rm_r hs) ⟨_, rfl, hF⟩

def w_MarkupReader_make (dA : Nat → ClassId) (y0 : Nat) (y1 : Int32) (y2 : Option Nat) (y3 : Option Nat) (rc rs : Nat) (K : Option Nat → hm_T → hz_T → Prop) (h0 : hm_T) (z0 : hz_T) : Prop := (cg_new h0 rc rs 8 9 [.int 0, .null, .int 0, .null, .null, .int 0, .int 0, .null, .null] (fun q21 c23 s24 h22 => (cg_c h22 8 q21 (cg_rm c23 s24 (fun c28 s29 c30 s31 => w_Node_init dA q21 y1 y2 y3 c28 s29 (fun h26 z27 => (cg_R h26 6 3 y0 (fun v32 => (cg_d v32 (fun a33 => (cg_c h26 4 a33 (cg_rm c30 s31 (fun c37 s38 c39 s40 => w_AL_add dA a33 (some q21) c37 s38 (fun v34 h35 z36 => (K (some q21) h35 z36)) h26 z27)))))))) h22 z0)))))
set_option maxRecDepth 100000 in
set_option maxHeartbeats 8000000 in
theorem cw_MarkupReader_make (l : Launch) (D : va_G) (dA : Nat → ClassId) (s0 : State) (hW : ms_EW D dA s0) (y0 : Nat) (y1 : Int32) (y2 : Option Nat) (y3 : Option Nat) (rc rs : Nat) (h0 : hm_T) (z0 : hz_T) (K : Option Nat → hm_T → hz_T → Prop) (hg : w_MarkupReader_make dA y0 y1 y2 y3 rc rs K h0 z0) : ht_C l D s0 yM248 bM248 5 (Option.some (Jvm.ClassFile.FieldType.object "MarkupStore$Node")) (7) (231) rc rs [.ref y0, .int y1, va_rf y2, va_rf y3] (fun h z => h = h0 ∧ z = z0) (fun h z vv h1 z1 => ∃ v, vv = some (va_rf v) ∧ K v h1 z1) := by
  have hE := hW.1
  refine ht_C.mk hE.1 (by decide) (by simp [lg_sl, cat_rf, cat_int, cat_ref, cat_null, cat_long]) [(0, .ref y0), (1, .int y1), (2, va_rf y2), (3, va_rf y3)] (by simp [lv_args, cat_rf, cat_int, cat_ref, cat_null, cat_long]) ?_
  intro p e s m below meth c ls h z X hin hpre I hl
  have hx := X.1
  have hb := X.2.1
  have hml := X.2.2.1
  have hown : s.vm.findClass "MarkupStore$MarkupReader" = some m.cls := X.2.2.2.1
  have hts := X.2.2.2.2.2.2.1
  have hK := X.2.2.2.2.2.2.2.2.1
  rw [hpre.1, hpre.2] at I
  clear hpre
  have hF := hg
  unfold w_MarkupReader_make at hF
  clear h z
  have hc : 0 + rc ≤ rc := by omega
  have hs : 0 + rs ≤ rs := by omega
  obtain ⟨c23, s24, ec, es, hF⟩ := hF
  refine hm_mk (ci := 8) (fs := [.int 0, .null, .int 0, .null, .null, .int 0, .int 0, .null, .null]) (C := kR8) (T := kT8) (N := 9) X I ku8 kt8 kp8 (List.forall_mem_cons.mpr ⟨ms_k430, List.forall_mem_cons.mpr ⟨ms_k431, List.forall_mem_cons.mpr ⟨ms_k19, fun _ h => absurd h List.not_mem_nil⟩⟩⟩) rfl kz8 (rm_u hc ec).1 (rm_u hs es).1 d248_0 (fun q21 h22 H v9 e9 f9 I => ?_)
  have hF := hF q21 v9
  rw [← hm_eqU e9 f9] at hF
  clear e9 f9 v9
  have hc := (rm_u hc ec).2
  have hs := (rm_u hs es).2
  clear ec es
  refine lv_dup hx hb d248_3 rfl ?_
  refine lv_iload_n hx hb d248_4 rfl (lv_at hl 1 rfl) ?_
  refine lv_aload_nR hx hb d248_5 rfl (lv_at hl 2 rfl) ?_
  refine lv_aload_nR hx hb d248_6 rfl (lv_at hl 3 rfl) ?_
  obtain ⟨fs9, c9, hF⟩ := hF
  obtain ⟨c28, s29, c30, s31, ec, es, hF⟩ := hF
  refine ht_I (rest := [.ref q21]) (as := [.int y1, va_rf y2, va_rf y3]) X hl (cw_Node_init l D dA s0 hW q21 y1 y2 y3 c28 s29 h22 z0 _ hF) (List.forall_mem_cons.mpr ⟨ms_k432, List.forall_mem_cons.mpr ⟨ms_k433, List.forall_mem_cons.mpr ⟨ms_k19, List.forall_mem_cons.mpr ⟨ms_k434, fun _ h => absurd h List.not_mem_nil⟩⟩⟩⟩) rfl ⟨by decide +kernel, by decide +kernel, (by decide +kernel : (parseMethodDescriptor "(ILMarkupStore$Node;[I)V").map (fun d => d.parameters.length) = some 3)⟩ I ⟨rfl, rfl⟩ ⟨⟨Nat.le_of_ble_eq_true rfl, Nat.le_of_ble_eq_true rfl⟩, (rm_u hc ec).1, (rm_u hs es).1⟩ rfl (Nat.le_of_ble_eq_true rfl) d248_7 (fun vv h26 z27 H locs hR I9 => ?_)
  obtain ⟨e1, hF⟩ := hR
  subst e1
  clear I
  have I := I9
  clear I9 c9 fs9
  have hc := (rm_u hc ec).2
  have hs := (rm_u hs es).2
  clear ec es
  refine W.eq (g2 := F0 m 10 ls [.ref q21]) rfl ?_
  refine lv_astore (i := 4) hx hb d248_10 hl (by decide) (show _ = [(4, .ref q21), (0, .ref y0), (1, .int y1), (2, va_rf y2), (3, va_rf y3)] by simp [cat_rf, cat_int, cat_ref, cat_null, cat_long]) (fun ls hl => ?_)
  have hl : lv_has ls 5 [(4, .ref q21), (0, .ref y0), (1, .int y1), (2, va_rf y2), (3, va_rf y3)] := hl
  refine lv_aload_n hx hb d248_12 rfl (lv_at hl 1 rfl) ?_
  obtain ⟨fs9, v32, c9, e9, hF⟩ := hF
  refine va_get (D := D) (ci := 6) (v := va_rf v32) (C := kR6) (T := kT6) (N := 6) hx hb hts ku6 hown hK (hm_one I.1 c9) 0 rfl rfl 3 (by decide) (hts _ ms_k348) (fun _ h => h) e9 d248_13 ?_
  clear e9 c9 fs9
  refine lv_aload hx hb d248_16 (lv_at hl 0 rfl) ?_
  obtain ⟨a33, e9, hF⟩ := hF
  refine W.eq (g2 := F0 m 18 ls [.ref q21, .ref a33]) (by rw [e9]; rfl) ?_
  clear e9
  obtain ⟨fs9, c9, hF⟩ := hF
  obtain ⟨c37, s38, c39, s40, ec, es, hF⟩ := hF
  refine ht_V (C := "java/util/ArrayList") (rest := []) (as := [.ref q21]) X hl (cw_AL_add l D dA s0 hW a33 (some q21) c37 s38 h26 z27 _ hF) (List.forall_mem_cons.mpr ⟨ms_k494, List.forall_mem_cons.mpr ⟨ms_k495, List.forall_mem_cons.mpr ⟨ms_k496, List.forall_mem_cons.mpr ⟨ms_k18, List.forall_mem_cons.mpr ⟨ms_k497, fun _ h => absurd h List.not_mem_nil⟩⟩⟩⟩⟩) ⟨rfl, by decide +kernel, by decide +kernel, (by decide +kernel : (parseMethodDescriptor "(Ljava/lang/Object;)Z").map (fun d => d.parameters.length) = some 1)⟩ (hm_recv hK I rfl c9) I ⟨rfl, rfl⟩ ⟨⟨Nat.le_of_ble_eq_true rfl, Nat.le_of_ble_eq_true rfl⟩, (rm_u hc ec).1, (rm_u hs es).1⟩ rfl (Nat.le_of_ble_eq_true rfl) d248_18 (fun vv h35 z36 H locs hR I9 => ?_)
  obtain ⟨v34, e1, hF⟩ := hR
  subst e1
  clear I
  have I := I9
  clear I9 c9 fs9
  have hc := (rm_u hc ec).2
  have hs := (rm_u hs es).2
  clear ec es
  refine W.eq (g2 := F0 m 21 ls [.int v34]) rfl ?_
  refine lv_pop hx hb d248_21 rfl ?_
  refine lv_aload hx hb d248_22 (lv_at hl 0 rfl) ?_
  exact ht_aret X d248_24 I (rm_r hc) (rm_r hs) ⟨(some q21), rfl, hF⟩ (Or.inl ⟨_, rfl⟩) (Or.inr ⟨_, rfl⟩)

def w_MarkupReader_readContent_66 (dA : Nat → ClassId) (P : Nat → Option Nat → Option Nat → Nat → Nat → (Int32 → hm_T → hz_T → Prop) → hm_T → hz_T → Prop) (y0 : Nat) (K : Int32 → hm_T → hz_T → Prop) (k2 : Option Nat → Int32 → Nat → Nat → hm_T → hz_T → Prop) (x1 : Option Nat) (x2 : Int32) (cr sr : Nat) (h : hm_T) (z : hz_T) : Prop := (cg_d x1 (fun a36 => (cg_c h 8 a36 (cg_rm cr sr (fun c40 s41 c42 s43 => w_Node_labelOfChild dA a36 x2 c40 s41 (fun v37 h38 z39 => (cg_c h38 6 y0 (cg_rm c42 s43 (fun c47 s48 c49 s50 => P y0 x1 v37 c47 s48 (fun v44 h45 z46 => (if v44 = 0 then (K 0 h45 z46) else (k2 x1 (x2 + 1) c49 s50 h45 z46))) h38 z39)))) h z)))))
def w_MarkupReader_readContent_2 (dA : Nat → ClassId) (P : Nat → Option Nat → Option Nat → Nat → Nat → (Int32 → hm_T → hz_T → Prop) → hm_T → hz_T → Prop) (y0 : Nat) (K : Int32 → hm_T → hz_T → Prop) : Nat → Option Nat → Int32 → Nat → Nat → hm_T → hz_T → Prop
  | 0, _, _, _, _, _, _ => False
  | n9 + 1, x1, x2, cr, sr, h, z => (cg_R h 6 0 y0 (fun v21 => (cg_d v21 (fun a22 => (jd_len z a22 (fun v23 => (if v23 ≤ x2 then (cg_I h 6 1 y0 (fun v24 => (cg_c h 6 y0 (w_TextReader_failAt6 dA y0 v24 (fun v25 h26 z27 => (cg_z v25 (K v25 h26 z27))) h z)))) else (cg_I h 6 1 y0 (fun v28 => (cg_R h 6 0 y0 (fun v29 => (cg_d v29 (fun a30 => (jd_len z a30 (fun v31 => (if v28 = v31 then (cg_I h 6 1 y0 (fun v55 => (cg_c h 6 y0 (w_TextReader_failAt6 dA y0 v55 (fun v56 h57 z58 => (cg_z v56 (K v56 h57 z58))) h z)))) else (cg_I h 6 1 y0 (fun v32 => (cg_c h 6 y0 (w_TextReader_seen6 dA y0 v32 (fun v33 h34 z35 => (if v33 = 60 then (cg_I h34 6 1 y0 (fun v51 => (cg_c h34 6 y0 (w_TextReader_seen6 dA y0 (v51 + 1) (fun v52 h53 z54 => (if v52 = 47 then (K 1 h53 z54) else (w_MarkupReader_readContent_66 dA P y0 K (w_MarkupReader_readContent_2 dA P y0 K n9) x1 x2 cr sr h53 z54))) h34 z35)))) else (w_MarkupReader_readContent_66 dA P y0 K (w_MarkupReader_readContent_2 dA P y0 K n9) x1 x2 cr sr h34 z35))) h z))))))))))))))))))))
def w_MarkupReader_readContent (dA : Nat → ClassId) (P : Nat → Option Nat → Option Nat → Nat → Nat → (Int32 → hm_T → hz_T → Prop) → hm_T → hz_T → Prop) (y0 : Nat) (y1 : Option Nat) (rc rs : Nat) (K : Int32 → hm_T → hz_T → Prop) (h0 : hm_T) (z0 : hz_T) : Prop := (w_MarkupReader_readContent_2 dA P y0 K mF y1 0 rc rs h0 z0)
set_option maxRecDepth 100000 in
set_option maxHeartbeats 8000000 in
theorem cw_MarkupReader_readContent (l : Launch) (D : va_G) (dA : Nat → ClassId) (s0 : State) (hW : ms_EW D dA s0) (P : Nat → Option Nat → Option Nat → Nat → Nat → (Int32 → hm_T → hz_T → Prop) → hm_T → hz_T → Prop) (fP lP : Nat) (hP : ∀ (a0_ : Nat) (a1_ : Option Nat) (a2_ : Option Nat) (c1 s1 : Nat) (h0 : hm_T) (z0 : hz_T) (K : Int32 → hm_T → hz_T → Prop), P a0_ a1_ a2_ c1 s1 K h0 z0 → ht_C l D s0 yM250 bM250 4 (Option.some Jvm.ClassFile.FieldType.boolean) fP lP c1 s1 [.ref a0_, va_rf a1_, va_rf a2_] (fun h z => h = h0 ∧ z = z0) (fun h z vv h1 z1 => ∃ v, vv = some (.int v) ∧ K v h1 z1)) (y0 : Nat) (y1 : Option Nat) (rc rs : Nat) (h0 : hm_T) (z0 : hz_T) (K : Int32 → hm_T → hz_T → Prop) (hg : w_MarkupReader_readContent dA P y0 y1 rc rs K h0 z0) : ht_C l D s0 yM249 bM249 3 (Option.some Jvm.ClassFile.FieldType.boolean) (fP + 5) (lP + 144) rc rs [.ref y0, va_rf y1] (fun h z => h = h0 ∧ z = z0) (fun h z vv h1 z1 => ∃ v, vv = some (.int v) ∧ K v h1 z1) := by
  have hE := hW.1
  refine ht_C.mk hE.1 (by decide) (by simp [lg_sl, cat_rf, cat_int, cat_ref, cat_null, cat_long]) [(0, .ref y0), (1, va_rf y1)] (by simp [lv_args, cat_rf, cat_int, cat_ref, cat_null, cat_long]) ?_
  intro p e s m below meth c ls h z X hin hpre I hl
  have hx := X.1
  have hb := X.2.1
  have hml := X.2.2.1
  have hown : s.vm.findClass "MarkupStore$MarkupReader" = some m.cls := X.2.2.2.1
  have hts := X.2.2.2.2.2.2.1
  have hK := X.2.2.2.2.2.2.2.2.1
  rw [hpre.1, hpre.2] at I
  clear hpre
  have b66 : ∀ (k2 : Option Nat → Int32 → Nat → Nat → hm_T → hz_T → Prop), (∀ (ls : Array Slot) (x1 : Option Nat) (x2 : Int32) (cr sr cu su : Nat) (h : hm_T) (z : hz_T) (H : Heap) (locs : List Loc), k2 x1 x2 cr sr h z → cu + cr ≤ rc → su + sr ≤ rs → lv_has ls 3 [(0, .ref y0), (1, va_rf x1), (2, .int x2)] → hm_I D s0 s h z H locs → W p l e { frames := fP + 5, cells := rc, slots := rs, locals := lP + 144 } s m ([.ref y0, va_rf y1] : List Value).toArray below meth c H locs cu su (MQ below (ht_Q D s0 (fun vv h1 z1 => ∃ v, vv = some (.int v) ∧ K v h1 z1)) ([.ref y0, va_rf y1] : List Value).toArray s rc rs (fun q => s0.heap.size ≤ q)) (F0 m 2 ls [])) → ∀ (ls : Array Slot) (x1 : Option Nat) (x2 : Int32) (cr sr cu su : Nat) (h : hm_T) (z : hz_T) (H : Heap) (locs : List Loc), w_MarkupReader_readContent_66 dA P y0 K k2 x1 x2 cr sr h z → cu + cr ≤ rc → su + sr ≤ rs → lv_has ls 3 [(0, .ref y0), (1, va_rf x1), (2, .int x2)] → hm_I D s0 s h z H locs → W p l e { frames := fP + 5, cells := rc, slots := rs, locals := lP + 144 } s m ([.ref y0, va_rf y1] : List Value).toArray below meth c H locs cu su (MQ below (ht_Q D s0 (fun vv h1 z1 => ∃ v, vv = some (.int v) ∧ K v h1 z1)) ([.ref y0, va_rf y1] : List Value).toArray s rc rs (fun q => s0.heap.size ≤ q)) (F0 m 66 ls []) := by
    intro k2 hk2 ls x1 x2 cr sr cu su h z H locs hF hc hs hl I
    unfold w_MarkupReader_readContent_66 at hF
    refine lv_aload_n hx hb d249_66 rfl (lv_at hl 0 rfl) ?_
    refine lv_aload_nR hx hb d249_67 rfl (lv_at hl 1 rfl) ?_
    refine lv_aload_nR hx hb d249_68 rfl (lv_at hl 1 rfl) ?_
    refine lv_iload_n hx hb d249_69 rfl (lv_at hl 2 rfl) ?_
    obtain ⟨a36, e9, hF⟩ := hF
    refine W.eq (g2 := F0 m 70 ls [.int x2, .ref a36, va_rf x1, .ref y0]) (by rw [e9]; rfl) ?_
    clear e9
    obtain ⟨fs9, c9, hF⟩ := hF
    obtain ⟨c40, s41, c42, s43, ec, es, hF⟩ := hF
    refine ht_V (C := "MarkupStore$Node") (rest := [va_rf x1, .ref y0]) (as := [.int x2]) X hl (cw_Node_labelOfChild l D dA s0 hW a36 x2 c40 s41 h z _ hF) (List.forall_mem_cons.mpr ⟨ms_k674, List.forall_mem_cons.mpr ⟨ms_k675, List.forall_mem_cons.mpr ⟨ms_k676, List.forall_mem_cons.mpr ⟨ms_k19, List.forall_mem_cons.mpr ⟨ms_k677, fun _ h => absurd h List.not_mem_nil⟩⟩⟩⟩⟩) ⟨rfl, by decide +kernel, by decide +kernel, (by decide +kernel : (parseMethodDescriptor "(I)[I").map (fun d => d.parameters.length) = some 1)⟩ (hm_recv hK I rfl c9) I ⟨rfl, rfl⟩ ⟨⟨by show _ ≤ fP + 5; omega, by show _ ≤ lP + 144; omega⟩, (rm_u hc ec).1, (rm_u hs es).1⟩ rfl (by simp [cat_rf, cat_int, cat_ref, cat_null, cat_long]) d249_70 (fun vv h38 z39 H locs hR I9 => ?_)
    obtain ⟨v37, e1, hF⟩ := hR
    subst e1
    clear I
    have I := I9
    clear I9 c9 fs9
    have hc := (rm_u hc ec).2
    have hs := (rm_u hs es).2
    clear ec es
    refine W.eq (g2 := F0 m 73 ls [va_rf v37, va_rf x1, .ref y0]) rfl ?_
    obtain ⟨fs9, c9, hF⟩ := hF
    obtain ⟨c47, s48, c49, s50, ec, es, hF⟩ := hF
    refine ht_V (C := "MarkupStore$MarkupReader") (rest := []) (as := [va_rf x1, va_rf v37]) X hl (hP y0 x1 v37 c47 s48 h38 z39 _ hF) (List.forall_mem_cons.mpr ⟨ms_k686, List.forall_mem_cons.mpr ⟨ms_k688, List.forall_mem_cons.mpr ⟨ms_p11, List.forall_mem_cons.mpr ⟨ms_k15, List.forall_mem_cons.mpr ⟨ms_k689, fun _ h => absurd h List.not_mem_nil⟩⟩⟩⟩⟩) ⟨rfl, by decide +kernel, by decide +kernel, (by decide +kernel : (parseMethodDescriptor "(LMarkupStore$Node;[I)Z").map (fun d => d.parameters.length) = some 2)⟩ (hm_recv hK I rfl c9) I ⟨rfl, rfl⟩ ⟨⟨by show _ ≤ fP + 5; omega, by show _ ≤ lP + 144; omega⟩, (rm_u hc ec).1, (rm_u hs es).1⟩ rfl (Nat.le_of_ble_eq_true rfl) d249_73 (fun vv h45 z46 H locs hR I9 => ?_)
    obtain ⟨v44, e1, hF⟩ := hR
    subst e1
    clear I
    have I := I9
    clear I9 c9 fs9
    have hc := (rm_u hc ec).2
    have hs := (rm_u hs es).2
    clear ec es
    refine W.eq (g2 := F0 m 76 ls [.int v44]) rfl ?_
    refine lv_if_ne hx hb d249_76 rfl (fun h9 => ?_) (fun h9 => ?_)
    · have hF := Eq.mp (if_neg h9) hF
      refine lv_iinc (k := 2) (v := (x2 + 1)) hx hb d249_81 hl rfl (rfl) (by decide) (show _ = [(2, .int (x2 + 1)), (0, .ref y0), (1, va_rf x1)] by simp [cat_rf, cat_int, cat_ref, cat_null, cat_long]) (fun ls hl => ?_)
      have hl : lv_has ls 3 [(2, .int (x2 + 1)), (0, .ref y0), (1, va_rf x1)] := hl
      refine lv_goto hx hb d249_84 rfl ?_
      exact hk2 ls x1 (x2 + 1) c49 s50 _ _ h45 z46 _ _ hF hc hs (hl.sub [1, 2, 0] rfl) I
    · have hF := Eq.mp (if_pos h9) hF
      refine lv_iconst (v := 0) hx hb d249_79 (by decide) ?_
      exact ht_zret X d249_80 I (rm_r hc) (rm_r hs) ⟨_, rfl, hF⟩ rfl
  have b2 : ∀ n9 : Nat, ∀ (ls : Array Slot) (x1 : Option Nat) (x2 : Int32) (cr sr cu su : Nat) (h : hm_T) (z : hz_T) (H : Heap) (locs : List Loc), w_MarkupReader_readContent_2 dA P y0 K n9 x1 x2 cr sr h z → cu + cr ≤ rc → su + sr ≤ rs → lv_has ls 3 [(0, .ref y0), (1, va_rf x1), (2, .int x2)] → hm_I D s0 s h z H locs → W p l e { frames := fP + 5, cells := rc, slots := rs, locals := lP + 144 } s m ([.ref y0, va_rf y1] : List Value).toArray below meth c H locs cu su (MQ below (ht_Q D s0 (fun vv h1 z1 => ∃ v, vv = some (.int v) ∧ K v h1 z1)) ([.ref y0, va_rf y1] : List Value).toArray s rc rs (fun q => s0.heap.size ≤ q)) (F0 m 2 ls []) := by
    intro n9
    induction n9 with
    | zero => intro ls x1 x2 cr sr cu su h z H locs hF; cases hF
    | succ n9 hk2 =>
    intro ls x1 x2 cr sr cu su h z H locs hF hc hs hl I
    unfold w_MarkupReader_readContent_2 at hF
    refine lv_iload_n hx hb d249_2 rfl (lv_at hl 2 rfl) ?_
    refine lv_aload_n hx hb d249_3 rfl (lv_at hl 0 rfl) ?_
    obtain ⟨fs9, v21, c9, e9, hF⟩ := hF
    refine va_get (D := D) (ci := 6) (v := va_rf v21) (C := kR6) (T := kT6) (N := 6) hx hb hts ku6 hown hK (hm_one I.1 c9) 0 rfl rfl 0 (by decide) (hts _ ms_k355) (fun x9 h9 => u_same (hts _ ms_k356) x9 h9) e9 d249_4 ?_
    clear e9 c9 fs9
    obtain ⟨a22, e9, hF⟩ := hF
    refine W.eq (g2 := F0 m 7 ls [.ref a22, .int x2]) (by rw [e9]; rfl) ?_
    clear e9
    obtain ⟨u9, xs9, z9, hF⟩ := hF
    refine ht_V (C := "java/lang/String") (rest := [.int x2]) (as := []) X hl (c_Slen l D dA s0 hE a22 u9 xs9) (List.forall_mem_cons.mpr ⟨ms_k579, List.forall_mem_cons.mpr ⟨ms_k391, List.forall_mem_cons.mpr ⟨ms_k392, List.forall_mem_cons.mpr ⟨ms_k4, List.forall_mem_cons.mpr ⟨ms_k393, fun _ h => absurd h List.not_mem_nil⟩⟩⟩⟩⟩) ⟨rfl, by decide +kernel, by decide +kernel, (by decide +kernel : (parseMethodDescriptor "()I").map (fun d => d.parameters.length) = some 0)⟩ (hz_recv I z9) I z9 ⟨⟨by show _ ≤ fP + 5; omega, by show _ ≤ lP + 144; omega⟩, rm_0 hc, rm_0 hs⟩ rfl (Nat.le_of_ble_eq_true rfl) d249_7 (fun vv h9 z7 H locs hR I9 => ?_)
    obtain ⟨e1, e2, e3⟩ := hR
    rw [e2, e3] at I9
    subst e1
    clear I
    have I := I9
    clear I9 e2 e3 h9 z7
    refine W.eq (g2 := F0 m 10 ls [.int (nI xs9.length), .int x2]) rfl ?_
    generalize (nI xs9.length) = v23 at hF ⊢
    refine lv_icmp_ge hx hb d249_10 rfl (fun h9 => ?_) (fun h9 => ?_)
    · have hF := Eq.mp (if_pos h9) hF
      refine lv_aload_n hx hb d249_87 rfl (lv_at hl 0 rfl) ?_
      refine lv_aload_n hx hb d249_88 rfl (lv_at hl 0 rfl) ?_
      obtain ⟨fs9, v24, c9, e9, hF⟩ := hF
      refine va_get (D := D) (ci := 6) (v := .int v24) (C := kR6) (T := kT6) (N := 6) hx hb hts ku6 hown hK (hm_one I.1 c9) 0 rfl rfl 1 (by decide) (hts _ ms_k360) (fun x9 h9 => u_same (hts _ ms_k361) x9 h9) e9 d249_89 ?_
      clear e9 c9 fs9
      obtain ⟨fs9, c9, hF⟩ := hF
      refine ht_U (C := "MarkupStore$MarkupReader") (x := ⟨"MarkupStore$MarkupReader", "failAt", "(I)Z"⟩) (owner := "MarkupStore$TextReader") (rest := []) (as := [.int v24]) X hl (cw_TextReader_failAt6 l D dA s0 hE y0 v24 h z _ hF) (List.forall_mem_cons.mpr ⟨ms_k413, List.forall_mem_cons.mpr ⟨ms_k414, List.forall_mem_cons.mpr ⟨ms_k416, List.forall_mem_cons.mpr ⟨ms_k417, List.forall_mem_cons.mpr ⟨ms_k14, List.forall_mem_cons.mpr ⟨ms_k418, fun _ h => absurd h List.not_mem_nil⟩⟩⟩⟩⟩⟩) rfl ⟨by decide +kernel, by decide +kernel, (by decide +kernel : (parseMethodDescriptor "(I)Z").map (fun d => d.parameters.length) = some 1)⟩ (hm_recv hK I rfl c9) I ⟨rfl, rfl⟩ ⟨⟨by show _ ≤ fP + 5; omega, by show _ ≤ lP + 144; omega⟩, rm_0 hc, rm_0 hs⟩ rfl (Nat.le_of_ble_eq_true rfl) d249_92 (fun vv h26 z27 H locs hR I9 => ?_)
      obtain ⟨v25, e1, hF⟩ := hR
      subst e1
      clear I
      have I := I9
      clear I9 c9 fs9
      refine W.eq (g2 := F0 m 95 ls [.int v25]) rfl ?_
      obtain ⟨hz9, hF⟩ := hF
      exact ht_zret X d249_95 I (rm_r hc) (rm_r hs) ⟨_, rfl, hF⟩ (cg_zn hz9).1
    · have hF := Eq.mp (if_neg h9) hF
      refine lv_aload_n hx hb d249_13 rfl (lv_at hl 0 rfl) ?_
      obtain ⟨fs9, v28, c9, e9, hF⟩ := hF
      refine va_get (D := D) (ci := 6) (v := .int v28) (C := kR6) (T := kT6) (N := 6) hx hb hts ku6 hown hK (hm_one I.1 c9) 0 rfl rfl 1 (by decide) (hts _ ms_k360) (fun x9 h9 => u_same (hts _ ms_k361) x9 h9) e9 d249_14 ?_
      clear e9 c9 fs9
      refine lv_aload_n hx hb d249_17 rfl (lv_at hl 0 rfl) ?_
      obtain ⟨fs9, v29, c9, e9, hF⟩ := hF
      refine va_get (D := D) (ci := 6) (v := va_rf v29) (C := kR6) (T := kT6) (N := 6) hx hb hts ku6 hown hK (hm_one I.1 c9) 0 rfl rfl 0 (by decide) (hts _ ms_k355) (fun x9 h9 => u_same (hts _ ms_k356) x9 h9) e9 d249_18 ?_
      clear e9 c9 fs9
      obtain ⟨a30, e9, hF⟩ := hF
      refine W.eq (g2 := F0 m 21 ls [.ref a30, .int v28]) (by rw [e9]; rfl) ?_
      clear e9
      obtain ⟨u9, xs9, z9, hF⟩ := hF
      refine ht_V (C := "java/lang/String") (rest := [.int v28]) (as := []) X hl (c_Slen l D dA s0 hE a30 u9 xs9) (List.forall_mem_cons.mpr ⟨ms_k579, List.forall_mem_cons.mpr ⟨ms_k391, List.forall_mem_cons.mpr ⟨ms_k392, List.forall_mem_cons.mpr ⟨ms_k4, List.forall_mem_cons.mpr ⟨ms_k393, fun _ h => absurd h List.not_mem_nil⟩⟩⟩⟩⟩) ⟨rfl, by decide +kernel, by decide +kernel, (by decide +kernel : (parseMethodDescriptor "()I").map (fun d => d.parameters.length) = some 0)⟩ (hz_recv I z9) I z9 ⟨⟨by show _ ≤ fP + 5; omega, by show _ ≤ lP + 144; omega⟩, rm_0 hc, rm_0 hs⟩ rfl (Nat.le_of_ble_eq_true rfl) d249_21 (fun vv h9 z7 H locs hR I9 => ?_)
      obtain ⟨e1, e2, e3⟩ := hR
      rw [e2, e3] at I9
      subst e1
      clear I
      have I := I9
      clear I9 e2 e3 h9 z7
      refine W.eq (g2 := F0 m 24 ls [.int (nI xs9.length), .int v28]) rfl ?_
      generalize (nI xs9.length) = v31 at hF ⊢
      refine lv_icmp_ne hx hb d249_24 rfl (fun h9 => ?_) (fun h9 => ?_)
      · have hF := Eq.mp (if_neg h9) hF
        refine lv_aload_n hx hb d249_36 rfl (lv_at hl 0 rfl) ?_
        refine lv_aload_n hx hb d249_37 rfl (lv_at hl 0 rfl) ?_
        obtain ⟨fs9, v32, c9, e9, hF⟩ := hF
        refine va_get (D := D) (ci := 6) (v := .int v32) (C := kR6) (T := kT6) (N := 6) hx hb hts ku6 hown hK (hm_one I.1 c9) 0 rfl rfl 1 (by decide) (hts _ ms_k360) (fun x9 h9 => u_same (hts _ ms_k361) x9 h9) e9 d249_38 ?_
        clear e9 c9 fs9
        obtain ⟨fs9, c9, hF⟩ := hF
        refine ht_U (C := "MarkupStore$MarkupReader") (x := ⟨"MarkupStore$MarkupReader", "seen", "(I)C"⟩) (owner := "MarkupStore$TextReader") (rest := []) (as := [.int v32]) X hl (cw_TextReader_seen6 l D dA s0 hE y0 v32 h z _ hF) (List.forall_mem_cons.mpr ⟨ms_k384, List.forall_mem_cons.mpr ⟨ms_k385, List.forall_mem_cons.mpr ⟨ms_k387, List.forall_mem_cons.mpr ⟨ms_k388, List.forall_mem_cons.mpr ⟨ms_k14, List.forall_mem_cons.mpr ⟨ms_k389, fun _ h => absurd h List.not_mem_nil⟩⟩⟩⟩⟩⟩) rfl ⟨by decide +kernel, by decide +kernel, (by decide +kernel : (parseMethodDescriptor "(I)C").map (fun d => d.parameters.length) = some 1)⟩ (hm_recv hK I rfl c9) I ⟨rfl, rfl⟩ ⟨⟨by show _ ≤ fP + 5; omega, by show _ ≤ lP + 144; omega⟩, rm_0 hc, rm_0 hs⟩ rfl (Nat.le_of_ble_eq_true rfl) d249_41 (fun vv h34 z35 H locs hR I9 => ?_)
        obtain ⟨v33, e1, hF⟩ := hR
        subst e1
        clear I
        have I := I9
        clear I9 c9 fs9
        refine W.eq (g2 := F0 m 44 ls [.int v33]) rfl ?_
        refine lv_bipush (v := 60) hx hb d249_44 (by decide) ?_
        refine lv_icmp_ne hx hb d249_46 rfl (fun h9 => ?_) (fun h9 => ?_)
        · have hF := Eq.mp (if_neg h9) hF
          exact b66 (w_MarkupReader_readContent_2 dA P y0 K n9) hk2 ls x1 x2 cr sr _ _ h34 z35 _ _ hF hc hs (hl.sub [0, 1, 2] rfl) I
        · have hF := Eq.mp (if_pos h9) hF
          refine lv_aload_n hx hb d249_49 rfl (lv_at hl 0 rfl) ?_
          refine lv_aload_n hx hb d249_50 rfl (lv_at hl 0 rfl) ?_
          obtain ⟨fs9, v51, c9, e9, hF⟩ := hF
          refine va_get (D := D) (ci := 6) (v := .int v51) (C := kR6) (T := kT6) (N := 6) hx hb hts ku6 hown hK (hm_one I.1 c9) 0 rfl rfl 1 (by decide) (hts _ ms_k360) (fun x9 h9 => u_same (hts _ ms_k361) x9 h9) e9 d249_51 ?_
          clear e9 c9 fs9
          refine lv_iconst (v := 1) hx hb d249_54 (by decide) ?_
          refine lv_iadd hx hb d249_55 ?_
          obtain ⟨fs9, c9, hF⟩ := hF
          refine ht_U (C := "MarkupStore$MarkupReader") (x := ⟨"MarkupStore$MarkupReader", "seen", "(I)C"⟩) (owner := "MarkupStore$TextReader") (rest := []) (as := [.int (v51 + 1)]) X hl (cw_TextReader_seen6 l D dA s0 hE y0 (v51 + 1) h34 z35 _ hF) (List.forall_mem_cons.mpr ⟨ms_k384, List.forall_mem_cons.mpr ⟨ms_k385, List.forall_mem_cons.mpr ⟨ms_k387, List.forall_mem_cons.mpr ⟨ms_k388, List.forall_mem_cons.mpr ⟨ms_k14, List.forall_mem_cons.mpr ⟨ms_k389, fun _ h => absurd h List.not_mem_nil⟩⟩⟩⟩⟩⟩) rfl ⟨by decide +kernel, by decide +kernel, (by decide +kernel : (parseMethodDescriptor "(I)C").map (fun d => d.parameters.length) = some 1)⟩ (hm_recv hK I rfl c9) I ⟨rfl, rfl⟩ ⟨⟨by show _ ≤ fP + 5; omega, by show _ ≤ lP + 144; omega⟩, rm_0 hc, rm_0 hs⟩ rfl (Nat.le_of_ble_eq_true rfl) d249_56 (fun vv h53 z54 H locs hR I9 => ?_)
          obtain ⟨v52, e1, hF⟩ := hR
          subst e1
          clear I
          have I := I9
          clear I9 c9 fs9
          refine W.eq (g2 := F0 m 59 ls [.int v52]) rfl ?_
          refine lv_bipush (v := 47) hx hb d249_59 (by decide) ?_
          refine lv_icmp_ne hx hb d249_61 rfl (fun h9 => ?_) (fun h9 => ?_)
          · have hF := Eq.mp (if_neg h9) hF
            exact b66 (w_MarkupReader_readContent_2 dA P y0 K n9) hk2 ls x1 x2 cr sr _ _ h53 z54 _ _ hF hc hs (hl.sub [0, 1, 2] rfl) I
          · have hF := Eq.mp (if_pos h9) hF
            refine lv_iconst (v := 1) hx hb d249_64 (by decide) ?_
            exact ht_zret X d249_65 I (rm_r hc) (rm_r hs) ⟨_, rfl, hF⟩ rfl
      · have hF := Eq.mp (if_pos h9) hF
        refine lv_aload_n hx hb d249_27 rfl (lv_at hl 0 rfl) ?_
        refine lv_aload_n hx hb d249_28 rfl (lv_at hl 0 rfl) ?_
        obtain ⟨fs9, v55, c9, e9, hF⟩ := hF
        refine va_get (D := D) (ci := 6) (v := .int v55) (C := kR6) (T := kT6) (N := 6) hx hb hts ku6 hown hK (hm_one I.1 c9) 0 rfl rfl 1 (by decide) (hts _ ms_k360) (fun x9 h9 => u_same (hts _ ms_k361) x9 h9) e9 d249_29 ?_
        clear e9 c9 fs9
        obtain ⟨fs9, c9, hF⟩ := hF
        refine ht_U (C := "MarkupStore$MarkupReader") (x := ⟨"MarkupStore$MarkupReader", "failAt", "(I)Z"⟩) (owner := "MarkupStore$TextReader") (rest := []) (as := [.int v55]) X hl (cw_TextReader_failAt6 l D dA s0 hE y0 v55 h z _ hF) (List.forall_mem_cons.mpr ⟨ms_k413, List.forall_mem_cons.mpr ⟨ms_k414, List.forall_mem_cons.mpr ⟨ms_k416, List.forall_mem_cons.mpr ⟨ms_k417, List.forall_mem_cons.mpr ⟨ms_k14, List.forall_mem_cons.mpr ⟨ms_k418, fun _ h => absurd h List.not_mem_nil⟩⟩⟩⟩⟩⟩) rfl ⟨by decide +kernel, by decide +kernel, (by decide +kernel : (parseMethodDescriptor "(I)Z").map (fun d => d.parameters.length) = some 1)⟩ (hm_recv hK I rfl c9) I ⟨rfl, rfl⟩ ⟨⟨by show _ ≤ fP + 5; omega, by show _ ≤ lP + 144; omega⟩, rm_0 hc, rm_0 hs⟩ rfl (Nat.le_of_ble_eq_true rfl) d249_32 (fun vv h57 z58 H locs hR I9 => ?_)
        obtain ⟨v56, e1, hF⟩ := hR
        subst e1
        clear I
        have I := I9
        clear I9 c9 fs9
        refine W.eq (g2 := F0 m 35 ls [.int v56]) rfl ?_
        obtain ⟨hz9, hF⟩ := hF
        exact ht_zret X d249_35 I (rm_r hc) (rm_r hs) ⟨_, rfl, hF⟩ (cg_zn hz9).1
  have hF := hg
  unfold w_MarkupReader_readContent at hF
  clear h z
  have hc : 0 + rc ≤ rc := by omega
  have hs : 0 + rs ≤ rs := by omega
  refine lv_iconst (v := 0) hx hb d249_0 (by decide) ?_
  refine lv_istore_n (i := 2) hx hb d249_1 rfl hl (by decide) (show _ = [(2, .int 0), (0, .ref y0), (1, va_rf y1)] by simp [cat_rf, cat_int, cat_ref, cat_null, cat_long]) (fun ls hl => ?_)
  have hl : lv_has ls 3 [(2, .int 0), (0, .ref y0), (1, va_rf y1)] := hl
  exact b2 mF ls y1 0 rc rs _ _ h0 z0 _ _ hF hc hs (hl.sub [1, 2, 0] rfl) I
