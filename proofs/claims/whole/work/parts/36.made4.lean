
def w_Step_init (dA : Nat → ClassId) (y0 : Nat) (rc rs : Nat) (K : hm_T → hz_T → Prop) (h0 : hm_T) (z0 : hz_T) : Prop := (cg_p h0 12 0 y0 (.int 67) (fun h21 => (cg_p h21 12 1 y0 (.int 110) (fun h22 => (cg_lit z0 [] (fun a23 => (cg_p h22 12 2 y0 (.ref a23) (fun h24 => (cg_new h24 rc rs 4 3 [.int 0, .null, .int 0] (fun q25 c27 s28 h26 => (cg_c h26 4 q25 (cg_rm c27 s28 (fun c32 s33 c34 s35 => w_ArrayList_init dA q25 c32 s33 (fun h30 z31 => (cg_p h30 12 3 y0 (.ref q25) (fun h36 => (cg_p h36 12 4 y0 (.long (0 : Int64)) (fun h37 => (K h37 z31)))))) h26 z0)))))))))))))
set_option maxRecDepth 100000 in
set_option maxHeartbeats 8000000 in
theorem cw_Step_init (l : Launch) (D : va_G) (dA : Nat → ClassId) (s0 : State) (hW : ms_EW D dA s0) (y0 : Nat) (rc rs : Nat) (h0 : hm_T) (z0 : hz_T) (K : hm_T → hz_T → Prop) (hg : w_Step_init dA y0 rc rs K h0 z0) : ht_C l D s0 yM239 bM239 1 (Option.none : Option Jvm.ClassFile.FieldType) (4) (72) rc rs [.ref y0] (fun h z => h = h0 ∧ z = z0) (fun h z vv h1 z1 => vv = none ∧ K h1 z1) := by
  have hE := hW.1
  refine ht_C.mk hE.1 (by decide) (Nat.le_of_ble_eq_true rfl) [(0, .ref y0)] rfl ?_
  intro p e s m below meth c ls h z X hin hpre I hl
  have hx := X.1
  have hb := X.2.1
  have hml := X.2.2.1
  have hown : s.vm.findClass "MarkupStore$Step" = some m.cls := X.2.2.2.1
  have hts := X.2.2.2.2.2.2.1
  have hK := X.2.2.2.2.2.2.2.2.1
  rw [hpre.1, hpre.2] at I
  clear hpre
  have hF := hg
  unfold w_Step_init at hF
  clear h z
  have hc : 0 + rc ≤ rc := by omega
  have hs : 0 + rs ≤ rs := by omega
  refine lv_aload_n hx hb d239_0 rfl (lv_at hl 0 rfl) ?_
  refine W.objInit hx hb hown (hts _ ms_k919) (hts _ ms_k37) (hts _ ms_k38) rfl (by rw [hml]; exact hl.1) rfl d239_1 (Nat.le_of_ble_eq_true rfl) (Nat.le_of_ble_eq_true rfl) ?_
  refine W.eq (g2 := F0 m 4 ls []) rfl ?_
  refine lv_aload_n hx hb d239_4 rfl (lv_at hl 0 rfl) ?_
  refine lv_bipush (v := 67) hx hb d239_5 (by decide) ?_
  obtain ⟨fs9, c9, k9, hF⟩ := hF
  refine hm_put (ci := 12) (v := .int 67) (ty := .char) (C := kR12) (T := kT12) (N := 5) X I ku12 kt12 kp12 kn12 c9 rfl 0 (by decide) ms_k923 (fun _ h => h) rfl (by decide +kernel) rfl rfl k9 d239_7 (fun h21 H locs e9 f9 I => ?_)
  rw [← hm_eqU e9 f9] at hF
  clear e9 f9 c9 k9
  refine lv_aload_n hx hb d239_10 rfl (lv_at hl 0 rfl) ?_
  refine lv_bipush (v := 110) hx hb d239_11 (by decide) ?_
  obtain ⟨fs9, c9, k9, hF⟩ := hF
  refine hm_put (ci := 12) (v := .int 110) (ty := .char) (C := kR12) (T := kT12) (N := 5) X I ku12 kt12 kp12 kn12 c9 rfl 1 (by decide) ms_k926 (fun _ h => h) rfl (by decide +kernel) rfl rfl k9 d239_13 (fun h22 H locs e9 f9 I => ?_)
  rw [← hm_eqU e9 f9] at hF
  clear e9 f9 c9 k9
  refine lv_aload_n hx hb d239_16 rfl (lv_at hl 0 rfl) ?_
  refine hz_ldc (xs := []) hE X I 9 rfl hown d239_17 (fun a23 u9 z9 => ?_)
  have hF := hF _ _ z9
  obtain ⟨fs9, c9, k9, hF⟩ := hF
  refine hm_put (ci := 12) (v := .ref a23) (ty := (.object "java/lang/String")) (C := kR12) (T := kT12) (N := 5) X I ku12 kt12 kp12 kn12 c9 rfl 2 (by decide) ms_k928 (fun _ h => h) rfl (by decide +kernel) rfl rfl k9 d239_19 (fun h24 H locs e9 f9 I => ?_)
  rw [← hm_eqU e9 f9] at hF
  clear e9 f9 c9 k9
  refine lv_aload_n hx hb d239_22 rfl (lv_at hl 0 rfl) ?_
  obtain ⟨c27, s28, ec, es, hF⟩ := hF
  refine hm_mk (ci := 4) (fs := [.int 0, .null, .int 0]) (C := kR4) (T := kT4) (N := 3) X I ku4 kt4 kp4 (List.forall_mem_cons.mpr ⟨ms_k921, List.forall_mem_cons.mpr ⟨ms_k323, List.forall_mem_cons.mpr ⟨ms_k18, fun _ h => absurd h List.not_mem_nil⟩⟩⟩) rfl kz4 (rm_u hc ec).1 (rm_u hs es).1 d239_23 (fun q25 h26 H v9 e9 f9 I => ?_)
  have hF := hF q25 v9
  rw [← hm_eqU e9 f9] at hF
  clear e9 f9 v9
  have hc := (rm_u hc ec).2
  have hs := (rm_u hs es).2
  clear ec es
  refine lv_dup hx hb d239_26 rfl ?_
  obtain ⟨fs9, c9, hF⟩ := hF
  obtain ⟨c32, s33, c34, s35, ec, es, hF⟩ := hF
  refine ht_I (rest := [.ref q25, .ref y0]) (as := []) X hl (cw_ArrayList_init l D dA s0 hW q25 c32 s33 h26 z0 _ hF) (List.forall_mem_cons.mpr ⟨ms_k922, List.forall_mem_cons.mpr ⟨ms_k325, List.forall_mem_cons.mpr ⟨ms_k18, List.forall_mem_cons.mpr ⟨ms_k326, fun _ h => absurd h List.not_mem_nil⟩⟩⟩⟩) rfl ⟨by decide +kernel, by decide +kernel, (by decide +kernel : (parseMethodDescriptor "()V").map (fun d => d.parameters.length) = some 0)⟩ I ⟨rfl, rfl⟩ ⟨⟨Nat.le_of_ble_eq_true rfl, Nat.le_of_ble_eq_true rfl⟩, (rm_u hc ec).1, (rm_u hs es).1⟩ rfl (Nat.le_of_ble_eq_true rfl) d239_27 (fun vv h30 z31 H locs hR I9 => ?_)
  obtain ⟨e1, hF⟩ := hR
  subst e1
  clear I
  have I := I9
  clear I9 c9 fs9
  have hc := (rm_u hc ec).2
  have hs := (rm_u hs es).2
  clear ec es
  refine W.eq (g2 := F0 m 30 ls [.ref q25, .ref y0]) rfl ?_
  obtain ⟨fs9, c9, k9, hF⟩ := hF
  refine hm_putF (ci := 12) (v := .ref q25) (ty := (.object "java/util/ArrayList")) (C := kR12) (T := kT12) (N := 5) X I ku12 kt12 kp12 kn12 c9 rfl 3 (by decide) ms_k930 (fun _ h => h) rfl hin rfl (by decide +kernel) rfl rfl k9 d239_30 (fun h36 H locs e9 f9 I => ?_)
  rw [← hm_eqU e9 f9] at hF
  clear e9 f9 c9 k9
  refine lv_aload_n hx hb d239_33 rfl (lv_at hl 0 rfl) ?_
  refine lv_lconst (v := (0 : Int64)) hx hb d239_34 (by decide) ?_
  obtain ⟨fs9, c9, k9, hF⟩ := hF
  refine hm_put (ci := 12) (v := .long (0 : Int64)) (ty := .long) (C := kR12) (T := kT12) (N := 5) X I ku12 kt12 kp12 kn12 c9 rfl 4 (by decide) ms_k933 (fun _ h => h) rfl (by decide +kernel) rfl rfl k9 d239_35 (fun h37 H locs e9 f9 I => ?_)
  rw [← hm_eqU e9 f9] at hF
  clear e9 f9 c9 k9
  exact ht_vret X d239_38 I (rm_r hc) (rm_r hs) ⟨rfl, hF⟩

def w_TextReader_readName6_60 (dA : Nat → ClassId) (y0 : Nat) (K : Option Nat → hm_T → hz_T → Prop) (x1 : Int32) (cr sr : Nat) (h : hm_T) (z : hz_T) : Prop := (cg_R h 6 0 y0 (fun v24 => (cg_I h 6 1 y0 (fun v25 => (cg_d v24 (fun a26 => (cg_k cr sr 2 146 (fun c30 s31 => w_S_sub dA a26 x1 v25 (fun v27 h28 z29 => (K v27 h28 z29)) h z))))))))
def w_TextReader_readName6_43 (dA : Nat → ClassId) (y0 : Nat) (K : Option Nat → hm_T → hz_T → Prop) (x1 : Int32) (cr sr : Nat) (h : hm_T) (z : hz_T) : Prop := (cg_I h 6 1 y0 (fun v23 => (if v23 = x1 then (cg_I h 6 1 y0 (fun v32 => (cg_c h 6 y0 (w_TextReader_failAt6 dA y0 v32 (fun v33 h34 z35 => (w_TextReader_readName6_60 dA y0 K x1 cr sr h34 z35)) h z)))) else (w_TextReader_readName6_60 dA y0 K x1 cr sr h z))))
def w_TextReader_readName6_5 (dA : Nat → ClassId) (y0 : Nat) (K : Option Nat → hm_T → hz_T → Prop) : Nat → Int32 → Nat → Nat → hm_T → hz_T → Prop
  | 0, _, _, _, _, _ => False
  | n9 + 1, x1, cr, sr, h, z => (cg_I h 6 1 y0 (fun v22 => (if 6 ≤ (v22 - x1) then (w_TextReader_readName6_43 dA y0 K x1 cr sr h z) else (cg_I h 6 1 y0 (fun v36 => (cg_c h 6 y0 (w_TextReader_seen6 dA y0 v36 (fun v37 h38 z39 => (w_Store_isSmallLetter dA v37 (fun v40 h41 z42 => (if v40 = 0 then (w_TextReader_readName6_43 dA y0 K x1 cr sr h41 z42) else (cg_I h41 6 1 y0 (fun v43 => (cg_p h41 6 1 y0 (.int (v43 + 1)) (fun h44 => ((w_TextReader_readName6_5 dA y0 K n9) x1 cr sr h44 z42))))))) h38 z39)) h z)))))))
def w_TextReader_readName6 (dA : Nat → ClassId) (y0 : Nat) (rc rs : Nat) (K : Option Nat → hm_T → hz_T → Prop) (h0 : hm_T) (z0 : hz_T) : Prop := (cg_I h0 6 1 y0 (fun v21 => (w_TextReader_readName6_5 dA y0 K mF v21 rc rs h0 z0)))
set_option maxRecDepth 100000 in
set_option maxHeartbeats 8000000 in
theorem cw_TextReader_readName6 (l : Launch) (D : va_G) (dA : Nat → ClassId) (s0 : State) (hW : ms_EW D dA s0) (y0 : Nat) (rc rs : Nat) (h0 : hm_T) (z0 : hz_T) (K : Option Nat → hm_T → hz_T → Prop) (hg : w_TextReader_readName6 dA y0 rc rs K h0 z0) : ht_C l D s0 yM240 bM240 2 (Option.some (Jvm.ClassFile.FieldType.object "java/lang/String")) (5) (192) rc rs [.ref y0] (fun h z => h = h0 ∧ z = z0) (fun h z vv h1 z1 => ∃ v, vv = some (va_rf v) ∧ K v h1 z1) := by
  have hE := hW.1
  refine ht_C.mk hE.1 (by decide) (Nat.le_of_ble_eq_true rfl) [(0, .ref y0)] rfl ?_
  intro p e s m below meth c ls h z X hin hpre I hl
  have hx := X.1
  have hb := X.2.1
  have hml := X.2.2.1
  have hown : s.vm.findClass "MarkupStore$TextReader" = some m.cls := X.2.2.2.1
  have hts := X.2.2.2.2.2.2.1
  have hK := X.2.2.2.2.2.2.2.2.1
  rw [hpre.1, hpre.2] at I
  clear hpre
  have b60 : ∀ (ls : Array Slot) (x1 : Int32) (cr sr cu su : Nat) (h : hm_T) (z : hz_T) (H : Heap) (locs : List Loc), w_TextReader_readName6_60 dA y0 K x1 cr sr h z → cu + cr ≤ rc → su + sr ≤ rs → lv_has ls 2 [(0, .ref y0), (1, .int x1)] → hm_I D s0 s h z H locs → W p l e { frames := 5, cells := rc, slots := rs, locals := 192 } s m ([.ref y0] : List Value).toArray below meth c H locs cu su (MQ below (ht_Q D s0 (fun vv h1 z1 => ∃ v, vv = some (va_rf v) ∧ K v h1 z1)) ([.ref y0] : List Value).toArray s rc rs (fun q => s0.heap.size ≤ q)) (F0 m 60 ls []) := by
    intro ls x1 cr sr cu su h z H locs hF hc hs hl I
    unfold w_TextReader_readName6_60 at hF
    refine lv_aload_n hx hb d240_60 rfl (lv_at hl 0 rfl) ?_
    obtain ⟨fs9, v24, c9, e9, hF⟩ := hF
    refine va_get (D := D) (ci := 6) (v := va_rf v24) (C := kR6) (T := kT6) (N := 6) hx hb hts ku6 hown hK (hm_one I.1 c9) 0 rfl rfl 0 (by decide) (hts _ ms_k352) (fun _ h => h) e9 d240_61 ?_
    clear e9 c9 fs9
    refine lv_iload_n hx hb d240_64 rfl (lv_at hl 1 rfl) ?_
    refine lv_aload_n hx hb d240_65 rfl (lv_at hl 0 rfl) ?_
    obtain ⟨fs9, v25, c9, e9, hF⟩ := hF
    refine va_get (D := D) (ci := 6) (v := .int v25) (C := kR6) (T := kT6) (N := 6) hx hb hts ku6 hown hK (hm_one I.1 c9) 0 rfl rfl 1 (by decide) (hts _ ms_k357) (fun _ h => h) e9 d240_66 ?_
    clear e9 c9 fs9
    obtain ⟨a26, e9, hF⟩ := hF
    refine W.eq (g2 := F0 m 69 ls [.int v25, .int x1, .ref a26]) (by rw [e9]; rfl) ?_
    clear e9
    obtain ⟨c30, s31, ec, es, hF⟩ := hF
    obtain ⟨u9, xs9, z9⟩ := w_S_sub_z hF
    refine ht_V (C := "java/lang/String") (rest := []) (as := [.int x1, .int v25]) X hl (cw_S_sub l D dA s0 hE a26 x1 v25 h z _ hF) (List.forall_mem_cons.mpr ⟨ms_k550, List.forall_mem_cons.mpr ⟨ms_k551, List.forall_mem_cons.mpr ⟨ms_k552, List.forall_mem_cons.mpr ⟨ms_k4, List.forall_mem_cons.mpr ⟨ms_k553, fun _ h => absurd h List.not_mem_nil⟩⟩⟩⟩⟩) ⟨rfl, by decide +kernel, by decide +kernel, (by decide +kernel : (parseMethodDescriptor "(II)Ljava/lang/String;").map (fun d => d.parameters.length) = some 2)⟩ (hz_recv I z9) I ⟨rfl, rfl⟩ ⟨⟨Nat.le_of_ble_eq_true rfl, Nat.le_of_ble_eq_true rfl⟩, (rm_u hc ec).1, (rm_u hs es).1⟩ rfl (Nat.le_of_ble_eq_true rfl) d240_69 (fun vv h28 z29 H locs hR I9 => ?_)
    obtain ⟨v27, e1, hF⟩ := hR
    subst e1
    clear I
    have I := I9
    clear I9 z9
    have hc := (rm_u hc ec).2
    have hs := (rm_u hs es).2
    clear ec es
    refine W.eq (g2 := F0 m 72 ls [va_rf v27]) rfl ?_
    exact ht_aret X d240_72 I (rm_r hc) (rm_r hs) ⟨v27, rfl, hF⟩ (Or.inl ⟨_, rfl⟩) (rf_or _)
  have b43 : ∀ (ls : Array Slot) (x1 : Int32) (cr sr cu su : Nat) (h : hm_T) (z : hz_T) (H : Heap) (locs : List Loc), w_TextReader_readName6_43 dA y0 K x1 cr sr h z → cu + cr ≤ rc → su + sr ≤ rs → lv_has ls 2 [(0, .ref y0), (1, .int x1)] → hm_I D s0 s h z H locs → W p l e { frames := 5, cells := rc, slots := rs, locals := 192 } s m ([.ref y0] : List Value).toArray below meth c H locs cu su (MQ below (ht_Q D s0 (fun vv h1 z1 => ∃ v, vv = some (va_rf v) ∧ K v h1 z1)) ([.ref y0] : List Value).toArray s rc rs (fun q => s0.heap.size ≤ q)) (F0 m 43 ls []) := by
    intro ls x1 cr sr cu su h z H locs hF hc hs hl I
    unfold w_TextReader_readName6_43 at hF
    refine lv_aload_n hx hb d240_43 rfl (lv_at hl 0 rfl) ?_
    obtain ⟨fs9, v23, c9, e9, hF⟩ := hF
    refine va_get (D := D) (ci := 6) (v := .int v23) (C := kR6) (T := kT6) (N := 6) hx hb hts ku6 hown hK (hm_one I.1 c9) 0 rfl rfl 1 (by decide) (hts _ ms_k357) (fun _ h => h) e9 d240_44 ?_
    clear e9 c9 fs9
    refine lv_iload_n hx hb d240_47 rfl (lv_at hl 1 rfl) ?_
    refine lv_icmp_ne hx hb d240_48 rfl (fun h9 => ?_) (fun h9 => ?_)
    · have hF := Eq.mp (if_neg h9) hF
      exact b60 ls x1 cr sr _ _ h z _ _ hF hc hs (hl.sub [0, 1] rfl) I
    · have hF := Eq.mp (if_pos h9) hF
      refine lv_aload_n hx hb d240_51 rfl (lv_at hl 0 rfl) ?_
      refine lv_aload_n hx hb d240_52 rfl (lv_at hl 0 rfl) ?_
      obtain ⟨fs9, v32, c9, e9, hF⟩ := hF
      refine va_get (D := D) (ci := 6) (v := .int v32) (C := kR6) (T := kT6) (N := 6) hx hb hts ku6 hown hK (hm_one I.1 c9) 0 rfl rfl 1 (by decide) (hts _ ms_k357) (fun _ h => h) e9 d240_53 ?_
      clear e9 c9 fs9
      obtain ⟨fs9, c9, hF⟩ := hF
      refine ht_U (C := "MarkupStore$MarkupReader") (x := ⟨"MarkupStore$TextReader", "failAt", "(I)Z"⟩) (owner := "MarkupStore$TextReader") (rest := []) (as := [.int v32]) X hl (cw_TextReader_failAt6 l D dA s0 hE y0 v32 h z _ hF) (List.forall_mem_cons.mpr ⟨ms_k549, List.forall_mem_cons.mpr ⟨ms_k1842, List.forall_mem_cons.mpr ⟨ms_k1843, List.forall_mem_cons.mpr ⟨ms_k417, List.forall_mem_cons.mpr ⟨ms_k14, List.forall_mem_cons.mpr ⟨ms_k418, fun _ h => absurd h List.not_mem_nil⟩⟩⟩⟩⟩⟩) rfl ⟨by decide +kernel, by decide +kernel, (by decide +kernel : (parseMethodDescriptor "(I)Z").map (fun d => d.parameters.length) = some 1)⟩ (hm_recv hK I rfl c9) I ⟨rfl, rfl⟩ ⟨⟨Nat.le_of_ble_eq_true rfl, Nat.le_of_ble_eq_true rfl⟩, rm_0 hc, rm_0 hs⟩ rfl (Nat.le_of_ble_eq_true rfl) d240_56 (fun vv h34 z35 H locs hR I9 => ?_)
      obtain ⟨v33, e1, hF⟩ := hR
      subst e1
      clear I
      have I := I9
      clear I9 c9 fs9
      refine W.eq (g2 := F0 m 59 ls [.int v33]) rfl ?_
      refine lv_pop hx hb d240_59 rfl ?_
      exact b60 ls x1 cr sr _ _ h34 z35 _ _ hF hc hs (hl.sub [0, 1] rfl) I
  have b5 : ∀ n9 : Nat, ∀ (ls : Array Slot) (x1 : Int32) (cr sr cu su : Nat) (h : hm_T) (z : hz_T) (H : Heap) (locs : List Loc), w_TextReader_readName6_5 dA y0 K n9 x1 cr sr h z → cu + cr ≤ rc → su + sr ≤ rs → lv_has ls 2 [(0, .ref y0), (1, .int x1)] → hm_I D s0 s h z H locs → W p l e { frames := 5, cells := rc, slots := rs, locals := 192 } s m ([.ref y0] : List Value).toArray below meth c H locs cu su (MQ below (ht_Q D s0 (fun vv h1 z1 => ∃ v, vv = some (va_rf v) ∧ K v h1 z1)) ([.ref y0] : List Value).toArray s rc rs (fun q => s0.heap.size ≤ q)) (F0 m 5 ls []) := by
    intro n9
    induction n9 with
    | zero => intro ls x1 cr sr cu su h z H locs hF; cases hF
    | succ n9 hk5 =>
    intro ls x1 cr sr cu su h z H locs hF hc hs hl I
    unfold w_TextReader_readName6_5 at hF
    refine lv_aload_n hx hb d240_5 rfl (lv_at hl 0 rfl) ?_
    obtain ⟨fs9, v22, c9, e9, hF⟩ := hF
    refine va_get (D := D) (ci := 6) (v := .int v22) (C := kR6) (T := kT6) (N := 6) hx hb hts ku6 hown hK (hm_one I.1 c9) 0 rfl rfl 1 (by decide) (hts _ ms_k357) (fun _ h => h) e9 d240_6 ?_
    clear e9 c9 fs9
    refine lv_iload_n hx hb d240_9 rfl (lv_at hl 1 rfl) ?_
    refine lv_isub hx hb d240_10 ?_
    refine lv_bipush (v := 6) hx hb d240_11 (by decide) ?_
    refine lv_icmp_ge hx hb d240_13 rfl (fun h9 => ?_) (fun h9 => ?_)
    · have hF := Eq.mp (if_pos h9) hF
      exact b43 ls x1 cr sr _ _ h z _ _ hF hc hs (hl.sub [0, 1] rfl) I
    · have hF := Eq.mp (if_neg h9) hF
      refine lv_aload_n hx hb d240_16 rfl (lv_at hl 0 rfl) ?_
      refine lv_aload_n hx hb d240_17 rfl (lv_at hl 0 rfl) ?_
      obtain ⟨fs9, v36, c9, e9, hF⟩ := hF
      refine va_get (D := D) (ci := 6) (v := .int v36) (C := kR6) (T := kT6) (N := 6) hx hb hts ku6 hown hK (hm_one I.1 c9) 0 rfl rfl 1 (by decide) (hts _ ms_k357) (fun _ h => h) e9 d240_18 ?_
      clear e9 c9 fs9
      obtain ⟨fs9, c9, hF⟩ := hF
      refine ht_U (C := "MarkupStore$MarkupReader") (x := ⟨"MarkupStore$TextReader", "seen", "(I)C"⟩) (owner := "MarkupStore$TextReader") (rest := []) (as := [.int v36]) X hl (cw_TextReader_seen6 l D dA s0 hE y0 v36 h z _ hF) (List.forall_mem_cons.mpr ⟨ms_k547, List.forall_mem_cons.mpr ⟨ms_k1839, List.forall_mem_cons.mpr ⟨ms_k1840, List.forall_mem_cons.mpr ⟨ms_k388, List.forall_mem_cons.mpr ⟨ms_k14, List.forall_mem_cons.mpr ⟨ms_k389, fun _ h => absurd h List.not_mem_nil⟩⟩⟩⟩⟩⟩) rfl ⟨by decide +kernel, by decide +kernel, (by decide +kernel : (parseMethodDescriptor "(I)C").map (fun d => d.parameters.length) = some 1)⟩ (hm_recv hK I rfl c9) I ⟨rfl, rfl⟩ ⟨⟨Nat.le_of_ble_eq_true rfl, Nat.le_of_ble_eq_true rfl⟩, rm_0 hc, rm_0 hs⟩ rfl (Nat.le_of_ble_eq_true rfl) d240_21 (fun vv h38 z39 H locs hR I9 => ?_)
      obtain ⟨v37, e1, hF⟩ := hR
      subst e1
      clear I
      have I := I9
      clear I9 c9 fs9
      refine W.eq (g2 := F0 m 24 ls [.int v37]) rfl ?_
      refine ht_SN (host := "MarkupStore") (rest := []) (as := [.int v37]) X hl (cw_Store_isSmallLetter l D dA s0 hE v37 h38 z39 _ hF) (ms_nest hE X (ms_l (ms_t3 (List.mem_of_getElem? (i := 68) (by decide +kernel))))) (List.forall_mem_cons.mpr ⟨ms_k420, List.forall_mem_cons.mpr ⟨ms_k1, List.forall_mem_cons.mpr ⟨ms_k421, fun _ h => absurd h List.not_mem_nil⟩⟩⟩) ⟨by decide +kernel, by decide +kernel, (by decide +kernel : (parseMethodDescriptor "(C)Z").map (fun d => d.parameters.length) = some 1)⟩ I ⟨rfl, rfl⟩ ⟨⟨Nat.le_of_ble_eq_true rfl, Nat.le_of_ble_eq_true rfl⟩, rm_0 hc, rm_0 hs⟩ rfl (Nat.le_of_ble_eq_true rfl) d240_24 (fun vv h41 z42 H locs hR I9 => ?_)
      obtain ⟨v40, e1, hF⟩ := hR
      subst e1
      clear I
      have I := I9
      clear I9
      refine W.eq (g2 := F0 m 27 ls [.int v40]) rfl ?_
      refine lv_if_eq hx hb d240_27 rfl (fun h9 => ?_) (fun h9 => ?_)
      · have hF := Eq.mp (if_pos h9) hF
        exact b43 ls x1 cr sr _ _ h41 z42 _ _ hF hc hs (hl.sub [0, 1] rfl) I
      · have hF := Eq.mp (if_neg h9) hF
        refine lv_aload_n hx hb d240_30 rfl (lv_at hl 0 rfl) ?_
        refine lv_dup hx hb d240_31 rfl ?_
        obtain ⟨fs9, v43, c9, e9, hF⟩ := hF
        refine va_get (D := D) (ci := 6) (v := .int v43) (C := kR6) (T := kT6) (N := 6) hx hb hts ku6 hown hK (hm_one I.1 c9) 0 rfl rfl 1 (by decide) (hts _ ms_k357) (fun _ h => h) e9 d240_32 ?_
        clear e9 c9 fs9
        refine lv_iconst (v := 1) hx hb d240_35 (by decide) ?_
        refine lv_iadd hx hb d240_36 ?_
        obtain ⟨fs9, c9, k9, hF⟩ := hF
        refine hm_put (ci := 6) (v := .int (v43 + 1)) (ty := .int) (C := kR6) (T := kT6) (N := 6) X I ku6 kt6 kp6 kn6 c9 rfl 1 (by decide) ms_k357 (fun _ h => h) rfl (by decide +kernel) rfl rfl k9 d240_37 (fun h44 H locs e9 f9 I => ?_)
        rw [← hm_eqU e9 f9] at hF
        clear e9 f9 c9 k9
        refine lv_goto hx hb d240_40 rfl ?_
        exact hk5 ls x1 cr sr _ _ h44 z42 _ _ hF hc hs (hl.sub [0, 1] rfl) I
  have hF := hg
  unfold w_TextReader_readName6 at hF
  clear h z
  have hc : 0 + rc ≤ rc := by omega
  have hs : 0 + rs ≤ rs := by omega
  refine lv_aload_n hx hb d240_0 rfl (lv_at hl 0 rfl) ?_
  obtain ⟨fs9, v21, c9, e9, hF⟩ := hF
  refine va_get (D := D) (ci := 6) (v := .int v21) (C := kR6) (T := kT6) (N := 6) hx hb hts ku6 hown hK (hm_one I.1 c9) 0 rfl rfl 1 (by decide) (hts _ ms_k357) (fun _ h => h) e9 d240_1 ?_
  clear e9 c9 fs9
  refine lv_istore_n hx hb d240_4 rfl hl (by decide) rfl (fun ls hl => ?_)
  have hl : lv_has ls 2 [(1, .int v21), (0, .ref y0)] := hl
  exact b5 mF ls v21 rc rs _ _ h0 z0 _ _ hF hc hs (hl.sub [1, 0] rfl) I

def w_TextReader_readName10_60 (dA : Nat → ClassId) (y0 : Nat) (K : Option Nat → hm_T → hz_T → Prop) (x1 : Int32) (cr sr : Nat) (h : hm_T) (z : hz_T) : Prop := (cg_R h 10 0 y0 (fun v24 => (cg_I h 10 1 y0 (fun v25 => (cg_d v24 (fun a26 => (cg_k cr sr 2 146 (fun c30 s31 => w_S_sub dA a26 x1 v25 (fun v27 h28 z29 => (K v27 h28 z29)) h z))))))))
def w_TextReader_readName10_43 (dA : Nat → ClassId) (y0 : Nat) (K : Option Nat → hm_T → hz_T → Prop) (x1 : Int32) (cr sr : Nat) (h : hm_T) (z : hz_T) : Prop := (cg_I h 10 1 y0 (fun v23 => (if v23 = x1 then (cg_I h 10 1 y0 (fun v32 => (cg_c h 10 y0 (w_TextReader_failAt10 dA y0 v32 (fun v33 h34 z35 => (w_TextReader_readName10_60 dA y0 K x1 cr sr h34 z35)) h z)))) else (w_TextReader_readName10_60 dA y0 K x1 cr sr h z))))
def w_TextReader_readName10_5 (dA : Nat → ClassId) (y0 : Nat) (K : Option Nat → hm_T → hz_T → Prop) : Nat → Int32 → Nat → Nat → hm_T → hz_T → Prop
  | 0, _, _, _, _, _ => False
  | n9 + 1, x1, cr, sr, h, z => (cg_I h 10 1 y0 (fun v22 => (if 6 ≤ (v22 - x1) then (w_TextReader_readName10_43 dA y0 K x1 cr sr h z) else (cg_I h 10 1 y0 (fun v36 => (cg_c h 10 y0 (w_TextReader_seen10 dA y0 v36 (fun v37 h38 z39 => (w_Store_isSmallLetter dA v37 (fun v40 h41 z42 => (if v40 = 0 then (w_TextReader_readName10_43 dA y0 K x1 cr sr h41 z42) else (cg_I h41 10 1 y0 (fun v43 => (cg_p h41 10 1 y0 (.int (v43 + 1)) (fun h44 => ((w_TextReader_readName10_5 dA y0 K n9) x1 cr sr h44 z42))))))) h38 z39)) h z)))))))
def w_TextReader_readName10 (dA : Nat → ClassId) (y0 : Nat) (rc rs : Nat) (K : Option Nat → hm_T → hz_T → Prop) (h0 : hm_T) (z0 : hz_T) : Prop := (cg_I h0 10 1 y0 (fun v21 => (w_TextReader_readName10_5 dA y0 K mF v21 rc rs h0 z0)))
set_option maxRecDepth 100000 in
set_option maxHeartbeats 8000000 in
theorem cw_TextReader_readName10 (l : Launch) (D : va_G) (dA : Nat → ClassId) (s0 : State) (hW : ms_EW D dA s0) (y0 : Nat) (rc rs : Nat) (h0 : hm_T) (z0 : hz_T) (K : Option Nat → hm_T → hz_T → Prop) (hg : w_TextReader_readName10 dA y0 rc rs K h0 z0) : ht_C l D s0 yM240 bM240 2 (Option.some (Jvm.ClassFile.FieldType.object "java/lang/String")) (5) (192) rc rs [.ref y0] (fun h z => h = h0 ∧ z = z0) (fun h z vv h1 z1 => ∃ v, vv = some (va_rf v) ∧ K v h1 z1) := by
  have hE := hW.1
  refine ht_C.mk hE.1 (by decide) (Nat.le_of_ble_eq_true rfl) [(0, .ref y0)] rfl ?_
  intro p e s m below meth c ls h z X hin hpre I hl
  have hx := X.1
  have hb := X.2.1
  have hml := X.2.2.1
  have hown : s.vm.findClass "MarkupStore$TextReader" = some m.cls := X.2.2.2.1
  have hts := X.2.2.2.2.2.2.1
  have hK := X.2.2.2.2.2.2.2.2.1
  rw [hpre.1, hpre.2] at I
  clear hpre
  have b60 : ∀ (ls : Array Slot) (x1 : Int32) (cr sr cu su : Nat) (h : hm_T) (z : hz_T) (H : Heap) (locs : List Loc), w_TextReader_readName10_60 dA y0 K x1 cr sr h z → cu + cr ≤ rc → su + sr ≤ rs → lv_has ls 2 [(0, .ref y0), (1, .int x1)] → hm_I D s0 s h z H locs → W p l e { frames := 5, cells := rc, slots := rs, locals := 192 } s m ([.ref y0] : List Value).toArray below meth c H locs cu su (MQ below (ht_Q D s0 (fun vv h1 z1 => ∃ v, vv = some (va_rf v) ∧ K v h1 z1)) ([.ref y0] : List Value).toArray s rc rs (fun q => s0.heap.size ≤ q)) (F0 m 60 ls []) := by
    intro ls x1 cr sr cu su h z H locs hF hc hs hl I
    unfold w_TextReader_readName10_60 at hF
    refine lv_aload_n hx hb d240_60 rfl (lv_at hl 0 rfl) ?_
    obtain ⟨fs9, v24, c9, e9, hF⟩ := hF
    refine va_get (D := D) (ci := 10) (v := va_rf v24) (C := kR10) (T := kT10) (N := 3) hx hb hts ku10 hown hK (hm_one I.1 c9) 0 rfl rfl 0 (by decide) (hts _ ms_k352) (fun _ h => h) e9 d240_61 ?_
    clear e9 c9 fs9
    refine lv_iload_n hx hb d240_64 rfl (lv_at hl 1 rfl) ?_
    refine lv_aload_n hx hb d240_65 rfl (lv_at hl 0 rfl) ?_
    obtain ⟨fs9, v25, c9, e9, hF⟩ := hF
    refine va_get (D := D) (ci := 10) (v := .int v25) (C := kR10) (T := kT10) (N := 3) hx hb hts ku10 hown hK (hm_one I.1 c9) 0 rfl rfl 1 (by decide) (hts _ ms_k357) (fun _ h => h) e9 d240_66 ?_
    clear e9 c9 fs9
    obtain ⟨a26, e9, hF⟩ := hF
    refine W.eq (g2 := F0 m 69 ls [.int v25, .int x1, .ref a26]) (by rw [e9]; rfl) ?_
    clear e9
    obtain ⟨c30, s31, ec, es, hF⟩ := hF
    obtain ⟨u9, xs9, z9⟩ := w_S_sub_z hF
    refine ht_V (C := "java/lang/String") (rest := []) (as := [.int x1, .int v25]) X hl (cw_S_sub l D dA s0 hE a26 x1 v25 h z _ hF) (List.forall_mem_cons.mpr ⟨ms_k550, List.forall_mem_cons.mpr ⟨ms_k551, List.forall_mem_cons.mpr ⟨ms_k552, List.forall_mem_cons.mpr ⟨ms_k4, List.forall_mem_cons.mpr ⟨ms_k553, fun _ h => absurd h List.not_mem_nil⟩⟩⟩⟩⟩) ⟨rfl, by decide +kernel, by decide +kernel, (by decide +kernel : (parseMethodDescriptor "(II)Ljava/lang/String;").map (fun d => d.parameters.length) = some 2)⟩ (hz_recv I z9) I ⟨rfl, rfl⟩ ⟨⟨Nat.le_of_ble_eq_true rfl, Nat.le_of_ble_eq_true rfl⟩, (rm_u hc ec).1, (rm_u hs es).1⟩ rfl (Nat.le_of_ble_eq_true rfl) d240_69 (fun vv h28 z29 H locs hR I9 => ?_)
    obtain ⟨v27, e1, hF⟩ := hR
    subst e1
    clear I
    have I := I9
    clear I9 z9
    have hc := (rm_u hc ec).2
    have hs := (rm_u hs es).2
    clear ec es
    refine W.eq (g2 := F0 m 72 ls [va_rf v27]) rfl ?_
    exact ht_aret X d240_72 I (rm_r hc) (rm_r hs) ⟨v27, rfl, hF⟩ (Or.inl ⟨_, rfl⟩) (rf_or _)
  have b43 : ∀ (ls : Array Slot) (x1 : Int32) (cr sr cu su : Nat) (h : hm_T) (z : hz_T) (H : Heap) (locs : List Loc), w_TextReader_readName10_43 dA y0 K x1 cr sr h z → cu + cr ≤ rc → su + sr ≤ rs → lv_has ls 2 [(0, .ref y0), (1, .int x1)] → hm_I D s0 s h z H locs → W p l e { frames := 5, cells := rc, slots := rs, locals := 192 } s m ([.ref y0] : List Value).toArray below meth c H locs cu su (MQ below (ht_Q D s0 (fun vv h1 z1 => ∃ v, vv = some (va_rf v) ∧ K v h1 z1)) ([.ref y0] : List Value).toArray s rc rs (fun q => s0.heap.size ≤ q)) (F0 m 43 ls []) := by
    intro ls x1 cr sr cu su h z H locs hF hc hs hl I
    unfold w_TextReader_readName10_43 at hF
    refine lv_aload_n hx hb d240_43 rfl (lv_at hl 0 rfl) ?_
    obtain ⟨fs9, v23, c9, e9, hF⟩ := hF
    refine va_get (D := D) (ci := 10) (v := .int v23) (C := kR10) (T := kT10) (N := 3) hx hb hts ku10 hown hK (hm_one I.1 c9) 0 rfl rfl 1 (by decide) (hts _ ms_k357) (fun _ h => h) e9 d240_44 ?_
    clear e9 c9 fs9
    refine lv_iload_n hx hb d240_47 rfl (lv_at hl 1 rfl) ?_
    refine lv_icmp_ne hx hb d240_48 rfl (fun h9 => ?_) (fun h9 => ?_)
    · have hF := Eq.mp (if_neg h9) hF
      exact b60 ls x1 cr sr _ _ h z _ _ hF hc hs (hl.sub [0, 1] rfl) I
    · have hF := Eq.mp (if_pos h9) hF
      refine lv_aload_n hx hb d240_51 rfl (lv_at hl 0 rfl) ?_
      refine lv_aload_n hx hb d240_52 rfl (lv_at hl 0 rfl) ?_
      obtain ⟨fs9, v32, c9, e9, hF⟩ := hF
      refine va_get (D := D) (ci := 10) (v := .int v32) (C := kR10) (T := kT10) (N := 3) hx hb hts ku10 hown hK (hm_one I.1 c9) 0 rfl rfl 1 (by decide) (hts _ ms_k357) (fun _ h => h) e9 d240_53 ?_
      clear e9 c9 fs9
      obtain ⟨fs9, c9, hF⟩ := hF
      refine ht_U (C := "MarkupStore$PathReader") (x := ⟨"MarkupStore$TextReader", "failAt", "(I)Z"⟩) (owner := "MarkupStore$TextReader") (rest := []) (as := [.int v32]) X hl (cw_TextReader_failAt10 l D dA s0 hE y0 v32 h z _ hF) (List.forall_mem_cons.mpr ⟨ms_k549, List.forall_mem_cons.mpr ⟨ms_k1842, List.forall_mem_cons.mpr ⟨ms_k1844, List.forall_mem_cons.mpr ⟨ms_k417, List.forall_mem_cons.mpr ⟨ms_k14, List.forall_mem_cons.mpr ⟨ms_k418, fun _ h => absurd h List.not_mem_nil⟩⟩⟩⟩⟩⟩) rfl ⟨by decide +kernel, by decide +kernel, (by decide +kernel : (parseMethodDescriptor "(I)Z").map (fun d => d.parameters.length) = some 1)⟩ (hm_recv hK I rfl c9) I ⟨rfl, rfl⟩ ⟨⟨Nat.le_of_ble_eq_true rfl, Nat.le_of_ble_eq_true rfl⟩, rm_0 hc, rm_0 hs⟩ rfl (Nat.le_of_ble_eq_true rfl) d240_56 (fun vv h34 z35 H locs hR I9 => ?_)
      obtain ⟨v33, e1, hF⟩ := hR
      subst e1
      clear I
      have I := I9
      clear I9 c9 fs9
      refine W.eq (g2 := F0 m 59 ls [.int v33]) rfl ?_
      refine lv_pop hx hb d240_59 rfl ?_
      exact b60 ls x1 cr sr _ _ h34 z35 _ _ hF hc hs (hl.sub [0, 1] rfl) I
  have b5 : ∀ n9 : Nat, ∀ (ls : Array Slot) (x1 : Int32) (cr sr cu su : Nat) (h : hm_T) (z : hz_T) (H : Heap) (locs : List Loc), w_TextReader_readName10_5 dA y0 K n9 x1 cr sr h z → cu + cr ≤ rc → su + sr ≤ rs → lv_has ls 2 [(0, .ref y0), (1, .int x1)] → hm_I D s0 s h z H locs → W p l e { frames := 5, cells := rc, slots := rs, locals := 192 } s m ([.ref y0] : List Value).toArray below meth c H locs cu su (MQ below (ht_Q D s0 (fun vv h1 z1 => ∃ v, vv = some (va_rf v) ∧ K v h1 z1)) ([.ref y0] : List Value).toArray s rc rs (fun q => s0.heap.size ≤ q)) (F0 m 5 ls []) := by
    intro n9
    induction n9 with
    | zero => intro ls x1 cr sr cu su h z H locs hF; cases hF
    | succ n9 hk5 =>
    intro ls x1 cr sr cu su h z H locs hF hc hs hl I
    unfold w_TextReader_readName10_5 at hF
    refine lv_aload_n hx hb d240_5 rfl (lv_at hl 0 rfl) ?_
    obtain ⟨fs9, v22, c9, e9, hF⟩ := hF
    refine va_get (D := D) (ci := 10) (v := .int v22) (C := kR10) (T := kT10) (N := 3) hx hb hts ku10 hown hK (hm_one I.1 c9) 0 rfl rfl 1 (by decide) (hts _ ms_k357) (fun _ h => h) e9 d240_6 ?_
    clear e9 c9 fs9
    refine lv_iload_n hx hb d240_9 rfl (lv_at hl 1 rfl) ?_
    refine lv_isub hx hb d240_10 ?_
    refine lv_bipush (v := 6) hx hb d240_11 (by decide) ?_
    refine lv_icmp_ge hx hb d240_13 rfl (fun h9 => ?_) (fun h9 => ?_)
    · have hF := Eq.mp (if_pos h9) hF
      exact b43 ls x1 cr sr _ _ h z _ _ hF hc hs (hl.sub [0, 1] rfl) I
    · have hF := Eq.mp (if_neg h9) hF
      refine lv_aload_n hx hb d240_16 rfl (lv_at hl 0 rfl) ?_
      refine lv_aload_n hx hb d240_17 rfl (lv_at hl 0 rfl) ?_
      obtain ⟨fs9, v36, c9, e9, hF⟩ := hF
      refine va_get (D := D) (ci := 10) (v := .int v36) (C := kR10) (T := kT10) (N := 3) hx hb hts ku10 hown hK (hm_one I.1 c9) 0 rfl rfl 1 (by decide) (hts _ ms_k357) (fun _ h => h) e9 d240_18 ?_
      clear e9 c9 fs9
      obtain ⟨fs9, c9, hF⟩ := hF
      refine ht_U (C := "MarkupStore$PathReader") (x := ⟨"MarkupStore$TextReader", "seen", "(I)C"⟩) (owner := "MarkupStore$TextReader") (rest := []) (as := [.int v36]) X hl (cw_TextReader_seen10 l D dA s0 hE y0 v36 h z _ hF) (List.forall_mem_cons.mpr ⟨ms_k547, List.forall_mem_cons.mpr ⟨ms_k1839, List.forall_mem_cons.mpr ⟨ms_k1841, List.forall_mem_cons.mpr ⟨ms_k388, List.forall_mem_cons.mpr ⟨ms_k14, List.forall_mem_cons.mpr ⟨ms_k389, fun _ h => absurd h List.not_mem_nil⟩⟩⟩⟩⟩⟩) rfl ⟨by decide +kernel, by decide +kernel, (by decide +kernel : (parseMethodDescriptor "(I)C").map (fun d => d.parameters.length) = some 1)⟩ (hm_recv hK I rfl c9) I ⟨rfl, rfl⟩ ⟨⟨Nat.le_of_ble_eq_true rfl, Nat.le_of_ble_eq_true rfl⟩, rm_0 hc, rm_0 hs⟩ rfl (Nat.le_of_ble_eq_true rfl) d240_21 (fun vv h38 z39 H locs hR I9 => ?_)
      obtain ⟨v37, e1, hF⟩ := hR
      subst e1
      clear I
      have I := I9
      clear I9 c9 fs9
      refine W.eq (g2 := F0 m 24 ls [.int v37]) rfl ?_
      refine ht_SN (host := "MarkupStore") (rest := []) (as := [.int v37]) X hl (cw_Store_isSmallLetter l D dA s0 hE v37 h38 z39 _ hF) (ms_nest hE X (ms_l (ms_t3 (List.mem_of_getElem? (i := 68) (by decide +kernel))))) (List.forall_mem_cons.mpr ⟨ms_k420, List.forall_mem_cons.mpr ⟨ms_k1, List.forall_mem_cons.mpr ⟨ms_k421, fun _ h => absurd h List.not_mem_nil⟩⟩⟩) ⟨by decide +kernel, by decide +kernel, (by decide +kernel : (parseMethodDescriptor "(C)Z").map (fun d => d.parameters.length) = some 1)⟩ I ⟨rfl, rfl⟩ ⟨⟨Nat.le_of_ble_eq_true rfl, Nat.le_of_ble_eq_true rfl⟩, rm_0 hc, rm_0 hs⟩ rfl (Nat.le_of_ble_eq_true rfl) d240_24 (fun vv h41 z42 H locs hR I9 => ?_)
      obtain ⟨v40, e1, hF⟩ := hR
      subst e1
      clear I
      have I := I9
      clear I9
      refine W.eq (g2 := F0 m 27 ls [.int v40]) rfl ?_
      refine lv_if_eq hx hb d240_27 rfl (fun h9 => ?_) (fun h9 => ?_)
      · have hF := Eq.mp (if_pos h9) hF
        exact b43 ls x1 cr sr _ _ h41 z42 _ _ hF hc hs (hl.sub [0, 1] rfl) I
      · have hF := Eq.mp (if_neg h9) hF
        refine lv_aload_n hx hb d240_30 rfl (lv_at hl 0 rfl) ?_
        refine lv_dup hx hb d240_31 rfl ?_
        obtain ⟨fs9, v43, c9, e9, hF⟩ := hF
        refine va_get (D := D) (ci := 10) (v := .int v43) (C := kR10) (T := kT10) (N := 3) hx hb hts ku10 hown hK (hm_one I.1 c9) 0 rfl rfl 1 (by decide) (hts _ ms_k357) (fun _ h => h) e9 d240_32 ?_
        clear e9 c9 fs9
        refine lv_iconst (v := 1) hx hb d240_35 (by decide) ?_
        refine lv_iadd hx hb d240_36 ?_
        obtain ⟨fs9, c9, k9, hF⟩ := hF
        refine hm_put (ci := 10) (v := .int (v43 + 1)) (ty := .int) (C := kR10) (T := kT10) (N := 3) X I ku10 kt10 kp10 kn10 c9 rfl 1 (by decide) ms_k357 (fun _ h => h) rfl (by decide +kernel) rfl rfl k9 d240_37 (fun h44 H locs e9 f9 I => ?_)
        rw [← hm_eqU e9 f9] at hF
        clear e9 f9 c9 k9
        refine lv_goto hx hb d240_40 rfl ?_
        exact hk5 ls x1 cr sr _ _ h44 z42 _ _ hF hc hs (hl.sub [0, 1] rfl) I
  have hF := hg
  unfold w_TextReader_readName10 at hF
  clear h z
  have hc : 0 + rc ≤ rc := by omega
  have hs : 0 + rs ≤ rs := by omega
  refine lv_aload_n hx hb d240_0 rfl (lv_at hl 0 rfl) ?_
  obtain ⟨fs9, v21, c9, e9, hF⟩ := hF
  refine va_get (D := D) (ci := 10) (v := .int v21) (C := kR10) (T := kT10) (N := 3) hx hb hts ku10 hown hK (hm_one I.1 c9) 0 rfl rfl 1 (by decide) (hts _ ms_k357) (fun _ h => h) e9 d240_1 ?_
  clear e9 c9 fs9
  refine lv_istore_n hx hb d240_4 rfl hl (by decide) rfl (fun ls hl => ?_)
  have hl : lv_has ls 2 [(1, .int v21), (0, .ref y0)] := hl
  exact b5 mF ls v21 rc rs _ _ h0 z0 _ _ hF hc hs (hl.sub [1, 0] rfl) I

def w_Tree_init (dA : Nat → ClassId) (y0 : Nat) (rc rs : Nat) (K : hm_T → hz_T → Prop) (h0 : hm_T) (z0 : hz_T) : Prop := (cg_nq dA h0 rc rs 5 200 (fun q21 c23 s24 h22 => (cg_p h22 1 0 y0 (.ref q21) (fun h25 => (cg_nq dA h25 c23 s24 5 40 (fun q26 c28 s29 h27 => (cg_p h27 1 2 y0 (.ref q26) (fun h30 => (cg_nq dA h30 c28 s29 5 40 (fun q31 c33 s34 h32 => (cg_p h32 1 4 y0 (.ref q31) (fun h35 => (K h35 z0)))))))))))))
set_option maxRecDepth 100000 in
set_option maxHeartbeats 8000000 in
theorem cw_Tree_init (l : Launch) (D : va_G) (dA : Nat → ClassId) (s0 : State) (hW : ms_EW D dA s0) (y0 : Nat) (rc rs : Nat) (h0 : hm_T) (z0 : hz_T) (K : hm_T → hz_T → Prop) (hg : w_Tree_init dA y0 rc rs K h0 z0) : ht_C l D s0 yM241 bM241 1 (Option.none : Option Jvm.ClassFile.FieldType) (1) (12) rc rs [.ref y0] (fun h z => h = h0 ∧ z = z0) (fun h z vv h1 z1 => vv = none ∧ K h1 z1) := by
  have hE := hW.1
  refine ht_C.mk hE.1 (by decide) (Nat.le_of_ble_eq_true rfl) [(0, .ref y0)] rfl ?_
  intro p e s m below meth c ls h z X hin hpre I hl
  have hx := X.1
  have hb := X.2.1
  have hml := X.2.2.1
  have hown : s.vm.findClass "MarkupStore$Tree" = some m.cls := X.2.2.2.1
  have hts := X.2.2.2.2.2.2.1
  have hK := X.2.2.2.2.2.2.2.2.1
  rw [hpre.1, hpre.2] at I
  clear hpre
  have hF := hg
  unfold w_Tree_init at hF
  clear h z
  have hc : 0 + rc ≤ rc := by omega
  have hs : 0 + rs ≤ rs := by omega
  refine lv_aload_n hx hb d241_0 rfl (lv_at hl 0 rfl) ?_
  refine W.objInit hx hb hown (hts _ ms_k77) (hts _ ms_k37) (hts _ ms_k38) rfl (by rw [hml]; exact hl.1) rfl d241_1 (Nat.le_of_ble_eq_true rfl) (Nat.le_of_ble_eq_true rfl) ?_
  refine W.eq (g2 := F0 m 4 ls []) rfl ?_
  refine lv_aload_n hx hb d241_4 rfl (lv_at hl 0 rfl) ?_
  refine lv_sipush (v := 200) hx hb d241_5 (by decide) ?_
  obtain ⟨N9, c23, s24, eN, bN, ec, es, hF⟩ := hF
  refine ms_top (y := nI N9) eN ?_
  refine hm_mkq (nm := "[LMarkupStore$Node;") (N' := N9) (C := "MarkupStore$Node") X I ms_k78 (ms_ao hE.2.1 X) 5 rfl (by decide) (nI_pos (by omega)) (nI_clamp (by omega)) (by omega) (rm_u hc ec).1 (rm_u hs es).1 d241_8 (fun q21 h22 H v9 e9 f9 I => ?_)
  have hF := hF q21 v9
  rw [← hm_eqU e9 f9] at hF
  clear e9 f9 v9 eN bN
  have hc := (rm_u hc ec).2
  have hs := (rm_u hs es).2
  clear ec es
  obtain ⟨fs9, c9, k9, hF⟩ := hF
  refine hm_putF (ci := 1) (v := .ref q21) (ty := (.array (.object "MarkupStore$Node"))) (C := kR1) (T := kT1) (N := 6) X I ku1 kt1 kp1 kn1 c9 rfl 0 (by decide) ms_k80 (fun _ h => h) rfl hin rfl (by decide +kernel) rfl rfl k9 d241_11 (fun h25 H locs e9 f9 I => ?_)
  rw [← hm_eqU e9 f9] at hF
  clear e9 f9 c9 k9
  refine lv_aload_n hx hb d241_14 rfl (lv_at hl 0 rfl) ?_
  refine lv_bipush (v := 40) hx hb d241_15 (by decide) ?_
  obtain ⟨N9, c28, s29, eN, bN, ec, es, hF⟩ := hF
  refine ms_top (y := nI N9) eN ?_
  refine hm_mkq (nm := "[LMarkupStore$Node;") (N' := N9) (C := "MarkupStore$Node") X I ms_k78 (ms_ao hE.2.1 X) 5 rfl (by decide) (nI_pos (by omega)) (nI_clamp (by omega)) (by omega) (rm_u hc ec).1 (rm_u hs es).1 d241_17 (fun q26 h27 H v9 e9 f9 I => ?_)
  have hF := hF q26 v9
  rw [← hm_eqU e9 f9] at hF
  clear e9 f9 v9 eN bN
  have hc := (rm_u hc ec).2
  have hs := (rm_u hs es).2
  clear ec es
  obtain ⟨fs9, c9, k9, hF⟩ := hF
  refine hm_putF (ci := 1) (v := .ref q26) (ty := (.array (.object "MarkupStore$Node"))) (C := kR1) (T := kT1) (N := 6) X I ku1 kt1 kp1 kn1 c9 rfl 2 (by decide) ms_k82 (fun _ h => h) rfl hin rfl (by decide +kernel) rfl rfl k9 d241_20 (fun h30 H locs e9 f9 I => ?_)
  rw [← hm_eqU e9 f9] at hF
  clear e9 f9 c9 k9
  refine lv_aload_n hx hb d241_23 rfl (lv_at hl 0 rfl) ?_
  refine lv_bipush (v := 40) hx hb d241_24 (by decide) ?_
  obtain ⟨N9, c33, s34, eN, bN, ec, es, hF⟩ := hF
  refine ms_top (y := nI N9) eN ?_
  refine hm_mkq (nm := "[LMarkupStore$Node;") (N' := N9) (C := "MarkupStore$Node") X I ms_k78 (ms_ao hE.2.1 X) 5 rfl (by decide) (nI_pos (by omega)) (nI_clamp (by omega)) (by omega) (rm_u hc ec).1 (rm_u hs es).1 d241_26 (fun q31 h32 H v9 e9 f9 I => ?_)
  have hF := hF q31 v9
  rw [← hm_eqU e9 f9] at hF
  clear e9 f9 v9 eN bN
  have hc := (rm_u hc ec).2
  have hs := (rm_u hs es).2
  clear ec es
  obtain ⟨fs9, c9, k9, hF⟩ := hF
  refine hm_putF (ci := 1) (v := .ref q31) (ty := (.array (.object "MarkupStore$Node"))) (C := kR1) (T := kT1) (N := 6) X I ku1 kt1 kp1 kn1 c9 rfl 4 (by decide) ms_k90 (fun _ h => h) rfl hin rfl (by decide +kernel) rfl rfl k9 d241_29 (fun h35 H locs e9 f9 I => ?_)
  rw [← hm_eqU e9 f9] at hF
  clear e9 f9 c9 k9
  exact ht_vret X d241_32 I (rm_r hc) (rm_r hs) ⟨rfl, hF⟩

def w_Walker_prepare_83 (dA : Nat → ClassId) (P : Nat → Option Nat → Nat → Nat → (hm_T → hz_T → Prop) → hm_T → hz_T → Prop) (y0 : Nat) (K : hm_T → hz_T → Prop) (k2 : Option Nat → Int32 → Nat → Nat → hm_T → hz_T → Prop) : Nat → Option Nat → Int32 → Option Nat → Int32 → Nat → Nat → hm_T → hz_T → Prop
  | 0, _, _, _, _, _, _, _, _ => False
  | n9 + 1, x1, x2, x3, x4, cr, sr, h, z => (cg_d x3 (fun a32 => (cg_R h 12 3 a32 (fun v33 => (cg_d v33 (fun a34 => (jd_sz h a34 (fun v35 => (if v35 ≤ x4 then (k2 x1 (x2 + 1) cr sr h z) else (cg_d x3 (fun a36 => (cg_R h 12 3 a36 (fun v37 => (cg_d v37 (fun a38 => (jd_get dA h a38 x4 (fun v39 => (cg_c h 13 v39 (cg_c h 14 y0 (cg_rm cr sr (fun c43 s44 c45 s46 => P y0 (some v39) c43 s44 (fun h41 z42 => ((w_Walker_prepare_83 dA P y0 K k2 n9) x1 x2 x3 (x4 + 1) c45 s46 h41 z42)) h z)))))))))))))))))))))
def w_Walker_prepare_70 (dA : Nat → ClassId) (P : Nat → Option Nat → Nat → Nat → (hm_T → hz_T → Prop) → hm_T → hz_T → Prop) (y0 : Nat) (K : hm_T → hz_T → Prop) (k2 : Option Nat → Int32 → Nat → Nat → hm_T → hz_T → Prop) (k28 : Option Nat → Int32 → Option Nat → Int32 → Nat → Nat → hm_T → hz_T → Prop) (x1 : Option Nat) (x2 : Int32) (x3 : Option Nat) (x4 : Int32) (w0 : Int64) (w1 : Int64) (w2 : Option Nat) (cr sr : Nat) (h : hm_T) (z : hz_T) : Prop := (cg_d w2 (fun a58 => (cg_p h 12 4 a58 (.long (w1 ||| w0)) (fun h59 => (k28 x1 x2 x3 (x4 + 1) cr sr h59 z)))))
def w_Walker_prepare_28 (dA : Nat → ClassId) (P : Nat → Option Nat → Nat → Nat → (hm_T → hz_T → Prop) → hm_T → hz_T → Prop) (y0 : Nat) (K : hm_T → hz_T → Prop) (k2 : Option Nat → Int32 → Nat → Nat → hm_T → hz_T → Prop) : Nat → Option Nat → Int32 → Option Nat → Int32 → Nat → Nat → hm_T → hz_T → Prop
  | 0, _, _, _, _, _, _, _, _ => False
  | n9 + 1, x1, x2, x3, x4, cr, sr, h, z => (cg_R h 14 0 y0 (fun v29 => (cg_d v29 (fun a30 => (cg_I h 1 3 a30 (fun v31 => (if v31 ≤ x4 then (w_Walker_prepare_83 dA P y0 K k2 mF x1 x2 x3 0 cr sr h z) else (cg_d x3 (fun a47 => (cg_L h 12 4 a47 (fun v48 => (cg_R h 14 0 y0 (fun v49 => (cg_d v49 (fun a50 => (cg_R h 1 2 a50 (fun v51 => (cg_d v51 (fun a52 => (cg_ar dA h 5 a52 x4 (fun v53 => (cg_d x3 (fun a54 => (cg_c h 12 a54 (w_Step_takes dA a54 v53 (fun v55 h56 z57 => (if v55 = 0 then (w_Walker_prepare_70 dA P y0 K k2 (w_Walker_prepare_28 dA P y0 K k2 n9) x1 x2 x3 x4 (0 : Int64) v48 x3 cr sr h56 z57) else (w_Walker_prepare_70 dA P y0 K k2 (w_Walker_prepare_28 dA P y0 K k2 n9) x1 x2 x3 x4 ((1 : Int64) <<< (x4.toInt64 &&& 63)) v48 x3 cr sr h56 z57))) h z)))))))))))))))))))))))))
def w_Walker_prepare_2 (dA : Nat → ClassId) (P : Nat → Option Nat → Nat → Nat → (hm_T → hz_T → Prop) → hm_T → hz_T → Prop) (y0 : Nat) (K : hm_T → hz_T → Prop) : Nat → Option Nat → Int32 → Nat → Nat → hm_T → hz_T → Prop
  | 0, _, _, _, _, _, _ => False
  | n9 + 1, x1, x2, cr, sr, h, z => (cg_d x1 (fun a21 => (cg_R h 11 1 a21 (fun v22 => (cg_d v22 (fun a23 => (jd_sz h a23 (fun v24 => (if v24 ≤ x2 then (K h z) else (cg_d x1 (fun a25 => (cg_R h 11 1 a25 (fun v26 => (cg_d v26 (fun a27 => (jd_get dA h a27 x2 (fun v28 => (cg_c h 12 v28 (w_Walker_prepare_28 dA P y0 K (w_Walker_prepare_2 dA P y0 K n9) mF x1 x2 (some v28) 0 cr sr h z)))))))))))))))))))
def w_Walker_prepare (dA : Nat → ClassId) (P : Nat → Option Nat → Nat → Nat → (hm_T → hz_T → Prop) → hm_T → hz_T → Prop) (y0 : Nat) (y1 : Option Nat) (rc rs : Nat) (K : hm_T → hz_T → Prop) (h0 : hm_T) (z0 : hz_T) : Prop := (w_Walker_prepare_2 dA P y0 K mF y1 0 rc rs h0 z0)
set_option maxRecDepth 100000 in
set_option maxHeartbeats 8000000 in
theorem cw_Walker_prepare (l : Launch) (D : va_G) (dA : Nat → ClassId) (s0 : State) (hW : ms_EW D dA s0) (P : Nat → Option Nat → Nat → Nat → (hm_T → hz_T → Prop) → hm_T → hz_T → Prop) (fP lP : Nat) (hP : ∀ (a0_ : Nat) (a1_ : Option Nat) (c1 s1 : Nat) (h0 : hm_T) (z0 : hz_T) (K : hm_T → hz_T → Prop), P a0_ a1_ c1 s1 K h0 z0 → ht_C l D s0 yM243 bM243 2 (Option.none : Option Jvm.ClassFile.FieldType) fP lP c1 s1 [.ref a0_, va_rf a1_] (fun h z => h = h0 ∧ z = z0) (fun h z vv h1 z1 => vv = none ∧ K h1 z1)) (y0 : Nat) (y1 : Option Nat) (rc rs : Nat) (h0 : hm_T) (z0 : hz_T) (K : hm_T → hz_T → Prop) (hg : w_Walker_prepare dA P y0 y1 rc rs K h0 z0) : ht_C l D s0 yM242 bM242 5 (Option.none : Option Jvm.ClassFile.FieldType) (fP + 3) (lP + 65) rc rs [.ref y0, va_rf y1] (fun h z => h = h0 ∧ z = z0) (fun h z vv h1 z1 => vv = none ∧ K h1 z1) := by
  have hE := hW.1
  refine ht_C.mk hE.1 (by decide) (by simp [lg_sl, cat_rf, cat_int, cat_ref, cat_null, cat_long]) [(0, .ref y0), (1, va_rf y1)] (by simp [lv_args, cat_rf, cat_int, cat_ref, cat_null, cat_long]) ?_
  intro p e s m below meth c ls h z X hin hpre I hl
  have hx := X.1
  have hb := X.2.1
  have hml := X.2.2.1
  have hown : s.vm.findClass "MarkupStore$Walker" = some m.cls := X.2.2.2.1
  have hts := X.2.2.2.2.2.2.1
  have hK := X.2.2.2.2.2.2.2.2.1
  rw [hpre.1, hpre.2] at I
  clear hpre
  have b83 : ∀ (k2 : Option Nat → Int32 → Nat → Nat → hm_T → hz_T → Prop), (∀ (ls : Array Slot) (x1 : Option Nat) (x2 : Int32) (cr sr cu su : Nat) (h : hm_T) (z : hz_T) (H : Heap) (locs : List Loc), k2 x1 x2 cr sr h z → cu + cr ≤ rc → su + sr ≤ rs → lv_has ls 5 [(0, .ref y0), (1, va_rf x1), (2, .int x2)] → hm_I D s0 s h z H locs → W p l e { frames := fP + 3, cells := rc, slots := rs, locals := lP + 65 } s m ([.ref y0, va_rf y1] : List Value).toArray below meth c H locs cu su (MQ below (ht_Q D s0 (fun vv h1 z1 => vv = none ∧ K h1 z1)) ([.ref y0, va_rf y1] : List Value).toArray s rc rs (fun q => s0.heap.size ≤ q)) (F0 m 2 ls [])) → ∀ n9 : Nat, ∀ (ls : Array Slot) (x1 : Option Nat) (x2 : Int32) (x3 : Option Nat) (x4 : Int32) (cr sr cu su : Nat) (h : hm_T) (z : hz_T) (H : Heap) (locs : List Loc), w_Walker_prepare_83 dA P y0 K k2 n9 x1 x2 x3 x4 cr sr h z → cu + cr ≤ rc → su + sr ≤ rs → lv_has ls 5 [(0, .ref y0), (1, va_rf x1), (2, .int x2), (3, va_rf x3), (4, .int x4)] → hm_I D s0 s h z H locs → W p l e { frames := fP + 3, cells := rc, slots := rs, locals := lP + 65 } s m ([.ref y0, va_rf y1] : List Value).toArray below meth c H locs cu su (MQ below (ht_Q D s0 (fun vv h1 z1 => vv = none ∧ K h1 z1)) ([.ref y0, va_rf y1] : List Value).toArray s rc rs (fun q => s0.heap.size ≤ q)) (F0 m 83 ls []) := by
    intro k2 hk2 n9
    induction n9 with
    | zero => intro ls x1 x2 x3 x4 cr sr cu su h z H locs hF; cases hF
    | succ n9 hk83 =>
    intro ls x1 x2 x3 x4 cr sr cu su h z H locs hF hc hs hl I
    unfold w_Walker_prepare_83 at hF
    refine lv_iload hx hb d242_83 (lv_at hl 4 rfl) ?_
    refine lv_aload_nR hx hb d242_85 rfl (lv_at hl 3 rfl) ?_
    obtain ⟨a32, e9, hF⟩ := hF
    refine W.eq (g2 := F0 m 86 ls [.ref a32, .int x4]) (by rw [e9]; rfl) ?_
    clear e9
    obtain ⟨fs9, v33, c9, e9, hF⟩ := hF
    refine va_get (D := D) (ci := 12) (v := va_rf v33) (C := kR12) (T := kT12) (N := 5) hx hb hts ku12 hown hK (hm_one I.1 c9) 0 rfl rfl 3 (by decide) (hts _ ms_k931) (fun _ h => h) e9 d242_86 ?_
    clear e9 c9 fs9
    obtain ⟨a34, e9, hF⟩ := hF
    refine W.eq (g2 := F0 m 89 ls [.ref a34, .int x4]) (by rw [e9]; rfl) ?_
    clear e9
    obtain ⟨d9, k9, mo9, c9, hF⟩ := hF
    refine ht_V (C := "java/util/ArrayList") (rest := [.int x4]) (as := []) X hl (c_ALsize l D dA s0 hE a34 d9 k9 mo9) (List.forall_mem_cons.mpr ⟨ms_k1096, List.forall_mem_cons.mpr ⟨ms_k595, List.forall_mem_cons.mpr ⟨ms_k596, List.forall_mem_cons.mpr ⟨ms_k18, List.forall_mem_cons.mpr ⟨ms_k597, fun _ h => absurd h List.not_mem_nil⟩⟩⟩⟩⟩) ⟨rfl, by decide +kernel, by decide +kernel, (by decide +kernel : (parseMethodDescriptor "()I").map (fun d => d.parameters.length) = some 0)⟩ (hm_recv hK I rfl c9) I c9 ⟨⟨by show _ ≤ fP + 3; omega, by show _ ≤ lP + 65; omega⟩, rm_0 hc, rm_0 hs⟩ rfl (Nat.le_of_ble_eq_true rfl) d242_89 (fun vv h9 z7 H locs hR I9 => ?_)
    obtain ⟨e1, e2, e3⟩ := hR
    rw [e2, e3] at I9
    subst e1
    clear I
    have I := I9
    clear I9 e2 e3 h9 z7
    refine W.eq (g2 := F0 m 92 ls [.int (nI k9), .int x4]) rfl ?_
    generalize (nI k9) = v35 at hF ⊢
    refine lv_icmp_ge hx hb d242_92 rfl (fun h9 => ?_) (fun h9 => ?_)
    · have hF := Eq.mp (if_pos h9) hF
      refine lv_iinc (k := 2) (v := (x2 + 1)) hx hb d242_117 hl rfl (rfl) (by decide) (show _ = [(2, .int (x2 + 1)), (0, .ref y0), (1, va_rf x1), (3, va_rf x3), (4, .int x4)] by simp [cat_rf, cat_int, cat_ref, cat_null, cat_long]) (fun ls hl => ?_)
      have hl : lv_has ls 5 [(2, .int (x2 + 1)), (0, .ref y0), (1, va_rf x1), (3, va_rf x3), (4, .int x4)] := hl
      refine lv_goto hx hb d242_120 rfl ?_
      exact hk2 ls x1 (x2 + 1) cr sr _ _ h z _ _ hF hc hs (hl.sub [1, 2, 0] rfl) I
    · have hF := Eq.mp (if_neg h9) hF
      refine lv_aload_n hx hb d242_95 rfl (lv_at hl 0 rfl) ?_
      refine lv_aload_nR hx hb d242_96 rfl (lv_at hl 3 rfl) ?_
      obtain ⟨a36, e9, hF⟩ := hF
      refine W.eq (g2 := F0 m 97 ls [.ref a36, .ref y0]) (by rw [e9]; rfl) ?_
      clear e9
      obtain ⟨fs9, v37, c9, e9, hF⟩ := hF
      refine va_get (D := D) (ci := 12) (v := va_rf v37) (C := kR12) (T := kT12) (N := 5) hx hb hts ku12 hown hK (hm_one I.1 c9) 0 rfl rfl 3 (by decide) (hts _ ms_k931) (fun _ h => h) e9 d242_97 ?_
      clear e9 c9 fs9
      refine lv_iload hx hb d242_100 (lv_at hl 4 rfl) ?_
      obtain ⟨a38, e9, hF⟩ := hF
      refine W.eq (g2 := F0 m 102 ls [.int x4, .ref a38, .ref y0]) (by rw [e9]; rfl) ?_
      clear e9
      obtain ⟨d9, k9, mo9, n8, j9, q9, f8, c9, c8, e8, p1, p2, p3, p4, hF⟩ := hF
      refine ms_top (y := nI j9) e8 ?_
      refine ht_V (C := "java/util/ArrayList") (rest := [.ref y0]) (as := [.int (nI j9)]) X hl (c_ALget l D dA s0 hE a38 d9 k9 mo9 n8 j9 q9 f8 p1 p2 p3 p4) (List.forall_mem_cons.mpr ⟨ms_k1097, List.forall_mem_cons.mpr ⟨ms_k599, List.forall_mem_cons.mpr ⟨ms_k600, List.forall_mem_cons.mpr ⟨ms_k18, List.forall_mem_cons.mpr ⟨ms_k601, fun _ h => absurd h List.not_mem_nil⟩⟩⟩⟩⟩) ⟨rfl, by decide +kernel, by decide +kernel, (by decide +kernel : (parseMethodDescriptor "(I)Ljava/lang/Object;").map (fun d => d.parameters.length) = some 1)⟩ (hm_recv hK I rfl c9) I ⟨c9, c8⟩ ⟨⟨by show _ ≤ fP + 3; omega, by show _ ≤ lP + 65; omega⟩, rm_0 hc, rm_0 hs⟩ rfl (Nat.le_of_ble_eq_true rfl) d242_102 (fun vv h9 z7 H locs hR I9 => ?_)
      obtain ⟨e1, e2, e3⟩ := hR
      rw [e2, e3] at I9
      subst e1
      clear I
      have I := I9
      clear I9 e2 e3 h9 z7
      refine W.eq (g2 := F0 m 105 ls [.ref q9, .ref y0]) rfl ?_
      generalize q9 = v39 at hF ⊢
      try clear p4
      obtain ⟨fs9, c9, hF⟩ := hF
      refine va_castE hx hb hown (hts _ ms_k1104) (hm_recv hK I rfl c9) d242_105 ?_
      clear c9 fs9
      obtain ⟨fs9, c9, hF⟩ := hF
      obtain ⟨c43, s44, c45, s46, ec, es, hF⟩ := hF
      refine ht_V (C := "MarkupStore$Walker") (rest := []) (as := [.ref v39]) X hl (hP y0 (some v39) c43 s44 h z _ hF) (List.forall_mem_cons.mpr ⟨ms_k1105, List.forall_mem_cons.mpr ⟨ms_k1107, List.forall_mem_cons.mpr ⟨ms_p24, List.forall_mem_cons.mpr ⟨ms_k28, List.forall_mem_cons.mpr ⟨ms_k1108, fun _ h => absurd h List.not_mem_nil⟩⟩⟩⟩⟩) ⟨rfl, by decide +kernel, by decide +kernel, (by decide +kernel : (parseMethodDescriptor "(LMarkupStore$Predicate;)V").map (fun d => d.parameters.length) = some 1)⟩ (hm_recv hK I rfl c9) I ⟨rfl, rfl⟩ ⟨⟨by show _ ≤ fP + 3; omega, by show _ ≤ lP + 65; omega⟩, (rm_u hc ec).1, (rm_u hs es).1⟩ rfl (Nat.le_of_ble_eq_true rfl) d242_108 (fun vv h41 z42 H locs hR I9 => ?_)
      obtain ⟨e1, hF⟩ := hR
      subst e1
      clear I
      have I := I9
      clear I9 c9 fs9
      have hc := (rm_u hc ec).2
      have hs := (rm_u hs es).2
      clear ec es
      refine W.eq (g2 := F0 m 111 ls []) rfl ?_
      refine lv_iinc (k := 4) (v := (x4 + 1)) hx hb d242_111 hl rfl (rfl) (by decide) (show _ = [(4, .int (x4 + 1)), (0, .ref y0), (1, va_rf x1), (2, .int x2), (3, va_rf x3)] by simp [cat_rf, cat_int, cat_ref, cat_null, cat_long]) (fun ls hl => ?_)
      have hl : lv_has ls 5 [(4, .int (x4 + 1)), (0, .ref y0), (1, va_rf x1), (2, .int x2), (3, va_rf x3)] := hl
      refine lv_goto hx hb d242_114 rfl ?_
      exact hk83 ls x1 x2 x3 (x4 + 1) c45 s46 _ _ h41 z42 _ _ hF hc hs (hl.sub [1, 2, 3, 4, 0] rfl) I
  have b70 : ∀ (k2 : Option Nat → Int32 → Nat → Nat → hm_T → hz_T → Prop), (∀ (ls : Array Slot) (x1 : Option Nat) (x2 : Int32) (cr sr cu su : Nat) (h : hm_T) (z : hz_T) (H : Heap) (locs : List Loc), k2 x1 x2 cr sr h z → cu + cr ≤ rc → su + sr ≤ rs → lv_has ls 5 [(0, .ref y0), (1, va_rf x1), (2, .int x2)] → hm_I D s0 s h z H locs → W p l e { frames := fP + 3, cells := rc, slots := rs, locals := lP + 65 } s m ([.ref y0, va_rf y1] : List Value).toArray below meth c H locs cu su (MQ below (ht_Q D s0 (fun vv h1 z1 => vv = none ∧ K h1 z1)) ([.ref y0, va_rf y1] : List Value).toArray s rc rs (fun q => s0.heap.size ≤ q)) (F0 m 2 ls [])) → ∀ (k28 : Option Nat → Int32 → Option Nat → Int32 → Nat → Nat → hm_T → hz_T → Prop), (∀ (ls : Array Slot) (x1 : Option Nat) (x2 : Int32) (x3 : Option Nat) (x4 : Int32) (cr sr cu su : Nat) (h : hm_T) (z : hz_T) (H : Heap) (locs : List Loc), k28 x1 x2 x3 x4 cr sr h z → cu + cr ≤ rc → su + sr ≤ rs → lv_has ls 5 [(0, .ref y0), (1, va_rf x1), (2, .int x2), (3, va_rf x3), (4, .int x4)] → hm_I D s0 s h z H locs → W p l e { frames := fP + 3, cells := rc, slots := rs, locals := lP + 65 } s m ([.ref y0, va_rf y1] : List Value).toArray below meth c H locs cu su (MQ below (ht_Q D s0 (fun vv h1 z1 => vv = none ∧ K h1 z1)) ([.ref y0, va_rf y1] : List Value).toArray s rc rs (fun q => s0.heap.size ≤ q)) (F0 m 28 ls [])) → ∀ (ls : Array Slot) (x1 : Option Nat) (x2 : Int32) (x3 : Option Nat) (x4 : Int32) (w0 : Int64) (w1 : Int64) (w2 : Option Nat) (cr sr cu su : Nat) (h : hm_T) (z : hz_T) (H : Heap) (locs : List Loc), w_Walker_prepare_70 dA P y0 K k2 k28 x1 x2 x3 x4 w0 w1 w2 cr sr h z → cu + cr ≤ rc → su + sr ≤ rs → lv_has ls 5 [(0, .ref y0), (1, va_rf x1), (2, .int x2), (3, va_rf x3), (4, .int x4)] → hm_I D s0 s h z H locs → W p l e { frames := fP + 3, cells := rc, slots := rs, locals := lP + 65 } s m ([.ref y0, va_rf y1] : List Value).toArray below meth c H locs cu su (MQ below (ht_Q D s0 (fun vv h1 z1 => vv = none ∧ K h1 z1)) ([.ref y0, va_rf y1] : List Value).toArray s rc rs (fun q => s0.heap.size ≤ q)) (F0 m 70 ls [.long w0, .long w1, va_rf w2]) := by
    intro k2 hk2 k28 hk28 ls x1 x2 x3 x4 w0 w1 w2 cr sr cu su h z H locs hF hc hs hl I
    unfold w_Walker_prepare_70 at hF
    refine lv_lor hx hb d242_70 ?_
    obtain ⟨a58, e9, hF⟩ := hF
    refine W.eq (g2 := F0 m 71 ls [.long (w1 ||| w0), .ref a58]) (by rw [e9]; rfl) ?_
    clear e9
    obtain ⟨fs9, c9, k9, hF⟩ := hF
    refine hm_put (ci := 12) (v := .long (w1 ||| w0)) (ty := .long) (C := kR12) (T := kT12) (N := 5) X I ku12 kt12 kp12 kn12 c9 rfl 4 (by decide) ms_k934 (fun _ h => h) rfl (by decide +kernel) rfl rfl k9 d242_71 (fun h59 H locs e9 f9 I => ?_)
    rw [← hm_eqU e9 f9] at hF
    clear e9 f9 c9 k9
    refine lv_iinc (k := 4) (v := (x4 + 1)) hx hb d242_74 hl rfl (rfl) (by decide) (show _ = [(4, .int (x4 + 1)), (0, .ref y0), (1, va_rf x1), (2, .int x2), (3, va_rf x3)] by simp [cat_rf, cat_int, cat_ref, cat_null, cat_long]) (fun ls hl => ?_)
    have hl : lv_has ls 5 [(4, .int (x4 + 1)), (0, .ref y0), (1, va_rf x1), (2, .int x2), (3, va_rf x3)] := hl
    refine lv_goto hx hb d242_77 rfl ?_
    exact hk28 ls x1 x2 x3 (x4 + 1) cr sr _ _ h59 z _ _ hF hc hs (hl.sub [1, 2, 3, 4, 0] rfl) I
  have b28 : ∀ (k2 : Option Nat → Int32 → Nat → Nat → hm_T → hz_T → Prop), (∀ (ls : Array Slot) (x1 : Option Nat) (x2 : Int32) (cr sr cu su : Nat) (h : hm_T) (z : hz_T) (H : Heap) (locs : List Loc), k2 x1 x2 cr sr h z → cu + cr ≤ rc → su + sr ≤ rs → lv_has ls 5 [(0, .ref y0), (1, va_rf x1), (2, .int x2)] → hm_I D s0 s h z H locs → W p l e { frames := fP + 3, cells := rc, slots := rs, locals := lP + 65 } s m ([.ref y0, va_rf y1] : List Value).toArray below meth c H locs cu su (MQ below (ht_Q D s0 (fun vv h1 z1 => vv = none ∧ K h1 z1)) ([.ref y0, va_rf y1] : List Value).toArray s rc rs (fun q => s0.heap.size ≤ q)) (F0 m 2 ls [])) → ∀ n9 : Nat, ∀ (ls : Array Slot) (x1 : Option Nat) (x2 : Int32) (x3 : Option Nat) (x4 : Int32) (cr sr cu su : Nat) (h : hm_T) (z : hz_T) (H : Heap) (locs : List Loc), w_Walker_prepare_28 dA P y0 K k2 n9 x1 x2 x3 x4 cr sr h z → cu + cr ≤ rc → su + sr ≤ rs → lv_has ls 5 [(0, .ref y0), (1, va_rf x1), (2, .int x2), (3, va_rf x3), (4, .int x4)] → hm_I D s0 s h z H locs → W p l e { frames := fP + 3, cells := rc, slots := rs, locals := lP + 65 } s m ([.ref y0, va_rf y1] : List Value).toArray below meth c H locs cu su (MQ below (ht_Q D s0 (fun vv h1 z1 => vv = none ∧ K h1 z1)) ([.ref y0, va_rf y1] : List Value).toArray s rc rs (fun q => s0.heap.size ≤ q)) (F0 m 28 ls []) := by
    intro k2 hk2 n9
    induction n9 with
    | zero => intro ls x1 x2 x3 x4 cr sr cu su h z H locs hF; cases hF
    | succ n9 hk28 =>
    intro ls x1 x2 x3 x4 cr sr cu su h z H locs hF hc hs hl I
    unfold w_Walker_prepare_28 at hF
    refine lv_iload hx hb d242_28 (lv_at hl 4 rfl) ?_
    refine lv_aload_n hx hb d242_30 rfl (lv_at hl 0 rfl) ?_
    obtain ⟨fs9, v29, c9, e9, hF⟩ := hF
    refine va_get (D := D) (ci := 14) (v := va_rf v29) (C := kR14) (T := kT14) (N := 1) hx hb hts ku14 hown hK (hm_one I.1 c9) 0 rfl rfl 0 (by decide) (hts _ ms_k1088) (fun _ h => h) e9 d242_31 ?_
    clear e9 c9 fs9
    obtain ⟨a30, e9, hF⟩ := hF
    refine W.eq (g2 := F0 m 34 ls [.ref a30, .int x4]) (by rw [e9]; rfl) ?_
    clear e9
    obtain ⟨fs9, v31, c9, e9, hF⟩ := hF
    refine va_get (D := D) (ci := 1) (v := .int v31) (C := kR1) (T := kT1) (N := 6) hx hb hts ku1 hown hK (hm_one I.1 c9) 0 rfl rfl 3 (by decide) (hts _ ms_k88) (fun _ h => h) e9 d242_34 ?_
    clear e9 c9 fs9
    refine lv_icmp_ge hx hb d242_37 rfl (fun h9 => ?_) (fun h9 => ?_)
    · have hF := Eq.mp (if_pos h9) hF
      refine lv_iconst (v := 0) hx hb d242_80 (by decide) ?_
      refine lv_istore (i := 4) hx hb d242_81 hl (by decide) (show _ = [(4, .int 0), (0, .ref y0), (1, va_rf x1), (2, .int x2), (3, va_rf x3)] by simp [cat_rf, cat_int, cat_ref, cat_null, cat_long]) (fun ls hl => ?_)
      have hl : lv_has ls 5 [(4, .int 0), (0, .ref y0), (1, va_rf x1), (2, .int x2), (3, va_rf x3)] := hl
      exact b83 k2 hk2 mF ls x1 x2 x3 0 cr sr _ _ h z _ _ hF hc hs (hl.sub [1, 2, 3, 4, 0] rfl) I
    · have hF := Eq.mp (if_neg h9) hF
      refine lv_aload_nR hx hb d242_40 rfl (lv_at hl 3 rfl) ?_
      refine lv_dup hx hb d242_41 (cat_rf _) ?_
      obtain ⟨a47, e9, hF⟩ := hF
      refine W.eq (g2 := F0 m 42 ls [.ref a47, va_rf x3]) (by rw [e9]; rfl) ?_
      clear e9
      obtain ⟨fs9, v48, c9, e9, hF⟩ := hF
      refine va_get (D := D) (ci := 12) (v := .long v48) (C := kR12) (T := kT12) (N := 5) hx hb hts ku12 hown hK (hm_one I.1 c9) 0 rfl rfl 4 (by decide) (hts _ ms_k934) (fun _ h => h) e9 d242_42 ?_
      clear e9 c9 fs9
      refine lv_aload_nR hx hb d242_45 rfl (lv_at hl 3 rfl) ?_
      refine lv_aload_n hx hb d242_46 rfl (lv_at hl 0 rfl) ?_
      obtain ⟨fs9, v49, c9, e9, hF⟩ := hF
      refine va_get (D := D) (ci := 14) (v := va_rf v49) (C := kR14) (T := kT14) (N := 1) hx hb hts ku14 hown hK (hm_one I.1 c9) 0 rfl rfl 0 (by decide) (hts _ ms_k1088) (fun _ h => h) e9 d242_47 ?_
      clear e9 c9 fs9
      obtain ⟨a50, e9, hF⟩ := hF
      refine W.eq (g2 := F0 m 50 ls [.ref a50, va_rf x3, .long v48, va_rf x3]) (by rw [e9]; rfl) ?_
      clear e9
      obtain ⟨fs9, v51, c9, e9, hF⟩ := hF
      refine va_get (D := D) (ci := 1) (v := va_rf v51) (C := kR1) (T := kT1) (N := 6) hx hb hts ku1 hown hK (hm_one I.1 c9) 0 rfl rfl 2 (by decide) (hts _ ms_k84) (fun _ h => h) e9 d242_50 ?_
      clear e9 c9 fs9
      refine lv_iload hx hb d242_53 (lv_at hl 4 rfl) ?_
      obtain ⟨a52, e9, hF⟩ := hF
      refine W.eq (g2 := F0 m 55 ls [.int x4, .ref a52, va_rf x3, .long v48, va_rf x3]) (by rw [e9]; rfl) ?_
      clear e9
      obtain ⟨n8, f8, c9, i9, hF⟩ := hF
      refine va_aldq hx hb hK (hm_one I.1 c9) 0 5 rfl rfl i9 d242_55 ?_
      generalize f8 (Int32.toNatClampNeg x4) = v53 at hF ⊢
      clear c9 i9
      obtain ⟨a54, e9, hF⟩ := hF
      refine W.eq (g2 := F0 m 56 ls [va_rf v53, .ref a54, .long v48, va_rf x3]) (by rw [e9]; rfl) ?_
      clear e9
      obtain ⟨fs9, c9, hF⟩ := hF
      refine ht_V (C := "MarkupStore$Step") (rest := [.long v48, va_rf x3]) (as := [va_rf v53]) X hl (cw_Step_takes l D dA s0 hE a54 v53 h z _ hF) (List.forall_mem_cons.mpr ⟨ms_k1099, List.forall_mem_cons.mpr ⟨ms_k1100, List.forall_mem_cons.mpr ⟨ms_k1101, List.forall_mem_cons.mpr ⟨ms_k25, List.forall_mem_cons.mpr ⟨ms_k1102, fun _ h => absurd h List.not_mem_nil⟩⟩⟩⟩⟩) ⟨rfl, by decide +kernel, by decide +kernel, (by decide +kernel : (parseMethodDescriptor "(LMarkupStore$Node;)Z").map (fun d => d.parameters.length) = some 1)⟩ (hm_recv hK I rfl c9) I ⟨rfl, rfl⟩ ⟨⟨by show _ ≤ fP + 3; omega, by show _ ≤ lP + 65; omega⟩, rm_0 hc, rm_0 hs⟩ rfl (by simp [cat_rf, cat_int, cat_ref, cat_null, cat_long]) d242_56 (fun vv h56 z57 H locs hR I9 => ?_)
      obtain ⟨v55, e1, hF⟩ := hR
      subst e1
      clear I
      have I := I9
      clear I9 c9 fs9
      refine W.eq (g2 := F0 m 59 ls [.int v55, .long v48, va_rf x3]) rfl ?_
      refine lv_if_eq hx hb d242_59 rfl (fun h9 => ?_) (fun h9 => ?_)
      · have hF := Eq.mp (if_pos h9) hF
        refine lv_lconst (v := (0 : Int64)) hx hb d242_69 (by decide) ?_
        exact b70 k2 hk2 (w_Walker_prepare_28 dA P y0 K k2 n9) hk28 ls x1 x2 x3 x4 (0 : Int64) v48 x3 cr sr _ _ h56 z57 _ _ hF hc hs (hl.sub [0, 1, 2, 3, 4] rfl) I
      · have hF := Eq.mp (if_neg h9) hF
        refine lv_lconst (v := (1 : Int64)) hx hb d242_62 (by decide) ?_
        refine lv_iload hx hb d242_63 (lv_at hl 4 rfl) ?_
        refine lv_lshl (v := ((1 : Int64) <<< (x4.toInt64 &&& 63))) hx hb d242_65 rfl ?_
        refine lv_goto hx hb d242_66 rfl ?_
        exact b70 k2 hk2 (w_Walker_prepare_28 dA P y0 K k2 n9) hk28 ls x1 x2 x3 x4 ((1 : Int64) <<< (x4.toInt64 &&& 63)) v48 x3 cr sr _ _ h56 z57 _ _ hF hc hs (hl.sub [0, 1, 2, 3, 4] rfl) I
  have b2 : ∀ n9 : Nat, ∀ (ls : Array Slot) (x1 : Option Nat) (x2 : Int32) (cr sr cu su : Nat) (h : hm_T) (z : hz_T) (H : Heap) (locs : List Loc), w_Walker_prepare_2 dA P y0 K n9 x1 x2 cr sr h z → cu + cr ≤ rc → su + sr ≤ rs → lv_has ls 5 [(0, .ref y0), (1, va_rf x1), (2, .int x2)] → hm_I D s0 s h z H locs → W p l e { frames := fP + 3, cells := rc, slots := rs, locals := lP + 65 } s m ([.ref y0, va_rf y1] : List Value).toArray below meth c H locs cu su (MQ below (ht_Q D s0 (fun vv h1 z1 => vv = none ∧ K h1 z1)) ([.ref y0, va_rf y1] : List Value).toArray s rc rs (fun q => s0.heap.size ≤ q)) (F0 m 2 ls []) := by
    intro n9
    induction n9 with
    | zero => intro ls x1 x2 cr sr cu su h z H locs hF; cases hF
    | succ n9 hk2 =>
    intro ls x1 x2 cr sr cu su h z H locs hF hc hs hl I
    unfold w_Walker_prepare_2 at hF
    refine lv_iload_n hx hb d242_2 rfl (lv_at hl 2 rfl) ?_
    refine lv_aload_nR hx hb d242_3 rfl (lv_at hl 1 rfl) ?_
    obtain ⟨a21, e9, hF⟩ := hF
    refine W.eq (g2 := F0 m 4 ls [.ref a21, .int x2]) (by rw [e9]; rfl) ?_
    clear e9
    obtain ⟨fs9, v22, c9, e9, hF⟩ := hF
    refine va_get (D := D) (ci := 11) (v := va_rf v22) (C := kR11) (T := kT11) (N := 2) hx hb hts ku11 hown hK (hm_one I.1 c9) 0 rfl rfl 1 (by decide) (hts _ ms_k903) (fun _ h => h) e9 d242_4 ?_
    clear e9 c9 fs9
    obtain ⟨a23, e9, hF⟩ := hF
    refine W.eq (g2 := F0 m 7 ls [.ref a23, .int x2]) (by rw [e9]; rfl) ?_
    clear e9
    obtain ⟨d9, k9, mo9, c9, hF⟩ := hF
    refine ht_V (C := "java/util/ArrayList") (rest := [.int x2]) (as := []) X hl (c_ALsize l D dA s0 hE a23 d9 k9 mo9) (List.forall_mem_cons.mpr ⟨ms_k1096, List.forall_mem_cons.mpr ⟨ms_k595, List.forall_mem_cons.mpr ⟨ms_k596, List.forall_mem_cons.mpr ⟨ms_k18, List.forall_mem_cons.mpr ⟨ms_k597, fun _ h => absurd h List.not_mem_nil⟩⟩⟩⟩⟩) ⟨rfl, by decide +kernel, by decide +kernel, (by decide +kernel : (parseMethodDescriptor "()I").map (fun d => d.parameters.length) = some 0)⟩ (hm_recv hK I rfl c9) I c9 ⟨⟨by show _ ≤ fP + 3; omega, by show _ ≤ lP + 65; omega⟩, rm_0 hc, rm_0 hs⟩ rfl (Nat.le_of_ble_eq_true rfl) d242_7 (fun vv h9 z7 H locs hR I9 => ?_)
    obtain ⟨e1, e2, e3⟩ := hR
    rw [e2, e3] at I9
    subst e1
    clear I
    have I := I9
    clear I9 e2 e3 h9 z7
    refine W.eq (g2 := F0 m 10 ls [.int (nI k9), .int x2]) rfl ?_
    generalize (nI k9) = v24 at hF ⊢
    refine lv_icmp_ge hx hb d242_10 rfl (fun h9 => ?_) (fun h9 => ?_)
    · have hF := Eq.mp (if_pos h9) hF
      exact ht_vret X d242_123 I (rm_r hc) (rm_r hs) ⟨rfl, hF⟩
    · have hF := Eq.mp (if_neg h9) hF
      refine lv_aload_nR hx hb d242_13 rfl (lv_at hl 1 rfl) ?_
      obtain ⟨a25, e9, hF⟩ := hF
      refine W.eq (g2 := F0 m 14 ls [.ref a25]) (by rw [e9]; rfl) ?_
      clear e9
      obtain ⟨fs9, v26, c9, e9, hF⟩ := hF
      refine va_get (D := D) (ci := 11) (v := va_rf v26) (C := kR11) (T := kT11) (N := 2) hx hb hts ku11 hown hK (hm_one I.1 c9) 0 rfl rfl 1 (by decide) (hts _ ms_k903) (fun _ h => h) e9 d242_14 ?_
      clear e9 c9 fs9
      refine lv_iload_n hx hb d242_17 rfl (lv_at hl 2 rfl) ?_
      obtain ⟨a27, e9, hF⟩ := hF
      refine W.eq (g2 := F0 m 18 ls [.int x2, .ref a27]) (by rw [e9]; rfl) ?_
      clear e9
      obtain ⟨d9, k9, mo9, n8, j9, q9, f8, c9, c8, e8, p1, p2, p3, p4, hF⟩ := hF
      refine ms_top (y := nI j9) e8 ?_
      refine ht_V (C := "java/util/ArrayList") (rest := []) (as := [.int (nI j9)]) X hl (c_ALget l D dA s0 hE a27 d9 k9 mo9 n8 j9 q9 f8 p1 p2 p3 p4) (List.forall_mem_cons.mpr ⟨ms_k1097, List.forall_mem_cons.mpr ⟨ms_k599, List.forall_mem_cons.mpr ⟨ms_k600, List.forall_mem_cons.mpr ⟨ms_k18, List.forall_mem_cons.mpr ⟨ms_k601, fun _ h => absurd h List.not_mem_nil⟩⟩⟩⟩⟩) ⟨rfl, by decide +kernel, by decide +kernel, (by decide +kernel : (parseMethodDescriptor "(I)Ljava/lang/Object;").map (fun d => d.parameters.length) = some 1)⟩ (hm_recv hK I rfl c9) I ⟨c9, c8⟩ ⟨⟨by show _ ≤ fP + 3; omega, by show _ ≤ lP + 65; omega⟩, rm_0 hc, rm_0 hs⟩ rfl (Nat.le_of_ble_eq_true rfl) d242_18 (fun vv h9 z7 H locs hR I9 => ?_)
      obtain ⟨e1, e2, e3⟩ := hR
      rw [e2, e3] at I9
      subst e1
      clear I
      have I := I9
      clear I9 e2 e3 h9 z7
      refine W.eq (g2 := F0 m 21 ls [.ref q9]) rfl ?_
      generalize q9 = v28 at hF ⊢
      try clear p4
      obtain ⟨fs9, c9, hF⟩ := hF
      refine va_castE hx hb hown (hts _ ms_k1098) (hm_recv hK I rfl c9) d242_21 ?_
      clear c9 fs9
      refine lv_astore_n hx hb d242_24 rfl hl (by decide) rfl (fun ls hl => ?_)
      have hl : lv_has ls 5 [(3, .ref v28), (0, .ref y0), (1, va_rf x1), (2, .int x2)] := hl
      refine lv_iconst (v := 0) hx hb d242_25 (by decide) ?_
      refine lv_istore hx hb d242_26 hl (by decide) rfl (fun ls hl => ?_)
      have hl : lv_has ls 5 [(4, .int 0), (3, .ref v28), (0, .ref y0), (1, va_rf x1), (2, .int x2)] := hl
      exact b28 (w_Walker_prepare_2 dA P y0 K n9) hk2 mF ls x1 x2 (some v28) 0 cr sr _ _ h z _ _ hF hc hs (hl.sub [2, 3, 4, 1, 0] rfl) I
  have hF := hg
  unfold w_Walker_prepare at hF
  clear h z
  have hc : 0 + rc ≤ rc := by omega
  have hs : 0 + rs ≤ rs := by omega
  refine lv_iconst (v := 0) hx hb d242_0 (by decide) ?_
  refine lv_istore_n (i := 2) hx hb d242_1 rfl hl (by decide) (show _ = [(2, .int 0), (0, .ref y0), (1, va_rf y1)] by simp [cat_rf, cat_int, cat_ref, cat_null, cat_long]) (fun ls hl => ?_)
  have hl : lv_has ls 5 [(2, .int 0), (0, .ref y0), (1, va_rf y1)] := hl
  exact b2 mF ls y1 0 rc rs _ _ h0 z0 _ _ hF hc hs (hl.sub [1, 2, 0] rfl) I
