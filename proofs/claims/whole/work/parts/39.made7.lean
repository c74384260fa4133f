
def w_MarkupReader_readComment_36 (dA : Nat → ClassId) (y0 : Nat) (K : Int32 → hm_T → hz_T → Prop) (cr sr : Nat) (h : hm_T) (z : hz_T) : Prop := (K 0 h z)
def w_MarkupReader_readComment_184 (dA : Nat → ClassId) (y0 : Nat) (K : Int32 → hm_T → hz_T → Prop) (cr sr : Nat) (h : hm_T) (z : hz_T) : Prop := (K 0 h z)
def w_MarkupReader_readComment_150 (dA : Nat → ClassId) (y0 : Nat) (K : Int32 → hm_T → hz_T → Prop) (w0 : Int32) (cr sr : Nat) (h : hm_T) (z : hz_T) : Prop := (cg_z w0 (cg_p h 6 5 y0 (.int w0) (fun h56 => (cg_c h56 6 y0 (w_TextReader_take6 dA y0 45 (fun v57 h58 z59 => (if v57 = 0 then (w_MarkupReader_readComment_184 dA y0 K cr sr h58 z59) else (cg_c h58 6 y0 (w_TextReader_take6 dA y0 45 (fun v60 h61 z62 => (if v60 = 0 then (w_MarkupReader_readComment_184 dA y0 K cr sr h61 z62) else (cg_c h61 6 y0 (w_TextReader_take6 dA y0 62 (fun v63 h64 z65 => (if v63 = 0 then (w_MarkupReader_readComment_184 dA y0 K cr sr h64 z65) else (K 1 h64 z65))) h61 z62)))) h58 z59)))) h56 z)))))
def w_MarkupReader_readComment_145 (dA : Nat → ClassId) (y0 : Nat) (K : Int32 → hm_T → hz_T → Prop) (cr sr : Nat) (h : hm_T) (z : hz_T) : Prop := (w_MarkupReader_readComment_150 dA y0 K 1 cr sr h z)
def w_MarkupReader_readComment_98 (dA : Nat → ClassId) (y0 : Nat) (K : Int32 → hm_T → hz_T → Prop) (x1 : Option Nat) (x2 : Option Nat) (x3 : Int32) (cr sr : Nat) (h : hm_T) (z : hz_T) : Prop := (cg_c h 6 y0 (cg_rm cr sr (fun c41 s42 c43 s44 => w_MarkupReader_make dA y0 3 x1 x2 c41 s42 (fun v38 h39 z40 => (cg_R h39 6 0 y0 (fun v45 => (cg_I h39 6 1 y0 (fun v46 => (cg_d v45 (fun a47 => (cg_k c43 s44 2 146 (fun c51 s52 => w_S_sub dA a47 x3 v46 (fun v48 h49 z50 => (cg_d v38 (fun a53 => (cg_p h49 8 7 a53 (va_rf v48) (fun h54 => (cg_I h54 6 5 y0 (fun v55 => (if v55 = 0 then (cg_d v38 (fun a66 => (cg_R h54 8 7 a66 (fun v67 => (cg_d v67 (fun a68 => (jd_len z50 a68 (fun v69 => (if v69 ≤ 20 then (w_MarkupReader_readComment_150 dA y0 K 0 c51 s52 h54 z50) else (w_MarkupReader_readComment_145 dA y0 K c51 s52 h54 z50)))))))))) else (w_MarkupReader_readComment_145 dA y0 K c51 s52 h54 z50))))))))) h39 z40))))))))) h z)))
def w_MarkupReader_readComment_85 (dA : Nat → ClassId) (y0 : Nat) (K : Int32 → hm_T → hz_T → Prop) (k43 : Option Nat → Option Nat → Int32 → Nat → Nat → hm_T → hz_T → Prop) (x1 : Option Nat) (x2 : Option Nat) (x3 : Int32) (cr sr : Nat) (h : hm_T) (z : hz_T) : Prop := (cg_I h 6 1 y0 (fun v74 => (cg_p h 6 1 y0 (.int (v74 + 1)) (fun h75 => (k43 x1 x2 x3 cr sr h75 z)))))
def w_MarkupReader_readComment_43 (dA : Nat → ClassId) (y0 : Nat) (K : Int32 → hm_T → hz_T → Prop) : Nat → Option Nat → Option Nat → Int32 → Nat → Nat → hm_T → hz_T → Prop
  | 0, _, _, _, _, _, _, _ => False
  | n9 + 1, x1, x2, x3, cr, sr, h, z => (cg_I h 6 1 y0 (fun v34 => (cg_R h 6 0 y0 (fun v35 => (cg_d v35 (fun a36 => (jd_len z a36 (fun v37 => (if v37 ≤ v34 then (w_MarkupReader_readComment_98 dA y0 K x1 x2 x3 cr sr h z) else (cg_I h 6 1 y0 (fun v70 => (cg_c h 6 y0 (w_TextReader_seen6 dA y0 v70 (fun v71 h72 z73 => (if v71 = 45 then (cg_I h72 6 1 y0 (fun v76 => (cg_c h72 6 y0 (w_TextReader_seen6 dA y0 (v76 + 1) (fun v77 h78 z79 => (if v77 = 45 then (w_MarkupReader_readComment_98 dA y0 K x1 x2 x3 cr sr h78 z79) else (w_MarkupReader_readComment_85 dA y0 K (w_MarkupReader_readComment_43 dA y0 K n9) x1 x2 x3 cr sr h78 z79))) h72 z73)))) else (w_MarkupReader_readComment_85 dA y0 K (w_MarkupReader_readComment_43 dA y0 K n9) x1 x2 x3 cr sr h72 z73))) h z)))))))))))))
def w_MarkupReader_readComment (dA : Nat → ClassId) (y0 : Nat) (y1 : Option Nat) (y2 : Option Nat) (rc rs : Nat) (K : Int32 → hm_T → hz_T → Prop) (h0 : hm_T) (z0 : hz_T) : Prop := (cg_c h0 6 y0 (w_TextReader_take6 dA y0 60 (fun v21 h22 z23 => (if v21 = 0 then (w_MarkupReader_readComment_36 dA y0 K rc rs h22 z23) else (cg_c h22 6 y0 (w_TextReader_take6 dA y0 33 (fun v24 h25 z26 => (if v24 = 0 then (w_MarkupReader_readComment_36 dA y0 K rc rs h25 z26) else (cg_c h25 6 y0 (w_TextReader_take6 dA y0 45 (fun v27 h28 z29 => (if v27 = 0 then (w_MarkupReader_readComment_36 dA y0 K rc rs h28 z29) else (cg_c h28 6 y0 (w_TextReader_take6 dA y0 45 (fun v30 h31 z32 => (if v30 = 0 then (w_MarkupReader_readComment_36 dA y0 K rc rs h31 z32) else (cg_I h31 6 1 y0 (fun v33 => (w_MarkupReader_readComment_43 dA y0 K mF y1 y2 v33 rc rs h31 z32))))) h28 z29)))) h25 z26)))) h22 z23)))) h0 z0))
set_option maxRecDepth 100000 in
set_option maxHeartbeats 8000000 in
theorem cw_MarkupReader_readComment (l : Launch) (D : va_G) (dA : Nat → ClassId) (s0 : State) (hW : ms_EW D dA s0) (y0 : Nat) (y1 : Option Nat) (y2 : Option Nat) (rc rs : Nat) (h0 : hm_T) (z0 : hz_T) (K : Int32 → hm_T → hz_T → Prop) (hg : w_MarkupReader_readComment dA y0 y1 y2 rc rs K h0 z0) : ht_C l D s0 yM251 bM251 5 (Option.some Jvm.ClassFile.FieldType.boolean) (8) (255) rc rs [.ref y0, va_rf y1, va_rf y2] (fun h z => h = h0 ∧ z = z0) (fun h z vv h1 z1 => ∃ v, vv = some (.int v) ∧ K v h1 z1) := by
  have hE := hW.1
  refine ht_C.mk hE.1 (by decide) (by simp [lg_sl, cat_rf, cat_int, cat_ref, cat_null, cat_long]) [(0, .ref y0), (1, va_rf y1), (2, va_rf y2)] (by simp [lv_args, cat_rf, cat_int, cat_ref, cat_null, cat_long]) ?_
  intro p e s m below meth c ls h z X hin hpre I hl
  have hx := X.1
  have hb := X.2.1
  have hml := X.2.2.1
  have hown : s.vm.findClass "MarkupStore$MarkupReader" = some m.cls := X.2.2.2.1
  have hts := X.2.2.2.2.2.2.1
  have hK := X.2.2.2.2.2.2.2.2.1
  rw [hpre.1, hpre.2] at I
  clear hpre
  have b36 : ∀ (ls : Array Slot) (cr sr cu su : Nat) (h : hm_T) (z : hz_T) (H : Heap) (locs : List Loc), w_MarkupReader_readComment_36 dA y0 K cr sr h z → cu + cr ≤ rc → su + sr ≤ rs → lv_has ls 5 [] → hm_I D s0 s h z H locs → W p l e { frames := 8, cells := rc, slots := rs, locals := 255 } s m ([.ref y0, va_rf y1, va_rf y2] : List Value).toArray below meth c H locs cu su (MQ below (ht_Q D s0 (fun vv h1 z1 => ∃ v, vv = some (.int v) ∧ K v h1 z1)) ([.ref y0, va_rf y1, va_rf y2] : List Value).toArray s rc rs (fun q => s0.heap.size ≤ q)) (F0 m 36 ls []) := by
    intro ls cr sr cu su h z H locs hF hc hs hl I
    unfold w_MarkupReader_readComment_36 at hF
    refine lv_iconst (v := 0) hx hb d251_36 (by decide) ?_
    exact ht_zret X d251_37 I (rm_r hc) (rm_r hs) ⟨_, rfl, hF⟩ rfl
  have b184 : ∀ (ls : Array Slot) (cr sr cu su : Nat) (h : hm_T) (z : hz_T) (H : Heap) (locs : List Loc), w_MarkupReader_readComment_184 dA y0 K cr sr h z → cu + cr ≤ rc → su + sr ≤ rs → lv_has ls 5 [] → hm_I D s0 s h z H locs → W p l e { frames := 8, cells := rc, slots := rs, locals := 255 } s m ([.ref y0, va_rf y1, va_rf y2] : List Value).toArray below meth c H locs cu su (MQ below (ht_Q D s0 (fun vv h1 z1 => ∃ v, vv = some (.int v) ∧ K v h1 z1)) ([.ref y0, va_rf y1, va_rf y2] : List Value).toArray s rc rs (fun q => s0.heap.size ≤ q)) (F0 m 184 ls []) := by
    intro ls cr sr cu su h z H locs hF hc hs hl I
    unfold w_MarkupReader_readComment_184 at hF
    refine lv_iconst (v := 0) hx hb d251_184 (by decide) ?_
    exact ht_zret X d251_185 I (rm_r hc) (rm_r hs) ⟨_, rfl, hF⟩ rfl
  have b150 : ∀ (ls : Array Slot) (w0 : Int32) (cr sr cu su : Nat) (h : hm_T) (z : hz_T) (H : Heap) (locs : List Loc), w_MarkupReader_readComment_150 dA y0 K w0 cr sr h z → cu + cr ≤ rc → su + sr ≤ rs → lv_has ls 5 [(0, .ref y0)] → hm_I D s0 s h z H locs → W p l e { frames := 8, cells := rc, slots := rs, locals := 255 } s m ([.ref y0, va_rf y1, va_rf y2] : List Value).toArray below meth c H locs cu su (MQ below (ht_Q D s0 (fun vv h1 z1 => ∃ v, vv = some (.int v) ∧ K v h1 z1)) ([.ref y0, va_rf y1, va_rf y2] : List Value).toArray s rc rs (fun q => s0.heap.size ≤ q)) (F0 m 150 ls [.int w0, .ref y0]) := by
    intro ls w0 cr sr cu su h z H locs hF hc hs hl I
    unfold w_MarkupReader_readComment_150 at hF
    obtain ⟨hz9, hF⟩ := hF
    obtain ⟨fs9, c9, k9, hF⟩ := hF
    refine hm_put (ci := 6) (v := .int w0) (ty := .boolean) (C := kR6) (T := kT6) (N := 6) X I ku6 kt6 kp6 kn6 c9 rfl 5 (by decide) ms_k351 (fun _ h => h) rfl (by decide +kernel) (cg_zn hz9).1 (cg_zn hz9).2 k9 d251_150 (fun h56 H locs e9 f9 I => ?_)
    rw [← hm_eqU e9 f9] at hF
    clear e9 f9 c9 k9
    refine lv_aload_n hx hb d251_153 rfl (lv_at hl 0 rfl) ?_
    refine lv_bipush (v := 45) hx hb d251_154 (by decide) ?_
    obtain ⟨fs9, c9, hF⟩ := hF
    refine ht_U (C := "MarkupStore$MarkupReader") (x := ⟨"MarkupStore$MarkupReader", "take", "(C)Z"⟩) (owner := "MarkupStore$TextReader") (rest := []) (as := [.int 45]) X hl (cw_TextReader_take6 l D dA s0 hE y0 45 h56 z _ hF) (List.forall_mem_cons.mpr ⟨ms_k623, List.forall_mem_cons.mpr ⟨ms_k624, List.forall_mem_cons.mpr ⟨ms_k626, List.forall_mem_cons.mpr ⟨ms_k627, List.forall_mem_cons.mpr ⟨ms_k14, List.forall_mem_cons.mpr ⟨ms_k628, fun _ h => absurd h List.not_mem_nil⟩⟩⟩⟩⟩⟩) rfl ⟨by decide +kernel, by decide +kernel, (by decide +kernel : (parseMethodDescriptor "(C)Z").map (fun d => d.parameters.length) = some 1)⟩ (hm_recv hK I rfl c9) I ⟨rfl, rfl⟩ ⟨⟨Nat.le_of_ble_eq_true rfl, Nat.le_of_ble_eq_true rfl⟩, rm_0 hc, rm_0 hs⟩ rfl (Nat.le_of_ble_eq_true rfl) d251_156 (fun vv h58 z59 H locs hR I9 => ?_)
    obtain ⟨v57, e1, hF⟩ := hR
    subst e1
    clear I
    have I := I9
    clear I9 c9 fs9
    refine W.eq (g2 := F0 m 159 ls [.int v57]) rfl ?_
    refine lv_if_eq hx hb d251_159 rfl (fun h9 => ?_) (fun h9 => ?_)
    · have hF := Eq.mp (if_pos h9) hF
      exact b184 ls cr sr _ _ h58 z59 _ _ hF hc hs (hl.sub [] rfl) I
    · have hF := Eq.mp (if_neg h9) hF
      refine lv_aload_n hx hb d251_162 rfl (lv_at hl 0 rfl) ?_
      refine lv_bipush (v := 45) hx hb d251_163 (by decide) ?_
      obtain ⟨fs9, c9, hF⟩ := hF
      refine ht_U (C := "MarkupStore$MarkupReader") (x := ⟨"MarkupStore$MarkupReader", "take", "(C)Z"⟩) (owner := "MarkupStore$TextReader") (rest := []) (as := [.int 45]) X hl (cw_TextReader_take6 l D dA s0 hE y0 45 h58 z59 _ hF) (List.forall_mem_cons.mpr ⟨ms_k623, List.forall_mem_cons.mpr ⟨ms_k624, List.forall_mem_cons.mpr ⟨ms_k626, List.forall_mem_cons.mpr ⟨ms_k627, List.forall_mem_cons.mpr ⟨ms_k14, List.forall_mem_cons.mpr ⟨ms_k628, fun _ h => absurd h List.not_mem_nil⟩⟩⟩⟩⟩⟩) rfl ⟨by decide +kernel, by decide +kernel, (by decide +kernel : (parseMethodDescriptor "(C)Z").map (fun d => d.parameters.length) = some 1)⟩ (hm_recv hK I rfl c9) I ⟨rfl, rfl⟩ ⟨⟨Nat.le_of_ble_eq_true rfl, Nat.le_of_ble_eq_true rfl⟩, rm_0 hc, rm_0 hs⟩ rfl (Nat.le_of_ble_eq_true rfl) d251_165 (fun vv h61 z62 H locs hR I9 => ?_)
      obtain ⟨v60, e1, hF⟩ := hR
      subst e1
      clear I
      have I := I9
      clear I9 c9 fs9
      refine W.eq (g2 := F0 m 168 ls [.int v60]) rfl ?_
      refine lv_if_eq hx hb d251_168 rfl (fun h9 => ?_) (fun h9 => ?_)
      · have hF := Eq.mp (if_pos h9) hF
        exact b184 ls cr sr _ _ h61 z62 _ _ hF hc hs (hl.sub [] rfl) I
      · have hF := Eq.mp (if_neg h9) hF
        refine lv_aload_n hx hb d251_171 rfl (lv_at hl 0 rfl) ?_
        refine lv_bipush (v := 62) hx hb d251_172 (by decide) ?_
        obtain ⟨fs9, c9, hF⟩ := hF
        refine ht_U (C := "MarkupStore$MarkupReader") (x := ⟨"MarkupStore$MarkupReader", "take", "(C)Z"⟩) (owner := "MarkupStore$TextReader") (rest := []) (as := [.int 62]) X hl (cw_TextReader_take6 l D dA s0 hE y0 62 h61 z62 _ hF) (List.forall_mem_cons.mpr ⟨ms_k623, List.forall_mem_cons.mpr ⟨ms_k624, List.forall_mem_cons.mpr ⟨ms_k626, List.forall_mem_cons.mpr ⟨ms_k627, List.forall_mem_cons.mpr ⟨ms_k14, List.forall_mem_cons.mpr ⟨ms_k628, fun _ h => absurd h List.not_mem_nil⟩⟩⟩⟩⟩⟩) rfl ⟨by decide +kernel, by decide +kernel, (by decide +kernel : (parseMethodDescriptor "(C)Z").map (fun d => d.parameters.length) = some 1)⟩ (hm_recv hK I rfl c9) I ⟨rfl, rfl⟩ ⟨⟨Nat.le_of_ble_eq_true rfl, Nat.le_of_ble_eq_true rfl⟩, rm_0 hc, rm_0 hs⟩ rfl (Nat.le_of_ble_eq_true rfl) d251_174 (fun vv h64 z65 H locs hR I9 => ?_)
        obtain ⟨v63, e1, hF⟩ := hR
        subst e1
        clear I
        have I := I9
        clear I9 c9 fs9
        refine W.eq (g2 := F0 m 177 ls [.int v63]) rfl ?_
        refine lv_if_eq hx hb d251_177 rfl (fun h9 => ?_) (fun h9 => ?_)
        · have hF := Eq.mp (if_pos h9) hF
          exact b184 ls cr sr _ _ h64 z65 _ _ hF hc hs (hl.sub [] rfl) I
        · have hF := Eq.mp (if_neg h9) hF
          refine lv_iconst (v := 1) hx hb d251_180 (by decide) ?_
          refine lv_goto hx hb d251_181 rfl ?_
          exact ht_zret X d251_185 I (rm_r hc) (rm_r hs) ⟨_, rfl, hF⟩ rfl
  have b145 : ∀ (ls : Array Slot) (cr sr cu su : Nat) (h : hm_T) (z : hz_T) (H : Heap) (locs : List Loc), w_MarkupReader_readComment_145 dA y0 K cr sr h z → cu + cr ≤ rc → su + sr ≤ rs → lv_has ls 5 [(0, .ref y0)] → hm_I D s0 s h z H locs → W p l e { frames := 8, cells := rc, slots := rs, locals := 255 } s m ([.ref y0, va_rf y1, va_rf y2] : List Value).toArray below meth c H locs cu su (MQ below (ht_Q D s0 (fun vv h1 z1 => ∃ v, vv = some (.int v) ∧ K v h1 z1)) ([.ref y0, va_rf y1, va_rf y2] : List Value).toArray s rc rs (fun q => s0.heap.size ≤ q)) (F0 m 145 ls [.ref y0]) := by
    intro ls cr sr cu su h z H locs hF hc hs hl I
    unfold w_MarkupReader_readComment_145 at hF
    refine lv_iconst (v := 1) hx hb d251_145 (by decide) ?_
    refine lv_goto hx hb d251_146 rfl ?_
    exact b150 ls 1 cr sr _ _ h z _ _ hF hc hs (hl.sub [0] rfl) I
  have b98 : ∀ (ls : Array Slot) (x1 : Option Nat) (x2 : Option Nat) (x3 : Int32) (cr sr cu su : Nat) (h : hm_T) (z : hz_T) (H : Heap) (locs : List Loc), w_MarkupReader_readComment_98 dA y0 K x1 x2 x3 cr sr h z → cu + cr ≤ rc → su + sr ≤ rs → lv_has ls 5 [(0, .ref y0), (1, va_rf x1), (2, va_rf x2), (3, .int x3)] → hm_I D s0 s h z H locs → W p l e { frames := 8, cells := rc, slots := rs, locals := 255 } s m ([.ref y0, va_rf y1, va_rf y2] : List Value).toArray below meth c H locs cu su (MQ below (ht_Q D s0 (fun vv h1 z1 => ∃ v, vv = some (.int v) ∧ K v h1 z1)) ([.ref y0, va_rf y1, va_rf y2] : List Value).toArray s rc rs (fun q => s0.heap.size ≤ q)) (F0 m 98 ls []) := by
    intro ls x1 x2 x3 cr sr cu su h z H locs hF hc hs hl I
    unfold w_MarkupReader_readComment_98 at hF
    refine lv_aload_n hx hb d251_98 rfl (lv_at hl 0 rfl) ?_
    refine lv_iconst (v := 3) hx hb d251_99 (by decide) ?_
    refine lv_aload_nR hx hb d251_100 rfl (lv_at hl 1 rfl) ?_
    refine lv_aload_nR hx hb d251_101 rfl (lv_at hl 2 rfl) ?_
    obtain ⟨fs9, c9, hF⟩ := hF
    obtain ⟨c41, s42, c43, s44, ec, es, hF⟩ := hF
    refine ht_V (C := "MarkupStore$MarkupReader") (rest := []) (as := [.int 3, va_rf x1, va_rf x2]) X hl (cw_MarkupReader_make l D dA s0 hW y0 3 x1 x2 c41 s42 h z _ hF) (List.forall_mem_cons.mpr ⟨ms_k426, List.forall_mem_cons.mpr ⟨ms_k428, List.forall_mem_cons.mpr ⟨ms_p2, List.forall_mem_cons.mpr ⟨ms_k15, List.forall_mem_cons.mpr ⟨ms_k429, fun _ h => absurd h List.not_mem_nil⟩⟩⟩⟩⟩) ⟨rfl, by decide +kernel, by decide +kernel, (by decide +kernel : (parseMethodDescriptor "(ILMarkupStore$Node;[I)LMarkupStore$Node;").map (fun d => d.parameters.length) = some 3)⟩ (hm_recv hK I rfl c9) I ⟨rfl, rfl⟩ ⟨⟨Nat.le_of_ble_eq_true rfl, Nat.le_of_ble_eq_true rfl⟩, (rm_u hc ec).1, (rm_u hs es).1⟩ rfl (Nat.le_of_ble_eq_true rfl) d251_102 (fun vv h39 z40 H locs hR I9 => ?_)
    obtain ⟨v38, e1, hF⟩ := hR
    subst e1
    clear I
    have I := I9
    clear I9 c9 fs9
    have hc := (rm_u hc ec).2
    have hs := (rm_u hs es).2
    clear ec es
    refine W.eq (g2 := F0 m 105 ls [va_rf v38]) rfl ?_
    refine lv_astoreR hx hb d251_105 hl (by decide) rfl (fun ls hl => ?_)
    have hl : lv_has ls 5 [(4, va_rf v38), (0, .ref y0), (1, va_rf x1), (2, va_rf x2), (3, .int x3)] := hl
    refine lv_aloadR hx hb d251_107 (lv_at hl 0 rfl) ?_
    refine lv_aload_n hx hb d251_109 rfl (lv_at hl 1 rfl) ?_
    obtain ⟨fs9, v45, c9, e9, hF⟩ := hF
    refine va_get (D := D) (ci := 6) (v := va_rf v45) (C := kR6) (T := kT6) (N := 6) hx hb hts ku6 hown hK (hm_one I.1 c9) 0 rfl rfl 0 (by decide) (hts _ ms_k355) (fun x9 h9 => u_same (hts _ ms_k356) x9 h9) e9 d251_110 ?_
    clear e9 c9 fs9
    refine lv_iload_n hx hb d251_113 rfl (lv_at hl 4 rfl) ?_
    refine lv_aload_n hx hb d251_114 rfl (lv_at hl 1 rfl) ?_
    obtain ⟨fs9, v46, c9, e9, hF⟩ := hF
    refine va_get (D := D) (ci := 6) (v := .int v46) (C := kR6) (T := kT6) (N := 6) hx hb hts ku6 hown hK (hm_one I.1 c9) 0 rfl rfl 1 (by decide) (hts _ ms_k360) (fun x9 h9 => u_same (hts _ ms_k361) x9 h9) e9 d251_115 ?_
    clear e9 c9 fs9
    obtain ⟨a47, e9, hF⟩ := hF
    refine W.eq (g2 := F0 m 118 ls [.int v46, .int x3, .ref a47, va_rf v38]) (by rw [e9]; rfl) ?_
    clear e9
    obtain ⟨c51, s52, ec, es, hF⟩ := hF
    obtain ⟨u9, xs9, z9⟩ := w_S_sub_z hF
    refine ht_V (C := "java/lang/String") (rest := [va_rf v38]) (as := [.int x3, .int v46]) X hl (cw_S_sub l D dA s0 hE a47 x3 v46 h39 z40 _ hF) (List.forall_mem_cons.mpr ⟨ms_k644, List.forall_mem_cons.mpr ⟨ms_k551, List.forall_mem_cons.mpr ⟨ms_k552, List.forall_mem_cons.mpr ⟨ms_k4, List.forall_mem_cons.mpr ⟨ms_k553, fun _ h => absurd h List.not_mem_nil⟩⟩⟩⟩⟩) ⟨rfl, by decide +kernel, by decide +kernel, (by decide +kernel : (parseMethodDescriptor "(II)Ljava/lang/String;").map (fun d => d.parameters.length) = some 2)⟩ (hz_recv I z9) I ⟨rfl, rfl⟩ ⟨⟨Nat.le_of_ble_eq_true rfl, Nat.le_of_ble_eq_true rfl⟩, (rm_u hc ec).1, (rm_u hs es).1⟩ rfl (by simp [cat_rf, cat_int, cat_ref, cat_null, cat_long]) d251_118 (fun vv h49 z50 H locs hR I9 => ?_)
    obtain ⟨v48, e1, hF⟩ := hR
    subst e1
    clear I
    have I := I9
    clear I9 z9
    have hc := (rm_u hc ec).2
    have hs := (rm_u hs es).2
    clear ec es
    refine W.eq (g2 := F0 m 121 ls [va_rf v48, va_rf v38]) rfl ?_
    obtain ⟨a53, e9, hF⟩ := hF
    refine W.eq (g2 := F0 m 121 ls [va_rf v48, .ref a53]) (by rw [e9]; rfl) ?_
    clear e9
    obtain ⟨fs9, c9, k9, hF⟩ := hF
    refine hm_put (ci := 8) (v := va_rf v48) (ty := (.object "java/lang/String")) (C := kR8) (T := kT8) (N := 9) X I ku8 kt8 kp8 kn8 c9 rfl 7 (by decide) ms_k469 (fun _ h => h) rfl (by decide +kernel) (by cases v48 <;> rfl) (by cases v48 <;> rfl) k9 d251_121 (fun h54 H locs e9 f9 I => ?_)
    rw [← hm_eqU e9 f9] at hF
    clear e9 f9 c9 k9
    refine lv_aload_n hx hb d251_124 rfl (lv_at hl 1 rfl) ?_
    refine lv_aload_n hx hb d251_125 rfl (lv_at hl 1 rfl) ?_
    obtain ⟨fs9, v55, c9, e9, hF⟩ := hF
    refine va_get (D := D) (ci := 6) (v := .int v55) (C := kR6) (T := kT6) (N := 6) hx hb hts ku6 hown hK (hm_one I.1 c9) 0 rfl rfl 5 (by decide) (hts _ ms_k351) (fun _ h => h) e9 d251_126 ?_
    clear e9 c9 fs9
    refine lv_if_ne hx hb d251_129 rfl (fun h9 => ?_) (fun h9 => ?_)
    · have hF := Eq.mp (if_neg h9) hF
      exact b145 ls c51 s52 _ _ h54 z50 _ _ hF hc hs (hl.sub [1] rfl) I
    · have hF := Eq.mp (if_pos h9) hF
      refine lv_aloadR hx hb d251_132 (lv_at hl 0 rfl) ?_
      obtain ⟨a66, e9, hF⟩ := hF
      refine W.eq (g2 := F0 m 134 ls [.ref a66, .ref y0]) (by rw [e9]; rfl) ?_
      clear e9
      obtain ⟨fs9, v67, c9, e9, hF⟩ := hF
      refine va_get (D := D) (ci := 8) (v := va_rf v67) (C := kR8) (T := kT8) (N := 9) hx hb hts ku8 hown hK (hm_one I.1 c9) 0 rfl rfl 7 (by decide) (hts _ ms_k469) (fun _ h => h) e9 d251_134 ?_
      clear e9 c9 fs9
      obtain ⟨a68, e9, hF⟩ := hF
      refine W.eq (g2 := F0 m 137 ls [.ref a68, .ref y0]) (by rw [e9]; rfl) ?_
      clear e9
      obtain ⟨u9, xs9, z9, hF⟩ := hF
      refine ht_V (C := "java/lang/String") (rest := [.ref y0]) (as := []) X hl (c_Slen l D dA s0 hE a68 u9 xs9) (List.forall_mem_cons.mpr ⟨ms_k579, List.forall_mem_cons.mpr ⟨ms_k391, List.forall_mem_cons.mpr ⟨ms_k392, List.forall_mem_cons.mpr ⟨ms_k4, List.forall_mem_cons.mpr ⟨ms_k393, fun _ h => absurd h List.not_mem_nil⟩⟩⟩⟩⟩) ⟨rfl, by decide +kernel, by decide +kernel, (by decide +kernel : (parseMethodDescriptor "()I").map (fun d => d.parameters.length) = some 0)⟩ (hz_recv I z9) I z9 ⟨⟨Nat.le_of_ble_eq_true rfl, Nat.le_of_ble_eq_true rfl⟩, rm_0 hc, rm_0 hs⟩ rfl (Nat.le_of_ble_eq_true rfl) d251_137 (fun vv h9 z7 H locs hR I9 => ?_)
      obtain ⟨e1, e2, e3⟩ := hR
      rw [e2, e3] at I9
      subst e1
      clear I
      have I := I9
      clear I9 e2 e3 h9 z7
      refine W.eq (g2 := F0 m 140 ls [.int (nI xs9.length), .ref y0]) rfl ?_
      generalize (nI xs9.length) = v69 at hF ⊢
      refine lv_bipush (v := 20) hx hb d251_140 (by decide) ?_
      refine lv_icmp_le hx hb d251_142 rfl (fun h9 => ?_) (fun h9 => ?_)
      · have hF := Eq.mp (if_pos h9) hF
        refine lv_iconst (v := 0) hx hb d251_149 (by decide) ?_
        exact b150 ls 0 c51 s52 _ _ h54 z50 _ _ hF hc hs (hl.sub [1] rfl) I
      · have hF := Eq.mp (if_neg h9) hF
        exact b145 ls c51 s52 _ _ h54 z50 _ _ hF hc hs (hl.sub [1] rfl) I
  have b85 : ∀ (k43 : Option Nat → Option Nat → Int32 → Nat → Nat → hm_T → hz_T → Prop), (∀ (ls : Array Slot) (x1 : Option Nat) (x2 : Option Nat) (x3 : Int32) (cr sr cu su : Nat) (h : hm_T) (z : hz_T) (H : Heap) (locs : List Loc), k43 x1 x2 x3 cr sr h z → cu + cr ≤ rc → su + sr ≤ rs → lv_has ls 5 [(0, .ref y0), (1, va_rf x1), (2, va_rf x2), (3, .int x3)] → hm_I D s0 s h z H locs → W p l e { frames := 8, cells := rc, slots := rs, locals := 255 } s m ([.ref y0, va_rf y1, va_rf y2] : List Value).toArray below meth c H locs cu su (MQ below (ht_Q D s0 (fun vv h1 z1 => ∃ v, vv = some (.int v) ∧ K v h1 z1)) ([.ref y0, va_rf y1, va_rf y2] : List Value).toArray s rc rs (fun q => s0.heap.size ≤ q)) (F0 m 43 ls [])) → ∀ (ls : Array Slot) (x1 : Option Nat) (x2 : Option Nat) (x3 : Int32) (cr sr cu su : Nat) (h : hm_T) (z : hz_T) (H : Heap) (locs : List Loc), w_MarkupReader_readComment_85 dA y0 K k43 x1 x2 x3 cr sr h z → cu + cr ≤ rc → su + sr ≤ rs → lv_has ls 5 [(0, .ref y0), (1, va_rf x1), (2, va_rf x2), (3, .int x3)] → hm_I D s0 s h z H locs → W p l e { frames := 8, cells := rc, slots := rs, locals := 255 } s m ([.ref y0, va_rf y1, va_rf y2] : List Value).toArray below meth c H locs cu su (MQ below (ht_Q D s0 (fun vv h1 z1 => ∃ v, vv = some (.int v) ∧ K v h1 z1)) ([.ref y0, va_rf y1, va_rf y2] : List Value).toArray s rc rs (fun q => s0.heap.size ≤ q)) (F0 m 85 ls []) := by
    intro k43 hk43 ls x1 x2 x3 cr sr cu su h z H locs hF hc hs hl I
    unfold w_MarkupReader_readComment_85 at hF
    refine lv_aload_n hx hb d251_85 rfl (lv_at hl 0 rfl) ?_
    refine lv_dup hx hb d251_86 rfl ?_
    obtain ⟨fs9, v74, c9, e9, hF⟩ := hF
    refine va_get (D := D) (ci := 6) (v := .int v74) (C := kR6) (T := kT6) (N := 6) hx hb hts ku6 hown hK (hm_one I.1 c9) 0 rfl rfl 1 (by decide) (hts _ ms_k360) (fun x9 h9 => u_same (hts _ ms_k361) x9 h9) e9 d251_87 ?_
    clear e9 c9 fs9
    refine lv_iconst (v := 1) hx hb d251_90 (by decide) ?_
    refine lv_iadd hx hb d251_91 ?_
    obtain ⟨fs9, c9, k9, hF⟩ := hF
    refine hm_put (ci := 6) (v := .int (v74 + 1)) (ty := .int) (C := kR6) (T := kT6) (N := 6) X I ku6 kt6 kp6 kn6 c9 rfl 1 (by decide) ms_k360 (fun x9 h9 => u_same (hts _ ms_k361) x9 h9) rfl (by decide +kernel) rfl rfl k9 d251_92 (fun h75 H locs e9 f9 I => ?_)
    rw [← hm_eqU e9 f9] at hF
    clear e9 f9 c9 k9
    refine lv_goto hx hb d251_95 rfl ?_
    exact hk43 ls x1 x2 x3 cr sr _ _ h75 z _ _ hF hc hs (hl.sub [0, 1, 2, 3] rfl) I
  have b43 : ∀ n9 : Nat, ∀ (ls : Array Slot) (x1 : Option Nat) (x2 : Option Nat) (x3 : Int32) (cr sr cu su : Nat) (h : hm_T) (z : hz_T) (H : Heap) (locs : List Loc), w_MarkupReader_readComment_43 dA y0 K n9 x1 x2 x3 cr sr h z → cu + cr ≤ rc → su + sr ≤ rs → lv_has ls 5 [(0, .ref y0), (1, va_rf x1), (2, va_rf x2), (3, .int x3)] → hm_I D s0 s h z H locs → W p l e { frames := 8, cells := rc, slots := rs, locals := 255 } s m ([.ref y0, va_rf y1, va_rf y2] : List Value).toArray below meth c H locs cu su (MQ below (ht_Q D s0 (fun vv h1 z1 => ∃ v, vv = some (.int v) ∧ K v h1 z1)) ([.ref y0, va_rf y1, va_rf y2] : List Value).toArray s rc rs (fun q => s0.heap.size ≤ q)) (F0 m 43 ls []) := by
    intro n9
    induction n9 with
    | zero => intro ls x1 x2 x3 cr sr cu su h z H locs hF; cases hF
    | succ n9 hk43 =>
    intro ls x1 x2 x3 cr sr cu su h z H locs hF hc hs hl I
    unfold w_MarkupReader_readComment_43 at hF
    refine lv_aload_n hx hb d251_43 rfl (lv_at hl 0 rfl) ?_
    obtain ⟨fs9, v34, c9, e9, hF⟩ := hF
    refine va_get (D := D) (ci := 6) (v := .int v34) (C := kR6) (T := kT6) (N := 6) hx hb hts ku6 hown hK (hm_one I.1 c9) 0 rfl rfl 1 (by decide) (hts _ ms_k360) (fun x9 h9 => u_same (hts _ ms_k361) x9 h9) e9 d251_44 ?_
    clear e9 c9 fs9
    refine lv_aload_n hx hb d251_47 rfl (lv_at hl 0 rfl) ?_
    obtain ⟨fs9, v35, c9, e9, hF⟩ := hF
    refine va_get (D := D) (ci := 6) (v := va_rf v35) (C := kR6) (T := kT6) (N := 6) hx hb hts ku6 hown hK (hm_one I.1 c9) 0 rfl rfl 0 (by decide) (hts _ ms_k355) (fun x9 h9 => u_same (hts _ ms_k356) x9 h9) e9 d251_48 ?_
    clear e9 c9 fs9
    obtain ⟨a36, e9, hF⟩ := hF
    refine W.eq (g2 := F0 m 51 ls [.ref a36, .int v34]) (by rw [e9]; rfl) ?_
    clear e9
    obtain ⟨u9, xs9, z9, hF⟩ := hF
    refine ht_V (C := "java/lang/String") (rest := [.int v34]) (as := []) X hl (c_Slen l D dA s0 hE a36 u9 xs9) (List.forall_mem_cons.mpr ⟨ms_k579, List.forall_mem_cons.mpr ⟨ms_k391, List.forall_mem_cons.mpr ⟨ms_k392, List.forall_mem_cons.mpr ⟨ms_k4, List.forall_mem_cons.mpr ⟨ms_k393, fun _ h => absurd h List.not_mem_nil⟩⟩⟩⟩⟩) ⟨rfl, by decide +kernel, by decide +kernel, (by decide +kernel : (parseMethodDescriptor "()I").map (fun d => d.parameters.length) = some 0)⟩ (hz_recv I z9) I z9 ⟨⟨Nat.le_of_ble_eq_true rfl, Nat.le_of_ble_eq_true rfl⟩, rm_0 hc, rm_0 hs⟩ rfl (Nat.le_of_ble_eq_true rfl) d251_51 (fun vv h9 z7 H locs hR I9 => ?_)
    obtain ⟨e1, e2, e3⟩ := hR
    rw [e2, e3] at I9
    subst e1
    clear I
    have I := I9
    clear I9 e2 e3 h9 z7
    refine W.eq (g2 := F0 m 54 ls [.int (nI xs9.length), .int v34]) rfl ?_
    generalize (nI xs9.length) = v37 at hF ⊢
    refine lv_icmp_ge hx hb d251_54 rfl (fun h9 => ?_) (fun h9 => ?_)
    · have hF := Eq.mp (if_pos h9) hF
      exact b98 ls x1 x2 x3 cr sr _ _ h z _ _ hF hc hs (hl.sub [0, 1, 2, 3] rfl) I
    · have hF := Eq.mp (if_neg h9) hF
      refine lv_aload_n hx hb d251_57 rfl (lv_at hl 0 rfl) ?_
      refine lv_aload_n hx hb d251_58 rfl (lv_at hl 0 rfl) ?_
      obtain ⟨fs9, v70, c9, e9, hF⟩ := hF
      refine va_get (D := D) (ci := 6) (v := .int v70) (C := kR6) (T := kT6) (N := 6) hx hb hts ku6 hown hK (hm_one I.1 c9) 0 rfl rfl 1 (by decide) (hts _ ms_k360) (fun x9 h9 => u_same (hts _ ms_k361) x9 h9) e9 d251_59 ?_
      clear e9 c9 fs9
      obtain ⟨fs9, c9, hF⟩ := hF
      refine ht_U (C := "MarkupStore$MarkupReader") (x := ⟨"MarkupStore$MarkupReader", "seen", "(I)C"⟩) (owner := "MarkupStore$TextReader") (rest := []) (as := [.int v70]) X hl (cw_TextReader_seen6 l D dA s0 hE y0 v70 h z _ hF) (List.forall_mem_cons.mpr ⟨ms_k384, List.forall_mem_cons.mpr ⟨ms_k385, List.forall_mem_cons.mpr ⟨ms_k387, List.forall_mem_cons.mpr ⟨ms_k388, List.forall_mem_cons.mpr ⟨ms_k14, List.forall_mem_cons.mpr ⟨ms_k389, fun _ h => absurd h List.not_mem_nil⟩⟩⟩⟩⟩⟩) rfl ⟨by decide +kernel, by decide +kernel, (by decide +kernel : (parseMethodDescriptor "(I)C").map (fun d => d.parameters.length) = some 1)⟩ (hm_recv hK I rfl c9) I ⟨rfl, rfl⟩ ⟨⟨Nat.le_of_ble_eq_true rfl, Nat.le_of_ble_eq_true rfl⟩, rm_0 hc, rm_0 hs⟩ rfl (Nat.le_of_ble_eq_true rfl) d251_62 (fun vv h72 z73 H locs hR I9 => ?_)
      obtain ⟨v71, e1, hF⟩ := hR
      subst e1
      clear I
      have I := I9
      clear I9 c9 fs9
      refine W.eq (g2 := F0 m 65 ls [.int v71]) rfl ?_
      refine lv_bipush (v := 45) hx hb d251_65 (by decide) ?_
      refine lv_icmp_ne hx hb d251_67 rfl (fun h9 => ?_) (fun h9 => ?_)
      · have hF := Eq.mp (if_neg h9) hF
        exact b85 (w_MarkupReader_readComment_43 dA y0 K n9) hk43 ls x1 x2 x3 cr sr _ _ h72 z73 _ _ hF hc hs (hl.sub [0, 1, 2, 3] rfl) I
      · have hF := Eq.mp (if_pos h9) hF
        refine lv_aload_n hx hb d251_70 rfl (lv_at hl 0 rfl) ?_
        refine lv_aload_n hx hb d251_71 rfl (lv_at hl 0 rfl) ?_
        obtain ⟨fs9, v76, c9, e9, hF⟩ := hF
        refine va_get (D := D) (ci := 6) (v := .int v76) (C := kR6) (T := kT6) (N := 6) hx hb hts ku6 hown hK (hm_one I.1 c9) 0 rfl rfl 1 (by decide) (hts _ ms_k360) (fun x9 h9 => u_same (hts _ ms_k361) x9 h9) e9 d251_72 ?_
        clear e9 c9 fs9
        refine lv_iconst (v := 1) hx hb d251_75 (by decide) ?_
        refine lv_iadd hx hb d251_76 ?_
        obtain ⟨fs9, c9, hF⟩ := hF
        refine ht_U (C := "MarkupStore$MarkupReader") (x := ⟨"MarkupStore$MarkupReader", "seen", "(I)C"⟩) (owner := "MarkupStore$TextReader") (rest := []) (as := [.int (v76 + 1)]) X hl (cw_TextReader_seen6 l D dA s0 hE y0 (v76 + 1) h72 z73 _ hF) (List.forall_mem_cons.mpr ⟨ms_k384, List.forall_mem_cons.mpr ⟨ms_k385, List.forall_mem_cons.mpr ⟨ms_k387, List.forall_mem_cons.mpr ⟨ms_k388, List.forall_mem_cons.mpr ⟨ms_k14, List.forall_mem_cons.mpr ⟨ms_k389, fun _ h => absurd h List.not_mem_nil⟩⟩⟩⟩⟩⟩) rfl ⟨by decide +kernel, by decide +kernel, (by decide +kernel : (parseMethodDescriptor "(I)C").map (fun d => d.parameters.length) = some 1)⟩ (hm_recv hK I rfl c9) I ⟨rfl, rfl⟩ ⟨⟨Nat.le_of_ble_eq_true rfl, Nat.le_of_ble_eq_true rfl⟩, rm_0 hc, rm_0 hs⟩ rfl (Nat.le_of_ble_eq_true rfl) d251_77 (fun vv h78 z79 H locs hR I9 => ?_)
        obtain ⟨v77, e1, hF⟩ := hR
        subst e1
        clear I
        have I := I9
        clear I9 c9 fs9
        refine W.eq (g2 := F0 m 80 ls [.int v77]) rfl ?_
        refine lv_bipush (v := 45) hx hb d251_80 (by decide) ?_
        refine lv_icmp_eq hx hb d251_82 rfl (fun h9 => ?_) (fun h9 => ?_)
        · have hF := Eq.mp (if_pos h9) hF
          exact b98 ls x1 x2 x3 cr sr _ _ h78 z79 _ _ hF hc hs (hl.sub [0, 1, 2, 3] rfl) I
        · have hF := Eq.mp (if_neg h9) hF
          exact b85 (w_MarkupReader_readComment_43 dA y0 K n9) hk43 ls x1 x2 x3 cr sr _ _ h78 z79 _ _ hF hc hs (hl.sub [0, 1, 2, 3] rfl) I
  have hF := hg
  unfold w_MarkupReader_readComment at hF
  clear h z
  have hc : 0 + rc ≤ rc := by omega
  have hs : 0 + rs ≤ rs := by omega
  refine lv_aload_n hx hb d251_0 rfl (lv_at hl 0 rfl) ?_
  refine lv_bipush (v := 60) hx hb d251_1 (by decide) ?_
  obtain ⟨fs9, c9, hF⟩ := hF
  refine ht_U (C := "MarkupStore$MarkupReader") (x := ⟨"MarkupStore$MarkupReader", "take", "(C)Z"⟩) (owner := "MarkupStore$TextReader") (rest := []) (as := [.int 60]) X hl (cw_TextReader_take6 l D dA s0 hE y0 60 h0 z0 _ hF) (List.forall_mem_cons.mpr ⟨ms_k623, List.forall_mem_cons.mpr ⟨ms_k624, List.forall_mem_cons.mpr ⟨ms_k626, List.forall_mem_cons.mpr ⟨ms_k627, List.forall_mem_cons.mpr ⟨ms_k14, List.forall_mem_cons.mpr ⟨ms_k628, fun _ h => absurd h List.not_mem_nil⟩⟩⟩⟩⟩⟩) rfl ⟨by decide +kernel, by decide +kernel, (by decide +kernel : (parseMethodDescriptor "(C)Z").map (fun d => d.parameters.length) = some 1)⟩ (hm_recv hK I rfl c9) I ⟨rfl, rfl⟩ ⟨⟨Nat.le_of_ble_eq_true rfl, Nat.le_of_ble_eq_true rfl⟩, rm_0 hc, rm_0 hs⟩ rfl (Nat.le_of_ble_eq_true rfl) d251_3 (fun vv h22 z23 H locs hR I9 => ?_)
  obtain ⟨v21, e1, hF⟩ := hR
  subst e1
  clear I
  have I := I9
  clear I9 c9 fs9
  refine W.eq (g2 := F0 m 6 ls [.int v21]) rfl ?_
  refine lv_if_eq hx hb d251_6 rfl (fun h9 => ?_) (fun h9 => ?_)
  · have hF := Eq.mp (if_pos h9) hF
    exact b36 ls rc rs _ _ h22 z23 _ _ hF hc hs (hl.sub [] rfl) I
  · have hF := Eq.mp (if_neg h9) hF
    refine lv_aload_n hx hb d251_9 rfl (lv_at hl 0 rfl) ?_
    refine lv_bipush (v := 33) hx hb d251_10 (by decide) ?_
    obtain ⟨fs9, c9, hF⟩ := hF
    refine ht_U (C := "MarkupStore$MarkupReader") (x := ⟨"MarkupStore$MarkupReader", "take", "(C)Z"⟩) (owner := "MarkupStore$TextReader") (rest := []) (as := [.int 33]) X hl (cw_TextReader_take6 l D dA s0 hE y0 33 h22 z23 _ hF) (List.forall_mem_cons.mpr ⟨ms_k623, List.forall_mem_cons.mpr ⟨ms_k624, List.forall_mem_cons.mpr ⟨ms_k626, List.forall_mem_cons.mpr ⟨ms_k627, List.forall_mem_cons.mpr ⟨ms_k14, List.forall_mem_cons.mpr ⟨ms_k628, fun _ h => absurd h List.not_mem_nil⟩⟩⟩⟩⟩⟩) rfl ⟨by decide +kernel, by decide +kernel, (by decide +kernel : (parseMethodDescriptor "(C)Z").map (fun d => d.parameters.length) = some 1)⟩ (hm_recv hK I rfl c9) I ⟨rfl, rfl⟩ ⟨⟨Nat.le_of_ble_eq_true rfl, Nat.le_of_ble_eq_true rfl⟩, rm_0 hc, rm_0 hs⟩ rfl (Nat.le_of_ble_eq_true rfl) d251_12 (fun vv h25 z26 H locs hR I9 => ?_)
    obtain ⟨v24, e1, hF⟩ := hR
    subst e1
    clear I
    have I := I9
    clear I9 c9 fs9
    refine W.eq (g2 := F0 m 15 ls [.int v24]) rfl ?_
    refine lv_if_eq hx hb d251_15 rfl (fun h9 => ?_) (fun h9 => ?_)
    · have hF := Eq.mp (if_pos h9) hF
      exact b36 ls rc rs _ _ h25 z26 _ _ hF hc hs (hl.sub [] rfl) I
    · have hF := Eq.mp (if_neg h9) hF
      refine lv_aload_n hx hb d251_18 rfl (lv_at hl 0 rfl) ?_
      refine lv_bipush (v := 45) hx hb d251_19 (by decide) ?_
      obtain ⟨fs9, c9, hF⟩ := hF
      refine ht_U (C := "MarkupStore$MarkupReader") (x := ⟨"MarkupStore$MarkupReader", "take", "(C)Z"⟩) (owner := "MarkupStore$TextReader") (rest := []) (as := [.int 45]) X hl (cw_TextReader_take6 l D dA s0 hE y0 45 h25 z26 _ hF) (List.forall_mem_cons.mpr ⟨ms_k623, List.forall_mem_cons.mpr ⟨ms_k624, List.forall_mem_cons.mpr ⟨ms_k626, List.forall_mem_cons.mpr ⟨ms_k627, List.forall_mem_cons.mpr ⟨ms_k14, List.forall_mem_cons.mpr ⟨ms_k628, fun _ h => absurd h List.not_mem_nil⟩⟩⟩⟩⟩⟩) rfl ⟨by decide +kernel, by decide +kernel, (by decide +kernel : (parseMethodDescriptor "(C)Z").map (fun d => d.parameters.length) = some 1)⟩ (hm_recv hK I rfl c9) I ⟨rfl, rfl⟩ ⟨⟨Nat.le_of_ble_eq_true rfl, Nat.le_of_ble_eq_true rfl⟩, rm_0 hc, rm_0 hs⟩ rfl (Nat.le_of_ble_eq_true rfl) d251_21 (fun vv h28 z29 H locs hR I9 => ?_)
      obtain ⟨v27, e1, hF⟩ := hR
      subst e1
      clear I
      have I := I9
      clear I9 c9 fs9
      refine W.eq (g2 := F0 m 24 ls [.int v27]) rfl ?_
      refine lv_if_eq hx hb d251_24 rfl (fun h9 => ?_) (fun h9 => ?_)
      · have hF := Eq.mp (if_pos h9) hF
        exact b36 ls rc rs _ _ h28 z29 _ _ hF hc hs (hl.sub [] rfl) I
      · have hF := Eq.mp (if_neg h9) hF
        refine lv_aload_n hx hb d251_27 rfl (lv_at hl 0 rfl) ?_
        refine lv_bipush (v := 45) hx hb d251_28 (by decide) ?_
        obtain ⟨fs9, c9, hF⟩ := hF
        refine ht_U (C := "MarkupStore$MarkupReader") (x := ⟨"MarkupStore$MarkupReader", "take", "(C)Z"⟩) (owner := "MarkupStore$TextReader") (rest := []) (as := [.int 45]) X hl (cw_TextReader_take6 l D dA s0 hE y0 45 h28 z29 _ hF) (List.forall_mem_cons.mpr ⟨ms_k623, List.forall_mem_cons.mpr ⟨ms_k624, List.forall_mem_cons.mpr ⟨ms_k626, List.forall_mem_cons.mpr ⟨ms_k627, List.forall_mem_cons.mpr ⟨ms_k14, List.forall_mem_cons.mpr ⟨ms_k628, fun _ h => absurd h List.not_mem_nil⟩⟩⟩⟩⟩⟩) rfl ⟨by decide +kernel, by decide +kernel, (by decide +kernel : (parseMethodDescriptor "(C)Z").map (fun d => d.parameters.length) = some 1)⟩ (hm_recv hK I rfl c9) I ⟨rfl, rfl⟩ ⟨⟨Nat.le_of_ble_eq_true rfl, Nat.le_of_ble_eq_true rfl⟩, rm_0 hc, rm_0 hs⟩ rfl (Nat.le_of_ble_eq_true rfl) d251_30 (fun vv h31 z32 H locs hR I9 => ?_)
        obtain ⟨v30, e1, hF⟩ := hR
        subst e1
        clear I
        have I := I9
        clear I9 c9 fs9
        refine W.eq (g2 := F0 m 33 ls [.int v30]) rfl ?_
        refine lv_if_ne hx hb d251_33 rfl (fun h9 => ?_) (fun h9 => ?_)
        · have hF := Eq.mp (if_neg h9) hF
          refine lv_aload_n hx hb d251_38 rfl (lv_at hl 0 rfl) ?_
          obtain ⟨fs9, v33, c9, e9, hF⟩ := hF
          refine va_get (D := D) (ci := 6) (v := .int v33) (C := kR6) (T := kT6) (N := 6) hx hb hts ku6 hown hK (hm_one I.1 c9) 0 rfl rfl 1 (by decide) (hts _ ms_k360) (fun x9 h9 => u_same (hts _ ms_k361) x9 h9) e9 d251_39 ?_
          clear e9 c9 fs9
          refine lv_istore_n (i := 3) hx hb d251_42 rfl hl (by decide) (show _ = [(3, .int v33), (0, .ref y0), (1, va_rf y1), (2, va_rf y2)] by simp [cat_rf, cat_int, cat_ref, cat_null, cat_long]) (fun ls hl => ?_)
          have hl : lv_has ls 5 [(3, .int v33), (0, .ref y0), (1, va_rf y1), (2, va_rf y2)] := hl
          exact b43 mF ls y1 y2 v33 rc rs _ _ h31 z32 _ _ hF hc hs (hl.sub [1, 2, 3, 0] rfl) I
        · have hF := Eq.mp (if_pos h9) hF
          exact b36 ls rc rs _ _ h31 z32 _ _ hF hc hs (hl.sub [] rfl) I

def w_MarkupReader_readEntity (dA : Nat → ClassId) (y0 : Nat) (rc rs : Nat) (K : Int32 → hm_T → hz_T → Prop) (h0 : hm_T) (z0 : hz_T) : Prop := (cg_lit z0 [38, 108, 116] (fun a21 => (cg_c h0 6 y0 (cg_rm rc rs (fun c25 s26 c27 s28 => w_MarkupReader_skip dA y0 (some a21) c25 s26 (fun v22 h23 z24 => (if v22 = 0 then (cg_lit z24 [38, 103, 116] (fun a29 => (cg_c h23 6 y0 (cg_rm c27 s28 (fun c33 s34 c35 s36 => w_MarkupReader_skip dA y0 (some a29) c33 s34 (fun v30 h31 z32 => (if v30 = 0 then (cg_lit z32 [38, 97, 109, 112] (fun a37 => (cg_c h31 6 y0 (cg_rm c35 s36 (fun c41 s42 c43 s44 => w_MarkupReader_skip dA y0 (some a37) c41 s42 (fun v38 h39 z40 => (if v38 = 0 then (cg_lit z40 [38, 113, 117, 111, 116] (fun a45 => (cg_c h39 6 y0 (cg_rm c43 s44 (fun c49 s50 c51 s52 => w_MarkupReader_skip dA y0 (some a45) c49 s50 (fun v46 h47 z48 => (if v46 = 0 then (cg_lit z48 [38, 97, 112, 111, 115] (fun a53 => (cg_c h47 6 y0 (cg_rm c51 s52 (fun c57 s58 c59 s60 => w_MarkupReader_skip dA y0 (some a53) c57 s58 (fun v54 h55 z56 => (if v54 = 0 then (cg_I h55 6 1 y0 (fun v61 => (cg_c h55 6 y0 (w_TextReader_failAt6 dA y0 v61 (fun v62 h63 z64 => (K 0 h63 z64)) h55 z56)))) else (K 39 h55 z56))) h47 z48))))) else (K 34 h47 z48))) h39 z40))))) else (K 38 h39 z40))) h31 z32))))) else (K 62 h31 z32))) h23 z24))))) else (K 60 h23 z24))) h0 z0)))))
set_option maxRecDepth 100000 in
set_option maxHeartbeats 8000000 in
theorem cw_MarkupReader_readEntity (l : Launch) (D : va_G) (dA : Nat → ClassId) (s0 : State) (hW : ms_EW D dA s0) (y0 : Nat) (rc rs : Nat) (h0 : hm_T) (z0 : hz_T) (K : Int32 → hm_T → hz_T → Prop) (hg : w_MarkupReader_readEntity dA y0 rc rs K h0 z0) : ht_C l D s0 yM252 bM252 1 (Option.some Jvm.ClassFile.FieldType.char) (6) (214) rc rs [.ref y0] (fun h z => h = h0 ∧ z = z0) (fun h z vv h1 z1 => ∃ v, vv = some (.int v) ∧ K v h1 z1) := by
  have hE := hW.1
  refine ht_C.mk hE.1 (by decide) (Nat.le_of_ble_eq_true rfl) [(0, .ref y0)] rfl ?_
  intro p e s m below meth c ls h z X hin hpre I hl
  have hx := X.1
  have hb := X.2.1
  have hml := X.2.2.1
  have hown : s.vm.findClass "MarkupStore$MarkupReader" = some m.cls := X.2.2.2.1
  have hts := X.2.2.2.2.2.2.1
  have hK := X.2.2.2.2.2.2.2.2.1
  rw [hpre.1, hpre.2] at I
  clear hpre
  have hF := hg
  unfold w_MarkupReader_readEntity at hF
  clear h z
  have hc : 0 + rc ≤ rc := by omega
  have hs : 0 + rs ≤ rs := by omega
  refine lv_aload_n hx hb d252_0 rfl (lv_at hl 0 rfl) ?_
  refine hz_ldc (xs := [38, 108, 116]) hE X I 3 rfl hown d252_1 (fun a21 u9 z9 => ?_)
  have hF := hF _ _ z9
  obtain ⟨fs9, c9, hF⟩ := hF
  obtain ⟨c25, s26, c27, s28, ec, es, hF⟩ := hF
  refine ht_V (C := "MarkupStore$MarkupReader") (rest := []) (as := [.ref a21]) X hl (cw_MarkupReader_skip l D dA s0 hW y0 (some a21) c25 s26 h0 z0 _ hF) (List.forall_mem_cons.mpr ⟨ms_k639, List.forall_mem_cons.mpr ⟨ms_k641, List.forall_mem_cons.mpr ⟨ms_p9, List.forall_mem_cons.mpr ⟨ms_k15, List.forall_mem_cons.mpr ⟨ms_k642, fun _ h => absurd h List.not_mem_nil⟩⟩⟩⟩⟩) ⟨rfl, by decide +kernel, by decide +kernel, (by decide +kernel : (parseMethodDescriptor "(Ljava/lang/String;)Z").map (fun d => d.parameters.length) = some 1)⟩ (hm_recv hK I rfl c9) I ⟨rfl, rfl⟩ ⟨⟨Nat.le_of_ble_eq_true rfl, Nat.le_of_ble_eq_true rfl⟩, (rm_u hc ec).1, (rm_u hs es).1⟩ rfl (Nat.le_of_ble_eq_true rfl) d252_3 (fun vv h23 z24 H locs hR I9 => ?_)
  obtain ⟨v22, e1, hF⟩ := hR
  subst e1
  clear I
  have I := I9
  clear I9 c9 fs9
  have hc := (rm_u hc ec).2
  have hs := (rm_u hs es).2
  clear ec es
  refine W.eq (g2 := F0 m 6 ls [.int v22]) rfl ?_
  refine lv_if_eq hx hb d252_6 rfl (fun h9 => ?_) (fun h9 => ?_)
  · have hF := Eq.mp (if_pos h9) hF
    refine lv_aload_n hx hb d252_12 rfl (lv_at hl 0 rfl) ?_
    refine hz_ldc (xs := [38, 103, 116]) hE X I 4 rfl hown d252_13 (fun a29 u9 z9 => ?_)
    have hF := hF _ _ z9
    obtain ⟨fs9, c9, hF⟩ := hF
    obtain ⟨c33, s34, c35, s36, ec, es, hF⟩ := hF
    refine ht_V (C := "MarkupStore$MarkupReader") (rest := []) (as := [.ref a29]) X hl (cw_MarkupReader_skip l D dA s0 hW y0 (some a29) c33 s34 h23 z24 _ hF) (List.forall_mem_cons.mpr ⟨ms_k639, List.forall_mem_cons.mpr ⟨ms_k641, List.forall_mem_cons.mpr ⟨ms_p9, List.forall_mem_cons.mpr ⟨ms_k15, List.forall_mem_cons.mpr ⟨ms_k642, fun _ h => absurd h List.not_mem_nil⟩⟩⟩⟩⟩) ⟨rfl, by decide +kernel, by decide +kernel, (by decide +kernel : (parseMethodDescriptor "(Ljava/lang/String;)Z").map (fun d => d.parameters.length) = some 1)⟩ (hm_recv hK I rfl c9) I ⟨rfl, rfl⟩ ⟨⟨Nat.le_of_ble_eq_true rfl, Nat.le_of_ble_eq_true rfl⟩, (rm_u hc ec).1, (rm_u hs es).1⟩ rfl (Nat.le_of_ble_eq_true rfl) d252_15 (fun vv h31 z32 H locs hR I9 => ?_)
    obtain ⟨v30, e1, hF⟩ := hR
    subst e1
    clear I
    have I := I9
    clear I9 c9 fs9
    have hc := (rm_u hc ec).2
    have hs := (rm_u hs es).2
    clear ec es
    refine W.eq (g2 := F0 m 18 ls [.int v30]) rfl ?_
    refine lv_if_eq hx hb d252_18 rfl (fun h9 => ?_) (fun h9 => ?_)
    · have hF := Eq.mp (if_pos h9) hF
      refine lv_aload_n hx hb d252_24 rfl (lv_at hl 0 rfl) ?_
      refine hz_ldc (xs := [38, 97, 109, 112]) hE X I 5 rfl hown d252_25 (fun a37 u9 z9 => ?_)
      have hF := hF _ _ z9
      obtain ⟨fs9, c9, hF⟩ := hF
      obtain ⟨c41, s42, c43, s44, ec, es, hF⟩ := hF
      refine ht_V (C := "MarkupStore$MarkupReader") (rest := []) (as := [.ref a37]) X hl (cw_MarkupReader_skip l D dA s0 hW y0 (some a37) c41 s42 h31 z32 _ hF) (List.forall_mem_cons.mpr ⟨ms_k639, List.forall_mem_cons.mpr ⟨ms_k641, List.forall_mem_cons.mpr ⟨ms_p9, List.forall_mem_cons.mpr ⟨ms_k15, List.forall_mem_cons.mpr ⟨ms_k642, fun _ h => absurd h List.not_mem_nil⟩⟩⟩⟩⟩) ⟨rfl, by decide +kernel, by decide +kernel, (by decide +kernel : (parseMethodDescriptor "(Ljava/lang/String;)Z").map (fun d => d.parameters.length) = some 1)⟩ (hm_recv hK I rfl c9) I ⟨rfl, rfl⟩ ⟨⟨Nat.le_of_ble_eq_true rfl, Nat.le_of_ble_eq_true rfl⟩, (rm_u hc ec).1, (rm_u hs es).1⟩ rfl (Nat.le_of_ble_eq_true rfl) d252_27 (fun vv h39 z40 H locs hR I9 => ?_)
      obtain ⟨v38, e1, hF⟩ := hR
      subst e1
      clear I
      have I := I9
      clear I9 c9 fs9
      have hc := (rm_u hc ec).2
      have hs := (rm_u hs es).2
      clear ec es
      refine W.eq (g2 := F0 m 30 ls [.int v38]) rfl ?_
      refine lv_if_eq hx hb d252_30 rfl (fun h9 => ?_) (fun h9 => ?_)
      · have hF := Eq.mp (if_pos h9) hF
        refine lv_aload_n hx hb d252_36 rfl (lv_at hl 0 rfl) ?_
        refine hz_ldc (xs := [38, 113, 117, 111, 116]) hE X I 6 rfl hown d252_37 (fun a45 u9 z9 => ?_)
        have hF := hF _ _ z9
        obtain ⟨fs9, c9, hF⟩ := hF
        obtain ⟨c49, s50, c51, s52, ec, es, hF⟩ := hF
        refine ht_V (C := "MarkupStore$MarkupReader") (rest := []) (as := [.ref a45]) X hl (cw_MarkupReader_skip l D dA s0 hW y0 (some a45) c49 s50 h39 z40 _ hF) (List.forall_mem_cons.mpr ⟨ms_k639, List.forall_mem_cons.mpr ⟨ms_k641, List.forall_mem_cons.mpr ⟨ms_p9, List.forall_mem_cons.mpr ⟨ms_k15, List.forall_mem_cons.mpr ⟨ms_k642, fun _ h => absurd h List.not_mem_nil⟩⟩⟩⟩⟩) ⟨rfl, by decide +kernel, by decide +kernel, (by decide +kernel : (parseMethodDescriptor "(Ljava/lang/String;)Z").map (fun d => d.parameters.length) = some 1)⟩ (hm_recv hK I rfl c9) I ⟨rfl, rfl⟩ ⟨⟨Nat.le_of_ble_eq_true rfl, Nat.le_of_ble_eq_true rfl⟩, (rm_u hc ec).1, (rm_u hs es).1⟩ rfl (Nat.le_of_ble_eq_true rfl) d252_39 (fun vv h47 z48 H locs hR I9 => ?_)
        obtain ⟨v46, e1, hF⟩ := hR
        subst e1
        clear I
        have I := I9
        clear I9 c9 fs9
        have hc := (rm_u hc ec).2
        have hs := (rm_u hs es).2
        clear ec es
        refine W.eq (g2 := F0 m 42 ls [.int v46]) rfl ?_
        refine lv_if_eq hx hb d252_42 rfl (fun h9 => ?_) (fun h9 => ?_)
        · have hF := Eq.mp (if_pos h9) hF
          refine lv_aload_n hx hb d252_48 rfl (lv_at hl 0 rfl) ?_
          refine hz_ldc (xs := [38, 97, 112, 111, 115]) hE X I 7 rfl hown d252_49 (fun a53 u9 z9 => ?_)
          have hF := hF _ _ z9
          obtain ⟨fs9, c9, hF⟩ := hF
          obtain ⟨c57, s58, c59, s60, ec, es, hF⟩ := hF
          refine ht_V (C := "MarkupStore$MarkupReader") (rest := []) (as := [.ref a53]) X hl (cw_MarkupReader_skip l D dA s0 hW y0 (some a53) c57 s58 h47 z48 _ hF) (List.forall_mem_cons.mpr ⟨ms_k639, List.forall_mem_cons.mpr ⟨ms_k641, List.forall_mem_cons.mpr ⟨ms_p9, List.forall_mem_cons.mpr ⟨ms_k15, List.forall_mem_cons.mpr ⟨ms_k642, fun _ h => absurd h List.not_mem_nil⟩⟩⟩⟩⟩) ⟨rfl, by decide +kernel, by decide +kernel, (by decide +kernel : (parseMethodDescriptor "(Ljava/lang/String;)Z").map (fun d => d.parameters.length) = some 1)⟩ (hm_recv hK I rfl c9) I ⟨rfl, rfl⟩ ⟨⟨Nat.le_of_ble_eq_true rfl, Nat.le_of_ble_eq_true rfl⟩, (rm_u hc ec).1, (rm_u hs es).1⟩ rfl (Nat.le_of_ble_eq_true rfl) d252_51 (fun vv h55 z56 H locs hR I9 => ?_)
          obtain ⟨v54, e1, hF⟩ := hR
          subst e1
          clear I
          have I := I9
          clear I9 c9 fs9
          have hc := (rm_u hc ec).2
          have hs := (rm_u hs es).2
          clear ec es
          refine W.eq (g2 := F0 m 54 ls [.int v54]) rfl ?_
          refine lv_if_eq hx hb d252_54 rfl (fun h9 => ?_) (fun h9 => ?_)
          · have hF := Eq.mp (if_pos h9) hF
            refine lv_aload_n hx hb d252_60 rfl (lv_at hl 0 rfl) ?_
            refine lv_aload_n hx hb d252_61 rfl (lv_at hl 0 rfl) ?_
            obtain ⟨fs9, v61, c9, e9, hF⟩ := hF
            refine va_get (D := D) (ci := 6) (v := .int v61) (C := kR6) (T := kT6) (N := 6) hx hb hts ku6 hown hK (hm_one I.1 c9) 0 rfl rfl 1 (by decide) (hts _ ms_k360) (fun x9 h9 => u_same (hts _ ms_k361) x9 h9) e9 d252_62 ?_
            clear e9 c9 fs9
            obtain ⟨fs9, c9, hF⟩ := hF
            refine ht_U (C := "MarkupStore$MarkupReader") (x := ⟨"MarkupStore$MarkupReader", "failAt", "(I)Z"⟩) (owner := "MarkupStore$TextReader") (rest := []) (as := [.int v61]) X hl (cw_TextReader_failAt6 l D dA s0 hE y0 v61 h55 z56 _ hF) (List.forall_mem_cons.mpr ⟨ms_k413, List.forall_mem_cons.mpr ⟨ms_k414, List.forall_mem_cons.mpr ⟨ms_k416, List.forall_mem_cons.mpr ⟨ms_k417, List.forall_mem_cons.mpr ⟨ms_k14, List.forall_mem_cons.mpr ⟨ms_k418, fun _ h => absurd h List.not_mem_nil⟩⟩⟩⟩⟩⟩) rfl ⟨by decide +kernel, by decide +kernel, (by decide +kernel : (parseMethodDescriptor "(I)Z").map (fun d => d.parameters.length) = some 1)⟩ (hm_recv hK I rfl c9) I ⟨rfl, rfl⟩ ⟨⟨Nat.le_of_ble_eq_true rfl, Nat.le_of_ble_eq_true rfl⟩, rm_0 hc, rm_0 hs⟩ rfl (Nat.le_of_ble_eq_true rfl) d252_65 (fun vv h63 z64 H locs hR I9 => ?_)
            obtain ⟨v62, e1, hF⟩ := hR
            subst e1
            clear I
            have I := I9
            clear I9 c9 fs9
            refine W.eq (g2 := F0 m 68 ls [.int v62]) rfl ?_
            refine lv_pop hx hb d252_68 rfl ?_
            refine lv_iconst (v := 0) hx hb d252_69 (by decide) ?_
            exact ht_zret X d252_70 I (rm_r hc) (rm_r hs) ⟨_, rfl, hF⟩ rfl
          · have hF := Eq.mp (if_neg h9) hF
            refine lv_bipush (v := 39) hx hb d252_57 (by decide) ?_
            exact ht_zret X d252_59 I (rm_r hc) (rm_r hs) ⟨_, rfl, hF⟩ rfl
        · have hF := Eq.mp (if_neg h9) hF
          refine lv_bipush (v := 34) hx hb d252_45 (by decide) ?_
          exact ht_zret X d252_47 I (rm_r hc) (rm_r hs) ⟨_, rfl, hF⟩ rfl
      · have hF := Eq.mp (if_neg h9) hF
        refine lv_bipush (v := 38) hx hb d252_33 (by decide) ?_
        exact ht_zret X d252_35 I (rm_r hc) (rm_r hs) ⟨_, rfl, hF⟩ rfl
    · have hF := Eq.mp (if_neg h9) hF
      refine lv_bipush (v := 62) hx hb d252_21 (by decide) ?_
      exact ht_zret X d252_23 I (rm_r hc) (rm_r hs) ⟨_, rfl, hF⟩ rfl
  · have hF := Eq.mp (if_neg h9) hF
    refine lv_bipush (v := 60) hx hb d252_9 (by decide) ?_
    exact ht_zret X d252_11 I (rm_r hc) (rm_r hs) ⟨_, rfl, hF⟩ rfl

def w_PathReader_readStep_185 (dA : Nat → ClassId) (P : Nat → Int32 → Nat → Nat → (Option Nat → hm_T → hz_T → Prop) → hm_T → hz_T → Prop) (y0 : Nat) (K : Option Nat → hm_T → hz_T → Prop) (x2 : Option Nat) (cr sr : Nat) (h : hm_T) (z : hz_T) : Prop := (K x2 h z)
def w_PathReader_readStep_179 (dA : Nat → ClassId) (P : Nat → Int32 → Nat → Nat → (Option Nat → hm_T → hz_T → Prop) → hm_T → hz_T → Prop) (y0 : Nat) (K : Option Nat → hm_T → hz_T → Prop) (k93 : Int32 → Option Nat → Int32 → Nat → Nat → hm_T → hz_T → Prop) (x1 : Int32) (x2 : Option Nat) (x3 : Int32) (cr sr : Nat) (h : hm_T) (z : hz_T) : Prop := (k93 x1 x2 (x3 + 1) cr sr h z)
def w_PathReader_readStep_93 (dA : Nat → ClassId) (P : Nat → Int32 → Nat → Nat → (Option Nat → hm_T → hz_T → Prop) → hm_T → hz_T → Prop) (y0 : Nat) (K : Option Nat → hm_T → hz_T → Prop) : Nat → Int32 → Option Nat → Int32 → Nat → Nat → hm_T → hz_T → Prop
  | 0, _, _, _, _, _, _, _ => False
  | n9 + 1, x1, x2, x3, cr, sr, h, z => (cg_R h 10 0 y0 (fun v55 => (cg_d v55 (fun a56 => (jd_len z a56 (fun v57 => (if v57 ≤ x3 then (w_PathReader_readStep_185 dA P y0 K x2 cr sr h z) else (cg_c h 10 y0 (w_TextReader_failed10 dA y0 (fun v58 h59 z60 => (if v58 = 0 then (cg_I h59 10 1 y0 (fun v61 => (cg_c h59 10 y0 (w_TextReader_seen10 dA y0 v61 (fun v62 h63 z64 => (if v62 = 91 then (if x1 < 3 then (cg_I h63 10 1 y0 (fun v65 => (cg_p h63 10 1 y0 (.int (v65 + 1)) (fun h66 => (cg_d x2 (fun a67 => (cg_R h66 12 3 a67 (fun v68 => (cg_c h66 10 y0 (cg_rm cr sr (fun c72 s73 c74 s75 => P y0 (x1 + 1) c72 s73 (fun v69 h70 z71 => (cg_d v68 (fun a76 => (cg_c h70 4 a76 (cg_rm c74 s75 (fun c80 s81 c82 s83 => w_AL_add dA a76 v69 c80 s81 (fun v77 h78 z79 => (cg_c h78 10 y0 (w_TextReader_failed10 dA y0 (fun v84 h85 z86 => (if v84 = 0 then (cg_c h85 10 y0 (w_TextReader_take10 dA y0 93 (fun v87 h88 z89 => (w_PathReader_readStep_179 dA P y0 K (w_PathReader_readStep_93 dA P y0 K n9) x1 x2 x3 c82 s83 h88 z89)) h85 z86)) else (w_PathReader_readStep_179 dA P y0 K (w_PathReader_readStep_93 dA P y0 K n9) x1 x2 x3 c82 s83 h85 z86))) h78 z79))) h70 z71)))))) h66 z64))))))))))) else (cg_I h63 10 1 y0 (fun v90 => (cg_c h63 10 y0 (w_TextReader_failAt10 dA y0 v90 (fun v91 h92 z93 => (K x2 h92 z93)) h63 z64))))) else (w_PathReader_readStep_185 dA P y0 K x2 cr sr h63 z64))) h59 z60)))) else (w_PathReader_readStep_185 dA P y0 K x2 cr sr h59 z60))) h z)))))))))
def w_PathReader_readStep_91 (dA : Nat → ClassId) (P : Nat → Int32 → Nat → Nat → (Option Nat → hm_T → hz_T → Prop) → hm_T → hz_T → Prop) (y0 : Nat) (K : Option Nat → hm_T → hz_T → Prop) (x1 : Int32) (x2 : Option Nat) (cr sr : Nat) (h : hm_T) (z : hz_T) : Prop := (w_PathReader_readStep_93 dA P y0 K mF x1 x2 0 cr sr h z)
def w_PathReader_readStep_44 (dA : Nat → ClassId) (P : Nat → Int32 → Nat → Nat → (Option Nat → hm_T → hz_T → Prop) → hm_T → hz_T → Prop) (y0 : Nat) (K : Option Nat → hm_T → hz_T → Prop) (x1 : Int32) (x2 : Option Nat) (cr sr : Nat) (h : hm_T) (z : hz_T) : Prop := (cg_I h 10 1 y0 (fun v39 => (cg_c h 10 y0 (w_TextReader_seen10 dA y0 v39 (fun v40 h41 z42 => (w_PathReader_isKindSign dA v40 (fun v43 h44 z45 => (if v43 = 0 then (cg_c h44 10 y0 (cg_rm cr sr (fun c49 s50 c51 s52 => w_TextReader_readName10 dA y0 c49 s50 (fun v46 h47 z48 => (cg_d x2 (fun a53 => (cg_p h47 12 2 a53 (va_rf v46) (fun h54 => (w_PathReader_readStep_91 dA P y0 K x1 x2 c51 s52 h54 z48)))))) h44 z45))) else (cg_I h44 10 1 y0 (fun v94 => (cg_c h44 10 y0 (w_TextReader_seen10 dA y0 v94 (fun v95 h96 z97 => (cg_d x2 (fun a98 => (cg_ch v95 (cg_p h96 12 1 a98 (.int v95) (fun h99 => (cg_I h99 10 1 y0 (fun v100 => (cg_p h99 10 1 y0 (.int (v100 + 1)) (fun h101 => (w_PathReader_readStep_91 dA P y0 K x1 x2 cr sr h101 z97))))))))))) h44 z45)))))) h41 z42)) h z))))
def w_PathReader_readStep (dA : Nat → ClassId) (P : Nat → Int32 → Nat → Nat → (Option Nat → hm_T → hz_T → Prop) → hm_T → hz_T → Prop) (y0 : Nat) (y1 : Int32) (rc rs : Nat) (K : Option Nat → hm_T → hz_T → Prop) (h0 : hm_T) (z0 : hz_T) : Prop := (cg_new h0 rc rs 12 5 [.int 0, .int 0, .null, .null, .long 0] (fun q21 c23 s24 h22 => (cg_c h22 12 q21 (cg_rm c23 s24 (fun c28 s29 c30 s31 => w_Step_init dA q21 c28 s29 (fun h26 z27 => (cg_I h26 10 1 y0 (fun v32 => (cg_c h26 10 y0 (w_TextReader_seen10 dA y0 v32 (fun v33 h34 z35 => (w_PathReader_isAxis dA v33 (fun v36 h37 z38 => (if v36 = 0 then (w_PathReader_readStep_44 dA P y0 K y1 (some q21) c30 s31 h37 z38) else (cg_I h37 10 1 y0 (fun v102 => (cg_c h37 10 y0 (w_TextReader_seen10 dA y0 v102 (fun v103 h104 z105 => (cg_ch v103 (cg_p h104 12 0 q21 (.int v103) (fun h106 => (cg_I h106 10 1 y0 (fun v107 => (cg_p h106 10 1 y0 (.int (v107 + 1)) (fun h108 => (w_PathReader_readStep_44 dA P y0 K y1 (some q21) c30 s31 h108 z105))))))))) h37 z38)))))) h34 z35)) h26 z27))))) h22 z0)))))
set_option maxRecDepth 100000 in
set_option maxHeartbeats 8000000 in
theorem cw_PathReader_readStep (l : Launch) (D : va_G) (dA : Nat → ClassId) (s0 : State) (hW : ms_EW D dA s0) (P : Nat → Int32 → Nat → Nat → (Option Nat → hm_T → hz_T → Prop) → hm_T → hz_T → Prop) (fP lP : Nat) (hP : ∀ (a0_ : Nat) (a1_ : Int32) (c1 s1 : Nat) (h0 : hm_T) (z0 : hz_T) (K : Option Nat → hm_T → hz_T → Prop), P a0_ a1_ c1 s1 K h0 z0 → ht_C l D s0 yM253 bM253 4 (Option.some (Jvm.ClassFile.FieldType.object "MarkupStore$Predicate")) fP lP c1 s1 [.ref a0_, .int a1_] (fun h z => h = h0 ∧ z = z0) (fun h z vv h1 z1 => ∃ v, vv = some (va_rf v) ∧ K v h1 z1)) (y0 : Nat) (y1 : Int32) (rc rs : Nat) (h0 : hm_T) (z0 : hz_T) (K : Option Nat → hm_T → hz_T → Prop) (hg : w_PathReader_readStep dA P y0 y1 rc rs K h0 z0) : ht_C l D s0 yM237 bM237 4 (Option.some (Jvm.ClassFile.FieldType.object "MarkupStore$Step")) (fP + 7) (lP + 231) rc rs [.ref y0, .int y1] (fun h z => h = h0 ∧ z = z0) (fun h z vv h1 z1 => ∃ v, vv = some (va_rf v) ∧ K v h1 z1) := by
  have hE := hW.1
  refine ht_C.mk hE.1 (by decide) (Nat.le_of_ble_eq_true rfl) [(0, .ref y0), (1, .int y1)] rfl ?_
  intro p e s m below meth c ls h z X hin hpre I hl
  have hx := X.1
  have hb := X.2.1
  have hml := X.2.2.1
  have hown : s.vm.findClass "MarkupStore$PathReader" = some m.cls := X.2.2.2.1
  have hts := X.2.2.2.2.2.2.1
  have hK := X.2.2.2.2.2.2.2.2.1
  rw [hpre.1, hpre.2] at I
  clear hpre
  have b185 : ∀ (ls : Array Slot) (x2 : Option Nat) (cr sr cu su : Nat) (h : hm_T) (z : hz_T) (H : Heap) (locs : List Loc), w_PathReader_readStep_185 dA P y0 K x2 cr sr h z → cu + cr ≤ rc → su + sr ≤ rs → lv_has ls 4 [(2, va_rf x2)] → hm_I D s0 s h z H locs → W p l e { frames := fP + 7, cells := rc, slots := rs, locals := lP + 231 } s m ([.ref y0, .int y1] : List Value).toArray below meth c H locs cu su (MQ below (ht_Q D s0 (fun vv h1 z1 => ∃ v, vv = some (va_rf v) ∧ K v h1 z1)) ([.ref y0, .int y1] : List Value).toArray s rc rs (fun q => s0.heap.size ≤ q)) (F0 m 185 ls []) := by
    intro ls x2 cr sr cu su h z H locs hF hc hs hl I
    unfold w_PathReader_readStep_185 at hF
    refine lv_aload_nR hx hb d237_185 rfl (lv_at hl 0 rfl) ?_
    exact ht_aret X d237_186 I (rm_r hc) (rm_r hs) ⟨x2, rfl, hF⟩ (Or.inl ⟨_, rfl⟩) (rf_or _)
  have b179 : ∀ (k93 : Int32 → Option Nat → Int32 → Nat → Nat → hm_T → hz_T → Prop), (∀ (ls : Array Slot) (x1 : Int32) (x2 : Option Nat) (x3 : Int32) (cr sr cu su : Nat) (h : hm_T) (z : hz_T) (H : Heap) (locs : List Loc), k93 x1 x2 x3 cr sr h z → cu + cr ≤ rc → su + sr ≤ rs → lv_has ls 4 [(0, .ref y0), (1, .int x1), (2, va_rf x2), (3, .int x3)] → hm_I D s0 s h z H locs → W p l e { frames := fP + 7, cells := rc, slots := rs, locals := lP + 231 } s m ([.ref y0, .int y1] : List Value).toArray below meth c H locs cu su (MQ below (ht_Q D s0 (fun vv h1 z1 => ∃ v, vv = some (va_rf v) ∧ K v h1 z1)) ([.ref y0, .int y1] : List Value).toArray s rc rs (fun q => s0.heap.size ≤ q)) (F0 m 93 ls [])) → ∀ (ls : Array Slot) (x1 : Int32) (x2 : Option Nat) (x3 : Int32) (cr sr cu su : Nat) (h : hm_T) (z : hz_T) (H : Heap) (locs : List Loc), w_PathReader_readStep_179 dA P y0 K k93 x1 x2 x3 cr sr h z → cu + cr ≤ rc → su + sr ≤ rs → lv_has ls 4 [(0, .ref y0), (1, .int x1), (2, va_rf x2), (3, .int x3)] → hm_I D s0 s h z H locs → W p l e { frames := fP + 7, cells := rc, slots := rs, locals := lP + 231 } s m ([.ref y0, .int y1] : List Value).toArray below meth c H locs cu su (MQ below (ht_Q D s0 (fun vv h1 z1 => ∃ v, vv = some (va_rf v) ∧ K v h1 z1)) ([.ref y0, .int y1] : List Value).toArray s rc rs (fun q => s0.heap.size ≤ q)) (F0 m 179 ls []) := by
    intro k93 hk93 ls x1 x2 x3 cr sr cu su h z H locs hF hc hs hl I
    unfold w_PathReader_readStep_179 at hF
    refine lv_iinc (k := 3) (v := (x3 + 1)) hx hb d237_179 hl rfl (rfl) (by decide) (show _ = [(3, .int (x3 + 1)), (0, .ref y0), (1, .int x1), (2, va_rf x2)] by simp [cat_rf, cat_int, cat_ref, cat_null, cat_long]) (fun ls hl => ?_)
    have hl : lv_has ls 4 [(3, .int (x3 + 1)), (0, .ref y0), (1, .int x1), (2, va_rf x2)] := hl
    refine lv_goto hx hb d237_182 rfl ?_
    exact hk93 ls x1 x2 (x3 + 1) cr sr _ _ h z _ _ hF hc hs (hl.sub [1, 2, 3, 0] rfl) I
  have b93 : ∀ n9 : Nat, ∀ (ls : Array Slot) (x1 : Int32) (x2 : Option Nat) (x3 : Int32) (cr sr cu su : Nat) (h : hm_T) (z : hz_T) (H : Heap) (locs : List Loc), w_PathReader_readStep_93 dA P y0 K n9 x1 x2 x3 cr sr h z → cu + cr ≤ rc → su + sr ≤ rs → lv_has ls 4 [(0, .ref y0), (1, .int x1), (2, va_rf x2), (3, .int x3)] → hm_I D s0 s h z H locs → W p l e { frames := fP + 7, cells := rc, slots := rs, locals := lP + 231 } s m ([.ref y0, .int y1] : List Value).toArray below meth c H locs cu su (MQ below (ht_Q D s0 (fun vv h1 z1 => ∃ v, vv = some (va_rf v) ∧ K v h1 z1)) ([.ref y0, .int y1] : List Value).toArray s rc rs (fun q => s0.heap.size ≤ q)) (F0 m 93 ls []) := by
    intro n9
    induction n9 with
    | zero => intro ls x1 x2 x3 cr sr cu su h z H locs hF; cases hF
    | succ n9 hk93 =>
    intro ls x1 x2 x3 cr sr cu su h z H locs hF hc hs hl I
    unfold w_PathReader_readStep_93 at hF
    refine lv_iload_n hx hb d237_93 rfl (lv_at hl 3 rfl) ?_
    refine lv_aload_n hx hb d237_94 rfl (lv_at hl 0 rfl) ?_
    obtain ⟨fs9, v55, c9, e9, hF⟩ := hF
    refine va_get (D := D) (ci := 10) (v := va_rf v55) (C := kR10) (T := kT10) (N := 3) hx hb hts ku10 hown hK (hm_one I.1 c9) 0 rfl rfl 0 (by decide) (hts _ ms_k353) (fun x9 h9 => u_same (hts _ ms_k354) x9 h9) e9 d237_95 ?_
    clear e9 c9 fs9
    obtain ⟨a56, e9, hF⟩ := hF
    refine W.eq (g2 := F0 m 98 ls [.ref a56, .int x3]) (by rw [e9]; rfl) ?_
    clear e9
    obtain ⟨u9, xs9, z9, hF⟩ := hF
    refine ht_V (C := "java/lang/String") (rest := [.int x3]) (as := []) X hl (c_Slen l D dA s0 hE a56 u9 xs9) (List.forall_mem_cons.mpr ⟨ms_k1002, List.forall_mem_cons.mpr ⟨ms_k391, List.forall_mem_cons.mpr ⟨ms_k392, List.forall_mem_cons.mpr ⟨ms_k4, List.forall_mem_cons.mpr ⟨ms_k393, fun _ h => absurd h List.not_mem_nil⟩⟩⟩⟩⟩) ⟨rfl, by decide +kernel, by decide +kernel, (by decide +kernel : (parseMethodDescriptor "()I").map (fun d => d.parameters.length) = some 0)⟩ (hz_recv I z9) I z9 ⟨⟨by show _ ≤ fP + 7; omega, by show _ ≤ lP + 231; omega⟩, rm_0 hc, rm_0 hs⟩ rfl (Nat.le_of_ble_eq_true rfl) d237_98 (fun vv h9 z7 H locs hR I9 => ?_)
    obtain ⟨e1, e2, e3⟩ := hR
    rw [e2, e3] at I9
    subst e1
    clear I
    have I := I9
    clear I9 e2 e3 h9 z7
    refine W.eq (g2 := F0 m 101 ls [.int (nI xs9.length), .int x3]) rfl ?_
    generalize (nI xs9.length) = v57 at hF ⊢
    refine lv_icmp_ge hx hb d237_101 rfl (fun h9 => ?_) (fun h9 => ?_)
    · have hF := Eq.mp (if_pos h9) hF
      exact b185 ls x2 cr sr _ _ h z _ _ hF hc hs (hl.sub [2] rfl) I
    · have hF := Eq.mp (if_neg h9) hF
      refine lv_aload_n hx hb d237_104 rfl (lv_at hl 0 rfl) ?_
      obtain ⟨fs9, c9, hF⟩ := hF
      refine ht_U (C := "MarkupStore$PathReader") (x := ⟨"MarkupStore$PathReader", "failed", "()Z"⟩) (owner := "MarkupStore$TextReader") (rest := []) (as := []) X hl (cw_TextReader_failed10 l D dA s0 hE y0 h z _ hF) (List.forall_mem_cons.mpr ⟨ms_k1003, List.forall_mem_cons.mpr ⟨ms_k1004, List.forall_mem_cons.mpr ⟨ms_k1005, List.forall_mem_cons.mpr ⟨ms_k588, List.forall_mem_cons.mpr ⟨ms_k14, List.forall_mem_cons.mpr ⟨ms_k589, fun _ h => absurd h List.not_mem_nil⟩⟩⟩⟩⟩⟩) rfl ⟨by decide +kernel, by decide +kernel, (by decide +kernel : (parseMethodDescriptor "()Z").map (fun d => d.parameters.length) = some 0)⟩ (hm_recv hK I rfl c9) I ⟨rfl, rfl⟩ ⟨⟨by show _ ≤ fP + 7; omega, by show _ ≤ lP + 231; omega⟩, rm_0 hc, rm_0 hs⟩ rfl (Nat.le_of_ble_eq_true rfl) d237_105 (fun vv h59 z60 H locs hR I9 => ?_)
      obtain ⟨v58, e1, hF⟩ := hR
      subst e1
      clear I
      have I := I9
      clear I9 c9 fs9
      refine W.eq (g2 := F0 m 108 ls [.int v58]) rfl ?_
      refine lv_if_ne hx hb d237_108 rfl (fun h9 => ?_) (fun h9 => ?_)
      · have hF := Eq.mp (if_neg h9) hF
        exact b185 ls x2 cr sr _ _ h59 z60 _ _ hF hc hs (hl.sub [2] rfl) I
      · have hF := Eq.mp (if_pos h9) hF
        refine lv_aload_n hx hb d237_111 rfl (lv_at hl 0 rfl) ?_
        refine lv_aload_n hx hb d237_112 rfl (lv_at hl 0 rfl) ?_
        obtain ⟨fs9, v61, c9, e9, hF⟩ := hF
        refine va_get (D := D) (ci := 10) (v := .int v61) (C := kR10) (T := kT10) (N := 3) hx hb hts ku10 hown hK (hm_one I.1 c9) 0 rfl rfl 1 (by decide) (hts _ ms_k358) (fun x9 h9 => u_same (hts _ ms_k359) x9 h9) e9 d237_113 ?_
        clear e9 c9 fs9
        obtain ⟨fs9, c9, hF⟩ := hF
        refine ht_U (C := "MarkupStore$PathReader") (x := ⟨"MarkupStore$PathReader", "seen", "(I)C"⟩) (owner := "MarkupStore$TextReader") (rest := []) (as := [.int v61]) X hl (cw_TextReader_seen10 l D dA s0 hE y0 v61 h59 z60 _ hF) (List.forall_mem_cons.mpr ⟨ms_k890, List.forall_mem_cons.mpr ⟨ms_k891, List.forall_mem_cons.mpr ⟨ms_k892, List.forall_mem_cons.mpr ⟨ms_k388, List.forall_mem_cons.mpr ⟨ms_k14, List.forall_mem_cons.mpr ⟨ms_k389, fun _ h => absurd h List.not_mem_nil⟩⟩⟩⟩⟩⟩) rfl ⟨by decide +kernel, by decide +kernel, (by decide +kernel : (parseMethodDescriptor "(I)C").map (fun d => d.parameters.length) = some 1)⟩ (hm_recv hK I rfl c9) I ⟨rfl, rfl⟩ ⟨⟨by show _ ≤ fP + 7; omega, by show _ ≤ lP + 231; omega⟩, rm_0 hc, rm_0 hs⟩ rfl (Nat.le_of_ble_eq_true rfl) d237_116 (fun vv h63 z64 H locs hR I9 => ?_)
        obtain ⟨v62, e1, hF⟩ := hR
        subst e1
        clear I
        have I := I9
        clear I9 c9 fs9
        refine W.eq (g2 := F0 m 119 ls [.int v62]) rfl ?_
        refine lv_bipush (v := 91) hx hb d237_119 (by decide) ?_
        refine lv_icmp_ne hx hb d237_121 rfl (fun h9 => ?_) (fun h9 => ?_)
        · have hF := Eq.mp (if_neg h9) hF
          exact b185 ls x2 cr sr _ _ h63 z64 _ _ hF hc hs (hl.sub [2] rfl) I
        · have hF := Eq.mp (if_pos h9) hF
          refine lv_iload_n hx hb d237_124 rfl (lv_at hl 1 rfl) ?_
          refine lv_iconst (v := 3) hx hb d237_125 (by decide) ?_
          refine lv_icmp_lt hx hb d237_126 rfl (fun h9 => ?_) (fun h9 => ?_)
          · have hF := Eq.mp (if_pos h9) hF
            refine lv_aload_n hx hb d237_140 rfl (lv_at hl 0 rfl) ?_
            refine lv_dup hx hb d237_141 rfl ?_
            obtain ⟨fs9, v65, c9, e9, hF⟩ := hF
            refine va_get (D := D) (ci := 10) (v := .int v65) (C := kR10) (T := kT10) (N := 3) hx hb hts ku10 hown hK (hm_one I.1 c9) 0 rfl rfl 1 (by decide) (hts _ ms_k358) (fun x9 h9 => u_same (hts _ ms_k359) x9 h9) e9 d237_142 ?_
            clear e9 c9 fs9
            refine lv_iconst (v := 1) hx hb d237_145 (by decide) ?_
            refine lv_iadd hx hb d237_146 ?_
            obtain ⟨fs9, c9, k9, hF⟩ := hF
            refine hm_put (ci := 10) (v := .int (v65 + 1)) (ty := .int) (C := kR10) (T := kT10) (N := 3) X I ku10 kt10 kp10 kn10 c9 rfl 1 (by decide) ms_k358 (fun x9 h9 => u_same (hts _ ms_k359) x9 h9) rfl (by decide +kernel) rfl rfl k9 d237_147 (fun h66 H locs e9 f9 I => ?_)
            rw [← hm_eqU e9 f9] at hF
            clear e9 f9 c9 k9
            refine lv_aload_nR hx hb d237_150 rfl (lv_at hl 2 rfl) ?_
            obtain ⟨a67, e9, hF⟩ := hF
            refine W.eq (g2 := F0 m 151 ls [.ref a67]) (by rw [e9]; rfl) ?_
            clear e9
            obtain ⟨fs9, v68, c9, e9, hF⟩ := hF
            refine va_get (D := D) (ci := 12) (v := va_rf v68) (C := kR12) (T := kT12) (N := 5) hx hb hts ku12 hown hK (hm_one I.1 c9) 0 rfl rfl 3 (by decide) (hts _ ms_k932) (fun _ h => h) e9 d237_151 ?_
            clear e9 c9 fs9
            refine lv_aload_n hx hb d237_154 rfl (lv_at hl 0 rfl) ?_
            refine lv_iload_n hx hb d237_155 rfl (lv_at hl 1 rfl) ?_
            refine lv_iconst (v := 1) hx hb d237_156 (by decide) ?_
            refine lv_iadd hx hb d237_157 ?_
            obtain ⟨fs9, c9, hF⟩ := hF
            obtain ⟨c72, s73, c74, s75, ec, es, hF⟩ := hF
            refine ht_V (C := "MarkupStore$PathReader") (rest := [va_rf v68]) (as := [.int (x1 + 1)]) X hl (hP y0 (x1 + 1) c72 s73 h66 z64 _ hF) (List.forall_mem_cons.mpr ⟨ms_k1009, List.forall_mem_cons.mpr ⟨ms_k1011, List.forall_mem_cons.mpr ⟨ms_p21, List.forall_mem_cons.mpr ⟨ms_k23, List.forall_mem_cons.mpr ⟨ms_k1012, fun _ h => absurd h List.not_mem_nil⟩⟩⟩⟩⟩) ⟨rfl, by decide +kernel, by decide +kernel, (by decide +kernel : (parseMethodDescriptor "(I)LMarkupStore$Predicate;").map (fun d => d.parameters.length) = some 1)⟩ (hm_recv hK I rfl c9) I ⟨rfl, rfl⟩ ⟨⟨by show _ ≤ fP + 7; omega, by show _ ≤ lP + 231; omega⟩, (rm_u hc ec).1, (rm_u hs es).1⟩ rfl (by simp [cat_rf, cat_int, cat_ref, cat_null, cat_long]) d237_158 (fun vv h70 z71 H locs hR I9 => ?_)
            obtain ⟨v69, e1, hF⟩ := hR
            subst e1
            clear I
            have I := I9
            clear I9 c9 fs9
            have hc := (rm_u hc ec).2
            have hs := (rm_u hs es).2
            clear ec es
            refine W.eq (g2 := F0 m 161 ls [va_rf v69, va_rf v68]) rfl ?_
            obtain ⟨a76, e9, hF⟩ := hF
            refine W.eq (g2 := F0 m 161 ls [va_rf v69, .ref a76]) (by rw [e9]; rfl) ?_
            clear e9
            obtain ⟨fs9, c9, hF⟩ := hF
            obtain ⟨c80, s81, c82, s83, ec, es, hF⟩ := hF
            refine ht_V (C := "java/util/ArrayList") (rest := []) (as := [va_rf v69]) X hl (cw_AL_add l D dA s0 hW a76 v69 c80 s81 h70 z71 _ hF) (List.forall_mem_cons.mpr ⟨ms_k1077, List.forall_mem_cons.mpr ⟨ms_k495, List.forall_mem_cons.mpr ⟨ms_k496, List.forall_mem_cons.mpr ⟨ms_k18, List.forall_mem_cons.mpr ⟨ms_k497, fun _ h => absurd h List.not_mem_nil⟩⟩⟩⟩⟩) ⟨rfl, by decide +kernel, by decide +kernel, (by decide +kernel : (parseMethodDescriptor "(Ljava/lang/Object;)Z").map (fun d => d.parameters.length) = some 1)⟩ (hm_recv hK I rfl c9) I ⟨rfl, rfl⟩ ⟨⟨by show _ ≤ fP + 7; omega, by show _ ≤ lP + 231; omega⟩, (rm_u hc ec).1, (rm_u hs es).1⟩ rfl (Nat.le_of_ble_eq_true rfl) d237_161 (fun vv h78 z79 H locs hR I9 => ?_)
            obtain ⟨v77, e1, hF⟩ := hR
            subst e1
            clear I
            have I := I9
            clear I9 c9 fs9
            have hc := (rm_u hc ec).2
            have hs := (rm_u hs es).2
            clear ec es
            refine W.eq (g2 := F0 m 164 ls [.int v77]) rfl ?_
            refine lv_pop hx hb d237_164 rfl ?_
            refine lv_aload_n hx hb d237_165 rfl (lv_at hl 0 rfl) ?_
            obtain ⟨fs9, c9, hF⟩ := hF
            refine ht_U (C := "MarkupStore$PathReader") (x := ⟨"MarkupStore$PathReader", "failed", "()Z"⟩) (owner := "MarkupStore$TextReader") (rest := []) (as := []) X hl (cw_TextReader_failed10 l D dA s0 hE y0 h78 z79 _ hF) (List.forall_mem_cons.mpr ⟨ms_k1003, List.forall_mem_cons.mpr ⟨ms_k1004, List.forall_mem_cons.mpr ⟨ms_k1005, List.forall_mem_cons.mpr ⟨ms_k588, List.forall_mem_cons.mpr ⟨ms_k14, List.forall_mem_cons.mpr ⟨ms_k589, fun _ h => absurd h List.not_mem_nil⟩⟩⟩⟩⟩⟩) rfl ⟨by decide +kernel, by decide +kernel, (by decide +kernel : (parseMethodDescriptor "()Z").map (fun d => d.parameters.length) = some 0)⟩ (hm_recv hK I rfl c9) I ⟨rfl, rfl⟩ ⟨⟨by show _ ≤ fP + 7; omega, by show _ ≤ lP + 231; omega⟩, rm_0 hc, rm_0 hs⟩ rfl (Nat.le_of_ble_eq_true rfl) d237_166 (fun vv h85 z86 H locs hR I9 => ?_)
            obtain ⟨v84, e1, hF⟩ := hR
            subst e1
            clear I
            have I := I9
            clear I9 c9 fs9
            refine W.eq (g2 := F0 m 169 ls [.int v84]) rfl ?_
            refine lv_if_ne hx hb d237_169 rfl (fun h9 => ?_) (fun h9 => ?_)
            · have hF := Eq.mp (if_neg h9) hF
              exact b179 (w_PathReader_readStep_93 dA P y0 K n9) hk93 ls x1 x2 x3 c82 s83 _ _ h85 z86 _ _ hF hc hs (hl.sub [0, 1, 2, 3] rfl) I
            · have hF := Eq.mp (if_pos h9) hF
              refine lv_aload_n hx hb d237_172 rfl (lv_at hl 0 rfl) ?_
              refine lv_bipush (v := 93) hx hb d237_173 (by decide) ?_
              obtain ⟨fs9, c9, hF⟩ := hF
              refine ht_U (C := "MarkupStore$PathReader") (x := ⟨"MarkupStore$PathReader", "take", "(C)Z"⟩) (owner := "MarkupStore$TextReader") (rest := []) (as := [.int 93]) X hl (cw_TextReader_take10 l D dA s0 hE y0 93 h85 z86 _ hF) (List.forall_mem_cons.mpr ⟨ms_k1072, List.forall_mem_cons.mpr ⟨ms_k1073, List.forall_mem_cons.mpr ⟨ms_k1074, List.forall_mem_cons.mpr ⟨ms_k627, List.forall_mem_cons.mpr ⟨ms_k14, List.forall_mem_cons.mpr ⟨ms_k628, fun _ h => absurd h List.not_mem_nil⟩⟩⟩⟩⟩⟩) rfl ⟨by decide +kernel, by decide +kernel, (by decide +kernel : (parseMethodDescriptor "(C)Z").map (fun d => d.parameters.length) = some 1)⟩ (hm_recv hK I rfl c9) I ⟨rfl, rfl⟩ ⟨⟨by show _ ≤ fP + 7; omega, by show _ ≤ lP + 231; omega⟩, rm_0 hc, rm_0 hs⟩ rfl (Nat.le_of_ble_eq_true rfl) d237_175 (fun vv h88 z89 H locs hR I9 => ?_)
              obtain ⟨v87, e1, hF⟩ := hR
              subst e1
              clear I
              have I := I9
              clear I9 c9 fs9
              refine W.eq (g2 := F0 m 178 ls [.int v87]) rfl ?_
              refine lv_pop hx hb d237_178 rfl ?_
              exact b179 (w_PathReader_readStep_93 dA P y0 K n9) hk93 ls x1 x2 x3 c82 s83 _ _ h88 z89 _ _ hF hc hs (hl.sub [0, 1, 2, 3] rfl) I
          · have hF := Eq.mp (if_neg h9) hF
            refine lv_aload_n hx hb d237_129 rfl (lv_at hl 0 rfl) ?_
            refine lv_aload_n hx hb d237_130 rfl (lv_at hl 0 rfl) ?_
            obtain ⟨fs9, v90, c9, e9, hF⟩ := hF
            refine va_get (D := D) (ci := 10) (v := .int v90) (C := kR10) (T := kT10) (N := 3) hx hb hts ku10 hown hK (hm_one I.1 c9) 0 rfl rfl 1 (by decide) (hts _ ms_k358) (fun x9 h9 => u_same (hts _ ms_k359) x9 h9) e9 d237_131 ?_
            clear e9 c9 fs9
            obtain ⟨fs9, c9, hF⟩ := hF
            refine ht_U (C := "MarkupStore$PathReader") (x := ⟨"MarkupStore$PathReader", "failAt", "(I)Z"⟩) (owner := "MarkupStore$TextReader") (rest := []) (as := [.int v90]) X hl (cw_TextReader_failAt10 l D dA s0 hE y0 v90 h63 z64 _ hF) (List.forall_mem_cons.mpr ⟨ms_k1006, List.forall_mem_cons.mpr ⟨ms_k1007, List.forall_mem_cons.mpr ⟨ms_k1008, List.forall_mem_cons.mpr ⟨ms_k417, List.forall_mem_cons.mpr ⟨ms_k14, List.forall_mem_cons.mpr ⟨ms_k418, fun _ h => absurd h List.not_mem_nil⟩⟩⟩⟩⟩⟩) rfl ⟨by decide +kernel, by decide +kernel, (by decide +kernel : (parseMethodDescriptor "(I)Z").map (fun d => d.parameters.length) = some 1)⟩ (hm_recv hK I rfl c9) I ⟨rfl, rfl⟩ ⟨⟨by show _ ≤ fP + 7; omega, by show _ ≤ lP + 231; omega⟩, rm_0 hc, rm_0 hs⟩ rfl (Nat.le_of_ble_eq_true rfl) d237_134 (fun vv h92 z93 H locs hR I9 => ?_)
            obtain ⟨v91, e1, hF⟩ := hR
            subst e1
            clear I
            have I := I9
            clear I9 c9 fs9
            refine W.eq (g2 := F0 m 137 ls [.int v91]) rfl ?_
            refine lv_pop hx hb d237_137 rfl ?_
            refine lv_aload_nR hx hb d237_138 rfl (lv_at hl 2 rfl) ?_
            exact ht_aret X d237_139 I (rm_r hc) (rm_r hs) ⟨x2, rfl, hF⟩ (Or.inl ⟨_, rfl⟩) (rf_or _)
  have b91 : ∀ (ls : Array Slot) (x1 : Int32) (x2 : Option Nat) (cr sr cu su : Nat) (h : hm_T) (z : hz_T) (H : Heap) (locs : List Loc), w_PathReader_readStep_91 dA P y0 K x1 x2 cr sr h z → cu + cr ≤ rc → su + sr ≤ rs → lv_has ls 4 [(0, .ref y0), (1, .int x1), (2, va_rf x2)] → hm_I D s0 s h z H locs → W p l e { frames := fP + 7, cells := rc, slots := rs, locals := lP + 231 } s m ([.ref y0, .int y1] : List Value).toArray below meth c H locs cu su (MQ below (ht_Q D s0 (fun vv h1 z1 => ∃ v, vv = some (va_rf v) ∧ K v h1 z1)) ([.ref y0, .int y1] : List Value).toArray s rc rs (fun q => s0.heap.size ≤ q)) (F0 m 91 ls []) := by
    intro ls x1 x2 cr sr cu su h z H locs hF hc hs hl I
    unfold w_PathReader_readStep_91 at hF
    refine lv_iconst (v := 0) hx hb d237_91 (by decide) ?_
    refine lv_istore_n (i := 3) hx hb d237_92 rfl hl (by decide) (show _ = [(3, .int 0), (0, .ref y0), (1, .int x1), (2, va_rf x2)] by simp [cat_rf, cat_int, cat_ref, cat_null, cat_long]) (fun ls hl => ?_)
    have hl : lv_has ls 4 [(3, .int 0), (0, .ref y0), (1, .int x1), (2, va_rf x2)] := hl
    exact b93 mF ls x1 x2 0 cr sr _ _ h z _ _ hF hc hs (hl.sub [1, 2, 3, 0] rfl) I
  have b44 : ∀ (ls : Array Slot) (x1 : Int32) (x2 : Option Nat) (cr sr cu su : Nat) (h : hm_T) (z : hz_T) (H : Heap) (locs : List Loc), w_PathReader_readStep_44 dA P y0 K x1 x2 cr sr h z → cu + cr ≤ rc → su + sr ≤ rs → lv_has ls 4 [(0, .ref y0), (1, .int x1), (2, va_rf x2)] → hm_I D s0 s h z H locs → W p l e { frames := fP + 7, cells := rc, slots := rs, locals := lP + 231 } s m ([.ref y0, .int y1] : List Value).toArray below meth c H locs cu su (MQ below (ht_Q D s0 (fun vv h1 z1 => ∃ v, vv = some (va_rf v) ∧ K v h1 z1)) ([.ref y0, .int y1] : List Value).toArray s rc rs (fun q => s0.heap.size ≤ q)) (F0 m 44 ls []) := by
    intro ls x1 x2 cr sr cu su h z H locs hF hc hs hl I
    unfold w_PathReader_readStep_44 at hF
    refine lv_aload_n hx hb d237_44 rfl (lv_at hl 0 rfl) ?_
    refine lv_aload_n hx hb d237_45 rfl (lv_at hl 0 rfl) ?_
    obtain ⟨fs9, v39, c9, e9, hF⟩ := hF
    refine va_get (D := D) (ci := 10) (v := .int v39) (C := kR10) (T := kT10) (N := 3) hx hb hts ku10 hown hK (hm_one I.1 c9) 0 rfl rfl 1 (by decide) (hts _ ms_k358) (fun x9 h9 => u_same (hts _ ms_k359) x9 h9) e9 d237_46 ?_
    clear e9 c9 fs9
    obtain ⟨fs9, c9, hF⟩ := hF
    refine ht_U (C := "MarkupStore$PathReader") (x := ⟨"MarkupStore$PathReader", "seen", "(I)C"⟩) (owner := "MarkupStore$TextReader") (rest := []) (as := [.int v39]) X hl (cw_TextReader_seen10 l D dA s0 hE y0 v39 h z _ hF) (List.forall_mem_cons.mpr ⟨ms_k890, List.forall_mem_cons.mpr ⟨ms_k891, List.forall_mem_cons.mpr ⟨ms_k892, List.forall_mem_cons.mpr ⟨ms_k388, List.forall_mem_cons.mpr ⟨ms_k14, List.forall_mem_cons.mpr ⟨ms_k389, fun _ h => absurd h List.not_mem_nil⟩⟩⟩⟩⟩⟩) rfl ⟨by decide +kernel, by decide +kernel, (by decide +kernel : (parseMethodDescriptor "(I)C").map (fun d => d.parameters.length) = some 1)⟩ (hm_recv hK I rfl c9) I ⟨rfl, rfl⟩ ⟨⟨by show _ ≤ fP + 7; omega, by show _ ≤ lP + 231; omega⟩, rm_0 hc, rm_0 hs⟩ rfl (Nat.le_of_ble_eq_true rfl) d237_49 (fun vv h41 z42 H locs hR I9 => ?_)
    obtain ⟨v40, e1, hF⟩ := hR
    subst e1
    clear I
    have I := I9
    clear I9 c9 fs9
    refine W.eq (g2 := F0 m 52 ls [.int v40]) rfl ?_
    refine ht_S (rest := []) (as := [.int v40]) X hl (cw_PathReader_isKindSign l D dA s0 hE v40 h41 z42 _ hF) (List.forall_mem_cons.mpr ⟨ms_k995, List.forall_mem_cons.mpr ⟨ms_k996, List.forall_mem_cons.mpr ⟨ms_k23, List.forall_mem_cons.mpr ⟨ms_k997, fun _ h => absurd h List.not_mem_nil⟩⟩⟩⟩) ⟨by decide +kernel, by decide +kernel, (by decide +kernel : (parseMethodDescriptor "(C)Z").map (fun d => d.parameters.length) = some 1)⟩ I ⟨rfl, rfl⟩ ⟨⟨by show _ ≤ fP + 7; omega, by show _ ≤ lP + 231; omega⟩, rm_0 hc, rm_0 hs⟩ rfl (Nat.le_of_ble_eq_true rfl) d237_52 (fun vv h44 z45 H locs hR I9 => ?_)
    obtain ⟨v43, e1, hF⟩ := hR
    subst e1
    clear I
    have I := I9
    clear I9
    refine W.eq (g2 := F0 m 55 ls [.int v43]) rfl ?_
    refine lv_if_eq hx hb d237_55 rfl (fun h9 => ?_) (fun h9 => ?_)
    · have hF := Eq.mp (if_pos h9) hF
      refine lv_aload_nR hx hb d237_83 rfl (lv_at hl 2 rfl) ?_
      refine lv_aload_n hx hb d237_84 rfl (lv_at hl 0 rfl) ?_
      obtain ⟨fs9, c9, hF⟩ := hF
      obtain ⟨c49, s50, c51, s52, ec, es, hF⟩ := hF
      refine ht_U (C := "MarkupStore$PathReader") (x := ⟨"MarkupStore$PathReader", "readName", "()Ljava/lang/String;"⟩) (owner := "MarkupStore$TextReader") (rest := [va_rf x2]) (as := []) X hl (cw_TextReader_readName10 l D dA s0 hW y0 c49 s50 h44 z45 _ hF) (List.forall_mem_cons.mpr ⟨ms_k999, List.forall_mem_cons.mpr ⟨ms_k1000, List.forall_mem_cons.mpr ⟨ms_k1001, List.forall_mem_cons.mpr ⟨ms_k545, List.forall_mem_cons.mpr ⟨ms_k14, List.forall_mem_cons.mpr ⟨ms_k546, fun _ h => absurd h List.not_mem_nil⟩⟩⟩⟩⟩⟩) rfl ⟨by decide +kernel, by decide +kernel, (by decide +kernel : (parseMethodDescriptor "()Ljava/lang/String;").map (fun d => d.parameters.length) = some 0)⟩ (hm_recv hK I rfl c9) I ⟨rfl, rfl⟩ ⟨⟨by show _ ≤ fP + 7; omega, by show _ ≤ lP + 231; omega⟩, (rm_u hc ec).1, (rm_u hs es).1⟩ rfl (by simp [cat_rf, cat_int, cat_ref, cat_null, cat_long]) d237_85 (fun vv h47 z48 H locs hR I9 => ?_)
      obtain ⟨v46, e1, hF⟩ := hR
      subst e1
      clear I
      have I := I9
      clear I9 c9 fs9
      have hc := (rm_u hc ec).2
      have hs := (rm_u hs es).2
      clear ec es
      refine W.eq (g2 := F0 m 88 ls [va_rf v46, va_rf x2]) rfl ?_
      obtain ⟨a53, e9, hF⟩ := hF
      refine W.eq (g2 := F0 m 88 ls [va_rf v46, .ref a53]) (by rw [e9]; rfl) ?_
      clear e9
      obtain ⟨fs9, c9, k9, hF⟩ := hF
      refine hm_put (ci := 12) (v := va_rf v46) (ty := (.object "java/lang/String")) (C := kR12) (T := kT12) (N := 5) X I ku12 kt12 kp12 kn12 c9 rfl 2 (by decide) ms_k929 (fun _ h => h) rfl (by decide +kernel) (by cases v46 <;> rfl) (by cases v46 <;> rfl) k9 d237_88 (fun h54 H locs e9 f9 I => ?_)
      rw [← hm_eqU e9 f9] at hF
      clear e9 f9 c9 k9
      exact b91 ls x1 x2 c51 s52 _ _ h54 z48 _ _ hF hc hs (hl.sub [0, 1, 2] rfl) I
    · have hF := Eq.mp (if_neg h9) hF
      refine lv_aload_nR hx hb d237_58 rfl (lv_at hl 2 rfl) ?_
      refine lv_aload_n hx hb d237_59 rfl (lv_at hl 0 rfl) ?_
      refine lv_aload_n hx hb d237_60 rfl (lv_at hl 0 rfl) ?_
      obtain ⟨fs9, v94, c9, e9, hF⟩ := hF
      refine va_get (D := D) (ci := 10) (v := .int v94) (C := kR10) (T := kT10) (N := 3) hx hb hts ku10 hown hK (hm_one I.1 c9) 0 rfl rfl 1 (by decide) (hts _ ms_k358) (fun x9 h9 => u_same (hts _ ms_k359) x9 h9) e9 d237_61 ?_
      clear e9 c9 fs9
      obtain ⟨fs9, c9, hF⟩ := hF
      refine ht_U (C := "MarkupStore$PathReader") (x := ⟨"MarkupStore$PathReader", "seen", "(I)C"⟩) (owner := "MarkupStore$TextReader") (rest := [va_rf x2]) (as := [.int v94]) X hl (cw_TextReader_seen10 l D dA s0 hE y0 v94 h44 z45 _ hF) (List.forall_mem_cons.mpr ⟨ms_k890, List.forall_mem_cons.mpr ⟨ms_k891, List.forall_mem_cons.mpr ⟨ms_k892, List.forall_mem_cons.mpr ⟨ms_k388, List.forall_mem_cons.mpr ⟨ms_k14, List.forall_mem_cons.mpr ⟨ms_k389, fun _ h => absurd h List.not_mem_nil⟩⟩⟩⟩⟩⟩) rfl ⟨by decide +kernel, by decide +kernel, (by decide +kernel : (parseMethodDescriptor "(I)C").map (fun d => d.parameters.length) = some 1)⟩ (hm_recv hK I rfl c9) I ⟨rfl, rfl⟩ ⟨⟨by show _ ≤ fP + 7; omega, by show _ ≤ lP + 231; omega⟩, rm_0 hc, rm_0 hs⟩ rfl (by simp [cat_rf, cat_int, cat_ref, cat_null, cat_long]) d237_64 (fun vv h96 z97 H locs hR I9 => ?_)
      obtain ⟨v95, e1, hF⟩ := hR
      subst e1
      clear I
      have I := I9
      clear I9 c9 fs9
      refine W.eq (g2 := F0 m 67 ls [.int v95, va_rf x2]) rfl ?_
      obtain ⟨a98, e9, hF⟩ := hF
      refine W.eq (g2 := F0 m 67 ls [.int v95, .ref a98]) (by rw [e9]; rfl) ?_
      clear e9
      obtain ⟨hz9, hF⟩ := hF
      obtain ⟨fs9, c9, k9, hF⟩ := hF
      refine hm_put (ci := 12) (v := .int v95) (ty := .char) (C := kR12) (T := kT12) (N := 5) X I ku12 kt12 kp12 kn12 c9 rfl 1 (by decide) ms_k927 (fun _ h => h) rfl (by decide +kernel) (cg_chn hz9).1 (cg_chn hz9).2 k9 d237_67 (fun h99 H locs e9 f9 I => ?_)
      rw [← hm_eqU e9 f9] at hF
      clear e9 f9 c9 k9
      refine lv_aload_n hx hb d237_70 rfl (lv_at hl 0 rfl) ?_
      refine lv_dup hx hb d237_71 rfl ?_
      obtain ⟨fs9, v100, c9, e9, hF⟩ := hF
      refine va_get (D := D) (ci := 10) (v := .int v100) (C := kR10) (T := kT10) (N := 3) hx hb hts ku10 hown hK (hm_one I.1 c9) 0 rfl rfl 1 (by decide) (hts _ ms_k358) (fun x9 h9 => u_same (hts _ ms_k359) x9 h9) e9 d237_72 ?_
      clear e9 c9 fs9
      refine lv_iconst (v := 1) hx hb d237_75 (by decide) ?_
      refine lv_iadd hx hb d237_76 ?_
      obtain ⟨fs9, c9, k9, hF⟩ := hF
      refine hm_put (ci := 10) (v := .int (v100 + 1)) (ty := .int) (C := kR10) (T := kT10) (N := 3) X I ku10 kt10 kp10 kn10 c9 rfl 1 (by decide) ms_k358 (fun x9 h9 => u_same (hts _ ms_k359) x9 h9) rfl (by decide +kernel) rfl rfl k9 d237_77 (fun h101 H locs e9 f9 I => ?_)
      rw [← hm_eqU e9 f9] at hF
      clear e9 f9 c9 k9
      refine lv_goto hx hb d237_80 rfl ?_
      exact b91 ls x1 x2 cr sr _ _ h101 z97 _ _ hF hc hs (hl.sub [0, 1, 2] rfl) I
  have hF := hg
  unfold w_PathReader_readStep at hF
  clear h z
  have hc : 0 + rc ≤ rc := by omega
  have hs : 0 + rs ≤ rs := by omega
  obtain ⟨c23, s24, ec, es, hF⟩ := hF
  refine hm_mk (ci := 12) (fs := [.int 0, .int 0, .null, .null, .long 0]) (C := kR12) (T := kT12) (N := 5) X I ku12 kt12 kp12 (List.forall_mem_cons.mpr ⟨ms_k914, List.forall_mem_cons.mpr ⟨ms_k915, List.forall_mem_cons.mpr ⟨ms_k25, fun _ h => absurd h List.not_mem_nil⟩⟩⟩) rfl kz12 (rm_u hc ec).1 (rm_u hs es).1 d237_0 (fun q21 h22 H v9 e9 f9 I => ?_)
  have hF := hF q21 v9
  rw [← hm_eqU e9 f9] at hF
  clear e9 f9 v9
  have hc := (rm_u hc ec).2
  have hs := (rm_u hs es).2
  clear ec es
  refine lv_dup hx hb d237_3 rfl ?_
  obtain ⟨fs9, c9, hF⟩ := hF
  obtain ⟨c28, s29, c30, s31, ec, es, hF⟩ := hF
  refine ht_I (rest := [.ref q21]) (as := []) X hl (cw_Step_init l D dA s0 hW q21 c28 s29 h22 z0 _ hF) (List.forall_mem_cons.mpr ⟨ms_k916, List.forall_mem_cons.mpr ⟨ms_k917, List.forall_mem_cons.mpr ⟨ms_k25, List.forall_mem_cons.mpr ⟨ms_k918, fun _ h => absurd h List.not_mem_nil⟩⟩⟩⟩) rfl ⟨by decide +kernel, by decide +kernel, (by decide +kernel : (parseMethodDescriptor "()V").map (fun d => d.parameters.length) = some 0)⟩ I ⟨rfl, rfl⟩ ⟨⟨by show _ ≤ fP + 7; omega, by show _ ≤ lP + 231; omega⟩, (rm_u hc ec).1, (rm_u hs es).1⟩ rfl (Nat.le_of_ble_eq_true rfl) d237_4 (fun vv h26 z27 H locs hR I9 => ?_)
  obtain ⟨e1, hF⟩ := hR
  subst e1
  clear I
  have I := I9
  clear I9 c9 fs9
  have hc := (rm_u hc ec).2
  have hs := (rm_u hs es).2
  clear ec es
  refine W.eq (g2 := F0 m 7 ls [.ref q21]) rfl ?_
  refine lv_astore_n hx hb d237_7 rfl hl (by decide) rfl (fun ls hl => ?_)
  have hl : lv_has ls 4 [(2, .ref q21), (0, .ref y0), (1, .int y1)] := hl
  refine lv_aload_n hx hb d237_8 rfl (lv_at hl 1 rfl) ?_
  refine lv_aload_n hx hb d237_9 rfl (lv_at hl 1 rfl) ?_
  obtain ⟨fs9, v32, c9, e9, hF⟩ := hF
  refine va_get (D := D) (ci := 10) (v := .int v32) (C := kR10) (T := kT10) (N := 3) hx hb hts ku10 hown hK (hm_one I.1 c9) 0 rfl rfl 1 (by decide) (hts _ ms_k358) (fun x9 h9 => u_same (hts _ ms_k359) x9 h9) e9 d237_10 ?_
  clear e9 c9 fs9
  obtain ⟨fs9, c9, hF⟩ := hF
  refine ht_U (C := "MarkupStore$PathReader") (x := ⟨"MarkupStore$PathReader", "seen", "(I)C"⟩) (owner := "MarkupStore$TextReader") (rest := []) (as := [.int v32]) X hl (cw_TextReader_seen10 l D dA s0 hE y0 v32 h26 z27 _ hF) (List.forall_mem_cons.mpr ⟨ms_k890, List.forall_mem_cons.mpr ⟨ms_k891, List.forall_mem_cons.mpr ⟨ms_k892, List.forall_mem_cons.mpr ⟨ms_k388, List.forall_mem_cons.mpr ⟨ms_k14, List.forall_mem_cons.mpr ⟨ms_k389, fun _ h => absurd h List.not_mem_nil⟩⟩⟩⟩⟩⟩) rfl ⟨by decide +kernel, by decide +kernel, (by decide +kernel : (parseMethodDescriptor "(I)C").map (fun d => d.parameters.length) = some 1)⟩ (hm_recv hK I rfl c9) I ⟨rfl, rfl⟩ ⟨⟨by show _ ≤ fP + 7; omega, by show _ ≤ lP + 231; omega⟩, rm_0 hc, rm_0 hs⟩ rfl (Nat.le_of_ble_eq_true rfl) d237_13 (fun vv h34 z35 H locs hR I9 => ?_)
  obtain ⟨v33, e1, hF⟩ := hR
  subst e1
  clear I
  have I := I9
  clear I9 c9 fs9
  refine W.eq (g2 := F0 m 16 ls [.int v33]) rfl ?_
  refine ht_S (rest := []) (as := [.int v33]) X hl (cw_PathReader_isAxis l D dA s0 hE v33 h34 z35 _ hF) (List.forall_mem_cons.mpr ⟨ms_k946, List.forall_mem_cons.mpr ⟨ms_k947, List.forall_mem_cons.mpr ⟨ms_k23, List.forall_mem_cons.mpr ⟨ms_k948, fun _ h => absurd h List.not_mem_nil⟩⟩⟩⟩) ⟨by decide +kernel, by decide +kernel, (by decide +kernel : (parseMethodDescriptor "(C)Z").map (fun d => d.parameters.length) = some 1)⟩ I ⟨rfl, rfl⟩ ⟨⟨by show _ ≤ fP + 7; omega, by show _ ≤ lP + 231; omega⟩, rm_0 hc, rm_0 hs⟩ rfl (Nat.le_of_ble_eq_true rfl) d237_16 (fun vv h37 z38 H locs hR I9 => ?_)
  obtain ⟨v36, e1, hF⟩ := hR
  subst e1
  clear I
  have I := I9
  clear I9
  refine W.eq (g2 := F0 m 19 ls [.int v36]) rfl ?_
  refine lv_if_eq hx hb d237_19 rfl (fun h9 => ?_) (fun h9 => ?_)
  · have hF := Eq.mp (if_pos h9) hF
    exact b44 ls y1 (some q21) c30 s31 _ _ h37 z38 _ _ hF hc hs (hl.sub [1, 2, 0] rfl) I
  · have hF := Eq.mp (if_neg h9) hF
    refine lv_aload_n hx hb d237_22 rfl (lv_at hl 0 rfl) ?_
    refine lv_aload_n hx hb d237_23 rfl (lv_at hl 1 rfl) ?_
    refine lv_aload_n hx hb d237_24 rfl (lv_at hl 1 rfl) ?_
    obtain ⟨fs9, v102, c9, e9, hF⟩ := hF
    refine va_get (D := D) (ci := 10) (v := .int v102) (C := kR10) (T := kT10) (N := 3) hx hb hts ku10 hown hK (hm_one I.1 c9) 0 rfl rfl 1 (by decide) (hts _ ms_k358) (fun x9 h9 => u_same (hts _ ms_k359) x9 h9) e9 d237_25 ?_
    clear e9 c9 fs9
    obtain ⟨fs9, c9, hF⟩ := hF
    refine ht_U (C := "MarkupStore$PathReader") (x := ⟨"MarkupStore$PathReader", "seen", "(I)C"⟩) (owner := "MarkupStore$TextReader") (rest := [.ref q21]) (as := [.int v102]) X hl (cw_TextReader_seen10 l D dA s0 hE y0 v102 h37 z38 _ hF) (List.forall_mem_cons.mpr ⟨ms_k890, List.forall_mem_cons.mpr ⟨ms_k891, List.forall_mem_cons.mpr ⟨ms_k892, List.forall_mem_cons.mpr ⟨ms_k388, List.forall_mem_cons.mpr ⟨ms_k14, List.forall_mem_cons.mpr ⟨ms_k389, fun _ h => absurd h List.not_mem_nil⟩⟩⟩⟩⟩⟩) rfl ⟨by decide +kernel, by decide +kernel, (by decide +kernel : (parseMethodDescriptor "(I)C").map (fun d => d.parameters.length) = some 1)⟩ (hm_recv hK I rfl c9) I ⟨rfl, rfl⟩ ⟨⟨by show _ ≤ fP + 7; omega, by show _ ≤ lP + 231; omega⟩, rm_0 hc, rm_0 hs⟩ rfl (Nat.le_of_ble_eq_true rfl) d237_28 (fun vv h104 z105 H locs hR I9 => ?_)
    obtain ⟨v103, e1, hF⟩ := hR
    subst e1
    clear I
    have I := I9
    clear I9 c9 fs9
    refine W.eq (g2 := F0 m 31 ls [.int v103, .ref q21]) rfl ?_
    obtain ⟨hz9, hF⟩ := hF
    obtain ⟨fs9, c9, k9, hF⟩ := hF
    refine hm_put (ci := 12) (v := .int v103) (ty := .char) (C := kR12) (T := kT12) (N := 5) X I ku12 kt12 kp12 kn12 c9 rfl 0 (by decide) ms_k924 (fun _ h => h) rfl (by decide +kernel) (cg_chn hz9).1 (cg_chn hz9).2 k9 d237_31 (fun h106 H locs e9 f9 I => ?_)
    rw [← hm_eqU e9 f9] at hF
    clear e9 f9 c9 k9
    refine lv_aload_n hx hb d237_34 rfl (lv_at hl 1 rfl) ?_
    refine lv_dup hx hb d237_35 rfl ?_
    obtain ⟨fs9, v107, c9, e9, hF⟩ := hF
    refine va_get (D := D) (ci := 10) (v := .int v107) (C := kR10) (T := kT10) (N := 3) hx hb hts ku10 hown hK (hm_one I.1 c9) 0 rfl rfl 1 (by decide) (hts _ ms_k358) (fun x9 h9 => u_same (hts _ ms_k359) x9 h9) e9 d237_36 ?_
    clear e9 c9 fs9
    refine lv_iconst (v := 1) hx hb d237_39 (by decide) ?_
    refine lv_iadd hx hb d237_40 ?_
    obtain ⟨fs9, c9, k9, hF⟩ := hF
    refine hm_put (ci := 10) (v := .int (v107 + 1)) (ty := .int) (C := kR10) (T := kT10) (N := 3) X I ku10 kt10 kp10 kn10 c9 rfl 1 (by decide) ms_k358 (fun x9 h9 => u_same (hts _ ms_k359) x9 h9) rfl (by decide +kernel) rfl rfl k9 d237_41 (fun h108 H locs e9 f9 I => ?_)
    rw [← hm_eqU e9 f9] at hF
    clear e9 f9 c9 k9
    exact b44 ls y1 (some q21) c30 s31 _ _ h108 z105 _ _ hF hc hs (hl.sub [1, 2, 0] rfl) I

def w_PathReader_readPredicate_180 (dA : Nat → ClassId) (P : Nat → Int32 → Nat → Nat → (Option Nat → hm_T → hz_T → Prop) → hm_T → hz_T → Prop) (y0 : Nat) (K : Option Nat → hm_T → hz_T → Prop) (x2 : Option Nat) (cr sr : Nat) (h : hm_T) (z : hz_T) : Prop := (K x2 h z)
def w_PathReader_readPredicate_66 (dA : Nat → ClassId) (P : Nat → Int32 → Nat → Nat → (Option Nat → hm_T → hz_T → Prop) → hm_T → hz_T → Prop) (y0 : Nat) (K : Option Nat → hm_T → hz_T → Prop) (x1 : Int32) (x2 : Option Nat) (cr sr : Nat) (h : hm_T) (z : hz_T) : Prop := (cg_I h 10 1 y0 (fun v31 => (cg_c h 10 y0 (w_TextReader_seen10 dA y0 v31 (fun v32 h33 z34 => (w_PathReader_isDigit dA v32 (fun v35 h36 z37 => (if v35 = 0 then (if v32 = 36 then (cg_d x2 (fun a76 => (cg_p h36 13 0 a76 (.int 36) (fun h77 => (cg_I h77 10 1 y0 (fun v78 => (cg_p h77 10 1 y0 (.int (v78 + 1)) (fun h79 => (w_PathReader_readPredicate_180 dA P y0 K x2 cr sr h79 z37))))))))) else (if v32 = 64 then (cg_d x2 (fun a55 => (cg_p h36 13 0 a55 (.int 64) (fun h56 => (cg_I h56 10 1 y0 (fun v57 => (cg_p h56 10 1 y0 (.int (v57 + 1)) (fun h58 => (cg_c h58 10 y0 (cg_rm cr sr (fun c62 s63 c64 s65 => w_TextReader_readName10 dA y0 c62 s63 (fun v59 h60 z61 => (cg_d x2 (fun a66 => (cg_p h60 13 3 a66 (va_rf v59) (fun h67 => (cg_lit z61 [61] (fun a68 => (cg_c h67 10 y0 (cg_rm c64 s65 (fun c72 s73 c74 s75 => w_PathReader_readComparison dA y0 x2 (some a68) c72 s73 (fun h70 z71 => (w_PathReader_readPredicate_180 dA P y0 K x2 c74 s75 h70 z71)) h67 z61)))))))))) h58 z37))))))))))) else (cg_c h36 10 y0 (cg_rm cr sr (fun c41 s42 c43 s44 => P y0 x1 c41 s42 (fun v38 h39 z40 => (cg_d x2 (fun a45 => (cg_p h39 13 4 a45 (va_rf v38) (fun h46 => (cg_lit z40 [61, 126] (fun a47 => (cg_c h46 10 y0 (cg_rm c43 s44 (fun c51 s52 c53 s54 => w_PathReader_readComparison dA y0 x2 (some a47) c51 s52 (fun h49 z50 => (w_PathReader_readPredicate_180 dA P y0 K x2 c53 s54 h49 z50)) h46 z40)))))))))) h36 z37))))) else (cg_d x2 (fun a80 => (cg_p h36 13 0 a80 (.int 49) (fun h81 => (cg_c h81 10 y0 (w_PathReader_readPosition dA y0 (fun v82 h83 z84 => (cg_d x2 (fun a85 => (cg_p h83 13 2 a85 (.int v82) (fun h86 => (w_PathReader_readPredicate_180 dA P y0 K x2 cr sr h86 z84)))))) h81 z37)))))))) h33 z34)) h z))))
def w_PathReader_readPredicate_47 (dA : Nat → ClassId) (P : Nat → Int32 → Nat → Nat → (Option Nat → hm_T → hz_T → Prop) → hm_T → hz_T → Prop) (y0 : Nat) (K : Option Nat → hm_T → hz_T → Prop) (k10 : Int32 → Option Nat → Int32 → Nat → Nat → hm_T → hz_T → Prop) (x1 : Int32) (x2 : Option Nat) (x3 : Int32) (w0 : Int32) (w1 : Option Nat) (cr sr : Nat) (h : hm_T) (z : hz_T) : Prop := (cg_d w1 (fun a93 => (cg_z w0 (cg_p h 13 1 a93 (.int w0) (fun h94 => (cg_I h94 10 1 y0 (fun v95 => (cg_p h94 10 1 y0 (.int (v95 + 1)) (fun h96 => (k10 x1 x2 (x3 + 1) cr sr h96 z))))))))))
def w_PathReader_readPredicate_10 (dA : Nat → ClassId) (P : Nat → Int32 → Nat → Nat → (Option Nat → hm_T → hz_T → Prop) → hm_T → hz_T → Prop) (y0 : Nat) (K : Option Nat → hm_T → hz_T → Prop) : Nat → Int32 → Option Nat → Int32 → Nat → Nat → hm_T → hz_T → Prop
  | 0, _, _, _, _, _, _, _ => False
  | n9 + 1, x1, x2, x3, cr, sr, h, z => (cg_R h 10 0 y0 (fun v28 => (cg_d v28 (fun a29 => (jd_len z a29 (fun v30 => (if v30 ≤ x3 then (w_PathReader_readPredicate_66 dA P y0 K x1 x2 cr sr h z) else (cg_I h 10 1 y0 (fun v87 => (cg_c h 10 y0 (w_TextReader_seen10 dA y0 v87 (fun v88 h89 z90 => (if v88 = 33 then (cg_d x2 (fun a91 => (cg_I h89 13 1 a91 (fun v92 => (if v92 = 0 then (w_PathReader_readPredicate_47 dA P y0 K (w_PathReader_readPredicate_10 dA P y0 K n9) x1 x2 x3 1 x2 cr sr h89 z90) else (w_PathReader_readPredicate_47 dA P y0 K (w_PathReader_readPredicate_10 dA P y0 K n9) x1 x2 x3 0 x2 cr sr h89 z90)))))) else (w_PathReader_readPredicate_66 dA P y0 K x1 x2 cr sr h89 z90))) h z)))))))))))
def w_PathReader_readPredicate (dA : Nat → ClassId) (P : Nat → Int32 → Nat → Nat → (Option Nat → hm_T → hz_T → Prop) → hm_T → hz_T → Prop) (y0 : Nat) (y1 : Int32) (rc rs : Nat) (K : Option Nat → hm_T → hz_T → Prop) (h0 : hm_T) (z0 : hz_T) : Prop := (cg_new h0 rc rs 13 8 [.int 0, .int 0, .int 0, .null, .null, .int 0, .null, .long 0] (fun q21 c23 s24 h22 => (cg_c h22 13 q21 (w_Predicate_init dA q21 (fun h26 z27 => (w_PathReader_readPredicate_10 dA P y0 K mF y1 (some q21) 0 c23 s24 h26 z27)) h22 z0))))
set_option maxRecDepth 100000 in
set_option maxHeartbeats 8000000 in
theorem cw_PathReader_readPredicate (l : Launch) (D : va_G) (dA : Nat → ClassId) (s0 : State) (hW : ms_EW D dA s0) (P : Nat → Int32 → Nat → Nat → (Option Nat → hm_T → hz_T → Prop) → hm_T → hz_T → Prop) (fP lP : Nat) (hP : ∀ (a0_ : Nat) (a1_ : Int32) (c1 s1 : Nat) (h0 : hm_T) (z0 : hz_T) (K : Option Nat → hm_T → hz_T → Prop), P a0_ a1_ c1 s1 K h0 z0 → ht_C l D s0 yM236 bM236 4 (Option.some (Jvm.ClassFile.FieldType.object "MarkupStore$Path")) fP lP c1 s1 [.ref a0_, .int a1_] (fun h z => h = h0 ∧ z = z0) (fun h z vv h1 z1 => ∃ v, vv = some (va_rf v) ∧ K v h1 z1)) (y0 : Nat) (y1 : Int32) (rc rs : Nat) (h0 : hm_T) (z0 : hz_T) (K : Option Nat → hm_T → hz_T → Prop) (hg : w_PathReader_readPredicate dA P y0 y1 rc rs K h0 z0) : ht_C l D s0 yM253 bM253 4 (Option.some (Jvm.ClassFile.FieldType.object "MarkupStore$Predicate")) (fP + 7) (lP + 215) rc rs [.ref y0, .int y1] (fun h z => h = h0 ∧ z = z0) (fun h z vv h1 z1 => ∃ v, vv = some (va_rf v) ∧ K v h1 z1) := by
  have hE := hW.1
  refine ht_C.mk hE.1 (by decide) (Nat.le_of_ble_eq_true rfl) [(0, .ref y0), (1, .int y1)] rfl ?_
  intro p e s m below meth c ls h z X hin hpre I hl
  have hx := X.1
  have hb := X.2.1
  have hml := X.2.2.1
  have hown : s.vm.findClass "MarkupStore$PathReader" = some m.cls := X.2.2.2.1
  have hts := X.2.2.2.2.2.2.1
  have hK := X.2.2.2.2.2.2.2.2.1
  rw [hpre.1, hpre.2] at I
  clear hpre
  have b180 : ∀ (ls : Array Slot) (x2 : Option Nat) (cr sr cu su : Nat) (h : hm_T) (z : hz_T) (H : Heap) (locs : List Loc), w_PathReader_readPredicate_180 dA P y0 K x2 cr sr h z → cu + cr ≤ rc → su + sr ≤ rs → lv_has ls 4 [(2, va_rf x2)] → hm_I D s0 s h z H locs → W p l e { frames := fP + 7, cells := rc, slots := rs, locals := lP + 215 } s m ([.ref y0, .int y1] : List Value).toArray below meth c H locs cu su (MQ below (ht_Q D s0 (fun vv h1 z1 => ∃ v, vv = some (va_rf v) ∧ K v h1 z1)) ([.ref y0, .int y1] : List Value).toArray s rc rs (fun q => s0.heap.size ≤ q)) (F0 m 180 ls []) := by
    intro ls x2 cr sr cu su h z H locs hF hc hs hl I
    unfold w_PathReader_readPredicate_180 at hF
    refine lv_aload_nR hx hb d253_180 rfl (lv_at hl 0 rfl) ?_
    exact ht_aret X d253_181 I (rm_r hc) (rm_r hs) ⟨x2, rfl, hF⟩ (Or.inl ⟨_, rfl⟩) (rf_or _)
  have b66 : ∀ (ls : Array Slot) (x1 : Int32) (x2 : Option Nat) (cr sr cu su : Nat) (h : hm_T) (z : hz_T) (H : Heap) (locs : List Loc), w_PathReader_readPredicate_66 dA P y0 K x1 x2 cr sr h z → cu + cr ≤ rc → su + sr ≤ rs → lv_has ls 4 [(0, .ref y0), (1, .int x1), (2, va_rf x2)] → hm_I D s0 s h z H locs → W p l e { frames := fP + 7, cells := rc, slots := rs, locals := lP + 215 } s m ([.ref y0, .int y1] : List Value).toArray below meth c H locs cu su (MQ below (ht_Q D s0 (fun vv h1 z1 => ∃ v, vv = some (va_rf v) ∧ K v h1 z1)) ([.ref y0, .int y1] : List Value).toArray s rc rs (fun q => s0.heap.size ≤ q)) (F0 m 66 ls []) := by
    intro ls x1 x2 cr sr cu su h z H locs hF hc hs hl I
    unfold w_PathReader_readPredicate_66 at hF
    refine lv_aload_n hx hb d253_66 rfl (lv_at hl 0 rfl) ?_
    refine lv_aload_n hx hb d253_67 rfl (lv_at hl 0 rfl) ?_
    obtain ⟨fs9, v31, c9, e9, hF⟩ := hF
    refine va_get (D := D) (ci := 10) (v := .int v31) (C := kR10) (T := kT10) (N := 3) hx hb hts ku10 hown hK (hm_one I.1 c9) 0 rfl rfl 1 (by decide) (hts _ ms_k358) (fun x9 h9 => u_same (hts _ ms_k359) x9 h9) e9 d253_68 ?_
    clear e9 c9 fs9
    obtain ⟨fs9, c9, hF⟩ := hF
    refine ht_U (C := "MarkupStore$PathReader") (x := ⟨"MarkupStore$PathReader", "seen", "(I)C"⟩) (owner := "MarkupStore$TextReader") (rest := []) (as := [.int v31]) X hl (cw_TextReader_seen10 l D dA s0 hE y0 v31 h z _ hF) (List.forall_mem_cons.mpr ⟨ms_k890, List.forall_mem_cons.mpr ⟨ms_k891, List.forall_mem_cons.mpr ⟨ms_k892, List.forall_mem_cons.mpr ⟨ms_k388, List.forall_mem_cons.mpr ⟨ms_k14, List.forall_mem_cons.mpr ⟨ms_k389, fun _ h => absurd h List.not_mem_nil⟩⟩⟩⟩⟩⟩) rfl ⟨by decide +kernel, by decide +kernel, (by decide +kernel : (parseMethodDescriptor "(I)C").map (fun d => d.parameters.length) = some 1)⟩ (hm_recv hK I rfl c9) I ⟨rfl, rfl⟩ ⟨⟨by show _ ≤ fP + 7; omega, by show _ ≤ lP + 215; omega⟩, rm_0 hc, rm_0 hs⟩ rfl (Nat.le_of_ble_eq_true rfl) d253_71 (fun vv h33 z34 H locs hR I9 => ?_)
    obtain ⟨v32, e1, hF⟩ := hR
    subst e1
    clear I
    have I := I9
    clear I9 c9 fs9
    refine W.eq (g2 := F0 m 74 ls [.int v32]) rfl ?_
    refine lv_istore_n (i := 3) hx hb d253_74 rfl hl (by decide) (show _ = [(3, .int v32), (0, .ref y0), (1, .int x1), (2, va_rf x2)] by simp [cat_rf, cat_int, cat_ref, cat_null, cat_long]) (fun ls hl => ?_)
    have hl : lv_has ls 4 [(3, .int v32), (0, .ref y0), (1, .int x1), (2, va_rf x2)] := hl
    refine lv_iload_n hx hb d253_75 rfl (lv_at hl 0 rfl) ?_
    refine ht_S (rest := []) (as := [.int v32]) X hl (cw_PathReader_isDigit l D dA s0 hE v32 h33 z34 _ hF) (List.forall_mem_cons.mpr ⟨ms_k1060, List.forall_mem_cons.mpr ⟨ms_k1061, List.forall_mem_cons.mpr ⟨ms_k23, List.forall_mem_cons.mpr ⟨ms_k1062, fun _ h => absurd h List.not_mem_nil⟩⟩⟩⟩) ⟨by decide +kernel, by decide +kernel, (by decide +kernel : (parseMethodDescriptor "(C)Z").map (fun d => d.parameters.length) = some 1)⟩ I ⟨rfl, rfl⟩ ⟨⟨by show _ ≤ fP + 7; omega, by show _ ≤ lP + 215; omega⟩, rm_0 hc, rm_0 hs⟩ rfl (Nat.le_of_ble_eq_true rfl) d253_76 (fun vv h36 z37 H locs hR I9 => ?_)
    obtain ⟨v35, e1, hF⟩ := hR
    subst e1
    clear I
    have I := I9
    clear I9
    refine W.eq (g2 := F0 m 79 ls [.int v35]) rfl ?_
    refine lv_if_eq hx hb d253_79 rfl (fun h9 => ?_) (fun h9 => ?_)
    · have hF := Eq.mp (if_pos h9) hF
      refine lv_iload_n hx hb d253_99 rfl (lv_at hl 0 rfl) ?_
      refine lv_bipush (v := 36) hx hb d253_100 (by decide) ?_
      refine lv_icmp_ne hx hb d253_102 rfl (fun h9 => ?_) (fun h9 => ?_)
      · have hF := Eq.mp (if_neg h9) hF
        refine lv_iload_n hx hb d253_124 rfl (lv_at hl 0 rfl) ?_
        refine lv_bipush (v := 64) hx hb d253_125 (by decide) ?_
        refine lv_icmp_ne hx hb d253_127 rfl (fun h9 => ?_) (fun h9 => ?_)
        · have hF := Eq.mp (if_neg h9) hF
          refine lv_aload_nR hx hb d253_164 rfl (lv_at hl 3 rfl) ?_
          refine lv_aload_n hx hb d253_165 rfl (lv_at hl 1 rfl) ?_
          refine lv_iload_n hx hb d253_166 rfl (lv_at hl 2 rfl) ?_
          obtain ⟨fs9, c9, hF⟩ := hF
          obtain ⟨c41, s42, c43, s44, ec, es, hF⟩ := hF
          refine ht_V (C := "MarkupStore$PathReader") (rest := [va_rf x2]) (as := [.int x1]) X hl (hP y0 x1 c41 s42 h36 z37 _ hF) (List.forall_mem_cons.mpr ⟨ms_k884, List.forall_mem_cons.mpr ⟨ms_k886, List.forall_mem_cons.mpr ⟨ms_p19, List.forall_mem_cons.mpr ⟨ms_k23, List.forall_mem_cons.mpr ⟨ms_k887, fun _ h => absurd h List.not_mem_nil⟩⟩⟩⟩⟩) ⟨rfl, by decide +kernel, by decide +kernel, (by decide +kernel : (parseMethodDescriptor "(I)LMarkupStore$Path;").map (fun d => d.parameters.length) = some 1)⟩ (hm_recv hK I rfl c9) I ⟨rfl, rfl⟩ ⟨⟨by show _ ≤ fP + 7; omega, by show _ ≤ lP + 215; omega⟩, (rm_u hc ec).1, (rm_u hs es).1⟩ rfl (by simp [cat_rf, cat_int, cat_ref, cat_null, cat_long]) d253_167 (fun vv h39 z40 H locs hR I9 => ?_)
          obtain ⟨v38, e1, hF⟩ := hR
          subst e1
          clear I
          have I := I9
          clear I9 c9 fs9
          have hc := (rm_u hc ec).2
          have hs := (rm_u hs es).2
          clear ec es
          refine W.eq (g2 := F0 m 170 ls [va_rf v38, va_rf x2]) rfl ?_
          obtain ⟨a45, e9, hF⟩ := hF
          refine W.eq (g2 := F0 m 170 ls [va_rf v38, .ref a45]) (by rw [e9]; rfl) ?_
          clear e9
          obtain ⟨fs9, c9, k9, hF⟩ := hF
          refine hm_put (ci := 13) (v := va_rf v38) (ty := (.object "MarkupStore$Path")) (C := kR13) (T := kT13) (N := 8) X I ku13 kt13 kp13 kn13 c9 rfl 4 (by decide) ms_k1034 (fun _ h => h) rfl (by decide +kernel) (by cases v38 <;> rfl) (by cases v38 <;> rfl) k9 d253_170 (fun h46 H locs e9 f9 I => ?_)
          rw [← hm_eqU e9 f9] at hF
          clear e9 f9 c9 k9
          refine lv_aload_n hx hb d253_173 rfl (lv_at hl 1 rfl) ?_
          refine lv_aload_nR hx hb d253_174 rfl (lv_at hl 3 rfl) ?_
          refine hz_ldc (xs := [61, 126]) hE X I 14 rfl hown d253_175 (fun a47 u9 z9 => ?_)
          have hF := hF _ _ z9
          obtain ⟨fs9, c9, hF⟩ := hF
          obtain ⟨c51, s52, c53, s54, ec, es, hF⟩ := hF
          refine ht_V (C := "MarkupStore$PathReader") (rest := []) (as := [va_rf x2, .ref a47]) X hl (cw_PathReader_readComparison l D dA s0 hW y0 x2 (some a47) c51 s52 h46 z40 _ hF) (List.forall_mem_cons.mpr ⟨ms_k1068, List.forall_mem_cons.mpr ⟨ms_k1070, List.forall_mem_cons.mpr ⟨ms_p23, List.forall_mem_cons.mpr ⟨ms_k23, List.forall_mem_cons.mpr ⟨ms_k1071, fun _ h => absurd h List.not_mem_nil⟩⟩⟩⟩⟩) ⟨rfl, by decide +kernel, by decide +kernel, (by decide +kernel : (parseMethodDescriptor "(LMarkupStore$Predicate;Ljava/lang/String;)V").map (fun d => d.parameters.length) = some 2)⟩ (hm_recv hK I rfl c9) I ⟨rfl, rfl⟩ ⟨⟨by show _ ≤ fP + 7; omega, by show _ ≤ lP + 215; omega⟩, (rm_u hc ec).1, (rm_u hs es).1⟩ rfl (Nat.le_of_ble_eq_true rfl) d253_177 (fun vv h49 z50 H locs hR I9 => ?_)
          obtain ⟨e1, hF⟩ := hR
          subst e1
          clear I
          have I := I9
          clear I9 c9 fs9
          have hc := (rm_u hc ec).2
          have hs := (rm_u hs es).2
          clear ec es
          refine W.eq (g2 := F0 m 180 ls []) rfl ?_
          exact b180 ls x2 c53 s54 _ _ h49 z50 _ _ hF hc hs (hl.sub [3] rfl) I
        · have hF := Eq.mp (if_pos h9) hF
          refine lv_aload_nR hx hb d253_130 rfl (lv_at hl 3 rfl) ?_
          refine lv_bipush (v := 64) hx hb d253_131 (by decide) ?_
          obtain ⟨a55, e9, hF⟩ := hF
          refine W.eq (g2 := F0 m 133 ls [.int 64, .ref a55]) (by rw [e9]; rfl) ?_
          clear e9
          obtain ⟨fs9, c9, k9, hF⟩ := hF
          refine hm_put (ci := 13) (v := .int 64) (ty := .char) (C := kR13) (T := kT13) (N := 8) X I ku13 kt13 kp13 kn13 c9 rfl 0 (by decide) ms_k1022 (fun _ h => h) rfl (by decide +kernel) rfl rfl k9 d253_133 (fun h56 H locs e9 f9 I => ?_)
          rw [← hm_eqU e9 f9] at hF
          clear e9 f9 c9 k9
          refine lv_aload_n hx hb d253_136 rfl (lv_at hl 1 rfl) ?_
          refine lv_dup hx hb d253_137 rfl ?_
          obtain ⟨fs9, v57, c9, e9, hF⟩ := hF
          refine va_get (D := D) (ci := 10) (v := .int v57) (C := kR10) (T := kT10) (N := 3) hx hb hts ku10 hown hK (hm_one I.1 c9) 0 rfl rfl 1 (by decide) (hts _ ms_k358) (fun x9 h9 => u_same (hts _ ms_k359) x9 h9) e9 d253_138 ?_
          clear e9 c9 fs9
          refine lv_iconst (v := 1) hx hb d253_141 (by decide) ?_
          refine lv_iadd hx hb d253_142 ?_
          obtain ⟨fs9, c9, k9, hF⟩ := hF
          refine hm_put (ci := 10) (v := .int (v57 + 1)) (ty := .int) (C := kR10) (T := kT10) (N := 3) X I ku10 kt10 kp10 kn10 c9 rfl 1 (by decide) ms_k358 (fun x9 h9 => u_same (hts _ ms_k359) x9 h9) rfl (by decide +kernel) rfl rfl k9 d253_143 (fun h58 H locs e9 f9 I => ?_)
          rw [← hm_eqU e9 f9] at hF
          clear e9 f9 c9 k9
          refine lv_aload_nR hx hb d253_146 rfl (lv_at hl 3 rfl) ?_
          refine lv_aload_n hx hb d253_147 rfl (lv_at hl 1 rfl) ?_
          obtain ⟨fs9, c9, hF⟩ := hF
          obtain ⟨c62, s63, c64, s65, ec, es, hF⟩ := hF
          refine ht_U (C := "MarkupStore$PathReader") (x := ⟨"MarkupStore$PathReader", "readName", "()Ljava/lang/String;"⟩) (owner := "MarkupStore$TextReader") (rest := [va_rf x2]) (as := []) X hl (cw_TextReader_readName10 l D dA s0 hW y0 c62 s63 h58 z37 _ hF) (List.forall_mem_cons.mpr ⟨ms_k999, List.forall_mem_cons.mpr ⟨ms_k1000, List.forall_mem_cons.mpr ⟨ms_k1001, List.forall_mem_cons.mpr ⟨ms_k545, List.forall_mem_cons.mpr ⟨ms_k14, List.forall_mem_cons.mpr ⟨ms_k546, fun _ h => absurd h List.not_mem_nil⟩⟩⟩⟩⟩⟩) rfl ⟨by decide +kernel, by decide +kernel, (by decide +kernel : (parseMethodDescriptor "()Ljava/lang/String;").map (fun d => d.parameters.length) = some 0)⟩ (hm_recv hK I rfl c9) I ⟨rfl, rfl⟩ ⟨⟨by show _ ≤ fP + 7; omega, by show _ ≤ lP + 215; omega⟩, (rm_u hc ec).1, (rm_u hs es).1⟩ rfl (by simp [cat_rf, cat_int, cat_ref, cat_null, cat_long]) d253_148 (fun vv h60 z61 H locs hR I9 => ?_)
          obtain ⟨v59, e1, hF⟩ := hR
          subst e1
          clear I
          have I := I9
          clear I9 c9 fs9
          have hc := (rm_u hc ec).2
          have hs := (rm_u hs es).2
          clear ec es
          refine W.eq (g2 := F0 m 151 ls [va_rf v59, va_rf x2]) rfl ?_
          obtain ⟨a66, e9, hF⟩ := hF
          refine W.eq (g2 := F0 m 151 ls [va_rf v59, .ref a66]) (by rw [e9]; rfl) ?_
          clear e9
          obtain ⟨fs9, c9, k9, hF⟩ := hF
          refine hm_put (ci := 13) (v := va_rf v59) (ty := (.object "java/lang/String")) (C := kR13) (T := kT13) (N := 8) X I ku13 kt13 kp13 kn13 c9 rfl 3 (by decide) ms_k1031 (fun _ h => h) rfl (by decide +kernel) (by cases v59 <;> rfl) (by cases v59 <;> rfl) k9 d253_151 (fun h67 H locs e9 f9 I => ?_)
          rw [← hm_eqU e9 f9] at hF
          clear e9 f9 c9 k9
          refine lv_aload_n hx hb d253_154 rfl (lv_at hl 1 rfl) ?_
          refine lv_aload_nR hx hb d253_155 rfl (lv_at hl 3 rfl) ?_
          refine hz_ldc (xs := [61]) hE X I 13 rfl hown d253_156 (fun a68 u9 z9 => ?_)
          have hF := hF _ _ z9
          obtain ⟨fs9, c9, hF⟩ := hF
          obtain ⟨c72, s73, c74, s75, ec, es, hF⟩ := hF
          refine ht_V (C := "MarkupStore$PathReader") (rest := []) (as := [va_rf x2, .ref a68]) X hl (cw_PathReader_readComparison l D dA s0 hW y0 x2 (some a68) c72 s73 h67 z61 _ hF) (List.forall_mem_cons.mpr ⟨ms_k1068, List.forall_mem_cons.mpr ⟨ms_k1070, List.forall_mem_cons.mpr ⟨ms_p23, List.forall_mem_cons.mpr ⟨ms_k23, List.forall_mem_cons.mpr ⟨ms_k1071, fun _ h => absurd h List.not_mem_nil⟩⟩⟩⟩⟩) ⟨rfl, by decide +kernel, by decide +kernel, (by decide +kernel : (parseMethodDescriptor "(LMarkupStore$Predicate;Ljava/lang/String;)V").map (fun d => d.parameters.length) = some 2)⟩ (hm_recv hK I rfl c9) I ⟨rfl, rfl⟩ ⟨⟨by show _ ≤ fP + 7; omega, by show _ ≤ lP + 215; omega⟩, (rm_u hc ec).1, (rm_u hs es).1⟩ rfl (Nat.le_of_ble_eq_true rfl) d253_158 (fun vv h70 z71 H locs hR I9 => ?_)
          obtain ⟨e1, hF⟩ := hR
          subst e1
          clear I
          have I := I9
          clear I9 c9 fs9
          have hc := (rm_u hc ec).2
          have hs := (rm_u hs es).2
          clear ec es
          refine W.eq (g2 := F0 m 161 ls []) rfl ?_
          refine lv_goto hx hb d253_161 rfl ?_
          exact b180 ls x2 c74 s75 _ _ h70 z71 _ _ hF hc hs (hl.sub [3] rfl) I
      · have hF := Eq.mp (if_pos h9) hF
        refine lv_aload_nR hx hb d253_105 rfl (lv_at hl 3 rfl) ?_
        refine lv_bipush (v := 36) hx hb d253_106 (by decide) ?_
        obtain ⟨a76, e9, hF⟩ := hF
        refine W.eq (g2 := F0 m 108 ls [.int 36, .ref a76]) (by rw [e9]; rfl) ?_
        clear e9
        obtain ⟨fs9, c9, k9, hF⟩ := hF
        refine hm_put (ci := 13) (v := .int 36) (ty := .char) (C := kR13) (T := kT13) (N := 8) X I ku13 kt13 kp13 kn13 c9 rfl 0 (by decide) ms_k1022 (fun _ h => h) rfl (by decide +kernel) rfl rfl k9 d253_108 (fun h77 H locs e9 f9 I => ?_)
        rw [← hm_eqU e9 f9] at hF
        clear e9 f9 c9 k9
        refine lv_aload_n hx hb d253_111 rfl (lv_at hl 1 rfl) ?_
        refine lv_dup hx hb d253_112 rfl ?_
        obtain ⟨fs9, v78, c9, e9, hF⟩ := hF
        refine va_get (D := D) (ci := 10) (v := .int v78) (C := kR10) (T := kT10) (N := 3) hx hb hts ku10 hown hK (hm_one I.1 c9) 0 rfl rfl 1 (by decide) (hts _ ms_k358) (fun x9 h9 => u_same (hts _ ms_k359) x9 h9) e9 d253_113 ?_
        clear e9 c9 fs9
        refine lv_iconst (v := 1) hx hb d253_116 (by decide) ?_
        refine lv_iadd hx hb d253_117 ?_
        obtain ⟨fs9, c9, k9, hF⟩ := hF
        refine hm_put (ci := 10) (v := .int (v78 + 1)) (ty := .int) (C := kR10) (T := kT10) (N := 3) X I ku10 kt10 kp10 kn10 c9 rfl 1 (by decide) ms_k358 (fun x9 h9 => u_same (hts _ ms_k359) x9 h9) rfl (by decide +kernel) rfl rfl k9 d253_118 (fun h79 H locs e9 f9 I => ?_)
        rw [← hm_eqU e9 f9] at hF
        clear e9 f9 c9 k9
        refine lv_goto hx hb d253_121 rfl ?_
        exact b180 ls x2 cr sr _ _ h79 z37 _ _ hF hc hs (hl.sub [3] rfl) I
    · have hF := Eq.mp (if_neg h9) hF
      refine lv_aload_nR hx hb d253_82 rfl (lv_at hl 3 rfl) ?_
      refine lv_bipush (v := 49) hx hb d253_83 (by decide) ?_
      obtain ⟨a80, e9, hF⟩ := hF
      refine W.eq (g2 := F0 m 85 ls [.int 49, .ref a80]) (by rw [e9]; rfl) ?_
      clear e9
      obtain ⟨fs9, c9, k9, hF⟩ := hF
      refine hm_put (ci := 13) (v := .int 49) (ty := .char) (C := kR13) (T := kT13) (N := 8) X I ku13 kt13 kp13 kn13 c9 rfl 0 (by decide) ms_k1022 (fun _ h => h) rfl (by decide +kernel) rfl rfl k9 d253_85 (fun h81 H locs e9 f9 I => ?_)
      rw [← hm_eqU e9 f9] at hF
      clear e9 f9 c9 k9
      refine lv_aload_nR hx hb d253_88 rfl (lv_at hl 3 rfl) ?_
      refine lv_aload_n hx hb d253_89 rfl (lv_at hl 1 rfl) ?_
      obtain ⟨fs9, c9, hF⟩ := hF
      refine ht_V (C := "MarkupStore$PathReader") (rest := [va_rf x2]) (as := []) X hl (cw_PathReader_readPosition l D dA s0 hE y0 h81 z37 _ hF) (List.forall_mem_cons.mpr ⟨ms_k1063, List.forall_mem_cons.mpr ⟨ms_k1065, List.forall_mem_cons.mpr ⟨ms_p22, List.forall_mem_cons.mpr ⟨ms_k23, List.forall_mem_cons.mpr ⟨ms_k1066, fun _ h => absurd h List.not_mem_nil⟩⟩⟩⟩⟩) ⟨rfl, by decide +kernel, by decide +kernel, (by decide +kernel : (parseMethodDescriptor "()I").map (fun d => d.parameters.length) = some 0)⟩ (hm_recv hK I rfl c9) I ⟨rfl, rfl⟩ ⟨⟨by show _ ≤ fP + 7; omega, by show _ ≤ lP + 215; omega⟩, rm_0 hc, rm_0 hs⟩ rfl (by simp [cat_rf, cat_int, cat_ref, cat_null, cat_long]) d253_90 (fun vv h83 z84 H locs hR I9 => ?_)
      obtain ⟨v82, e1, hF⟩ := hR
      subst e1
      clear I
      have I := I9
      clear I9 c9 fs9
      refine W.eq (g2 := F0 m 93 ls [.int v82, va_rf x2]) rfl ?_
      obtain ⟨a85, e9, hF⟩ := hF
      refine W.eq (g2 := F0 m 93 ls [.int v82, .ref a85]) (by rw [e9]; rfl) ?_
      clear e9
      obtain ⟨fs9, c9, k9, hF⟩ := hF
      refine hm_put (ci := 13) (v := .int v82) (ty := .int) (C := kR13) (T := kT13) (N := 8) X I ku13 kt13 kp13 kn13 c9 rfl 2 (by decide) ms_k1027 (fun _ h => h) rfl (by decide +kernel) rfl rfl k9 d253_93 (fun h86 H locs e9 f9 I => ?_)
      rw [← hm_eqU e9 f9] at hF
      clear e9 f9 c9 k9
      refine lv_goto hx hb d253_96 rfl ?_
      exact b180 ls x2 cr sr _ _ h86 z84 _ _ hF hc hs (hl.sub [3] rfl) I
  have b47 : ∀ (k10 : Int32 → Option Nat → Int32 → Nat → Nat → hm_T → hz_T → Prop), (∀ (ls : Array Slot) (x1 : Int32) (x2 : Option Nat) (x3 : Int32) (cr sr cu su : Nat) (h : hm_T) (z : hz_T) (H : Heap) (locs : List Loc), k10 x1 x2 x3 cr sr h z → cu + cr ≤ rc → su + sr ≤ rs → lv_has ls 4 [(0, .ref y0), (1, .int x1), (2, va_rf x2), (3, .int x3)] → hm_I D s0 s h z H locs → W p l e { frames := fP + 7, cells := rc, slots := rs, locals := lP + 215 } s m ([.ref y0, .int y1] : List Value).toArray below meth c H locs cu su (MQ below (ht_Q D s0 (fun vv h1 z1 => ∃ v, vv = some (va_rf v) ∧ K v h1 z1)) ([.ref y0, .int y1] : List Value).toArray s rc rs (fun q => s0.heap.size ≤ q)) (F0 m 10 ls [])) → ∀ (ls : Array Slot) (x1 : Int32) (x2 : Option Nat) (x3 : Int32) (w0 : Int32) (w1 : Option Nat) (cr sr cu su : Nat) (h : hm_T) (z : hz_T) (H : Heap) (locs : List Loc), w_PathReader_readPredicate_47 dA P y0 K k10 x1 x2 x3 w0 w1 cr sr h z → cu + cr ≤ rc → su + sr ≤ rs → lv_has ls 4 [(0, .ref y0), (1, .int x1), (2, va_rf x2), (3, .int x3)] → hm_I D s0 s h z H locs → W p l e { frames := fP + 7, cells := rc, slots := rs, locals := lP + 215 } s m ([.ref y0, .int y1] : List Value).toArray below meth c H locs cu su (MQ below (ht_Q D s0 (fun vv h1 z1 => ∃ v, vv = some (va_rf v) ∧ K v h1 z1)) ([.ref y0, .int y1] : List Value).toArray s rc rs (fun q => s0.heap.size ≤ q)) (F0 m 47 ls [.int w0, va_rf w1]) := by
    intro k10 hk10 ls x1 x2 x3 w0 w1 cr sr cu su h z H locs hF hc hs hl I
    unfold w_PathReader_readPredicate_47 at hF
    obtain ⟨a93, e9, hF⟩ := hF
    refine W.eq (g2 := F0 m 47 ls [.int w0, .ref a93]) (by rw [e9]; rfl) ?_
    clear e9
    obtain ⟨hz9, hF⟩ := hF
    obtain ⟨fs9, c9, k9, hF⟩ := hF
    refine hm_put (ci := 13) (v := .int w0) (ty := .boolean) (C := kR13) (T := kT13) (N := 8) X I ku13 kt13 kp13 kn13 c9 rfl 1 (by decide) ms_k1024 (fun _ h => h) rfl (by decide +kernel) (cg_zn hz9).1 (cg_zn hz9).2 k9 d253_47 (fun h94 H locs e9 f9 I => ?_)
    rw [← hm_eqU e9 f9] at hF
    clear e9 f9 c9 k9
    refine lv_aload_n hx hb d253_50 rfl (lv_at hl 0 rfl) ?_
    refine lv_dup hx hb d253_51 rfl ?_
    obtain ⟨fs9, v95, c9, e9, hF⟩ := hF
    refine va_get (D := D) (ci := 10) (v := .int v95) (C := kR10) (T := kT10) (N := 3) hx hb hts ku10 hown hK (hm_one I.1 c9) 0 rfl rfl 1 (by decide) (hts _ ms_k358) (fun x9 h9 => u_same (hts _ ms_k359) x9 h9) e9 d253_52 ?_
    clear e9 c9 fs9
    refine lv_iconst (v := 1) hx hb d253_55 (by decide) ?_
    refine lv_iadd hx hb d253_56 ?_
    obtain ⟨fs9, c9, k9, hF⟩ := hF
    refine hm_put (ci := 10) (v := .int (v95 + 1)) (ty := .int) (C := kR10) (T := kT10) (N := 3) X I ku10 kt10 kp10 kn10 c9 rfl 1 (by decide) ms_k358 (fun x9 h9 => u_same (hts _ ms_k359) x9 h9) rfl (by decide +kernel) rfl rfl k9 d253_57 (fun h96 H locs e9 f9 I => ?_)
    rw [← hm_eqU e9 f9] at hF
    clear e9 f9 c9 k9
    refine lv_iinc (k := 3) (v := (x3 + 1)) hx hb d253_60 hl rfl (rfl) (by decide) (show _ = [(3, .int (x3 + 1)), (0, .ref y0), (1, .int x1), (2, va_rf x2)] by simp [cat_rf, cat_int, cat_ref, cat_null, cat_long]) (fun ls hl => ?_)
    have hl : lv_has ls 4 [(3, .int (x3 + 1)), (0, .ref y0), (1, .int x1), (2, va_rf x2)] := hl
    refine lv_goto hx hb d253_63 rfl ?_
    exact hk10 ls x1 x2 (x3 + 1) cr sr _ _ h96 z _ _ hF hc hs (hl.sub [1, 2, 3, 0] rfl) I
  have b10 : ∀ n9 : Nat, ∀ (ls : Array Slot) (x1 : Int32) (x2 : Option Nat) (x3 : Int32) (cr sr cu su : Nat) (h : hm_T) (z : hz_T) (H : Heap) (locs : List Loc), w_PathReader_readPredicate_10 dA P y0 K n9 x1 x2 x3 cr sr h z → cu + cr ≤ rc → su + sr ≤ rs → lv_has ls 4 [(0, .ref y0), (1, .int x1), (2, va_rf x2), (3, .int x3)] → hm_I D s0 s h z H locs → W p l e { frames := fP + 7, cells := rc, slots := rs, locals := lP + 215 } s m ([.ref y0, .int y1] : List Value).toArray below meth c H locs cu su (MQ below (ht_Q D s0 (fun vv h1 z1 => ∃ v, vv = some (va_rf v) ∧ K v h1 z1)) ([.ref y0, .int y1] : List Value).toArray s rc rs (fun q => s0.heap.size ≤ q)) (F0 m 10 ls []) := by
    intro n9
    induction n9 with
    | zero => intro ls x1 x2 x3 cr sr cu su h z H locs hF; cases hF
    | succ n9 hk10 =>
    intro ls x1 x2 x3 cr sr cu su h z H locs hF hc hs hl I
    unfold w_PathReader_readPredicate_10 at hF
    refine lv_iload_n hx hb d253_10 rfl (lv_at hl 3 rfl) ?_
    refine lv_aload_n hx hb d253_11 rfl (lv_at hl 0 rfl) ?_
    obtain ⟨fs9, v28, c9, e9, hF⟩ := hF
    refine va_get (D := D) (ci := 10) (v := va_rf v28) (C := kR10) (T := kT10) (N := 3) hx hb hts ku10 hown hK (hm_one I.1 c9) 0 rfl rfl 0 (by decide) (hts _ ms_k353) (fun x9 h9 => u_same (hts _ ms_k354) x9 h9) e9 d253_12 ?_
    clear e9 c9 fs9
    obtain ⟨a29, e9, hF⟩ := hF
    refine W.eq (g2 := F0 m 15 ls [.ref a29, .int x3]) (by rw [e9]; rfl) ?_
    clear e9
    obtain ⟨u9, xs9, z9, hF⟩ := hF
    refine ht_V (C := "java/lang/String") (rest := [.int x3]) (as := []) X hl (c_Slen l D dA s0 hE a29 u9 xs9) (List.forall_mem_cons.mpr ⟨ms_k1002, List.forall_mem_cons.mpr ⟨ms_k391, List.forall_mem_cons.mpr ⟨ms_k392, List.forall_mem_cons.mpr ⟨ms_k4, List.forall_mem_cons.mpr ⟨ms_k393, fun _ h => absurd h List.not_mem_nil⟩⟩⟩⟩⟩) ⟨rfl, by decide +kernel, by decide +kernel, (by decide +kernel : (parseMethodDescriptor "()I").map (fun d => d.parameters.length) = some 0)⟩ (hz_recv I z9) I z9 ⟨⟨by show _ ≤ fP + 7; omega, by show _ ≤ lP + 215; omega⟩, rm_0 hc, rm_0 hs⟩ rfl (Nat.le_of_ble_eq_true rfl) d253_15 (fun vv h9 z7 H locs hR I9 => ?_)
    obtain ⟨e1, e2, e3⟩ := hR
    rw [e2, e3] at I9
    subst e1
    clear I
    have I := I9
    clear I9 e2 e3 h9 z7
    refine W.eq (g2 := F0 m 18 ls [.int (nI xs9.length), .int x3]) rfl ?_
    generalize (nI xs9.length) = v30 at hF ⊢
    refine lv_icmp_ge hx hb d253_18 rfl (fun h9 => ?_) (fun h9 => ?_)
    · have hF := Eq.mp (if_pos h9) hF
      exact b66 ls x1 x2 cr sr _ _ h z _ _ hF hc hs (hl.sub [0, 1, 2] rfl) I
    · have hF := Eq.mp (if_neg h9) hF
      refine lv_aload_n hx hb d253_21 rfl (lv_at hl 0 rfl) ?_
      refine lv_aload_n hx hb d253_22 rfl (lv_at hl 0 rfl) ?_
      obtain ⟨fs9, v87, c9, e9, hF⟩ := hF
      refine va_get (D := D) (ci := 10) (v := .int v87) (C := kR10) (T := kT10) (N := 3) hx hb hts ku10 hown hK (hm_one I.1 c9) 0 rfl rfl 1 (by decide) (hts _ ms_k358) (fun x9 h9 => u_same (hts _ ms_k359) x9 h9) e9 d253_23 ?_
      clear e9 c9 fs9
      obtain ⟨fs9, c9, hF⟩ := hF
      refine ht_U (C := "MarkupStore$PathReader") (x := ⟨"MarkupStore$PathReader", "seen", "(I)C"⟩) (owner := "MarkupStore$TextReader") (rest := []) (as := [.int v87]) X hl (cw_TextReader_seen10 l D dA s0 hE y0 v87 h z _ hF) (List.forall_mem_cons.mpr ⟨ms_k890, List.forall_mem_cons.mpr ⟨ms_k891, List.forall_mem_cons.mpr ⟨ms_k892, List.forall_mem_cons.mpr ⟨ms_k388, List.forall_mem_cons.mpr ⟨ms_k14, List.forall_mem_cons.mpr ⟨ms_k389, fun _ h => absurd h List.not_mem_nil⟩⟩⟩⟩⟩⟩) rfl ⟨by decide +kernel, by decide +kernel, (by decide +kernel : (parseMethodDescriptor "(I)C").map (fun d => d.parameters.length) = some 1)⟩ (hm_recv hK I rfl c9) I ⟨rfl, rfl⟩ ⟨⟨by show _ ≤ fP + 7; omega, by show _ ≤ lP + 215; omega⟩, rm_0 hc, rm_0 hs⟩ rfl (Nat.le_of_ble_eq_true rfl) d253_26 (fun vv h89 z90 H locs hR I9 => ?_)
      obtain ⟨v88, e1, hF⟩ := hR
      subst e1
      clear I
      have I := I9
      clear I9 c9 fs9
      refine W.eq (g2 := F0 m 29 ls [.int v88]) rfl ?_
      refine lv_bipush (v := 33) hx hb d253_29 (by decide) ?_
      refine lv_icmp_ne hx hb d253_31 rfl (fun h9 => ?_) (fun h9 => ?_)
      · have hF := Eq.mp (if_neg h9) hF
        exact b66 ls x1 x2 cr sr _ _ h89 z90 _ _ hF hc hs (hl.sub [0, 1, 2] rfl) I
      · have hF := Eq.mp (if_pos h9) hF
        refine lv_aload_nR hx hb d253_34 rfl (lv_at hl 2 rfl) ?_
        refine lv_aload_nR hx hb d253_35 rfl (lv_at hl 2 rfl) ?_
        obtain ⟨a91, e9, hF⟩ := hF
        refine W.eq (g2 := F0 m 36 ls [.ref a91, va_rf x2]) (by rw [e9]; rfl) ?_
        clear e9
        obtain ⟨fs9, v92, c9, e9, hF⟩ := hF
        refine va_get (D := D) (ci := 13) (v := .int v92) (C := kR13) (T := kT13) (N := 8) hx hb hts ku13 hown hK (hm_one I.1 c9) 0 rfl rfl 1 (by decide) (hts _ ms_k1024) (fun _ h => h) e9 d253_36 ?_
        clear e9 c9 fs9
        refine lv_if_ne hx hb d253_39 rfl (fun h9 => ?_) (fun h9 => ?_)
        · have hF := Eq.mp (if_neg h9) hF
          refine lv_iconst (v := 0) hx hb d253_46 (by decide) ?_
          exact b47 (w_PathReader_readPredicate_10 dA P y0 K n9) hk10 ls x1 x2 x3 0 x2 cr sr _ _ h89 z90 _ _ hF hc hs (hl.sub [0, 1, 2, 3] rfl) I
        · have hF := Eq.mp (if_pos h9) hF
          refine lv_iconst (v := 1) hx hb d253_42 (by decide) ?_
          refine lv_goto hx hb d253_43 rfl ?_
          exact b47 (w_PathReader_readPredicate_10 dA P y0 K n9) hk10 ls x1 x2 x3 1 x2 cr sr _ _ h89 z90 _ _ hF hc hs (hl.sub [0, 1, 2, 3] rfl) I
  have hF := hg
  unfold w_PathReader_readPredicate at hF
  clear h z
  have hc : 0 + rc ≤ rc := by omega
  have hs : 0 + rs ≤ rs := by omega
  obtain ⟨c23, s24, ec, es, hF⟩ := hF
  refine hm_mk (ci := 13) (fs := [.int 0, .int 0, .int 0, .null, .null, .int 0, .null, .long 0]) (C := kR13) (T := kT13) (N := 8) X I ku13 kt13 kp13 (List.forall_mem_cons.mpr ⟨ms_k1013, List.forall_mem_cons.mpr ⟨ms_k1014, List.forall_mem_cons.mpr ⟨ms_k27, fun _ h => absurd h List.not_mem_nil⟩⟩⟩) rfl kz13 (rm_u hc ec).1 (rm_u hs es).1 d253_0 (fun q21 h22 H v9 e9 f9 I => ?_)
  have hF := hF q21 v9
  rw [← hm_eqU e9 f9] at hF
  clear e9 f9 v9
  have hc := (rm_u hc ec).2
  have hs := (rm_u hs es).2
  clear ec es
  refine lv_dup hx hb d253_3 rfl ?_
  obtain ⟨fs9, c9, hF⟩ := hF
  refine ht_I (rest := [.ref q21]) (as := []) X hl (cw_Predicate_init l D dA s0 hE q21 h22 z0 _ hF) (List.forall_mem_cons.mpr ⟨ms_k1015, List.forall_mem_cons.mpr ⟨ms_k1016, List.forall_mem_cons.mpr ⟨ms_k27, List.forall_mem_cons.mpr ⟨ms_k1017, fun _ h => absurd h List.not_mem_nil⟩⟩⟩⟩) rfl ⟨by decide +kernel, by decide +kernel, (by decide +kernel : (parseMethodDescriptor "()V").map (fun d => d.parameters.length) = some 0)⟩ I ⟨rfl, rfl⟩ ⟨⟨by show _ ≤ fP + 7; omega, by show _ ≤ lP + 215; omega⟩, rm_0 hc, rm_0 hs⟩ rfl (Nat.le_of_ble_eq_true rfl) d253_4 (fun vv h26 z27 H locs hR I9 => ?_)
  obtain ⟨e1, hF⟩ := hR
  subst e1
  clear I
  have I := I9
  clear I9 c9 fs9
  refine W.eq (g2 := F0 m 7 ls [.ref q21]) rfl ?_
  refine lv_astore_n hx hb d253_7 rfl hl (by decide) rfl (fun ls hl => ?_)
  have hl : lv_has ls 4 [(2, .ref q21), (0, .ref y0), (1, .int y1)] := hl
  refine lv_iconst (v := 0) hx hb d253_8 (by decide) ?_
  refine lv_istore_n hx hb d253_9 rfl hl (by decide) rfl (fun ls hl => ?_)
  have hl : lv_has ls 4 [(3, .int 0), (2, .ref q21), (0, .ref y0), (1, .int y1)] := hl
  exact b10 mF ls y1 (some q21) 0 c23 s24 _ _ h26 z27 _ _ hF hc hs (hl.sub [2, 3, 1, 0] rfl) I
