
def w_MarkupReader_readDocument_61 (dA : Nat → ClassId) (y0 : Nat) (K : Int32 → hm_T → hz_T → Prop) (cr sr : Nat) (h : hm_T) (z : hz_T) : Prop := (K 0 h z)
def w_MarkupReader_readDocument (dA : Nat → ClassId) (y0 : Nat) (rc rs : Nat) (K : Int32 → hm_T → hz_T → Prop) (h0 : hm_T) (z0 : hz_T) : Prop := (cg_c h0 6 y0 (w_TextReader_seen6 dA y0 0 (fun v21 h22 z23 => (if v21 = 60 then (cg_c h22 6 y0 (w_TextReader_seen6 dA y0 1 (fun v24 h25 z26 => (w_Store_isSmallLetter dA v24 (fun v27 h28 z29 => (if v27 = 0 then (cg_c h28 6 y0 (w_TextReader_failAt6 dA y0 1 (fun v45 h46 z47 => (cg_z v45 (K v45 h46 z47))) h28 z29)) else (cg_na dA h28 rc rs 0 1 (fun q30 c32 s33 h31 => (cg_si dA h31 0 q30 0 1 (fun h34 => (cg_c h34 6 y0 (cg_rm c32 s33 (fun c38 s39 c40 s41 => w_T_MarkupReader_readElement dA y0 none (some q30) c38 s39 (fun v35 h36 z37 => (if v35 = 0 then (w_MarkupReader_readDocument_61 dA y0 K c40 s41 h36 z37) else (cg_c h36 6 y0 (w_TextReader_readEnd6 dA y0 (fun v42 h43 z44 => (if v42 = 0 then (w_MarkupReader_readDocument_61 dA y0 K c40 s41 h43 z44) else (K 1 h43 z44))) h36 z37)))) h34 z29))))))))) h25 z26)) h22 z23)) else (cg_c h22 6 y0 (w_TextReader_failAt6 dA y0 0 (fun v48 h49 z50 => (cg_z v48 (K v48 h49 z50))) h22 z23)))) h0 z0))
set_option maxRecDepth 100000 in
set_option maxHeartbeats 8000000 in
theorem cw_MarkupReader_readDocument (l : Launch) (D : va_G) (dA : Nat → ClassId) (s0 : State) (hW : ms_EW D dA s0) (y0 : Nat) (rc rs : Nat) (h0 : hm_T) (z0 : hz_T) (K : Int32 → hm_T → hz_T → Prop) (hg : w_MarkupReader_readDocument dA y0 rc rs K h0 z0) : ht_C l D s0 yM259 bM259 2 (Option.some Jvm.ClassFile.FieldType.boolean) (185) (5656) rc rs [.ref y0] (fun h z => h = h0 ∧ z = z0) (fun h z vv h1 z1 => ∃ v, vv = some (.int v) ∧ K v h1 z1) := by
  have hE := hW.1
  refine ht_C.mk hE.1 (by decide) (Nat.le_of_ble_eq_true rfl) [(0, .ref y0)] rfl ?_
  intro p e s m below meth c ls h z X hin hpre I hl
  have hx := X.1
  have hb := X.2.1
  have hml := X.2.2.1
  have hown : s.vm.findClass "MarkupStore$MarkupReader" = some m.cls := X.2.2.2.1
  have hts := X.2.2.2.2.2.2.1
  have hK := X.2.2.2.2.2.2.2.2.1
  rw [hpre.1, hpre.2] at I
  clear hpre
  have b61 : ∀ (ls : Array Slot) (cr sr cu su : Nat) (h : hm_T) (z : hz_T) (H : Heap) (locs : List Loc), w_MarkupReader_readDocument_61 dA y0 K cr sr h z → cu + cr ≤ rc → su + sr ≤ rs → lv_has ls 2 [] → hm_I D s0 s h z H locs → W p l e { frames := 185, cells := rc, slots := rs, locals := 5656 } s m ([.ref y0] : List Value).toArray below meth c H locs cu su (MQ below (ht_Q D s0 (fun vv h1 z1 => ∃ v, vv = some (.int v) ∧ K v h1 z1)) ([.ref y0] : List Value).toArray s rc rs (fun q => s0.heap.size ≤ q)) (F0 m 61 ls []) := by
    intro ls cr sr cu su h z H locs hF hc hs hl I
    unfold w_MarkupReader_readDocument_61 at hF
    refine lv_iconst (v := 0) hx hb d259_61 (by decide) ?_
    exact ht_zret X d259_62 I (rm_r hc) (rm_r hs) ⟨_, rfl, hF⟩ rfl
  have hF := hg
  unfold w_MarkupReader_readDocument at hF
  clear h z
  have hc : 0 + rc ≤ rc := by omega
  have hs : 0 + rs ≤ rs := by omega
  refine lv_aload_n hx hb d259_0 rfl (lv_at hl 0 rfl) ?_
  refine lv_iconst (v := 0) hx hb d259_1 (by decide) ?_
  obtain ⟨fs9, c9, hF⟩ := hF
  refine ht_U (C := "MarkupStore$MarkupReader") (x := ⟨"MarkupStore$MarkupReader", "seen", "(I)C"⟩) (owner := "MarkupStore$TextReader") (rest := []) (as := [.int 0]) X hl (cw_TextReader_seen6 l D dA s0 hE y0 0 h0 z0 _ hF) (List.forall_mem_cons.mpr ⟨ms_k384, List.forall_mem_cons.mpr ⟨ms_k385, List.forall_mem_cons.mpr ⟨ms_k387, List.forall_mem_cons.mpr ⟨ms_k388, List.forall_mem_cons.mpr ⟨ms_k14, List.forall_mem_cons.mpr ⟨ms_k389, fun _ h => absurd h List.not_mem_nil⟩⟩⟩⟩⟩⟩) rfl ⟨by decide +kernel, by decide +kernel, (by decide +kernel : (parseMethodDescriptor "(I)C").map (fun d => d.parameters.length) = some 1)⟩ (hm_recv hK I rfl c9) I ⟨rfl, rfl⟩ ⟨⟨Nat.le_of_ble_eq_true rfl, Nat.le_of_ble_eq_true rfl⟩, rm_0 hc, rm_0 hs⟩ rfl (Nat.le_of_ble_eq_true rfl) d259_2 (fun vv h22 z23 H locs hR I9 => ?_)
  obtain ⟨v21, e1, hF⟩ := hR
  subst e1
  clear I
  have I := I9
  clear I9 c9 fs9
  refine W.eq (g2 := F0 m 5 ls [.int v21]) rfl ?_
  refine lv_bipush (v := 60) hx hb d259_5 (by decide) ?_
  refine lv_icmp_eq hx hb d259_7 rfl (fun h9 => ?_) (fun h9 => ?_)
  · have hF := Eq.mp (if_pos h9) hF
    refine lv_aload_n hx hb d259_16 rfl (lv_at hl 0 rfl) ?_
    refine lv_iconst (v := 1) hx hb d259_17 (by decide) ?_
    obtain ⟨fs9, c9, hF⟩ := hF
    refine ht_U (C := "MarkupStore$MarkupReader") (x := ⟨"MarkupStore$MarkupReader", "seen", "(I)C"⟩) (owner := "MarkupStore$TextReader") (rest := []) (as := [.int 1]) X hl (cw_TextReader_seen6 l D dA s0 hE y0 1 h22 z23 _ hF) (List.forall_mem_cons.mpr ⟨ms_k384, List.forall_mem_cons.mpr ⟨ms_k385, List.forall_mem_cons.mpr ⟨ms_k387, List.forall_mem_cons.mpr ⟨ms_k388, List.forall_mem_cons.mpr ⟨ms_k14, List.forall_mem_cons.mpr ⟨ms_k389, fun _ h => absurd h List.not_mem_nil⟩⟩⟩⟩⟩⟩) rfl ⟨by decide +kernel, by decide +kernel, (by decide +kernel : (parseMethodDescriptor "(I)C").map (fun d => d.parameters.length) = some 1)⟩ (hm_recv hK I rfl c9) I ⟨rfl, rfl⟩ ⟨⟨Nat.le_of_ble_eq_true rfl, Nat.le_of_ble_eq_true rfl⟩, rm_0 hc, rm_0 hs⟩ rfl (Nat.le_of_ble_eq_true rfl) d259_18 (fun vv h25 z26 H locs hR I9 => ?_)
    obtain ⟨v24, e1, hF⟩ := hR
    subst e1
    clear I
    have I := I9
    clear I9 c9 fs9
    refine W.eq (g2 := F0 m 21 ls [.int v24]) rfl ?_
    refine ht_SN (host := "MarkupStore") (rest := []) (as := [.int v24]) X hl (cw_Store_isSmallLetter l D dA s0 hE v24 h25 z26 _ hF) (ms_nest hE X (ms_l (ms_t2 (List.mem_of_getElem? (i := 179) (by decide +kernel))))) (List.forall_mem_cons.mpr ⟨ms_k420, List.forall_mem_cons.mpr ⟨ms_k1, List.forall_mem_cons.mpr ⟨ms_k421, fun _ h => absurd h List.not_mem_nil⟩⟩⟩) ⟨by decide +kernel, by decide +kernel, (by decide +kernel : (parseMethodDescriptor "(C)Z").map (fun d => d.parameters.length) = some 1)⟩ I ⟨rfl, rfl⟩ ⟨⟨Nat.le_of_ble_eq_true rfl, Nat.le_of_ble_eq_true rfl⟩, rm_0 hc, rm_0 hs⟩ rfl (Nat.le_of_ble_eq_true rfl) d259_21 (fun vv h28 z29 H locs hR I9 => ?_)
    obtain ⟨v27, e1, hF⟩ := hR
    subst e1
    clear I
    have I := I9
    clear I9
    refine W.eq (g2 := F0 m 24 ls [.int v27]) rfl ?_
    refine lv_if_ne hx hb d259_24 rfl (fun h9 => ?_) (fun h9 => ?_)
    · have hF := Eq.mp (if_neg h9) hF
      refine lv_iconst (v := 1) hx hb d259_33 (by decide) ?_
      obtain ⟨N9, c32, s33, eN, bN, ec, es, hF⟩ := hF
      refine ms_top (y := nI N9) eN ?_
      refine hm_mka (N' := N9) (atype := .int) (ty := .int) (a0 := (N9, .inl (fun _ => 0))) X I ms_k124 rfl 0 rfl (fun _ h => h) rfl (fun _ => rfl) (nI_pos (by omega)) (nI_clamp (by omega)) (Nat.le_trans (Nat.mul_le_mul_right _ bN) (by decide)) (rm_u hc ec).1 (rm_u hs es).1 d259_34 (fun q30 h31 H v9 e9 f9 I => ?_)
      have hF := hF q30 v9
      rw [← hm_eqU e9 f9] at hF
      clear e9 f9 v9 eN bN
      have hc := (rm_u hc ec).2
      have hs := (rm_u hs es).2
      clear ec es
      refine lv_dup hx hb d259_36 rfl ?_
      refine lv_iconst (v := 0) hx hb d259_37 (by decide) ?_
      refine lv_iconst (v := 1) hx hb d259_38 (by decide) ?_
      obtain ⟨n8, f8, c9, i9, hF⟩ := hF
      refine hm_iast X I 0 c9 rfl i9 d259_39 (fun h34 H locs e9 f9 I => ?_)
      rw [← hm_eqU e9 f9] at hF
      clear e9 f9 c9 i9
      refine lv_astore_n hx hb d259_40 rfl hl (by decide) rfl (fun ls hl => ?_)
      have hl : lv_has ls 2 [(1, .ref q30), (0, .ref y0)] := hl
      refine lv_aload_n hx hb d259_41 rfl (lv_at hl 1 rfl) ?_
      refine lv_null hx hb d259_42 ?_
      refine lv_aload_n hx hb d259_43 rfl (lv_at hl 0 rfl) ?_
      obtain ⟨fs9, c9, hF⟩ := hF
      obtain ⟨c38, s39, c40, s41, ec, es, hF⟩ := hF
      refine ht_V (C := "MarkupStore$MarkupReader") (rest := []) (as := [.null, .ref q30]) X hl (cw_T_MarkupReader_readElement l D dA s0 hW y0 none (some q30) c38 s39 h34 z29 _ hF) (List.forall_mem_cons.mpr ⟨ms_k422, List.forall_mem_cons.mpr ⟨ms_k424, List.forall_mem_cons.mpr ⟨ms_p1, List.forall_mem_cons.mpr ⟨ms_k15, List.forall_mem_cons.mpr ⟨ms_k425, fun _ h => absurd h List.not_mem_nil⟩⟩⟩⟩⟩) ⟨rfl, by decide +kernel, by decide +kernel, (by decide +kernel : (parseMethodDescriptor "(LMarkupStore$Node;[I)Z").map (fun d => d.parameters.length) = some 2)⟩ (hm_recv hK I rfl c9) I ⟨rfl, rfl⟩ ⟨⟨Nat.le_of_ble_eq_true rfl, Nat.le_of_ble_eq_true rfl⟩, (rm_u hc ec).1, (rm_u hs es).1⟩ rfl (Nat.le_of_ble_eq_true rfl) d259_44 (fun vv h36 z37 H locs hR I9 => ?_)
      obtain ⟨v35, e1, hF⟩ := hR
      subst e1
      clear I
      have I := I9
      clear I9 c9 fs9
      have hc := (rm_u hc ec).2
      have hs := (rm_u hs es).2
      clear ec es
      refine W.eq (g2 := F0 m 47 ls [.int v35]) rfl ?_
      refine lv_if_eq hx hb d259_47 rfl (fun h9 => ?_) (fun h9 => ?_)
      · have hF := Eq.mp (if_pos h9) hF
        exact b61 ls c40 s41 _ _ h36 z37 _ _ hF hc hs (hl.sub [] rfl) I
      · have hF := Eq.mp (if_neg h9) hF
        refine lv_aload_n hx hb d259_50 rfl (lv_at hl 1 rfl) ?_
        obtain ⟨fs9, c9, hF⟩ := hF
        refine ht_U (C := "MarkupStore$MarkupReader") (x := ⟨"MarkupStore$MarkupReader", "readEnd", "()Z"⟩) (owner := "MarkupStore$TextReader") (rest := []) (as := []) X hl (cw_TextReader_readEnd6 l D dA s0 hE y0 h36 z37 _ hF) (List.forall_mem_cons.mpr ⟨ms_k698, List.forall_mem_cons.mpr ⟨ms_k699, List.forall_mem_cons.mpr ⟨ms_k701, List.forall_mem_cons.mpr ⟨ms_k702, List.forall_mem_cons.mpr ⟨ms_k14, List.forall_mem_cons.mpr ⟨ms_k703, fun _ h => absurd h List.not_mem_nil⟩⟩⟩⟩⟩⟩) rfl ⟨by decide +kernel, by decide +kernel, (by decide +kernel : (parseMethodDescriptor "()Z").map (fun d => d.parameters.length) = some 0)⟩ (hm_recv hK I rfl c9) I ⟨rfl, rfl⟩ ⟨⟨Nat.le_of_ble_eq_true rfl, Nat.le_of_ble_eq_true rfl⟩, rm_0 hc, rm_0 hs⟩ rfl (Nat.le_of_ble_eq_true rfl) d259_51 (fun vv h43 z44 H locs hR I9 => ?_)
        obtain ⟨v42, e1, hF⟩ := hR
        subst e1
        clear I
        have I := I9
        clear I9 c9 fs9
        refine W.eq (g2 := F0 m 54 ls [.int v42]) rfl ?_
        refine lv_if_eq hx hb d259_54 rfl (fun h9 => ?_) (fun h9 => ?_)
        · have hF := Eq.mp (if_pos h9) hF
          exact b61 ls c40 s41 _ _ h43 z44 _ _ hF hc hs (hl.sub [] rfl) I
        · have hF := Eq.mp (if_neg h9) hF
          refine lv_iconst (v := 1) hx hb d259_57 (by decide) ?_
          refine lv_goto hx hb d259_58 rfl ?_
          exact ht_zret X d259_62 I (rm_r hc) (rm_r hs) ⟨_, rfl, hF⟩ rfl
    · have hF := Eq.mp (if_pos h9) hF
      refine lv_aload_n hx hb d259_27 rfl (lv_at hl 0 rfl) ?_
      refine lv_iconst (v := 1) hx hb d259_28 (by decide) ?_
      obtain ⟨fs9, c9, hF⟩ := hF
      refine ht_U (C := "MarkupStore$MarkupReader") (x := ⟨"MarkupStore$MarkupReader", "failAt", "(I)Z"⟩) (owner := "MarkupStore$TextReader") (rest := []) (as := [.int 1]) X hl (cw_TextReader_failAt6 l D dA s0 hE y0 1 h28 z29 _ hF) (List.forall_mem_cons.mpr ⟨ms_k413, List.forall_mem_cons.mpr ⟨ms_k414, List.forall_mem_cons.mpr ⟨ms_k416, List.forall_mem_cons.mpr ⟨ms_k417, List.forall_mem_cons.mpr ⟨ms_k14, List.forall_mem_cons.mpr ⟨ms_k418, fun _ h => absurd h List.not_mem_nil⟩⟩⟩⟩⟩⟩) rfl ⟨by decide +kernel, by decide +kernel, (by decide +kernel : (parseMethodDescriptor "(I)Z").map (fun d => d.parameters.length) = some 1)⟩ (hm_recv hK I rfl c9) I ⟨rfl, rfl⟩ ⟨⟨Nat.le_of_ble_eq_true rfl, Nat.le_of_ble_eq_true rfl⟩, rm_0 hc, rm_0 hs⟩ rfl (Nat.le_of_ble_eq_true rfl) d259_29 (fun vv h46 z47 H locs hR I9 => ?_)
      obtain ⟨v45, e1, hF⟩ := hR
      subst e1
      clear I
      have I := I9
      clear I9 c9 fs9
      refine W.eq (g2 := F0 m 32 ls [.int v45]) rfl ?_
      obtain ⟨hz9, hF⟩ := hF
      exact ht_zret X d259_32 I (rm_r hc) (rm_r hs) ⟨_, rfl, hF⟩ (cg_zn hz9).1
  · have hF := Eq.mp (if_neg h9) hF
    refine lv_aload_n hx hb d259_10 rfl (lv_at hl 0 rfl) ?_
    refine lv_iconst (v := 0) hx hb d259_11 (by decide) ?_
    obtain ⟨fs9, c9, hF⟩ := hF
    refine ht_U (C := "MarkupStore$MarkupReader") (x := ⟨"MarkupStore$MarkupReader", "failAt", "(I)Z"⟩) (owner := "MarkupStore$TextReader") (rest := []) (as := [.int 0]) X hl (cw_TextReader_failAt6 l D dA s0 hE y0 0 h22 z23 _ hF) (List.forall_mem_cons.mpr ⟨ms_k413, List.forall_mem_cons.mpr ⟨ms_k414, List.forall_mem_cons.mpr ⟨ms_k416, List.forall_mem_cons.mpr ⟨ms_k417, List.forall_mem_cons.mpr ⟨ms_k14, List.forall_mem_cons.mpr ⟨ms_k418, fun _ h => absurd h List.not_mem_nil⟩⟩⟩⟩⟩⟩) rfl ⟨by decide +kernel, by decide +kernel, (by decide +kernel : (parseMethodDescriptor "(I)Z").map (fun d => d.parameters.length) = some 1)⟩ (hm_recv hK I rfl c9) I ⟨rfl, rfl⟩ ⟨⟨Nat.le_of_ble_eq_true rfl, Nat.le_of_ble_eq_true rfl⟩, rm_0 hc, rm_0 hs⟩ rfl (Nat.le_of_ble_eq_true rfl) d259_12 (fun vv h49 z50 H locs hR I9 => ?_)
    obtain ⟨v48, e1, hF⟩ := hR
    subst e1
    clear I
    have I := I9
    clear I9 c9 fs9
    refine W.eq (g2 := F0 m 15 ls [.int v48]) rfl ?_
    obtain ⟨hz9, hF⟩ := hF
    exact ht_zret X d259_15 I (rm_r hc) (rm_r hs) ⟨_, rfl, hF⟩ (cg_zn hz9).1

def w_MarkupReader_readOne_36 (dA : Nat → ClassId) (y0 : Nat) (K : Int32 → hm_T → hz_T → Prop) (cr sr : Nat) (h : hm_T) (z : hz_T) : Prop := (K 0 h z)
def w_MarkupReader_readOne (dA : Nat → ClassId) (y0 : Nat) (y1 : Option Nat) (y2 : Option Nat) (rc rs : Nat) (K : Int32 → hm_T → hz_T → Prop) (h0 : hm_T) (z0 : hz_T) : Prop := (cg_R h0 6 0 y0 (fun v21 => (cg_d v21 (fun a22 => (jd_emp z0 a22 (fun v23 => (if v23 = 0 then (cg_c h0 6 y0 (cg_rm rc rs (fun c27 s28 c29 s30 => w_T_MarkupReader_readPiece dA y0 y1 y2 c27 s28 (fun v24 h25 z26 => (if v24 = 0 then (w_MarkupReader_readOne_36 dA y0 K c29 s30 h25 z26) else (cg_c h25 6 y0 (w_TextReader_readEnd6 dA y0 (fun v31 h32 z33 => (if v31 = 0 then (w_MarkupReader_readOne_36 dA y0 K c29 s30 h32 z33) else (K 1 h32 z33))) h25 z26)))) h0 z0))) else (cg_c h0 6 y0 (w_TextReader_failAt6 dA y0 0 (fun v34 h35 z36 => (cg_z v34 (K v34 h35 z36))) h0 z0)))))))))
set_option maxRecDepth 100000 in
set_option maxHeartbeats 8000000 in
theorem cw_MarkupReader_readOne (l : Launch) (D : va_G) (dA : Nat → ClassId) (s0 : State) (hW : ms_EW D dA s0) (y0 : Nat) (y1 : Option Nat) (y2 : Option Nat) (rc rs : Nat) (h0 : hm_T) (z0 : hz_T) (K : Int32 → hm_T → hz_T → Prop) (hg : w_MarkupReader_readOne dA y0 y1 y2 rc rs K h0 z0) : ht_C l D s0 yM260 bM260 3 (Option.some Jvm.ClassFile.FieldType.boolean) (194) (5934) rc rs [.ref y0, va_rf y1, va_rf y2] (fun h z => h = h0 ∧ z = z0) (fun h z vv h1 z1 => ∃ v, vv = some (.int v) ∧ K v h1 z1) := by
  have hE := hW.1
  refine ht_C.mk hE.1 (by decide) (by simp [lg_sl, cat_rf, cat_int, cat_ref, cat_null, cat_long]) [(0, .ref y0), (1, va_rf y1), (2, va_rf y2)] (by simp [lv_args, cat_rf, cat_int, cat_ref, cat_null, cat_long]) ?_
  intro p e s m below meth c ls h z X hin hpre I hl
  have hx := X.1
  have hb := X.2.1
  have hml := X.2.2.1
  have hown : s.vm.findClass "MarkupStore$MarkupReader" = some m.cls := X.2.2.2.1
  have hts := X.2.2.2.2.2.2.1
  have hK := X.2.2.2.2.2.2.2.2.1
  rw [hpre.1, hpre.2] at I
  clear hpre
  have b36 : ∀ (ls : Array Slot) (cr sr cu su : Nat) (h : hm_T) (z : hz_T) (H : Heap) (locs : List Loc), w_MarkupReader_readOne_36 dA y0 K cr sr h z → cu + cr ≤ rc → su + sr ≤ rs → lv_has ls 3 [] → hm_I D s0 s h z H locs → W p l e { frames := 194, cells := rc, slots := rs, locals := 5934 } s m ([.ref y0, va_rf y1, va_rf y2] : List Value).toArray below meth c H locs cu su (MQ below (ht_Q D s0 (fun vv h1 z1 => ∃ v, vv = some (.int v) ∧ K v h1 z1)) ([.ref y0, va_rf y1, va_rf y2] : List Value).toArray s rc rs (fun q => s0.heap.size ≤ q)) (F0 m 36 ls []) := by
    intro ls cr sr cu su h z H locs hF hc hs hl I
    unfold w_MarkupReader_readOne_36 at hF
    refine lv_iconst (v := 0) hx hb d260_36 (by decide) ?_
    exact ht_zret X d260_37 I (rm_r hc) (rm_r hs) ⟨_, rfl, hF⟩ rfl
  have hF := hg
  unfold w_MarkupReader_readOne at hF
  clear h z
  have hc : 0 + rc ≤ rc := by omega
  have hs : 0 + rs ≤ rs := by omega
  refine lv_aload_n hx hb d260_0 rfl (lv_at hl 0 rfl) ?_
  obtain ⟨fs9, v21, c9, e9, hF⟩ := hF
  refine va_get (D := D) (ci := 6) (v := va_rf v21) (C := kR6) (T := kT6) (N := 6) hx hb hts ku6 hown hK (hm_one I.1 c9) 0 rfl rfl 0 (by decide) (hts _ ms_k355) (fun x9 h9 => u_same (hts _ ms_k356) x9 h9) e9 d260_1 ?_
  clear e9 c9 fs9
  obtain ⟨a22, e9, hF⟩ := hF
  refine W.eq (g2 := F0 m 4 ls [.ref a22]) (by rw [e9]; rfl) ?_
  clear e9
  obtain ⟨u9, xs9, z9, p1, hF⟩ := hF
  refine ht_V (C := "java/lang/String") (rest := []) (as := []) X hl (c_Sempty l D dA s0 hE a22 u9 xs9 p1) (List.forall_mem_cons.mpr ⟨ms_k777, List.forall_mem_cons.mpr ⟨ms_k778, List.forall_mem_cons.mpr ⟨ms_k779, List.forall_mem_cons.mpr ⟨ms_k4, List.forall_mem_cons.mpr ⟨ms_k780, fun _ h => absurd h List.not_mem_nil⟩⟩⟩⟩⟩) ⟨rfl, by decide +kernel, by decide +kernel, (by decide +kernel : (parseMethodDescriptor "()Z").map (fun d => d.parameters.length) = some 0)⟩ (hz_recv I z9) I z9 ⟨⟨Nat.le_of_ble_eq_true rfl, Nat.le_of_ble_eq_true rfl⟩, rm_0 hc, rm_0 hs⟩ rfl (Nat.le_of_ble_eq_true rfl) d260_4 (fun vv h9 z7 H locs hR I9 => ?_)
  obtain ⟨e1, e2, e3⟩ := hR
  rw [e2, e3] at I9
  subst e1
  clear I
  have I := I9
  clear I9 e2 e3 h9 z7
  refine W.eq (g2 := F0 m 7 ls [.int (if xs9.length = 0 then 1 else 0)]) rfl ?_
  generalize (if xs9.length = 0 then 1 else 0) = v23 at hF ⊢
  refine lv_if_eq hx hb d260_7 rfl (fun h9 => ?_) (fun h9 => ?_)
  · have hF := Eq.mp (if_pos h9) hF
    refine lv_aload_n hx hb d260_16 rfl (lv_at hl 0 rfl) ?_
    refine lv_aload_nR hx hb d260_17 rfl (lv_at hl 1 rfl) ?_
    refine lv_aload_nR hx hb d260_18 rfl (lv_at hl 2 rfl) ?_
    obtain ⟨fs9, c9, hF⟩ := hF
    obtain ⟨c27, s28, c29, s30, ec, es, hF⟩ := hF
    refine ht_V (C := "MarkupStore$MarkupReader") (rest := []) (as := [va_rf y1, va_rf y2]) X hl (cw_T_MarkupReader_readPiece l D dA s0 hW y0 y1 y2 c27 s28 h0 z0 _ hF) (List.forall_mem_cons.mpr ⟨ms_k686, List.forall_mem_cons.mpr ⟨ms_k688, List.forall_mem_cons.mpr ⟨ms_p11, List.forall_mem_cons.mpr ⟨ms_k15, List.forall_mem_cons.mpr ⟨ms_k689, fun _ h => absurd h List.not_mem_nil⟩⟩⟩⟩⟩) ⟨rfl, by decide +kernel, by decide +kernel, (by decide +kernel : (parseMethodDescriptor "(LMarkupStore$Node;[I)Z").map (fun d => d.parameters.length) = some 2)⟩ (hm_recv hK I rfl c9) I ⟨rfl, rfl⟩ ⟨⟨Nat.le_of_ble_eq_true rfl, Nat.le_of_ble_eq_true rfl⟩, (rm_u hc ec).1, (rm_u hs es).1⟩ rfl (Nat.le_of_ble_eq_true rfl) d260_19 (fun vv h25 z26 H locs hR I9 => ?_)
    obtain ⟨v24, e1, hF⟩ := hR
    subst e1
    clear I
    have I := I9
    clear I9 c9 fs9
    have hc := (rm_u hc ec).2
    have hs := (rm_u hs es).2
    clear ec es
    refine W.eq (g2 := F0 m 22 ls [.int v24]) rfl ?_
    refine lv_if_eq hx hb d260_22 rfl (fun h9 => ?_) (fun h9 => ?_)
    · have hF := Eq.mp (if_pos h9) hF
      exact b36 ls c29 s30 _ _ h25 z26 _ _ hF hc hs (hl.sub [] rfl) I
    · have hF := Eq.mp (if_neg h9) hF
      refine lv_aload_n hx hb d260_25 rfl (lv_at hl 0 rfl) ?_
      obtain ⟨fs9, c9, hF⟩ := hF
      refine ht_U (C := "MarkupStore$MarkupReader") (x := ⟨"MarkupStore$MarkupReader", "readEnd", "()Z"⟩) (owner := "MarkupStore$TextReader") (rest := []) (as := []) X hl (cw_TextReader_readEnd6 l D dA s0 hE y0 h25 z26 _ hF) (List.forall_mem_cons.mpr ⟨ms_k698, List.forall_mem_cons.mpr ⟨ms_k699, List.forall_mem_cons.mpr ⟨ms_k701, List.forall_mem_cons.mpr ⟨ms_k702, List.forall_mem_cons.mpr ⟨ms_k14, List.forall_mem_cons.mpr ⟨ms_k703, fun _ h => absurd h List.not_mem_nil⟩⟩⟩⟩⟩⟩) rfl ⟨by decide +kernel, by decide +kernel, (by decide +kernel : (parseMethodDescriptor "()Z").map (fun d => d.parameters.length) = some 0)⟩ (hm_recv hK I rfl c9) I ⟨rfl, rfl⟩ ⟨⟨Nat.le_of_ble_eq_true rfl, Nat.le_of_ble_eq_true rfl⟩, rm_0 hc, rm_0 hs⟩ rfl (Nat.le_of_ble_eq_true rfl) d260_26 (fun vv h32 z33 H locs hR I9 => ?_)
      obtain ⟨v31, e1, hF⟩ := hR
      subst e1
      clear I
      have I := I9
      clear I9 c9 fs9
      refine W.eq (g2 := F0 m 29 ls [.int v31]) rfl ?_
      refine lv_if_eq hx hb d260_29 rfl (fun h9 => ?_) (fun h9 => ?_)
      · have hF := Eq.mp (if_pos h9) hF
        exact b36 ls c29 s30 _ _ h32 z33 _ _ hF hc hs (hl.sub [] rfl) I
      · have hF := Eq.mp (if_neg h9) hF
        refine lv_iconst (v := 1) hx hb d260_32 (by decide) ?_
        refine lv_goto hx hb d260_33 rfl ?_
        exact ht_zret X d260_37 I (rm_r hc) (rm_r hs) ⟨_, rfl, hF⟩ rfl
  · have hF := Eq.mp (if_neg h9) hF
    refine lv_aload_n hx hb d260_10 rfl (lv_at hl 0 rfl) ?_
    refine lv_iconst (v := 0) hx hb d260_11 (by decide) ?_
    obtain ⟨fs9, c9, hF⟩ := hF
    refine ht_U (C := "MarkupStore$MarkupReader") (x := ⟨"MarkupStore$MarkupReader", "failAt", "(I)Z"⟩) (owner := "MarkupStore$TextReader") (rest := []) (as := [.int 0]) X hl (cw_TextReader_failAt6 l D dA s0 hE y0 0 h0 z0 _ hF) (List.forall_mem_cons.mpr ⟨ms_k413, List.forall_mem_cons.mpr ⟨ms_k414, List.forall_mem_cons.mpr ⟨ms_k416, List.forall_mem_cons.mpr ⟨ms_k417, List.forall_mem_cons.mpr ⟨ms_k14, List.forall_mem_cons.mpr ⟨ms_k418, fun _ h => absurd h List.not_mem_nil⟩⟩⟩⟩⟩⟩) rfl ⟨by decide +kernel, by decide +kernel, (by decide +kernel : (parseMethodDescriptor "(I)Z").map (fun d => d.parameters.length) = some 1)⟩ (hm_recv hK I rfl c9) I ⟨rfl, rfl⟩ ⟨⟨Nat.le_of_ble_eq_true rfl, Nat.le_of_ble_eq_true rfl⟩, rm_0 hc, rm_0 hs⟩ rfl (Nat.le_of_ble_eq_true rfl) d260_12 (fun vv h35 z36 H locs hR I9 => ?_)
    obtain ⟨v34, e1, hF⟩ := hR
    subst e1
    clear I
    have I := I9
    clear I9 c9 fs9
    refine W.eq (g2 := F0 m 15 ls [.int v34]) rfl ?_
    obtain ⟨hz9, hF⟩ := hF
    exact ht_zret X d260_15 I (rm_r hc) (rm_r hs) ⟨_, rfl, hF⟩ (cg_zn hz9).1

def w_Store_load_67 (dA : Nat → ClassId) (y0 : Nat) (K : Int32 → hm_T → hz_T → Prop) (cr sr : Nat) (h : hm_T) (z : hz_T) : Prop := (K (-2000) h z)
def w_Store_load (dA : Nat → ClassId) (y0 : Nat) (rc rs : Nat) (K : Int32 → hm_T → hz_T → Prop) (h0 : hm_T) (z0 : hz_T) : Prop := (cg_new h0 rc rs 6 6 [.null, .int 0, .int 0, .null, .null, .int 0] (fun q21 c23 s24 h22 => (cg_c h22 0 y0 (cg_rm c23 s24 (fun c28 s29 c30 s31 => w_Store_useBuffer dA y0 c28 s29 (fun v25 h26 z27 => (cg_R h26 0 1 y0 (fun v32 => (cg_c h26 6 q21 (cg_rm c30 s31 (fun c36 s37 c38 s39 => w_MarkupReader_init dA q21 v25 v32 c36 s37 (fun h34 z35 => (cg_c h34 6 q21 (cg_rm c38 s39 (fun c43 s44 c45 s46 => w_MarkupReader_readDocument dA q21 c43 s44 (fun v40 h41 z42 => (cg_c h41 6 q21 (w_TextReader_failed6 dA q21 (fun v47 h48 z49 => (if v47 = 0 then (cg_R h48 6 3 q21 (fun v50 => (cg_d v50 (fun a51 => (jd_sz h48 a51 (fun v52 => (cg_c h48 6 q21 (w_MarkupReader_passesLimits dA q21 (fun v53 h54 z55 => (if v53 = 0 then (if 40 < v52 then (w_Store_load_67 dA y0 K c45 s46 h54 z55) else (cg_R h54 0 2 y0 (fun v56 => (cg_d v56 (fun a57 => (cg_c h54 1 a57 (w_Tree_mayMake dA a57 v52 (fun v58 h59 z60 => (if v58 = 0 then (w_Store_load_67 dA y0 K c45 s46 h59 z60) else (cg_R h59 0 2 y0 (fun v61 => (cg_d v61 (fun a62 => (cg_c h59 1 a62 (w_Tree_clear dA a62 (fun h64 z65 => (cg_R h64 0 2 y0 (fun v66 => (cg_R h64 6 3 q21 (fun v67 => (cg_d v66 (fun a68 => (cg_c h64 1 a68 (w_Tree_put dA a68 v67 0 (fun h70 z71 => (cg_c h70 0 y0 (w_Store_beginBatch dA y0 (fun h73 z74 => (K v52 h73 z74)) h70 z71))) h64 z65))))))))) h59 z60)))))))) h54 z55))))))) else (w_Store_load_67 dA y0 K c45 s46 h54 z55))) h48 z49)))))))) else (cg_I h48 6 2 q21 (fun v75 => (K ((-1) - v75) h48 z49))))) h41 z42))) h34 z35)))) h26 z27)))))) h22 z0)))))
set_option maxRecDepth 100000 in
set_option maxHeartbeats 8000000 in
theorem cw_Store_load (l : Launch) (D : va_G) (dA : Nat → ClassId) (s0 : State) (hW : ms_EW D dA s0) (y0 : Nat) (rc rs : Nat) (h0 : hm_T) (z0 : hz_T) (K : Int32 → hm_T → hz_T → Prop) (hg : w_Store_load dA y0 rc rs K h0 z0) : ht_C l D s0 yM261 bM261 3 (Option.some Jvm.ClassFile.FieldType.int) (186) (5677) rc rs [.ref y0] (fun h z => h = h0 ∧ z = z0) (fun h z vv h1 z1 => ∃ v, vv = some (.int v) ∧ K v h1 z1) := by
  have hE := hW.1
  refine ht_C.mk hE.1 (by decide) (Nat.le_of_ble_eq_true rfl) [(0, .ref y0)] rfl ?_
  intro p e s m below meth c ls h z X hin hpre I hl
  have hx := X.1
  have hb := X.2.1
  have hml := X.2.2.1
  have hown : s.vm.findClass "MarkupStore" = some m.cls := X.2.2.2.1
  have hts := X.2.2.2.2.2.2.1
  have hK := X.2.2.2.2.2.2.2.2.1
  rw [hpre.1, hpre.2] at I
  clear hpre
  have b67 : ∀ (ls : Array Slot) (cr sr cu su : Nat) (h : hm_T) (z : hz_T) (H : Heap) (locs : List Loc), w_Store_load_67 dA y0 K cr sr h z → cu + cr ≤ rc → su + sr ≤ rs → lv_has ls 3 [] → hm_I D s0 s h z H locs → W p l e { frames := 186, cells := rc, slots := rs, locals := 5677 } s m ([.ref y0] : List Value).toArray below meth c H locs cu su (MQ below (ht_Q D s0 (fun vv h1 z1 => ∃ v, vv = some (.int v) ∧ K v h1 z1)) ([.ref y0] : List Value).toArray s rc rs (fun q => s0.heap.size ≤ q)) (F0 m 67 ls []) := by
    intro ls cr sr cu su h z H locs hF hc hs hl I
    unfold w_Store_load_67 at hF
    refine lv_sipush (v := (-2000)) hx hb d261_67 (by decide) ?_
    exact ht_iret X d261_70 I (rm_r hc) (rm_r hs) ⟨_, rfl, hF⟩
  have hF := hg
  unfold w_Store_load at hF
  clear h z
  have hc : 0 + rc ≤ rc := by omega
  have hs : 0 + rs ≤ rs := by omega
  obtain ⟨c23, s24, ec, es, hF⟩ := hF
  refine hm_mk (ci := 6) (fs := [.null, .int 0, .int 0, .null, .null, .int 0]) (C := kR6) (T := kT6) (N := 6) X I ku6 kt6 kp6 (List.forall_mem_cons.mpr ⟨ms_k235, List.forall_mem_cons.mpr ⟨ms_k236, List.forall_mem_cons.mpr ⟨ms_k15, fun _ h => absurd h List.not_mem_nil⟩⟩⟩) rfl kz6 (rm_u hc ec).1 (rm_u hs es).1 d261_0 (fun q21 h22 H v9 e9 f9 I => ?_)
  have hF := hF q21 v9
  rw [← hm_eqU e9 f9] at hF
  clear e9 f9 v9
  have hc := (rm_u hc ec).2
  have hs := (rm_u hs es).2
  clear ec es
  refine lv_dup hx hb d261_3 rfl ?_
  refine lv_aload_n hx hb d261_4 rfl (lv_at hl 0 rfl) ?_
  obtain ⟨fs9, c9, hF⟩ := hF
  obtain ⟨c28, s29, c30, s31, ec, es, hF⟩ := hF
  refine ht_V (C := "MarkupStore") (rest := [.ref q21, .ref q21]) (as := []) X hl (cw_Store_useBuffer l D dA s0 hW y0 c28 s29 h22 z0 _ hF) (List.forall_mem_cons.mpr ⟨ms_k237, List.forall_mem_cons.mpr ⟨ms_k239, List.forall_mem_cons.mpr ⟨ms_p0, List.forall_mem_cons.mpr ⟨ms_k1, List.forall_mem_cons.mpr ⟨ms_k240, fun _ h => absurd h List.not_mem_nil⟩⟩⟩⟩⟩) ⟨rfl, by decide +kernel, by decide +kernel, (by decide +kernel : (parseMethodDescriptor "()Ljava/lang/String;").map (fun d => d.parameters.length) = some 0)⟩ (hm_recv hK I rfl c9) I ⟨rfl, rfl⟩ ⟨⟨Nat.le_of_ble_eq_true rfl, Nat.le_of_ble_eq_true rfl⟩, (rm_u hc ec).1, (rm_u hs es).1⟩ rfl (Nat.le_of_ble_eq_true rfl) d261_5 (fun vv h26 z27 H locs hR I9 => ?_)
  obtain ⟨v25, e1, hF⟩ := hR
  subst e1
  clear I
  have I := I9
  clear I9 c9 fs9
  have hc := (rm_u hc ec).2
  have hs := (rm_u hs es).2
  clear ec es
  refine W.eq (g2 := F0 m 8 ls [va_rf v25, .ref q21, .ref q21]) rfl ?_
  refine lv_aload_n hx hb d261_8 rfl (lv_at hl 0 rfl) ?_
  obtain ⟨fs9, v32, c9, e9, hF⟩ := hF
  refine va_get (D := D) (ci := 0) (v := va_rf v32) (C := kR0) (T := kT0) (N := 6) hx hb hts ku0 hown hK (hm_one I.1 c9) 0 rfl rfl 1 (by decide) (hts _ ms_k106) (fun _ h => h) e9 d261_9 ?_
  clear e9 c9 fs9
  obtain ⟨fs9, c9, hF⟩ := hF
  obtain ⟨c36, s37, c38, s39, ec, es, hF⟩ := hF
  refine ht_I (rest := [.ref q21]) (as := [va_rf v25, va_rf v32]) X hl (cw_MarkupReader_init l D dA s0 hW q21 v25 v32 c36 s37 h26 z27 _ hF) (List.forall_mem_cons.mpr ⟨ms_k315, List.forall_mem_cons.mpr ⟨ms_k316, List.forall_mem_cons.mpr ⟨ms_k15, List.forall_mem_cons.mpr ⟨ms_k317, fun _ h => absurd h List.not_mem_nil⟩⟩⟩⟩) rfl ⟨by decide +kernel, by decide +kernel, (by decide +kernel : (parseMethodDescriptor "(Ljava/lang/String;Ljava/lang/StringBuilder;)V").map (fun d => d.parameters.length) = some 2)⟩ I ⟨rfl, rfl⟩ ⟨⟨Nat.le_of_ble_eq_true rfl, Nat.le_of_ble_eq_true rfl⟩, (rm_u hc ec).1, (rm_u hs es).1⟩ rfl (Nat.le_of_ble_eq_true rfl) d261_12 (fun vv h34 z35 H locs hR I9 => ?_)
  obtain ⟨e1, hF⟩ := hR
  subst e1
  clear I
  have I := I9
  clear I9 c9 fs9
  have hc := (rm_u hc ec).2
  have hs := (rm_u hs es).2
  clear ec es
  refine W.eq (g2 := F0 m 15 ls [.ref q21]) rfl ?_
  refine lv_astore_n hx hb d261_15 rfl hl (by decide) rfl (fun ls hl => ?_)
  have hl : lv_has ls 3 [(1, .ref q21), (0, .ref y0)] := hl
  refine lv_aload_n hx hb d261_16 rfl (lv_at hl 0 rfl) ?_
  obtain ⟨fs9, c9, hF⟩ := hF
  obtain ⟨c43, s44, c45, s46, ec, es, hF⟩ := hF
  refine ht_V (C := "MarkupStore$MarkupReader") (rest := []) (as := []) X hl (cw_MarkupReader_readDocument l D dA s0 hW q21 c43 s44 h34 z35 _ hF) (List.forall_mem_cons.mpr ⟨ms_k380, List.forall_mem_cons.mpr ⟨ms_k381, List.forall_mem_cons.mpr ⟨ms_k382, List.forall_mem_cons.mpr ⟨ms_k15, List.forall_mem_cons.mpr ⟨ms_k383, fun _ h => absurd h List.not_mem_nil⟩⟩⟩⟩⟩) ⟨rfl, by decide +kernel, by decide +kernel, (by decide +kernel : (parseMethodDescriptor "()Z").map (fun d => d.parameters.length) = some 0)⟩ (hm_recv hK I rfl c9) I ⟨rfl, rfl⟩ ⟨⟨Nat.le_of_ble_eq_true rfl, Nat.le_of_ble_eq_true rfl⟩, (rm_u hc ec).1, (rm_u hs es).1⟩ rfl (Nat.le_of_ble_eq_true rfl) d261_17 (fun vv h41 z42 H locs hR I9 => ?_)
  obtain ⟨v40, e1, hF⟩ := hR
  subst e1
  clear I
  have I := I9
  clear I9 c9 fs9
  have hc := (rm_u hc ec).2
  have hs := (rm_u hs es).2
  clear ec es
  refine W.eq (g2 := F0 m 20 ls [.int v40]) rfl ?_
  refine lv_pop hx hb d261_20 rfl ?_
  refine lv_aload_n hx hb d261_21 rfl (lv_at hl 0 rfl) ?_
  obtain ⟨fs9, c9, hF⟩ := hF
  refine ht_U (C := "MarkupStore$MarkupReader") (x := ⟨"MarkupStore$MarkupReader", "failed", "()Z"⟩) (owner := "MarkupStore$TextReader") (rest := []) (as := []) X hl (cw_TextReader_failed6 l D dA s0 hE q21 h41 z42 _ hF) (List.forall_mem_cons.mpr ⟨ms_k704, List.forall_mem_cons.mpr ⟨ms_k585, List.forall_mem_cons.mpr ⟨ms_k587, List.forall_mem_cons.mpr ⟨ms_k588, List.forall_mem_cons.mpr ⟨ms_k14, List.forall_mem_cons.mpr ⟨ms_k589, fun _ h => absurd h List.not_mem_nil⟩⟩⟩⟩⟩⟩) rfl ⟨by decide +kernel, by decide +kernel, (by decide +kernel : (parseMethodDescriptor "()Z").map (fun d => d.parameters.length) = some 0)⟩ (hm_recv hK I rfl c9) I ⟨rfl, rfl⟩ ⟨⟨Nat.le_of_ble_eq_true rfl, Nat.le_of_ble_eq_true rfl⟩, rm_0 hc, rm_0 hs⟩ rfl (Nat.le_of_ble_eq_true rfl) d261_22 (fun vv h48 z49 H locs hR I9 => ?_)
  obtain ⟨v47, e1, hF⟩ := hR
  subst e1
  clear I
  have I := I9
  clear I9 c9 fs9
  refine W.eq (g2 := F0 m 25 ls [.int v47]) rfl ?_
  refine lv_if_eq hx hb d261_25 rfl (fun h9 => ?_) (fun h9 => ?_)
  · have hF := Eq.mp (if_pos h9) hF
    refine lv_aload_n hx hb d261_35 rfl (lv_at hl 0 rfl) ?_
    obtain ⟨fs9, v50, c9, e9, hF⟩ := hF
    refine va_get (D := D) (ci := 6) (v := va_rf v50) (C := kR6) (T := kT6) (N := 6) hx hb hts ku6 hown hK (hm_one I.1 c9) 0 rfl rfl 3 (by decide) (hts _ ms_k349) (fun _ h => h) e9 d261_36 ?_
    clear e9 c9 fs9
    obtain ⟨a51, e9, hF⟩ := hF
    refine W.eq (g2 := F0 m 39 ls [.ref a51]) (by rw [e9]; rfl) ?_
    clear e9
    obtain ⟨d9, k9, mo9, c9, hF⟩ := hF
    refine ht_V (C := "java/util/ArrayList") (rest := []) (as := []) X hl (c_ALsize l D dA s0 hE a51 d9 k9 mo9) (List.forall_mem_cons.mpr ⟨ms_k705, List.forall_mem_cons.mpr ⟨ms_k595, List.forall_mem_cons.mpr ⟨ms_k596, List.forall_mem_cons.mpr ⟨ms_k18, List.forall_mem_cons.mpr ⟨ms_k597, fun _ h => absurd h List.not_mem_nil⟩⟩⟩⟩⟩) ⟨rfl, by decide +kernel, by decide +kernel, (by decide +kernel : (parseMethodDescriptor "()I").map (fun d => d.parameters.length) = some 0)⟩ (hm_recv hK I rfl c9) I c9 ⟨⟨Nat.le_of_ble_eq_true rfl, Nat.le_of_ble_eq_true rfl⟩, rm_0 hc, rm_0 hs⟩ rfl (Nat.le_of_ble_eq_true rfl) d261_39 (fun vv h9 z7 H locs hR I9 => ?_)
    obtain ⟨e1, e2, e3⟩ := hR
    rw [e2, e3] at I9
    subst e1
    clear I
    have I := I9
    clear I9 e2 e3 h9 z7
    refine W.eq (g2 := F0 m 42 ls [.int (nI k9)]) rfl ?_
    generalize (nI k9) = v52 at hF ⊢
    refine lv_istore_n hx hb d261_42 rfl hl (by decide) rfl (fun ls hl => ?_)
    have hl : lv_has ls 3 [(2, .int v52), (1, .ref q21), (0, .ref y0)] := hl
    refine lv_aload_n hx hb d261_43 rfl (lv_at hl 1 rfl) ?_
    obtain ⟨fs9, c9, hF⟩ := hF
    refine ht_V (C := "MarkupStore$MarkupReader") (rest := []) (as := []) X hl (cw_MarkupReader_passesLimits l D dA s0 hE q21 h48 z49 _ hF) (List.forall_mem_cons.mpr ⟨ms_k706, List.forall_mem_cons.mpr ⟨ms_k707, List.forall_mem_cons.mpr ⟨ms_k708, List.forall_mem_cons.mpr ⟨ms_k15, List.forall_mem_cons.mpr ⟨ms_k709, fun _ h => absurd h List.not_mem_nil⟩⟩⟩⟩⟩) ⟨rfl, by decide +kernel, by decide +kernel, (by decide +kernel : (parseMethodDescriptor "()Z").map (fun d => d.parameters.length) = some 0)⟩ (hm_recv hK I rfl c9) I ⟨rfl, rfl⟩ ⟨⟨Nat.le_of_ble_eq_true rfl, Nat.le_of_ble_eq_true rfl⟩, rm_0 hc, rm_0 hs⟩ rfl (Nat.le_of_ble_eq_true rfl) d261_44 (fun vv h54 z55 H locs hR I9 => ?_)
    obtain ⟨v53, e1, hF⟩ := hR
    subst e1
    clear I
    have I := I9
    clear I9 c9 fs9
    refine W.eq (g2 := F0 m 47 ls [.int v53]) rfl ?_
    refine lv_if_ne hx hb d261_47 rfl (fun h9 => ?_) (fun h9 => ?_)
    · have hF := Eq.mp (if_neg h9) hF
      exact b67 ls c45 s46 _ _ h54 z55 _ _ hF hc hs (hl.sub [] rfl) I
    · have hF := Eq.mp (if_pos h9) hF
      refine lv_iload_n hx hb d261_50 rfl (lv_at hl 0 rfl) ?_
      refine lv_bipush (v := 40) hx hb d261_51 (by decide) ?_
      refine lv_icmp_gt hx hb d261_53 rfl (fun h9 => ?_) (fun h9 => ?_)
      · have hF := Eq.mp (if_pos h9) hF
        exact b67 ls c45 s46 _ _ h54 z55 _ _ hF hc hs (hl.sub [] rfl) I
      · have hF := Eq.mp (if_neg h9) hF
        refine lv_aload_n hx hb d261_56 rfl (lv_at hl 2 rfl) ?_
        obtain ⟨fs9, v56, c9, e9, hF⟩ := hF
        refine va_get (D := D) (ci := 0) (v := va_rf v56) (C := kR0) (T := kT0) (N := 6) hx hb hts ku0 hown hK (hm_one I.1 c9) 0 rfl rfl 2 (by decide) (hts _ ms_k107) (fun _ h => h) e9 d261_57 ?_
        clear e9 c9 fs9
        refine lv_iload_n hx hb d261_60 rfl (lv_at hl 0 rfl) ?_
        obtain ⟨a57, e9, hF⟩ := hF
        refine W.eq (g2 := F0 m 61 ls [.int v52, .ref a57]) (by rw [e9]; rfl) ?_
        clear e9
        obtain ⟨fs9, c9, hF⟩ := hF
        refine ht_V (C := "MarkupStore$Tree") (rest := []) (as := [.int v52]) X hl (cw_Tree_mayMake l D dA s0 hE a57 v52 h54 z55 _ hF) (List.forall_mem_cons.mpr ⟨ms_k711, List.forall_mem_cons.mpr ⟨ms_k712, List.forall_mem_cons.mpr ⟨ms_k713, List.forall_mem_cons.mpr ⟨ms_k6, List.forall_mem_cons.mpr ⟨ms_k714, fun _ h => absurd h List.not_mem_nil⟩⟩⟩⟩⟩) ⟨rfl, by decide +kernel, by decide +kernel, (by decide +kernel : (parseMethodDescriptor "(I)Z").map (fun d => d.parameters.length) = some 1)⟩ (hm_recv hK I rfl c9) I ⟨rfl, rfl⟩ ⟨⟨Nat.le_of_ble_eq_true rfl, Nat.le_of_ble_eq_true rfl⟩, rm_0 hc, rm_0 hs⟩ rfl (Nat.le_of_ble_eq_true rfl) d261_61 (fun vv h59 z60 H locs hR I9 => ?_)
        obtain ⟨v58, e1, hF⟩ := hR
        subst e1
        clear I
        have I := I9
        clear I9 c9 fs9
        refine W.eq (g2 := F0 m 64 ls [.int v58]) rfl ?_
        refine lv_if_ne hx hb d261_64 rfl (fun h9 => ?_) (fun h9 => ?_)
        · have hF := Eq.mp (if_neg h9) hF
          refine lv_aload_n hx hb d261_71 rfl (lv_at hl 2 rfl) ?_
          obtain ⟨fs9, v61, c9, e9, hF⟩ := hF
          refine va_get (D := D) (ci := 0) (v := va_rf v61) (C := kR0) (T := kT0) (N := 6) hx hb hts ku0 hown hK (hm_one I.1 c9) 0 rfl rfl 2 (by decide) (hts _ ms_k107) (fun _ h => h) e9 d261_72 ?_
          clear e9 c9 fs9
          obtain ⟨a62, e9, hF⟩ := hF
          refine W.eq (g2 := F0 m 75 ls [.ref a62]) (by rw [e9]; rfl) ?_
          clear e9
          obtain ⟨fs9, c9, hF⟩ := hF
          refine ht_V (C := "MarkupStore$Tree") (rest := []) (as := []) X hl (cw_Tree_clear l D dA s0 hE a62 h59 z60 _ hF) (List.forall_mem_cons.mpr ⟨ms_k715, List.forall_mem_cons.mpr ⟨ms_k716, List.forall_mem_cons.mpr ⟨ms_k717, List.forall_mem_cons.mpr ⟨ms_k6, List.forall_mem_cons.mpr ⟨ms_k718, fun _ h => absurd h List.not_mem_nil⟩⟩⟩⟩⟩) ⟨rfl, by decide +kernel, by decide +kernel, (by decide +kernel : (parseMethodDescriptor "()V").map (fun d => d.parameters.length) = some 0)⟩ (hm_recv hK I rfl c9) I ⟨rfl, rfl⟩ ⟨⟨Nat.le_of_ble_eq_true rfl, Nat.le_of_ble_eq_true rfl⟩, rm_0 hc, rm_0 hs⟩ rfl (Nat.le_of_ble_eq_true rfl) d261_75 (fun vv h64 z65 H locs hR I9 => ?_)
          obtain ⟨e1, hF⟩ := hR
          subst e1
          clear I
          have I := I9
          clear I9 c9 fs9
          refine W.eq (g2 := F0 m 78 ls []) rfl ?_
          refine lv_aload_n hx hb d261_78 rfl (lv_at hl 2 rfl) ?_
          obtain ⟨fs9, v66, c9, e9, hF⟩ := hF
          refine va_get (D := D) (ci := 0) (v := va_rf v66) (C := kR0) (T := kT0) (N := 6) hx hb hts ku0 hown hK (hm_one I.1 c9) 0 rfl rfl 2 (by decide) (hts _ ms_k107) (fun _ h => h) e9 d261_79 ?_
          clear e9 c9 fs9
          refine lv_aload_n hx hb d261_82 rfl (lv_at hl 1 rfl) ?_
          obtain ⟨fs9, v67, c9, e9, hF⟩ := hF
          refine va_get (D := D) (ci := 6) (v := va_rf v67) (C := kR6) (T := kT6) (N := 6) hx hb hts ku6 hown hK (hm_one I.1 c9) 0 rfl rfl 3 (by decide) (hts _ ms_k349) (fun _ h => h) e9 d261_83 ?_
          clear e9 c9 fs9
          refine lv_iconst (v := 0) hx hb d261_86 (by decide) ?_
          obtain ⟨a68, e9, hF⟩ := hF
          refine W.eq (g2 := F0 m 87 ls [.int 0, va_rf v67, .ref a68]) (by rw [e9]; rfl) ?_
          clear e9
          obtain ⟨fs9, c9, hF⟩ := hF
          refine ht_V (C := "MarkupStore$Tree") (rest := []) (as := [va_rf v67, .int 0]) X hl (cw_Tree_put l D dA s0 hE a68 v67 0 h64 z65 _ hF) (List.forall_mem_cons.mpr ⟨ms_k727, List.forall_mem_cons.mpr ⟨ms_k728, List.forall_mem_cons.mpr ⟨ms_k729, List.forall_mem_cons.mpr ⟨ms_k6, List.forall_mem_cons.mpr ⟨ms_k730, fun _ h => absurd h List.not_mem_nil⟩⟩⟩⟩⟩) ⟨rfl, by decide +kernel, by decide +kernel, (by decide +kernel : (parseMethodDescriptor "(Ljava/util/ArrayList;I)V").map (fun d => d.parameters.length) = some 2)⟩ (hm_recv hK I rfl c9) I ⟨rfl, rfl⟩ ⟨⟨Nat.le_of_ble_eq_true rfl, Nat.le_of_ble_eq_true rfl⟩, rm_0 hc, rm_0 hs⟩ rfl (Nat.le_of_ble_eq_true rfl) d261_87 (fun vv h70 z71 H locs hR I9 => ?_)
          obtain ⟨e1, hF⟩ := hR
          subst e1
          clear I
          have I := I9
          clear I9 c9 fs9
          refine W.eq (g2 := F0 m 90 ls []) rfl ?_
          refine lv_aload_n hx hb d261_90 rfl (lv_at hl 2 rfl) ?_
          obtain ⟨fs9, c9, hF⟩ := hF
          refine ht_V (C := "MarkupStore") (rest := []) (as := []) X hl (cw_Store_beginBatch l D dA s0 hE y0 h70 z71 _ hF) (List.forall_mem_cons.mpr ⟨ms_k733, List.forall_mem_cons.mpr ⟨ms_k735, List.forall_mem_cons.mpr ⟨ms_p15, List.forall_mem_cons.mpr ⟨ms_k1, List.forall_mem_cons.mpr ⟨ms_k736, fun _ h => absurd h List.not_mem_nil⟩⟩⟩⟩⟩) ⟨rfl, by decide +kernel, by decide +kernel, (by decide +kernel : (parseMethodDescriptor "()V").map (fun d => d.parameters.length) = some 0)⟩ (hm_recv hK I rfl c9) I ⟨rfl, rfl⟩ ⟨⟨Nat.le_of_ble_eq_true rfl, Nat.le_of_ble_eq_true rfl⟩, rm_0 hc, rm_0 hs⟩ rfl (Nat.le_of_ble_eq_true rfl) d261_91 (fun vv h73 z74 H locs hR I9 => ?_)
          obtain ⟨e1, hF⟩ := hR
          subst e1
          clear I
          have I := I9
          clear I9 c9 fs9
          refine W.eq (g2 := F0 m 94 ls []) rfl ?_
          refine lv_iload_n hx hb d261_94 rfl (lv_at hl 0 rfl) ?_
          exact ht_iret X d261_95 I (rm_r hc) (rm_r hs) ⟨_, rfl, hF⟩
        · have hF := Eq.mp (if_pos h9) hF
          exact b67 ls c45 s46 _ _ h59 z60 _ _ hF hc hs (hl.sub [] rfl) I
  · have hF := Eq.mp (if_neg h9) hF
    refine lv_iconst (v := (-1)) hx hb d261_28 (by decide) ?_
    refine lv_aload_n hx hb d261_29 rfl (lv_at hl 0 rfl) ?_
    obtain ⟨fs9, v75, c9, e9, hF⟩ := hF
    refine va_get (D := D) (ci := 6) (v := .int v75) (C := kR6) (T := kT6) (N := 6) hx hb hts ku6 hown hK (hm_one I.1 c9) 0 rfl rfl 2 (by decide) (hts _ ms_k363) (fun x9 h9 => u_same (hts _ ms_k364) x9 h9) e9 d261_30 ?_
    clear e9 c9 fs9
    refine lv_isub hx hb d261_33 ?_
    exact ht_iret X d261_34 I (rm_r hc) (rm_r hs) ⟨_, rfl, hF⟩

def w_Store_insert_68 (dA : Nat → ClassId) (y0 : Nat) (K : Int32 → hm_T → hz_T → Prop) (cr sr : Nat) (h : hm_T) (z : hz_T) : Prop := (K (-2000) h z)
def w_Store_insert_249 (dA : Nat → ClassId) (y0 : Nat) (K : Int32 → hm_T → hz_T → Prop) (x6 : Int32) (x9 : Option Nat) (cr sr : Nat) (h : hm_T) (z : hz_T) : Prop := (cg_c h 0 y0 (w_Store_putNew dA y0 x9 x6 (fun v88 h89 z90 => (K v88 h89 z90)) h z))
def w_Store_insert_216 (dA : Nat → ClassId) (y0 : Nat) (K : Int32 → hm_T → hz_T → Prop) (x6 : Int32) (x8 : Option Nat) (x9 : Option Nat) (cr sr : Nat) (h : hm_T) (z : hz_T) : Prop := (cg_d x9 (fun a84 => (cg_c h 6 a84 (w_MarkupReader_startsWithText dA a84 (fun v85 h86 z87 => (if v85 = 0 then (w_Store_insert_249 dA y0 K x6 x9 cr sr h86 z87) else (w_Store_isText dA x8 (fun v91 h92 z93 => (if v91 = 0 then (w_Store_insert_249 dA y0 K x6 x9 cr sr h92 z93) else (cg_d x9 (fun a94 => (cg_c h92 6 a94 (w_MarkupReader_firstText dA a94 (fun v95 h96 z97 => (cg_d x8 (fun a98 => (cg_R h96 8 7 a98 (fun v99 => (cg_c h96 0 y0 (cg_rm cr sr (fun c103 s104 c105 s106 => w_Store_joinNew dA y0 x8 v95 v99 c103 s104 (fun v100 h101 z102 => (K v100 h101 z102)) h96 z97)))))))) h92 z93)))))) h86 z87))) h z))))
def w_Store_insert_108 (dA : Nat → ClassId) (y0 : Nat) (K : Int32 → hm_T → hz_T → Prop) (x3 : Option Nat) (x5 : Option Nat) (w0 : Int32) (cr sr : Nat) (h : hm_T) (z : hz_T) : Prop := (cg_R h 0 2 y0 (fun v42 => (cg_d v42 (fun a43 => (cg_c h 1 a43 (w_Tree_childBefore dA a43 x5 w0 (fun v44 h45 z46 => (cg_R h45 0 2 y0 (fun v47 => (cg_d v47 (fun a48 => (cg_c h45 1 a48 (w_Tree_childFrom dA a48 x5 w0 (fun v49 h50 z51 => (cg_new h50 cr sr 6 6 [.null, .int 0, .int 0, .null, .null, .int 0] (fun q52 c54 s55 h53 => (cg_R h53 0 1 y0 (fun v56 => (cg_c h53 6 q52 (cg_rm c54 s55 (fun c60 s61 c62 s63 => w_MarkupReader_init dA q52 x3 v56 c60 s61 (fun h58 z59 => (cg_rm c62 s63 (fun c67 s68 c69 s70 => w_Node_labelBetween dA x5 v44 v49 c67 s68 (fun v64 h65 z66 => (cg_c h65 6 q52 (cg_rm c69 s70 (fun c74 s75 c76 s77 => w_MarkupReader_readOne dA q52 x5 v64 c74 s75 (fun v71 h72 z73 => (cg_c h72 6 q52 (w_TextReader_failed6 dA q52 (fun v78 h79 z80 => (if v78 = 0 then (cg_c h79 6 q52 (w_MarkupReader_startsWithText dA q52 (fun v81 h82 z83 => (if v81 = 0 then (w_Store_insert_216 dA y0 K w0 v49 (some q52) c76 s77 h82 z83) else (w_Store_isText dA v44 (fun v107 h108 z109 => (if v107 = 0 then (w_Store_insert_216 dA y0 K w0 v49 (some q52) c76 s77 h108 z109) else (cg_d v44 (fun a110 => (cg_R h108 8 7 a110 (fun v111 => (cg_c h108 6 q52 (w_MarkupReader_firstText dA q52 (fun v112 h113 z114 => (cg_c h113 0 y0 (cg_rm c76 s77 (fun c118 s119 c120 s121 => w_Store_joinNew dA y0 v44 v111 v112 c118 s119 (fun v115 h116 z117 => (K v115 h116 z117)) h113 z114)))) h108 z109)))))))) h82 z83))) h79 z80)) else (cg_I h79 6 2 q52 (fun v122 => (K ((-1) - v122) h79 z80))))) h72 z73))) h65 z66)))) h58 z59))) h53 z51)))))))) h45 z46))))))) h z))))))
def w_Store_insert_43 (dA : Nat → ClassId) (y0 : Nat) (K : Int32 → hm_T → hz_T → Prop) (x2 : Int32) (x3 : Option Nat) (x4 : Option Nat) (w0 : Option Nat) (cr sr : Nat) (h : hm_T) (z : hz_T) : Prop := (if x2 < 0 then (w_Store_insert_68 dA y0 K cr sr h z) else (if 3 < x2 then (w_Store_insert_68 dA y0 K cr sr h z) else (if w0 = none then (w_Store_insert_68 dA y0 K cr sr h z) else (cg_d w0 (fun a35 => (cg_I h 8 0 a35 (fun v36 => (if v36 = 1 then (if x2 = 0 then (cg_d x4 (fun a125 => (cg_I h 8 6 a125 (fun v126 => (w_Store_insert_108 dA y0 K x3 w0 v126 cr sr h z))))) else (if x2 = 2 then (cg_d x4 (fun a123 => (cg_I h 8 6 a123 (fun v124 => (w_Store_insert_108 dA y0 K x3 w0 (v124 + 1) cr sr h z))))) else (cg_R h 0 2 y0 (fun v37 => (cg_d v37 (fun a38 => (cg_c h 1 a38 (w_Tree_endOf dA a38 x4 (fun v39 h40 z41 => (w_Store_insert_108 dA y0 K x3 w0 v39 cr sr h40 z41)) h z)))))))) else (w_Store_insert_68 dA y0 K cr sr h z)))))))))
def w_Store_insert_33 (dA : Nat → ClassId) (y0 : Nat) (K : Int32 → hm_T → hz_T → Prop) (x2 : Int32) (x3 : Option Nat) (x4 : Option Nat) (cr sr : Nat) (h : hm_T) (z : hz_T) : Prop := (cg_d x4 (fun a33 => (cg_R h 8 1 a33 (fun v34 => (w_Store_insert_43 dA y0 K x2 x3 x4 v34 cr sr h z)))))
def w_Store_insert (dA : Nat → ClassId) (y0 : Nat) (y1 : Int32) (y2 : Int32) (rc rs : Nat) (K : Int32 → hm_T → hz_T → Prop) (h0 : hm_T) (z0 : hz_T) : Prop := (cg_c h0 0 y0 (cg_rm rc rs (fun c24 s25 c26 s27 => w_Store_useBuffer dA y0 c24 s25 (fun v21 h22 z23 => (cg_R h22 0 2 y0 (fun v28 => (cg_d v28 (fun a29 => (cg_c h22 1 a29 (w_Tree_find dA a29 y1 (fun v30 h31 z32 => (if v30 = none then (K (-1000) h31 z32) else (if y2 = 0 then (w_Store_insert_33 dA y0 K y2 v21 v30 c26 s27 h31 z32) else (if y2 = 1 then (w_Store_insert_33 dA y0 K y2 v21 v30 c26 s27 h31 z32) else (w_Store_insert_43 dA y0 K y2 v21 v30 v30 c26 s27 h31 z32))))) h22 z23))))))) h0 z0)))
set_option maxRecDepth 100000 in
set_option maxHeartbeats 8000000 in
theorem cw_Store_insert (l : Launch) (D : va_G) (dA : Nat → ClassId) (s0 : State) (hW : ms_EW D dA s0) (y0 : Nat) (y1 : Int32) (y2 : Int32) (rc rs : Nat) (h0 : hm_T) (z0 : hz_T) (K : Int32 → hm_T → hz_T → Prop) (hg : w_Store_insert dA y0 y1 y2 rc rs K h0 z0) : ht_C l D s0 yM262 bM262 10 (Option.some Jvm.ClassFile.FieldType.int) (195) (5956) rc rs [.ref y0, .int y1, .int y2] (fun h z => h = h0 ∧ z = z0) (fun h z vv h1 z1 => ∃ v, vv = some (.int v) ∧ K v h1 z1) := by
  have hE := hW.1
  refine ht_C.mk hE.1 (by decide) (Nat.le_of_ble_eq_true rfl) [(0, .ref y0), (1, .int y1), (2, .int y2)] rfl ?_
  intro p e s m below meth c ls h z X hin hpre I hl
  have hx := X.1
  have hb := X.2.1
  have hml := X.2.2.1
  have hown : s.vm.findClass "MarkupStore" = some m.cls := X.2.2.2.1
  have hts := X.2.2.2.2.2.2.1
  have hK := X.2.2.2.2.2.2.2.2.1
  rw [hpre.1, hpre.2] at I
  clear hpre
  have b68 : ∀ (ls : Array Slot) (cr sr cu su : Nat) (h : hm_T) (z : hz_T) (H : Heap) (locs : List Loc), w_Store_insert_68 dA y0 K cr sr h z → cu + cr ≤ rc → su + sr ≤ rs → lv_has ls 10 [] → hm_I D s0 s h z H locs → W p l e { frames := 195, cells := rc, slots := rs, locals := 5956 } s m ([.ref y0, .int y1, .int y2] : List Value).toArray below meth c H locs cu su (MQ below (ht_Q D s0 (fun vv h1 z1 => ∃ v, vv = some (.int v) ∧ K v h1 z1)) ([.ref y0, .int y1, .int y2] : List Value).toArray s rc rs (fun q => s0.heap.size ≤ q)) (F0 m 68 ls []) := by
    intro ls cr sr cu su h z H locs hF hc hs hl I
    unfold w_Store_insert_68 at hF
    refine lv_sipush (v := (-2000)) hx hb d262_68 (by decide) ?_
    exact ht_iret X d262_71 I (rm_r hc) (rm_r hs) ⟨_, rfl, hF⟩
  have b249 : ∀ (ls : Array Slot) (x6 : Int32) (x9 : Option Nat) (cr sr cu su : Nat) (h : hm_T) (z : hz_T) (H : Heap) (locs : List Loc), w_Store_insert_249 dA y0 K x6 x9 cr sr h z → cu + cr ≤ rc → su + sr ≤ rs → lv_has ls 10 [(0, .ref y0), (6, .int x6), (9, va_rf x9)] → hm_I D s0 s h z H locs → W p l e { frames := 195, cells := rc, slots := rs, locals := 5956 } s m ([.ref y0, .int y1, .int y2] : List Value).toArray below meth c H locs cu su (MQ below (ht_Q D s0 (fun vv h1 z1 => ∃ v, vv = some (.int v) ∧ K v h1 z1)) ([.ref y0, .int y1, .int y2] : List Value).toArray s rc rs (fun q => s0.heap.size ≤ q)) (F0 m 249 ls []) := by
    intro ls x6 x9 cr sr cu su h z H locs hF hc hs hl I
    unfold w_Store_insert_249 at hF
    refine lv_aload_n hx hb d262_249 rfl (lv_at hl 0 rfl) ?_
    refine lv_aloadR hx hb d262_250 (lv_at hl 2 rfl) ?_
    refine lv_iload hx hb d262_252 (lv_at hl 1 rfl) ?_
    obtain ⟨fs9, c9, hF⟩ := hF
    refine ht_V (C := "MarkupStore") (rest := []) (as := [va_rf x9, .int x6]) X hl (cw_Store_putNew l D dA s0 hE y0 x9 x6 h z _ hF) (List.forall_mem_cons.mpr ⟨ms_k841, List.forall_mem_cons.mpr ⟨ms_k843, List.forall_mem_cons.mpr ⟨ms_p18, List.forall_mem_cons.mpr ⟨ms_k1, List.forall_mem_cons.mpr ⟨ms_k844, fun _ h => absurd h List.not_mem_nil⟩⟩⟩⟩⟩) ⟨rfl, by decide +kernel, by decide +kernel, (by decide +kernel : (parseMethodDescriptor "(LMarkupStore$MarkupReader;I)I").map (fun d => d.parameters.length) = some 2)⟩ (hm_recv hK I rfl c9) I ⟨rfl, rfl⟩ ⟨⟨Nat.le_of_ble_eq_true rfl, Nat.le_of_ble_eq_true rfl⟩, rm_0 hc, rm_0 hs⟩ rfl (Nat.le_of_ble_eq_true rfl) d262_254 (fun vv h89 z90 H locs hR I9 => ?_)
    obtain ⟨v88, e1, hF⟩ := hR
    subst e1
    clear I
    have I := I9
    clear I9 c9 fs9
    refine W.eq (g2 := F0 m 257 ls [.int v88]) rfl ?_
    exact ht_iret X d262_257 I (rm_r hc) (rm_r hs) ⟨_, rfl, hF⟩
  have b216 : ∀ (ls : Array Slot) (x6 : Int32) (x8 : Option Nat) (x9 : Option Nat) (cr sr cu su : Nat) (h : hm_T) (z : hz_T) (H : Heap) (locs : List Loc), w_Store_insert_216 dA y0 K x6 x8 x9 cr sr h z → cu + cr ≤ rc → su + sr ≤ rs → lv_has ls 10 [(0, .ref y0), (6, .int x6), (8, va_rf x8), (9, va_rf x9)] → hm_I D s0 s h z H locs → W p l e { frames := 195, cells := rc, slots := rs, locals := 5956 } s m ([.ref y0, .int y1, .int y2] : List Value).toArray below meth c H locs cu su (MQ below (ht_Q D s0 (fun vv h1 z1 => ∃ v, vv = some (.int v) ∧ K v h1 z1)) ([.ref y0, .int y1, .int y2] : List Value).toArray s rc rs (fun q => s0.heap.size ≤ q)) (F0 m 216 ls []) := by
    intro ls x6 x8 x9 cr sr cu su h z H locs hF hc hs hl I
    unfold w_Store_insert_216 at hF
    refine lv_aloadR hx hb d262_216 (lv_at hl 3 rfl) ?_
    obtain ⟨a84, e9, hF⟩ := hF
    refine W.eq (g2 := F0 m 218 ls [.ref a84]) (by rw [e9]; rfl) ?_
    clear e9
    obtain ⟨fs9, c9, hF⟩ := hF
    refine ht_V (C := "MarkupStore$MarkupReader") (rest := []) (as := []) X hl (cw_MarkupReader_startsWithText l D dA s0 hE a84 h z _ hF) (List.forall_mem_cons.mpr ⟨ms_k781, List.forall_mem_cons.mpr ⟨ms_k782, List.forall_mem_cons.mpr ⟨ms_k783, List.forall_mem_cons.mpr ⟨ms_k15, List.forall_mem_cons.mpr ⟨ms_k784, fun _ h => absurd h List.not_mem_nil⟩⟩⟩⟩⟩) ⟨rfl, by decide +kernel, by decide +kernel, (by decide +kernel : (parseMethodDescriptor "()Z").map (fun d => d.parameters.length) = some 0)⟩ (hm_recv hK I rfl c9) I ⟨rfl, rfl⟩ ⟨⟨Nat.le_of_ble_eq_true rfl, Nat.le_of_ble_eq_true rfl⟩, rm_0 hc, rm_0 hs⟩ rfl (Nat.le_of_ble_eq_true rfl) d262_218 (fun vv h86 z87 H locs hR I9 => ?_)
    obtain ⟨v85, e1, hF⟩ := hR
    subst e1
    clear I
    have I := I9
    clear I9 c9 fs9
    refine W.eq (g2 := F0 m 221 ls [.int v85]) rfl ?_
    refine lv_if_eq hx hb d262_221 rfl (fun h9 => ?_) (fun h9 => ?_)
    · have hF := Eq.mp (if_pos h9) hF
      exact b249 ls x6 x9 cr sr _ _ h86 z87 _ _ hF hc hs (hl.sub [0, 1, 3] rfl) I
    · have hF := Eq.mp (if_neg h9) hF
      refine lv_aloadR hx hb d262_224 (lv_at hl 2 rfl) ?_
      refine ht_S (rest := []) (as := [va_rf x8]) X hl (cw_Store_isText l D dA s0 hE x8 h86 z87 _ hF) (List.forall_mem_cons.mpr ⟨ms_k792, List.forall_mem_cons.mpr ⟨ms_k790, List.forall_mem_cons.mpr ⟨ms_k1, List.forall_mem_cons.mpr ⟨ms_k791, fun _ h => absurd h List.not_mem_nil⟩⟩⟩⟩) ⟨by decide +kernel, by decide +kernel, (by decide +kernel : (parseMethodDescriptor "(LMarkupStore$Node;)Z").map (fun d => d.parameters.length) = some 1)⟩ I ⟨rfl, rfl⟩ ⟨⟨Nat.le_of_ble_eq_true rfl, Nat.le_of_ble_eq_true rfl⟩, rm_0 hc, rm_0 hs⟩ rfl (Nat.le_of_ble_eq_true rfl) d262_226 (fun vv h92 z93 H locs hR I9 => ?_)
      obtain ⟨v91, e1, hF⟩ := hR
      subst e1
      clear I
      have I := I9
      clear I9
      refine W.eq (g2 := F0 m 229 ls [.int v91]) rfl ?_
      refine lv_if_eq hx hb d262_229 rfl (fun h9 => ?_) (fun h9 => ?_)
      · have hF := Eq.mp (if_pos h9) hF
        exact b249 ls x6 x9 cr sr _ _ h92 z93 _ _ hF hc hs (hl.sub [0, 1, 3] rfl) I
      · have hF := Eq.mp (if_neg h9) hF
        refine lv_aload_n hx hb d262_232 rfl (lv_at hl 0 rfl) ?_
        refine lv_aloadR hx hb d262_233 (lv_at hl 2 rfl) ?_
        refine lv_aloadR hx hb d262_235 (lv_at hl 3 rfl) ?_
        obtain ⟨a94, e9, hF⟩ := hF
        refine W.eq (g2 := F0 m 237 ls [.ref a94, va_rf x8, .ref y0]) (by rw [e9]; rfl) ?_
        clear e9
        obtain ⟨fs9, c9, hF⟩ := hF
        refine ht_V (C := "MarkupStore$MarkupReader") (rest := [va_rf x8, .ref y0]) (as := []) X hl (cw_MarkupReader_firstText l D dA s0 hE a94 h92 z93 _ hF) (List.forall_mem_cons.mpr ⟨ms_k793, List.forall_mem_cons.mpr ⟨ms_k794, List.forall_mem_cons.mpr ⟨ms_k795, List.forall_mem_cons.mpr ⟨ms_k15, List.forall_mem_cons.mpr ⟨ms_k796, fun _ h => absurd h List.not_mem_nil⟩⟩⟩⟩⟩) ⟨rfl, by decide +kernel, by decide +kernel, (by decide +kernel : (parseMethodDescriptor "()Ljava/lang/String;").map (fun d => d.parameters.length) = some 0)⟩ (hm_recv hK I rfl c9) I ⟨rfl, rfl⟩ ⟨⟨Nat.le_of_ble_eq_true rfl, Nat.le_of_ble_eq_true rfl⟩, rm_0 hc, rm_0 hs⟩ rfl (by simp [cat_rf, cat_int, cat_ref, cat_null, cat_long]) d262_237 (fun vv h96 z97 H locs hR I9 => ?_)
        obtain ⟨v95, e1, hF⟩ := hR
        subst e1
        clear I
        have I := I9
        clear I9 c9 fs9
        refine W.eq (g2 := F0 m 240 ls [va_rf v95, va_rf x8, .ref y0]) rfl ?_
        refine lv_aloadR hx hb d262_240 (lv_at hl 2 rfl) ?_
        obtain ⟨a98, e9, hF⟩ := hF
        refine W.eq (g2 := F0 m 242 ls [.ref a98, va_rf v95, va_rf x8, .ref y0]) (by rw [e9]; rfl) ?_
        clear e9
        obtain ⟨fs9, v99, c9, e9, hF⟩ := hF
        refine va_get (D := D) (ci := 8) (v := va_rf v99) (C := kR8) (T := kT8) (N := 9) hx hb hts ku8 hown hK (hm_one I.1 c9) 0 rfl rfl 7 (by decide) (hts _ ms_k470) (fun _ h => h) e9 d262_242 ?_
        clear e9 c9 fs9
        obtain ⟨fs9, c9, hF⟩ := hF
        obtain ⟨c103, s104, c105, s106, ec, es, hF⟩ := hF
        refine ht_V (C := "MarkupStore") (rest := []) (as := [va_rf x8, va_rf v95, va_rf v99]) X hl (cw_Store_joinNew l D dA s0 hW y0 x8 v95 v99 c103 s104 h96 z97 _ hF) (List.forall_mem_cons.mpr ⟨ms_k798, List.forall_mem_cons.mpr ⟨ms_k800, List.forall_mem_cons.mpr ⟨ms_p16, List.forall_mem_cons.mpr ⟨ms_k1, List.forall_mem_cons.mpr ⟨ms_k801, fun _ h => absurd h List.not_mem_nil⟩⟩⟩⟩⟩) ⟨rfl, by decide +kernel, by decide +kernel, (by decide +kernel : (parseMethodDescriptor "(LMarkupStore$Node;Ljava/lang/String;Ljava/lang/String;)I").map (fun d => d.parameters.length) = some 3)⟩ (hm_recv hK I rfl c9) I ⟨rfl, rfl⟩ ⟨⟨Nat.le_of_ble_eq_true rfl, Nat.le_of_ble_eq_true rfl⟩, (rm_u hc ec).1, (rm_u hs es).1⟩ rfl (Nat.le_of_ble_eq_true rfl) d262_245 (fun vv h101 z102 H locs hR I9 => ?_)
        obtain ⟨v100, e1, hF⟩ := hR
        subst e1
        clear I
        have I := I9
        clear I9 c9 fs9
        have hc := (rm_u hc ec).2
        have hs := (rm_u hs es).2
        clear ec es
        refine W.eq (g2 := F0 m 248 ls [.int v100]) rfl ?_
        exact ht_iret X d262_248 I (rm_r hc) (rm_r hs) ⟨_, rfl, hF⟩
  have b108 : ∀ (ls : Array Slot) (x3 : Option Nat) (x5 : Option Nat) (w0 : Int32) (cr sr cu su : Nat) (h : hm_T) (z : hz_T) (H : Heap) (locs : List Loc), w_Store_insert_108 dA y0 K x3 x5 w0 cr sr h z → cu + cr ≤ rc → su + sr ≤ rs → lv_has ls 10 [(0, .ref y0), (3, va_rf x3), (5, va_rf x5)] → hm_I D s0 s h z H locs → W p l e { frames := 195, cells := rc, slots := rs, locals := 5956 } s m ([.ref y0, .int y1, .int y2] : List Value).toArray below meth c H locs cu su (MQ below (ht_Q D s0 (fun vv h1 z1 => ∃ v, vv = some (.int v) ∧ K v h1 z1)) ([.ref y0, .int y1, .int y2] : List Value).toArray s rc rs (fun q => s0.heap.size ≤ q)) (F0 m 108 ls [.int w0]) := by
    intro ls x3 x5 w0 cr sr cu su h z H locs hF hc hs hl I
    unfold w_Store_insert_108 at hF
    refine lv_istore (i := 6) hx hb d262_108 hl (by decide) (show _ = [(6, .int w0), (0, .ref y0), (3, va_rf x3), (5, va_rf x5)] by simp [cat_rf, cat_int, cat_ref, cat_null, cat_long]) (fun ls hl => ?_)
    have hl : lv_has ls 10 [(6, .int w0), (0, .ref y0), (3, va_rf x3), (5, va_rf x5)] := hl
    refine lv_aload_n hx hb d262_110 rfl (lv_at hl 1 rfl) ?_
    obtain ⟨fs9, v42, c9, e9, hF⟩ := hF
    refine va_get (D := D) (ci := 0) (v := va_rf v42) (C := kR0) (T := kT0) (N := 6) hx hb hts ku0 hown hK (hm_one I.1 c9) 0 rfl rfl 2 (by decide) (hts _ ms_k107) (fun _ h => h) e9 d262_111 ?_
    clear e9 c9 fs9
    refine lv_aloadR hx hb d262_114 (lv_at hl 3 rfl) ?_
    refine lv_iload hx hb d262_116 (lv_at hl 0 rfl) ?_
    obtain ⟨a43, e9, hF⟩ := hF
    refine W.eq (g2 := F0 m 118 ls [.int w0, va_rf x5, .ref a43]) (by rw [e9]; rfl) ?_
    clear e9
    obtain ⟨fs9, c9, hF⟩ := hF
    refine ht_V (C := "MarkupStore$Tree") (rest := []) (as := [va_rf x5, .int w0]) X hl (cw_Tree_childBefore l D dA s0 hE a43 x5 w0 h z _ hF) (List.forall_mem_cons.mpr ⟨ms_k753, List.forall_mem_cons.mpr ⟨ms_k754, List.forall_mem_cons.mpr ⟨ms_k755, List.forall_mem_cons.mpr ⟨ms_k6, List.forall_mem_cons.mpr ⟨ms_k756, fun _ h => absurd h List.not_mem_nil⟩⟩⟩⟩⟩) ⟨rfl, by decide +kernel, by decide +kernel, (by decide +kernel : (parseMethodDescriptor "(LMarkupStore$Node;I)LMarkupStore$Node;").map (fun d => d.parameters.length) = some 2)⟩ (hm_recv hK I rfl c9) I ⟨rfl, rfl⟩ ⟨⟨Nat.le_of_ble_eq_true rfl, Nat.le_of_ble_eq_true rfl⟩, rm_0 hc, rm_0 hs⟩ rfl (Nat.le_of_ble_eq_true rfl) d262_118 (fun vv h45 z46 H locs hR I9 => ?_)
    obtain ⟨v44, e1, hF⟩ := hR
    subst e1
    clear I
    have I := I9
    clear I9 c9 fs9
    refine W.eq (g2 := F0 m 121 ls [va_rf v44]) rfl ?_
    refine lv_astoreR hx hb d262_121 hl (by decide) rfl (fun ls hl => ?_)
    have hl : lv_has ls 10 [(7, va_rf v44), (6, .int w0), (0, .ref y0), (3, va_rf x3), (5, va_rf x5)] := hl
    refine lv_aload_n hx hb d262_123 rfl (lv_at hl 2 rfl) ?_
    obtain ⟨fs9, v47, c9, e9, hF⟩ := hF
    refine va_get (D := D) (ci := 0) (v := va_rf v47) (C := kR0) (T := kT0) (N := 6) hx hb hts ku0 hown hK (hm_one I.1 c9) 0 rfl rfl 2 (by decide) (hts _ ms_k107) (fun _ h => h) e9 d262_124 ?_
    clear e9 c9 fs9
    refine lv_aloadR hx hb d262_127 (lv_at hl 4 rfl) ?_
    refine lv_iload hx hb d262_129 (lv_at hl 1 rfl) ?_
    obtain ⟨a48, e9, hF⟩ := hF
    refine W.eq (g2 := F0 m 131 ls [.int w0, va_rf x5, .ref a48]) (by rw [e9]; rfl) ?_
    clear e9
    obtain ⟨fs9, c9, hF⟩ := hF
    refine ht_V (C := "MarkupStore$Tree") (rest := []) (as := [va_rf x5, .int w0]) X hl (cw_Tree_childFrom l D dA s0 hE a48 x5 w0 h45 z46 _ hF) (List.forall_mem_cons.mpr ⟨ms_k757, List.forall_mem_cons.mpr ⟨ms_k758, List.forall_mem_cons.mpr ⟨ms_k759, List.forall_mem_cons.mpr ⟨ms_k6, List.forall_mem_cons.mpr ⟨ms_k760, fun _ h => absurd h List.not_mem_nil⟩⟩⟩⟩⟩) ⟨rfl, by decide +kernel, by decide +kernel, (by decide +kernel : (parseMethodDescriptor "(LMarkupStore$Node;I)LMarkupStore$Node;").map (fun d => d.parameters.length) = some 2)⟩ (hm_recv hK I rfl c9) I ⟨rfl, rfl⟩ ⟨⟨Nat.le_of_ble_eq_true rfl, Nat.le_of_ble_eq_true rfl⟩, rm_0 hc, rm_0 hs⟩ rfl (Nat.le_of_ble_eq_true rfl) d262_131 (fun vv h50 z51 H locs hR I9 => ?_)
    obtain ⟨v49, e1, hF⟩ := hR
    subst e1
    clear I
    have I := I9
    clear I9 c9 fs9
    refine W.eq (g2 := F0 m 134 ls [va_rf v49]) rfl ?_
    refine lv_astoreR (i := 8) hx hb d262_134 hl (by decide) (show _ = [(8, va_rf v49), (7, va_rf v44), (6, .int w0), (0, .ref y0), (3, va_rf x3), (5, va_rf x5)] by simp [cat_rf, cat_int, cat_ref, cat_null, cat_long]) (fun ls hl => ?_)
    have hl : lv_has ls 10 [(8, va_rf v49), (7, va_rf v44), (6, .int w0), (0, .ref y0), (3, va_rf x3), (5, va_rf x5)] := hl
    obtain ⟨c54, s55, ec, es, hF⟩ := hF
    refine hm_mk (ci := 6) (fs := [.null, .int 0, .int 0, .null, .null, .int 0]) (C := kR6) (T := kT6) (N := 6) X I ku6 kt6 kp6 (List.forall_mem_cons.mpr ⟨ms_k235, List.forall_mem_cons.mpr ⟨ms_k236, List.forall_mem_cons.mpr ⟨ms_k15, fun _ h => absurd h List.not_mem_nil⟩⟩⟩) rfl kz6 (rm_u hc ec).1 (rm_u hs es).1 d262_136 (fun q52 h53 H v9 e9 f9 I => ?_)
    have hF := hF q52 v9
    rw [← hm_eqU e9 f9] at hF
    clear e9 f9 v9
    have hc := (rm_u hc ec).2
    have hs := (rm_u hs es).2
    clear ec es
    refine lv_dup hx hb d262_139 rfl ?_
    refine lv_aload_nR hx hb d262_140 rfl (lv_at hl 4 rfl) ?_
    refine lv_aload_n hx hb d262_141 rfl (lv_at hl 3 rfl) ?_
    obtain ⟨fs9, v56, c9, e9, hF⟩ := hF
    refine va_get (D := D) (ci := 0) (v := va_rf v56) (C := kR0) (T := kT0) (N := 6) hx hb hts ku0 hown hK (hm_one I.1 c9) 0 rfl rfl 1 (by decide) (hts _ ms_k106) (fun _ h => h) e9 d262_142 ?_
    clear e9 c9 fs9
    obtain ⟨fs9, c9, hF⟩ := hF
    obtain ⟨c60, s61, c62, s63, ec, es, hF⟩ := hF
    refine ht_I (rest := [.ref q52]) (as := [va_rf x3, va_rf v56]) X hl (cw_MarkupReader_init l D dA s0 hW q52 x3 v56 c60 s61 h53 z51 _ hF) (List.forall_mem_cons.mpr ⟨ms_k315, List.forall_mem_cons.mpr ⟨ms_k316, List.forall_mem_cons.mpr ⟨ms_k15, List.forall_mem_cons.mpr ⟨ms_k317, fun _ h => absurd h List.not_mem_nil⟩⟩⟩⟩) rfl ⟨by decide +kernel, by decide +kernel, (by decide +kernel : (parseMethodDescriptor "(Ljava/lang/String;Ljava/lang/StringBuilder;)V").map (fun d => d.parameters.length) = some 2)⟩ I ⟨rfl, rfl⟩ ⟨⟨Nat.le_of_ble_eq_true rfl, Nat.le_of_ble_eq_true rfl⟩, (rm_u hc ec).1, (rm_u hs es).1⟩ rfl (Nat.le_of_ble_eq_true rfl) d262_145 (fun vv h58 z59 H locs hR I9 => ?_)
    obtain ⟨e1, hF⟩ := hR
    subst e1
    clear I
    have I := I9
    clear I9 c9 fs9
    have hc := (rm_u hc ec).2
    have hs := (rm_u hs es).2
    clear ec es
    refine W.eq (g2 := F0 m 148 ls [.ref q52]) rfl ?_
    refine lv_astore (i := 9) hx hb d262_148 hl (by decide) (show _ = [(9, .ref q52), (8, va_rf v49), (7, va_rf v44), (6, .int w0), (0, .ref y0), (3, va_rf x3), (5, va_rf x5)] by simp [cat_rf, cat_int, cat_ref, cat_null, cat_long]) (fun ls hl => ?_)
    have hl : lv_has ls 10 [(9, .ref q52), (8, va_rf v49), (7, va_rf v44), (6, .int w0), (0, .ref y0), (3, va_rf x3), (5, va_rf x5)] := hl
    refine lv_aload hx hb d262_150 (lv_at hl 0 rfl) ?_
    refine lv_aloadR hx hb d262_152 (lv_at hl 6 rfl) ?_
    refine lv_aloadR hx hb d262_154 (lv_at hl 6 rfl) ?_
    refine lv_aloadR hx hb d262_156 (lv_at hl 2 rfl) ?_
    refine lv_aloadR hx hb d262_158 (lv_at hl 1 rfl) ?_
    obtain ⟨c67, s68, c69, s70, ec, es, hF⟩ := hF
    refine ht_S (rest := [va_rf x5, .ref q52]) (as := [va_rf x5, va_rf v44, va_rf v49]) X hl (cw_Node_labelBetween l D dA s0 hW x5 v44 v49 c67 s68 h58 z59 _ hF) (List.forall_mem_cons.mpr ⟨ms_k761, List.forall_mem_cons.mpr ⟨ms_k762, List.forall_mem_cons.mpr ⟨ms_k19, List.forall_mem_cons.mpr ⟨ms_k763, fun _ h => absurd h List.not_mem_nil⟩⟩⟩⟩) ⟨by decide +kernel, by decide +kernel, (by decide +kernel : (parseMethodDescriptor "(LMarkupStore$Node;LMarkupStore$Node;LMarkupStore$Node;)[I").map (fun d => d.parameters.length) = some 3)⟩ I ⟨rfl, rfl⟩ ⟨⟨Nat.le_of_ble_eq_true rfl, Nat.le_of_ble_eq_true rfl⟩, (rm_u hc ec).1, (rm_u hs es).1⟩ rfl (by simp [cat_rf, cat_int, cat_ref, cat_null, cat_long]) d262_160 (fun vv h65 z66 H locs hR I9 => ?_)
    obtain ⟨v64, e1, hF⟩ := hR
    subst e1
    clear I
    have I := I9
    clear I9
    have hc := (rm_u hc ec).2
    have hs := (rm_u hs es).2
    clear ec es
    refine W.eq (g2 := F0 m 163 ls [va_rf v64, va_rf x5, .ref q52]) rfl ?_
    obtain ⟨fs9, c9, hF⟩ := hF
    obtain ⟨c74, s75, c76, s77, ec, es, hF⟩ := hF
    refine ht_V (C := "MarkupStore$MarkupReader") (rest := []) (as := [va_rf x5, va_rf v64]) X hl (cw_MarkupReader_readOne l D dA s0 hW q52 x5 v64 c74 s75 h65 z66 _ hF) (List.forall_mem_cons.mpr ⟨ms_k773, List.forall_mem_cons.mpr ⟨ms_k774, List.forall_mem_cons.mpr ⟨ms_k775, List.forall_mem_cons.mpr ⟨ms_k15, List.forall_mem_cons.mpr ⟨ms_k776, fun _ h => absurd h List.not_mem_nil⟩⟩⟩⟩⟩) ⟨rfl, by decide +kernel, by decide +kernel, (by decide +kernel : (parseMethodDescriptor "(LMarkupStore$Node;[I)Z").map (fun d => d.parameters.length) = some 2)⟩ (hm_recv hK I rfl c9) I ⟨rfl, rfl⟩ ⟨⟨Nat.le_of_ble_eq_true rfl, Nat.le_of_ble_eq_true rfl⟩, (rm_u hc ec).1, (rm_u hs es).1⟩ rfl (Nat.le_of_ble_eq_true rfl) d262_163 (fun vv h72 z73 H locs hR I9 => ?_)
    obtain ⟨v71, e1, hF⟩ := hR
    subst e1
    clear I
    have I := I9
    clear I9 c9 fs9
    have hc := (rm_u hc ec).2
    have hs := (rm_u hs es).2
    clear ec es
    refine W.eq (g2 := F0 m 166 ls [.int v71]) rfl ?_
    refine lv_pop hx hb d262_166 rfl ?_
    refine lv_aload hx hb d262_167 (lv_at hl 0 rfl) ?_
    obtain ⟨fs9, c9, hF⟩ := hF
    refine ht_U (C := "MarkupStore$MarkupReader") (x := ⟨"MarkupStore$MarkupReader", "failed", "()Z"⟩) (owner := "MarkupStore$TextReader") (rest := []) (as := []) X hl (cw_TextReader_failed6 l D dA s0 hE q52 h72 z73 _ hF) (List.forall_mem_cons.mpr ⟨ms_k704, List.forall_mem_cons.mpr ⟨ms_k585, List.forall_mem_cons.mpr ⟨ms_k587, List.forall_mem_cons.mpr ⟨ms_k588, List.forall_mem_cons.mpr ⟨ms_k14, List.forall_mem_cons.mpr ⟨ms_k589, fun _ h => absurd h List.not_mem_nil⟩⟩⟩⟩⟩⟩) rfl ⟨by decide +kernel, by decide +kernel, (by decide +kernel : (parseMethodDescriptor "()Z").map (fun d => d.parameters.length) = some 0)⟩ (hm_recv hK I rfl c9) I ⟨rfl, rfl⟩ ⟨⟨Nat.le_of_ble_eq_true rfl, Nat.le_of_ble_eq_true rfl⟩, rm_0 hc, rm_0 hs⟩ rfl (Nat.le_of_ble_eq_true rfl) d262_169 (fun vv h79 z80 H locs hR I9 => ?_)
    obtain ⟨v78, e1, hF⟩ := hR
    subst e1
    clear I
    have I := I9
    clear I9 c9 fs9
    refine W.eq (g2 := F0 m 172 ls [.int v78]) rfl ?_
    refine lv_if_eq hx hb d262_172 rfl (fun h9 => ?_) (fun h9 => ?_)
    · have hF := Eq.mp (if_pos h9) hF
      refine lv_aload hx hb d262_183 (lv_at hl 0 rfl) ?_
      obtain ⟨fs9, c9, hF⟩ := hF
      refine ht_V (C := "MarkupStore$MarkupReader") (rest := []) (as := []) X hl (cw_MarkupReader_startsWithText l D dA s0 hE q52 h79 z80 _ hF) (List.forall_mem_cons.mpr ⟨ms_k781, List.forall_mem_cons.mpr ⟨ms_k782, List.forall_mem_cons.mpr ⟨ms_k783, List.forall_mem_cons.mpr ⟨ms_k15, List.forall_mem_cons.mpr ⟨ms_k784, fun _ h => absurd h List.not_mem_nil⟩⟩⟩⟩⟩) ⟨rfl, by decide +kernel, by decide +kernel, (by decide +kernel : (parseMethodDescriptor "()Z").map (fun d => d.parameters.length) = some 0)⟩ (hm_recv hK I rfl c9) I ⟨rfl, rfl⟩ ⟨⟨Nat.le_of_ble_eq_true rfl, Nat.le_of_ble_eq_true rfl⟩, rm_0 hc, rm_0 hs⟩ rfl (Nat.le_of_ble_eq_true rfl) d262_185 (fun vv h82 z83 H locs hR I9 => ?_)
      obtain ⟨v81, e1, hF⟩ := hR
      subst e1
      clear I
      have I := I9
      clear I9 c9 fs9
      refine W.eq (g2 := F0 m 188 ls [.int v81]) rfl ?_
      refine lv_if_eq hx hb d262_188 rfl (fun h9 => ?_) (fun h9 => ?_)
      · have hF := Eq.mp (if_pos h9) hF
        exact b216 ls w0 v49 (some q52) c76 s77 _ _ h82 z83 _ _ hF hc hs (hl.sub [4, 3, 1, 0] rfl) I
      · have hF := Eq.mp (if_neg h9) hF
        refine lv_aloadR hx hb d262_191 (lv_at hl 2 rfl) ?_
        refine ht_S (rest := []) (as := [va_rf v44]) X hl (cw_Store_isText l D dA s0 hE v44 h82 z83 _ hF) (List.forall_mem_cons.mpr ⟨ms_k792, List.forall_mem_cons.mpr ⟨ms_k790, List.forall_mem_cons.mpr ⟨ms_k1, List.forall_mem_cons.mpr ⟨ms_k791, fun _ h => absurd h List.not_mem_nil⟩⟩⟩⟩) ⟨by decide +kernel, by decide +kernel, (by decide +kernel : (parseMethodDescriptor "(LMarkupStore$Node;)Z").map (fun d => d.parameters.length) = some 1)⟩ I ⟨rfl, rfl⟩ ⟨⟨Nat.le_of_ble_eq_true rfl, Nat.le_of_ble_eq_true rfl⟩, rm_0 hc, rm_0 hs⟩ rfl (Nat.le_of_ble_eq_true rfl) d262_193 (fun vv h108 z109 H locs hR I9 => ?_)
        obtain ⟨v107, e1, hF⟩ := hR
        subst e1
        clear I
        have I := I9
        clear I9
        refine W.eq (g2 := F0 m 196 ls [.int v107]) rfl ?_
        refine lv_if_eq hx hb d262_196 rfl (fun h9 => ?_) (fun h9 => ?_)
        · have hF := Eq.mp (if_pos h9) hF
          exact b216 ls w0 v49 (some q52) c76 s77 _ _ h108 z109 _ _ hF hc hs (hl.sub [4, 3, 1, 0] rfl) I
        · have hF := Eq.mp (if_neg h9) hF
          refine lv_aload_n hx hb d262_199 rfl (lv_at hl 4 rfl) ?_
          refine lv_aloadR hx hb d262_200 (lv_at hl 2 rfl) ?_
          refine lv_aloadR hx hb d262_202 (lv_at hl 2 rfl) ?_
          obtain ⟨a110, e9, hF⟩ := hF
          refine W.eq (g2 := F0 m 204 ls [.ref a110, va_rf v44, .ref y0]) (by rw [e9]; rfl) ?_
          clear e9
          obtain ⟨fs9, v111, c9, e9, hF⟩ := hF
          refine va_get (D := D) (ci := 8) (v := va_rf v111) (C := kR8) (T := kT8) (N := 9) hx hb hts ku8 hown hK (hm_one I.1 c9) 0 rfl rfl 7 (by decide) (hts _ ms_k470) (fun _ h => h) e9 d262_204 ?_
          clear e9 c9 fs9
          refine lv_aload hx hb d262_207 (lv_at hl 0 rfl) ?_
          obtain ⟨fs9, c9, hF⟩ := hF
          refine ht_V (C := "MarkupStore$MarkupReader") (rest := [va_rf v111, va_rf v44, .ref y0]) (as := []) X hl (cw_MarkupReader_firstText l D dA s0 hE q52 h108 z109 _ hF) (List.forall_mem_cons.mpr ⟨ms_k793, List.forall_mem_cons.mpr ⟨ms_k794, List.forall_mem_cons.mpr ⟨ms_k795, List.forall_mem_cons.mpr ⟨ms_k15, List.forall_mem_cons.mpr ⟨ms_k796, fun _ h => absurd h List.not_mem_nil⟩⟩⟩⟩⟩) ⟨rfl, by decide +kernel, by decide +kernel, (by decide +kernel : (parseMethodDescriptor "()Ljava/lang/String;").map (fun d => d.parameters.length) = some 0)⟩ (hm_recv hK I rfl c9) I ⟨rfl, rfl⟩ ⟨⟨Nat.le_of_ble_eq_true rfl, Nat.le_of_ble_eq_true rfl⟩, rm_0 hc, rm_0 hs⟩ rfl (by simp [cat_rf, cat_int, cat_ref, cat_null, cat_long]) d262_209 (fun vv h113 z114 H locs hR I9 => ?_)
          obtain ⟨v112, e1, hF⟩ := hR
          subst e1
          clear I
          have I := I9
          clear I9 c9 fs9
          refine W.eq (g2 := F0 m 212 ls [va_rf v112, va_rf v111, va_rf v44, .ref y0]) rfl ?_
          obtain ⟨fs9, c9, hF⟩ := hF
          obtain ⟨c118, s119, c120, s121, ec, es, hF⟩ := hF
          refine ht_V (C := "MarkupStore") (rest := []) (as := [va_rf v44, va_rf v111, va_rf v112]) X hl (cw_Store_joinNew l D dA s0 hW y0 v44 v111 v112 c118 s119 h113 z114 _ hF) (List.forall_mem_cons.mpr ⟨ms_k798, List.forall_mem_cons.mpr ⟨ms_k800, List.forall_mem_cons.mpr ⟨ms_p16, List.forall_mem_cons.mpr ⟨ms_k1, List.forall_mem_cons.mpr ⟨ms_k801, fun _ h => absurd h List.not_mem_nil⟩⟩⟩⟩⟩) ⟨rfl, by decide +kernel, by decide +kernel, (by decide +kernel : (parseMethodDescriptor "(LMarkupStore$Node;Ljava/lang/String;Ljava/lang/String;)I").map (fun d => d.parameters.length) = some 3)⟩ (hm_recv hK I rfl c9) I ⟨rfl, rfl⟩ ⟨⟨Nat.le_of_ble_eq_true rfl, Nat.le_of_ble_eq_true rfl⟩, (rm_u hc ec).1, (rm_u hs es).1⟩ rfl (Nat.le_of_ble_eq_true rfl) d262_212 (fun vv h116 z117 H locs hR I9 => ?_)
          obtain ⟨v115, e1, hF⟩ := hR
          subst e1
          clear I
          have I := I9
          clear I9 c9 fs9
          have hc := (rm_u hc ec).2
          have hs := (rm_u hs es).2
          clear ec es
          refine W.eq (g2 := F0 m 215 ls [.int v115]) rfl ?_
          exact ht_iret X d262_215 I (rm_r hc) (rm_r hs) ⟨_, rfl, hF⟩
    · have hF := Eq.mp (if_neg h9) hF
      refine lv_iconst (v := (-1)) hx hb d262_175 (by decide) ?_
      refine lv_aload hx hb d262_176 (lv_at hl 0 rfl) ?_
      obtain ⟨fs9, v122, c9, e9, hF⟩ := hF
      refine va_get (D := D) (ci := 6) (v := .int v122) (C := kR6) (T := kT6) (N := 6) hx hb hts ku6 hown hK (hm_one I.1 c9) 0 rfl rfl 2 (by decide) (hts _ ms_k363) (fun x9 h9 => u_same (hts _ ms_k364) x9 h9) e9 d262_178 ?_
      clear e9 c9 fs9
      refine lv_isub hx hb d262_181 ?_
      exact ht_iret X d262_182 I (rm_r hc) (rm_r hs) ⟨_, rfl, hF⟩
  have b43 : ∀ (ls : Array Slot) (x2 : Int32) (x3 : Option Nat) (x4 : Option Nat) (w0 : Option Nat) (cr sr cu su : Nat) (h : hm_T) (z : hz_T) (H : Heap) (locs : List Loc), w_Store_insert_43 dA y0 K x2 x3 x4 w0 cr sr h z → cu + cr ≤ rc → su + sr ≤ rs → lv_has ls 10 [(0, .ref y0), (2, .int x2), (3, va_rf x3), (4, va_rf x4)] → hm_I D s0 s h z H locs → W p l e { frames := 195, cells := rc, slots := rs, locals := 5956 } s m ([.ref y0, .int y1, .int y2] : List Value).toArray below meth c H locs cu su (MQ below (ht_Q D s0 (fun vv h1 z1 => ∃ v, vv = some (.int v) ∧ K v h1 z1)) ([.ref y0, .int y1, .int y2] : List Value).toArray s rc rs (fun q => s0.heap.size ≤ q)) (F0 m 43 ls [va_rf w0]) := by
    intro ls x2 x3 x4 w0 cr sr cu su h z H locs hF hc hs hl I
    unfold w_Store_insert_43 at hF
    refine lv_astoreR (i := 5) hx hb d262_43 hl (by decide) (show _ = [(5, va_rf w0), (0, .ref y0), (2, .int x2), (3, va_rf x3), (4, va_rf x4)] by simp [cat_rf, cat_int, cat_ref, cat_null, cat_long]) (fun ls hl => ?_)
    have hl : lv_has ls 10 [(5, va_rf w0), (0, .ref y0), (2, .int x2), (3, va_rf x3), (4, va_rf x4)] := hl
    refine lv_iload_n hx hb d262_45 rfl (lv_at hl 2 rfl) ?_
    refine lv_if_lt hx hb d262_46 rfl (fun h9 => ?_) (fun h9 => ?_)
    · have hF := Eq.mp (if_pos h9) hF
      exact b68 ls cr sr _ _ h z _ _ hF hc hs (hl.sub [] rfl) I
    · have hF := Eq.mp (if_neg h9) hF
      refine lv_iload_n hx hb d262_49 rfl (lv_at hl 2 rfl) ?_
      refine lv_iconst (v := 3) hx hb d262_50 (by decide) ?_
      refine lv_icmp_gt hx hb d262_51 rfl (fun h9 => ?_) (fun h9 => ?_)
      · have hF := Eq.mp (if_pos h9) hF
        exact b68 ls cr sr _ _ h z _ _ hF hc hs (hl.sub [] rfl) I
      · have hF := Eq.mp (if_neg h9) hF
        refine lv_aloadR hx hb d262_54 (lv_at hl 0 rfl) ?_
        refine lv_ifnullR hx hb d262_56 rfl (fun h9 => ?_) (fun h9 => ?_)
        · have hF := Eq.mp (if_pos h9) hF
          exact b68 ls cr sr _ _ h z _ _ hF hc hs (hl.sub [] rfl) I
        · have hF := Eq.mp (if_neg h9) hF
          refine lv_aloadR hx hb d262_59 (lv_at hl 0 rfl) ?_
          obtain ⟨a35, e9, hF⟩ := hF
          refine W.eq (g2 := F0 m 61 ls [.ref a35]) (by rw [e9]; rfl) ?_
          clear e9
          obtain ⟨fs9, v36, c9, e9, hF⟩ := hF
          refine va_get (D := D) (ci := 8) (v := .int v36) (C := kR8) (T := kT8) (N := 9) hx hb hts ku8 hown hK (hm_one I.1 c9) 0 rfl rfl 0 (by decide) (hts _ ms_k442) (fun _ h => h) e9 d262_61 ?_
          clear e9 c9 fs9
          refine lv_iconst (v := 1) hx hb d262_64 (by decide) ?_
          refine lv_icmp_eq hx hb d262_65 rfl (fun h9 => ?_) (fun h9 => ?_)
          · have hF := Eq.mp (if_pos h9) hF
            refine lv_iload_n hx hb d262_72 rfl (lv_at hl 2 rfl) ?_
            refine lv_if_ne hx hb d262_73 rfl (fun h9 => ?_) (fun h9 => ?_)
            · have hF := Eq.mp (if_neg h9) hF
              refine lv_iload_n hx hb d262_84 rfl (lv_at hl 2 rfl) ?_
              refine lv_iconst (v := 2) hx hb d262_85 (by decide) ?_
              refine lv_icmp_ne hx hb d262_86 rfl (fun h9 => ?_) (fun h9 => ?_)
              · have hF := Eq.mp (if_neg h9) hF
                refine lv_aload_n hx hb d262_99 rfl (lv_at hl 1 rfl) ?_
                obtain ⟨fs9, v37, c9, e9, hF⟩ := hF
                refine va_get (D := D) (ci := 0) (v := va_rf v37) (C := kR0) (T := kT0) (N := 6) hx hb hts ku0 hown hK (hm_one I.1 c9) 0 rfl rfl 2 (by decide) (hts _ ms_k107) (fun _ h => h) e9 d262_100 ?_
                clear e9 c9 fs9
                refine lv_aloadR hx hb d262_103 (lv_at hl 4 rfl) ?_
                obtain ⟨a38, e9, hF⟩ := hF
                refine W.eq (g2 := F0 m 105 ls [va_rf x4, .ref a38]) (by rw [e9]; rfl) ?_
                clear e9
                obtain ⟨fs9, c9, hF⟩ := hF
                refine ht_V (C := "MarkupStore$Tree") (rest := []) (as := [va_rf x4]) X hl (cw_Tree_endOf l D dA s0 hE a38 x4 h z _ hF) (List.forall_mem_cons.mpr ⟨ms_k749, List.forall_mem_cons.mpr ⟨ms_k750, List.forall_mem_cons.mpr ⟨ms_k751, List.forall_mem_cons.mpr ⟨ms_k6, List.forall_mem_cons.mpr ⟨ms_k752, fun _ h => absurd h List.not_mem_nil⟩⟩⟩⟩⟩) ⟨rfl, by decide +kernel, by decide +kernel, (by decide +kernel : (parseMethodDescriptor "(LMarkupStore$Node;)I").map (fun d => d.parameters.length) = some 1)⟩ (hm_recv hK I rfl c9) I ⟨rfl, rfl⟩ ⟨⟨Nat.le_of_ble_eq_true rfl, Nat.le_of_ble_eq_true rfl⟩, rm_0 hc, rm_0 hs⟩ rfl (Nat.le_of_ble_eq_true rfl) d262_105 (fun vv h40 z41 H locs hR I9 => ?_)
                obtain ⟨v39, e1, hF⟩ := hR
                subst e1
                clear I
                have I := I9
                clear I9 c9 fs9
                refine W.eq (g2 := F0 m 108 ls [.int v39]) rfl ?_
                exact b108 ls x3 w0 v39 cr sr _ _ h40 z41 _ _ hF hc hs (hl.sub [1, 3, 0] rfl) I
              · have hF := Eq.mp (if_pos h9) hF
                refine lv_aloadR hx hb d262_89 (lv_at hl 4 rfl) ?_
                obtain ⟨a123, e9, hF⟩ := hF
                refine W.eq (g2 := F0 m 91 ls [.ref a123]) (by rw [e9]; rfl) ?_
                clear e9
                obtain ⟨fs9, v124, c9, e9, hF⟩ := hF
                refine va_get (D := D) (ci := 8) (v := .int v124) (C := kR8) (T := kT8) (N := 9) hx hb hts ku8 hown hK (hm_one I.1 c9) 0 rfl rfl 6 (by decide) (hts _ ms_k464) (fun _ h => h) e9 d262_91 ?_
                clear e9 c9 fs9
                refine lv_iconst (v := 1) hx hb d262_94 (by decide) ?_
                refine lv_iadd hx hb d262_95 ?_
                refine lv_goto hx hb d262_96 rfl ?_
                exact b108 ls x3 w0 (v124 + 1) cr sr _ _ h z _ _ hF hc hs (hl.sub [1, 3, 0] rfl) I
            · have hF := Eq.mp (if_pos h9) hF
              refine lv_aloadR hx hb d262_76 (lv_at hl 4 rfl) ?_
              obtain ⟨a125, e9, hF⟩ := hF
              refine W.eq (g2 := F0 m 78 ls [.ref a125]) (by rw [e9]; rfl) ?_
              clear e9
              obtain ⟨fs9, v126, c9, e9, hF⟩ := hF
              refine va_get (D := D) (ci := 8) (v := .int v126) (C := kR8) (T := kT8) (N := 9) hx hb hts ku8 hown hK (hm_one I.1 c9) 0 rfl rfl 6 (by decide) (hts _ ms_k464) (fun _ h => h) e9 d262_78 ?_
              clear e9 c9 fs9
              refine lv_goto hx hb d262_81 rfl ?_
              exact b108 ls x3 w0 v126 cr sr _ _ h z _ _ hF hc hs (hl.sub [1, 3, 0] rfl) I
          · have hF := Eq.mp (if_neg h9) hF
            exact b68 ls cr sr _ _ h z _ _ hF hc hs (hl.sub [] rfl) I
  have b33 : ∀ (ls : Array Slot) (x2 : Int32) (x3 : Option Nat) (x4 : Option Nat) (cr sr cu su : Nat) (h : hm_T) (z : hz_T) (H : Heap) (locs : List Loc), w_Store_insert_33 dA y0 K x2 x3 x4 cr sr h z → cu + cr ≤ rc → su + sr ≤ rs → lv_has ls 10 [(0, .ref y0), (2, .int x2), (3, va_rf x3), (4, va_rf x4)] → hm_I D s0 s h z H locs → W p l e { frames := 195, cells := rc, slots := rs, locals := 5956 } s m ([.ref y0, .int y1, .int y2] : List Value).toArray below meth c H locs cu su (MQ below (ht_Q D s0 (fun vv h1 z1 => ∃ v, vv = some (.int v) ∧ K v h1 z1)) ([.ref y0, .int y1, .int y2] : List Value).toArray s rc rs (fun q => s0.heap.size ≤ q)) (F0 m 33 ls []) := by
    intro ls x2 x3 x4 cr sr cu su h z H locs hF hc hs hl I
    unfold w_Store_insert_33 at hF
    refine lv_aloadR hx hb d262_33 (lv_at hl 3 rfl) ?_
    obtain ⟨a33, e9, hF⟩ := hF
    refine W.eq (g2 := F0 m 35 ls [.ref a33]) (by rw [e9]; rfl) ?_
    clear e9
    obtain ⟨fs9, v34, c9, e9, hF⟩ := hF
    refine va_get (D := D) (ci := 8) (v := va_rf v34) (C := kR8) (T := kT8) (N := 9) hx hb hts ku8 hown hK (hm_one I.1 c9) 0 rfl rfl 1 (by decide) (hts _ ms_k446) (fun _ h => h) e9 d262_35 ?_
    clear e9 c9 fs9
    refine lv_goto hx hb d262_38 rfl ?_
    exact b43 ls x2 x3 x4 v34 cr sr _ _ h z _ _ hF hc hs (hl.sub [0, 1, 2, 3] rfl) I
  have hF := hg
  unfold w_Store_insert at hF
  clear h z
  have hc : 0 + rc ≤ rc := by omega
  have hs : 0 + rs ≤ rs := by omega
  refine lv_aload_n hx hb d262_0 rfl (lv_at hl 0 rfl) ?_
  obtain ⟨fs9, c9, hF⟩ := hF
  obtain ⟨c24, s25, c26, s27, ec, es, hF⟩ := hF
  refine ht_V (C := "MarkupStore") (rest := []) (as := []) X hl (cw_Store_useBuffer l D dA s0 hW y0 c24 s25 h0 z0 _ hF) (List.forall_mem_cons.mpr ⟨ms_k237, List.forall_mem_cons.mpr ⟨ms_k239, List.forall_mem_cons.mpr ⟨ms_p0, List.forall_mem_cons.mpr ⟨ms_k1, List.forall_mem_cons.mpr ⟨ms_k240, fun _ h => absurd h List.not_mem_nil⟩⟩⟩⟩⟩) ⟨rfl, by decide +kernel, by decide +kernel, (by decide +kernel : (parseMethodDescriptor "()Ljava/lang/String;").map (fun d => d.parameters.length) = some 0)⟩ (hm_recv hK I rfl c9) I ⟨rfl, rfl⟩ ⟨⟨Nat.le_of_ble_eq_true rfl, Nat.le_of_ble_eq_true rfl⟩, (rm_u hc ec).1, (rm_u hs es).1⟩ rfl (Nat.le_of_ble_eq_true rfl) d262_1 (fun vv h22 z23 H locs hR I9 => ?_)
  obtain ⟨v21, e1, hF⟩ := hR
  subst e1
  clear I
  have I := I9
  clear I9 c9 fs9
  have hc := (rm_u hc ec).2
  have hs := (rm_u hs es).2
  clear ec es
  refine W.eq (g2 := F0 m 4 ls [va_rf v21]) rfl ?_
  refine lv_astore_nR hx hb d262_4 rfl hl (by decide) rfl (fun ls hl => ?_)
  have hl : lv_has ls 10 [(3, va_rf v21), (0, .ref y0), (1, .int y1), (2, .int y2)] := hl
  refine lv_aload_n hx hb d262_5 rfl (lv_at hl 1 rfl) ?_
  obtain ⟨fs9, v28, c9, e9, hF⟩ := hF
  refine va_get (D := D) (ci := 0) (v := va_rf v28) (C := kR0) (T := kT0) (N := 6) hx hb hts ku0 hown hK (hm_one I.1 c9) 0 rfl rfl 2 (by decide) (hts _ ms_k107) (fun _ h => h) e9 d262_6 ?_
  clear e9 c9 fs9
  refine lv_iload_n hx hb d262_9 rfl (lv_at hl 2 rfl) ?_
  obtain ⟨a29, e9, hF⟩ := hF
  refine W.eq (g2 := F0 m 10 ls [.int y1, .ref a29]) (by rw [e9]; rfl) ?_
  clear e9
  obtain ⟨fs9, c9, hF⟩ := hF
  refine ht_V (C := "MarkupStore$Tree") (rest := []) (as := [.int y1]) X hl (cw_Tree_find l D dA s0 hE a29 y1 h22 z23 _ hF) (List.forall_mem_cons.mpr ⟨ms_k745, List.forall_mem_cons.mpr ⟨ms_k746, List.forall_mem_cons.mpr ⟨ms_k747, List.forall_mem_cons.mpr ⟨ms_k6, List.forall_mem_cons.mpr ⟨ms_k748, fun _ h => absurd h List.not_mem_nil⟩⟩⟩⟩⟩) ⟨rfl, by decide +kernel, by decide +kernel, (by decide +kernel : (parseMethodDescriptor "(I)LMarkupStore$Node;").map (fun d => d.parameters.length) = some 1)⟩ (hm_recv hK I rfl c9) I ⟨rfl, rfl⟩ ⟨⟨Nat.le_of_ble_eq_true rfl, Nat.le_of_ble_eq_true rfl⟩, rm_0 hc, rm_0 hs⟩ rfl (Nat.le_of_ble_eq_true rfl) d262_10 (fun vv h31 z32 H locs hR I9 => ?_)
  obtain ⟨v30, e1, hF⟩ := hR
  subst e1
  clear I
  have I := I9
  clear I9 c9 fs9
  refine W.eq (g2 := F0 m 13 ls [va_rf v30]) rfl ?_
  refine lv_astoreR (i := 4) hx hb d262_13 hl (by decide) (show _ = [(4, va_rf v30), (3, va_rf v21), (0, .ref y0), (1, .int y1), (2, .int y2)] by simp [cat_rf, cat_int, cat_ref, cat_null, cat_long]) (fun ls hl => ?_)
  have hl : lv_has ls 10 [(4, va_rf v30), (3, va_rf v21), (0, .ref y0), (1, .int y1), (2, .int y2)] := hl
  refine lv_aloadR hx hb d262_15 (lv_at hl 0 rfl) ?_
  refine lv_ifnonnullR hx hb d262_17 rfl (fun h9 => ?_) (fun h9 => ?_)
  · have hF := Eq.mp (if_neg h9) hF
    refine lv_iload_n hx hb d262_24 rfl (lv_at hl 4 rfl) ?_
    refine lv_if_eq hx hb d262_25 rfl (fun h9 => ?_) (fun h9 => ?_)
    · have hF := Eq.mp (if_pos h9) hF
      exact b33 ls y2 v21 v30 c26 s27 _ _ h31 z32 _ _ hF hc hs (hl.sub [2, 4, 1, 0] rfl) I
    · have hF := Eq.mp (if_neg h9) hF
      refine lv_iload_n hx hb d262_28 rfl (lv_at hl 4 rfl) ?_
      refine lv_iconst (v := 1) hx hb d262_29 (by decide) ?_
      refine lv_icmp_ne hx hb d262_30 rfl (fun h9 => ?_) (fun h9 => ?_)
      · have hF := Eq.mp (if_neg h9) hF
        refine lv_aloadR hx hb d262_41 (lv_at hl 0 rfl) ?_
        exact b43 ls y2 v21 v30 v30 c26 s27 _ _ h31 z32 _ _ hF hc hs (hl.sub [2, 4, 1, 0] rfl) I
      · have hF := Eq.mp (if_pos h9) hF
        exact b33 ls y2 v21 v30 c26 s27 _ _ h31 z32 _ _ hF hc hs (hl.sub [2, 4, 1, 0] rfl) I
  · have hF := Eq.mp (if_pos h9) hF
    refine lv_sipush (v := (-1000)) hx hb d262_20 (by decide) ?_
    exact ht_iret X d262_23 I (rm_r hc) (rm_r hs) ⟨_, rfl, hF⟩
