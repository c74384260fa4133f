
def w_MarkupReader_readPiece (dA : Nat → ClassId) (P : Nat → Option Nat → Option Nat → Nat → Nat → (Int32 → hm_T → hz_T → Prop) → hm_T → hz_T → Prop) (y0 : Nat) (y1 : Option Nat) (y2 : Option Nat) (rc rs : Nat) (K : Int32 → hm_T → hz_T → Prop) (h0 : hm_T) (z0 : hz_T) : Prop := (cg_I h0 6 1 y0 (fun v21 => (cg_c h0 6 y0 (w_TextReader_seen6 dA y0 v21 (fun v22 h23 z24 => (if v22 = 60 then (cg_I h23 6 1 y0 (fun v25 => (cg_c h23 6 y0 (w_TextReader_seen6 dA y0 (v25 + 1) (fun v26 h27 z28 => (if v26 = 33 then (cg_c h27 6 y0 (cg_rm rc rs (fun c52 s53 c54 s55 => w_MarkupReader_readComment dA y0 y1 y2 c52 s53 (fun v49 h50 z51 => (cg_z v49 (K v49 h50 z51))) h27 z28))) else (w_Store_isSmallLetter dA v26 (fun v29 h30 z31 => (if v29 = 0 then (cg_I h30 6 1 y0 (fun v45 => (cg_c h30 6 y0 (w_TextReader_failAt6 dA y0 (v45 + 1) (fun v46 h47 z48 => (cg_z v46 (K v46 h47 z48))) h30 z31)))) else (cg_d y1 (fun a32 => (cg_I h30 8 2 a32 (fun v33 => (if v33 < 5 then (cg_c h30 6 y0 (cg_rm rc rs (fun c37 s38 c39 s40 => P y0 y1 y2 c37 s38 (fun v34 h35 z36 => (cg_z v34 (K v34 h35 z36))) h30 z31))) else (cg_I h30 6 1 y0 (fun v41 => (cg_c h30 6 y0 (w_TextReader_failAt6 dA y0 v41 (fun v42 h43 z44 => (cg_z v42 (K v42 h43 z44))) h30 z31))))))))))) h27 z28))) h23 z24)))) else (cg_c h23 6 y0 (cg_rm rc rs (fun c59 s60 c61 s62 => w_MarkupReader_make dA y0 2 y1 y2 c59 s60 (fun v56 h57 z58 => (cg_c h57 6 y0 (cg_rm c61 s62 (fun c66 s67 c68 s69 => w_MarkupReader_readValue dA y0 60 c66 s67 (fun v63 h64 z65 => (cg_d v56 (fun a70 => (cg_p h64 8 7 a70 (va_rf v63) (fun h71 => (cg_c h71 6 y0 (w_TextReader_failed6 dA y0 (fun v72 h73 z74 => (if v72 = 0 then (K 1 h73 z74) else (K 0 h73 z74))) h71 z65))))))) h57 z58)))) h23 z24))))) h0 z0))))
set_option maxRecDepth 100000 in
set_option maxHeartbeats 8000000 in
theorem cw_MarkupReader_readPiece (l : Launch) (D : va_G) (dA : Nat → ClassId) (s0 : State) (hW : ms_EW D dA s0) (P : Nat → Option Nat → Option Nat → Nat → Nat → (Int32 → hm_T → hz_T → Prop) → hm_T → hz_T → Prop) (fP lP : Nat) (hP : ∀ (a0_ : Nat) (a1_ : Option Nat) (a2_ : Option Nat) (c1 s1 : Nat) (h0 : hm_T) (z0 : hz_T) (K : Int32 → hm_T → hz_T → Prop), P a0_ a1_ a2_ c1 s1 K h0 z0 → ht_C l D s0 yM257 bM257 5 (Option.some Jvm.ClassFile.FieldType.boolean) fP lP c1 s1 [.ref a0_, va_rf a1_, va_rf a2_] (fun h z => h = h0 ∧ z = z0) (fun h z vv h1 z1 => ∃ v, vv = some (.int v) ∧ K v h1 z1)) (y0 : Nat) (y1 : Option Nat) (y2 : Option Nat) (rc rs : Nat) (h0 : hm_T) (z0 : hz_T) (K : Int32 → hm_T → hz_T → Prop) (hg : w_MarkupReader_readPiece dA P y0 y1 y2 rc rs K h0 z0) : ht_C l D s0 yM250 bM250 4 (Option.some Jvm.ClassFile.FieldType.boolean) (fP + 9) (lP + 279) rc rs [.ref y0, va_rf y1, va_rf y2] (fun h z => h = h0 ∧ z = z0) (fun h z vv h1 z1 => ∃ v, vv = some (.int v) ∧ K v h1 z1) := by
  have hE := hW.1
  refine ht_C.mk hE.1 (by decide) (by simp [lg_sl, cat_rf, cat_int, cat_ref, cat_null, cat_long]) [(0, .ref y0), (1, va_rf y1), (2, va_rf y2)] (by simp [lv_args, cat_rf, cat_int, cat_ref, cat_null, cat_long]) ?_
  intro p e s m below meth c ls h z X hin hpre I hl
  have hx := X.1
  have hb := X.2.1
  have hml := X.2.2.1
  have hown : s.vm.findClass "MarkupStore$MarkupReader" = some m.cls := X.2.2.2.1
  have hts := X.2.2.2.2.2.2.1
  have hK := X.2.2.2.2.2.2.2.2.1
  rw [hpre.1, hpre.2] at I
  clear hpre
  have hF := hg
  unfold w_MarkupReader_readPiece at hF
  clear h z
  have hc : 0 + rc ≤ rc := by omega
  have hs : 0 + rs ≤ rs := by omega
  refine lv_aload_n hx hb d250_0 rfl (lv_at hl 0 rfl) ?_
  refine lv_aload_n hx hb d250_1 rfl (lv_at hl 0 rfl) ?_
  obtain ⟨fs9, v21, c9, e9, hF⟩ := hF
  refine va_get (D := D) (ci := 6) (v := .int v21) (C := kR6) (T := kT6) (N := 6) hx hb hts ku6 hown hK (hm_one I.1 c9) 0 rfl rfl 1 (by decide) (hts _ ms_k360) (fun x9 h9 => u_same (hts _ ms_k361) x9 h9) e9 d250_2 ?_
  clear e9 c9 fs9
  obtain ⟨fs9, c9, hF⟩ := hF
  refine ht_U (C := "MarkupStore$MarkupReader") (x := ⟨"MarkupStore$MarkupReader", "seen", "(I)C"⟩) (owner := "MarkupStore$TextReader") (rest := []) (as := [.int v21]) X hl (cw_TextReader_seen6 l D dA s0 hE y0 v21 h0 z0 _ hF) (List.forall_mem_cons.mpr ⟨ms_k384, List.forall_mem_cons.mpr ⟨ms_k385, List.forall_mem_cons.mpr ⟨ms_k387, List.forall_mem_cons.mpr ⟨ms_k388, List.forall_mem_cons.mpr ⟨ms_k14, List.forall_mem_cons.mpr ⟨ms_k389, fun _ h => absurd h List.not_mem_nil⟩⟩⟩⟩⟩⟩) rfl ⟨by decide +kernel, by decide +kernel, (by decide +kernel : (parseMethodDescriptor "(I)C").map (fun d => d.parameters.length) = some 1)⟩ (hm_recv hK I rfl c9) I ⟨rfl, rfl⟩ ⟨⟨by show _ ≤ fP + 9; omega, by show _ ≤ lP + 279; omega⟩, rm_0 hc, rm_0 hs⟩ rfl (Nat.le_of_ble_eq_true rfl) d250_5 (fun vv h23 z24 H locs hR I9 => ?_)
  obtain ⟨v22, e1, hF⟩ := hR
  subst e1
  clear I
  have I := I9
  clear I9 c9 fs9
  refine W.eq (g2 := F0 m 8 ls [.int v22]) rfl ?_
  refine lv_bipush (v := 60) hx hb d250_8 (by decide) ?_
  refine lv_icmp_eq hx hb d250_10 rfl (fun h9 => ?_) (fun h9 => ?_)
  · have hF := Eq.mp (if_pos h9) hF
    refine lv_aload_n hx hb d250_42 rfl (lv_at hl 0 rfl) ?_
    refine lv_aload_n hx hb d250_43 rfl (lv_at hl 0 rfl) ?_
    obtain ⟨fs9, v25, c9, e9, hF⟩ := hF
    refine va_get (D := D) (ci := 6) (v := .int v25) (C := kR6) (T := kT6) (N := 6) hx hb hts ku6 hown hK (hm_one I.1 c9) 0 rfl rfl 1 (by decide) (hts _ ms_k360) (fun x9 h9 => u_same (hts _ ms_k361) x9 h9) e9 d250_44 ?_
    clear e9 c9 fs9
    refine lv_iconst (v := 1) hx hb d250_47 (by decide) ?_
    refine lv_iadd hx hb d250_48 ?_
    obtain ⟨fs9, c9, hF⟩ := hF
    refine ht_U (C := "MarkupStore$MarkupReader") (x := ⟨"MarkupStore$MarkupReader", "seen", "(I)C"⟩) (owner := "MarkupStore$TextReader") (rest := []) (as := [.int (v25 + 1)]) X hl (cw_TextReader_seen6 l D dA s0 hE y0 (v25 + 1) h23 z24 _ hF) (List.forall_mem_cons.mpr ⟨ms_k384, List.forall_mem_cons.mpr ⟨ms_k385, List.forall_mem_cons.mpr ⟨ms_k387, List.forall_mem_cons.mpr ⟨ms_k388, List.forall_mem_cons.mpr ⟨ms_k14, List.forall_mem_cons.mpr ⟨ms_k389, fun _ h => absurd h List.not_mem_nil⟩⟩⟩⟩⟩⟩) rfl ⟨by decide +kernel, by decide +kernel, (by decide +kernel : (parseMethodDescriptor "(I)C").map (fun d => d.parameters.length) = some 1)⟩ (hm_recv hK I rfl c9) I ⟨rfl, rfl⟩ ⟨⟨by show _ ≤ fP + 9; omega, by show _ ≤ lP + 279; omega⟩, rm_0 hc, rm_0 hs⟩ rfl (Nat.le_of_ble_eq_true rfl) d250_49 (fun vv h27 z28 H locs hR I9 => ?_)
    obtain ⟨v26, e1, hF⟩ := hR
    subst e1
    clear I
    have I := I9
    clear I9 c9 fs9
    refine W.eq (g2 := F0 m 52 ls [.int v26]) rfl ?_
    refine lv_istore_n (i := 3) hx hb d250_52 rfl hl (by decide) (show _ = [(3, .int v26), (0, .ref y0), (1, va_rf y1), (2, va_rf y2)] by simp [cat_rf, cat_int, cat_ref, cat_null, cat_long]) (fun ls hl => ?_)
    have hl : lv_has ls 4 [(3, .int v26), (0, .ref y0), (1, va_rf y1), (2, va_rf y2)] := hl
    refine lv_iload_n hx hb d250_53 rfl (lv_at hl 0 rfl) ?_
    refine lv_bipush (v := 33) hx hb d250_54 (by decide) ?_
    refine lv_icmp_ne hx hb d250_56 rfl (fun h9 => ?_) (fun h9 => ?_)
    · have hF := Eq.mp (if_neg h9) hF
      refine lv_iload_n hx hb d250_66 rfl (lv_at hl 0 rfl) ?_
      refine ht_SN (host := "MarkupStore") (rest := []) (as := [.int v26]) X hl (cw_Store_isSmallLetter l D dA s0 hE v26 h27 z28 _ hF) (ms_nest hE X (ms_l (ms_t2 (List.mem_of_getElem? (i := 179) (by decide +kernel))))) (List.forall_mem_cons.mpr ⟨ms_k420, List.forall_mem_cons.mpr ⟨ms_k1, List.forall_mem_cons.mpr ⟨ms_k421, fun _ h => absurd h List.not_mem_nil⟩⟩⟩) ⟨by decide +kernel, by decide +kernel, (by decide +kernel : (parseMethodDescriptor "(C)Z").map (fun d => d.parameters.length) = some 1)⟩ I ⟨rfl, rfl⟩ ⟨⟨by show _ ≤ fP + 9; omega, by show _ ≤ lP + 279; omega⟩, rm_0 hc, rm_0 hs⟩ rfl (Nat.le_of_ble_eq_true rfl) d250_67 (fun vv h30 z31 H locs hR I9 => ?_)
      obtain ⟨v29, e1, hF⟩ := hR
      subst e1
      clear I
      have I := I9
      clear I9
      refine W.eq (g2 := F0 m 70 ls [.int v29]) rfl ?_
      refine lv_if_ne hx hb d250_70 rfl (fun h9 => ?_) (fun h9 => ?_)
      · have hF := Eq.mp (if_neg h9) hF
        refine lv_aload_nR hx hb d250_84 rfl (lv_at hl 2 rfl) ?_
        obtain ⟨a32, e9, hF⟩ := hF
        refine W.eq (g2 := F0 m 85 ls [.ref a32]) (by rw [e9]; rfl) ?_
        clear e9
        obtain ⟨fs9, v33, c9, e9, hF⟩ := hF
        refine va_get (D := D) (ci := 8) (v := .int v33) (C := kR8) (T := kT8) (N := 9) hx hb hts ku8 hown hK (hm_one I.1 c9) 0 rfl rfl 2 (by decide) (hts _ ms_k451) (fun _ h => h) e9 d250_85 ?_
        clear e9 c9 fs9
        refine lv_iconst (v := 5) hx hb d250_88 (by decide) ?_
        refine lv_icmp_lt hx hb d250_89 rfl (fun h9 => ?_) (fun h9 => ?_)
        · have hF := Eq.mp (if_pos h9) hF
          refine lv_aload_n hx hb d250_101 rfl (lv_at hl 1 rfl) ?_
          refine lv_aload_nR hx hb d250_102 rfl (lv_at hl 2 rfl) ?_
          refine lv_aload_nR hx hb d250_103 rfl (lv_at hl 3 rfl) ?_
          obtain ⟨fs9, c9, hF⟩ := hF
          obtain ⟨c37, s38, c39, s40, ec, es, hF⟩ := hF
          refine ht_V (C := "MarkupStore$MarkupReader") (rest := []) (as := [va_rf y1, va_rf y2]) X hl (hP y0 y1 y2 c37 s38 h30 z31 _ hF) (List.forall_mem_cons.mpr ⟨ms_k422, List.forall_mem_cons.mpr ⟨ms_k424, List.forall_mem_cons.mpr ⟨ms_p1, List.forall_mem_cons.mpr ⟨ms_k15, List.forall_mem_cons.mpr ⟨ms_k425, fun _ h => absurd h List.not_mem_nil⟩⟩⟩⟩⟩) ⟨rfl, by decide +kernel, by decide +kernel, (by decide +kernel : (parseMethodDescriptor "(LMarkupStore$Node;[I)Z").map (fun d => d.parameters.length) = some 2)⟩ (hm_recv hK I rfl c9) I ⟨rfl, rfl⟩ ⟨⟨by show _ ≤ fP + 9; omega, by show _ ≤ lP + 279; omega⟩, (rm_u hc ec).1, (rm_u hs es).1⟩ rfl (Nat.le_of_ble_eq_true rfl) d250_104 (fun vv h35 z36 H locs hR I9 => ?_)
          obtain ⟨v34, e1, hF⟩ := hR
          subst e1
          clear I
          have I := I9
          clear I9 c9 fs9
          have hc := (rm_u hc ec).2
          have hs := (rm_u hs es).2
          clear ec es
          refine W.eq (g2 := F0 m 107 ls [.int v34]) rfl ?_
          obtain ⟨hz9, hF⟩ := hF
          exact ht_zret X d250_107 I (rm_r hc) (rm_r hs) ⟨_, rfl, hF⟩ (cg_zn hz9).1
        · have hF := Eq.mp (if_neg h9) hF
          refine lv_aload_n hx hb d250_92 rfl (lv_at hl 1 rfl) ?_
          refine lv_aload_n hx hb d250_93 rfl (lv_at hl 1 rfl) ?_
          obtain ⟨fs9, v41, c9, e9, hF⟩ := hF
          refine va_get (D := D) (ci := 6) (v := .int v41) (C := kR6) (T := kT6) (N := 6) hx hb hts ku6 hown hK (hm_one I.1 c9) 0 rfl rfl 1 (by decide) (hts _ ms_k360) (fun x9 h9 => u_same (hts _ ms_k361) x9 h9) e9 d250_94 ?_
          clear e9 c9 fs9
          obtain ⟨fs9, c9, hF⟩ := hF
          refine ht_U (C := "MarkupStore$MarkupReader") (x := ⟨"MarkupStore$MarkupReader", "failAt", "(I)Z"⟩) (owner := "MarkupStore$TextReader") (rest := []) (as := [.int v41]) X hl (cw_TextReader_failAt6 l D dA s0 hE y0 v41 h30 z31 _ hF) (List.forall_mem_cons.mpr ⟨ms_k413, List.forall_mem_cons.mpr ⟨ms_k414, List.forall_mem_cons.mpr ⟨ms_k416, List.forall_mem_cons.mpr ⟨ms_k417, List.forall_mem_cons.mpr ⟨ms_k14, List.forall_mem_cons.mpr ⟨ms_k418, fun _ h => absurd h List.not_mem_nil⟩⟩⟩⟩⟩⟩) rfl ⟨by decide +kernel, by decide +kernel, (by decide +kernel : (parseMethodDescriptor "(I)Z").map (fun d => d.parameters.length) = some 1)⟩ (hm_recv hK I rfl c9) I ⟨rfl, rfl⟩ ⟨⟨by show _ ≤ fP + 9; omega, by show _ ≤ lP + 279; omega⟩, rm_0 hc, rm_0 hs⟩ rfl (Nat.le_of_ble_eq_true rfl) d250_97 (fun vv h43 z44 H locs hR I9 => ?_)
          obtain ⟨v42, e1, hF⟩ := hR
          subst e1
          clear I
          have I := I9
          clear I9 c9 fs9
          refine W.eq (g2 := F0 m 100 ls [.int v42]) rfl ?_
          obtain ⟨hz9, hF⟩ := hF
          exact ht_zret X d250_100 I (rm_r hc) (rm_r hs) ⟨_, rfl, hF⟩ (cg_zn hz9).1
      · have hF := Eq.mp (if_pos h9) hF
        refine lv_aload_n hx hb d250_73 rfl (lv_at hl 1 rfl) ?_
        refine lv_aload_n hx hb d250_74 rfl (lv_at hl 1 rfl) ?_
        obtain ⟨fs9, v45, c9, e9, hF⟩ := hF
        refine va_get (D := D) (ci := 6) (v := .int v45) (C := kR6) (T := kT6) (N := 6) hx hb hts ku6 hown hK (hm_one I.1 c9) 0 rfl rfl 1 (by decide) (hts _ ms_k360) (fun x9 h9 => u_same (hts _ ms_k361) x9 h9) e9 d250_75 ?_
        clear e9 c9 fs9
        refine lv_iconst (v := 1) hx hb d250_78 (by decide) ?_
        refine lv_iadd hx hb d250_79 ?_
        obtain ⟨fs9, c9, hF⟩ := hF
        refine ht_U (C := "MarkupStore$MarkupReader") (x := ⟨"MarkupStore$MarkupReader", "failAt", "(I)Z"⟩) (owner := "MarkupStore$TextReader") (rest := []) (as := [.int (v45 + 1)]) X hl (cw_TextReader_failAt6 l D dA s0 hE y0 (v45 + 1) h30 z31 _ hF) (List.forall_mem_cons.mpr ⟨ms_k413, List.forall_mem_cons.mpr ⟨ms_k414, List.forall_mem_cons.mpr ⟨ms_k416, List.forall_mem_cons.mpr ⟨ms_k417, List.forall_mem_cons.mpr ⟨ms_k14, List.forall_mem_cons.mpr ⟨ms_k418, fun _ h => absurd h List.not_mem_nil⟩⟩⟩⟩⟩⟩) rfl ⟨by decide +kernel, by decide +kernel, (by decide +kernel : (parseMethodDescriptor "(I)Z").map (fun d => d.parameters.length) = some 1)⟩ (hm_recv hK I rfl c9) I ⟨rfl, rfl⟩ ⟨⟨by show _ ≤ fP + 9; omega, by show _ ≤ lP + 279; omega⟩, rm_0 hc, rm_0 hs⟩ rfl (Nat.le_of_ble_eq_true rfl) d250_80 (fun vv h47 z48 H locs hR I9 => ?_)
        obtain ⟨v46, e1, hF⟩ := hR
        subst e1
        clear I
        have I := I9
        clear I9 c9 fs9
        refine W.eq (g2 := F0 m 83 ls [.int v46]) rfl ?_
        obtain ⟨hz9, hF⟩ := hF
        exact ht_zret X d250_83 I (rm_r hc) (rm_r hs) ⟨_, rfl, hF⟩ (cg_zn hz9).1
    · have hF := Eq.mp (if_pos h9) hF
      refine lv_aload_n hx hb d250_59 rfl (lv_at hl 1 rfl) ?_
      refine lv_aload_nR hx hb d250_60 rfl (lv_at hl 2 rfl) ?_
      refine lv_aload_nR hx hb d250_61 rfl (lv_at hl 3 rfl) ?_
      obtain ⟨fs9, c9, hF⟩ := hF
      obtain ⟨c52, s53, c54, s55, ec, es, hF⟩ := hF
      refine ht_V (C := "MarkupStore$MarkupReader") (rest := []) (as := [va_rf y1, va_rf y2]) X hl (cw_MarkupReader_readComment l D dA s0 hW y0 y1 y2 c52 s53 h27 z28 _ hF) (List.forall_mem_cons.mpr ⟨ms_k690, List.forall_mem_cons.mpr ⟨ms_k692, List.forall_mem_cons.mpr ⟨ms_p12, List.forall_mem_cons.mpr ⟨ms_k15, List.forall_mem_cons.mpr ⟨ms_k693, fun _ h => absurd h List.not_mem_nil⟩⟩⟩⟩⟩) ⟨rfl, by decide +kernel, by decide +kernel, (by decide +kernel : (parseMethodDescriptor "(LMarkupStore$Node;[I)Z").map (fun d => d.parameters.length) = some 2)⟩ (hm_recv hK I rfl c9) I ⟨rfl, rfl⟩ ⟨⟨by show _ ≤ fP + 9; omega, by show _ ≤ lP + 279; omega⟩, (rm_u hc ec).1, (rm_u hs es).1⟩ rfl (Nat.le_of_ble_eq_true rfl) d250_62 (fun vv h50 z51 H locs hR I9 => ?_)
      obtain ⟨v49, e1, hF⟩ := hR
      subst e1
      clear I
      have I := I9
      clear I9 c9 fs9
      have hc := (rm_u hc ec).2
      have hs := (rm_u hs es).2
      clear ec es
      refine W.eq (g2 := F0 m 65 ls [.int v49]) rfl ?_
      obtain ⟨hz9, hF⟩ := hF
      exact ht_zret X d250_65 I (rm_r hc) (rm_r hs) ⟨_, rfl, hF⟩ (cg_zn hz9).1
  · have hF := Eq.mp (if_neg h9) hF
    refine lv_aload_n hx hb d250_13 rfl (lv_at hl 0 rfl) ?_
    refine lv_iconst (v := 2) hx hb d250_14 (by decide) ?_
    refine lv_aload_nR hx hb d250_15 rfl (lv_at hl 1 rfl) ?_
    refine lv_aload_nR hx hb d250_16 rfl (lv_at hl 2 rfl) ?_
    obtain ⟨fs9, c9, hF⟩ := hF
    obtain ⟨c59, s60, c61, s62, ec, es, hF⟩ := hF
    refine ht_V (C := "MarkupStore$MarkupReader") (rest := []) (as := [.int 2, va_rf y1, va_rf y2]) X hl (cw_MarkupReader_make l D dA s0 hW y0 2 y1 y2 c59 s60 h23 z24 _ hF) (List.forall_mem_cons.mpr ⟨ms_k426, List.forall_mem_cons.mpr ⟨ms_k428, List.forall_mem_cons.mpr ⟨ms_p2, List.forall_mem_cons.mpr ⟨ms_k15, List.forall_mem_cons.mpr ⟨ms_k429, fun _ h => absurd h List.not_mem_nil⟩⟩⟩⟩⟩) ⟨rfl, by decide +kernel, by decide +kernel, (by decide +kernel : (parseMethodDescriptor "(ILMarkupStore$Node;[I)LMarkupStore$Node;").map (fun d => d.parameters.length) = some 3)⟩ (hm_recv hK I rfl c9) I ⟨rfl, rfl⟩ ⟨⟨by show _ ≤ fP + 9; omega, by show _ ≤ lP + 279; omega⟩, (rm_u hc ec).1, (rm_u hs es).1⟩ rfl (Nat.le_of_ble_eq_true rfl) d250_17 (fun vv h57 z58 H locs hR I9 => ?_)
    obtain ⟨v56, e1, hF⟩ := hR
    subst e1
    clear I
    have I := I9
    clear I9 c9 fs9
    have hc := (rm_u hc ec).2
    have hs := (rm_u hs es).2
    clear ec es
    refine W.eq (g2 := F0 m 20 ls [va_rf v56]) rfl ?_
    refine lv_aload_n hx hb d250_20 rfl (lv_at hl 0 rfl) ?_
    refine lv_bipush (v := 60) hx hb d250_21 (by decide) ?_
    obtain ⟨fs9, c9, hF⟩ := hF
    obtain ⟨c66, s67, c68, s69, ec, es, hF⟩ := hF
    refine ht_V (C := "MarkupStore$MarkupReader") (rest := [va_rf v56]) (as := [.int 60]) X hl (cw_MarkupReader_readValue l D dA s0 hW y0 60 c66 s67 h57 z58 _ hF) (List.forall_mem_cons.mpr ⟨ms_k629, List.forall_mem_cons.mpr ⟨ms_k631, List.forall_mem_cons.mpr ⟨ms_p7, List.forall_mem_cons.mpr ⟨ms_k15, List.forall_mem_cons.mpr ⟨ms_k632, fun _ h => absurd h List.not_mem_nil⟩⟩⟩⟩⟩) ⟨rfl, by decide +kernel, by decide +kernel, (by decide +kernel : (parseMethodDescriptor "(C)Ljava/lang/String;").map (fun d => d.parameters.length) = some 1)⟩ (hm_recv hK I rfl c9) I ⟨rfl, rfl⟩ ⟨⟨by show _ ≤ fP + 9; omega, by show _ ≤ lP + 279; omega⟩, (rm_u hc ec).1, (rm_u hs es).1⟩ rfl (by simp [cat_rf, cat_int, cat_ref, cat_null, cat_long]) d250_23 (fun vv h64 z65 H locs hR I9 => ?_)
    obtain ⟨v63, e1, hF⟩ := hR
    subst e1
    clear I
    have I := I9
    clear I9 c9 fs9
    have hc := (rm_u hc ec).2
    have hs := (rm_u hs es).2
    clear ec es
    refine W.eq (g2 := F0 m 26 ls [va_rf v63, va_rf v56]) rfl ?_
    obtain ⟨a70, e9, hF⟩ := hF
    refine W.eq (g2 := F0 m 26 ls [va_rf v63, .ref a70]) (by rw [e9]; rfl) ?_
    clear e9
    obtain ⟨fs9, c9, k9, hF⟩ := hF
    refine hm_put (ci := 8) (v := va_rf v63) (ty := (.object "java/lang/String")) (C := kR8) (T := kT8) (N := 9) X I ku8 kt8 kp8 kn8 c9 rfl 7 (by decide) ms_k469 (fun _ h => h) rfl (by decide +kernel) (by cases v63 <;> rfl) (by cases v63 <;> rfl) k9 d250_26 (fun h71 H locs e9 f9 I => ?_)
    rw [← hm_eqU e9 f9] at hF
    clear e9 f9 c9 k9
    refine lv_aload_n hx hb d250_29 rfl (lv_at hl 0 rfl) ?_
    obtain ⟨fs9, c9, hF⟩ := hF
    refine ht_U (C := "MarkupStore$MarkupReader") (x := ⟨"MarkupStore$MarkupReader", "failed", "()Z"⟩) (owner := "MarkupStore$TextReader") (rest := []) (as := []) X hl (cw_TextReader_failed6 l D dA s0 hE y0 h71 z65 _ hF) (List.forall_mem_cons.mpr ⟨ms_k584, List.forall_mem_cons.mpr ⟨ms_k585, List.forall_mem_cons.mpr ⟨ms_k587, List.forall_mem_cons.mpr ⟨ms_k588, List.forall_mem_cons.mpr ⟨ms_k14, List.forall_mem_cons.mpr ⟨ms_k589, fun _ h => absurd h List.not_mem_nil⟩⟩⟩⟩⟩⟩) rfl ⟨by decide +kernel, by decide +kernel, (by decide +kernel : (parseMethodDescriptor "()Z").map (fun d => d.parameters.length) = some 0)⟩ (hm_recv hK I rfl c9) I ⟨rfl, rfl⟩ ⟨⟨by show _ ≤ fP + 9; omega, by show _ ≤ lP + 279; omega⟩, rm_0 hc, rm_0 hs⟩ rfl (Nat.le_of_ble_eq_true rfl) d250_30 (fun vv h73 z74 H locs hR I9 => ?_)
    obtain ⟨v72, e1, hF⟩ := hR
    subst e1
    clear I
    have I := I9
    clear I9 c9 fs9
    refine W.eq (g2 := F0 m 33 ls [.int v72]) rfl ?_
    refine lv_if_ne hx hb d250_33 rfl (fun h9 => ?_) (fun h9 => ?_)
    · have hF := Eq.mp (if_neg h9) hF
      refine lv_iconst (v := 0) hx hb d250_40 (by decide) ?_
      exact ht_zret X d250_41 I (rm_r hc) (rm_r hs) ⟨_, rfl, hF⟩ rfl
    · have hF := Eq.mp (if_pos h9) hF
      refine lv_iconst (v := 1) hx hb d250_36 (by decide) ?_
      refine lv_goto hx hb d250_37 rfl ?_
      exact ht_zret X d250_41 I (rm_r hc) (rm_r hs) ⟨_, rfl, hF⟩ rfl

def w_MarkupReader_readAttribute_61 (dA : Nat → ClassId) (y0 : Nat) (K : Int32 → hm_T → hz_T → Prop) (cr sr : Nat) (h : hm_T) (z : hz_T) : Prop := (K 0 h z)
def w_MarkupReader_readAttribute_87 (dA : Nat → ClassId) (y0 : Nat) (K : Int32 → hm_T → hz_T → Prop) (cr sr : Nat) (h : hm_T) (z : hz_T) : Prop := (K 0 h z)
def w_MarkupReader_readAttribute (dA : Nat → ClassId) (y0 : Nat) (y1 : Option Nat) (rc rs : Nat) (K : Int32 → hm_T → hz_T → Prop) (h0 : hm_T) (z0 : hz_T) : Prop := (cg_I h0 6 1 y0 (fun v21 => (cg_p h0 6 1 y0 (.int (v21 + 1)) (fun h22 => (cg_I h22 6 1 y0 (fun v23 => (cg_c h22 6 y0 (cg_rm rc rs (fun c27 s28 c29 s30 => w_TextReader_readName6 dA y0 c27 s28 (fun v24 h25 z26 => (cg_c h25 6 y0 (w_TextReader_failed6 dA y0 (fun v31 h32 z33 => (if v31 = 0 then (cg_d y1 (fun a34 => (cg_c h32 8 a34 (w_Node_attributeNamed dA a34 v24 (fun v35 h36 z37 => (if v35 = none then (cg_c h36 6 y0 (w_TextReader_take6 dA y0 61 (fun v38 h39 z40 => (if v38 = 0 then (w_MarkupReader_readAttribute_61 dA y0 K c29 s30 h39 z40) else (cg_c h39 6 y0 (w_TextReader_take6 dA y0 34 (fun v41 h42 z43 => (if v41 = 0 then (w_MarkupReader_readAttribute_61 dA y0 K c29 s30 h42 z43) else (cg_c h42 6 y0 (cg_rm c29 s30 (fun c47 s48 c49 s50 => w_MarkupReader_readValue dA y0 34 c47 s48 (fun v44 h45 z46 => (cg_c h45 6 y0 (w_TextReader_failed6 dA y0 (fun v51 h52 z53 => (if v51 = 0 then (cg_c h52 6 y0 (w_TextReader_take6 dA y0 34 (fun v54 h55 z56 => (if v54 = 0 then (w_MarkupReader_readAttribute_87 dA y0 K c49 s50 h55 z56) else (cg_d y1 (fun a57 => (cg_R h55 8 4 a57 (fun v58 => (cg_new h55 c49 s50 9 2 [.null, .null] (fun q59 c61 s62 h60 => (cg_c h60 9 q59 (cg_rm c61 s62 (fun c66 s67 c68 s69 => w_Attribute_init dA q59 v24 v44 c66 s67 (fun h64 z65 => (cg_d v58 (fun a70 => (cg_c h64 4 a70 (cg_rm c68 s69 (fun c74 s75 c76 s77 => w_AL_add dA a70 (some q59) c74 s75 (fun v71 h72 z73 => (K 1 h72 z73)) h64 z65)))))) h60 z56))))))))))) h52 z53)) else (w_MarkupReader_readAttribute_87 dA y0 K c49 s50 h52 z53))) h45 z46))) h42 z43))))) h39 z40)))) h36 z37)) else (cg_c h36 6 y0 (w_TextReader_failAt6 dA y0 v23 (fun v78 h79 z80 => (cg_z v78 (K v78 h79 z80))) h36 z37)))) h32 z33)))) else (K 0 h32 z33))) h25 z26))) h22 z0)))))))))
set_option maxRecDepth 100000 in
set_option maxHeartbeats 8000000 in
theorem cw_MarkupReader_readAttribute (l : Launch) (D : va_G) (dA : Nat → ClassId) (s0 : State) (hW : ms_EW D dA s0) (y0 : Nat) (y1 : Option Nat) (rc rs : Nat) (h0 : hm_T) (z0 : hz_T) (K : Int32 → hm_T → hz_T → Prop) (hg : w_MarkupReader_readAttribute dA y0 y1 rc rs K h0 z0) : ht_C l D s0 yM258 bM258 5 (Option.some Jvm.ClassFile.FieldType.boolean) (8) (257) rc rs [.ref y0, va_rf y1] (fun h z => h = h0 ∧ z = z0) (fun h z vv h1 z1 => ∃ v, vv = some (.int v) ∧ K v h1 z1) := by
  have hE := hW.1
  refine ht_C.mk hE.1 (by decide) (by simp [lg_sl, cat_rf, cat_int, cat_ref, cat_null, cat_long]) [(0, .ref y0), (1, va_rf y1)] (by simp [lv_args, cat_rf, cat_int, cat_ref, cat_null, cat_long]) ?_
  intro p e s m below meth c ls h z X hin hpre I hl
  have hx := X.1
  have hb := X.2.1
  have hml := X.2.2.1
  have hown : s.vm.findClass "MarkupStore$MarkupReader" = some m.cls := X.2.2.2.1
  have hts := X.2.2.2.2.2.2.1
  have hK := X.2.2.2.2.2.2.2.2.1
  rw [hpre.1, hpre.2] at I
  clear hpre
  have b61 : ∀ (ls : Array Slot) (cr sr cu su : Nat) (h : hm_T) (z : hz_T) (H : Heap) (locs : List Loc), w_MarkupReader_readAttribute_61 dA y0 K cr sr h z → cu + cr ≤ rc → su + sr ≤ rs → lv_has ls 5 [] → hm_I D s0 s h z H locs → W p l e { frames := 8, cells := rc, slots := rs, locals := 257 } s m ([.ref y0, va_rf y1] : List Value).toArray below meth c H locs cu su (MQ below (ht_Q D s0 (fun vv h1 z1 => ∃ v, vv = some (.int v) ∧ K v h1 z1)) ([.ref y0, va_rf y1] : List Value).toArray s rc rs (fun q => s0.heap.size ≤ q)) (F0 m 61 ls []) := by
    intro ls cr sr cu su h z H locs hF hc hs hl I
    unfold w_MarkupReader_readAttribute_61 at hF
    refine lv_iconst (v := 0) hx hb d258_61 (by decide) ?_
    exact ht_zret X d258_62 I (rm_r hc) (rm_r hs) ⟨_, rfl, hF⟩ rfl
  have b87 : ∀ (ls : Array Slot) (cr sr cu su : Nat) (h : hm_T) (z : hz_T) (H : Heap) (locs : List Loc), w_MarkupReader_readAttribute_87 dA y0 K cr sr h z → cu + cr ≤ rc → su + sr ≤ rs → lv_has ls 5 [] → hm_I D s0 s h z H locs → W p l e { frames := 8, cells := rc, slots := rs, locals := 257 } s m ([.ref y0, va_rf y1] : List Value).toArray below meth c H locs cu su (MQ below (ht_Q D s0 (fun vv h1 z1 => ∃ v, vv = some (.int v) ∧ K v h1 z1)) ([.ref y0, va_rf y1] : List Value).toArray s rc rs (fun q => s0.heap.size ≤ q)) (F0 m 87 ls []) := by
    intro ls cr sr cu su h z H locs hF hc hs hl I
    unfold w_MarkupReader_readAttribute_87 at hF
    refine lv_iconst (v := 0) hx hb d258_87 (by decide) ?_
    exact ht_zret X d258_88 I (rm_r hc) (rm_r hs) ⟨_, rfl, hF⟩ rfl
  have hF := hg
  unfold w_MarkupReader_readAttribute at hF
  clear h z
  have hc : 0 + rc ≤ rc := by omega
  have hs : 0 + rs ≤ rs := by omega
  refine lv_aload_n hx hb d258_0 rfl (lv_at hl 0 rfl) ?_
  refine lv_dup hx hb d258_1 rfl ?_
  obtain ⟨fs9, v21, c9, e9, hF⟩ := hF
  refine va_get (D := D) (ci := 6) (v := .int v21) (C := kR6) (T := kT6) (N := 6) hx hb hts ku6 hown hK (hm_one I.1 c9) 0 rfl rfl 1 (by decide) (hts _ ms_k360) (fun x9 h9 => u_same (hts _ ms_k361) x9 h9) e9 d258_2 ?_
  clear e9 c9 fs9
  refine lv_iconst (v := 1) hx hb d258_5 (by decide) ?_
  refine lv_iadd hx hb d258_6 ?_
  obtain ⟨fs9, c9, k9, hF⟩ := hF
  refine hm_put (ci := 6) (v := .int (v21 + 1)) (ty := .int) (C := kR6) (T := kT6) (N := 6) X I ku6 kt6 kp6 kn6 c9 rfl 1 (by decide) ms_k360 (fun x9 h9 => u_same (hts _ ms_k361) x9 h9) rfl (by decide +kernel) rfl rfl k9 d258_7 (fun h22 H locs e9 f9 I => ?_)
  rw [← hm_eqU e9 f9] at hF
  clear e9 f9 c9 k9
  refine lv_aload_n hx hb d258_10 rfl (lv_at hl 0 rfl) ?_
  obtain ⟨fs9, v23, c9, e9, hF⟩ := hF
  refine va_get (D := D) (ci := 6) (v := .int v23) (C := kR6) (T := kT6) (N := 6) hx hb hts ku6 hown hK (hm_one I.1 c9) 0 rfl rfl 1 (by decide) (hts _ ms_k360) (fun x9 h9 => u_same (hts _ ms_k361) x9 h9) e9 d258_11 ?_
  clear e9 c9 fs9
  refine lv_istore_n (i := 2) hx hb d258_14 rfl hl (by decide) (show _ = [(2, .int v23), (0, .ref y0), (1, va_rf y1)] by simp [cat_rf, cat_int, cat_ref, cat_null, cat_long]) (fun ls hl => ?_)
  have hl : lv_has ls 5 [(2, .int v23), (0, .ref y0), (1, va_rf y1)] := hl
  refine lv_aload_n hx hb d258_15 rfl (lv_at hl 1 rfl) ?_
  obtain ⟨fs9, c9, hF⟩ := hF
  obtain ⟨c27, s28, c29, s30, ec, es, hF⟩ := hF
  refine ht_U (C := "MarkupStore$MarkupReader") (x := ⟨"MarkupStore$MarkupReader", "readName", "()Ljava/lang/String;"⟩) (owner := "MarkupStore$TextReader") (rest := []) (as := []) X hl (cw_TextReader_readName6 l D dA s0 hW y0 c27 s28 h22 z0 _ hF) (List.forall_mem_cons.mpr ⟨ms_k541, List.forall_mem_cons.mpr ⟨ms_k542, List.forall_mem_cons.mpr ⟨ms_k544, List.forall_mem_cons.mpr ⟨ms_k545, List.forall_mem_cons.mpr ⟨ms_k14, List.forall_mem_cons.mpr ⟨ms_k546, fun _ h => absurd h List.not_mem_nil⟩⟩⟩⟩⟩⟩) rfl ⟨by decide +kernel, by decide +kernel, (by decide +kernel : (parseMethodDescriptor "()Ljava/lang/String;").map (fun d => d.parameters.length) = some 0)⟩ (hm_recv hK I rfl c9) I ⟨rfl, rfl⟩ ⟨⟨Nat.le_of_ble_eq_true rfl, Nat.le_of_ble_eq_true rfl⟩, (rm_u hc ec).1, (rm_u hs es).1⟩ rfl (Nat.le_of_ble_eq_true rfl) d258_16 (fun vv h25 z26 H locs hR I9 => ?_)
  obtain ⟨v24, e1, hF⟩ := hR
  subst e1
  clear I
  have I := I9
  clear I9 c9 fs9
  have hc := (rm_u hc ec).2
  have hs := (rm_u hs es).2
  clear ec es
  refine W.eq (g2 := F0 m 19 ls [va_rf v24]) rfl ?_
  refine lv_astore_nR hx hb d258_19 rfl hl (by decide) rfl (fun ls hl => ?_)
  have hl : lv_has ls 5 [(3, va_rf v24), (2, .int v23), (0, .ref y0), (1, va_rf y1)] := hl
  refine lv_aload_n hx hb d258_20 rfl (lv_at hl 2 rfl) ?_
  obtain ⟨fs9, c9, hF⟩ := hF
  refine ht_U (C := "MarkupStore$MarkupReader") (x := ⟨"MarkupStore$MarkupReader", "failed", "()Z"⟩) (owner := "MarkupStore$TextReader") (rest := []) (as := []) X hl (cw_TextReader_failed6 l D dA s0 hE y0 h25 z26 _ hF) (List.forall_mem_cons.mpr ⟨ms_k584, List.forall_mem_cons.mpr ⟨ms_k585, List.forall_mem_cons.mpr ⟨ms_k587, List.forall_mem_cons.mpr ⟨ms_k588, List.forall_mem_cons.mpr ⟨ms_k14, List.forall_mem_cons.mpr ⟨ms_k589, fun _ h => absurd h List.not_mem_nil⟩⟩⟩⟩⟩⟩) rfl ⟨by decide +kernel, by decide +kernel, (by decide +kernel : (parseMethodDescriptor "()Z").map (fun d => d.parameters.length) = some 0)⟩ (hm_recv hK I rfl c9) I ⟨rfl, rfl⟩ ⟨⟨Nat.le_of_ble_eq_true rfl, Nat.le_of_ble_eq_true rfl⟩, rm_0 hc, rm_0 hs⟩ rfl (Nat.le_of_ble_eq_true rfl) d258_21 (fun vv h32 z33 H locs hR I9 => ?_)
  obtain ⟨v31, e1, hF⟩ := hR
  subst e1
  clear I
  have I := I9
  clear I9 c9 fs9
  refine W.eq (g2 := F0 m 24 ls [.int v31]) rfl ?_
  refine lv_if_eq hx hb d258_24 rfl (fun h9 => ?_) (fun h9 => ?_)
  · have hF := Eq.mp (if_pos h9) hF
    refine lv_aload_nR hx hb d258_29 rfl (lv_at hl 3 rfl) ?_
    refine lv_aload_nR hx hb d258_30 rfl (lv_at hl 0 rfl) ?_
    obtain ⟨a34, e9, hF⟩ := hF
    refine W.eq (g2 := F0 m 31 ls [va_rf v24, .ref a34]) (by rw [e9]; rfl) ?_
    clear e9
    obtain ⟨fs9, c9, hF⟩ := hF
    refine ht_V (C := "MarkupStore$Node") (rest := []) (as := [va_rf v24]) X hl (cw_Node_attributeNamed l D dA s0 hE a34 v24 h32 z33 _ hF) (List.forall_mem_cons.mpr ⟨ms_k590, List.forall_mem_cons.mpr ⟨ms_k591, List.forall_mem_cons.mpr ⟨ms_k592, List.forall_mem_cons.mpr ⟨ms_k19, List.forall_mem_cons.mpr ⟨ms_k593, fun _ h => absurd h List.not_mem_nil⟩⟩⟩⟩⟩) ⟨rfl, by decide +kernel, by decide +kernel, (by decide +kernel : (parseMethodDescriptor "(Ljava/lang/String;)LMarkupStore$Attribute;").map (fun d => d.parameters.length) = some 1)⟩ (hm_recv hK I rfl c9) I ⟨rfl, rfl⟩ ⟨⟨Nat.le_of_ble_eq_true rfl, Nat.le_of_ble_eq_true rfl⟩, rm_0 hc, rm_0 hs⟩ rfl (Nat.le_of_ble_eq_true rfl) d258_31 (fun vv h36 z37 H locs hR I9 => ?_)
    obtain ⟨v35, e1, hF⟩ := hR
    subst e1
    clear I
    have I := I9
    clear I9 c9 fs9
    refine W.eq (g2 := F0 m 34 ls [va_rf v35]) rfl ?_
    refine lv_ifnullR hx hb d258_34 rfl (fun h9 => ?_) (fun h9 => ?_)
    · have hF := Eq.mp (if_pos h9) hF
      refine lv_aload_n hx hb d258_43 rfl (lv_at hl 2 rfl) ?_
      refine lv_bipush (v := 61) hx hb d258_44 (by decide) ?_
      obtain ⟨fs9, c9, hF⟩ := hF
      refine ht_U (C := "MarkupStore$MarkupReader") (x := ⟨"MarkupStore$MarkupReader", "take", "(C)Z"⟩) (owner := "MarkupStore$TextReader") (rest := []) (as := [.int 61]) X hl (cw_TextReader_take6 l D dA s0 hE y0 61 h36 z37 _ hF) (List.forall_mem_cons.mpr ⟨ms_k623, List.forall_mem_cons.mpr ⟨ms_k624, List.forall_mem_cons.mpr ⟨ms_k626, List.forall_mem_cons.mpr ⟨ms_k627, List.forall_mem_cons.mpr ⟨ms_k14, List.forall_mem_cons.mpr ⟨ms_k628, fun _ h => absurd h List.not_mem_nil⟩⟩⟩⟩⟩⟩) rfl ⟨by decide +kernel, by decide +kernel, (by decide +kernel : (parseMethodDescriptor "(C)Z").map (fun d => d.parameters.length) = some 1)⟩ (hm_recv hK I rfl c9) I ⟨rfl, rfl⟩ ⟨⟨Nat.le_of_ble_eq_true rfl, Nat.le_of_ble_eq_true rfl⟩, rm_0 hc, rm_0 hs⟩ rfl (Nat.le_of_ble_eq_true rfl) d258_46 (fun vv h39 z40 H locs hR I9 => ?_)
      obtain ⟨v38, e1, hF⟩ := hR
      subst e1
      clear I
      have I := I9
      clear I9 c9 fs9
      refine W.eq (g2 := F0 m 49 ls [.int v38]) rfl ?_
      refine lv_if_eq hx hb d258_49 rfl (fun h9 => ?_) (fun h9 => ?_)
      · have hF := Eq.mp (if_pos h9) hF
        exact b61 ls c29 s30 _ _ h39 z40 _ _ hF hc hs (hl.sub [] rfl) I
      · have hF := Eq.mp (if_neg h9) hF
        refine lv_aload_n hx hb d258_52 rfl (lv_at hl 2 rfl) ?_
        refine lv_bipush (v := 34) hx hb d258_53 (by decide) ?_
        obtain ⟨fs9, c9, hF⟩ := hF
        refine ht_U (C := "MarkupStore$MarkupReader") (x := ⟨"MarkupStore$MarkupReader", "take", "(C)Z"⟩) (owner := "MarkupStore$TextReader") (rest := []) (as := [.int 34]) X hl (cw_TextReader_take6 l D dA s0 hE y0 34 h39 z40 _ hF) (List.forall_mem_cons.mpr ⟨ms_k623, List.forall_mem_cons.mpr ⟨ms_k624, List.forall_mem_cons.mpr ⟨ms_k626, List.forall_mem_cons.mpr ⟨ms_k627, List.forall_mem_cons.mpr ⟨ms_k14, List.forall_mem_cons.mpr ⟨ms_k628, fun _ h => absurd h List.not_mem_nil⟩⟩⟩⟩⟩⟩) rfl ⟨by decide +kernel, by decide +kernel, (by decide +kernel : (parseMethodDescriptor "(C)Z").map (fun d => d.parameters.length) = some 1)⟩ (hm_recv hK I rfl c9) I ⟨rfl, rfl⟩ ⟨⟨Nat.le_of_ble_eq_true rfl, Nat.le_of_ble_eq_true rfl⟩, rm_0 hc, rm_0 hs⟩ rfl (Nat.le_of_ble_eq_true rfl) d258_55 (fun vv h42 z43 H locs hR I9 => ?_)
        obtain ⟨v41, e1, hF⟩ := hR
        subst e1
        clear I
        have I := I9
        clear I9 c9 fs9
        refine W.eq (g2 := F0 m 58 ls [.int v41]) rfl ?_
        refine lv_if_ne hx hb d258_58 rfl (fun h9 => ?_) (fun h9 => ?_)
        · have hF := Eq.mp (if_neg h9) hF
          refine lv_aload_n hx hb d258_63 rfl (lv_at hl 2 rfl) ?_
          refine lv_bipush (v := 34) hx hb d258_64 (by decide) ?_
          obtain ⟨fs9, c9, hF⟩ := hF
          obtain ⟨c47, s48, c49, s50, ec, es, hF⟩ := hF
          refine ht_V (C := "MarkupStore$MarkupReader") (rest := []) (as := [.int 34]) X hl (cw_MarkupReader_readValue l D dA s0 hW y0 34 c47 s48 h42 z43 _ hF) (List.forall_mem_cons.mpr ⟨ms_k629, List.forall_mem_cons.mpr ⟨ms_k631, List.forall_mem_cons.mpr ⟨ms_p7, List.forall_mem_cons.mpr ⟨ms_k15, List.forall_mem_cons.mpr ⟨ms_k632, fun _ h => absurd h List.not_mem_nil⟩⟩⟩⟩⟩) ⟨rfl, by decide +kernel, by decide +kernel, (by decide +kernel : (parseMethodDescriptor "(C)Ljava/lang/String;").map (fun d => d.parameters.length) = some 1)⟩ (hm_recv hK I rfl c9) I ⟨rfl, rfl⟩ ⟨⟨Nat.le_of_ble_eq_true rfl, Nat.le_of_ble_eq_true rfl⟩, (rm_u hc ec).1, (rm_u hs es).1⟩ rfl (Nat.le_of_ble_eq_true rfl) d258_66 (fun vv h45 z46 H locs hR I9 => ?_)
          obtain ⟨v44, e1, hF⟩ := hR
          subst e1
          clear I
          have I := I9
          clear I9 c9 fs9
          have hc := (rm_u hc ec).2
          have hs := (rm_u hs es).2
          clear ec es
          refine W.eq (g2 := F0 m 69 ls [va_rf v44]) rfl ?_
          refine lv_astoreR (i := 4) hx hb d258_69 hl (by decide) (show _ = [(4, va_rf v44), (3, va_rf v24), (2, .int v23), (0, .ref y0), (1, va_rf y1)] by simp [cat_rf, cat_int, cat_ref, cat_null, cat_long]) (fun ls hl => ?_)
          have hl : lv_has ls 5 [(4, va_rf v44), (3, va_rf v24), (2, .int v23), (0, .ref y0), (1, va_rf y1)] := hl
          refine lv_aload_n hx hb d258_71 rfl (lv_at hl 3 rfl) ?_
          obtain ⟨fs9, c9, hF⟩ := hF
          refine ht_U (C := "MarkupStore$MarkupReader") (x := ⟨"MarkupStore$MarkupReader", "failed", "()Z"⟩) (owner := "MarkupStore$TextReader") (rest := []) (as := []) X hl (cw_TextReader_failed6 l D dA s0 hE y0 h45 z46 _ hF) (List.forall_mem_cons.mpr ⟨ms_k584, List.forall_mem_cons.mpr ⟨ms_k585, List.forall_mem_cons.mpr ⟨ms_k587, List.forall_mem_cons.mpr ⟨ms_k588, List.forall_mem_cons.mpr ⟨ms_k14, List.forall_mem_cons.mpr ⟨ms_k589, fun _ h => absurd h List.not_mem_nil⟩⟩⟩⟩⟩⟩) rfl ⟨by decide +kernel, by decide +kernel, (by decide +kernel : (parseMethodDescriptor "()Z").map (fun d => d.parameters.length) = some 0)⟩ (hm_recv hK I rfl c9) I ⟨rfl, rfl⟩ ⟨⟨Nat.le_of_ble_eq_true rfl, Nat.le_of_ble_eq_true rfl⟩, rm_0 hc, rm_0 hs⟩ rfl (Nat.le_of_ble_eq_true rfl) d258_72 (fun vv h52 z53 H locs hR I9 => ?_)
          obtain ⟨v51, e1, hF⟩ := hR
          subst e1
          clear I
          have I := I9
          clear I9 c9 fs9
          refine W.eq (g2 := F0 m 75 ls [.int v51]) rfl ?_
          refine lv_if_ne hx hb d258_75 rfl (fun h9 => ?_) (fun h9 => ?_)
          · have hF := Eq.mp (if_neg h9) hF
            exact b87 ls c49 s50 _ _ h52 z53 _ _ hF hc hs (hl.sub [] rfl) I
          · have hF := Eq.mp (if_pos h9) hF
            refine lv_aload_n hx hb d258_78 rfl (lv_at hl 3 rfl) ?_
            refine lv_bipush (v := 34) hx hb d258_79 (by decide) ?_
            obtain ⟨fs9, c9, hF⟩ := hF
            refine ht_U (C := "MarkupStore$MarkupReader") (x := ⟨"MarkupStore$MarkupReader", "take", "(C)Z"⟩) (owner := "MarkupStore$TextReader") (rest := []) (as := [.int 34]) X hl (cw_TextReader_take6 l D dA s0 hE y0 34 h52 z53 _ hF) (List.forall_mem_cons.mpr ⟨ms_k623, List.forall_mem_cons.mpr ⟨ms_k624, List.forall_mem_cons.mpr ⟨ms_k626, List.forall_mem_cons.mpr ⟨ms_k627, List.forall_mem_cons.mpr ⟨ms_k14, List.forall_mem_cons.mpr ⟨ms_k628, fun _ h => absurd h List.not_mem_nil⟩⟩⟩⟩⟩⟩) rfl ⟨by decide +kernel, by decide +kernel, (by decide +kernel : (parseMethodDescriptor "(C)Z").map (fun d => d.parameters.length) = some 1)⟩ (hm_recv hK I rfl c9) I ⟨rfl, rfl⟩ ⟨⟨Nat.le_of_ble_eq_true rfl, Nat.le_of_ble_eq_true rfl⟩, rm_0 hc, rm_0 hs⟩ rfl (Nat.le_of_ble_eq_true rfl) d258_81 (fun vv h55 z56 H locs hR I9 => ?_)
            obtain ⟨v54, e1, hF⟩ := hR
            subst e1
            clear I
            have I := I9
            clear I9 c9 fs9
            refine W.eq (g2 := F0 m 84 ls [.int v54]) rfl ?_
            refine lv_if_ne hx hb d258_84 rfl (fun h9 => ?_) (fun h9 => ?_)
            · have hF := Eq.mp (if_neg h9) hF
              refine lv_aload_nR hx hb d258_89 rfl (lv_at hl 4 rfl) ?_
              obtain ⟨a57, e9, hF⟩ := hF
              refine W.eq (g2 := F0 m 90 ls [.ref a57]) (by rw [e9]; rfl) ?_
              clear e9
              obtain ⟨fs9, v58, c9, e9, hF⟩ := hF
              refine va_get (D := D) (ci := 8) (v := va_rf v58) (C := kR8) (T := kT8) (N := 9) hx hb hts ku8 hown hK (hm_one I.1 c9) 0 rfl rfl 4 (by decide) (hts _ ms_k457) (fun _ h => h) e9 d258_90 ?_
              clear e9 c9 fs9
              obtain ⟨c61, s62, ec, es, hF⟩ := hF
              refine hm_mk (ci := 9) (fs := [.null, .null]) (C := kR9) (T := kT9) (N := 2) X I ku9 kt9 kp9 (List.forall_mem_cons.mpr ⟨ms_k653, List.forall_mem_cons.mpr ⟨ms_k654, List.forall_mem_cons.mpr ⟨ms_k22, fun _ h => absurd h List.not_mem_nil⟩⟩⟩) rfl kz9 (rm_u hc ec).1 (rm_u hs es).1 d258_93 (fun q59 h60 H v9 e9 f9 I => ?_)
              have hF := hF q59 v9
              rw [← hm_eqU e9 f9] at hF
              clear e9 f9 v9
              have hc := (rm_u hc ec).2
              have hs := (rm_u hs es).2
              clear ec es
              refine lv_dup hx hb d258_96 rfl ?_
              refine lv_aload_nR hx hb d258_97 rfl (lv_at hl 1 rfl) ?_
              refine lv_aloadR hx hb d258_98 (lv_at hl 0 rfl) ?_
              obtain ⟨fs9, c9, hF⟩ := hF
              obtain ⟨c66, s67, c68, s69, ec, es, hF⟩ := hF
              refine ht_IN (host := "MarkupStore") (rest := [.ref q59, va_rf v58]) (as := [va_rf v24, va_rf v44]) X hl (cw_Attribute_init l D dA s0 hW q59 v24 v44 c66 s67 h60 z56 _ hF) (ms_nest hE X (ms_l (ms_t3 (List.mem_of_getElem? (i := 175) (by decide +kernel))))) (List.forall_mem_cons.mpr ⟨ms_k656, List.forall_mem_cons.mpr ⟨ms_k22, List.forall_mem_cons.mpr ⟨ms_k657, fun _ h => absurd h List.not_mem_nil⟩⟩⟩) rfl ⟨by decide +kernel, by decide +kernel, (by decide +kernel : (parseMethodDescriptor "(Ljava/lang/String;Ljava/lang/String;)V").map (fun d => d.parameters.length) = some 2)⟩ I ⟨rfl, rfl⟩ ⟨⟨Nat.le_of_ble_eq_true rfl, Nat.le_of_ble_eq_true rfl⟩, (rm_u hc ec).1, (rm_u hs es).1⟩ rfl (by simp [cat_rf, cat_int, cat_ref, cat_null, cat_long]) d258_100 (fun vv h64 z65 H locs hR I9 => ?_)
              obtain ⟨e1, hF⟩ := hR
              subst e1
              clear I
              have I := I9
              clear I9 c9 fs9
              have hc := (rm_u hc ec).2
              have hs := (rm_u hs es).2
              clear ec es
              refine W.eq (g2 := F0 m 103 ls [.ref q59, va_rf v58]) rfl ?_
              obtain ⟨a70, e9, hF⟩ := hF
              refine W.eq (g2 := F0 m 103 ls [.ref q59, .ref a70]) (by rw [e9]; rfl) ?_
              clear e9
              obtain ⟨fs9, c9, hF⟩ := hF
              obtain ⟨c74, s75, c76, s77, ec, es, hF⟩ := hF
              refine ht_V (C := "java/util/ArrayList") (rest := []) (as := [.ref q59]) X hl (cw_AL_add l D dA s0 hW a70 (some q59) c74 s75 h64 z65 _ hF) (List.forall_mem_cons.mpr ⟨ms_k494, List.forall_mem_cons.mpr ⟨ms_k495, List.forall_mem_cons.mpr ⟨ms_k496, List.forall_mem_cons.mpr ⟨ms_k18, List.forall_mem_cons.mpr ⟨ms_k497, fun _ h => absurd h List.not_mem_nil⟩⟩⟩⟩⟩) ⟨rfl, by decide +kernel, by decide +kernel, (by decide +kernel : (parseMethodDescriptor "(Ljava/lang/Object;)Z").map (fun d => d.parameters.length) = some 1)⟩ (hm_recv hK I rfl c9) I ⟨rfl, rfl⟩ ⟨⟨Nat.le_of_ble_eq_true rfl, Nat.le_of_ble_eq_true rfl⟩, (rm_u hc ec).1, (rm_u hs es).1⟩ rfl (Nat.le_of_ble_eq_true rfl) d258_103 (fun vv h72 z73 H locs hR I9 => ?_)
              obtain ⟨v71, e1, hF⟩ := hR
              subst e1
              clear I
              have I := I9
              clear I9 c9 fs9
              have hc := (rm_u hc ec).2
              have hs := (rm_u hs es).2
              clear ec es
              refine W.eq (g2 := F0 m 106 ls [.int v71]) rfl ?_
              refine lv_pop hx hb d258_106 rfl ?_
              refine lv_iconst (v := 1) hx hb d258_107 (by decide) ?_
              exact ht_zret X d258_108 I (rm_r hc) (rm_r hs) ⟨_, rfl, hF⟩ rfl
            · have hF := Eq.mp (if_pos h9) hF
              exact b87 ls c49 s50 _ _ h55 z56 _ _ hF hc hs (hl.sub [] rfl) I
        · have hF := Eq.mp (if_pos h9) hF
          exact b61 ls c29 s30 _ _ h42 z43 _ _ hF hc hs (hl.sub [] rfl) I
    · have hF := Eq.mp (if_neg h9) hF
      refine lv_aload_n hx hb d258_37 rfl (lv_at hl 2 rfl) ?_
      refine lv_iload_n hx hb d258_38 rfl (lv_at hl 1 rfl) ?_
      obtain ⟨fs9, c9, hF⟩ := hF
      refine ht_U (C := "MarkupStore$MarkupReader") (x := ⟨"MarkupStore$MarkupReader", "failAt", "(I)Z"⟩) (owner := "MarkupStore$TextReader") (rest := []) (as := [.int v23]) X hl (cw_TextReader_failAt6 l D dA s0 hE y0 v23 h36 z37 _ hF) (List.forall_mem_cons.mpr ⟨ms_k413, List.forall_mem_cons.mpr ⟨ms_k414, List.forall_mem_cons.mpr ⟨ms_k416, List.forall_mem_cons.mpr ⟨ms_k417, List.forall_mem_cons.mpr ⟨ms_k14, List.forall_mem_cons.mpr ⟨ms_k418, fun _ h => absurd h List.not_mem_nil⟩⟩⟩⟩⟩⟩) rfl ⟨by decide +kernel, by decide +kernel, (by decide +kernel : (parseMethodDescriptor "(I)Z").map (fun d => d.parameters.length) = some 1)⟩ (hm_recv hK I rfl c9) I ⟨rfl, rfl⟩ ⟨⟨Nat.le_of_ble_eq_true rfl, Nat.le_of_ble_eq_true rfl⟩, rm_0 hc, rm_0 hs⟩ rfl (Nat.le_of_ble_eq_true rfl) d258_39 (fun vv h79 z80 H locs hR I9 => ?_)
      obtain ⟨v78, e1, hF⟩ := hR
      subst e1
      clear I
      have I := I9
      clear I9 c9 fs9
      refine W.eq (g2 := F0 m 42 ls [.int v78]) rfl ?_
      obtain ⟨hz9, hF⟩ := hF
      exact ht_zret X d258_42 I (rm_r hc) (rm_r hs) ⟨_, rfl, hF⟩ (cg_zn hz9).1
  · have hF := Eq.mp (if_neg h9) hF
    refine lv_iconst (v := 0) hx hb d258_27 (by decide) ?_
    exact ht_zret X d258_28 I (rm_r hc) (rm_r hs) ⟨_, rfl, hF⟩ rfl

def w_MarkupReader_readElement_156 (dA : Nat → ClassId) (P : Nat → Option Nat → Nat → Nat → (Int32 → hm_T → hz_T → Prop) → hm_T → hz_T → Prop) (y0 : Nat) (K : Int32 → hm_T → hz_T → Prop) (cr sr : Nat) (h : hm_T) (z : hz_T) : Prop := (K 0 h z)
def w_MarkupReader_readElement_94 (dA : Nat → ClassId) (P : Nat → Option Nat → Nat → Nat → (Int32 → hm_T → hz_T → Prop) → hm_T → hz_T → Prop) (y0 : Nat) (K : Int32 → hm_T → hz_T → Prop) (x3 : Option Nat) (w0 : Int32) (cr sr : Nat) (h : hm_T) (z : hz_T) : Prop := (cg_z w0 (cg_p h 6 5 y0 (.int w0) (fun h43 => (cg_I h43 6 1 y0 (fun v44 => (cg_c h43 6 y0 (w_TextReader_seen6 dA y0 v44 (fun v45 h46 z47 => (if v45 = 47 then (cg_I h46 6 1 y0 (fun v61 => (cg_p h46 6 1 y0 (.int (v61 + 1)) (fun h62 => (cg_c h62 6 y0 (w_TextReader_take6 dA y0 62 (fun v63 h64 z65 => (cg_z v63 (K v63 h64 z65))) h62 z47)))))) else (cg_c h46 6 y0 (w_TextReader_take6 dA y0 62 (fun v48 h49 z50 => (if v48 = 0 then (w_MarkupReader_readElement_156 dA P y0 K cr sr h49 z50) else (cg_c h49 6 y0 (cg_rm cr sr (fun c54 s55 c56 s57 => P y0 x3 c54 s55 (fun v51 h52 z53 => (if v51 = 0 then (w_MarkupReader_readElement_156 dA P y0 K c56 s57 h52 z53) else (cg_c h52 6 y0 (w_MarkupReader_readEndTag dA y0 x3 (fun v58 h59 z60 => (if v58 = 0 then (w_MarkupReader_readElement_156 dA P y0 K c56 s57 h59 z60) else (K 1 h59 z60))) h52 z53)))) h49 z50))))) h46 z47)))) h43 z)))))))
def w_MarkupReader_readElement_89 (dA : Nat → ClassId) (P : Nat → Option Nat → Nat → Nat → (Int32 → hm_T → hz_T → Prop) → hm_T → hz_T → Prop) (y0 : Nat) (K : Int32 → hm_T → hz_T → Prop) (x3 : Option Nat) (cr sr : Nat) (h : hm_T) (z : hz_T) : Prop := (w_MarkupReader_readElement_94 dA P y0 K x3 1 cr sr h z)
def w_MarkupReader_readElement_70 (dA : Nat → ClassId) (P : Nat → Option Nat → Nat → Nat → (Int32 → hm_T → hz_T → Prop) → hm_T → hz_T → Prop) (y0 : Nat) (K : Int32 → hm_T → hz_T → Prop) (x3 : Option Nat) (cr sr : Nat) (h : hm_T) (z : hz_T) : Prop := (cg_I h 6 5 y0 (fun v42 => (if v42 = 0 then (cg_d x3 (fun a66 => (cg_R h 8 4 a66 (fun v67 => (cg_d v67 (fun a68 => (jd_sz h a68 (fun v69 => (if v69 ≤ 3 then (w_MarkupReader_readElement_94 dA P y0 K x3 0 cr sr h z) else (w_MarkupReader_readElement_89 dA P y0 K x3 cr sr h z)))))))))) else (w_MarkupReader_readElement_89 dA P y0 K x3 cr sr h z))))
def w_MarkupReader_readElement_29 (dA : Nat → ClassId) (P : Nat → Option Nat → Nat → Nat → (Int32 → hm_T → hz_T → Prop) → hm_T → hz_T → Prop) (y0 : Nat) (K : Int32 → hm_T → hz_T → Prop) : Nat → Option Nat → Int32 → Nat → Nat → hm_T → hz_T → Prop
  | 0, _, _, _, _, _, _ => False
  | n9 + 1, x3, x4, cr, sr, h, z => (cg_R h 6 0 y0 (fun v39 => (cg_d v39 (fun a40 => (jd_len z a40 (fun v41 => (if v41 ≤ x4 then (w_MarkupReader_readElement_70 dA P y0 K x3 cr sr h z) else (cg_I h 6 1 y0 (fun v70 => (cg_c h 6 y0 (w_TextReader_seen6 dA y0 v70 (fun v71 h72 z73 => (if v71 = 32 then (cg_c h72 6 y0 (cg_rm cr sr (fun c77 s78 c79 s80 => w_MarkupReader_readAttribute dA y0 x3 c77 s78 (fun v74 h75 z76 => (if v74 = 0 then (K 0 h75 z76) else ((w_MarkupReader_readElement_29 dA P y0 K n9) x3 (x4 + 1) c79 s80 h75 z76))) h72 z73))) else (w_MarkupReader_readElement_70 dA P y0 K x3 cr sr h72 z73))) h z)))))))))))
def w_MarkupReader_readElement (dA : Nat → ClassId) (P : Nat → Option Nat → Nat → Nat → (Int32 → hm_T → hz_T → Prop) → hm_T → hz_T → Prop) (y0 : Nat) (y1 : Option Nat) (y2 : Option Nat) (rc rs : Nat) (K : Int32 → hm_T → hz_T → Prop) (h0 : hm_T) (z0 : hz_T) : Prop := (cg_I h0 6 1 y0 (fun v21 => (cg_p h0 6 1 y0 (.int (v21 + 1)) (fun h22 => (cg_c h22 6 y0 (cg_rm rc rs (fun c26 s27 c28 s29 => w_MarkupReader_make dA y0 1 y1 y2 c26 s27 (fun v23 h24 z25 => (cg_c h24 6 y0 (cg_rm c28 s29 (fun c33 s34 c35 s36 => w_TextReader_readName6 dA y0 c33 s34 (fun v30 h31 z32 => (cg_d v23 (fun a37 => (cg_p h31 8 7 a37 (va_rf v30) (fun h38 => (w_MarkupReader_readElement_29 dA P y0 K mF v23 0 c35 s36 h38 z32)))))) h24 z25)))) h22 z0)))))))
set_option maxRecDepth 100000 in
set_option maxHeartbeats 8000000 in
theorem cw_MarkupReader_readElement (l : Launch) (D : va_G) (dA : Nat → ClassId) (s0 : State) (hW : ms_EW D dA s0) (P : Nat → Option Nat → Nat → Nat → (Int32 → hm_T → hz_T → Prop) → hm_T → hz_T → Prop) (fP lP : Nat) (hP : ∀ (a0_ : Nat) (a1_ : Option Nat) (c1 s1 : Nat) (h0 : hm_T) (z0 : hz_T) (K : Int32 → hm_T → hz_T → Prop), P a0_ a1_ c1 s1 K h0 z0 → ht_C l D s0 yM249 bM249 3 (Option.some Jvm.ClassFile.FieldType.boolean) fP lP c1 s1 [.ref a0_, va_rf a1_] (fun h z => h = h0 ∧ z = z0) (fun h z vv h1 z1 => ∃ v, vv = some (.int v) ∧ K v h1 z1)) (y0 : Nat) (y1 : Option Nat) (y2 : Option Nat) (rc rs : Nat) (h0 : hm_T) (z0 : hz_T) (K : Int32 → hm_T → hz_T → Prop) (hg : w_MarkupReader_readElement dA P y0 y1 y2 rc rs K h0 z0) : ht_C l D s0 yM257 bM257 5 (Option.some Jvm.ClassFile.FieldType.boolean) (fP + 9) (lP + 281) rc rs [.ref y0, va_rf y1, va_rf y2] (fun h z => h = h0 ∧ z = z0) (fun h z vv h1 z1 => ∃ v, vv = some (.int v) ∧ K v h1 z1) := by
  have hE := hW.1
  refine ht_C.mk hE.1 (by decide) (by simp [lg_sl, cat_rf, cat_int, cat_ref, cat_null, cat_long]) [(0, .ref y0), (1, va_rf y1), (2, va_rf y2)] (by simp [lv_args, cat_rf, cat_int, cat_ref, cat_null, cat_long]) ?_
  intro p e s m below meth c ls h z X hin hpre I hl
  have hx := X.1
  have hb := X.2.1
  have hml := X.2.2.1
  have hown : s.vm.findClass "MarkupStore$MarkupReader" = some m.cls := X.2.2.2.1
  have hts := X.2.2.2.2.2.2.1
  have hK := X.2.2.2.2.2.2.2.2.1
  rw [hpre.1, hpre.2] at I
  clear hpre
  have b156 : ∀ (ls : Array Slot) (cr sr cu su : Nat) (h : hm_T) (z : hz_T) (H : Heap) (locs : List Loc), w_MarkupReader_readElement_156 dA P y0 K cr sr h z → cu + cr ≤ rc → su + sr ≤ rs → lv_has ls 5 [] → hm_I D s0 s h z H locs → W p l e { frames := fP + 9, cells := rc, slots := rs, locals := lP + 281 } s m ([.ref y0, va_rf y1, va_rf y2] : List Value).toArray below meth c H locs cu su (MQ below (ht_Q D s0 (fun vv h1 z1 => ∃ v, vv = some (.int v) ∧ K v h1 z1)) ([.ref y0, va_rf y1, va_rf y2] : List Value).toArray s rc rs (fun q => s0.heap.size ≤ q)) (F0 m 156 ls []) := by
    intro ls cr sr cu su h z H locs hF hc hs hl I
    unfold w_MarkupReader_readElement_156 at hF
    refine lv_iconst (v := 0) hx hb d257_156 (by decide) ?_
    exact ht_zret X d257_157 I (rm_r hc) (rm_r hs) ⟨_, rfl, hF⟩ rfl
  have b94 : ∀ (ls : Array Slot) (x3 : Option Nat) (w0 : Int32) (cr sr cu su : Nat) (h : hm_T) (z : hz_T) (H : Heap) (locs : List Loc), w_MarkupReader_readElement_94 dA P y0 K x3 w0 cr sr h z → cu + cr ≤ rc → su + sr ≤ rs → lv_has ls 5 [(0, .ref y0), (3, va_rf x3)] → hm_I D s0 s h z H locs → W p l e { frames := fP + 9, cells := rc, slots := rs, locals := lP + 281 } s m ([.ref y0, va_rf y1, va_rf y2] : List Value).toArray below meth c H locs cu su (MQ below (ht_Q D s0 (fun vv h1 z1 => ∃ v, vv = some (.int v) ∧ K v h1 z1)) ([.ref y0, va_rf y1, va_rf y2] : List Value).toArray s rc rs (fun q => s0.heap.size ≤ q)) (F0 m 94 ls [.int w0, .ref y0]) := by
    intro ls x3 w0 cr sr cu su h z H locs hF hc hs hl I
    unfold w_MarkupReader_readElement_94 at hF
    obtain ⟨hz9, hF⟩ := hF
    obtain ⟨fs9, c9, k9, hF⟩ := hF
    refine hm_put (ci := 6) (v := .int w0) (ty := .boolean) (C := kR6) (T := kT6) (N := 6) X I ku6 kt6 kp6 kn6 c9 rfl 5 (by decide) ms_k351 (fun _ h => h) rfl (by decide +kernel) (cg_zn hz9).1 (cg_zn hz9).2 k9 d257_94 (fun h43 H locs e9 f9 I => ?_)
    rw [← hm_eqU e9 f9] at hF
    clear e9 f9 c9 k9
    refine lv_aload_n hx hb d257_97 rfl (lv_at hl 0 rfl) ?_
    refine lv_aload_n hx hb d257_98 rfl (lv_at hl 0 rfl) ?_
    obtain ⟨fs9, v44, c9, e9, hF⟩ := hF
    refine va_get (D := D) (ci := 6) (v := .int v44) (C := kR6) (T := kT6) (N := 6) hx hb hts ku6 hown hK (hm_one I.1 c9) 0 rfl rfl 1 (by decide) (hts _ ms_k360) (fun x9 h9 => u_same (hts _ ms_k361) x9 h9) e9 d257_99 ?_
    clear e9 c9 fs9
    obtain ⟨fs9, c9, hF⟩ := hF
    refine ht_U (C := "MarkupStore$MarkupReader") (x := ⟨"MarkupStore$MarkupReader", "seen", "(I)C"⟩) (owner := "MarkupStore$TextReader") (rest := []) (as := [.int v44]) X hl (cw_TextReader_seen6 l D dA s0 hE y0 v44 h43 z _ hF) (List.forall_mem_cons.mpr ⟨ms_k384, List.forall_mem_cons.mpr ⟨ms_k385, List.forall_mem_cons.mpr ⟨ms_k387, List.forall_mem_cons.mpr ⟨ms_k388, List.forall_mem_cons.mpr ⟨ms_k14, List.forall_mem_cons.mpr ⟨ms_k389, fun _ h => absurd h List.not_mem_nil⟩⟩⟩⟩⟩⟩) rfl ⟨by decide +kernel, by decide +kernel, (by decide +kernel : (parseMethodDescriptor "(I)C").map (fun d => d.parameters.length) = some 1)⟩ (hm_recv hK I rfl c9) I ⟨rfl, rfl⟩ ⟨⟨by show _ ≤ fP + 9; omega, by show _ ≤ lP + 281; omega⟩, rm_0 hc, rm_0 hs⟩ rfl (Nat.le_of_ble_eq_true rfl) d257_102 (fun vv h46 z47 H locs hR I9 => ?_)
    obtain ⟨v45, e1, hF⟩ := hR
    subst e1
    clear I
    have I := I9
    clear I9 c9 fs9
    refine W.eq (g2 := F0 m 105 ls [.int v45]) rfl ?_
    refine lv_bipush (v := 47) hx hb d257_105 (by decide) ?_
    refine lv_icmp_ne hx hb d257_107 rfl (fun h9 => ?_) (fun h9 => ?_)
    · have hF := Eq.mp (if_neg h9) hF
      refine lv_aload_n hx hb d257_127 rfl (lv_at hl 0 rfl) ?_
      refine lv_bipush (v := 62) hx hb d257_128 (by decide) ?_
      obtain ⟨fs9, c9, hF⟩ := hF
      refine ht_U (C := "MarkupStore$MarkupReader") (x := ⟨"MarkupStore$MarkupReader", "take", "(C)Z"⟩) (owner := "MarkupStore$TextReader") (rest := []) (as := [.int 62]) X hl (cw_TextReader_take6 l D dA s0 hE y0 62 h46 z47 _ hF) (List.forall_mem_cons.mpr ⟨ms_k623, List.forall_mem_cons.mpr ⟨ms_k624, List.forall_mem_cons.mpr ⟨ms_k626, List.forall_mem_cons.mpr ⟨ms_k627, List.forall_mem_cons.mpr ⟨ms_k14, List.forall_mem_cons.mpr ⟨ms_k628, fun _ h => absurd h List.not_mem_nil⟩⟩⟩⟩⟩⟩) rfl ⟨by decide +kernel, by decide +kernel, (by decide +kernel : (parseMethodDescriptor "(C)Z").map (fun d => d.parameters.length) = some 1)⟩ (hm_recv hK I rfl c9) I ⟨rfl, rfl⟩ ⟨⟨by show _ ≤ fP + 9; omega, by show _ ≤ lP + 281; omega⟩, rm_0 hc, rm_0 hs⟩ rfl (Nat.le_of_ble_eq_true rfl) d257_130 (fun vv h49 z50 H locs hR I9 => ?_)
      obtain ⟨v48, e1, hF⟩ := hR
      subst e1
      clear I
      have I := I9
      clear I9 c9 fs9
      refine W.eq (g2 := F0 m 133 ls [.int v48]) rfl ?_
      refine lv_if_eq hx hb d257_133 rfl (fun h9 => ?_) (fun h9 => ?_)
      · have hF := Eq.mp (if_pos h9) hF
        exact b156 ls cr sr _ _ h49 z50 _ _ hF hc hs (hl.sub [] rfl) I
      · have hF := Eq.mp (if_neg h9) hF
        refine lv_aload_n hx hb d257_136 rfl (lv_at hl 0 rfl) ?_
        refine lv_aload_nR hx hb d257_137 rfl (lv_at hl 1 rfl) ?_
        obtain ⟨fs9, c9, hF⟩ := hF
        obtain ⟨c54, s55, c56, s57, ec, es, hF⟩ := hF
        refine ht_V (C := "MarkupStore$MarkupReader") (rest := []) (as := [va_rf x3]) X hl (hP y0 x3 c54 s55 h49 z50 _ hF) (List.forall_mem_cons.mpr ⟨ms_k670, List.forall_mem_cons.mpr ⟨ms_k672, List.forall_mem_cons.mpr ⟨ms_p10, List.forall_mem_cons.mpr ⟨ms_k15, List.forall_mem_cons.mpr ⟨ms_k673, fun _ h => absurd h List.not_mem_nil⟩⟩⟩⟩⟩) ⟨rfl, by decide +kernel, by decide +kernel, (by decide +kernel : (parseMethodDescriptor "(LMarkupStore$Node;)Z").map (fun d => d.parameters.length) = some 1)⟩ (hm_recv hK I rfl c9) I ⟨rfl, rfl⟩ ⟨⟨by show _ ≤ fP + 9; omega, by show _ ≤ lP + 281; omega⟩, (rm_u hc ec).1, (rm_u hs es).1⟩ rfl (Nat.le_of_ble_eq_true rfl) d257_138 (fun vv h52 z53 H locs hR I9 => ?_)
        obtain ⟨v51, e1, hF⟩ := hR
        subst e1
        clear I
        have I := I9
        clear I9 c9 fs9
        have hc := (rm_u hc ec).2
        have hs := (rm_u hs es).2
        clear ec es
        refine W.eq (g2 := F0 m 141 ls [.int v51]) rfl ?_
        refine lv_if_eq hx hb d257_141 rfl (fun h9 => ?_) (fun h9 => ?_)
        · have hF := Eq.mp (if_pos h9) hF
          exact b156 ls c56 s57 _ _ h52 z53 _ _ hF hc hs (hl.sub [] rfl) I
        · have hF := Eq.mp (if_neg h9) hF
          refine lv_aload_n hx hb d257_144 rfl (lv_at hl 0 rfl) ?_
          refine lv_aload_nR hx hb d257_145 rfl (lv_at hl 1 rfl) ?_
          obtain ⟨fs9, c9, hF⟩ := hF
          refine ht_V (C := "MarkupStore$MarkupReader") (rest := []) (as := [va_rf x3]) X hl (cw_MarkupReader_readEndTag l D dA s0 hE y0 x3 h52 z53 _ hF) (List.forall_mem_cons.mpr ⟨ms_k694, List.forall_mem_cons.mpr ⟨ms_k696, List.forall_mem_cons.mpr ⟨ms_p13, List.forall_mem_cons.mpr ⟨ms_k15, List.forall_mem_cons.mpr ⟨ms_k697, fun _ h => absurd h List.not_mem_nil⟩⟩⟩⟩⟩) ⟨rfl, by decide +kernel, by decide +kernel, (by decide +kernel : (parseMethodDescriptor "(LMarkupStore$Node;)Z").map (fun d => d.parameters.length) = some 1)⟩ (hm_recv hK I rfl c9) I ⟨rfl, rfl⟩ ⟨⟨by show _ ≤ fP + 9; omega, by show _ ≤ lP + 281; omega⟩, rm_0 hc, rm_0 hs⟩ rfl (Nat.le_of_ble_eq_true rfl) d257_146 (fun vv h59 z60 H locs hR I9 => ?_)
          obtain ⟨v58, e1, hF⟩ := hR
          subst e1
          clear I
          have I := I9
          clear I9 c9 fs9
          refine W.eq (g2 := F0 m 149 ls [.int v58]) rfl ?_
          refine lv_if_eq hx hb d257_149 rfl (fun h9 => ?_) (fun h9 => ?_)
          · have hF := Eq.mp (if_pos h9) hF
            exact b156 ls c56 s57 _ _ h59 z60 _ _ hF hc hs (hl.sub [] rfl) I
          · have hF := Eq.mp (if_neg h9) hF
            refine lv_iconst (v := 1) hx hb d257_152 (by decide) ?_
            refine lv_goto hx hb d257_153 rfl ?_
            exact ht_zret X d257_157 I (rm_r hc) (rm_r hs) ⟨_, rfl, hF⟩ rfl
    · have hF := Eq.mp (if_pos h9) hF
      refine lv_aload_n hx hb d257_110 rfl (lv_at hl 0 rfl) ?_
      refine lv_dup hx hb d257_111 rfl ?_
      obtain ⟨fs9, v61, c9, e9, hF⟩ := hF
      refine va_get (D := D) (ci := 6) (v := .int v61) (C := kR6) (T := kT6) (N := 6) hx hb hts ku6 hown hK (hm_one I.1 c9) 0 rfl rfl 1 (by decide) (hts _ ms_k360) (fun x9 h9 => u_same (hts _ ms_k361) x9 h9) e9 d257_112 ?_
      clear e9 c9 fs9
      refine lv_iconst (v := 1) hx hb d257_115 (by decide) ?_
      refine lv_iadd hx hb d257_116 ?_
      obtain ⟨fs9, c9, k9, hF⟩ := hF
      refine hm_put (ci := 6) (v := .int (v61 + 1)) (ty := .int) (C := kR6) (T := kT6) (N := 6) X I ku6 kt6 kp6 kn6 c9 rfl 1 (by decide) ms_k360 (fun x9 h9 => u_same (hts _ ms_k361) x9 h9) rfl (by decide +kernel) rfl rfl k9 d257_117 (fun h62 H locs e9 f9 I => ?_)
      rw [← hm_eqU e9 f9] at hF
      clear e9 f9 c9 k9
      refine lv_aload_n hx hb d257_120 rfl (lv_at hl 0 rfl) ?_
      refine lv_bipush (v := 62) hx hb d257_121 (by decide) ?_
      obtain ⟨fs9, c9, hF⟩ := hF
      refine ht_U (C := "MarkupStore$MarkupReader") (x := ⟨"MarkupStore$MarkupReader", "take", "(C)Z"⟩) (owner := "MarkupStore$TextReader") (rest := []) (as := [.int 62]) X hl (cw_TextReader_take6 l D dA s0 hE y0 62 h62 z47 _ hF) (List.forall_mem_cons.mpr ⟨ms_k623, List.forall_mem_cons.mpr ⟨ms_k624, List.forall_mem_cons.mpr ⟨ms_k626, List.forall_mem_cons.mpr ⟨ms_k627, List.forall_mem_cons.mpr ⟨ms_k14, List.forall_mem_cons.mpr ⟨ms_k628, fun _ h => absurd h List.not_mem_nil⟩⟩⟩⟩⟩⟩) rfl ⟨by decide +kernel, by decide +kernel, (by decide +kernel : (parseMethodDescriptor "(C)Z").map (fun d => d.parameters.length) = some 1)⟩ (hm_recv hK I rfl c9) I ⟨rfl, rfl⟩ ⟨⟨by show _ ≤ fP + 9; omega, by show _ ≤ lP + 281; omega⟩, rm_0 hc, rm_0 hs⟩ rfl (Nat.le_of_ble_eq_true rfl) d257_123 (fun vv h64 z65 H locs hR I9 => ?_)
      obtain ⟨v63, e1, hF⟩ := hR
      subst e1
      clear I
      have I := I9
      clear I9 c9 fs9
      refine W.eq (g2 := F0 m 126 ls [.int v63]) rfl ?_
      obtain ⟨hz9, hF⟩ := hF
      exact ht_zret X d257_126 I (rm_r hc) (rm_r hs) ⟨_, rfl, hF⟩ (cg_zn hz9).1
  have b89 : ∀ (ls : Array Slot) (x3 : Option Nat) (cr sr cu su : Nat) (h : hm_T) (z : hz_T) (H : Heap) (locs : List Loc), w_MarkupReader_readElement_89 dA P y0 K x3 cr sr h z → cu + cr ≤ rc → su + sr ≤ rs → lv_has ls 5 [(0, .ref y0), (3, va_rf x3)] → hm_I D s0 s h z H locs → W p l e { frames := fP + 9, cells := rc, slots := rs, locals := lP + 281 } s m ([.ref y0, va_rf y1, va_rf y2] : List Value).toArray below meth c H locs cu su (MQ below (ht_Q D s0 (fun vv h1 z1 => ∃ v, vv = some (.int v) ∧ K v h1 z1)) ([.ref y0, va_rf y1, va_rf y2] : List Value).toArray s rc rs (fun q => s0.heap.size ≤ q)) (F0 m 89 ls [.ref y0]) := by
    intro ls x3 cr sr cu su h z H locs hF hc hs hl I
    unfold w_MarkupReader_readElement_89 at hF
    refine lv_iconst (v := 1) hx hb d257_89 (by decide) ?_
    refine lv_goto hx hb d257_90 rfl ?_
    exact b94 ls x3 1 cr sr _ _ h z _ _ hF hc hs (hl.sub [0, 1] rfl) I
  have b70 : ∀ (ls : Array Slot) (x3 : Option Nat) (cr sr cu su : Nat) (h : hm_T) (z : hz_T) (H : Heap) (locs : List Loc), w_MarkupReader_readElement_70 dA P y0 K x3 cr sr h z → cu + cr ≤ rc → su + sr ≤ rs → lv_has ls 5 [(0, .ref y0), (3, va_rf x3)] → hm_I D s0 s h z H locs → W p l e { frames := fP + 9, cells := rc, slots := rs, locals := lP + 281 } s m ([.ref y0, va_rf y1, va_rf y2] : List Value).toArray below meth c H locs cu su (MQ below (ht_Q D s0 (fun vv h1 z1 => ∃ v, vv = some (.int v) ∧ K v h1 z1)) ([.ref y0, va_rf y1, va_rf y2] : List Value).toArray s rc rs (fun q => s0.heap.size ≤ q)) (F0 m 70 ls []) := by
    intro ls x3 cr sr cu su h z H locs hF hc hs hl I
    unfold w_MarkupReader_readElement_70 at hF
    refine lv_aload_n hx hb d257_70 rfl (lv_at hl 0 rfl) ?_
    refine lv_aload_n hx hb d257_71 rfl (lv_at hl 0 rfl) ?_
    obtain ⟨fs9, v42, c9, e9, hF⟩ := hF
    refine va_get (D := D) (ci := 6) (v := .int v42) (C := kR6) (T := kT6) (N := 6) hx hb hts ku6 hown hK (hm_one I.1 c9) 0 rfl rfl 5 (by decide) (hts _ ms_k351) (fun _ h => h) e9 d257_72 ?_
    clear e9 c9 fs9
    refine lv_if_ne hx hb d257_75 rfl (fun h9 => ?_) (fun h9 => ?_)
    · have hF := Eq.mp (if_neg h9) hF
      exact b89 ls x3 cr sr _ _ h z _ _ hF hc hs (hl.sub [0, 1] rfl) I
    · have hF := Eq.mp (if_pos h9) hF
      refine lv_aload_nR hx hb d257_78 rfl (lv_at hl 1 rfl) ?_
      obtain ⟨a66, e9, hF⟩ := hF
      refine W.eq (g2 := F0 m 79 ls [.ref a66, .ref y0]) (by rw [e9]; rfl) ?_
      clear e9
      obtain ⟨fs9, v67, c9, e9, hF⟩ := hF
      refine va_get (D := D) (ci := 8) (v := va_rf v67) (C := kR8) (T := kT8) (N := 9) hx hb hts ku8 hown hK (hm_one I.1 c9) 0 rfl rfl 4 (by decide) (hts _ ms_k457) (fun _ h => h) e9 d257_79 ?_
      clear e9 c9 fs9
      obtain ⟨a68, e9, hF⟩ := hF
      refine W.eq (g2 := F0 m 82 ls [.ref a68, .ref y0]) (by rw [e9]; rfl) ?_
      clear e9
      obtain ⟨d9, k9, mo9, c9, hF⟩ := hF
      refine ht_V (C := "java/util/ArrayList") (rest := [.ref y0]) (as := []) X hl (c_ALsize l D dA s0 hE a68 d9 k9 mo9) (List.forall_mem_cons.mpr ⟨ms_k669, List.forall_mem_cons.mpr ⟨ms_k595, List.forall_mem_cons.mpr ⟨ms_k596, List.forall_mem_cons.mpr ⟨ms_k18, List.forall_mem_cons.mpr ⟨ms_k597, fun _ h => absurd h List.not_mem_nil⟩⟩⟩⟩⟩) ⟨rfl, by decide +kernel, by decide +kernel, (by decide +kernel : (parseMethodDescriptor "()I").map (fun d => d.parameters.length) = some 0)⟩ (hm_recv hK I rfl c9) I c9 ⟨⟨by show _ ≤ fP + 9; omega, by show _ ≤ lP + 281; omega⟩, rm_0 hc, rm_0 hs⟩ rfl (Nat.le_of_ble_eq_true rfl) d257_82 (fun vv h9 z7 H locs hR I9 => ?_)
      obtain ⟨e1, e2, e3⟩ := hR
      rw [e2, e3] at I9
      subst e1
      clear I
      have I := I9
      clear I9 e2 e3 h9 z7
      refine W.eq (g2 := F0 m 85 ls [.int (nI k9), .ref y0]) rfl ?_
      generalize (nI k9) = v69 at hF ⊢
      refine lv_iconst (v := 3) hx hb d257_85 (by decide) ?_
      refine lv_icmp_le hx hb d257_86 rfl (fun h9 => ?_) (fun h9 => ?_)
      · have hF := Eq.mp (if_pos h9) hF
        refine lv_iconst (v := 0) hx hb d257_93 (by decide) ?_
        exact b94 ls x3 0 cr sr _ _ h z _ _ hF hc hs (hl.sub [0, 1] rfl) I
      · have hF := Eq.mp (if_neg h9) hF
        exact b89 ls x3 cr sr _ _ h z _ _ hF hc hs (hl.sub [0, 1] rfl) I
  have b29 : ∀ n9 : Nat, ∀ (ls : Array Slot) (x3 : Option Nat) (x4 : Int32) (cr sr cu su : Nat) (h : hm_T) (z : hz_T) (H : Heap) (locs : List Loc), w_MarkupReader_readElement_29 dA P y0 K n9 x3 x4 cr sr h z → cu + cr ≤ rc → su + sr ≤ rs → lv_has ls 5 [(0, .ref y0), (3, va_rf x3), (4, .int x4)] → hm_I D s0 s h z H locs → W p l e { frames := fP + 9, cells := rc, slots := rs, locals := lP + 281 } s m ([.ref y0, va_rf y1, va_rf y2] : List Value).toArray below meth c H locs cu su (MQ below (ht_Q D s0 (fun vv h1 z1 => ∃ v, vv = some (.int v) ∧ K v h1 z1)) ([.ref y0, va_rf y1, va_rf y2] : List Value).toArray s rc rs (fun q => s0.heap.size ≤ q)) (F0 m 29 ls []) := by
    intro n9
    induction n9 with
    | zero => intro ls x3 x4 cr sr cu su h z H locs hF; cases hF
    | succ n9 hk29 =>
    intro ls x3 x4 cr sr cu su h z H locs hF hc hs hl I
    unfold w_MarkupReader_readElement_29 at hF
    refine lv_iload hx hb d257_29 (lv_at hl 2 rfl) ?_
    refine lv_aload_n hx hb d257_31 rfl (lv_at hl 0 rfl) ?_
    obtain ⟨fs9, v39, c9, e9, hF⟩ := hF
    refine va_get (D := D) (ci := 6) (v := va_rf v39) (C := kR6) (T := kT6) (N := 6) hx hb hts ku6 hown hK (hm_one I.1 c9) 0 rfl rfl 0 (by decide) (hts _ ms_k355) (fun x9 h9 => u_same (hts _ ms_k356) x9 h9) e9 d257_32 ?_
    clear e9 c9 fs9
    obtain ⟨a40, e9, hF⟩ := hF
    refine W.eq (g2 := F0 m 35 ls [.ref a40, .int x4]) (by rw [e9]; rfl) ?_
    clear e9
    obtain ⟨u9, xs9, z9, hF⟩ := hF
    refine ht_V (C := "java/lang/String") (rest := [.int x4]) (as := []) X hl (c_Slen l D dA s0 hE a40 u9 xs9) (List.forall_mem_cons.mpr ⟨ms_k579, List.forall_mem_cons.mpr ⟨ms_k391, List.forall_mem_cons.mpr ⟨ms_k392, List.forall_mem_cons.mpr ⟨ms_k4, List.forall_mem_cons.mpr ⟨ms_k393, fun _ h => absurd h List.not_mem_nil⟩⟩⟩⟩⟩) ⟨rfl, by decide +kernel, by decide +kernel, (by decide +kernel : (parseMethodDescriptor "()I").map (fun d => d.parameters.length) = some 0)⟩ (hz_recv I z9) I z9 ⟨⟨by show _ ≤ fP + 9; omega, by show _ ≤ lP + 281; omega⟩, rm_0 hc, rm_0 hs⟩ rfl (Nat.le_of_ble_eq_true rfl) d257_35 (fun vv h9 z7 H locs hR I9 => ?_)
    obtain ⟨e1, e2, e3⟩ := hR
    rw [e2, e3] at I9
    subst e1
    clear I
    have I := I9
    clear I9 e2 e3 h9 z7
    refine W.eq (g2 := F0 m 38 ls [.int (nI xs9.length), .int x4]) rfl ?_
    generalize (nI xs9.length) = v41 at hF ⊢
    refine lv_icmp_ge hx hb d257_38 rfl (fun h9 => ?_) (fun h9 => ?_)
    · have hF := Eq.mp (if_pos h9) hF
      exact b70 ls x3 cr sr _ _ h z _ _ hF hc hs (hl.sub [0, 1] rfl) I
    · have hF := Eq.mp (if_neg h9) hF
      refine lv_aload_n hx hb d257_41 rfl (lv_at hl 0 rfl) ?_
      refine lv_aload_n hx hb d257_42 rfl (lv_at hl 0 rfl) ?_
      obtain ⟨fs9, v70, c9, e9, hF⟩ := hF
      refine va_get (D := D) (ci := 6) (v := .int v70) (C := kR6) (T := kT6) (N := 6) hx hb hts ku6 hown hK (hm_one I.1 c9) 0 rfl rfl 1 (by decide) (hts _ ms_k360) (fun x9 h9 => u_same (hts _ ms_k361) x9 h9) e9 d257_43 ?_
      clear e9 c9 fs9
      obtain ⟨fs9, c9, hF⟩ := hF
      refine ht_U (C := "MarkupStore$MarkupReader") (x := ⟨"MarkupStore$MarkupReader", "seen", "(I)C"⟩) (owner := "MarkupStore$TextReader") (rest := []) (as := [.int v70]) X hl (cw_TextReader_seen6 l D dA s0 hE y0 v70 h z _ hF) (List.forall_mem_cons.mpr ⟨ms_k384, List.forall_mem_cons.mpr ⟨ms_k385, List.forall_mem_cons.mpr ⟨ms_k387, List.forall_mem_cons.mpr ⟨ms_k388, List.forall_mem_cons.mpr ⟨ms_k14, List.forall_mem_cons.mpr ⟨ms_k389, fun _ h => absurd h List.not_mem_nil⟩⟩⟩⟩⟩⟩) rfl ⟨by decide +kernel, by decide +kernel, (by decide +kernel : (parseMethodDescriptor "(I)C").map (fun d => d.parameters.length) = some 1)⟩ (hm_recv hK I rfl c9) I ⟨rfl, rfl⟩ ⟨⟨by show _ ≤ fP + 9; omega, by show _ ≤ lP + 281; omega⟩, rm_0 hc, rm_0 hs⟩ rfl (Nat.le_of_ble_eq_true rfl) d257_46 (fun vv h72 z73 H locs hR I9 => ?_)
      obtain ⟨v71, e1, hF⟩ := hR
      subst e1
      clear I
      have I := I9
      clear I9 c9 fs9
      refine W.eq (g2 := F0 m 49 ls [.int v71]) rfl ?_
      refine lv_bipush (v := 32) hx hb d257_49 (by decide) ?_
      refine lv_icmp_ne hx hb d257_51 rfl (fun h9 => ?_) (fun h9 => ?_)
      · have hF := Eq.mp (if_neg h9) hF
        exact b70 ls x3 cr sr _ _ h72 z73 _ _ hF hc hs (hl.sub [0, 1] rfl) I
      · have hF := Eq.mp (if_pos h9) hF
        refine lv_aload_n hx hb d257_54 rfl (lv_at hl 0 rfl) ?_
        refine lv_aload_nR hx hb d257_55 rfl (lv_at hl 1 rfl) ?_
        obtain ⟨fs9, c9, hF⟩ := hF
        obtain ⟨c77, s78, c79, s80, ec, es, hF⟩ := hF
        refine ht_V (C := "MarkupStore$MarkupReader") (rest := []) (as := [va_rf x3]) X hl (cw_MarkupReader_readAttribute l D dA s0 hW y0 x3 c77 s78 h72 z73 _ hF) (List.forall_mem_cons.mpr ⟨ms_k580, List.forall_mem_cons.mpr ⟨ms_k582, List.forall_mem_cons.mpr ⟨ms_p6, List.forall_mem_cons.mpr ⟨ms_k15, List.forall_mem_cons.mpr ⟨ms_k583, fun _ h => absurd h List.not_mem_nil⟩⟩⟩⟩⟩) ⟨rfl, by decide +kernel, by decide +kernel, (by decide +kernel : (parseMethodDescriptor "(LMarkupStore$Node;)Z").map (fun d => d.parameters.length) = some 1)⟩ (hm_recv hK I rfl c9) I ⟨rfl, rfl⟩ ⟨⟨by show _ ≤ fP + 9; omega, by show _ ≤ lP + 281; omega⟩, (rm_u hc ec).1, (rm_u hs es).1⟩ rfl (Nat.le_of_ble_eq_true rfl) d257_56 (fun vv h75 z76 H locs hR I9 => ?_)
        obtain ⟨v74, e1, hF⟩ := hR
        subst e1
        clear I
        have I := I9
        clear I9 c9 fs9
        have hc := (rm_u hc ec).2
        have hs := (rm_u hs es).2
        clear ec es
        refine W.eq (g2 := F0 m 59 ls [.int v74]) rfl ?_
        refine lv_if_ne hx hb d257_59 rfl (fun h9 => ?_) (fun h9 => ?_)
        · have hF := Eq.mp (if_neg h9) hF
          refine lv_iinc (k := 2) (v := (x4 + 1)) hx hb d257_64 hl rfl (rfl) (by decide) (show _ = [(4, .int (x4 + 1)), (0, .ref y0), (3, va_rf x3)] by simp [cat_rf, cat_int, cat_ref, cat_null, cat_long]) (fun ls hl => ?_)
          have hl : lv_has ls 5 [(4, .int (x4 + 1)), (0, .ref y0), (3, va_rf x3)] := hl
          refine lv_goto hx hb d257_67 rfl ?_
          exact hk29 ls x3 (x4 + 1) c79 s80 _ _ h75 z76 _ _ hF hc hs (hl.sub [1, 2, 0] rfl) I
        · have hF := Eq.mp (if_pos h9) hF
          refine lv_iconst (v := 0) hx hb d257_62 (by decide) ?_
          exact ht_zret X d257_63 I (rm_r hc) (rm_r hs) ⟨_, rfl, hF⟩ rfl
  have hF := hg
  unfold w_MarkupReader_readElement at hF
  clear h z
  have hc : 0 + rc ≤ rc := by omega
  have hs : 0 + rs ≤ rs := by omega
  refine lv_aload_n hx hb d257_0 rfl (lv_at hl 0 rfl) ?_
  refine lv_dup hx hb d257_1 rfl ?_
  obtain ⟨fs9, v21, c9, e9, hF⟩ := hF
  refine va_get (D := D) (ci := 6) (v := .int v21) (C := kR6) (T := kT6) (N := 6) hx hb hts ku6 hown hK (hm_one I.1 c9) 0 rfl rfl 1 (by decide) (hts _ ms_k360) (fun x9 h9 => u_same (hts _ ms_k361) x9 h9) e9 d257_2 ?_
  clear e9 c9 fs9
  refine lv_iconst (v := 1) hx hb d257_5 (by decide) ?_
  refine lv_iadd hx hb d257_6 ?_
  obtain ⟨fs9, c9, k9, hF⟩ := hF
  refine hm_put (ci := 6) (v := .int (v21 + 1)) (ty := .int) (C := kR6) (T := kT6) (N := 6) X I ku6 kt6 kp6 kn6 c9 rfl 1 (by decide) ms_k360 (fun x9 h9 => u_same (hts _ ms_k361) x9 h9) rfl (by decide +kernel) rfl rfl k9 d257_7 (fun h22 H locs e9 f9 I => ?_)
  rw [← hm_eqU e9 f9] at hF
  clear e9 f9 c9 k9
  refine lv_aload_n hx hb d257_10 rfl (lv_at hl 0 rfl) ?_
  refine lv_iconst (v := 1) hx hb d257_11 (by decide) ?_
  refine lv_aload_nR hx hb d257_12 rfl (lv_at hl 1 rfl) ?_
  refine lv_aload_nR hx hb d257_13 rfl (lv_at hl 2 rfl) ?_
  obtain ⟨fs9, c9, hF⟩ := hF
  obtain ⟨c26, s27, c28, s29, ec, es, hF⟩ := hF
  refine ht_V (C := "MarkupStore$MarkupReader") (rest := []) (as := [.int 1, va_rf y1, va_rf y2]) X hl (cw_MarkupReader_make l D dA s0 hW y0 1 y1 y2 c26 s27 h22 z0 _ hF) (List.forall_mem_cons.mpr ⟨ms_k426, List.forall_mem_cons.mpr ⟨ms_k428, List.forall_mem_cons.mpr ⟨ms_p2, List.forall_mem_cons.mpr ⟨ms_k15, List.forall_mem_cons.mpr ⟨ms_k429, fun _ h => absurd h List.not_mem_nil⟩⟩⟩⟩⟩) ⟨rfl, by decide +kernel, by decide +kernel, (by decide +kernel : (parseMethodDescriptor "(ILMarkupStore$Node;[I)LMarkupStore$Node;").map (fun d => d.parameters.length) = some 3)⟩ (hm_recv hK I rfl c9) I ⟨rfl, rfl⟩ ⟨⟨by show _ ≤ fP + 9; omega, by show _ ≤ lP + 281; omega⟩, (rm_u hc ec).1, (rm_u hs es).1⟩ rfl (Nat.le_of_ble_eq_true rfl) d257_14 (fun vv h24 z25 H locs hR I9 => ?_)
  obtain ⟨v23, e1, hF⟩ := hR
  subst e1
  clear I
  have I := I9
  clear I9 c9 fs9
  have hc := (rm_u hc ec).2
  have hs := (rm_u hs es).2
  clear ec es
  refine W.eq (g2 := F0 m 17 ls [va_rf v23]) rfl ?_
  refine lv_astore_nR (i := 3) hx hb d257_17 rfl hl (by decide) (show _ = [(3, va_rf v23), (0, .ref y0), (1, va_rf y1), (2, va_rf y2)] by simp [cat_rf, cat_int, cat_ref, cat_null, cat_long]) (fun ls hl => ?_)
  have hl : lv_has ls 5 [(3, va_rf v23), (0, .ref y0), (1, va_rf y1), (2, va_rf y2)] := hl
  refine lv_aload_nR hx hb d257_18 rfl (lv_at hl 0 rfl) ?_
  refine lv_aload_n hx hb d257_19 rfl (lv_at hl 1 rfl) ?_
  obtain ⟨fs9, c9, hF⟩ := hF
  obtain ⟨c33, s34, c35, s36, ec, es, hF⟩ := hF
  refine ht_U (C := "MarkupStore$MarkupReader") (x := ⟨"MarkupStore$MarkupReader", "readName", "()Ljava/lang/String;"⟩) (owner := "MarkupStore$TextReader") (rest := [va_rf v23]) (as := []) X hl (cw_TextReader_readName6 l D dA s0 hW y0 c33 s34 h24 z25 _ hF) (List.forall_mem_cons.mpr ⟨ms_k541, List.forall_mem_cons.mpr ⟨ms_k542, List.forall_mem_cons.mpr ⟨ms_k544, List.forall_mem_cons.mpr ⟨ms_k545, List.forall_mem_cons.mpr ⟨ms_k14, List.forall_mem_cons.mpr ⟨ms_k546, fun _ h => absurd h List.not_mem_nil⟩⟩⟩⟩⟩⟩) rfl ⟨by decide +kernel, by decide +kernel, (by decide +kernel : (parseMethodDescriptor "()Ljava/lang/String;").map (fun d => d.parameters.length) = some 0)⟩ (hm_recv hK I rfl c9) I ⟨rfl, rfl⟩ ⟨⟨by show _ ≤ fP + 9; omega, by show _ ≤ lP + 281; omega⟩, (rm_u hc ec).1, (rm_u hs es).1⟩ rfl (by simp [cat_rf, cat_int, cat_ref, cat_null, cat_long]) d257_20 (fun vv h31 z32 H locs hR I9 => ?_)
  obtain ⟨v30, e1, hF⟩ := hR
  subst e1
  clear I
  have I := I9
  clear I9 c9 fs9
  have hc := (rm_u hc ec).2
  have hs := (rm_u hs es).2
  clear ec es
  refine W.eq (g2 := F0 m 23 ls [va_rf v30, va_rf v23]) rfl ?_
  obtain ⟨a37, e9, hF⟩ := hF
  refine W.eq (g2 := F0 m 23 ls [va_rf v30, .ref a37]) (by rw [e9]; rfl) ?_
  clear e9
  obtain ⟨fs9, c9, k9, hF⟩ := hF
  refine hm_put (ci := 8) (v := va_rf v30) (ty := (.object "java/lang/String")) (C := kR8) (T := kT8) (N := 9) X I ku8 kt8 kp8 kn8 c9 rfl 7 (by decide) ms_k469 (fun _ h => h) rfl (by decide +kernel) (by cases v30 <;> rfl) (by cases v30 <;> rfl) k9 d257_23 (fun h38 H locs e9 f9 I => ?_)
  rw [← hm_eqU e9 f9] at hF
  clear e9 f9 c9 k9
  refine lv_iconst (v := 0) hx hb d257_26 (by decide) ?_
  refine lv_istore (i := 4) hx hb d257_27 hl (by decide) (show _ = [(4, .int 0), (3, va_rf v23), (0, .ref y0), (1, va_rf y1), (2, va_rf y2)] by simp [cat_rf, cat_int, cat_ref, cat_null, cat_long]) (fun ls hl => ?_)
  have hl : lv_has ls 5 [(4, .int 0), (3, va_rf v23), (0, .ref y0), (1, va_rf y1), (2, va_rf y2)] := hl
  exact b29 mF ls v23 0 c35 s36 _ _ h38 z32 _ _ hF hc hs (hl.sub [2, 1, 0] rfl) I

def w_F_MarkupReader_readElement (dA : Nat → ClassId) : Nat → Nat → Option Nat → Option Nat → Nat → Nat → (Int32 → hm_T → hz_T → Prop) → hm_T → hz_T → Prop
  | 0, _, _, _, _, _, _, _, _ => False
  | n + 1, y0_, y1_, y2_, c, s, K, h, z => w_MarkupReader_readElement dA (w_MarkupReader_readContent dA (w_MarkupReader_readPiece dA (w_F_MarkupReader_readElement dA n))) y0_ y1_ y2_ c s K h z
theorem cw_F_MarkupReader_readElement (l : Launch) (D : va_G) (dA : Nat → ClassId) (s0 : State) (hW : ms_EW D dA s0) : ∀ n : Nat, ∀ (a0_ : Nat) (a1_ : Option Nat) (a2_ : Option Nat) (c1 s1 : Nat) (h0 : hm_T) (z0 : hz_T) (K : Int32 → hm_T → hz_T → Prop), w_F_MarkupReader_readElement dA n a0_ a1_ a2_ c1 s1 K h0 z0 → ht_C l D s0 yM257 bM257 5 (Option.some Jvm.ClassFile.FieldType.boolean) (23 * n) (704 * n) c1 s1 [.ref a0_, va_rf a1_, va_rf a2_] (fun h z => h = h0 ∧ z = z0) (fun h z vv h1 z1 => ∃ v, vv = some (.int v) ∧ K v h1 z1) := by
  intro n
  induction n with
  | zero => intro a0_ a1_ a2_ c1 s1 h0 z0 K hg; exact absurd hg (by simp [w_F_MarkupReader_readElement])
  | succ n ih =>
    intro a0_ a1_ a2_ c1 s1 h0 z0 K hg
    unfold w_F_MarkupReader_readElement at hg
    have q := cw_MarkupReader_readElement l D dA s0 hW (w_MarkupReader_readContent dA (w_MarkupReader_readPiece dA (w_F_MarkupReader_readElement dA n))) (((23 * n) + 9) + 5) (((704 * n) + 279) + 144) (fun b0_ b1_ c1 s1 h0 z0 K hg => cw_MarkupReader_readContent l D dA s0 hW (w_MarkupReader_readPiece dA (w_F_MarkupReader_readElement dA n)) ((23 * n) + 9) ((704 * n) + 279) (fun b0_ b1_ b2_ c1 s1 h0 z0 K hg => cw_MarkupReader_readPiece l D dA s0 hW (w_F_MarkupReader_readElement dA n) (23 * n) (704 * n) ih b0_ b1_ b2_ c1 s1 h0 z0 K hg) b0_ b1_ c1 s1 h0 z0 K hg) a0_ a1_ a2_ c1 s1 h0 z0 K hg
    rw [show 23 * (n + 1) = (((23 * n) + 9) + 5) + 9 by omega, show 704 * (n + 1) = (((704 * n) + 279) + 144) + 281 by omega]
    exact q
def w_T_MarkupReader_readElement (dA : Nat → ClassId) (y0 : Nat) (y1 : Option Nat) (y2 : Option Nat) (rc rs : Nat) (K : Int32 → hm_T → hz_T → Prop) (h0 : hm_T) (z0 : hz_T) : Prop := w_F_MarkupReader_readElement dA 8 y0 y1 y2 rc rs K h0 z0
theorem cw_T_MarkupReader_readElement (l : Launch) (D : va_G) (dA : Nat → ClassId) (s0 : State) (hW : ms_EW D dA s0) (y0 : Nat) (y1 : Option Nat) (y2 : Option Nat) (rc rs : Nat) (h0 : hm_T) (z0 : hz_T) (K : Int32 → hm_T → hz_T → Prop) (hg : w_T_MarkupReader_readElement dA y0 y1 y2 rc rs K h0 z0) : ht_C l D s0 yM257 bM257 5 (Option.some Jvm.ClassFile.FieldType.boolean) 184 5632 rc rs [.ref y0, va_rf y1, va_rf y2] (fun h z => h = h0 ∧ z = z0) (fun h z vv h1 z1 => ∃ v, vv = some (.int v) ∧ K v h1 z1) := (cw_F_MarkupReader_readElement l D dA s0 hW 8) y0 y1 y2 rc rs h0 z0 K hg
def w_T_MarkupReader_readPiece (dA : Nat → ClassId) (y0 : Nat) (y1 : Option Nat) (y2 : Option Nat) (rc rs : Nat) (K : Int32 → hm_T → hz_T → Prop) (h0 : hm_T) (z0 : hz_T) : Prop := w_MarkupReader_readPiece dA (w_F_MarkupReader_readElement dA 8) y0 y1 y2 rc rs K h0 z0
theorem cw_T_MarkupReader_readPiece (l : Launch) (D : va_G) (dA : Nat → ClassId) (s0 : State) (hW : ms_EW D dA s0) (y0 : Nat) (y1 : Option Nat) (y2 : Option Nat) (rc rs : Nat) (h0 : hm_T) (z0 : hz_T) (K : Int32 → hm_T → hz_T → Prop) (hg : w_T_MarkupReader_readPiece dA y0 y1 y2 rc rs K h0 z0) : ht_C l D s0 yM250 bM250 4 (Option.some Jvm.ClassFile.FieldType.boolean) 193 5911 rc rs [.ref y0, va_rf y1, va_rf y2] (fun h z => h = h0 ∧ z = z0) (fun h z vv h1 z1 => ∃ v, vv = some (.int v) ∧ K v h1 z1) := (fun b0_ b1_ b2_ c1 s1 h0 z0 K hg => cw_MarkupReader_readPiece l D dA s0 hW (w_F_MarkupReader_readElement dA 8) (23 * 8) (704 * 8) (cw_F_MarkupReader_readElement l D dA s0 hW 8) b0_ b1_ b2_ c1 s1 h0 z0 K hg) y0 y1 y2 rc rs h0 z0 K hg
def w_T_MarkupReader_readContent (dA : Nat → ClassId) (y0 : Nat) (y1 : Option Nat) (rc rs : Nat) (K : Int32 → hm_T → hz_T → Prop) (h0 : hm_T) (z0 : hz_T) : Prop := w_MarkupReader_readContent dA (w_MarkupReader_readPiece dA (w_F_MarkupReader_readElement dA 8)) y0 y1 rc rs K h0 z0
theorem cw_T_MarkupReader_readContent (l : Launch) (D : va_G) (dA : Nat → ClassId) (s0 : State) (hW : ms_EW D dA s0) (y0 : Nat) (y1 : Option Nat) (rc rs : Nat) (h0 : hm_T) (z0 : hz_T) (K : Int32 → hm_T → hz_T → Prop) (hg : w_T_MarkupReader_readContent dA y0 y1 rc rs K h0 z0) : ht_C l D s0 yM249 bM249 3 (Option.some Jvm.ClassFile.FieldType.boolean) 198 6055 rc rs [.ref y0, va_rf y1] (fun h z => h = h0 ∧ z = z0) (fun h z vv h1 z1 => ∃ v, vv = some (.int v) ∧ K v h1 z1) := (fun b0_ b1_ c1 s1 h0 z0 K hg => cw_MarkupReader_readContent l D dA s0 hW (w_MarkupReader_readPiece dA (w_F_MarkupReader_readElement dA 8)) ((23 * 8) + 9) ((704 * 8) + 279) (fun b0_ b1_ b2_ c1 s1 h0 z0 K hg => cw_MarkupReader_readPiece l D dA s0 hW (w_F_MarkupReader_readElement dA 8) (23 * 8) (704 * 8) (cw_F_MarkupReader_readElement l D dA s0 hW 8) b0_ b1_ b2_ c1 s1 h0 z0 K hg) b0_ b1_ c1 s1 h0 z0 K hg) y0 y1 rc rs h0 z0 K hg
