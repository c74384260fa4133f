
def w_Path_init (dA : Nat → ClassId) (y0 : Nat) (y1 : Int32) (rc rs : Nat) (K : hm_T → hz_T → Prop) (h0 : hm_T) (z0 : hz_T) : Prop := (cg_z y1 (cg_p h0 11 0 y0 (.int y1) (fun h21 => (cg_new h21 rc rs 4 3 [.int 0, .null, .int 0] (fun q22 c24 s25 h23 => (cg_c h23 4 q22 (cg_rm c24 s25 (fun c29 s30 c31 s32 => w_ArrayList_init dA q22 c29 s30 (fun h27 z28 => (cg_p h27 11 1 y0 (.ref q22) (fun h33 => (K h33 z28)))) h23 z0))))))))
set_option maxRecDepth 100000 in
set_option maxHeartbeats 8000000 in
theorem cw_Path_init (l : Launch) (D : va_G) (dA : Nat → ClassId) (s0 : State) (hW : ms_EW D dA s0) (y0 : Nat) (y1 : Int32) (rc rs : Nat) (h0 : hm_T) (z0 : hz_T) (K : hm_T → hz_T → Prop) (hg : w_Path_init dA y0 y1 rc rs K h0 z0) : ht_C l D s0 yM234 bM234 2 (Option.none : Option Jvm.ClassFile.FieldType) (4) (72) rc rs [.ref y0, .int y1] (fun h z => h = h0 ∧ z = z0) (fun h z vv h1 z1 => vv = none ∧ K h1 z1) := by
  have hE := hW.1
  refine ht_C.mk hE.1 (by decide) (Nat.le_of_ble_eq_true rfl) [(0, .ref y0), (1, .int y1)] rfl ?_
  intro p e s m below meth c ls h z X hin hpre I hl
  have hx := X.1
  have hb := X.2.1
  have hml := X.2.2.1
  have hown : s.vm.findClass "MarkupStore$Path" = some m.cls := X.2.2.2.1
  have hts := X.2.2.2.2.2.2.1
  have hK := X.2.2.2.2.2.2.2.2.1
  rw [hpre.1, hpre.2] at I
  clear hpre
  have hF := hg
  unfold w_Path_init at hF
  clear h z
  have hc : 0 + rc ≤ rc := by omega
  have hs : 0 + rs ≤ rs := by omega
  refine lv_aload_n hx hb d234_0 rfl (lv_at hl 0 rfl) ?_
  refine W.objInit hx hb hown (hts _ ms_k896) (hts _ ms_k37) (hts _ ms_k38) rfl (by rw [hml]; exact hl.1) rfl d234_1 (Nat.le_of_ble_eq_true rfl) (Nat.le_of_ble_eq_true rfl) ?_
  refine W.eq (g2 := F0 m 4 ls []) rfl ?_
  refine lv_aload_n hx hb d234_4 rfl (lv_at hl 0 rfl) ?_
  refine lv_iload_n hx hb d234_5 rfl (lv_at hl 1 rfl) ?_
  obtain ⟨hz9, hF⟩ := hF
  obtain ⟨fs9, c9, k9, hF⟩ := hF
  refine hm_putF (ci := 11) (v := .int y1) (ty := .boolean) (C := kR11) (T := kT11) (N := 2) X I ku11 kt11 kp11 kn11 c9 rfl 0 (by decide) ms_k899 (fun _ h => h) rfl hin rfl (by decide +kernel) (cg_zn hz9).1 (cg_zn hz9).2 k9 d234_6 (fun h21 H locs e9 f9 I => ?_)
  rw [← hm_eqU e9 f9] at hF
  clear e9 f9 c9 k9
  refine lv_aload_n hx hb d234_9 rfl (lv_at hl 0 rfl) ?_
  obtain ⟨c24, s25, ec, es, hF⟩ := hF
  refine hm_mk (ci := 4) (fs := [.int 0, .null, .int 0]) (C := kR4) (T := kT4) (N := 3) X I ku4 kt4 kp4 (List.forall_mem_cons.mpr ⟨ms_k897, List.forall_mem_cons.mpr ⟨ms_k323, List.forall_mem_cons.mpr ⟨ms_k18, fun _ h => absurd h List.not_mem_nil⟩⟩⟩) rfl kz4 (rm_u hc ec).1 (rm_u hs es).1 d234_10 (fun q22 h23 H v9 e9 f9 I => ?_)
  have hF := hF q22 v9
  rw [← hm_eqU e9 f9] at hF
  clear e9 f9 v9
  have hc := (rm_u hc ec).2
  have hs := (rm_u hs es).2
  clear ec es
  refine lv_dup hx hb d234_13 rfl ?_
  obtain ⟨fs9, c9, hF⟩ := hF
  obtain ⟨c29, s30, c31, s32, ec, es, hF⟩ := hF
  refine ht_I (rest := [.ref q22, .ref y0]) (as := []) X hl (cw_ArrayList_init l D dA s0 hW q22 c29 s30 h23 z0 _ hF) (List.forall_mem_cons.mpr ⟨ms_k898, List.forall_mem_cons.mpr ⟨ms_k325, List.forall_mem_cons.mpr ⟨ms_k18, List.forall_mem_cons.mpr ⟨ms_k326, fun _ h => absurd h List.not_mem_nil⟩⟩⟩⟩) rfl ⟨by decide +kernel, by decide +kernel, (by decide +kernel : (parseMethodDescriptor "()V").map (fun d => d.parameters.length) = some 0)⟩ I ⟨rfl, rfl⟩ ⟨⟨Nat.le_of_ble_eq_true rfl, Nat.le_of_ble_eq_true rfl⟩, (rm_u hc ec).1, (rm_u hs es).1⟩ rfl (Nat.le_of_ble_eq_true rfl) d234_14 (fun vv h27 z28 H locs hR I9 => ?_)
  obtain ⟨e1, hF⟩ := hR
  subst e1
  clear I
  have I := I9
  clear I9 c9 fs9
  have hc := (rm_u hc ec).2
  have hs := (rm_u hs es).2
  clear ec es
  refine W.eq (g2 := F0 m 17 ls [.ref q22, .ref y0]) rfl ?_
  obtain ⟨fs9, c9, k9, hF⟩ := hF
  refine hm_putF (ci := 11) (v := .ref q22) (ty := (.object "java/util/ArrayList")) (C := kR11) (T := kT11) (N := 2) X I ku11 kt11 kp11 kn11 c9 rfl 1 (by decide) ms_k902 (fun _ h => h) rfl hin rfl (by decide +kernel) rfl rfl k9 d234_17 (fun h33 H locs e9 f9 I => ?_)
  rw [← hm_eqU e9 f9] at hF
  clear e9 f9 c9 k9
  exact ht_vret X d234_20 I (rm_r hc) (rm_r hs) ⟨rfl, hF⟩

def w_PathReader_init (dA : Nat → ClassId) (y0 : Nat) (y1 : Option Nat) (rc rs : Nat) (K : hm_T → hz_T → Prop) (h0 : hm_T) (z0 : hz_T) : Prop := (cg_c h0 10 y0 (w_TextReader_init10 dA y0 y1 (fun h22 z23 => (K h22 z23)) h0 z0))
set_option maxRecDepth 100000 in
set_option maxHeartbeats 8000000 in
theorem cw_PathReader_init (l : Launch) (D : va_G) (dA : Nat → ClassId) (s0 : State) (hW : ms_EW D dA s0) (y0 : Nat) (y1 : Option Nat) (rc rs : Nat) (h0 : hm_T) (z0 : hz_T) (K : hm_T → hz_T → Prop) (hg : w_PathReader_init dA y0 y1 rc rs K h0 z0) : ht_C l D s0 yM235 bM235 2 (Option.none : Option Jvm.ClassFile.FieldType) (2) (33) rc rs [.ref y0, va_rf y1] (fun h z => h = h0 ∧ z = z0) (fun h z vv h1 z1 => vv = none ∧ K h1 z1) := by
  have hE := hW.1
  refine ht_C.mk hE.1 (by decide) (by simp [lg_sl, cat_rf, cat_int, cat_ref, cat_null, cat_long]) [(0, .ref y0), (1, va_rf y1)] (by simp [lv_args, cat_rf, cat_int, cat_ref, cat_null, cat_long]) ?_
  intro p e s m below meth c ls h z X hin hpre I hl
  have hx := X.1
  have hb := X.2.1
  have hml := X.2.2.1
  have hown : s.vm.findClass "MarkupStore$PathReader" = some m.cls := X.2.2.2.1
  have hts := X.2.2.2.2.2.2.1
  have hK := X.2.2.2.2.2.2.2.2.1
  rw [hpre.1, hpre.2] at I
  clear hpre
  have hF := hg
  unfold w_PathReader_init at hF
  clear h z
  have hc : 0 + rc ≤ rc := by omega
  have hs : 0 + rs ≤ rs := by omega
  refine lv_aload_n hx hb d235_0 rfl (lv_at hl 0 rfl) ?_
  refine lv_aload_nR hx hb d235_1 rfl (lv_at hl 1 rfl) ?_
  obtain ⟨fs9, c9, hF⟩ := hF
  refine ht_I (rest := []) (as := [va_rf y1]) X hl (cw_TextReader_init10 l D dA s0 hE y0 y1 h0 z0 _ hF) (List.forall_mem_cons.mpr ⟨ms_k875, List.forall_mem_cons.mpr ⟨ms_k319, List.forall_mem_cons.mpr ⟨ms_k14, List.forall_mem_cons.mpr ⟨ms_k320, fun _ h => absurd h List.not_mem_nil⟩⟩⟩⟩) rfl ⟨by decide +kernel, by decide +kernel, (by decide +kernel : (parseMethodDescriptor "(Ljava/lang/String;)V").map (fun d => d.parameters.length) = some 1)⟩ I ⟨rfl, rfl⟩ ⟨⟨Nat.le_of_ble_eq_true rfl, Nat.le_of_ble_eq_true rfl⟩, rm_0 hc, rm_0 hs⟩ rfl (Nat.le_of_ble_eq_true rfl) d235_2 (fun vv h22 z23 H locs hR I9 => ?_)
  obtain ⟨e1, hF⟩ := hR
  subst e1
  clear I
  have I := I9
  clear I9 c9 fs9
  refine W.eq (g2 := F0 m 5 ls []) rfl ?_
  exact ht_vret X d235_5 I (rm_r hc) (rm_r hs) ⟨rfl, hF⟩

def w_PathReader_readPath_118 (dA : Nat → ClassId) (P : Nat → Int32 → Nat → Nat → (Option Nat → hm_T → hz_T → Prop) → hm_T → hz_T → Prop) (y0 : Nat) (K : Option Nat → hm_T → hz_T → Prop) (x2 : Option Nat) (c9 s9 : Nat) (h : hm_T) (z : hz_T) : Prop := (K x2 h z)
def w_PathReader_readPath_58 (dA : Nat → ClassId) (P : Nat → Int32 → Nat → Nat → (Option Nat → hm_T → hz_T → Prop) → hm_T → hz_T → Prop) (y0 : Nat) (K : Option Nat → hm_T → hz_T → Prop) : Nat → Int32 → Option Nat → Int32 → Nat → Nat → hm_T → hz_T → Prop
  | 0, _, _, _, _, _, _, _ => False
  | n9 + 1, x1, x2, x3, c9, s9, h, z => (cg_R h 10 0 y0 (fun v56 => (cg_d v56 (fun a57 => (jd_len z a57 (fun v58 => (if v58 ≤ x3 then (w_PathReader_readPath_118 dA P y0 K x2 c9 s9 h z) else (cg_c h 10 y0 (w_TextReader_failed10 dA y0 (fun v59 h60 z61 => (if v59 = 0 then (cg_I h60 10 1 y0 (fun v62 => (cg_c h60 10 y0 (w_TextReader_seen10 dA y0 v62 (fun v63 h64 z65 => (if v63 = 47 then (cg_I h64 10 1 y0 (fun v66 => (cg_p h64 10 1 y0 (.int (v66 + 1)) (fun h67 => (cg_d x2 (fun a68 => (cg_R h67 11 1 a68 (fun v69 => (cg_c h67 10 y0 (cg_rm c9 s9 (fun c73 s74 c75 s76 => P y0 x1 c73 s74 (fun v70 h71 z72 => (cg_d v69 (fun a77 => (cg_c h71 4 a77 (cg_rm c75 s76 (fun c81 s82 c83 s84 => w_AL_add dA a77 v70 c81 s82 (fun v78 h79 z80 => ((w_PathReader_readPath_58 dA P y0 K n9) x1 x2 (x3 + 1) c83 s84 h79 z80)) h71 z72)))))) h67 z65))))))))))) else (w_PathReader_readPath_118 dA P y0 K x2 c9 s9 h64 z65))) h60 z61)))) else (w_PathReader_readPath_118 dA P y0 K x2 c9 s9 h60 z61))) h z)))))))))
def w_PathReader_readPath_43 (dA : Nat → ClassId) (P : Nat → Int32 → Nat → Nat → (Option Nat → hm_T → hz_T → Prop) → hm_T → hz_T → Prop) (y0 : Nat) (K : Option Nat → hm_T → hz_T → Prop) (x1 : Int32) (x2 : Option Nat) (c9 s9 : Nat) (h : hm_T) (z : hz_T) : Prop := (cg_d x2 (fun a39 => (cg_R h 11 1 a39 (fun v40 => (cg_c h 10 y0 (cg_rm c9 s9 (fun c44 s45 c46 s47 => P y0 x1 c44 s45 (fun v41 h42 z43 => (cg_d v40 (fun a48 => (cg_c h42 4 a48 (cg_rm c46 s47 (fun c52 s53 c54 s55 => w_AL_add dA a48 v41 c52 s53 (fun v49 h50 z51 => (w_PathReader_readPath_58 dA P y0 K mF x1 x2 0 c54 s55 h50 z51)) h42 z43)))))) h z)))))))
def w_PathReader_readPath_22 (dA : Nat → ClassId) (P : Nat → Int32 → Nat → Nat → (Option Nat → hm_T → hz_T → Prop) → hm_T → hz_T → Prop) (y0 : Nat) (K : Option Nat → hm_T → hz_T → Prop) (x1 : Int32) (w0 : Int32) (w1 : Option Nat) (w2 : Option Nat) (c9 s9 : Nat) (h : hm_T) (z : hz_T) : Prop := (cg_d w1 (fun a29 => (cg_c h 11 a29 (cg_rm c9 s9 (fun c33 s34 c35 s36 => w_Path_init dA a29 w0 c33 s34 (fun h31 z32 => (cg_d w2 (fun a37 => (cg_I h31 11 0 a37 (fun v38 => (if v38 = 0 then (w_PathReader_readPath_43 dA P y0 K x1 w2 c35 s36 h31 z32) else (cg_I h31 10 1 y0 (fun v85 => (cg_p h31 10 1 y0 (.int (v85 + 1)) (fun h86 => (w_PathReader_readPath_43 dA P y0 K x1 w2 c35 s36 h86 z32))))))))))) h z)))))
def w_PathReader_readPath (dA : Nat → ClassId) (P : Nat → Int32 → Nat → Nat → (Option Nat → hm_T → hz_T → Prop) → hm_T → hz_T → Prop) (y0 : Nat) (y1 : Int32) (rc rs : Nat) (K : Option Nat → hm_T → hz_T → Prop) (h0 : hm_T) (z0 : hz_T) : Prop := (cg_new h0 rc rs 11 2 [.int 0, .null] (fun q21 c23 s24 h22 => (cg_I h22 10 1 y0 (fun v25 => (cg_c h22 10 y0 (w_TextReader_seen10 dA y0 v25 (fun v26 h27 z28 => (if v26 = 47 then (w_PathReader_readPath_22 dA P y0 K y1 1 (some q21) (some q21) c23 s24 h27 z28) else (w_PathReader_readPath_22 dA P y0 K y1 0 (some q21) (some q21) c23 s24 h27 z28))) h22 z0))))))
set_option maxRecDepth 100000 in
set_option maxHeartbeats 8000000 in
theorem cw_PathReader_readPath (l : Launch) (D : va_G) (dA : Nat → ClassId) (s0 : State) (hW : ms_EW D dA s0) (P : Nat → Int32 → Nat → Nat → (Option Nat → hm_T → hz_T → Prop) → hm_T → hz_T → Prop) (fP lP : Nat) (hP : ∀ (a0_ : Nat) (a1_ : Int32) (c1 s1 : Nat) (h0 : hm_T) (z0 : hz_T) (K : Option Nat → hm_T → hz_T → Prop), P a0_ a1_ c1 s1 K h0 z0 → ht_C l D s0 yM237 bM237 4 (Option.some (Jvm.ClassFile.FieldType.object "MarkupStore$Step")) fP lP c1 s1 [.ref a0_, .int a1_] (fun h z => h = h0 ∧ z = z0) (fun h z vv h1 z1 => ∃ v, vv = some (va_rf v) ∧ K v h1 z1)) (y0 : Nat) (y1 : Int32) (rc rs : Nat) (h0 : hm_T) (z0 : hz_T) (K : Option Nat → hm_T → hz_T → Prop) (hg : w_PathReader_readPath dA P y0 y1 rc rs K h0 z0) : ht_C l D s0 yM236 bM236 4 (Option.some (Jvm.ClassFile.FieldType.object "MarkupStore$Path")) (fP + 7) (lP + 231) rc rs [.ref y0, .int y1] (fun h z => h = h0 ∧ z = z0) (fun h z vv h1 z1 => ∃ v, vv = some (va_rf v) ∧ K v h1 z1) := by
  have hE := hW.1
  refine ht_C.mk hE.1 (by decide) (Nat.le_of_ble_eq_true rfl) [(0, .ref y0), (1, .int y1)] rfl ?_
  intro p e s m below meth c ls h z X hin hpre I hl
  have hx := X.1
  have hb := X.2.1
  have hml := X.2.2.1
  have hown : s.vm.findClass "MarkupStore$PathReader" = some m.cls := X.2.2.2.1
  have hts := X.2.2.2.2.2.2.1
  have hK := X.2.2.2.2.2.2.2.2.1
  rw [hpre.1, hpre.2] at I
  clear hpre
  have b118 : ∀ (ls : Array Slot) (x2 : Option Nat) (c9 s9 cu su : Nat) (h : hm_T) (z : hz_T) (H : Heap) (locs : List Loc), w_PathReader_readPath_118 dA P y0 K x2 c9 s9 h z → cu + c9 ≤ rc → su + s9 ≤ rs → lv_has ls 4 [(2, va_rf x2)] → hm_I D s0 s h z H locs → W p l e { frames := fP + 7, cells := rc, slots := rs, locals := lP + 231 } s m ([.ref y0, .int y1] : List Value).toArray below meth c H locs cu su (MQ below (ht_Q D s0 (fun vv h1 z1 => ∃ v, vv = some (va_rf v) ∧ K v h1 z1)) ([.ref y0, .int y1] : List Value).toArray s rc rs (fun q => s0.heap.size ≤ q)) (F0 m 118 ls []) := by
    intro ls x2 c9 s9 cu su h z H locs hF hc hs hl I
    unfold w_PathReader_readPath_118 at hF
    refine lv_aload_nR hx hb d236_118 rfl (lv_at hl 0 rfl) ?_
    exact ht_aret X d236_119 I (rm_r hc) (rm_r hs) ⟨x2, rfl, hF⟩ (Or.inl ⟨_, rfl⟩) (rf_or _)
  have b58 : ∀ n9 : Nat, ∀ (ls : Array Slot) (x1 : Int32) (x2 : Option Nat) (x3 : Int32) (c9 s9 cu su : Nat) (h : hm_T) (z : hz_T) (H : Heap) (locs : List Loc), w_PathReader_readPath_58 dA P y0 K n9 x1 x2 x3 c9 s9 h z → cu + c9 ≤ rc → su + s9 ≤ rs → lv_has ls 4 [(0, .ref y0), (1, .int x1), (2, va_rf x2), (3, .int x3)] → hm_I D s0 s h z H locs → W p l e { frames := fP + 7, cells := rc, slots := rs, locals := lP + 231 } s m ([.ref y0, .int y1] : List Value).toArray below meth c H locs cu su (MQ below (ht_Q D s0 (fun vv h1 z1 => ∃ v, vv = some (va_rf v) ∧ K v h1 z1)) ([.ref y0, .int y1] : List Value).toArray s rc rs (fun q => s0.heap.size ≤ q)) (F0 m 58 ls []) := by
    intro n9
    induction n9 with
    | zero => intro ls x1 x2 x3 c9 s9 cu su h z H locs hF; cases hF
    | succ n9 hk58 =>
    intro ls x1 x2 x3 c9 s9 cu su h z H locs hF hc hs hl I
    unfold w_PathReader_readPath_58 at hF
    refine lv_iload_n hx hb d236_58 rfl (lv_at hl 3 rfl) ?_
    refine lv_aload_n hx hb d236_59 rfl (lv_at hl 0 rfl) ?_
    obtain ⟨fs9, v56, c9, e9, hF⟩ := hF
    refine va_get (D := D) (ci := 10) (v := va_rf v56) (C := kR10) (T := kT10) (N := 3) hx hb hts ku10 hown hK (hm_one I.1 c9) 0 rfl rfl 0 (by decide) (hts _ ms_k353) (fun x9 h9 => u_same (hts _ ms_k354) x9 h9) e9 d236_60 ?_
    clear e9 c9 fs9
    obtain ⟨a57, e9, hF⟩ := hF
    refine W.eq (g2 := F0 m 63 ls [.ref a57, .int x3]) (by rw [e9]; rfl) ?_
    clear e9
    obtain ⟨u9, xs9, z9, hF⟩ := hF
    refine ht_V (C := "java/lang/String") (rest := [.int x3]) (as := []) X hl (c_Slen l D dA s0 hE a57 u9 xs9) (List.forall_mem_cons.mpr ⟨ms_k1002, List.forall_mem_cons.mpr ⟨ms_k391, List.forall_mem_cons.mpr ⟨ms_k392, List.forall_mem_cons.mpr ⟨ms_k4, List.forall_mem_cons.mpr ⟨ms_k393, fun _ h => absurd h List.not_mem_nil⟩⟩⟩⟩⟩) ⟨rfl, by decide +kernel, by decide +kernel, (by decide +kernel : (parseMethodDescriptor "()I").map (fun d => d.parameters.length) = some 0)⟩ (hz_recv I z9) I z9 ⟨⟨by show _ ≤ fP + 7; omega, by show _ ≤ lP + 231; omega⟩, rm_0 hc, rm_0 hs⟩ rfl (Nat.le_of_ble_eq_true rfl) d236_63 (fun vv h9 z7 H locs hR I9 => ?_)
    obtain ⟨e1, e2, e3⟩ := hR
    rw [e2, e3] at I9
    subst e1
    clear I
    have I := I9
    clear I9 e2 e3 h9 z7
    refine W.eq (g2 := F0 m 66 ls [.int (nI xs9.length), .int x3]) rfl ?_
    generalize (nI xs9.length) = v58 at hF ⊢
    refine lv_icmp_ge hx hb d236_66 rfl (fun h9 => ?_) (fun h9 => ?_)
    · have hF := Eq.mp (if_pos h9) hF
      exact b118 ls x2 c9 s9 _ _ h z _ _ hF hc hs (hl.sub [2] rfl) I
    · have hF := Eq.mp (if_neg h9) hF
      refine lv_aload_n hx hb d236_69 rfl (lv_at hl 0 rfl) ?_
      obtain ⟨fs9, c9, hF⟩ := hF
      refine ht_U (C := "MarkupStore$PathReader") (x := ⟨"MarkupStore$PathReader", "failed", "()Z"⟩) (owner := "MarkupStore$TextReader") (rest := []) (as := []) X hl (cw_TextReader_failed10 l D dA s0 hE y0 h z _ hF) (List.forall_mem_cons.mpr ⟨ms_k1003, List.forall_mem_cons.mpr ⟨ms_k1004, List.forall_mem_cons.mpr ⟨ms_k1005, List.forall_mem_cons.mpr ⟨ms_k588, List.forall_mem_cons.mpr ⟨ms_k14, List.forall_mem_cons.mpr ⟨ms_k589, fun _ h => absurd h List.not_mem_nil⟩⟩⟩⟩⟩⟩) rfl ⟨by decide +kernel, by decide +kernel, (by decide +kernel : (parseMethodDescriptor "()Z").map (fun d => d.parameters.length) = some 0)⟩ (hm_recv hK I rfl c9) I ⟨rfl, rfl⟩ ⟨⟨by show _ ≤ fP + 7; omega, by show _ ≤ lP + 231; omega⟩, rm_0 hc, rm_0 hs⟩ rfl (Nat.le_of_ble_eq_true rfl) d236_70 (fun vv h60 z61 H locs hR I9 => ?_)
      obtain ⟨v59, e1, hF⟩ := hR
      subst e1
      clear I
      have I := I9
      clear I9 c9 fs9
      refine W.eq (g2 := F0 m 73 ls [.int v59]) rfl ?_
      refine lv_if_ne hx hb d236_73 rfl (fun h9 => ?_) (fun h9 => ?_)
      · have hF := Eq.mp (if_neg h9) hF
        exact b118 ls x2 c9 s9 _ _ h60 z61 _ _ hF hc hs (hl.sub [2] rfl) I
      · have hF := Eq.mp (if_pos h9) hF
        refine lv_aload_n hx hb d236_76 rfl (lv_at hl 0 rfl) ?_
        refine lv_aload_n hx hb d236_77 rfl (lv_at hl 0 rfl) ?_
        obtain ⟨fs9, v62, c9, e9, hF⟩ := hF
        refine va_get (D := D) (ci := 10) (v := .int v62) (C := kR10) (T := kT10) (N := 3) hx hb hts ku10 hown hK (hm_one I.1 c9) 0 rfl rfl 1 (by decide) (hts _ ms_k358) (fun x9 h9 => u_same (hts _ ms_k359) x9 h9) e9 d236_78 ?_
        clear e9 c9 fs9
        obtain ⟨fs9, c9, hF⟩ := hF
        refine ht_U (C := "MarkupStore$PathReader") (x := ⟨"MarkupStore$PathReader", "seen", "(I)C"⟩) (owner := "MarkupStore$TextReader") (rest := []) (as := [.int v62]) X hl (cw_TextReader_seen10 l D dA s0 hE y0 v62 h60 z61 _ hF) (List.forall_mem_cons.mpr ⟨ms_k890, List.forall_mem_cons.mpr ⟨ms_k891, List.forall_mem_cons.mpr ⟨ms_k892, List.forall_mem_cons.mpr ⟨ms_k388, List.forall_mem_cons.mpr ⟨ms_k14, List.forall_mem_cons.mpr ⟨ms_k389, fun _ h => absurd h List.not_mem_nil⟩⟩⟩⟩⟩⟩) rfl ⟨by decide +kernel, by decide +kernel, (by decide +kernel : (parseMethodDescriptor "(I)C").map (fun d => d.parameters.length) = some 1)⟩ (hm_recv hK I rfl c9) I ⟨rfl, rfl⟩ ⟨⟨by show _ ≤ fP + 7; omega, by show _ ≤ lP + 231; omega⟩, rm_0 hc, rm_0 hs⟩ rfl (Nat.le_of_ble_eq_true rfl) d236_81 (fun vv h64 z65 H locs hR I9 => ?_)
        obtain ⟨v63, e1, hF⟩ := hR
        subst e1
        clear I
        have I := I9
        clear I9 c9 fs9
        refine W.eq (g2 := F0 m 84 ls [.int v63]) rfl ?_
        refine lv_bipush (v := 47) hx hb d236_84 (by decide) ?_
        refine lv_icmp_ne hx hb d236_86 rfl (fun h9 => ?_) (fun h9 => ?_)
        · have hF := Eq.mp (if_neg h9) hF
          exact b118 ls x2 c9 s9 _ _ h64 z65 _ _ hF hc hs (hl.sub [2] rfl) I
        · have hF := Eq.mp (if_pos h9) hF
          refine lv_aload_n hx hb d236_89 rfl (lv_at hl 0 rfl) ?_
          refine lv_dup hx hb d236_90 rfl ?_
          obtain ⟨fs9, v66, c9, e9, hF⟩ := hF
          refine va_get (D := D) (ci := 10) (v := .int v66) (C := kR10) (T := kT10) (N := 3) hx hb hts ku10 hown hK (hm_one I.1 c9) 0 rfl rfl 1 (by decide) (hts _ ms_k358) (fun x9 h9 => u_same (hts _ ms_k359) x9 h9) e9 d236_91 ?_
          clear e9 c9 fs9
          refine lv_iconst (v := 1) hx hb d236_94 (by decide) ?_
          refine lv_iadd hx hb d236_95 ?_
          obtain ⟨fs9, c9, k9, hF⟩ := hF
          refine hm_put (ci := 10) (v := .int (v66 + 1)) (ty := .int) (C := kR10) (T := kT10) (N := 3) X I ku10 kt10 kp10 kn10 c9 rfl 1 (by decide) ms_k358 (fun x9 h9 => u_same (hts _ ms_k359) x9 h9) rfl (by decide +kernel) rfl rfl k9 d236_96 (fun h67 H locs e9 f9 I => ?_)
          rw [← hm_eqU e9 f9] at hF
          clear e9 f9 c9 k9
          refine lv_aload_nR hx hb d236_99 rfl (lv_at hl 2 rfl) ?_
          obtain ⟨a68, e9, hF⟩ := hF
          refine W.eq (g2 := F0 m 100 ls [.ref a68]) (by rw [e9]; rfl) ?_
          clear e9
          obtain ⟨fs9, v69, c9, e9, hF⟩ := hF
          refine va_get (D := D) (ci := 11) (v := va_rf v69) (C := kR11) (T := kT11) (N := 2) hx hb hts ku11 hown hK (hm_one I.1 c9) 0 rfl rfl 1 (by decide) (hts _ ms_k904) (fun _ h => h) e9 d236_100 ?_
          clear e9 c9 fs9
          refine lv_aload_n hx hb d236_103 rfl (lv_at hl 0 rfl) ?_
          refine lv_iload_n hx hb d236_104 rfl (lv_at hl 1 rfl) ?_
          obtain ⟨fs9, c9, hF⟩ := hF
          obtain ⟨c73, s74, c75, s76, ec, es, hF⟩ := hF
          refine ht_V (C := "MarkupStore$PathReader") (rest := [va_rf v69]) (as := [.int x1]) X hl (hP y0 x1 c73 s74 h67 z65 _ hF) (List.forall_mem_cons.mpr ⟨ms_k910, List.forall_mem_cons.mpr ⟨ms_k912, List.forall_mem_cons.mpr ⟨ms_p20, List.forall_mem_cons.mpr ⟨ms_k23, List.forall_mem_cons.mpr ⟨ms_k913, fun _ h => absurd h List.not_mem_nil⟩⟩⟩⟩⟩) ⟨rfl, by decide +kernel, by decide +kernel, (by decide +kernel : (parseMethodDescriptor "(I)LMarkupStore$Step;").map (fun d => d.parameters.length) = some 1)⟩ (hm_recv hK I rfl c9) I ⟨rfl, rfl⟩ ⟨⟨by show _ ≤ fP + 7; omega, by show _ ≤ lP + 231; omega⟩, (rm_u hc ec).1, (rm_u hs es).1⟩ rfl (by simp [cat_rf, cat_int, cat_ref, cat_null, cat_long]) d236_105 (fun vv h71 z72 H locs hR I9 => ?_)
          obtain ⟨v70, e1, hF⟩ := hR
          subst e1
          clear I
          have I := I9
          clear I9 c9 fs9
          have hc := (rm_u hc ec).2
          have hs := (rm_u hs es).2
          clear ec es
          refine W.eq (g2 := F0 m 108 ls [va_rf v70, va_rf v69]) rfl ?_
          obtain ⟨a77, e9, hF⟩ := hF
          refine W.eq (g2 := F0 m 108 ls [va_rf v70, .ref a77]) (by rw [e9]; rfl) ?_
          clear e9
          obtain ⟨fs9, c9, hF⟩ := hF
          obtain ⟨c81, s82, c83, s84, ec, es, hF⟩ := hF
          refine ht_V (C := "java/util/ArrayList") (rest := []) (as := [va_rf v70]) X hl (cw_AL_add l D dA s0 hW a77 v70 c81 s82 h71 z72 _ hF) (List.forall_mem_cons.mpr ⟨ms_k1077, List.forall_mem_cons.mpr ⟨ms_k495, List.forall_mem_cons.mpr ⟨ms_k496, List.forall_mem_cons.mpr ⟨ms_k18, List.forall_mem_cons.mpr ⟨ms_k497, fun _ h => absurd h List.not_mem_nil⟩⟩⟩⟩⟩) ⟨rfl, by decide +kernel, by decide +kernel, (by decide +kernel : (parseMethodDescriptor "(Ljava/lang/Object;)Z").map (fun d => d.parameters.length) = some 1)⟩ (hm_recv hK I rfl c9) I ⟨rfl, rfl⟩ ⟨⟨by show _ ≤ fP + 7; omega, by show _ ≤ lP + 231; omega⟩, (rm_u hc ec).1, (rm_u hs es).1⟩ rfl (Nat.le_of_ble_eq_true rfl) d236_108 (fun vv h79 z80 H locs hR I9 => ?_)
          obtain ⟨v78, e1, hF⟩ := hR
          subst e1
          clear I
          have I := I9
          clear I9 c9 fs9
          have hc := (rm_u hc ec).2
          have hs := (rm_u hs es).2
          clear ec es
          refine W.eq (g2 := F0 m 111 ls [.int v78]) rfl ?_
          refine lv_pop hx hb d236_111 rfl ?_
          refine lv_iinc (k := 3) (v := (x3 + 1)) hx hb d236_112 hl rfl (rfl) (by decide) (show _ = [(3, .int (x3 + 1)), (0, .ref y0), (1, .int x1), (2, va_rf x2)] by simp [cat_rf, cat_int, cat_ref, cat_null, cat_long]) (fun ls hl => ?_)
          have hl : lv_has ls 4 [(3, .int (x3 + 1)), (0, .ref y0), (1, .int x1), (2, va_rf x2)] := hl
          refine lv_goto hx hb d236_115 rfl ?_
          exact hk58 ls x1 x2 (x3 + 1) c83 s84 _ _ h79 z80 _ _ hF hc hs (hl.sub [1, 2, 3, 0] rfl) I
  have b43 : ∀ (ls : Array Slot) (x1 : Int32) (x2 : Option Nat) (c9 s9 cu su : Nat) (h : hm_T) (z : hz_T) (H : Heap) (locs : List Loc), w_PathReader_readPath_43 dA P y0 K x1 x2 c9 s9 h z → cu + c9 ≤ rc → su + s9 ≤ rs → lv_has ls 4 [(0, .ref y0), (1, .int x1), (2, va_rf x2)] → hm_I D s0 s h z H locs → W p l e { frames := fP + 7, cells := rc, slots := rs, locals := lP + 231 } s m ([.ref y0, .int y1] : List Value).toArray below meth c H locs cu su (MQ below (ht_Q D s0 (fun vv h1 z1 => ∃ v, vv = some (va_rf v) ∧ K v h1 z1)) ([.ref y0, .int y1] : List Value).toArray s rc rs (fun q => s0.heap.size ≤ q)) (F0 m 43 ls []) := by
    intro ls x1 x2 c9 s9 cu su h z H locs hF hc hs hl I
    unfold w_PathReader_readPath_43 at hF
    refine lv_aload_nR hx hb d236_43 rfl (lv_at hl 2 rfl) ?_
    obtain ⟨a39, e9, hF⟩ := hF
    refine W.eq (g2 := F0 m 44 ls [.ref a39]) (by rw [e9]; rfl) ?_
    clear e9
    obtain ⟨fs9, v40, c9, e9, hF⟩ := hF
    refine va_get (D := D) (ci := 11) (v := va_rf v40) (C := kR11) (T := kT11) (N := 2) hx hb hts ku11 hown hK (hm_one I.1 c9) 0 rfl rfl 1 (by decide) (hts _ ms_k904) (fun _ h => h) e9 d236_44 ?_
    clear e9 c9 fs9
    refine lv_aload_n hx hb d236_47 rfl (lv_at hl 0 rfl) ?_
    refine lv_iload_n hx hb d236_48 rfl (lv_at hl 1 rfl) ?_
    obtain ⟨fs9, c9, hF⟩ := hF
    obtain ⟨c44, s45, c46, s47, ec, es, hF⟩ := hF
    refine ht_V (C := "MarkupStore$PathReader") (rest := [va_rf v40]) (as := [.int x1]) X hl (hP y0 x1 c44 s45 h z _ hF) (List.forall_mem_cons.mpr ⟨ms_k910, List.forall_mem_cons.mpr ⟨ms_k912, List.forall_mem_cons.mpr ⟨ms_p20, List.forall_mem_cons.mpr ⟨ms_k23, List.forall_mem_cons.mpr ⟨ms_k913, fun _ h => absurd h List.not_mem_nil⟩⟩⟩⟩⟩) ⟨rfl, by decide +kernel, by decide +kernel, (by decide +kernel : (parseMethodDescriptor "(I)LMarkupStore$Step;").map (fun d => d.parameters.length) = some 1)⟩ (hm_recv hK I rfl c9) I ⟨rfl, rfl⟩ ⟨⟨by show _ ≤ fP + 7; omega, by show _ ≤ lP + 231; omega⟩, (rm_u hc ec).1, (rm_u hs es).1⟩ rfl (by simp [cat_rf, cat_int, cat_ref, cat_null, cat_long]) d236_49 (fun vv h42 z43 H locs hR I9 => ?_)
    obtain ⟨v41, e1, hF⟩ := hR
    subst e1
    clear I
    have I := I9
    clear I9 c9 fs9
    have hc := (rm_u hc ec).2
    have hs := (rm_u hs es).2
    clear ec es
    refine W.eq (g2 := F0 m 52 ls [va_rf v41, va_rf v40]) rfl ?_
    obtain ⟨a48, e9, hF⟩ := hF
    refine W.eq (g2 := F0 m 52 ls [va_rf v41, .ref a48]) (by rw [e9]; rfl) ?_
    clear e9
    obtain ⟨fs9, c9, hF⟩ := hF
    obtain ⟨c52, s53, c54, s55, ec, es, hF⟩ := hF
    refine ht_V (C := "java/util/ArrayList") (rest := []) (as := [va_rf v41]) X hl (cw_AL_add l D dA s0 hW a48 v41 c52 s53 h42 z43 _ hF) (List.forall_mem_cons.mpr ⟨ms_k1077, List.forall_mem_cons.mpr ⟨ms_k495, List.forall_mem_cons.mpr ⟨ms_k496, List.forall_mem_cons.mpr ⟨ms_k18, List.forall_mem_cons.mpr ⟨ms_k497, fun _ h => absurd h List.not_mem_nil⟩⟩⟩⟩⟩) ⟨rfl, by decide +kernel, by decide +kernel, (by decide +kernel : (parseMethodDescriptor "(Ljava/lang/Object;)Z").map (fun d => d.parameters.length) = some 1)⟩ (hm_recv hK I rfl c9) I ⟨rfl, rfl⟩ ⟨⟨by show _ ≤ fP + 7; omega, by show _ ≤ lP + 231; omega⟩, (rm_u hc ec).1, (rm_u hs es).1⟩ rfl (Nat.le_of_ble_eq_true rfl) d236_52 (fun vv h50 z51 H locs hR I9 => ?_)
    obtain ⟨v49, e1, hF⟩ := hR
    subst e1
    clear I
    have I := I9
    clear I9 c9 fs9
    have hc := (rm_u hc ec).2
    have hs := (rm_u hs es).2
    clear ec es
    refine W.eq (g2 := F0 m 55 ls [.int v49]) rfl ?_
    refine lv_pop hx hb d236_55 rfl ?_
    refine lv_iconst (v := 0) hx hb d236_56 (by decide) ?_
    refine lv_istore_n (i := 3) hx hb d236_57 rfl hl (by decide) (show _ = [(3, .int 0), (0, .ref y0), (1, .int x1), (2, va_rf x2)] by simp [cat_rf, cat_int, cat_ref, cat_null, cat_long]) (fun ls hl => ?_)
    have hl : lv_has ls 4 [(3, .int 0), (0, .ref y0), (1, .int x1), (2, va_rf x2)] := hl
    exact b58 mF ls x1 x2 0 c54 s55 _ _ h50 z51 _ _ hF hc hs (hl.sub [1, 2, 3, 0] rfl) I
  have b22 : ∀ (ls : Array Slot) (x1 : Int32) (w0 : Int32) (w1 : Option Nat) (w2 : Option Nat) (c9 s9 cu su : Nat) (h : hm_T) (z : hz_T) (H : Heap) (locs : List Loc), w_PathReader_readPath_22 dA P y0 K x1 w0 w1 w2 c9 s9 h z → cu + c9 ≤ rc → su + s9 ≤ rs → lv_has ls 4 [(0, .ref y0), (1, .int x1)] → hm_I D s0 s h z H locs → W p l e { frames := fP + 7, cells := rc, slots := rs, locals := lP + 231 } s m ([.ref y0, .int y1] : List Value).toArray below meth c H locs cu su (MQ below (ht_Q D s0 (fun vv h1 z1 => ∃ v, vv = some (va_rf v) ∧ K v h1 z1)) ([.ref y0, .int y1] : List Value).toArray s rc rs (fun q => s0.heap.size ≤ q)) (F0 m 22 ls [.int w0, va_rf w1, va_rf w2]) := by
    intro ls x1 w0 w1 w2 c9 s9 cu su h z H locs hF hc hs hl I
    unfold w_PathReader_readPath_22 at hF
    obtain ⟨a29, e9, hF⟩ := hF
    refine W.eq (g2 := F0 m 22 ls [.int w0, .ref a29, va_rf w2]) (by rw [e9]; rfl) ?_
    clear e9
    obtain ⟨fs9, c9, hF⟩ := hF
    obtain ⟨c33, s34, c35, s36, ec, es, hF⟩ := hF
    refine ht_I (rest := [va_rf w2]) (as := [.int w0]) X hl (cw_Path_init l D dA s0 hW a29 w0 c33 s34 h z _ hF) (List.forall_mem_cons.mpr ⟨ms_k893, List.forall_mem_cons.mpr ⟨ms_k894, List.forall_mem_cons.mpr ⟨ms_k24, List.forall_mem_cons.mpr ⟨ms_k895, fun _ h => absurd h List.not_mem_nil⟩⟩⟩⟩) rfl ⟨by decide +kernel, by decide +kernel, (by decide +kernel : (parseMethodDescriptor "(Z)V").map (fun d => d.parameters.length) = some 1)⟩ I ⟨rfl, rfl⟩ ⟨⟨by show _ ≤ fP + 7; omega, by show _ ≤ lP + 231; omega⟩, (rm_u hc ec).1, (rm_u hs es).1⟩ rfl (by simp [cat_rf, cat_int, cat_ref, cat_null, cat_long]) d236_22 (fun vv h31 z32 H locs hR I9 => ?_)
    obtain ⟨e1, hF⟩ := hR
    subst e1
    clear I
    have I := I9
    clear I9 c9 fs9
    have hc := (rm_u hc ec).2
    have hs := (rm_u hs es).2
    clear ec es
    refine W.eq (g2 := F0 m 25 ls [va_rf w2]) rfl ?_
    refine lv_astore_nR hx hb d236_25 rfl hl (by decide) rfl (fun ls hl => ?_)
    have hl : lv_has ls 4 [(2, va_rf w2), (0, .ref y0), (1, .int x1)] := hl
    refine lv_aload_nR hx hb d236_26 rfl (lv_at hl 0 rfl) ?_
    obtain ⟨a37, e9, hF⟩ := hF
    refine W.eq (g2 := F0 m 27 ls [.ref a37]) (by rw [e9]; rfl) ?_
    clear e9
    obtain ⟨fs9, v38, c9, e9, hF⟩ := hF
    refine va_get (D := D) (ci := 11) (v := .int v38) (C := kR11) (T := kT11) (N := 2) hx hb hts ku11 hown hK (hm_one I.1 c9) 0 rfl rfl 0 (by decide) (hts _ ms_k900) (fun _ h => h) e9 d236_27 ?_
    clear e9 c9 fs9
    refine lv_if_eq hx hb d236_30 rfl (fun h9 => ?_) (fun h9 => ?_)
    · have hF := Eq.mp (if_pos h9) hF
      exact b43 ls x1 w2 c35 s36 _ _ h31 z32 _ _ hF hc hs (hl.sub [1, 2, 0] rfl) I
    · have hF := Eq.mp (if_neg h9) hF
      refine lv_aload_n hx hb d236_33 rfl (lv_at hl 1 rfl) ?_
      refine lv_dup hx hb d236_34 rfl ?_
      obtain ⟨fs9, v85, c9, e9, hF⟩ := hF
      refine va_get (D := D) (ci := 10) (v := .int v85) (C := kR10) (T := kT10) (N := 3) hx hb hts ku10 hown hK (hm_one I.1 c9) 0 rfl rfl 1 (by decide) (hts _ ms_k358) (fun x9 h9 => u_same (hts _ ms_k359) x9 h9) e9 d236_35 ?_
      clear e9 c9 fs9
      refine lv_iconst (v := 1) hx hb d236_38 (by decide) ?_
      refine lv_iadd hx hb d236_39 ?_
      obtain ⟨fs9, c9, k9, hF⟩ := hF
      refine hm_put (ci := 10) (v := .int (v85 + 1)) (ty := .int) (C := kR10) (T := kT10) (N := 3) X I ku10 kt10 kp10 kn10 c9 rfl 1 (by decide) ms_k358 (fun x9 h9 => u_same (hts _ ms_k359) x9 h9) rfl (by decide +kernel) rfl rfl k9 d236_40 (fun h86 H locs e9 f9 I => ?_)
      rw [← hm_eqU e9 f9] at hF
      clear e9 f9 c9 k9
      exact b43 ls x1 w2 c35 s36 _ _ h86 z32 _ _ hF hc hs (hl.sub [1, 2, 0] rfl) I
  have hF := hg
  unfold w_PathReader_readPath at hF
  clear h z
  have hc : 0 + rc ≤ rc := by omega
  have hs : 0 + rs ≤ rs := by omega
  obtain ⟨c23, s24, ec, es, hF⟩ := hF
  refine hm_mk (ci := 11) (fs := [.int 0, .null]) (C := kR11) (T := kT11) (N := 2) X I ku11 kt11 kp11 (List.forall_mem_cons.mpr ⟨ms_k888, List.forall_mem_cons.mpr ⟨ms_k889, List.forall_mem_cons.mpr ⟨ms_k24, fun _ h => absurd h List.not_mem_nil⟩⟩⟩) rfl kz11 (rm_u hc ec).1 (rm_u hs es).1 d236_0 (fun q21 h22 H v9 e9 f9 I => ?_)
  have hF := hF q21 v9
  rw [← hm_eqU e9 f9] at hF
  clear e9 f9 v9
  have hc := (rm_u hc ec).2
  have hs := (rm_u hs es).2
  clear ec es
  refine lv_dup hx hb d236_3 rfl ?_
  refine lv_aload_n hx hb d236_4 rfl (lv_at hl 0 rfl) ?_
  refine lv_aload_n hx hb d236_5 rfl (lv_at hl 0 rfl) ?_
  obtain ⟨fs9, v25, c9, e9, hF⟩ := hF
  refine va_get (D := D) (ci := 10) (v := .int v25) (C := kR10) (T := kT10) (N := 3) hx hb hts ku10 hown hK (hm_one I.1 c9) 0 rfl rfl 1 (by decide) (hts _ ms_k358) (fun x9 h9 => u_same (hts _ ms_k359) x9 h9) e9 d236_6 ?_
  clear e9 c9 fs9
  obtain ⟨fs9, c9, hF⟩ := hF
  refine ht_U (C := "MarkupStore$PathReader") (x := ⟨"MarkupStore$PathReader", "seen", "(I)C"⟩) (owner := "MarkupStore$TextReader") (rest := [.ref q21, .ref q21]) (as := [.int v25]) X hl (cw_TextReader_seen10 l D dA s0 hE y0 v25 h22 z0 _ hF) (List.forall_mem_cons.mpr ⟨ms_k890, List.forall_mem_cons.mpr ⟨ms_k891, List.forall_mem_cons.mpr ⟨ms_k892, List.forall_mem_cons.mpr ⟨ms_k388, List.forall_mem_cons.mpr ⟨ms_k14, List.forall_mem_cons.mpr ⟨ms_k389, fun _ h => absurd h List.not_mem_nil⟩⟩⟩⟩⟩⟩) rfl ⟨by decide +kernel, by decide +kernel, (by decide +kernel : (parseMethodDescriptor "(I)C").map (fun d => d.parameters.length) = some 1)⟩ (hm_recv hK I rfl c9) I ⟨rfl, rfl⟩ ⟨⟨by show _ ≤ fP + 7; omega, by show _ ≤ lP + 231; omega⟩, rm_0 hc, rm_0 hs⟩ rfl (Nat.le_of_ble_eq_true rfl) d236_9 (fun vv h27 z28 H locs hR I9 => ?_)
  obtain ⟨v26, e1, hF⟩ := hR
  subst e1
  clear I
  have I := I9
  clear I9 c9 fs9
  refine W.eq (g2 := F0 m 12 ls [.int v26, .ref q21, .ref q21]) rfl ?_
  refine lv_bipush (v := 47) hx hb d236_12 (by decide) ?_
  refine lv_icmp_ne hx hb d236_14 rfl (fun h9 => ?_) (fun h9 => ?_)
  · have hF := Eq.mp (if_neg h9) hF
    refine lv_iconst (v := 0) hx hb d236_21 (by decide) ?_
    exact b22 ls y1 0 (some q21) (some q21) c23 s24 _ _ h27 z28 _ _ hF hc hs (hl.sub [0, 1] rfl) I
  · have hF := Eq.mp (if_pos h9) hF
    refine lv_iconst (v := 1) hx hb d236_17 (by decide) ?_
    refine lv_goto hx hb d236_18 rfl ?_
    exact b22 ls y1 1 (some q21) (some q21) c23 s24 _ _ h27 z28 _ _ hF hc hs (hl.sub [0, 1] rfl) I

def w_PathReader_readComparison_100 (dA : Nat → ClassId) (y0 : Nat) (K : hm_T → hz_T → Prop) (x1 : Option Nat) (x3 : Int32) (c9 s9 : Nat) (h : hm_T) (z : hz_T) : Prop := (cg_R h 10 0 y0 (fun v46 => (cg_I h 10 1 y0 (fun v47 => (cg_d v46 (fun a48 => (cg_k c9 s9 2 146 (fun c52 s53 => w_S_sub dA a48 x3 v47 (fun v49 h50 z51 => (cg_d x1 (fun a54 => (cg_p h50 13 6 a54 (va_rf v49) (fun h55 => (cg_c h55 10 y0 (w_TextReader_take10 dA y0 39 (fun v56 h57 z58 => (K h57 z58)) h55 z51))))))) h z))))))))
def w_PathReader_readComparison_60 (dA : Nat → ClassId) (y0 : Nat) (K : hm_T → hz_T → Prop) : Nat → Option Nat → Int32 → Nat → Nat → hm_T → hz_T → Prop
  | 0, _, _, _, _, _, _ => False
  | n9 + 1, x1, x3, c9, s9, h, z => (cg_I h 10 1 y0 (fun v42 => (cg_R h 10 0 y0 (fun v43 => (cg_d v43 (fun a44 => (jd_len z a44 (fun v45 => (if v45 ≤ v42 then (w_PathReader_readComparison_100 dA y0 K x1 x3 c9 s9 h z) else (cg_I h 10 1 y0 (fun v59 => (cg_c h 10 y0 (w_TextReader_seen10 dA y0 v59 (fun v60 h61 z62 => (if v60 = 39 then (w_PathReader_readComparison_100 dA y0 K x1 x3 c9 s9 h61 z62) else (cg_I h61 10 1 y0 (fun v63 => (cg_p h61 10 1 y0 (.int (v63 + 1)) (fun h64 => ((w_PathReader_readComparison_60 dA y0 K n9) x1 x3 c9 s9 h64 z62))))))) h z)))))))))))))
def w_PathReader_readComparison (dA : Nat → ClassId) (y0 : Nat) (y1 : Option Nat) (y2 : Option Nat) (rc rs : Nat) (K : hm_T → hz_T → Prop) (h0 : hm_T) (z0 : hz_T) : Prop := (cg_c h0 10 y0 (w_TextReader_failed10 dA y0 (fun v21 h22 z23 => (if v21 = 0 then (cg_I h22 10 1 y0 (fun v24 => (cg_c h22 10 y0 (w_TextReader_seen10 dA y0 v24 (fun v25 h26 z27 => (cg_d y2 (fun a28 => (jd_idx z27 a28 v25 (fun v29 => (if 0 ≤ v29 then (cg_I h26 10 1 y0 (fun v30 => (cg_c h26 10 y0 (w_TextReader_seen10 dA y0 v30 (fun v31 h32 z33 => (cg_d y1 (fun a34 => (cg_p h32 13 5 a34 (.int v31) (fun h35 => (cg_I h35 10 1 y0 (fun v36 => (cg_p h35 10 1 y0 (.int (v36 + 1)) (fun h37 => (cg_c h37 10 y0 (w_TextReader_take10 dA y0 39 (fun v38 h39 z40 => (if v38 = 0 then (K h39 z40) else (cg_I h39 10 1 y0 (fun v41 => (w_PathReader_readComparison_60 dA y0 K mF y1 v41 rc rs h39 z40))))) h37 z33))))))))))) h26 z27)))) else (K h26 z27))))))) h22 z23)))) else (K h22 z23))) h0 z0))
set_option maxRecDepth 100000 in
set_option maxHeartbeats 8000000 in
theorem cw_PathReader_readComparison (l : Launch) (D : va_G) (dA : Nat → ClassId) (s0 : State) (hW : ms_EW D dA s0) (y0 : Nat) (y1 : Option Nat) (y2 : Option Nat) (rc rs : Nat) (h0 : hm_T) (z0 : hz_T) (K : hm_T → hz_T → Prop) (hg : w_PathReader_readComparison dA y0 y1 y2 rc rs K h0 z0) : ht_C l D s0 yM238 bM238 4 (Option.none : Option Jvm.ClassFile.FieldType) (6) (192) rc rs [.ref y0, va_rf y1, va_rf y2] (fun h z => h = h0 ∧ z = z0) (fun h z vv h1 z1 => vv = none ∧ K h1 z1) := by
  have hE := hW.1
  refine ht_C.mk hE.1 (by decide) (by simp [lg_sl, cat_rf, cat_int, cat_ref, cat_null, cat_long]) [(0, .ref y0), (1, va_rf y1), (2, va_rf y2)] (by simp [lv_args, cat_rf, cat_int, cat_ref, cat_null, cat_long]) ?_
  intro p e s m below meth c ls h z X hin hpre I hl
  have hx := X.1
  have hb := X.2.1
  have hml := X.2.2.1
  have hown : s.vm.findClass "MarkupStore$PathReader" = some m.cls := X.2.2.2.1
  have hts := X.2.2.2.2.2.2.1
  have hK := X.2.2.2.2.2.2.2.2.1
  rw [hpre.1, hpre.2] at I
  clear hpre
  have b100 : ∀ (ls : Array Slot) (x1 : Option Nat) (x3 : Int32) (c9 s9 cu su : Nat) (h : hm_T) (z : hz_T) (H : Heap) (locs : List Loc), w_PathReader_readComparison_100 dA y0 K x1 x3 c9 s9 h z → cu + c9 ≤ rc → su + s9 ≤ rs → lv_has ls 4 [(0, .ref y0), (1, va_rf x1), (3, .int x3)] → hm_I D s0 s h z H locs → W p l e { frames := 6, cells := rc, slots := rs, locals := 192 } s m ([.ref y0, va_rf y1, va_rf y2] : List Value).toArray below meth c H locs cu su (MQ below (ht_Q D s0 (fun vv h1 z1 => vv = none ∧ K h1 z1)) ([.ref y0, va_rf y1, va_rf y2] : List Value).toArray s rc rs (fun q => s0.heap.size ≤ q)) (F0 m 100 ls []) := by
    intro ls x1 x3 c9 s9 cu su h z H locs hF hc hs hl I
    unfold w_PathReader_readComparison_100 at hF
    refine lv_aload_nR hx hb d238_100 rfl (lv_at hl 1 rfl) ?_
    refine lv_aload_n hx hb d238_101 rfl (lv_at hl 0 rfl) ?_
    obtain ⟨fs9, v46, c9, e9, hF⟩ := hF
    refine va_get (D := D) (ci := 10) (v := va_rf v46) (C := kR10) (T := kT10) (N := 3) hx hb hts ku10 hown hK (hm_one I.1 c9) 0 rfl rfl 0 (by decide) (hts _ ms_k353) (fun x9 h9 => u_same (hts _ ms_k354) x9 h9) e9 d238_102 ?_
    clear e9 c9 fs9
    refine lv_iload_n hx hb d238_105 rfl (lv_at hl 2 rfl) ?_
    refine lv_aload_n hx hb d238_106 rfl (lv_at hl 0 rfl) ?_
    obtain ⟨fs9, v47, c9, e9, hF⟩ := hF
    refine va_get (D := D) (ci := 10) (v := .int v47) (C := kR10) (T := kT10) (N := 3) hx hb hts ku10 hown hK (hm_one I.1 c9) 0 rfl rfl 1 (by decide) (hts _ ms_k358) (fun x9 h9 => u_same (hts _ ms_k359) x9 h9) e9 d238_107 ?_
    clear e9 c9 fs9
    obtain ⟨a48, e9, hF⟩ := hF
    refine W.eq (g2 := F0 m 110 ls [.int v47, .int x3, .ref a48, va_rf x1]) (by rw [e9]; rfl) ?_
    clear e9
    obtain ⟨c52, s53, ec, es, hF⟩ := hF
    obtain ⟨u9, xs9, z9⟩ := w_S_sub_z hF
    refine ht_V (C := "java/lang/String") (rest := [va_rf x1]) (as := [.int x3, .int v47]) X hl (cw_S_sub l D dA s0 hE a48 x3 v47 h z _ hF) (List.forall_mem_cons.mpr ⟨ms_k1075, List.forall_mem_cons.mpr ⟨ms_k551, List.forall_mem_cons.mpr ⟨ms_k552, List.forall_mem_cons.mpr ⟨ms_k4, List.forall_mem_cons.mpr ⟨ms_k553, fun _ h => absurd h List.not_mem_nil⟩⟩⟩⟩⟩) ⟨rfl, by decide +kernel, by decide +kernel, (by decide +kernel : (parseMethodDescriptor "(II)Ljava/lang/String;").map (fun d => d.parameters.length) = some 2)⟩ (hz_recv I z9) I ⟨rfl, rfl⟩ ⟨⟨Nat.le_of_ble_eq_true rfl, Nat.le_of_ble_eq_true rfl⟩, (rm_u hc ec).1, (rm_u hs es).1⟩ rfl (by simp [cat_rf, cat_int, cat_ref, cat_null, cat_long]) d238_110 (fun vv h50 z51 H locs hR I9 => ?_)
    obtain ⟨v49, e1, hF⟩ := hR
    subst e1
    clear I
    have I := I9
    clear I9 z9
    have hc := (rm_u hc ec).2
    have hs := (rm_u hs es).2
    clear ec es
    refine W.eq (g2 := F0 m 113 ls [va_rf v49, va_rf x1]) rfl ?_
    obtain ⟨a54, e9, hF⟩ := hF
    refine W.eq (g2 := F0 m 113 ls [va_rf v49, .ref a54]) (by rw [e9]; rfl) ?_
    clear e9
    obtain ⟨fs9, c9, k9, hF⟩ := hF
    refine hm_put (ci := 13) (v := va_rf v49) (ty := (.object "java/lang/String")) (C := kR13) (T := kT13) (N := 8) X I ku13 kt13 kp13 kn13 c9 rfl 6 (by decide) ms_k1040 (fun _ h => h) rfl (by decide +kernel) (by cases v49 <;> rfl) (by cases v49 <;> rfl) k9 d238_113 (fun h55 H locs e9 f9 I => ?_)
    rw [← hm_eqU e9 f9] at hF
    clear e9 f9 c9 k9
    refine lv_aload_n hx hb d238_116 rfl (lv_at hl 0 rfl) ?_
    refine lv_bipush (v := 39) hx hb d238_117 (by decide) ?_
    obtain ⟨fs9, c9, hF⟩ := hF
    refine ht_U (C := "MarkupStore$PathReader") (x := ⟨"MarkupStore$PathReader", "take", "(C)Z"⟩) (owner := "MarkupStore$TextReader") (rest := []) (as := [.int 39]) X hl (cw_TextReader_take10 l D dA s0 hE y0 39 h55 z51 _ hF) (List.forall_mem_cons.mpr ⟨ms_k1072, List.forall_mem_cons.mpr ⟨ms_k1073, List.forall_mem_cons.mpr ⟨ms_k1074, List.forall_mem_cons.mpr ⟨ms_k627, List.forall_mem_cons.mpr ⟨ms_k14, List.forall_mem_cons.mpr ⟨ms_k628, fun _ h => absurd h List.not_mem_nil⟩⟩⟩⟩⟩⟩) rfl ⟨by decide +kernel, by decide +kernel, (by decide +kernel : (parseMethodDescriptor "(C)Z").map (fun d => d.parameters.length) = some 1)⟩ (hm_recv hK I rfl c9) I ⟨rfl, rfl⟩ ⟨⟨Nat.le_of_ble_eq_true rfl, Nat.le_of_ble_eq_true rfl⟩, rm_0 hc, rm_0 hs⟩ rfl (Nat.le_of_ble_eq_true rfl) d238_119 (fun vv h57 z58 H locs hR I9 => ?_)
    obtain ⟨v56, e1, hF⟩ := hR
    subst e1
    clear I
    have I := I9
    clear I9 c9 fs9
    refine W.eq (g2 := F0 m 122 ls [.int v56]) rfl ?_
    refine lv_pop hx hb d238_122 rfl ?_
    exact ht_vret X d238_123 I (rm_r hc) (rm_r hs) ⟨rfl, hF⟩
  have b60 : ∀ n9 : Nat, ∀ (ls : Array Slot) (x1 : Option Nat) (x3 : Int32) (c9 s9 cu su : Nat) (h : hm_T) (z : hz_T) (H : Heap) (locs : List Loc), w_PathReader_readComparison_60 dA y0 K n9 x1 x3 c9 s9 h z → cu + c9 ≤ rc → su + s9 ≤ rs → lv_has ls 4 [(0, .ref y0), (1, va_rf x1), (3, .int x3)] → hm_I D s0 s h z H locs → W p l e { frames := 6, cells := rc, slots := rs, locals := 192 } s m ([.ref y0, va_rf y1, va_rf y2] : List Value).toArray below meth c H locs cu su (MQ below (ht_Q D s0 (fun vv h1 z1 => vv = none ∧ K h1 z1)) ([.ref y0, va_rf y1, va_rf y2] : List Value).toArray s rc rs (fun q => s0.heap.size ≤ q)) (F0 m 60 ls []) := by
    intro n9
    induction n9 with
    | zero => intro ls x1 x3 c9 s9 cu su h z H locs hF; cases hF
    | succ n9 hk60 =>
    intro ls x1 x3 c9 s9 cu su h z H locs hF hc hs hl I
    unfold w_PathReader_readComparison_60 at hF
    refine lv_aload_n hx hb d238_60 rfl (lv_at hl 0 rfl) ?_
    obtain ⟨fs9, v42, c9, e9, hF⟩ := hF
    refine va_get (D := D) (ci := 10) (v := .int v42) (C := kR10) (T := kT10) (N := 3) hx hb hts ku10 hown hK (hm_one I.1 c9) 0 rfl rfl 1 (by decide) (hts _ ms_k358) (fun x9 h9 => u_same (hts _ ms_k359) x9 h9) e9 d238_61 ?_
    clear e9 c9 fs9
    refine lv_aload_n hx hb d238_64 rfl (lv_at hl 0 rfl) ?_
    obtain ⟨fs9, v43, c9, e9, hF⟩ := hF
    refine va_get (D := D) (ci := 10) (v := va_rf v43) (C := kR10) (T := kT10) (N := 3) hx hb hts ku10 hown hK (hm_one I.1 c9) 0 rfl rfl 0 (by decide) (hts _ ms_k353) (fun x9 h9 => u_same (hts _ ms_k354) x9 h9) e9 d238_65 ?_
    clear e9 c9 fs9
    obtain ⟨a44, e9, hF⟩ := hF
    refine W.eq (g2 := F0 m 68 ls [.ref a44, .int v42]) (by rw [e9]; rfl) ?_
    clear e9
    obtain ⟨u9, xs9, z9, hF⟩ := hF
    refine ht_V (C := "java/lang/String") (rest := [.int v42]) (as := []) X hl (c_Slen l D dA s0 hE a44 u9 xs9) (List.forall_mem_cons.mpr ⟨ms_k1002, List.forall_mem_cons.mpr ⟨ms_k391, List.forall_mem_cons.mpr ⟨ms_k392, List.forall_mem_cons.mpr ⟨ms_k4, List.forall_mem_cons.mpr ⟨ms_k393, fun _ h => absurd h List.not_mem_nil⟩⟩⟩⟩⟩) ⟨rfl, by decide +kernel, by decide +kernel, (by decide +kernel : (parseMethodDescriptor "()I").map (fun d => d.parameters.length) = some 0)⟩ (hz_recv I z9) I z9 ⟨⟨Nat.le_of_ble_eq_true rfl, Nat.le_of_ble_eq_true rfl⟩, rm_0 hc, rm_0 hs⟩ rfl (Nat.le_of_ble_eq_true rfl) d238_68 (fun vv h9 z7 H locs hR I9 => ?_)
    obtain ⟨e1, e2, e3⟩ := hR
    rw [e2, e3] at I9
    subst e1
    clear I
    have I := I9
    clear I9 e2 e3 h9 z7
    refine W.eq (g2 := F0 m 71 ls [.int (nI xs9.length), .int v42]) rfl ?_
    generalize (nI xs9.length) = v45 at hF ⊢
    refine lv_icmp_ge hx hb d238_71 rfl (fun h9 => ?_) (fun h9 => ?_)
    · have hF := Eq.mp (if_pos h9) hF
      exact b100 ls x1 x3 c9 s9 _ _ h z _ _ hF hc hs (hl.sub [0, 1, 2] rfl) I
    · have hF := Eq.mp (if_neg h9) hF
      refine lv_aload_n hx hb d238_74 rfl (lv_at hl 0 rfl) ?_
      refine lv_aload_n hx hb d238_75 rfl (lv_at hl 0 rfl) ?_
      obtain ⟨fs9, v59, c9, e9, hF⟩ := hF
      refine va_get (D := D) (ci := 10) (v := .int v59) (C := kR10) (T := kT10) (N := 3) hx hb hts ku10 hown hK (hm_one I.1 c9) 0 rfl rfl 1 (by decide) (hts _ ms_k358) (fun x9 h9 => u_same (hts _ ms_k359) x9 h9) e9 d238_76 ?_
      clear e9 c9 fs9
      obtain ⟨fs9, c9, hF⟩ := hF
      refine ht_U (C := "MarkupStore$PathReader") (x := ⟨"MarkupStore$PathReader", "seen", "(I)C"⟩) (owner := "MarkupStore$TextReader") (rest := []) (as := [.int v59]) X hl (cw_TextReader_seen10 l D dA s0 hE y0 v59 h z _ hF) (List.forall_mem_cons.mpr ⟨ms_k890, List.forall_mem_cons.mpr ⟨ms_k891, List.forall_mem_cons.mpr ⟨ms_k892, List.forall_mem_cons.mpr ⟨ms_k388, List.forall_mem_cons.mpr ⟨ms_k14, List.forall_mem_cons.mpr ⟨ms_k389, fun _ h => absurd h List.not_mem_nil⟩⟩⟩⟩⟩⟩) rfl ⟨by decide +kernel, by decide +kernel, (by decide +kernel : (parseMethodDescriptor "(I)C").map (fun d => d.parameters.length) = some 1)⟩ (hm_recv hK I rfl c9) I ⟨rfl, rfl⟩ ⟨⟨Nat.le_of_ble_eq_true rfl, Nat.le_of_ble_eq_true rfl⟩, rm_0 hc, rm_0 hs⟩ rfl (Nat.le_of_ble_eq_true rfl) d238_79 (fun vv h61 z62 H locs hR I9 => ?_)
      obtain ⟨v60, e1, hF⟩ := hR
      subst e1
      clear I
      have I := I9
      clear I9 c9 fs9
      refine W.eq (g2 := F0 m 82 ls [.int v60]) rfl ?_
      refine lv_bipush (v := 39) hx hb d238_82 (by decide) ?_
      refine lv_icmp_eq hx hb d238_84 rfl (fun h9 => ?_) (fun h9 => ?_)
      · have hF := Eq.mp (if_pos h9) hF
        exact b100 ls x1 x3 c9 s9 _ _ h61 z62 _ _ hF hc hs (hl.sub [0, 1, 2] rfl) I
      · have hF := Eq.mp (if_neg h9) hF
        refine lv_aload_n hx hb d238_87 rfl (lv_at hl 0 rfl) ?_
        refine lv_dup hx hb d238_88 rfl ?_
        obtain ⟨fs9, v63, c9, e9, hF⟩ := hF
        refine va_get (D := D) (ci := 10) (v := .int v63) (C := kR10) (T := kT10) (N := 3) hx hb hts ku10 hown hK (hm_one I.1 c9) 0 rfl rfl 1 (by decide) (hts _ ms_k358) (fun x9 h9 => u_same (hts _ ms_k359) x9 h9) e9 d238_89 ?_
        clear e9 c9 fs9
        refine lv_iconst (v := 1) hx hb d238_92 (by decide) ?_
        refine lv_iadd hx hb d238_93 ?_
        obtain ⟨fs9, c9, k9, hF⟩ := hF
        refine hm_put (ci := 10) (v := .int (v63 + 1)) (ty := .int) (C := kR10) (T := kT10) (N := 3) X I ku10 kt10 kp10 kn10 c9 rfl 1 (by decide) ms_k358 (fun x9 h9 => u_same (hts _ ms_k359) x9 h9) rfl (by decide +kernel) rfl rfl k9 d238_94 (fun h64 H locs e9 f9 I => ?_)
        rw [← hm_eqU e9 f9] at hF
        clear e9 f9 c9 k9
        refine lv_goto hx hb d238_97 rfl ?_
        exact hk60 ls x1 x3 c9 s9 _ _ h64 z62 _ _ hF hc hs (hl.sub [0, 1, 2] rfl) I
  have hF := hg
  unfold w_PathReader_readComparison at hF
  clear h z
  have hc : 0 + rc ≤ rc := by omega
  have hs : 0 + rs ≤ rs := by omega
  refine lv_aload_n hx hb d238_0 rfl (lv_at hl 0 rfl) ?_
  obtain ⟨fs9, c9, hF⟩ := hF
  refine ht_U (C := "MarkupStore$PathReader") (x := ⟨"MarkupStore$PathReader", "failed", "()Z"⟩) (owner := "MarkupStore$TextReader") (rest := []) (as := []) X hl (cw_TextReader_failed10 l D dA s0 hE y0 h0 z0 _ hF) (List.forall_mem_cons.mpr ⟨ms_k1003, List.forall_mem_cons.mpr ⟨ms_k1004, List.forall_mem_cons.mpr ⟨ms_k1005, List.forall_mem_cons.mpr ⟨ms_k588, List.forall_mem_cons.mpr ⟨ms_k14, List.forall_mem_cons.mpr ⟨ms_k589, fun _ h => absurd h List.not_mem_nil⟩⟩⟩⟩⟩⟩) rfl ⟨by decide +kernel, by decide +kernel, (by decide +kernel : (parseMethodDescriptor "()Z").map (fun d => d.parameters.length) = some 0)⟩ (hm_recv hK I rfl c9) I ⟨rfl, rfl⟩ ⟨⟨Nat.le_of_ble_eq_true rfl, Nat.le_of_ble_eq_true rfl⟩, rm_0 hc, rm_0 hs⟩ rfl (Nat.le_of_ble_eq_true rfl) d238_1 (fun vv h22 z23 H locs hR I9 => ?_)
  obtain ⟨v21, e1, hF⟩ := hR
  subst e1
  clear I
  have I := I9
  clear I9 c9 fs9
  refine W.eq (g2 := F0 m 4 ls [.int v21]) rfl ?_
  refine lv_if_ne hx hb d238_4 rfl (fun h9 => ?_) (fun h9 => ?_)
  · have hF := Eq.mp (if_neg h9) hF
    exact ht_vret X d238_22 I (rm_r hc) (rm_r hs) ⟨rfl, hF⟩
  · have hF := Eq.mp (if_pos h9) hF
    refine lv_aload_nR hx hb d238_7 rfl (lv_at hl 2 rfl) ?_
    refine lv_aload_n hx hb d238_8 rfl (lv_at hl 0 rfl) ?_
    refine lv_aload_n hx hb d238_9 rfl (lv_at hl 0 rfl) ?_
    obtain ⟨fs9, v24, c9, e9, hF⟩ := hF
    refine va_get (D := D) (ci := 10) (v := .int v24) (C := kR10) (T := kT10) (N := 3) hx hb hts ku10 hown hK (hm_one I.1 c9) 0 rfl rfl 1 (by decide) (hts _ ms_k358) (fun x9 h9 => u_same (hts _ ms_k359) x9 h9) e9 d238_10 ?_
    clear e9 c9 fs9
    obtain ⟨fs9, c9, hF⟩ := hF
    refine ht_U (C := "MarkupStore$PathReader") (x := ⟨"MarkupStore$PathReader", "seen", "(I)C"⟩) (owner := "MarkupStore$TextReader") (rest := [va_rf y2]) (as := [.int v24]) X hl (cw_TextReader_seen10 l D dA s0 hE y0 v24 h22 z23 _ hF) (List.forall_mem_cons.mpr ⟨ms_k890, List.forall_mem_cons.mpr ⟨ms_k891, List.forall_mem_cons.mpr ⟨ms_k892, List.forall_mem_cons.mpr ⟨ms_k388, List.forall_mem_cons.mpr ⟨ms_k14, List.forall_mem_cons.mpr ⟨ms_k389, fun _ h => absurd h List.not_mem_nil⟩⟩⟩⟩⟩⟩) rfl ⟨by decide +kernel, by decide +kernel, (by decide +kernel : (parseMethodDescriptor "(I)C").map (fun d => d.parameters.length) = some 1)⟩ (hm_recv hK I rfl c9) I ⟨rfl, rfl⟩ ⟨⟨Nat.le_of_ble_eq_true rfl, Nat.le_of_ble_eq_true rfl⟩, rm_0 hc, rm_0 hs⟩ rfl (by simp [cat_rf, cat_int, cat_ref, cat_null, cat_long]) d238_13 (fun vv h26 z27 H locs hR I9 => ?_)
    obtain ⟨v25, e1, hF⟩ := hR
    subst e1
    clear I
    have I := I9
    clear I9 c9 fs9
    refine W.eq (g2 := F0 m 16 ls [.int v25, va_rf y2]) rfl ?_
    obtain ⟨a28, e9, hF⟩ := hF
    refine W.eq (g2 := F0 m 16 ls [.int v25, .ref a28]) (by rw [e9]; rfl) ?_
    clear e9
    obtain ⟨u9, xs9, j9, z9, e8, p1, p2, p3, hF⟩ := hF
    refine ms_top (y := nI j9) e8 ?_
    refine ht_V (C := "java/lang/String") (rest := []) (as := [.int (nI j9)]) X hl (c_Sidx l D dA s0 hE a28 u9 xs9 j9 p1 p2 p3) (List.forall_mem_cons.mpr ⟨ms_k950, List.forall_mem_cons.mpr ⟨ms_k951, List.forall_mem_cons.mpr ⟨ms_k952, List.forall_mem_cons.mpr ⟨ms_k4, List.forall_mem_cons.mpr ⟨ms_k953, fun _ h => absurd h List.not_mem_nil⟩⟩⟩⟩⟩) ⟨rfl, by decide +kernel, by decide +kernel, (by decide +kernel : (parseMethodDescriptor "(I)I").map (fun d => d.parameters.length) = some 1)⟩ (hz_recv I z9) I z9 ⟨⟨Nat.le_of_ble_eq_true rfl, Nat.le_of_ble_eq_true rfl⟩, rm_0 hc, rm_0 hs⟩ rfl (Nat.le_of_ble_eq_true rfl) d238_16 (fun vv h9 z7 H locs hR I9 => ?_)
    obtain ⟨e1, e2, e3⟩ := hR
    rw [e2, e3] at I9
    subst e1
    clear I
    have I := I9
    clear I9 e2 e3 h9 z7
    refine W.eq (g2 := F0 m 19 ls [.int (if j9 ∈ xs9 then nI (xs9.idxOf j9) else -1)]) rfl ?_
    generalize (if j9 ∈ xs9 then nI (xs9.idxOf j9) else -1) = v29 at hF ⊢
    refine lv_if_ge hx hb d238_19 rfl (fun h9 => ?_) (fun h9 => ?_)
    · have hF := Eq.mp (if_pos h9) hF
      refine lv_aload_nR hx hb d238_23 rfl (lv_at hl 1 rfl) ?_
      refine lv_aload_n hx hb d238_24 rfl (lv_at hl 0 rfl) ?_
      refine lv_aload_n hx hb d238_25 rfl (lv_at hl 0 rfl) ?_
      obtain ⟨fs9, v30, c9, e9, hF⟩ := hF
      refine va_get (D := D) (ci := 10) (v := .int v30) (C := kR10) (T := kT10) (N := 3) hx hb hts ku10 hown hK (hm_one I.1 c9) 0 rfl rfl 1 (by decide) (hts _ ms_k358) (fun x9 h9 => u_same (hts _ ms_k359) x9 h9) e9 d238_26 ?_
      clear e9 c9 fs9
      obtain ⟨fs9, c9, hF⟩ := hF
      refine ht_U (C := "MarkupStore$PathReader") (x := ⟨"MarkupStore$PathReader", "seen", "(I)C"⟩) (owner := "MarkupStore$TextReader") (rest := [va_rf y1]) (as := [.int v30]) X hl (cw_TextReader_seen10 l D dA s0 hE y0 v30 h26 z27 _ hF) (List.forall_mem_cons.mpr ⟨ms_k890, List.forall_mem_cons.mpr ⟨ms_k891, List.forall_mem_cons.mpr ⟨ms_k892, List.forall_mem_cons.mpr ⟨ms_k388, List.forall_mem_cons.mpr ⟨ms_k14, List.forall_mem_cons.mpr ⟨ms_k389, fun _ h => absurd h List.not_mem_nil⟩⟩⟩⟩⟩⟩) rfl ⟨by decide +kernel, by decide +kernel, (by decide +kernel : (parseMethodDescriptor "(I)C").map (fun d => d.parameters.length) = some 1)⟩ (hm_recv hK I rfl c9) I ⟨rfl, rfl⟩ ⟨⟨Nat.le_of_ble_eq_true rfl, Nat.le_of_ble_eq_true rfl⟩, rm_0 hc, rm_0 hs⟩ rfl (by simp [cat_rf, cat_int, cat_ref, cat_null, cat_long]) d238_29 (fun vv h32 z33 H locs hR I9 => ?_)
      obtain ⟨v31, e1, hF⟩ := hR
      subst e1
      clear I
      have I := I9
      clear I9 c9 fs9
      refine W.eq (g2 := F0 m 32 ls [.int v31, va_rf y1]) rfl ?_
      obtain ⟨a34, e9, hF⟩ := hF
      refine W.eq (g2 := F0 m 32 ls [.int v31, .ref a34]) (by rw [e9]; rfl) ?_
      clear e9
      obtain ⟨fs9, c9, k9, hF⟩ := hF
      refine hm_put (ci := 13) (v := .int v31) (ty := .char) (C := kR13) (T := kT13) (N := 8) X I ku13 kt13 kp13 kn13 c9 rfl 5 (by decide) ms_k1037 (fun _ h => h) rfl (by decide +kernel) rfl rfl k9 d238_32 (fun h35 H locs e9 f9 I => ?_)
      rw [← hm_eqU e9 f9] at hF
      clear e9 f9 c9 k9
      refine lv_aload_n hx hb d238_35 rfl (lv_at hl 0 rfl) ?_
      refine lv_dup hx hb d238_36 rfl ?_
      obtain ⟨fs9, v36, c9, e9, hF⟩ := hF
      refine va_get (D := D) (ci := 10) (v := .int v36) (C := kR10) (T := kT10) (N := 3) hx hb hts ku10 hown hK (hm_one I.1 c9) 0 rfl rfl 1 (by decide) (hts _ ms_k358) (fun x9 h9 => u_same (hts _ ms_k359) x9 h9) e9 d238_37 ?_
      clear e9 c9 fs9
      refine lv_iconst (v := 1) hx hb d238_40 (by decide) ?_
      refine lv_iadd hx hb d238_41 ?_
      obtain ⟨fs9, c9, k9, hF⟩ := hF
      refine hm_put (ci := 10) (v := .int (v36 + 1)) (ty := .int) (C := kR10) (T := kT10) (N := 3) X I ku10 kt10 kp10 kn10 c9 rfl 1 (by decide) ms_k358 (fun x9 h9 => u_same (hts _ ms_k359) x9 h9) rfl (by decide +kernel) rfl rfl k9 d238_42 (fun h37 H locs e9 f9 I => ?_)
      rw [← hm_eqU e9 f9] at hF
      clear e9 f9 c9 k9
      refine lv_aload_n hx hb d238_45 rfl (lv_at hl 0 rfl) ?_
      refine lv_bipush (v := 39) hx hb d238_46 (by decide) ?_
      obtain ⟨fs9, c9, hF⟩ := hF
      refine ht_U (C := "MarkupStore$PathReader") (x := ⟨"MarkupStore$PathReader", "take", "(C)Z"⟩) (owner := "MarkupStore$TextReader") (rest := []) (as := [.int 39]) X hl (cw_TextReader_take10 l D dA s0 hE y0 39 h37 z33 _ hF) (List.forall_mem_cons.mpr ⟨ms_k1072, List.forall_mem_cons.mpr ⟨ms_k1073, List.forall_mem_cons.mpr ⟨ms_k1074, List.forall_mem_cons.mpr ⟨ms_k627, List.forall_mem_cons.mpr ⟨ms_k14, List.forall_mem_cons.mpr ⟨ms_k628, fun _ h => absurd h List.not_mem_nil⟩⟩⟩⟩⟩⟩) rfl ⟨by decide +kernel, by decide +kernel, (by decide +kernel : (parseMethodDescriptor "(C)Z").map (fun d => d.parameters.length) = some 1)⟩ (hm_recv hK I rfl c9) I ⟨rfl, rfl⟩ ⟨⟨Nat.le_of_ble_eq_true rfl, Nat.le_of_ble_eq_true rfl⟩, rm_0 hc, rm_0 hs⟩ rfl (Nat.le_of_ble_eq_true rfl) d238_48 (fun vv h39 z40 H locs hR I9 => ?_)
      obtain ⟨v38, e1, hF⟩ := hR
      subst e1
      clear I
      have I := I9
      clear I9 c9 fs9
      refine W.eq (g2 := F0 m 51 ls [.int v38]) rfl ?_
      refine lv_if_ne hx hb d238_51 rfl (fun h9 => ?_) (fun h9 => ?_)
      · have hF := Eq.mp (if_neg h9) hF
        refine lv_aload_n hx hb d238_55 rfl (lv_at hl 0 rfl) ?_
        obtain ⟨fs9, v41, c9, e9, hF⟩ := hF
        refine va_get (D := D) (ci := 10) (v := .int v41) (C := kR10) (T := kT10) (N := 3) hx hb hts ku10 hown hK (hm_one I.1 c9) 0 rfl rfl 1 (by decide) (hts _ ms_k358) (fun x9 h9 => u_same (hts _ ms_k359) x9 h9) e9 d238_56 ?_
        clear e9 c9 fs9
        refine lv_istore_n (i := 3) hx hb d238_59 rfl hl (by decide) (show _ = [(3, .int v41), (0, .ref y0), (1, va_rf y1), (2, va_rf y2)] by simp [cat_rf, cat_int, cat_ref, cat_null, cat_long]) (fun ls hl => ?_)
        have hl : lv_has ls 4 [(3, .int v41), (0, .ref y0), (1, va_rf y1), (2, va_rf y2)] := hl
        exact b60 mF ls y1 v41 rc rs _ _ h39 z40 _ _ hF hc hs (hl.sub [1, 2, 0] rfl) I
      · have hF := Eq.mp (if_pos h9) hF
        exact ht_vret X d238_54 I (rm_r hc) (rm_r hs) ⟨rfl, hF⟩
    · have hF := Eq.mp (if_neg h9) hF
      exact ht_vret X d238_22 I (rm_r hc) (rm_r hs) ⟨rfl, hF⟩

def w_Step_init (dA : Nat → ClassId) (y0 : Nat) (rc rs : Nat) (K : hm_T → hz_T → Prop) (h0 : hm_T) (z0 : hz_T) : Prop := (cg_p h0 12 0 y0 (.int 67) (fun h21 => (cg_p h21 12 1 y0 (.int 110) (fun h22 => (cg_lit z0 [] (fun a23 => (cg_p h22 12 2 y0 (.ref a23) (fun h24 => (cg_new h24 rc rs 4 3 [.int 0, .null, .int 0] (fun q25 c27 s28 h26 => (cg_c h26 4 q25 (cg_rm c27 s28 (fun c32 s33 c34 s35 => w_ArrayList_init dA q25 c32 s33 (fun h30 z31 => (cg_p h30 12 3 y0 (.ref q25) (fun h36 => (cg_p h36 12 4 y0 (.long (0 : Int64)) (fun h37 => (K h37 z31)))))) h26 z0)))))))))))))
set_option maxRecDepth 100000 in
set_option maxHeartbeats 8000000 in
theorem cw_Step_init (l : Launch) (D : va_G) (dA : Nat → ClassId) (s0 : State) (hW : ms_EW D dA s0) (y0 : Nat) (rc rs : Nat) (h0 : hm_T) (z0 : hz_T) (K : hm_T → hz_T → Prop) (hg : w_Step_init dA y0 rc rs K h0 z0) : ht_C l D s0 yM239 bM239 1 (Option.none : Option Jvm.ClassFile.FieldType) (4) (72) rc rs [.ref y0] (fun h z => h = h0 ∧ z = z0) (fun h z vv h1 z1 => vv = none ∧ K h1 z1) := by
  have hE := hW.1
  refine ht_C.mk hE.1 (by decide) (Nat.le_of_ble_eq_true rfl) [(0, .ref y0)] rfl ?_
  intro p e s m below meth c ls h z X hin hpre I hl
  have hx := X.1
  have hb := X.2.1
  have hml := X.2.2.1
  have hown : s.vm.findClass "MarkupStore$Step" = some m.cls := X.2.2.2.1
  have hts := X.2.2.2.2.2.2.1
  have hK := X.2.2.2.2.2.2.2.2.1
  rw [hpre.1, hpre.2] at I
  clear hpre
  have hF := hg
  unfold w_Step_init at hF
  clear h z
  have hc : 0 + rc ≤ rc := by omega
  have hs : 0 + rs ≤ rs := by omega
  refine lv_aload_n hx hb d239_0 rfl (lv_at hl 0 rfl) ?_
  refine W.objInit hx hb hown (hts _ ms_k919) (hts _ ms_k37) (hts _ ms_k38) rfl (by rw [hml]; exact hl.1) rfl d239_1 (Nat.le_of_ble_eq_true rfl) (Nat.le_of_ble_eq_true rfl) ?_
  refine W.eq (g2 := F0 m 4 ls []) rfl ?_
  refine lv_aload_n hx hb d239_4 rfl (lv_at hl 0 rfl) ?_
  refine lv_bipush (v := 67) hx hb d239_5 (by decide) ?_
  obtain ⟨fs9, c9, k9, hF⟩ := hF
  refine hm_put (ci := 12) (v := .int 67) (ty := .char) (C := kR12) (T := kT12) (N := 5) X I ku12 kt12 kp12 kn12 c9 rfl 0 (by decide) ms_k923 (fun _ h => h) rfl (by decide +kernel) rfl rfl k9 d239_7 (fun h21 H locs e9 f9 I => ?_)
  rw [← hm_eqU e9 f9] at hF
  clear e9 f9 c9 k9
  refine lv_aload_n hx hb d239_10 rfl (lv_at hl 0 rfl) ?_
  refine lv_bipush (v := 110) hx hb d239_11 (by decide) ?_
  obtain ⟨fs9, c9, k9, hF⟩ := hF
  refine hm_put (ci := 12) (v := .int 110) (ty := .char) (C := kR12) (T := kT12) (N := 5) X I ku12 kt12 kp12 kn12 c9 rfl 1 (by decide) ms_k926 (fun _ h => h) rfl (by decide +kernel) rfl rfl k9 d239_13 (fun h22 H locs e9 f9 I => ?_)
  rw [← hm_eqU e9 f9] at hF
  clear e9 f9 c9 k9
  refine lv_aload_n hx hb d239_16 rfl (lv_at hl 0 rfl) ?_
  refine hz_ldc (xs := []) hE X I 9 rfl hown d239_17 (fun a23 u9 z9 => ?_)
  have hF := hF _ _ z9
  obtain ⟨fs9, c9, k9, hF⟩ := hF
  refine hm_put (ci := 12) (v := .ref a23) (ty := (.object "java/lang/String")) (C := kR12) (T := kT12) (N := 5) X I ku12 kt12 kp12 kn12 c9 rfl 2 (by decide) ms_k928 (fun _ h => h) rfl (by decide +kernel) rfl rfl k9 d239_19 (fun h24 H locs e9 f9 I => ?_)
  rw [← hm_eqU e9 f9] at hF
  clear e9 f9 c9 k9
  refine lv_aload_n hx hb d239_22 rfl (lv_at hl 0 rfl) ?_
  obtain ⟨c27, s28, ec, es, hF⟩ := hF
  refine hm_mk (ci := 4) (fs := [.int 0, .null, .int 0]) (C := kR4) (T := kT4) (N := 3) X I ku4 kt4 kp4 (List.forall_mem_cons.mpr ⟨ms_k921, List.forall_mem_cons.mpr ⟨ms_k323, List.forall_mem_cons.mpr ⟨ms_k18, fun _ h => absurd h List.not_mem_nil⟩⟩⟩) rfl kz4 (rm_u hc ec).1 (rm_u hs es).1 d239_23 (fun q25 h26 H v9 e9 f9 I => ?_)
  have hF := hF q25 v9
  rw [← hm_eqU e9 f9] at hF
  clear e9 f9 v9
  have hc := (rm_u hc ec).2
  have hs := (rm_u hs es).2
  clear ec es
  refine lv_dup hx hb d239_26 rfl ?_
  obtain ⟨fs9, c9, hF⟩ := hF
  obtain ⟨c32, s33, c34, s35, ec, es, hF⟩ := hF
  refine ht_I (rest := [.ref q25, .ref y0]) (as := []) X hl (cw_ArrayList_init l D dA s0 hW q25 c32 s33 h26 z0 _ hF) (List.forall_mem_cons.mpr ⟨ms_k922, List.forall_mem_cons.mpr ⟨ms_k325, List.forall_mem_cons.mpr ⟨ms_k18, List.forall_mem_cons.mpr ⟨ms_k326, fun _ h => absurd h List.not_mem_nil⟩⟩⟩⟩) rfl ⟨by decide +kernel, by decide +kernel, (by decide +kernel : (parseMethodDescriptor "()V").map (fun d => d.parameters.length) = some 0)⟩ I ⟨rfl, rfl⟩ ⟨⟨Nat.le_of_ble_eq_true rfl, Nat.le_of_ble_eq_true rfl⟩, (rm_u hc ec).1, (rm_u hs es).1⟩ rfl (Nat.le_of_ble_eq_true rfl) d239_27 (fun vv h30 z31 H locs hR I9 => ?_)
  obtain ⟨e1, hF⟩ := hR
  subst e1
  clear I
  have I := I9
  clear I9 c9 fs9
  have hc := (rm_u hc ec).2
  have hs := (rm_u hs es).2
  clear ec es
  refine W.eq (g2 := F0 m 30 ls [.ref q25, .ref y0]) rfl ?_
  obtain ⟨fs9, c9, k9, hF⟩ := hF
  refine hm_putF (ci := 12) (v := .ref q25) (ty := (.object "java/util/ArrayList")) (C := kR12) (T := kT12) (N := 5) X I ku12 kt12 kp12 kn12 c9 rfl 3 (by decide) ms_k930 (fun _ h => h) rfl hin rfl (by decide +kernel) rfl rfl k9 d239_30 (fun h36 H locs e9 f9 I => ?_)
  rw [← hm_eqU e9 f9] at hF
  clear e9 f9 c9 k9
  refine lv_aload_n hx hb d239_33 rfl (lv_at hl 0 rfl) ?_
  refine lv_lconst (v := (0 : Int64)) hx hb d239_34 (by decide) ?_
  obtain ⟨fs9, c9, k9, hF⟩ := hF
  refine hm_put (ci := 12) (v := .long (0 : Int64)) (ty := .long) (C := kR12) (T := kT12) (N := 5) X I ku12 kt12 kp12 kn12 c9 rfl 4 (by decide) ms_k933 (fun _ h => h) rfl (by decide +kernel) rfl rfl k9 d239_35 (fun h37 H locs e9 f9 I => ?_)
  rw [← hm_eqU e9 f9] at hF
  clear e9 f9 c9 k9
  exact ht_vret X d239_38 I (rm_r hc) (rm_r hs) ⟨rfl, hF⟩

def w_TextReader_readName6_60 (dA : Nat → ClassId) (y0 : Nat) (K : Option Nat → hm_T → hz_T → Prop) (x1 : Int32) (c9 s9 : Nat) (h : hm_T) (z : hz_T) : Prop := (cg_R h 6 0 y0 (fun v24 => (cg_I h 6 1 y0 (fun v25 => (cg_d v24 (fun a26 => (cg_k c9 s9 2 146 (fun c30 s31 => w_S_sub dA a26 x1 v25 (fun v27 h28 z29 => (K v27 h28 z29)) h z))))))))
def w_TextReader_readName6_43 (dA : Nat → ClassId) (y0 : Nat) (K : Option Nat → hm_T → hz_T → Prop) (x1 : Int32) (c9 s9 : Nat) (h : hm_T) (z : hz_T) : Prop := (cg_I h 6 1 y0 (fun v23 => (if v23 = x1 then (cg_I h 6 1 y0 (fun v32 => (cg_c h 6 y0 (w_TextReader_failAt6 dA y0 v32 (fun v33 h34 z35 => (w_TextReader_readName6_60 dA y0 K x1 c9 s9 h34 z35)) h z)))) else (w_TextReader_readName6_60 dA y0 K x1 c9 s9 h z))))
def w_TextReader_readName6_5 (dA : Nat → ClassId) (y0 : Nat) (K : Option Nat → hm_T → hz_T → Prop) : Nat → Int32 → Nat → Nat → hm_T → hz_T → Prop
  | 0, _, _, _, _, _ => False
  | n9 + 1, x1, c9, s9, h, z => (cg_I h 6 1 y0 (fun v22 => (if 6 ≤ (v22 - x1) then (w_TextReader_readName6_43 dA y0 K x1 c9 s9 h z) else (cg_I h 6 1 y0 (fun v36 => (cg_c h 6 y0 (w_TextReader_seen6 dA y0 v36 (fun v37 h38 z39 => (w_Store_isSmallLetter dA v37 (fun v40 h41 z42 => (if v40 = 0 then (w_TextReader_readName6_43 dA y0 K x1 c9 s9 h41 z42) else (cg_I h41 6 1 y0 (fun v43 => (cg_p h41 6 1 y0 (.int (v43 + 1)) (fun h44 => ((w_TextReader_readName6_5 dA y0 K n9) x1 c9 s9 h44 z42))))))) h38 z39)) h z)))))))
def w_TextReader_readName6 (dA : Nat → ClassId) (y0 : Nat) (rc rs : Nat) (K : Option Nat → hm_T → hz_T → Prop) (h0 : hm_T) (z0 : hz_T) : Prop := (cg_I h0 6 1 y0 (fun v21 => (w_TextReader_readName6_5 dA y0 K mF v21 rc rs h0 z0)))
set_option maxRecDepth 100000 in
set_option maxHeartbeats 8000000 in
theorem cw_TextReader_readName6 (l : Launch) (D : va_G) (dA : Nat → ClassId) (s0 : State) (hW : ms_EW D dA s0) (y0 : Nat) (rc rs : Nat) (h0 : hm_T) (z0 : hz_T) (K : Option Nat → hm_T → hz_T → Prop) (hg : w_TextReader_readName6 dA y0 rc rs K h0 z0) : ht_C l D s0 yM240 bM240 2 (Option.some (Jvm.ClassFile.FieldType.object "java/lang/String")) (5) (192) rc rs [.ref y0] (fun h z => h = h0 ∧ z = z0) (fun h z vv h1 z1 => ∃ v, vv = some (va_rf v) ∧ K v h1 z1) := by
  have hE := hW.1
  refine ht_C.mk hE.1 (by decide) (Nat.le_of_ble_eq_true rfl) [(0, .ref y0)] rfl ?_
  intro p e s m below meth c ls h z X hin hpre I hl
  have hx := X.1
  have hb := X.2.1
  have hml := X.2.2.1
  have hown : s.vm.findClass "MarkupStore$TextReader" = some m.cls := X.2.2.2.1
  have hts := X.2.2.2.2.2.2.1
  have hK := X.2.2.2.2.2.2.2.2.1
  rw [hpre.1, hpre.2] at I
  clear hpre
  have b60 : ∀ (ls : Array Slot) (x1 : Int32) (c9 s9 cu su : Nat) (h : hm_T) (z : hz_T) (H : Heap) (locs : List Loc), w_TextReader_readName6_60 dA y0 K x1 c9 s9 h z → cu + c9 ≤ rc → su + s9 ≤ rs → lv_has ls 2 [(0, .ref y0), (1, .int x1)] → hm_I D s0 s h z H locs → W p l e { frames := 5, cells := rc, slots := rs, locals := 192 } s m ([.ref y0] : List Value).toArray below meth c H locs cu su (MQ below (ht_Q D s0 (fun vv h1 z1 => ∃ v, vv = some (va_rf v) ∧ K v h1 z1)) ([.ref y0] : List Value).toArray s rc rs (fun q => s0.heap.size ≤ q)) (F0 m 60 ls []) := by
    intro ls x1 c9 s9 cu su h z H locs hF hc hs hl I
    unfold w_TextReader_readName6_60 at hF
    refine lv_aload_n hx hb d240_60 rfl (lv_at hl 0 rfl) ?_
    obtain ⟨fs9, v24, c9, e9, hF⟩ := hF
    refine va_get (D := D) (ci := 6) (v := va_rf v24) (C := kR6) (T := kT6) (N := 6) hx hb hts ku6 hown hK (hm_one I.1 c9) 0 rfl rfl 0 (by decide) (hts _ ms_k352) (fun _ h => h) e9 d240_61 ?_
    clear e9 c9 fs9
    refine lv_iload_n hx hb d240_64 rfl (lv_at hl 1 rfl) ?_
    refine lv_aload_n hx hb d240_65 rfl (lv_at hl 0 rfl) ?_
    obtain ⟨fs9, v25, c9, e9, hF⟩ := hF
    refine va_get (D := D) (ci := 6) (v := .int v25) (C := kR6) (T := kT6) (N := 6) hx hb hts ku6 hown hK (hm_one I.1 c9) 0 rfl rfl 1 (by decide) (hts _ ms_k357) (fun _ h => h) e9 d240_66 ?_
    clear e9 c9 fs9
    obtain ⟨a26, e9, hF⟩ := hF
    refine W.eq (g2 := F0 m 69 ls [.int v25, .int x1, .ref a26]) (by rw [e9]; rfl) ?_
    clear e9
    obtain ⟨c30, s31, ec, es, hF⟩ := hF
    obtain ⟨u9, xs9, z9⟩ := w_S_sub_z hF
    refine ht_V (C := "java/lang/String") (rest := []) (as := [.int x1, .int v25]) X hl (cw_S_sub l D dA s0 hE a26 x1 v25 h z _ hF) (List.forall_mem_cons.mpr ⟨ms_k550, List.forall_mem_cons.mpr ⟨ms_k551, List.forall_mem_cons.mpr ⟨ms_k552, List.forall_mem_cons.mpr ⟨ms_k4, List.forall_mem_cons.mpr ⟨ms_k553, fun _ h => absurd h List.not_mem_nil⟩⟩⟩⟩⟩) ⟨rfl, by decide +kernel, by decide +kernel, (by decide +kernel : (parseMethodDescriptor "(II)Ljava/lang/String;").map (fun d => d.parameters.length) = some 2)⟩ (hz_recv I z9) I ⟨rfl, rfl⟩ ⟨⟨Nat.le_of_ble_eq_true rfl, Nat.le_of_ble_eq_true rfl⟩, (rm_u hc ec).1, (rm_u hs es).1⟩ rfl (Nat.le_of_ble_eq_true rfl) d240_69 (fun vv h28 z29 H locs hR I9 => ?_)
    obtain ⟨v27, e1, hF⟩ := hR
    subst e1
    clear I
    have I := I9
    clear I9 z9
    have hc := (rm_u hc ec).2
    have hs := (rm_u hs es).2
    clear ec es
    refine W.eq (g2 := F0 m 72 ls [va_rf v27]) rfl ?_
    exact ht_aret X d240_72 I (rm_r hc) (rm_r hs) ⟨v27, rfl, hF⟩ (Or.inl ⟨_, rfl⟩) (rf_or _)
  have b43 : ∀ (ls : Array Slot) (x1 : Int32) (c9 s9 cu su : Nat) (h : hm_T) (z : hz_T) (H : Heap) (locs : List Loc), w_TextReader_readName6_43 dA y0 K x1 c9 s9 h z → cu + c9 ≤ rc → su + s9 ≤ rs → lv_has ls 2 [(0, .ref y0), (1, .int x1)] → hm_I D s0 s h z H locs → W p l e { frames := 5, cells := rc, slots := rs, locals := 192 } s m ([.ref y0] : List Value).toArray below meth c H locs cu su (MQ below (ht_Q D s0 (fun vv h1 z1 => ∃ v, vv = some (va_rf v) ∧ K v h1 z1)) ([.ref y0] : List Value).toArray s rc rs (fun q => s0.heap.size ≤ q)) (F0 m 43 ls []) := by
    intro ls x1 c9 s9 cu su h z H locs hF hc hs hl I
    unfold w_TextReader_readName6_43 at hF
    refine lv_aload_n hx hb d240_43 rfl (lv_at hl 0 rfl) ?_
    obtain ⟨fs9, v23, c9, e9, hF⟩ := hF
    refine va_get (D := D) (ci := 6) (v := .int v23) (C := kR6) (T := kT6) (N := 6) hx hb hts ku6 hown hK (hm_one I.1 c9) 0 rfl rfl 1 (by decide) (hts _ ms_k357) (fun _ h => h) e9 d240_44 ?_
    clear e9 c9 fs9
    refine lv_iload_n hx hb d240_47 rfl (lv_at hl 1 rfl) ?_
    refine lv_icmp_ne hx hb d240_48 rfl (fun h9 => ?_) (fun h9 => ?_)
    · have hF := Eq.mp (if_neg h9) hF
      exact b60 ls x1 c9 s9 _ _ h z _ _ hF hc hs (hl.sub [0, 1] rfl) I
    · have hF := Eq.mp (if_pos h9) hF
      refine lv_aload_n hx hb d240_51 rfl (lv_at hl 0 rfl) ?_
      refine lv_aload_n hx hb d240_52 rfl (lv_at hl 0 rfl) ?_
      obtain ⟨fs9, v32, c9, e9, hF⟩ := hF
      refine va_get (D := D) (ci := 6) (v := .int v32) (C := kR6) (T := kT6) (N := 6) hx hb hts ku6 hown hK (hm_one I.1 c9) 0 rfl rfl 1 (by decide) (hts _ ms_k357) (fun _ h => h) e9 d240_53 ?_
      clear e9 c9 fs9
      obtain ⟨fs9, c9, hF⟩ := hF
      refine ht_U (C := "MarkupStore$MarkupReader") (x := ⟨"MarkupStore$TextReader", "failAt", "(I)Z"⟩) (owner := "MarkupStore$TextReader") (rest := []) (as := [.int v32]) X hl (cw_TextReader_failAt6 l D dA s0 hE y0 v32 h z _ hF) (List.forall_mem_cons.mpr ⟨ms_k549, List.forall_mem_cons.mpr ⟨ms_k1842, List.forall_mem_cons.mpr ⟨ms_k1843, List.forall_mem_cons.mpr ⟨ms_k417, List.forall_mem_cons.mpr ⟨ms_k14, List.forall_mem_cons.mpr ⟨ms_k418, fun _ h => absurd h List.not_mem_nil⟩⟩⟩⟩⟩⟩) rfl ⟨by decide +kernel, by decide +kernel, (by decide +kernel : (parseMethodDescriptor "(I)Z").map (fun d => d.parameters.length) = some 1)⟩ (hm_recv hK I rfl c9) I ⟨rfl, rfl⟩ ⟨⟨Nat.le_of_ble_eq_true rfl, Nat.le_of_ble_eq_true rfl⟩, rm_0 hc, rm_0 hs⟩ rfl (Nat.le_of_ble_eq_true rfl) d240_56 (fun vv h34 z35 H locs hR I9 => ?_)
      obtain ⟨v33, e1, hF⟩ := hR
      subst e1
      clear I
      have I := I9
      clear I9 c9 fs9
      refine W.eq (g2 := F0 m 59 ls [.int v33]) rfl ?_
      refine lv_pop hx hb d240_59 rfl ?_
      exact b60 ls x1 c9 s9 _ _ h34 z35 _ _ hF hc hs (hl.sub [0, 1] rfl) I
  have b5 : ∀ n9 : Nat, ∀ (ls : Array Slot) (x1 : Int32) (c9 s9 cu su : Nat) (h : hm_T) (z : hz_T) (H : Heap) (locs : List Loc), w_TextReader_readName6_5 dA y0 K n9 x1 c9 s9 h z → cu + c9 ≤ rc → su + s9 ≤ rs → lv_has ls 2 [(0, .ref y0), (1, .int x1)] → hm_I D s0 s h z H locs → W p l e { frames := 5, cells := rc, slots := rs, locals := 192 } s m ([.ref y0] : List Value).toArray below meth c H locs cu su (MQ below (ht_Q D s0 (fun vv h1 z1 => ∃ v, vv = some (va_rf v) ∧ K v h1 z1)) ([.ref y0] : List Value).toArray s rc rs (fun q => s0.heap.size ≤ q)) (F0 m 5 ls []) := by
    intro n9
    induction n9 with
    | zero => intro ls x1 c9 s9 cu su h z H locs hF; cases hF
    | succ n9 hk5 =>
    intro ls x1 c9 s9 cu su h z H locs hF hc hs hl I
    unfold w_TextReader_readName6_5 at hF
    refine lv_aload_n hx hb d240_5 rfl (lv_at hl 0 rfl) ?_
    obtain ⟨fs9, v22, c9, e9, hF⟩ := hF
    refine va_get (D := D) (ci := 6) (v := .int v22) (C := kR6) (T := kT6) (N := 6) hx hb hts ku6 hown hK (hm_one I.1 c9) 0 rfl rfl 1 (by decide) (hts _ ms_k357) (fun _ h => h) e9 d240_6 ?_
    clear e9 c9 fs9
    refine lv_iload_n hx hb d240_9 rfl (lv_at hl 1 rfl) ?_
    refine lv_isub hx hb d240_10 ?_
    refine lv_bipush (v := 6) hx hb d240_11 (by decide) ?_
    refine lv_icmp_ge hx hb d240_13 rfl (fun h9 => ?_) (fun h9 => ?_)
    · have hF := Eq.mp (if_pos h9) hF
      exact b43 ls x1 c9 s9 _ _ h z _ _ hF hc hs (hl.sub [0, 1] rfl) I
    · have hF := Eq.mp (if_neg h9) hF
      refine lv_aload_n hx hb d240_16 rfl (lv_at hl 0 rfl) ?_
      refine lv_aload_n hx hb d240_17 rfl (lv_at hl 0 rfl) ?_
      obtain ⟨fs9, v36, c9, e9, hF⟩ := hF
      refine va_get (D := D) (ci := 6) (v := .int v36) (C := kR6) (T := kT6) (N := 6) hx hb hts ku6 hown hK (hm_one I.1 c9) 0 rfl rfl 1 (by decide) (hts _ ms_k357) (fun _ h => h) e9 d240_18 ?_
      clear e9 c9 fs9
      obtain ⟨fs9, c9, hF⟩ := hF
      refine ht_U (C := "MarkupStore$MarkupReader") (x := ⟨"MarkupStore$TextReader", "seen", "(I)C"⟩) (owner := "MarkupStore$TextReader") (rest := []) (as := [.int v36]) X hl (cw_TextReader_seen6 l D dA s0 hE y0 v36 h z _ hF) (List.forall_mem_cons.mpr ⟨ms_k547, List.forall_mem_cons.mpr ⟨ms_k1839, List.forall_mem_cons.mpr ⟨ms_k1840, List.forall_mem_cons.mpr ⟨ms_k388, List.forall_mem_cons.mpr ⟨ms_k14, List.forall_mem_cons.mpr ⟨ms_k389, fun _ h => absurd h List.not_mem_nil⟩⟩⟩⟩⟩⟩) rfl ⟨by decide +kernel, by decide +kernel, (by decide +kernel : (parseMethodDescriptor "(I)C").map (fun d => d.parameters.length) = some 1)⟩ (hm_recv hK I rfl c9) I ⟨rfl, rfl⟩ ⟨⟨Nat.le_of_ble_eq_true rfl, Nat.le_of_ble_eq_true rfl⟩, rm_0 hc, rm_0 hs⟩ rfl (Nat.le_of_ble_eq_true rfl) d240_21 (fun vv h38 z39 H locs hR I9 => ?_)
      obtain ⟨v37, e1, hF⟩ := hR
      subst e1
      clear I
      have I := I9
      clear I9 c9 fs9
      refine W.eq (g2 := F0 m 24 ls [.int v37]) rfl ?_
      refine ht_SN (host := "MarkupStore") (rest := []) (as := [.int v37]) X hl (cw_Store_isSmallLetter l D dA s0 hE v37 h38 z39 _ hF) (ms_nest hE X (ms_l (ms_t3 (List.mem_of_getElem? (i := 68) (by decide +kernel))))) (List.forall_mem_cons.mpr ⟨ms_k420, List.forall_mem_cons.mpr ⟨ms_k1, List.forall_mem_cons.mpr ⟨ms_k421, fun _ h => absurd h List.not_mem_nil⟩⟩⟩) ⟨by decide +kernel, by decide +kernel, (by decide +kernel : (parseMethodDescriptor "(C)Z").map (fun d => d.parameters.length) = some 1)⟩ I ⟨rfl, rfl⟩ ⟨⟨Nat.le_of_ble_eq_true rfl, Nat.le_of_ble_eq_true rfl⟩, rm_0 hc, rm_0 hs⟩ rfl (Nat.le_of_ble_eq_true rfl) d240_24 (fun vv h41 z42 H locs hR I9 => ?_)
      obtain ⟨v40, e1, hF⟩ := hR
      subst e1
      clear I
      have I := I9
      clear I9
      refine W.eq (g2 := F0 m 27 ls [.int v40]) rfl ?_
      refine lv_if_eq hx hb d240_27 rfl (fun h9 => ?_) (fun h9 => ?_)
      · have hF := Eq.mp (if_pos h9) hF
        exact b43 ls x1 c9 s9 _ _ h41 z42 _ _ hF hc hs (hl.sub [0, 1] rfl) I
      · have hF := Eq.mp (if_neg h9) hF
        refine lv_aload_n hx hb d240_30 rfl (lv_at hl 0 rfl) ?_
        refine lv_dup hx hb d240_31 rfl ?_
        obtain ⟨fs9, v43, c9, e9, hF⟩ := hF
        refine va_get (D := D) (ci := 6) (v := .int v43) (C := kR6) (T := kT6) (N := 6) hx hb hts ku6 hown hK (hm_one I.1 c9) 0 rfl rfl 1 (by decide) (hts _ ms_k357) (fun _ h => h) e9 d240_32 ?_
        clear e9 c9 fs9
        refine lv_iconst (v := 1) hx hb d240_35 (by decide) ?_
        refine lv_iadd hx hb d240_36 ?_
        obtain ⟨fs9, c9, k9, hF⟩ := hF
        refine hm_put (ci := 6) (v := .int (v43 + 1)) (ty := .int) (C := kR6) (T := kT6) (N := 6) X I ku6 kt6 kp6 kn6 c9 rfl 1 (by decide) ms_k357 (fun _ h => h) rfl (by decide +kernel) rfl rfl k9 d240_37 (fun h44 H locs e9 f9 I => ?_)
        rw [← hm_eqU e9 f9] at hF
        clear e9 f9 c9 k9
        refine lv_goto hx hb d240_40 rfl ?_
        exact hk5 ls x1 c9 s9 _ _ h44 z42 _ _ hF hc hs (hl.sub [0, 1] rfl) I
  have hF := hg
  unfold w_TextReader_readName6 at hF
  clear h z
  have hc : 0 + rc ≤ rc := by omega
  have hs : 0 + rs ≤ rs := by omega
  refine lv_aload_n hx hb d240_0 rfl (lv_at hl 0 rfl) ?_
  obtain ⟨fs9, v21, c9, e9, hF⟩ := hF
  refine va_get (D := D) (ci := 6) (v := .int v21) (C := kR6) (T := kT6) (N := 6) hx hb hts ku6 hown hK (hm_one I.1 c9) 0 rfl rfl 1 (by decide) (hts _ ms_k357) (fun _ h => h) e9 d240_1 ?_
  clear e9 c9 fs9
  refine lv_istore_n hx hb d240_4 rfl hl (by decide) rfl (fun ls hl => ?_)
  have hl : lv_has ls 2 [(1, .int v21), (0, .ref y0)] := hl
  exact b5 mF ls v21 rc rs _ _ h0 z0 _ _ hF hc hs (hl.sub [1, 0] rfl) I

def w_TextReader_readName10_60 (dA : Nat → ClassId) (y0 : Nat) (K : Option Nat → hm_T → hz_T → Prop) (x1 : Int32) (c9 s9 : Nat) (h : hm_T) (z : hz_T) : Prop := (cg_R h 10 0 y0 (fun v24 => (cg_I h 10 1 y0 (fun v25 => (cg_d v24 (fun a26 => (cg_k c9 s9 2 146 (fun c30 s31 => w_S_sub dA a26 x1 v25 (fun v27 h28 z29 => (K v27 h28 z29)) h z))))))))
def w_TextReader_readName10_43 (dA : Nat → ClassId) (y0 : Nat) (K : Option Nat → hm_T → hz_T → Prop) (x1 : Int32) (c9 s9 : Nat) (h : hm_T) (z : hz_T) : Prop := (cg_I h 10 1 y0 (fun v23 => (if v23 = x1 then (cg_I h 10 1 y0 (fun v32 => (cg_c h 10 y0 (w_TextReader_failAt10 dA y0 v32 (fun v33 h34 z35 => (w_TextReader_readName10_60 dA y0 K x1 c9 s9 h34 z35)) h z)))) else (w_TextReader_readName10_60 dA y0 K x1 c9 s9 h z))))
def w_TextReader_readName10_5 (dA : Nat → ClassId) (y0 : Nat) (K : Option Nat → hm_T → hz_T → Prop) : Nat → Int32 → Nat → Nat → hm_T → hz_T → Prop
  | 0, _, _, _, _, _ => False
  | n9 + 1, x1, c9, s9, h, z => (cg_I h 10 1 y0 (fun v22 => (if 6 ≤ (v22 - x1) then (w_TextReader_readName10_43 dA y0 K x1 c9 s9 h z) else (cg_I h 10 1 y0 (fun v36 => (cg_c h 10 y0 (w_TextReader_seen10 dA y0 v36 (fun v37 h38 z39 => (w_Store_isSmallLetter dA v37 (fun v40 h41 z42 => (if v40 = 0 then (w_TextReader_readName10_43 dA y0 K x1 c9 s9 h41 z42) else (cg_I h41 10 1 y0 (fun v43 => (cg_p h41 10 1 y0 (.int (v43 + 1)) (fun h44 => ((w_TextReader_readName10_5 dA y0 K n9) x1 c9 s9 h44 z42))))))) h38 z39)) h z)))))))
def w_TextReader_readName10 (dA : Nat → ClassId) (y0 : Nat) (rc rs : Nat) (K : Option Nat → hm_T → hz_T → Prop) (h0 : hm_T) (z0 : hz_T) : Prop := (cg_I h0 10 1 y0 (fun v21 => (w_TextReader_readName10_5 dA y0 K mF v21 rc rs h0 z0)))
set_option maxRecDepth 100000 in
set_option maxHeartbeats 8000000 in
theorem cw_TextReader_readName10 (l : Launch) (D : va_G) (dA : Nat → ClassId) (s0 : State) (hW : ms_EW D dA s0) (y0 : Nat) (rc rs : Nat) (h0 : hm_T) (z0 : hz_T) (K : Option Nat → hm_T → hz_T → Prop) (hg : w_TextReader_readName10 dA y0 rc rs K h0 z0) : ht_C l D s0 yM240 bM240 2 (Option.some (Jvm.ClassFile.FieldType.object "java/lang/String")) (5) (192) rc rs [.ref y0] (fun h z => h = h0 ∧ z = z0) (fun h z vv h1 z1 => ∃ v, vv = some (va_rf v) ∧ K v h1 z1) := by
  have hE := hW.1
  refine ht_C.mk hE.1 (by decide) (Nat.le_of_ble_eq_true rfl) [(0, .ref y0)] rfl ?_
  intro p e s m below meth c ls h z X hin hpre I hl
  have hx := X.1
  have hb := X.2.1
  have hml := X.2.2.1
  have hown : s.vm.findClass "MarkupStore$TextReader" = some m.cls := X.2.2.2.1
  have hts := X.2.2.2.2.2.2.1
  have hK := X.2.2.2.2.2.2.2.2.1
  rw [hpre.1, hpre.2] at I
  clear hpre
  have b60 : ∀ (ls : Array Slot) (x1 : Int32) (c9 s9 cu su : Nat) (h : hm_T) (z : hz_T) (H : Heap) (locs : List Loc), w_TextReader_readName10_60 dA y0 K x1 c9 s9 h z → cu + c9 ≤ rc → su + s9 ≤ rs → lv_has ls 2 [(0, .ref y0), (1, .int x1)] → hm_I D s0 s h z H locs → W p l e { frames := 5, cells := rc, slots := rs, locals := 192 } s m ([.ref y0] : List Value).toArray below meth c H locs cu su (MQ below (ht_Q D s0 (fun vv h1 z1 => ∃ v, vv = some (va_rf v) ∧ K v h1 z1)) ([.ref y0] : List Value).toArray s rc rs (fun q => s0.heap.size ≤ q)) (F0 m 60 ls []) := by
    intro ls x1 c9 s9 cu su h z H locs hF hc hs hl I
    unfold w_TextReader_readName10_60 at hF
    refine lv_aload_n hx hb d240_60 rfl (lv_at hl 0 rfl) ?_
    obtain ⟨fs9, v24, c9, e9, hF⟩ := hF
    refine va_get (D := D) (ci := 10) (v := va_rf v24) (C := kR10) (T := kT10) (N := 3) hx hb hts ku10 hown hK (hm_one I.1 c9) 0 rfl rfl 0 (by decide) (hts _ ms_k352) (fun _ h => h) e9 d240_61 ?_
    clear e9 c9 fs9
    refine lv_iload_n hx hb d240_64 rfl (lv_at hl 1 rfl) ?_
    refine lv_aload_n hx hb d240_65 rfl (lv_at hl 0 rfl) ?_
    obtain ⟨fs9, v25, c9, e9, hF⟩ := hF
    refine va_get (D := D) (ci := 10) (v := .int v25) (C := kR10) (T := kT10) (N := 3) hx hb hts ku10 hown hK (hm_one I.1 c9) 0 rfl rfl 1 (by decide) (hts _ ms_k357) (fun _ h => h) e9 d240_66 ?_
    clear e9 c9 fs9
    obtain ⟨a26, e9, hF⟩ := hF
    refine W.eq (g2 := F0 m 69 ls [.int v25, .int x1, .ref a26]) (by rw [e9]; rfl) ?_
    clear e9
    obtain ⟨c30, s31, ec, es, hF⟩ := hF
    obtain ⟨u9, xs9, z9⟩ := w_S_sub_z hF
    refine ht_V (C := "java/lang/String") (rest := []) (as := [.int x1, .int v25]) X hl (cw_S_sub l D dA s0 hE a26 x1 v25 h z _ hF) (List.forall_mem_cons.mpr ⟨ms_k550, List.forall_mem_cons.mpr ⟨ms_k551, List.forall_mem_cons.mpr ⟨ms_k552, List.forall_mem_cons.mpr ⟨ms_k4, List.forall_mem_cons.mpr ⟨ms_k553, fun _ h => absurd h List.not_mem_nil⟩⟩⟩⟩⟩) ⟨rfl, by decide +kernel, by decide +kernel, (by decide +kernel : (parseMethodDescriptor "(II)Ljava/lang/String;").map (fun d => d.parameters.length) = some 2)⟩ (hz_recv I z9) I ⟨rfl, rfl⟩ ⟨⟨Nat.le_of_ble_eq_true rfl, Nat.le_of_ble_eq_true rfl⟩, (rm_u hc ec).1, (rm_u hs es).1⟩ rfl (Nat.le_of_ble_eq_true rfl) d240_69 (fun vv h28 z29 H locs hR I9 => ?_)
    obtain ⟨v27, e1, hF⟩ := hR
    subst e1
    clear I
    have I := I9
    clear I9 z9
    have hc := (rm_u hc ec).2
    have hs := (rm_u hs es).2
    clear ec es
    refine W.eq (g2 := F0 m 72 ls [va_rf v27]) rfl ?_
    exact ht_aret X d240_72 I (rm_r hc) (rm_r hs) ⟨v27, rfl, hF⟩ (Or.inl ⟨_, rfl⟩) (rf_or _)
  have b43 : ∀ (ls : Array Slot) (x1 : Int32) (c9 s9 cu su : Nat) (h : hm_T) (z : hz_T) (H : Heap) (locs : List Loc), w_TextReader_readName10_43 dA y0 K x1 c9 s9 h z → cu + c9 ≤ rc → su + s9 ≤ rs → lv_has ls 2 [(0, .ref y0), (1, .int x1)] → hm_I D s0 s h z H locs → W p l e { frames := 5, cells := rc, slots := rs, locals := 192 } s m ([.ref y0] : List Value).toArray below meth c H locs cu su (MQ below (ht_Q D s0 (fun vv h1 z1 => ∃ v, vv = some (va_rf v) ∧ K v h1 z1)) ([.ref y0] : List Value).toArray s rc rs (fun q => s0.heap.size ≤ q)) (F0 m 43 ls []) := by
    intro ls x1 c9 s9 cu su h z H locs hF hc hs hl I
    unfold w_TextReader_readName10_43 at hF
    refine lv_aload_n hx hb d240_43 rfl (lv_at hl 0 rfl) ?_
    obtain ⟨fs9, v23, c9, e9, hF⟩ := hF
    refine va_get (D := D) (ci := 10) (v := .int v23) (C := kR10) (T := kT10) (N := 3) hx hb hts ku10 hown hK (hm_one I.1 c9) 0 rfl rfl 1 (by decide) (hts _ ms_k357) (fun _ h => h) e9 d240_44 ?_
    clear e9 c9 fs9
    refine lv_iload_n hx hb d240_47 rfl (lv_at hl 1 rfl) ?_
    refine lv_icmp_ne hx hb d240_48 rfl (fun h9 => ?_) (fun h9 => ?_)
    · have hF := Eq.mp (if_neg h9) hF
      exact b60 ls x1 c9 s9 _ _ h z _ _ hF hc hs (hl.sub [0, 1] rfl) I
    · have hF := Eq.mp (if_pos h9) hF
      refine lv_aload_n hx hb d240_51 rfl (lv_at hl 0 rfl) ?_
      refine lv_aload_n hx hb d240_52 rfl (lv_at hl 0 rfl) ?_
      obtain ⟨fs9, v32, c9, e9, hF⟩ := hF
      refine va_get (D := D) (ci := 10) (v := .int v32) (C := kR10) (T := kT10) (N := 3) hx hb hts ku10 hown hK (hm_one I.1 c9) 0 rfl rfl 1 (by decide) (hts _ ms_k357) (fun _ h => h) e9 d240_53 ?_
      clear e9 c9 fs9
      obtain ⟨fs9, c9, hF⟩ := hF
      refine ht_U (C := "MarkupStore$PathReader") (x := ⟨"MarkupStore$TextReader", "failAt", "(I)Z"⟩) (owner := "MarkupStore$TextReader") (rest := []) (as := [.int v32]) X hl (cw_TextReader_failAt10 l D dA s0 hE y0 v32 h z _ hF) (List.forall_mem_cons.mpr ⟨ms_k549, List.forall_mem_cons.mpr ⟨ms_k1842, List.forall_mem_cons.mpr ⟨ms_k1844, List.forall_mem_cons.mpr ⟨ms_k417, List.forall_mem_cons.mpr ⟨ms_k14, List.forall_mem_cons.mpr ⟨ms_k418, fun _ h => absurd h List.not_mem_nil⟩⟩⟩⟩⟩⟩) rfl ⟨by decide +kernel, by decide +kernel, (by decide +kernel : (parseMethodDescriptor "(I)Z").map (fun d => d.parameters.length) = some 1)⟩ (hm_recv hK I rfl c9) I ⟨rfl, rfl⟩ ⟨⟨Nat.le_of_ble_eq_true rfl, Nat.le_of_ble_eq_true rfl⟩, rm_0 hc, rm_0 hs⟩ rfl (Nat.le_of_ble_eq_true rfl) d240_56 (fun vv h34 z35 H locs hR I9 => ?_)
      obtain ⟨v33, e1, hF⟩ := hR
      subst e1
      clear I
      have I := I9
      clear I9 c9 fs9
      refine W.eq (g2 := F0 m 59 ls [.int v33]) rfl ?_
      refine lv_pop hx hb d240_59 rfl ?_
      exact b60 ls x1 c9 s9 _ _ h34 z35 _ _ hF hc hs (hl.sub [0, 1] rfl) I
  have b5 : ∀ n9 : Nat, ∀ (ls : Array Slot) (x1 : Int32) (c9 s9 cu su : Nat) (h : hm_T) (z : hz_T) (H : Heap) (locs : List Loc), w_TextReader_readName10_5 dA y0 K n9 x1 c9 s9 h z → cu + c9 ≤ rc → su + s9 ≤ rs → lv_has ls 2 [(0, .ref y0), (1, .int x1)] → hm_I D s0 s h z H locs → W p l e { frames := 5, cells := rc, slots := rs, locals := 192 } s m ([.ref y0] : List Value).toArray below meth c H locs cu su (MQ below (ht_Q D s0 (fun vv h1 z1 => ∃ v, vv = some (va_rf v) ∧ K v h1 z1)) ([.ref y0] : List Value).toArray s rc rs (fun q => s0.heap.size ≤ q)) (F0 m 5 ls []) := by
    intro n9
    induction n9 with
    | zero => intro ls x1 c9 s9 cu su h z H locs hF; cases hF
    | succ n9 hk5 =>
    intro ls x1 c9 s9 cu su h z H locs hF hc hs hl I
    unfold w_TextReader_readName10_5 at hF
    refine lv_aload_n hx hb d240_5 rfl (lv_at hl 0 rfl) ?_
    obtain ⟨fs9, v22, c9, e9, hF⟩ := hF
    refine va_get (D := D) (ci := 10) (v := .int v22) (C := kR10) (T := kT10) (N := 3) hx hb hts ku10 hown hK (hm_one I.1 c9) 0 rfl rfl 1 (by decide) (hts _ ms_k357) (fun _ h => h) e9 d240_6 ?_
    clear e9 c9 fs9
    refine lv_iload_n hx hb d240_9 rfl (lv_at hl 1 rfl) ?_
    refine lv_isub hx hb d240_10 ?_
    refine lv_bipush (v := 6) hx hb d240_11 (by decide) ?_
    refine lv_icmp_ge hx hb d240_13 rfl (fun h9 => ?_) (fun h9 => ?_)
    · have hF := Eq.mp (if_pos h9) hF
      exact b43 ls x1 c9 s9 _ _ h z _ _ hF hc hs (hl.sub [0, 1] rfl) I
    · have hF := Eq.mp (if_neg h9) hF
      refine lv_aload_n hx hb d240_16 rfl (lv_at hl 0 rfl) ?_
      refine lv_aload_n hx hb d240_17 rfl (lv_at hl 0 rfl) ?_
      obtain ⟨fs9, v36, c9, e9, hF⟩ := hF
      refine va_get (D := D) (ci := 10) (v := .int v36) (C := kR10) (T := kT10) (N := 3) hx hb hts ku10 hown hK (hm_one I.1 c9) 0 rfl rfl 1 (by decide) (hts _ ms_k357) (fun _ h => h) e9 d240_18 ?_
      clear e9 c9 fs9
      obtain ⟨fs9, c9, hF⟩ := hF
      refine ht_U (C := "MarkupStore$PathReader") (x := ⟨"MarkupStore$TextReader", "seen", "(I)C"⟩) (owner := "MarkupStore$TextReader") (rest := []) (as := [.int v36]) X hl (cw_TextReader_seen10 l D dA s0 hE y0 v36 h z _ hF) (List.forall_mem_cons.mpr ⟨ms_k547, List.forall_mem_cons.mpr ⟨ms_k1839, List.forall_mem_cons.mpr ⟨ms_k1841, List.forall_mem_cons.mpr ⟨ms_k388, List.forall_mem_cons.mpr ⟨ms_k14, List.forall_mem_cons.mpr ⟨ms_k389, fun _ h => absurd h List.not_mem_nil⟩⟩⟩⟩⟩⟩) rfl ⟨by decide +kernel, by decide +kernel, (by decide +kernel : (parseMethodDescriptor "(I)C").map (fun d => d.parameters.length) = some 1)⟩ (hm_recv hK I rfl c9) I ⟨rfl, rfl⟩ ⟨⟨Nat.le_of_ble_eq_true rfl, Nat.le_of_ble_eq_true rfl⟩, rm_0 hc, rm_0 hs⟩ rfl (Nat.le_of_ble_eq_true rfl) d240_21 (fun vv h38 z39 H locs hR I9 => ?_)
      obtain ⟨v37, e1, hF⟩ := hR
      subst e1
      clear I
      have I := I9
      clear I9 c9 fs9
      refine W.eq (g2 := F0 m 24 ls [.int v37]) rfl ?_
      refine ht_SN (host := "MarkupStore") (rest := []) (as := [.int v37]) X hl (cw_Store_isSmallLetter l D dA s0 hE v37 h38 z39 _ hF) (ms_nest hE X (ms_l (ms_t3 (List.mem_of_getElem? (i := 68) (by decide +kernel))))) (List.forall_mem_cons.mpr ⟨ms_k420, List.forall_mem_cons.mpr ⟨ms_k1, List.forall_mem_cons.mpr ⟨ms_k421, fun _ h => absurd h List.not_mem_nil⟩⟩⟩) ⟨by decide +kernel, by decide +kernel, (by decide +kernel : (parseMethodDescriptor "(C)Z").map (fun d => d.parameters.length) = some 1)⟩ I ⟨rfl, rfl⟩ ⟨⟨Nat.le_of_ble_eq_true rfl, Nat.le_of_ble_eq_true rfl⟩, rm_0 hc, rm_0 hs⟩ rfl (Nat.le_of_ble_eq_true rfl) d240_24 (fun vv h41 z42 H locs hR I9 => ?_)
      obtain ⟨v40, e1, hF⟩ := hR
      subst e1
      clear I
      have I := I9
      clear I9
      refine W.eq (g2 := F0 m 27 ls [.int v40]) rfl ?_
      refine lv_if_eq hx hb d240_27 rfl (fun h9 => ?_) (fun h9 => ?_)
      · have hF := Eq.mp (if_pos h9) hF
        exact b43 ls x1 c9 s9 _ _ h41 z42 _ _ hF hc hs (hl.sub [0, 1] rfl) I
      · have hF := Eq.mp (if_neg h9) hF
        refine lv_aload_n hx hb d240_30 rfl (lv_at hl 0 rfl) ?_
        refine lv_dup hx hb d240_31 rfl ?_
        obtain ⟨fs9, v43, c9, e9, hF⟩ := hF
        refine va_get (D := D) (ci := 10) (v := .int v43) (C := kR10) (T := kT10) (N := 3) hx hb hts ku10 hown hK (hm_one I.1 c9) 0 rfl rfl 1 (by decide) (hts _ ms_k357) (fun _ h => h) e9 d240_32 ?_
        clear e9 c9 fs9
        refine lv_iconst (v := 1) hx hb d240_35 (by decide) ?_
        refine lv_iadd hx hb d240_36 ?_
        obtain ⟨fs9, c9, k9, hF⟩ := hF
        refine hm_put (ci := 10) (v := .int (v43 + 1)) (ty := .int) (C := kR10) (T := kT10) (N := 3) X I ku10 kt10 kp10 kn10 c9 rfl 1 (by decide) ms_k357 (fun _ h => h) rfl (by decide +kernel) rfl rfl k9 d240_37 (fun h44 H locs e9 f9 I => ?_)
        rw [← hm_eqU e9 f9] at hF
        clear e9 f9 c9 k9
        refine lv_goto hx hb d240_40 rfl ?_
        exact hk5 ls x1 c9 s9 _ _ h44 z42 _ _ hF hc hs (hl.sub [0, 1] rfl) I
  have hF := hg
  unfold w_TextReader_readName10 at hF
  clear h z
  have hc : 0 + rc ≤ rc := by omega
  have hs : 0 + rs ≤ rs := by omega
  refine lv_aload_n hx hb d240_0 rfl (lv_at hl 0 rfl) ?_
  obtain ⟨fs9, v21, c9, e9, hF⟩ := hF
  refine va_get (D := D) (ci := 10) (v := .int v21) (C := kR10) (T := kT10) (N := 3) hx hb hts ku10 hown hK (hm_one I.1 c9) 0 rfl rfl 1 (by decide) (hts _ ms_k357) (fun _ h => h) e9 d240_1 ?_
  clear e9 c9 fs9
  refine lv_istore_n hx hb d240_4 rfl hl (by decide) rfl (fun ls hl => ?_)
  have hl : lv_has ls 2 [(1, .int v21), (0, .ref y0)] := hl
  exact b5 mF ls v21 rc rs _ _ h0 z0 _ _ hF hc hs (hl.sub [1, 0] rfl) I

def w_Tree_init (dA : Nat → ClassId) (y0 : Nat) (rc rs : Nat) (K : hm_T → hz_T → Prop) (h0 : hm_T) (z0 : hz_T) : Prop := (cg_nq dA h0 rc rs 5 200 (fun q21 c23 s24 h22 => (cg_p h22 1 0 y0 (.ref q21) (fun h25 => (cg_nq dA h25 c23 s24 5 40 (fun q26 c28 s29 h27 => (cg_p h27 1 2 y0 (.ref q26) (fun h30 => (cg_nq dA h30 c28 s29 5 40 (fun q31 c33 s34 h32 => (cg_p h32 1 4 y0 (.ref q31) (fun h35 => (K h35 z0)))))))))))))
set_option maxRecDepth 100000 in
set_option maxHeartbeats 8000000 in
theorem cw_Tree_init (l : Launch) (D : va_G) (dA : Nat → ClassId) (s0 : State) (hW : ms_EW D dA s0) (y0 : Nat) (rc rs : Nat) (h0 : hm_T) (z0 : hz_T) (K : hm_T → hz_T → Prop) (hg : w_Tree_init dA y0 rc rs K h0 z0) : ht_C l D s0 yM241 bM241 1 (Option.none : Option Jvm.ClassFile.FieldType) (1) (12) rc rs [.ref y0] (fun h z => h = h0 ∧ z = z0) (fun h z vv h1 z1 => vv = none ∧ K h1 z1) := by
  have hE := hW.1
  refine ht_C.mk hE.1 (by decide) (Nat.le_of_ble_eq_true rfl) [(0, .ref y0)] rfl ?_
  intro p e s m below meth c ls h z X hin hpre I hl
  have hx := X.1
  have hb := X.2.1
  have hml := X.2.2.1
  have hown : s.vm.findClass "MarkupStore$Tree" = some m.cls := X.2.2.2.1
  have hts := X.2.2.2.2.2.2.1
  have hK := X.2.2.2.2.2.2.2.2.1
  rw [hpre.1, hpre.2] at I
  clear hpre
  have hF := hg
  unfold w_Tree_init at hF
  clear h z
  have hc : 0 + rc ≤ rc := by omega
  have hs : 0 + rs ≤ rs := by omega
  refine lv_aload_n hx hb d241_0 rfl (lv_at hl 0 rfl) ?_
  refine W.objInit hx hb hown (hts _ ms_k77) (hts _ ms_k37) (hts _ ms_k38) rfl (by rw [hml]; exact hl.1) rfl d241_1 (Nat.le_of_ble_eq_true rfl) (Nat.le_of_ble_eq_true rfl) ?_
  refine W.eq (g2 := F0 m 4 ls []) rfl ?_
  refine lv_aload_n hx hb d241_4 rfl (lv_at hl 0 rfl) ?_
  refine lv_sipush (v := 200) hx hb d241_5 (by decide) ?_
  obtain ⟨N9, c23, s24, eN, bN, ec, es, hF⟩ := hF
  refine ms_top (y := nI N9) eN ?_
  refine hm_mkq (nm := "[LMarkupStore$Node;") (N' := N9) (C := "MarkupStore$Node") X I ms_k78 (ms_ao hE.2.1 X) 5 rfl (by decide) (nI_pos (by omega)) (nI_clamp (by omega)) (by omega) (rm_u hc ec).1 (rm_u hs es).1 d241_8 (fun q21 h22 H v9 e9 f9 I => ?_)
  have hF := hF q21 v9
  rw [← hm_eqU e9 f9] at hF
  clear e9 f9 v9 eN bN
  have hc := (rm_u hc ec).2
  have hs := (rm_u hs es).2
  clear ec es
  obtain ⟨fs9, c9, k9, hF⟩ := hF
  refine hm_putF (ci := 1) (v := .ref q21) (ty := (.array (.object "MarkupStore$Node"))) (C := kR1) (T := kT1) (N := 6) X I ku1 kt1 kp1 kn1 c9 rfl 0 (by decide) ms_k80 (fun _ h => h) rfl hin rfl (by decide +kernel) rfl rfl k9 d241_11 (fun h25 H locs e9 f9 I => ?_)
  rw [← hm_eqU e9 f9] at hF
  clear e9 f9 c9 k9
  refine lv_aload_n hx hb d241_14 rfl (lv_at hl 0 rfl) ?_
  refine lv_bipush (v := 40) hx hb d241_15 (by decide) ?_
  obtain ⟨N9, c28, s29, eN, bN, ec, es, hF⟩ := hF
  refine ms_top (y := nI N9) eN ?_
  refine hm_mkq (nm := "[LMarkupStore$Node;") (N' := N9) (C := "MarkupStore$Node") X I ms_k78 (ms_ao hE.2.1 X) 5 rfl (by decide) (nI_pos (by omega)) (nI_clamp (by omega)) (by omega) (rm_u hc ec).1 (rm_u hs es).1 d241_17 (fun q26 h27 H v9 e9 f9 I => ?_)
  have hF := hF q26 v9
  rw [← hm_eqU e9 f9] at hF
  clear e9 f9 v9 eN bN
  have hc := (rm_u hc ec).2
  have hs := (rm_u hs es).2
  clear ec es
  obtain ⟨fs9, c9, k9, hF⟩ := hF
  refine hm_putF (ci := 1) (v := .ref q26) (ty := (.array (.object "MarkupStore$Node"))) (C := kR1) (T := kT1) (N := 6) X I ku1 kt1 kp1 kn1 c9 rfl 2 (by decide) ms_k82 (fun _ h => h) rfl hin rfl (by decide +kernel) rfl rfl k9 d241_20 (fun h30 H locs e9 f9 I => ?_)
  rw [← hm_eqU e9 f9] at hF
  clear e9 f9 c9 k9
  refine lv_aload_n hx hb d241_23 rfl (lv_at hl 0 rfl) ?_
  refine lv_bipush (v := 40) hx hb d241_24 (by decide) ?_
  obtain ⟨N9, c33, s34, eN, bN, ec, es, hF⟩ := hF
  refine ms_top (y := nI N9) eN ?_
  refine hm_mkq (nm := "[LMarkupStore$Node;") (N' := N9) (C := "MarkupStore$Node") X I ms_k78 (ms_ao hE.2.1 X) 5 rfl (by decide) (nI_pos (by omega)) (nI_clamp (by omega)) (by omega) (rm_u hc ec).1 (rm_u hs es).1 d241_26 (fun q31 h32 H v9 e9 f9 I => ?_)
  have hF := hF q31 v9
  rw [← hm_eqU e9 f9] at hF
  clear e9 f9 v9 eN bN
  have hc := (rm_u hc ec).2
  have hs := (rm_u hs es).2
  clear ec es
  obtain ⟨fs9, c9, k9, hF⟩ := hF
  refine hm_putF (ci := 1) (v := .ref q31) (ty := (.array (.object "MarkupStore$Node"))) (C := kR1) (T := kT1) (N := 6) X I ku1 kt1 kp1 kn1 c9 rfl 4 (by decide) ms_k90 (fun _ h => h) rfl hin rfl (by decide +kernel) rfl rfl k9 d241_29 (fun h35 H locs e9 f9 I => ?_)
  rw [← hm_eqU e9 f9] at hF
  clear e9 f9 c9 k9
  exact ht_vret X d241_32 I (rm_r hc) (rm_r hs) ⟨rfl, hF⟩

def w_Walker_prepare_83 (dA : Nat → ClassId) (P : Nat → Option Nat → Nat → Nat → (hm_T → hz_T → Prop) → hm_T → hz_T → Prop) (y0 : Nat) (K : hm_T → hz_T → Prop) (k2 : Option Nat → Int32 → Nat → Nat → hm_T → hz_T → Prop) : Nat → Option Nat → Int32 → Option Nat → Int32 → Nat → Nat → hm_T → hz_T → Prop
  | 0, _, _, _, _, _, _, _, _ => False
  | n9 + 1, x1, x2, x3, x4, c9, s9, h, z => (cg_d x3 (fun a32 => (cg_R h 12 3 a32 (fun v33 => (cg_d v33 (fun a34 => (jd_sz h a34 (fun v35 => (if v35 ≤ x4 then (k2 x1 (x2 + 1) c9 s9 h z) else (cg_d x3 (fun a36 => (cg_R h 12 3 a36 (fun v37 => (cg_d v37 (fun a38 => (jd_get dA h a38 x4 (fun v39 => (cg_c h 13 v39 (cg_c h 14 y0 (cg_rm c9 s9 (fun c43 s44 c45 s46 => P y0 (some v39) c43 s44 (fun h41 z42 => ((w_Walker_prepare_83 dA P y0 K k2 n9) x1 x2 x3 (x4 + 1) c45 s46 h41 z42)) h z)))))))))))))))))))))
def w_Walker_prepare_70 (dA : Nat → ClassId) (P : Nat → Option Nat → Nat → Nat → (hm_T → hz_T → Prop) → hm_T → hz_T → Prop) (y0 : Nat) (K : hm_T → hz_T → Prop) (k2 : Option Nat → Int32 → Nat → Nat → hm_T → hz_T → Prop) (k28 : Option Nat → Int32 → Option Nat → Int32 → Nat → Nat → hm_T → hz_T → Prop) (x1 : Option Nat) (x2 : Int32) (x3 : Option Nat) (x4 : Int32) (w0 : Int64) (w1 : Int64) (w2 : Option Nat) (c9 s9 : Nat) (h : hm_T) (z : hz_T) : Prop := (cg_d w2 (fun a58 => (cg_p h 12 4 a58 (.long (w1 ||| w0)) (fun h59 => (k28 x1 x2 x3 (x4 + 1) c9 s9 h59 z)))))
def w_Walker_prepare_28 (dA : Nat → ClassId) (P : Nat → Option Nat → Nat → Nat → (hm_T → hz_T → Prop) → hm_T → hz_T → Prop) (y0 : Nat) (K : hm_T → hz_T → Prop) (k2 : Option Nat → Int32 → Nat → Nat → hm_T → hz_T → Prop) : Nat → Option Nat → Int32 → Option Nat → Int32 → Nat → Nat → hm_T → hz_T → Prop
  | 0, _, _, _, _, _, _, _, _ => False
  | n9 + 1, x1, x2, x3, x4, c9, s9, h, z => (cg_R h 14 0 y0 (fun v29 => (cg_d v29 (fun a30 => (cg_I h 1 3 a30 (fun v31 => (if v31 ≤ x4 then (w_Walker_prepare_83 dA P y0 K k2 mF x1 x2 x3 0 c9 s9 h z) else (cg_d x3 (fun a47 => (cg_L h 12 4 a47 (fun v48 => (cg_R h 14 0 y0 (fun v49 => (cg_d v49 (fun a50 => (cg_R h 1 2 a50 (fun v51 => (cg_d v51 (fun a52 => (cg_ar dA h 5 a52 x4 (fun v53 => (cg_d x3 (fun a54 => (cg_c h 12 a54 (w_Step_takes dA a54 v53 (fun v55 h56 z57 => (if v55 = 0 then (w_Walker_prepare_70 dA P y0 K k2 (w_Walker_prepare_28 dA P y0 K k2 n9) x1 x2 x3 x4 (0 : Int64) v48 x3 c9 s9 h56 z57) else (w_Walker_prepare_70 dA P y0 K k2 (w_Walker_prepare_28 dA P y0 K k2 n9) x1 x2 x3 x4 ((1 : Int64) <<< (x4.toInt64 &&& 63)) v48 x3 c9 s9 h56 z57))) h z)))))))))))))))))))))))))
def w_Walker_prepare_2 (dA : Nat → ClassId) (P : Nat → Option Nat → Nat → Nat → (hm_T → hz_T → Prop) → hm_T → hz_T → Prop) (y0 : Nat) (K : hm_T → hz_T → Prop) : Nat → Option Nat → Int32 → Nat → Nat → hm_T → hz_T → Prop
  | 0, _, _, _, _, _, _ => False
  | n9 + 1, x1, x2, c9, s9, h, z => (cg_d x1 (fun a21 => (cg_R h 11 1 a21 (fun v22 => (cg_d v22 (fun a23 => (jd_sz h a23 (fun v24 => (if v24 ≤ x2 then (K h z) else (cg_d x1 (fun a25 => (cg_R h 11 1 a25 (fun v26 => (cg_d v26 (fun a27 => (jd_get dA h a27 x2 (fun v28 => (cg_c h 12 v28 (w_Walker_prepare_28 dA P y0 K (w_Walker_prepare_2 dA P y0 K n9) mF x1 x2 (some v28) 0 c9 s9 h z)))))))))))))))))))
def w_Walker_prepare (dA : Nat → ClassId) (P : Nat → Option Nat → Nat → Nat → (hm_T → hz_T → Prop) → hm_T → hz_T → Prop) (y0 : Nat) (y1 : Option Nat) (rc rs : Nat) (K : hm_T → hz_T → Prop) (h0 : hm_T) (z0 : hz_T) : Prop := (w_Walker_prepare_2 dA P y0 K mF y1 0 rc rs h0 z0)
set_option maxRecDepth 100000 in
set_option maxHeartbeats 8000000 in
theorem cw_Walker_prepare (l : Launch) (D : va_G) (dA : Nat → ClassId) (s0 : State) (hW : ms_EW D dA s0) (P : Nat → Option Nat → Nat → Nat → (hm_T → hz_T → Prop) → hm_T → hz_T → Prop) (fP lP : Nat) (hP : ∀ (a0_ : Nat) (a1_ : Option Nat) (c1 s1 : Nat) (h0 : hm_T) (z0 : hz_T) (K : hm_T → hz_T → Prop), P a0_ a1_ c1 s1 K h0 z0 → ht_C l D s0 yM243 bM243 2 (Option.none : Option Jvm.ClassFile.FieldType) fP lP c1 s1 [.ref a0_, va_rf a1_] (fun h z => h = h0 ∧ z = z0) (fun h z vv h1 z1 => vv = none ∧ K h1 z1)) (y0 : Nat) (y1 : Option Nat) (rc rs : Nat) (h0 : hm_T) (z0 : hz_T) (K : hm_T → hz_T → Prop) (hg : w_Walker_prepare dA P y0 y1 rc rs K h0 z0) : ht_C l D s0 yM242 bM242 5 (Option.none : Option Jvm.ClassFile.FieldType) (fP + 3) (lP + 65) rc rs [.ref y0, va_rf y1] (fun h z => h = h0 ∧ z = z0) (fun h z vv h1 z1 => vv = none ∧ K h1 z1) := by
  have hE := hW.1
  refine ht_C.mk hE.1 (by decide) (by simp [lg_sl, cat_rf, cat_int, cat_ref, cat_null, cat_long]) [(0, .ref y0), (1, va_rf y1)] (by simp [lv_args, cat_rf, cat_int, cat_ref, cat_null, cat_long]) ?_
  intro p e s m below meth c ls h z X hin hpre I hl
  have hx := X.1
  have hb := X.2.1
  have hml := X.2.2.1
  have hown : s.vm.findClass "MarkupStore$Walker" = some m.cls := X.2.2.2.1
  have hts := X.2.2.2.2.2.2.1
  have hK := X.2.2.2.2.2.2.2.2.1
  rw [hpre.1, hpre.2] at I
  clear hpre
  have b83 : ∀ (k2 : Option Nat → Int32 → Nat → Nat → hm_T → hz_T → Prop), (∀ (ls : Array Slot) (x1 : Option Nat) (x2 : Int32) (c9 s9 cu su : Nat) (h : hm_T) (z : hz_T) (H : Heap) (locs : List Loc), k2 x1 x2 c9 s9 h z → cu + c9 ≤ rc → su + s9 ≤ rs → lv_has ls 5 [(0, .ref y0), (1, va_rf x1), (2, .int x2)] → hm_I D s0 s h z H locs → W p l e { frames := fP + 3, cells := rc, slots := rs, locals := lP + 65 } s m ([.ref y0, va_rf y1] : List Value).toArray below meth c H locs cu su (MQ below (ht_Q D s0 (fun vv h1 z1 => vv = none ∧ K h1 z1)) ([.ref y0, va_rf y1] : List Value).toArray s rc rs (fun q => s0.heap.size ≤ q)) (F0 m 2 ls [])) → ∀ n9 : Nat, ∀ (ls : Array Slot) (x1 : Option Nat) (x2 : Int32) (x3 : Option Nat) (x4 : Int32) (c9 s9 cu su : Nat) (h : hm_T) (z : hz_T) (H : Heap) (locs : List Loc), w_Walker_prepare_83 dA P y0 K k2 n9 x1 x2 x3 x4 c9 s9 h z → cu + c9 ≤ rc → su + s9 ≤ rs → lv_has ls 5 [(0, .ref y0), (1, va_rf x1), (2, .int x2), (3, va_rf x3), (4, .int x4)] → hm_I D s0 s h z H locs → W p l e { frames := fP + 3, cells := rc, slots := rs, locals := lP + 65 } s m ([.ref y0, va_rf y1] : List Value).toArray below meth c H locs cu su (MQ below (ht_Q D s0 (fun vv h1 z1 => vv = none ∧ K h1 z1)) ([.ref y0, va_rf y1] : List Value).toArray s rc rs (fun q => s0.heap.size ≤ q)) (F0 m 83 ls []) := by
    intro k2 hk2 n9
    induction n9 with
    | zero => intro ls x1 x2 x3 x4 c9 s9 cu su h z H locs hF; cases hF
    | succ n9 hk83 =>
    intro ls x1 x2 x3 x4 c9 s9 cu su h z H locs hF hc hs hl I
    unfold w_Walker_prepare_83 at hF
    refine lv_iload hx hb d242_83 (lv_at hl 4 rfl) ?_
    refine lv_aload_nR hx hb d242_85 rfl (lv_at hl 3 rfl) ?_
    obtain ⟨a32, e9, hF⟩ := hF
    refine W.eq (g2 := F0 m 86 ls [.ref a32, .int x4]) (by rw [e9]; rfl) ?_
    clear e9
    obtain ⟨fs9, v33, c9, e9, hF⟩ := hF
    refine va_get (D := D) (ci := 12) (v := va_rf v33) (C := kR12) (T := kT12) (N := 5) hx hb hts ku12 hown hK (hm_one I.1 c9) 0 rfl rfl 3 (by decide) (hts _ ms_k931) (fun _ h => h) e9 d242_86 ?_
    clear e9 c9 fs9
    obtain ⟨a34, e9, hF⟩ := hF
    refine W.eq (g2 := F0 m 89 ls [.ref a34, .int x4]) (by rw [e9]; rfl) ?_
    clear e9
    obtain ⟨d9, k9, mo9, c9, hF⟩ := hF
    refine ht_V (C := "java/util/ArrayList") (rest := [.int x4]) (as := []) X hl (c_ALsize l D dA s0 hE a34 d9 k9 mo9) (List.forall_mem_cons.mpr ⟨ms_k1096, List.forall_mem_cons.mpr ⟨ms_k595, List.forall_mem_cons.mpr ⟨ms_k596, List.forall_mem_cons.mpr ⟨ms_k18, List.forall_mem_cons.mpr ⟨ms_k597, fun _ h => absurd h List.not_mem_nil⟩⟩⟩⟩⟩) ⟨rfl, by decide +kernel, by decide +kernel, (by decide +kernel : (parseMethodDescriptor "()I").map (fun d => d.parameters.length) = some 0)⟩ (hm_recv hK I rfl c9) I c9 ⟨⟨by show _ ≤ fP + 3; omega, by show _ ≤ lP + 65; omega⟩, rm_0 hc, rm_0 hs⟩ rfl (Nat.le_of_ble_eq_true rfl) d242_89 (fun vv h9 z7 H locs hR I9 => ?_)
    obtain ⟨e1, e2, e3⟩ := hR
    rw [e2, e3] at I9
    subst e1
    clear I
    have I := I9
    clear I9 e2 e3 h9 z7
    refine W.eq (g2 := F0 m 92 ls [.int (nI k9), .int x4]) rfl ?_
    generalize (nI k9) = v35 at hF ⊢
    refine lv_icmp_ge hx hb d242_92 rfl (fun h9 => ?_) (fun h9 => ?_)
    · have hF := Eq.mp (if_pos h9) hF
      refine lv_iinc (k := 2) (v := (x2 + 1)) hx hb d242_117 hl rfl (rfl) (by decide) (show _ = [(2, .int (x2 + 1)), (0, .ref y0), (1, va_rf x1), (3, va_rf x3), (4, .int x4)] by simp [cat_rf, cat_int, cat_ref, cat_null, cat_long]) (fun ls hl => ?_)
      have hl : lv_has ls 5 [(2, .int (x2 + 1)), (0, .ref y0), (1, va_rf x1), (3, va_rf x3), (4, .int x4)] := hl
      refine lv_goto hx hb d242_120 rfl ?_
      exact hk2 ls x1 (x2 + 1) c9 s9 _ _ h z _ _ hF hc hs (hl.sub [1, 2, 0] rfl) I
    · have hF := Eq.mp (if_neg h9) hF
      refine lv_aload_n hx hb d242_95 rfl (lv_at hl 0 rfl) ?_
      refine lv_aload_nR hx hb d242_96 rfl (lv_at hl 3 rfl) ?_
      obtain ⟨a36, e9, hF⟩ := hF
      refine W.eq (g2 := F0 m 97 ls [.ref a36, .ref y0]) (by rw [e9]; rfl) ?_
      clear e9
      obtain ⟨fs9, v37, c9, e9, hF⟩ := hF
      refine va_get (D := D) (ci := 12) (v := va_rf v37) (C := kR12) (T := kT12) (N := 5) hx hb hts ku12 hown hK (hm_one I.1 c9) 0 rfl rfl 3 (by decide) (hts _ ms_k931) (fun _ h => h) e9 d242_97 ?_
      clear e9 c9 fs9
      refine lv_iload hx hb d242_100 (lv_at hl 4 rfl) ?_
      obtain ⟨a38, e9, hF⟩ := hF
      refine W.eq (g2 := F0 m 102 ls [.int x4, .ref a38, .ref y0]) (by rw [e9]; rfl) ?_
      clear e9
      obtain ⟨d9, k9, mo9, n8, j9, q9, f8, c9, c8, e8, p1, p2, p3, p4, hF⟩ := hF
      refine ms_top (y := nI j9) e8 ?_
      refine ht_V (C := "java/util/ArrayList") (rest := [.ref y0]) (as := [.int (nI j9)]) X hl (c_ALget l D dA s0 hE a38 d9 k9 mo9 n8 j9 q9 f8 p1 p2 p3 p4) (List.forall_mem_cons.mpr ⟨ms_k1097, List.forall_mem_cons.mpr ⟨ms_k599, List.forall_mem_cons.mpr ⟨ms_k600, List.forall_mem_cons.mpr ⟨ms_k18, List.forall_mem_cons.mpr ⟨ms_k601, fun _ h => absurd h List.not_mem_nil⟩⟩⟩⟩⟩) ⟨rfl, by decide +kernel, by decide +kernel, (by decide +kernel : (parseMethodDescriptor "(I)Ljava/lang/Object;").map (fun d => d.parameters.length) = some 1)⟩ (hm_recv hK I rfl c9) I ⟨c9, c8⟩ ⟨⟨by show _ ≤ fP + 3; omega, by show _ ≤ lP + 65; omega⟩, rm_0 hc, rm_0 hs⟩ rfl (Nat.le_of_ble_eq_true rfl) d242_102 (fun vv h9 z7 H locs hR I9 => ?_)
      obtain ⟨e1, e2, e3⟩ := hR
      rw [e2, e3] at I9
      subst e1
      clear I
      have I := I9
      clear I9 e2 e3 h9 z7
      refine W.eq (g2 := F0 m 105 ls [.ref q9, .ref y0]) rfl ?_
      generalize q9 = v39 at hF ⊢
      try clear p4
      obtain ⟨fs9, c9, hF⟩ := hF
      refine va_castE hx hb hown (hts _ ms_k1104) (hm_recv hK I rfl c9) d242_105 ?_
      clear c9 fs9
      obtain ⟨fs9, c9, hF⟩ := hF
      obtain ⟨c43, s44, c45, s46, ec, es, hF⟩ := hF
      refine ht_V (C := "MarkupStore$Walker") (rest := []) (as := [.ref v39]) X hl (hP y0 (some v39) c43 s44 h z _ hF) (List.forall_mem_cons.mpr ⟨ms_k1105, List.forall_mem_cons.mpr ⟨ms_k1107, List.forall_mem_cons.mpr ⟨ms_p24, List.forall_mem_cons.mpr ⟨ms_k28, List.forall_mem_cons.mpr ⟨ms_k1108, fun _ h => absurd h List.not_mem_nil⟩⟩⟩⟩⟩) ⟨rfl, by decide +kernel, by decide +kernel, (by decide +kernel : (parseMethodDescriptor "(LMarkupStore$Predicate;)V").map (fun d => d.parameters.length) = some 1)⟩ (hm_recv hK I rfl c9) I ⟨rfl, rfl⟩ ⟨⟨by show _ ≤ fP + 3; omega, by show _ ≤ lP + 65; omega⟩, (rm_u hc ec).1, (rm_u hs es).1⟩ rfl (Nat.le_of_ble_eq_true rfl) d242_108 (fun vv h41 z42 H locs hR I9 => ?_)
      obtain ⟨e1, hF⟩ := hR
      subst e1
      clear I
      have I := I9
      clear I9 c9 fs9
      have hc := (rm_u hc ec).2
      have hs := (rm_u hs es).2
      clear ec es
      refine W.eq (g2 := F0 m 111 ls []) rfl ?_
      refine lv_iinc (k := 4) (v := (x4 + 1)) hx hb d242_111 hl rfl (rfl) (by decide) (show _ = [(4, .int (x4 + 1)), (0, .ref y0), (1, va_rf x1), (2, .int x2), (3, va_rf x3)] by simp [cat_rf, cat_int, cat_ref, cat_null, cat_long]) (fun ls hl => ?_)
      have hl : lv_has ls 5 [(4, .int (x4 + 1)), (0, .ref y0), (1, va_rf x1), (2, .int x2), (3, va_rf x3)] := hl
      refine lv_goto hx hb d242_114 rfl ?_
      exact hk83 ls x1 x2 x3 (x4 + 1) c45 s46 _ _ h41 z42 _ _ hF hc hs (hl.sub [1, 2, 3, 4, 0] rfl) I
  have b70 : ∀ (k2 : Option Nat → Int32 → Nat → Nat → hm_T → hz_T → Prop), (∀ (ls : Array Slot) (x1 : Option Nat) (x2 : Int32) (c9 s9 cu su : Nat) (h : hm_T) (z : hz_T) (H : Heap) (locs : List Loc), k2 x1 x2 c9 s9 h z → cu + c9 ≤ rc → su + s9 ≤ rs → lv_has ls 5 [(0, .ref y0), (1, va_rf x1), (2, .int x2)] → hm_I D s0 s h z H locs → W p l e { frames := fP + 3, cells := rc, slots := rs, locals := lP + 65 } s m ([.ref y0, va_rf y1] : List Value).toArray below meth c H locs cu su (MQ below (ht_Q D s0 (fun vv h1 z1 => vv = none ∧ K h1 z1)) ([.ref y0, va_rf y1] : List Value).toArray s rc rs (fun q => s0.heap.size ≤ q)) (F0 m 2 ls [])) → ∀ (k28 : Option Nat → Int32 → Option Nat → Int32 → Nat → Nat → hm_T → hz_T → Prop), (∀ (ls : Array Slot) (x1 : Option Nat) (x2 : Int32) (x3 : Option Nat) (x4 : Int32) (c9 s9 cu su : Nat) (h : hm_T) (z : hz_T) (H : Heap) (locs : List Loc), k28 x1 x2 x3 x4 c9 s9 h z → cu + c9 ≤ rc → su + s9 ≤ rs → lv_has ls 5 [(0, .ref y0), (1, va_rf x1), (2, .int x2), (3, va_rf x3), (4, .int x4)] → hm_I D s0 s h z H locs → W p l e { frames := fP + 3, cells := rc, slots := rs, locals := lP + 65 } s m ([.ref y0, va_rf y1] : List Value).toArray below meth c H locs cu su (MQ below (ht_Q D s0 (fun vv h1 z1 => vv = none ∧ K h1 z1)) ([.ref y0, va_rf y1] : List Value).toArray s rc rs (fun q => s0.heap.size ≤ q)) (F0 m 28 ls [])) → ∀ (ls : Array Slot) (x1 : Option Nat) (x2 : Int32) (x3 : Option Nat) (x4 : Int32) (w0 : Int64) (w1 : Int64) (w2 : Option Nat) (c9 s9 cu su : Nat) (h : hm_T) (z : hz_T) (H : Heap) (locs : List Loc), w_Walker_prepare_70 dA P y0 K k2 k28 x1 x2 x3 x4 w0 w1 w2 c9 s9 h z → cu + c9 ≤ rc → su + s9 ≤ rs → lv_has ls 5 [(0, .ref y0), (1, va_rf x1), (2, .int x2), (3, va_rf x3), (4, .int x4)] → hm_I D s0 s h z H locs → W p l e { frames := fP + 3, cells := rc, slots := rs, locals := lP + 65 } s m ([.ref y0, va_rf y1] : List Value).toArray below meth c H locs cu su (MQ below (ht_Q D s0 (fun vv h1 z1 => vv = none ∧ K h1 z1)) ([.ref y0, va_rf y1] : List Value).toArray s rc rs (fun q => s0.heap.size ≤ q)) (F0 m 70 ls [.long w0, .long w1, va_rf w2]) := by
    intro k2 hk2 k28 hk28 ls x1 x2 x3 x4 w0 w1 w2 c9 s9 cu su h z H locs hF hc hs hl I
    unfold w_Walker_prepare_70 at hF
    refine lv_lor hx hb d242_70 ?_
    obtain ⟨a58, e9, hF⟩ := hF
    refine W.eq (g2 := F0 m 71 ls [.long (w1 ||| w0), .ref a58]) (by rw [e9]; rfl) ?_
    clear e9
    obtain ⟨fs9, c9, k9, hF⟩ := hF
    refine hm_put (ci := 12) (v := .long (w1 ||| w0)) (ty := .long) (C := kR12) (T := kT12) (N := 5) X I ku12 kt12 kp12 kn12 c9 rfl 4 (by decide) ms_k934 (fun _ h => h) rfl (by decide +kernel) rfl rfl k9 d242_71 (fun h59 H locs e9 f9 I => ?_)
    rw [← hm_eqU e9 f9] at hF
    clear e9 f9 c9 k9
    refine lv_iinc (k := 4) (v := (x4 + 1)) hx hb d242_74 hl rfl (rfl) (by decide) (show _ = [(4, .int (x4 + 1)), (0, .ref y0), (1, va_rf x1), (2, .int x2), (3, va_rf x3)] by simp [cat_rf, cat_int, cat_ref, cat_null, cat_long]) (fun ls hl => ?_)
    have hl : lv_has ls 5 [(4, .int (x4 + 1)), (0, .ref y0), (1, va_rf x1), (2, .int x2), (3, va_rf x3)] := hl
    refine lv_goto hx hb d242_77 rfl ?_
    exact hk28 ls x1 x2 x3 (x4 + 1) c9 s9 _ _ h59 z _ _ hF hc hs (hl.sub [1, 2, 3, 4, 0] rfl) I
  have b28 : ∀ (k2 : Option Nat → Int32 → Nat → Nat → hm_T → hz_T → Prop), (∀ (ls : Array Slot) (x1 : Option Nat) (x2 : Int32) (c9 s9 cu su : Nat) (h : hm_T) (z : hz_T) (H : Heap) (locs : List Loc), k2 x1 x2 c9 s9 h z → cu + c9 ≤ rc → su + s9 ≤ rs → lv_has ls 5 [(0, .ref y0), (1, va_rf x1), (2, .int x2)] → hm_I D s0 s h z H locs → W p l e { frames := fP + 3, cells := rc, slots := rs, locals := lP + 65 } s m ([.ref y0, va_rf y1] : List Value).toArray below meth c H locs cu su (MQ below (ht_Q D s0 (fun vv h1 z1 => vv = none ∧ K h1 z1)) ([.ref y0, va_rf y1] : List Value).toArray s rc rs (fun q => s0.heap.size ≤ q)) (F0 m 2 ls [])) → ∀ n9 : Nat, ∀ (ls : Array Slot) (x1 : Option Nat) (x2 : Int32) (x3 : Option Nat) (x4 : Int32) (c9 s9 cu su : Nat) (h : hm_T) (z : hz_T) (H : Heap) (locs : List Loc), w_Walker_prepare_28 dA P y0 K k2 n9 x1 x2 x3 x4 c9 s9 h z → cu + c9 ≤ rc → su + s9 ≤ rs → lv_has ls 5 [(0, .ref y0), (1, va_rf x1), (2, .int x2), (3, va_rf x3), (4, .int x4)] → hm_I D s0 s h z H locs → W p l e { frames := fP + 3, cells := rc, slots := rs, locals := lP + 65 } s m ([.ref y0, va_rf y1] : List Value).toArray below meth c H locs cu su (MQ below (ht_Q D s0 (fun vv h1 z1 => vv = none ∧ K h1 z1)) ([.ref y0, va_rf y1] : List Value).toArray s rc rs (fun q => s0.heap.size ≤ q)) (F0 m 28 ls []) := by
    intro k2 hk2 n9
    induction n9 with
    | zero => intro ls x1 x2 x3 x4 c9 s9 cu su h z H locs hF; cases hF
    | succ n9 hk28 =>
    intro ls x1 x2 x3 x4 c9 s9 cu su h z H locs hF hc hs hl I
    unfold w_Walker_prepare_28 at hF
    refine lv_iload hx hb d242_28 (lv_at hl 4 rfl) ?_
    refine lv_aload_n hx hb d242_30 rfl (lv_at hl 0 rfl) ?_
    obtain ⟨fs9, v29, c9, e9, hF⟩ := hF
    refine va_get (D := D) (ci := 14) (v := va_rf v29) (C := kR14) (T := kT14) (N := 1) hx hb hts ku14 hown hK (hm_one I.1 c9) 0 rfl rfl 0 (by decide) (hts _ ms_k1088) (fun _ h => h) e9 d242_31 ?_
    clear e9 c9 fs9
    obtain ⟨a30, e9, hF⟩ := hF
    refine W.eq (g2 := F0 m 34 ls [.ref a30, .int x4]) (by rw [e9]; rfl) ?_
    clear e9
    obtain ⟨fs9, v31, c9, e9, hF⟩ := hF
    refine va_get (D := D) (ci := 1) (v := .int v31) (C := kR1) (T := kT1) (N := 6) hx hb hts ku1 hown hK (hm_one I.1 c9) 0 rfl rfl 3 (by decide) (hts _ ms_k88) (fun _ h => h) e9 d242_34 ?_
    clear e9 c9 fs9
    refine lv_icmp_ge hx hb d242_37 rfl (fun h9 => ?_) (fun h9 => ?_)
    · have hF := Eq.mp (if_pos h9) hF
      refine lv_iconst (v := 0) hx hb d242_80 (by decide) ?_
      refine lv_istore (i := 4) hx hb d242_81 hl (by decide) (show _ = [(4, .int 0), (0, .ref y0), (1, va_rf x1), (2, .int x2), (3, va_rf x3)] by simp [cat_rf, cat_int, cat_ref, cat_null, cat_long]) (fun ls hl => ?_)
      have hl : lv_has ls 5 [(4, .int 0), (0, .ref y0), (1, va_rf x1), (2, .int x2), (3, va_rf x3)] := hl
      exact b83 k2 hk2 mF ls x1 x2 x3 0 c9 s9 _ _ h z _ _ hF hc hs (hl.sub [1, 2, 3, 4, 0] rfl) I
    · have hF := Eq.mp (if_neg h9) hF
      refine lv_aload_nR hx hb d242_40 rfl (lv_at hl 3 rfl) ?_
      refine lv_dup hx hb d242_41 (cat_rf _) ?_
      obtain ⟨a47, e9, hF⟩ := hF
      refine W.eq (g2 := F0 m 42 ls [.ref a47, va_rf x3]) (by rw [e9]; rfl) ?_
      clear e9
      obtain ⟨fs9, v48, c9, e9, hF⟩ := hF
      refine va_get (D := D) (ci := 12) (v := .long v48) (C := kR12) (T := kT12) (N := 5) hx hb hts ku12 hown hK (hm_one I.1 c9) 0 rfl rfl 4 (by decide) (hts _ ms_k934) (fun _ h => h) e9 d242_42 ?_
      clear e9 c9 fs9
      refine lv_aload_nR hx hb d242_45 rfl (lv_at hl 3 rfl) ?_
      refine lv_aload_n hx hb d242_46 rfl (lv_at hl 0 rfl) ?_
      obtain ⟨fs9, v49, c9, e9, hF⟩ := hF
      refine va_get (D := D) (ci := 14) (v := va_rf v49) (C := kR14) (T := kT14) (N := 1) hx hb hts ku14 hown hK (hm_one I.1 c9) 0 rfl rfl 0 (by decide) (hts _ ms_k1088) (fun _ h => h) e9 d242_47 ?_
      clear e9 c9 fs9
      obtain ⟨a50, e9, hF⟩ := hF
      refine W.eq (g2 := F0 m 50 ls [.ref a50, va_rf x3, .long v48, va_rf x3]) (by rw [e9]; rfl) ?_
      clear e9
      obtain ⟨fs9, v51, c9, e9, hF⟩ := hF
      refine va_get (D := D) (ci := 1) (v := va_rf v51) (C := kR1) (T := kT1) (N := 6) hx hb hts ku1 hown hK (hm_one I.1 c9) 0 rfl rfl 2 (by decide) (hts _ ms_k84) (fun _ h => h) e9 d242_50 ?_
      clear e9 c9 fs9
      refine lv_iload hx hb d242_53 (lv_at hl 4 rfl) ?_
      obtain ⟨a52, e9, hF⟩ := hF
      refine W.eq (g2 := F0 m 55 ls [.int x4, .ref a52, va_rf x3, .long v48, va_rf x3]) (by rw [e9]; rfl) ?_
      clear e9
      obtain ⟨n8, f8, c9, i9, hF⟩ := hF
      refine va_aldq hx hb hK (hm_one I.1 c9) 0 5 rfl rfl i9 d242_55 ?_
      generalize f8 (Int32.toNatClampNeg x4) = v53 at hF ⊢
      clear c9 i9
      obtain ⟨a54, e9, hF⟩ := hF
      refine W.eq (g2 := F0 m 56 ls [va_rf v53, .ref a54, .long v48, va_rf x3]) (by rw [e9]; rfl) ?_
      clear e9
      obtain ⟨fs9, c9, hF⟩ := hF
      refine ht_V (C := "MarkupStore$Step") (rest := [.long v48, va_rf x3]) (as := [va_rf v53]) X hl (cw_Step_takes l D dA s0 hE a54 v53 h z _ hF) (List.forall_mem_cons.mpr ⟨ms_k1099, List.forall_mem_cons.mpr ⟨ms_k1100, List.forall_mem_cons.mpr ⟨ms_k1101, List.forall_mem_cons.mpr ⟨ms_k25, List.forall_mem_cons.mpr ⟨ms_k1102, fun _ h => absurd h List.not_mem_nil⟩⟩⟩⟩⟩) ⟨rfl, by decide +kernel, by decide +kernel, (by decide +kernel : (parseMethodDescriptor "(LMarkupStore$Node;)Z").map (fun d => d.parameters.length) = some 1)⟩ (hm_recv hK I rfl c9) I ⟨rfl, rfl⟩ ⟨⟨by show _ ≤ fP + 3; omega, by show _ ≤ lP + 65; omega⟩, rm_0 hc, rm_0 hs⟩ rfl (by simp [cat_rf, cat_int, cat_ref, cat_null, cat_long]) d242_56 (fun vv h56 z57 H locs hR I9 => ?_)
      obtain ⟨v55, e1, hF⟩ := hR
      subst e1
      clear I
      have I := I9
      clear I9 c9 fs9
      refine W.eq (g2 := F0 m 59 ls [.int v55, .long v48, va_rf x3]) rfl ?_
      refine lv_if_eq hx hb d242_59 rfl (fun h9 => ?_) (fun h9 => ?_)
      · have hF := Eq.mp (if_pos h9) hF
        refine lv_lconst (v := (0 : Int64)) hx hb d242_69 (by decide) ?_
        exact b70 k2 hk2 (w_Walker_prepare_28 dA P y0 K k2 n9) hk28 ls x1 x2 x3 x4 (0 : Int64) v48 x3 c9 s9 _ _ h56 z57 _ _ hF hc hs (hl.sub [0, 1, 2, 3, 4] rfl) I
      · have hF := Eq.mp (if_neg h9) hF
        refine lv_lconst (v := (1 : Int64)) hx hb d242_62 (by decide) ?_
        refine lv_iload hx hb d242_63 (lv_at hl 4 rfl) ?_
        refine lv_lshl (v := ((1 : Int64) <<< (x4.toInt64 &&& 63))) hx hb d242_65 rfl ?_
        refine lv_goto hx hb d242_66 rfl ?_
        exact b70 k2 hk2 (w_Walker_prepare_28 dA P y0 K k2 n9) hk28 ls x1 x2 x3 x4 ((1 : Int64) <<< (x4.toInt64 &&& 63)) v48 x3 c9 s9 _ _ h56 z57 _ _ hF hc hs (hl.sub [0, 1, 2, 3, 4] rfl) I
  have b2 : ∀ n9 : Nat, ∀ (ls : Array Slot) (x1 : Option Nat) (x2 : Int32) (c9 s9 cu su : Nat) (h : hm_T) (z : hz_T) (H : Heap) (locs : List Loc), w_Walker_prepare_2 dA P y0 K n9 x1 x2 c9 s9 h z → cu + c9 ≤ rc → su + s9 ≤ rs → lv_has ls 5 [(0, .ref y0), (1, va_rf x1), (2, .int x2)] → hm_I D s0 s h z H locs → W p l e { frames := fP + 3, cells := rc, slots := rs, locals := lP + 65 } s m ([.ref y0, va_rf y1] : List Value).toArray below meth c H locs cu su (MQ below (ht_Q D s0 (fun vv h1 z1 => vv = none ∧ K h1 z1)) ([.ref y0, va_rf y1] : List Value).toArray s rc rs (fun q => s0.heap.size ≤ q)) (F0 m 2 ls []) := by
    intro n9
    induction n9 with
    | zero => intro ls x1 x2 c9 s9 cu su h z H locs hF; cases hF
    | succ n9 hk2 =>
    intro ls x1 x2 c9 s9 cu su h z H locs hF hc hs hl I
    unfold w_Walker_prepare_2 at hF
    refine lv_iload_n hx hb d242_2 rfl (lv_at hl 2 rfl) ?_
    refine lv_aload_nR hx hb d242_3 rfl (lv_at hl 1 rfl) ?_
    obtain ⟨a21, e9, hF⟩ := hF
    refine W.eq (g2 := F0 m 4 ls [.ref a21, .int x2]) (by rw [e9]; rfl) ?_
    clear e9
    obtain ⟨fs9, v22, c9, e9, hF⟩ := hF
    refine va_get (D := D) (ci := 11) (v := va_rf v22) (C := kR11) (T := kT11) (N := 2) hx hb hts ku11 hown hK (hm_one I.1 c9) 0 rfl rfl 1 (by decide) (hts _ ms_k903) (fun _ h => h) e9 d242_4 ?_
    clear e9 c9 fs9
    obtain ⟨a23, e9, hF⟩ := hF
    refine W.eq (g2 := F0 m 7 ls [.ref a23, .int x2]) (by rw [e9]; rfl) ?_
    clear e9
    obtain ⟨d9, k9, mo9, c9, hF⟩ := hF
    refine ht_V (C := "java/util/ArrayList") (rest := [.int x2]) (as := []) X hl (c_ALsize l D dA s0 hE a23 d9 k9 mo9) (List.forall_mem_cons.mpr ⟨ms_k1096, List.forall_mem_cons.mpr ⟨ms_k595, List.forall_mem_cons.mpr ⟨ms_k596, List.forall_mem_cons.mpr ⟨ms_k18, List.forall_mem_cons.mpr ⟨ms_k597, fun _ h => absurd h List.not_mem_nil⟩⟩⟩⟩⟩) ⟨rfl, by decide +kernel, by decide +kernel, (by decide +kernel : (parseMethodDescriptor "()I").map (fun d => d.parameters.length) = some 0)⟩ (hm_recv hK I rfl c9) I c9 ⟨⟨by show _ ≤ fP + 3; omega, by show _ ≤ lP + 65; omega⟩, rm_0 hc, rm_0 hs⟩ rfl (Nat.le_of_ble_eq_true rfl) d242_7 (fun vv h9 z7 H locs hR I9 => ?_)
    obtain ⟨e1, e2, e3⟩ := hR
    rw [e2, e3] at I9
    subst e1
    clear I
    have I := I9
    clear I9 e2 e3 h9 z7
    refine W.eq (g2 := F0 m 10 ls [.int (nI k9), .int x2]) rfl ?_
    generalize (nI k9) = v24 at hF ⊢
    refine lv_icmp_ge hx hb d242_10 rfl (fun h9 => ?_) (fun h9 => ?_)
    · have hF := Eq.mp (if_pos h9) hF
      exact ht_vret X d242_123 I (rm_r hc) (rm_r hs) ⟨rfl, hF⟩
    · have hF := Eq.mp (if_neg h9) hF
      refine lv_aload_nR hx hb d242_13 rfl (lv_at hl 1 rfl) ?_
      obtain ⟨a25, e9, hF⟩ := hF
      refine W.eq (g2 := F0 m 14 ls [.ref a25]) (by rw [e9]; rfl) ?_
      clear e9
      obtain ⟨fs9, v26, c9, e9, hF⟩ := hF
      refine va_get (D := D) (ci := 11) (v := va_rf v26) (C := kR11) (T := kT11) (N := 2) hx hb hts ku11 hown hK (hm_one I.1 c9) 0 rfl rfl 1 (by decide) (hts _ ms_k903) (fun _ h => h) e9 d242_14 ?_
      clear e9 c9 fs9
      refine lv_iload_n hx hb d242_17 rfl (lv_at hl 2 rfl) ?_
      obtain ⟨a27, e9, hF⟩ := hF
      refine W.eq (g2 := F0 m 18 ls [.int x2, .ref a27]) (by rw [e9]; rfl) ?_
      clear e9
      obtain ⟨d9, k9, mo9, n8, j9, q9, f8, c9, c8, e8, p1, p2, p3, p4, hF⟩ := hF
      refine ms_top (y := nI j9) e8 ?_
      refine ht_V (C := "java/util/ArrayList") (rest := []) (as := [.int (nI j9)]) X hl (c_ALget l D dA s0 hE a27 d9 k9 mo9 n8 j9 q9 f8 p1 p2 p3 p4) (List.forall_mem_cons.mpr ⟨ms_k1097, List.forall_mem_cons.mpr ⟨ms_k599, List.forall_mem_cons.mpr ⟨ms_k600, List.forall_mem_cons.mpr ⟨ms_k18, List.forall_mem_cons.mpr ⟨ms_k601, fun _ h => absurd h List.not_mem_nil⟩⟩⟩⟩⟩) ⟨rfl, by decide +kernel, by decide +kernel, (by decide +kernel : (parseMethodDescriptor "(I)Ljava/lang/Object;").map (fun d => d.parameters.length) = some 1)⟩ (hm_recv hK I rfl c9) I ⟨c9, c8⟩ ⟨⟨by show _ ≤ fP + 3; omega, by show _ ≤ lP + 65; omega⟩, rm_0 hc, rm_0 hs⟩ rfl (Nat.le_of_ble_eq_true rfl) d242_18 (fun vv h9 z7 H locs hR I9 => ?_)
      obtain ⟨e1, e2, e3⟩ := hR
      rw [e2, e3] at I9
      subst e1
      clear I
      have I := I9
      clear I9 e2 e3 h9 z7
      refine W.eq (g2 := F0 m 21 ls [.ref q9]) rfl ?_
      generalize q9 = v28 at hF ⊢
      try clear p4
      obtain ⟨fs9, c9, hF⟩ := hF
      refine va_castE hx hb hown (hts _ ms_k1098) (hm_recv hK I rfl c9) d242_21 ?_
      clear c9 fs9
      refine lv_astore_n hx hb d242_24 rfl hl (by decide) rfl (fun ls hl => ?_)
      have hl : lv_has ls 5 [(3, .ref v28), (0, .ref y0), (1, va_rf x1), (2, .int x2)] := hl
      refine lv_iconst (v := 0) hx hb d242_25 (by decide) ?_
      refine lv_istore hx hb d242_26 hl (by decide) rfl (fun ls hl => ?_)
      have hl : lv_has ls 5 [(4, .int 0), (3, .ref v28), (0, .ref y0), (1, va_rf x1), (2, .int x2)] := hl
      exact b28 (w_Walker_prepare_2 dA P y0 K n9) hk2 mF ls x1 x2 (some v28) 0 c9 s9 _ _ h z _ _ hF hc hs (hl.sub [2, 3, 4, 1, 0] rfl) I
  have hF := hg
  unfold w_Walker_prepare at hF
  clear h z
  have hc : 0 + rc ≤ rc := by omega
  have hs : 0 + rs ≤ rs := by omega
  refine lv_iconst (v := 0) hx hb d242_0 (by decide) ?_
  refine lv_istore_n (i := 2) hx hb d242_1 rfl hl (by decide) (show _ = [(2, .int 0), (0, .ref y0), (1, va_rf y1)] by simp [cat_rf, cat_int, cat_ref, cat_null, cat_long]) (fun ls hl => ?_)
  have hl : lv_has ls 5 [(2, .int 0), (0, .ref y0), (1, va_rf y1)] := hl
  exact b2 mF ls y1 0 rc rs _ _ h0 z0 _ _ hF hc hs (hl.sub [1, 2, 0] rfl) I

def w_Walker_settle (dA : Nat → ClassId) (P : Nat → Option Nat → Nat → Nat → (hm_T → hz_T → Prop) → hm_T → hz_T → Prop) (y0 : Nat) (y1 : Option Nat) (rc rs : Nat) (K : hm_T → hz_T → Prop) (h0 : hm_T) (z0 : hz_T) : Prop := (cg_d y1 (fun a21 => (cg_I h0 13 0 a21 (fun v22 => (if v22 = 64 then (cg_c h0 14 y0 (w_Walker_withAttribute dA y0 y1 (fun v44 h45 z46 => (cg_d y1 (fun a47 => (cg_p h45 13 7 a47 (.long v44) (fun h48 => (K h48 z46)))))) h0 z0)) else (cg_d y1 (fun a23 => (cg_R h0 13 4 a23 (fun v24 => (if v24 = none then (K h0 z0) else (cg_d y1 (fun a25 => (cg_R h0 13 4 a25 (fun v26 => (cg_c h0 14 y0 (cg_rm rc rs (fun c30 s31 c32 s33 => P y0 v26 c30 s31 (fun h28 z29 => (cg_d y1 (fun a34 => (cg_R h28 13 4 a34 (fun v35 => (cg_c h28 14 y0 (w_Walker_goals dA y0 y1 (fun v36 h37 z38 => (cg_c h37 14 y0 (w_Walker_origins dA y0 v35 v36 (fun v39 h40 z41 => (cg_d y1 (fun a42 => (cg_p h40 13 7 a42 (.long v39) (fun h43 => (K h43 z41)))))) h37 z38))) h28 z29))))))) h0 z0)))))))))))))))))
set_option maxRecDepth 100000 in
set_option maxHeartbeats 8000000 in
theorem cw_Walker_settle (l : Launch) (D : va_G) (dA : Nat → ClassId) (s0 : State) (hW : ms_EW D dA s0) (P : Nat → Option Nat → Nat → Nat → (hm_T → hz_T → Prop) → hm_T → hz_T → Prop) (fP lP : Nat) (hP : ∀ (a0_ : Nat) (a1_ : Option Nat) (c1 s1 : Nat) (h0 : hm_T) (z0 : hz_T) (K : hm_T → hz_T → Prop), P a0_ a1_ c1 s1 K h0 z0 → ht_C l D s0 yM242 bM242 5 (Option.none : Option Jvm.ClassFile.FieldType) fP lP c1 s1 [.ref a0_, va_rf a1_] (fun h z => h = h0 ∧ z = z0) (fun h z vv h1 z1 => vv = none ∧ K h1 z1)) (y0 : Nat) (y1 : Option Nat) (rc rs : Nat) (h0 : hm_T) (z0 : hz_T) (K : hm_T → hz_T → Prop) (hg : w_Walker_settle dA P y0 y1 rc rs K h0 z0) : ht_C l D s0 yM243 bM243 2 (Option.none : Option Jvm.ClassFile.FieldType) (fP + 6) (lP + 144) rc rs [.ref y0, va_rf y1] (fun h z => h = h0 ∧ z = z0) (fun h z vv h1 z1 => vv = none ∧ K h1 z1) := by
  have hE := hW.1
  refine ht_C.mk hE.1 (by decide) (by simp [lg_sl, cat_rf, cat_int, cat_ref, cat_null, cat_long]) [(0, .ref y0), (1, va_rf y1)] (by simp [lv_args, cat_rf, cat_int, cat_ref, cat_null, cat_long]) ?_
  intro p e s m below meth c ls h z X hin hpre I hl
  have hx := X.1
  have hb := X.2.1
  have hml := X.2.2.1
  have hown : s.vm.findClass "MarkupStore$Walker" = some m.cls := X.2.2.2.1
  have hts := X.2.2.2.2.2.2.1
  have hK := X.2.2.2.2.2.2.2.2.1
  rw [hpre.1, hpre.2] at I
  clear hpre
  have hF := hg
  unfold w_Walker_settle at hF
  clear h z
  have hc : 0 + rc ≤ rc := by omega
  have hs : 0 + rs ≤ rs := by omega
  refine lv_aload_nR hx hb d243_0 rfl (lv_at hl 1 rfl) ?_
  obtain ⟨a21, e9, hF⟩ := hF
  refine W.eq (g2 := F0 m 1 ls [.ref a21]) (by rw [e9]; rfl) ?_
  clear e9
  obtain ⟨fs9, v22, c9, e9, hF⟩ := hF
  refine va_get (D := D) (ci := 13) (v := .int v22) (C := kR13) (T := kT13) (N := 8) hx hb hts ku13 hown hK (hm_one I.1 c9) 0 rfl rfl 0 (by decide) (hts _ ms_k1021) (fun _ h => h) e9 d243_1 ?_
  clear e9 c9 fs9
  refine lv_bipush (v := 64) hx hb d243_4 (by decide) ?_
  refine lv_icmp_ne hx hb d243_6 rfl (fun h9 => ?_) (fun h9 => ?_)
  · have hF := Eq.mp (if_neg h9) hF
    refine lv_aload_nR hx hb d243_21 rfl (lv_at hl 1 rfl) ?_
    obtain ⟨a23, e9, hF⟩ := hF
    refine W.eq (g2 := F0 m 22 ls [.ref a23]) (by rw [e9]; rfl) ?_
    clear e9
    obtain ⟨fs9, v24, c9, e9, hF⟩ := hF
    refine va_get (D := D) (ci := 13) (v := va_rf v24) (C := kR13) (T := kT13) (N := 8) hx hb hts ku13 hown hK (hm_one I.1 c9) 0 rfl rfl 4 (by decide) (hts _ ms_k1033) (fun _ h => h) e9 d243_22 ?_
    clear e9 c9 fs9
    refine lv_ifnullR hx hb d243_25 rfl (fun h9 => ?_) (fun h9 => ?_)
    · have hF := Eq.mp (if_pos h9) hF
      exact ht_vret X d243_53 I (rm_r hc) (rm_r hs) ⟨rfl, hF⟩
    · have hF := Eq.mp (if_neg h9) hF
      refine lv_aload_n hx hb d243_28 rfl (lv_at hl 0 rfl) ?_
      refine lv_aload_nR hx hb d243_29 rfl (lv_at hl 1 rfl) ?_
      obtain ⟨a25, e9, hF⟩ := hF
      refine W.eq (g2 := F0 m 30 ls [.ref a25, .ref y0]) (by rw [e9]; rfl) ?_
      clear e9
      obtain ⟨fs9, v26, c9, e9, hF⟩ := hF
      refine va_get (D := D) (ci := 13) (v := va_rf v26) (C := kR13) (T := kT13) (N := 8) hx hb hts ku13 hown hK (hm_one I.1 c9) 0 rfl rfl 4 (by decide) (hts _ ms_k1033) (fun _ h => h) e9 d243_30 ?_
      clear e9 c9 fs9
      obtain ⟨fs9, c9, hF⟩ := hF
      obtain ⟨c30, s31, c32, s33, ec, es, hF⟩ := hF
      refine ht_V (C := "MarkupStore$Walker") (rest := []) (as := [va_rf v26]) X hl (hP y0 v26 c30 s31 h0 z0 _ hF) (List.forall_mem_cons.mpr ⟨ms_k1119, List.forall_mem_cons.mpr ⟨ms_k1093, List.forall_mem_cons.mpr ⟨ms_k1094, List.forall_mem_cons.mpr ⟨ms_k28, List.forall_mem_cons.mpr ⟨ms_k1095, fun _ h => absurd h List.not_mem_nil⟩⟩⟩⟩⟩) ⟨rfl, by decide +kernel, by decide +kernel, (by decide +kernel : (parseMethodDescriptor "(LMarkupStore$Path;)V").map (fun d => d.parameters.length) = some 1)⟩ (hm_recv hK I rfl c9) I ⟨rfl, rfl⟩ ⟨⟨by show _ ≤ fP + 6; omega, by show _ ≤ lP + 144; omega⟩, (rm_u hc ec).1, (rm_u hs es).1⟩ rfl (Nat.le_of_ble_eq_true rfl) d243_33 (fun vv h28 z29 H locs hR I9 => ?_)
      obtain ⟨e1, hF⟩ := hR
      subst e1
      clear I
      have I := I9
      clear I9 c9 fs9
      have hc := (rm_u hc ec).2
      have hs := (rm_u hs es).2
      clear ec es
      refine W.eq (g2 := F0 m 36 ls []) rfl ?_
      refine lv_aload_nR hx hb d243_36 rfl (lv_at hl 1 rfl) ?_
      refine lv_aload_n hx hb d243_37 rfl (lv_at hl 0 rfl) ?_
      refine lv_aload_nR hx hb d243_38 rfl (lv_at hl 1 rfl) ?_
      obtain ⟨a34, e9, hF⟩ := hF
      refine W.eq (g2 := F0 m 39 ls [.ref a34, .ref y0, va_rf y1]) (by rw [e9]; rfl) ?_
      clear e9
      obtain ⟨fs9, v35, c9, e9, hF⟩ := hF
      refine va_get (D := D) (ci := 13) (v := va_rf v35) (C := kR13) (T := kT13) (N := 8) hx hb hts ku13 hown hK (hm_one I.1 c9) 0 rfl rfl 4 (by decide) (hts _ ms_k1033) (fun _ h => h) e9 d243_39 ?_
      clear e9 c9 fs9
      refine lv_aload_n hx hb d243_42 rfl (lv_at hl 0 rfl) ?_
      refine lv_aload_nR hx hb d243_43 rfl (lv_at hl 1 rfl) ?_
      obtain ⟨fs9, c9, hF⟩ := hF
      refine ht_V (C := "MarkupStore$Walker") (rest := [va_rf v35, .ref y0, va_rf y1]) (as := [va_rf y1]) X hl (cw_Walker_goals l D dA s0 hE y0 y1 h28 z29 _ hF) (List.forall_mem_cons.mpr ⟨ms_k1120, List.forall_mem_cons.mpr ⟨ms_k1122, List.forall_mem_cons.mpr ⟨ms_p26, List.forall_mem_cons.mpr ⟨ms_k28, List.forall_mem_cons.mpr ⟨ms_k1123, fun _ h => absurd h List.not_mem_nil⟩⟩⟩⟩⟩) ⟨rfl, by decide +kernel, by decide +kernel, (by decide +kernel : (parseMethodDescriptor "(LMarkupStore$Predicate;)J").map (fun d => d.parameters.length) = some 1)⟩ (hm_recv hK I rfl c9) I ⟨rfl, rfl⟩ ⟨⟨by show _ ≤ fP + 6; omega, by show _ ≤ lP + 144; omega⟩, rm_0 hc, rm_0 hs⟩ rfl (by simp [cat_rf, cat_int, cat_ref, cat_null, cat_long]) d243_44 (fun vv h37 z38 H locs hR I9 => ?_)
      obtain ⟨v36, e1, hF⟩ := hR
      subst e1
      clear I
      have I := I9
      clear I9 c9 fs9
      refine W.eq (g2 := F0 m 47 ls [.long v36, va_rf v35, .ref y0, va_rf y1]) rfl ?_
      obtain ⟨fs9, c9, hF⟩ := hF
      refine ht_V (C := "MarkupStore$Walker") (rest := [va_rf y1]) (as := [va_rf v35, .long v36]) X hl (cw_Walker_origins l D dA s0 hE y0 v35 v36 h37 z38 _ hF) (List.forall_mem_cons.mpr ⟨ms_k1134, List.forall_mem_cons.mpr ⟨ms_k1136, List.forall_mem_cons.mpr ⟨ms_p28, List.forall_mem_cons.mpr ⟨ms_k28, List.forall_mem_cons.mpr ⟨ms_k1137, fun _ h => absurd h List.not_mem_nil⟩⟩⟩⟩⟩) ⟨rfl, by decide +kernel, by decide +kernel, (by decide +kernel : (parseMethodDescriptor "(LMarkupStore$Path;J)J").map (fun d => d.parameters.length) = some 2)⟩ (hm_recv hK I rfl c9) I ⟨rfl, rfl⟩ ⟨⟨by show _ ≤ fP + 6; omega, by show _ ≤ lP + 144; omega⟩, rm_0 hc, rm_0 hs⟩ rfl (by simp [cat_rf, cat_int, cat_ref, cat_null, cat_long]) d243_47 (fun vv h40 z41 H locs hR I9 => ?_)
      obtain ⟨v39, e1, hF⟩ := hR
      subst e1
      clear I
      have I := I9
      clear I9 c9 fs9
      refine W.eq (g2 := F0 m 50 ls [.long v39, va_rf y1]) rfl ?_
      obtain ⟨a42, e9, hF⟩ := hF
      refine W.eq (g2 := F0 m 50 ls [.long v39, .ref a42]) (by rw [e9]; rfl) ?_
      clear e9
      obtain ⟨fs9, c9, k9, hF⟩ := hF
      refine hm_put (ci := 13) (v := .long v39) (ty := .long) (C := kR13) (T := kT13) (N := 8) X I ku13 kt13 kp13 kn13 c9 rfl 7 (by decide) ms_k1042 (fun _ h => h) rfl (by decide +kernel) rfl rfl k9 d243_50 (fun h43 H locs e9 f9 I => ?_)
      rw [← hm_eqU e9 f9] at hF
      clear e9 f9 c9 k9
      exact ht_vret X d243_53 I (rm_r hc) (rm_r hs) ⟨rfl, hF⟩
  · have hF := Eq.mp (if_pos h9) hF
    refine lv_aload_nR hx hb d243_9 rfl (lv_at hl 1 rfl) ?_
    refine lv_aload_n hx hb d243_10 rfl (lv_at hl 0 rfl) ?_
    refine lv_aload_nR hx hb d243_11 rfl (lv_at hl 1 rfl) ?_
    obtain ⟨fs9, c9, hF⟩ := hF
    refine ht_V (C := "MarkupStore$Walker") (rest := [va_rf y1]) (as := [va_rf y1]) X hl (cw_Walker_withAttribute l D dA s0 hE y0 y1 h0 z0 _ hF) (List.forall_mem_cons.mpr ⟨ms_k1109, List.forall_mem_cons.mpr ⟨ms_k1111, List.forall_mem_cons.mpr ⟨ms_p25, List.forall_mem_cons.mpr ⟨ms_k28, List.forall_mem_cons.mpr ⟨ms_k1112, fun _ h => absurd h List.not_mem_nil⟩⟩⟩⟩⟩) ⟨rfl, by decide +kernel, by decide +kernel, (by decide +kernel : (parseMethodDescriptor "(LMarkupStore$Predicate;)J").map (fun d => d.parameters.length) = some 1)⟩ (hm_recv hK I rfl c9) I ⟨rfl, rfl⟩ ⟨⟨by show _ ≤ fP + 6; omega, by show _ ≤ lP + 144; omega⟩, rm_0 hc, rm_0 hs⟩ rfl (by simp [cat_rf, cat_int, cat_ref, cat_null, cat_long]) d243_12 (fun vv h45 z46 H locs hR I9 => ?_)
    obtain ⟨v44, e1, hF⟩ := hR
    subst e1
    clear I
    have I := I9
    clear I9 c9 fs9
    refine W.eq (g2 := F0 m 15 ls [.long v44, va_rf y1]) rfl ?_
    obtain ⟨a47, e9, hF⟩ := hF
    refine W.eq (g2 := F0 m 15 ls [.long v44, .ref a47]) (by rw [e9]; rfl) ?_
    clear e9
    obtain ⟨fs9, c9, k9, hF⟩ := hF
    refine hm_put (ci := 13) (v := .long v44) (ty := .long) (C := kR13) (T := kT13) (N := 8) X I ku13 kt13 kp13 kn13 c9 rfl 7 (by decide) ms_k1042 (fun _ h => h) rfl (by decide +kernel) rfl rfl k9 d243_15 (fun h48 H locs e9 f9 I => ?_)
    rw [← hm_eqU e9 f9] at hF
    clear e9 f9 c9 k9
    refine lv_goto hx hb d243_18 rfl ?_
    exact ht_vret X d243_53 I (rm_r hc) (rm_r hs) ⟨rfl, hF⟩

def w_F_Walker_prepare (dA : Nat → ClassId) : Nat → Nat → Option Nat → Nat → Nat → (hm_T → hz_T → Prop) → hm_T → hz_T → Prop
  | 0, _, _, _, _, _, _, _ => False
  | n + 1, y0_, y1_, c, s, K, h, z => w_Walker_prepare dA (w_Walker_settle dA (w_F_Walker_prepare dA n)) y0_ y1_ c s K h z
theorem cw_F_Walker_prepare (l : Launch) (D : va_G) (dA : Nat → ClassId) (s0 : State) (hW : ms_EW D dA s0) : ∀ n : Nat, ∀ (a0_ : Nat) (a1_ : Option Nat) (c1 s1 : Nat) (h0 : hm_T) (z0 : hz_T) (K : hm_T → hz_T → Prop), w_F_Walker_prepare dA n a0_ a1_ c1 s1 K h0 z0 → ht_C l D s0 yM242 bM242 5 (Option.none : Option Jvm.ClassFile.FieldType) (9 * n) (209 * n) c1 s1 [.ref a0_, va_rf a1_] (fun h z => h = h0 ∧ z = z0) (fun h z vv h1 z1 => vv = none ∧ K h1 z1) := by
  intro n
  induction n with
  | zero => intro a0_ a1_ c1 s1 h0 z0 K hg; exact absurd hg (by simp [w_F_Walker_prepare])
  | succ n ih =>
    intro a0_ a1_ c1 s1 h0 z0 K hg
    unfold w_F_Walker_prepare at hg
    have q := cw_Walker_prepare l D dA s0 hW (w_Walker_settle dA (w_F_Walker_prepare dA n)) ((9 * n) + 6) ((209 * n) + 144) (fun b0_ b1_ c1 s1 h0 z0 K hg => cw_Walker_settle l D dA s0 hW (w_F_Walker_prepare dA n) (9 * n) (209 * n) ih b0_ b1_ c1 s1 h0 z0 K hg) a0_ a1_ c1 s1 h0 z0 K hg
    rw [show 9 * (n + 1) = ((9 * n) + 6) + 3 by omega, show 209 * (n + 1) = ((209 * n) + 144) + 65 by omega]
    exact q
def w_T_Walker_prepare (dA : Nat → ClassId) (y0 : Nat) (y1 : Option Nat) (rc rs : Nat) (K : hm_T → hz_T → Prop) (h0 : hm_T) (z0 : hz_T) : Prop := w_F_Walker_prepare dA 8 y0 y1 rc rs K h0 z0
theorem cw_T_Walker_prepare (l : Launch) (D : va_G) (dA : Nat → ClassId) (s0 : State) (hW : ms_EW D dA s0) (y0 : Nat) (y1 : Option Nat) (rc rs : Nat) (h0 : hm_T) (z0 : hz_T) (K : hm_T → hz_T → Prop) (hg : w_T_Walker_prepare dA y0 y1 rc rs K h0 z0) : ht_C l D s0 yM242 bM242 5 (Option.none : Option Jvm.ClassFile.FieldType) 72 1672 rc rs [.ref y0, va_rf y1] (fun h z => h = h0 ∧ z = z0) (fun h z vv h1 z1 => vv = none ∧ K h1 z1) := (cw_F_Walker_prepare l D dA s0 hW 8) y0 y1 rc rs h0 z0 K hg
def w_T_Walker_settle (dA : Nat → ClassId) (y0 : Nat) (y1 : Option Nat) (rc rs : Nat) (K : hm_T → hz_T → Prop) (h0 : hm_T) (z0 : hz_T) : Prop := w_Walker_settle dA (w_F_Walker_prepare dA 8) y0 y1 rc rs K h0 z0
theorem cw_T_Walker_settle (l : Launch) (D : va_G) (dA : Nat → ClassId) (s0 : State) (hW : ms_EW D dA s0) (y0 : Nat) (y1 : Option Nat) (rc rs : Nat) (h0 : hm_T) (z0 : hz_T) (K : hm_T → hz_T → Prop) (hg : w_T_Walker_settle dA y0 y1 rc rs K h0 z0) : ht_C l D s0 yM243 bM243 2 (Option.none : Option Jvm.ClassFile.FieldType) 78 1816 rc rs [.ref y0, va_rf y1] (fun h z => h = h0 ∧ z = z0) (fun h z vv h1 z1 => vv = none ∧ K h1 z1) := (fun b0_ b1_ c1 s1 h0 z0 K hg => cw_Walker_settle l D dA s0 hW (w_F_Walker_prepare dA 8) (9 * 8) (209 * 8) (cw_F_Walker_prepare l D dA s0 hW 8) b0_ b1_ c1 s1 h0 z0 K hg) y0 y1 rc rs h0 z0 K hg

def w_Store_init (dA : Nat → ClassId) (y0 : Nat) (rc rs : Nat) (K : hm_T → hz_T → Prop) (h0 : hm_T) (z0 : hz_T) : Prop := (cg_new h0 rc rs 3 4 [.null, .int 0, .int 0, .int 0] (fun q21 c23 s24 h22 => (cg_c h22 3 q21 (cg_rm c23 s24 (fun c28 s29 c30 s31 => w_SB_init dA q21 c28 s29 (fun h26 z27 => (cg_p h26 0 0 y0 (.ref q21) (fun h32 => (cg_new h32 c30 s31 3 4 [.null, .int 0, .int 0, .int 0] (fun q33 c35 s36 h34 => (cg_c h34 3 q33 (cg_rm c35 s36 (fun c40 s41 c42 s43 => w_SB_init dA q33 c40 s41 (fun h38 z39 => (cg_p h38 0 1 y0 (.ref q33) (fun h44 => (cg_new h44 c42 s43 1 6 [.null, .int 0, .null, .int 0, .null, .int 0] (fun q45 c47 s48 h46 => (cg_c h46 1 q45 (cg_rm c47 s48 (fun c52 s53 c54 s55 => w_Tree_init dA q45 c52 s53 (fun h50 z51 => (cg_p h50 0 2 y0 (.ref q45) (fun h56 => (cg_na dA h56 c54 s55 0 40 (fun q57 c59 s60 h58 => (cg_p h58 0 3 y0 (.ref q57) (fun h61 => (cg_p h61 0 4 y0 (.int 0) (fun h62 => (cg_p h62 0 5 y0 (.int 0) (fun h63 => (K h63 z51)))))))))))) h46 z39)))))))) h34 z27)))))))) h22 z0)))))
set_option maxRecDepth 100000 in
set_option maxHeartbeats 8000000 in
theorem cw_Store_init (l : Launch) (D : va_G) (dA : Nat → ClassId) (s0 : State) (hW : ms_EW D dA s0) (y0 : Nat) (rc rs : Nat) (h0 : hm_T) (z0 : hz_T) (K : hm_T → hz_T → Prop) (hg : w_Store_init dA y0 rc rs K h0 z0) : ht_C l D s0 yM244 bM244 1 (Option.none : Option Jvm.ClassFile.FieldType) (3) (53) rc rs [.ref y0] (fun h z => h = h0 ∧ z = z0) (fun h z vv h1 z1 => vv = none ∧ K h1 z1) := by
  have hE := hW.1
  refine ht_C.mk hE.1 (by decide) (Nat.le_of_ble_eq_true rfl) [(0, .ref y0)] rfl ?_
  intro p e s m below meth c ls h z X hin hpre I hl
  have hx := X.1
  have hb := X.2.1
  have hml := X.2.2.1
  have hown : s.vm.findClass "MarkupStore" = some m.cls := X.2.2.2.1
  have hts := X.2.2.2.2.2.2.1
  have hK := X.2.2.2.2.2.2.2.2.1
  rw [hpre.1, hpre.2] at I
  clear hpre
  have hF := hg
  unfold w_Store_init at hF
  clear h z
  have hc : 0 + rc ≤ rc := by omega
  have hs : 0 + rs ≤ rs := by omega
  refine lv_aload_n hx hb d244_0 rfl (lv_at hl 0 rfl) ?_
  refine W.objInit hx hb hown (hts _ ms_k36) (hts _ ms_k37) (hts _ ms_k38) rfl (by rw [hml]; exact hl.1) rfl d244_1 (Nat.le_of_ble_eq_true rfl) (Nat.le_of_ble_eq_true rfl) ?_
  refine W.eq (g2 := F0 m 4 ls []) rfl ?_
  refine lv_aload_n hx hb d244_4 rfl (lv_at hl 0 rfl) ?_
  obtain ⟨c23, s24, ec, es, hF⟩ := hF
  refine hm_mk (ci := 3) (fs := [.null, .int 0, .int 0, .int 0]) (C := kR3) (T := kT3) (N := 4) X I ku3 kt3 kp3 (List.forall_mem_cons.mpr ⟨ms_k39, List.forall_mem_cons.mpr ⟨ms_k40, List.forall_mem_cons.mpr ⟨ms_k3, fun _ h => absurd h List.not_mem_nil⟩⟩⟩) rfl kz3 (rm_u hc ec).1 (rm_u hs es).1 d244_5 (fun q21 h22 H v9 e9 f9 I => ?_)
  have hF := hF q21 v9
  rw [← hm_eqU e9 f9] at hF
  clear e9 f9 v9
  have hc := (rm_u hc ec).2
  have hs := (rm_u hs es).2
  clear ec es
  refine lv_dup hx hb d244_8 rfl ?_
  obtain ⟨fs9, c9, hF⟩ := hF
  obtain ⟨c28, s29, c30, s31, ec, es, hF⟩ := hF
  refine ht_I (rest := [.ref q21, .ref y0]) (as := []) X hl (cw_SB_init l D dA s0 hW q21 c28 s29 h22 z0 _ hF) (List.forall_mem_cons.mpr ⟨ms_k41, List.forall_mem_cons.mpr ⟨ms_k42, List.forall_mem_cons.mpr ⟨ms_k3, List.forall_mem_cons.mpr ⟨ms_k43, fun _ h => absurd h List.not_mem_nil⟩⟩⟩⟩) rfl ⟨by decide +kernel, by decide +kernel, (by decide +kernel : (parseMethodDescriptor "()V").map (fun d => d.parameters.length) = some 0)⟩ I ⟨rfl, rfl⟩ ⟨⟨Nat.le_of_ble_eq_true rfl, Nat.le_of_ble_eq_true rfl⟩, (rm_u hc ec).1, (rm_u hs es).1⟩ rfl (Nat.le_of_ble_eq_true rfl) d244_9 (fun vv h26 z27 H locs hR I9 => ?_)
  obtain ⟨e1, hF⟩ := hR
  subst e1
  clear I
  have I := I9
  clear I9 c9 fs9
  have hc := (rm_u hc ec).2
  have hs := (rm_u hs es).2
  clear ec es
  refine W.eq (g2 := F0 m 12 ls [.ref q21, .ref y0]) rfl ?_
  obtain ⟨fs9, c9, k9, hF⟩ := hF
  refine hm_putF (ci := 0) (v := .ref q21) (ty := (.object "java/lang/StringBuilder")) (C := kR0) (T := kT0) (N := 6) X I ku0 kt0 kp0 kn0 c9 rfl 0 (by decide) ms_k105 (fun _ h => h) rfl hin rfl (by decide +kernel) rfl rfl k9 d244_12 (fun h32 H locs e9 f9 I => ?_)
  rw [← hm_eqU e9 f9] at hF
  clear e9 f9 c9 k9
  refine lv_aload_n hx hb d244_15 rfl (lv_at hl 0 rfl) ?_
  obtain ⟨c35, s36, ec, es, hF⟩ := hF
  refine hm_mk (ci := 3) (fs := [.null, .int 0, .int 0, .int 0]) (C := kR3) (T := kT3) (N := 4) X I ku3 kt3 kp3 (List.forall_mem_cons.mpr ⟨ms_k39, List.forall_mem_cons.mpr ⟨ms_k40, List.forall_mem_cons.mpr ⟨ms_k3, fun _ h => absurd h List.not_mem_nil⟩⟩⟩) rfl kz3 (rm_u hc ec).1 (rm_u hs es).1 d244_16 (fun q33 h34 H v9 e9 f9 I => ?_)
  have hF := hF q33 v9
  rw [← hm_eqU e9 f9] at hF
  clear e9 f9 v9
  have hc := (rm_u hc ec).2
  have hs := (rm_u hs es).2
  clear ec es
  refine lv_dup hx hb d244_19 rfl ?_
  obtain ⟨fs9, c9, hF⟩ := hF
  obtain ⟨c40, s41, c42, s43, ec, es, hF⟩ := hF
  refine ht_I (rest := [.ref q33, .ref y0]) (as := []) X hl (cw_SB_init l D dA s0 hW q33 c40 s41 h34 z27 _ hF) (List.forall_mem_cons.mpr ⟨ms_k41, List.forall_mem_cons.mpr ⟨ms_k42, List.forall_mem_cons.mpr ⟨ms_k3, List.forall_mem_cons.mpr ⟨ms_k43, fun _ h => absurd h List.not_mem_nil⟩⟩⟩⟩) rfl ⟨by decide +kernel, by decide +kernel, (by decide +kernel : (parseMethodDescriptor "()V").map (fun d => d.parameters.length) = some 0)⟩ I ⟨rfl, rfl⟩ ⟨⟨Nat.le_of_ble_eq_true rfl, Nat.le_of_ble_eq_true rfl⟩, (rm_u hc ec).1, (rm_u hs es).1⟩ rfl (Nat.le_of_ble_eq_true rfl) d244_20 (fun vv h38 z39 H locs hR I9 => ?_)
  obtain ⟨e1, hF⟩ := hR
  subst e1
  clear I
  have I := I9
  clear I9 c9 fs9
  have hc := (rm_u hc ec).2
  have hs := (rm_u hs es).2
  clear ec es
  refine W.eq (g2 := F0 m 23 ls [.ref q33, .ref y0]) rfl ?_
  obtain ⟨fs9, c9, k9, hF⟩ := hF
  refine hm_putF (ci := 0) (v := .ref q33) (ty := (.object "java/lang/StringBuilder")) (C := kR0) (T := kT0) (N := 6) X I ku0 kt0 kp0 kn0 c9 rfl 1 (by decide) ms_k106 (fun _ h => h) rfl hin rfl (by decide +kernel) rfl rfl k9 d244_23 (fun h44 H locs e9 f9 I => ?_)
  rw [← hm_eqU e9 f9] at hF
  clear e9 f9 c9 k9
  refine lv_aload_n hx hb d244_26 rfl (lv_at hl 0 rfl) ?_
  obtain ⟨c47, s48, ec, es, hF⟩ := hF
  refine hm_mk (ci := 1) (fs := [.null, .int 0, .null, .int 0, .null, .int 0]) (C := kR1) (T := kT1) (N := 6) X I ku1 kt1 kp1 (List.forall_mem_cons.mpr ⟨ms_k72, List.forall_mem_cons.mpr ⟨ms_k73, List.forall_mem_cons.mpr ⟨ms_k6, fun _ h => absurd h List.not_mem_nil⟩⟩⟩) rfl kz1 (rm_u hc ec).1 (rm_u hs es).1 d244_27 (fun q45 h46 H v9 e9 f9 I => ?_)
  have hF := hF q45 v9
  rw [← hm_eqU e9 f9] at hF
  clear e9 f9 v9
  have hc := (rm_u hc ec).2
  have hs := (rm_u hs es).2
  clear ec es
  refine lv_dup hx hb d244_30 rfl ?_
  obtain ⟨fs9, c9, hF⟩ := hF
  obtain ⟨c52, s53, c54, s55, ec, es, hF⟩ := hF
  refine ht_I (rest := [.ref q45, .ref y0]) (as := []) X hl (cw_Tree_init l D dA s0 hW q45 c52 s53 h46 z39 _ hF) (List.forall_mem_cons.mpr ⟨ms_k74, List.forall_mem_cons.mpr ⟨ms_k75, List.forall_mem_cons.mpr ⟨ms_k6, List.forall_mem_cons.mpr ⟨ms_k76, fun _ h => absurd h List.not_mem_nil⟩⟩⟩⟩) rfl ⟨by decide +kernel, by decide +kernel, (by decide +kernel : (parseMethodDescriptor "()V").map (fun d => d.parameters.length) = some 0)⟩ I ⟨rfl, rfl⟩ ⟨⟨Nat.le_of_ble_eq_true rfl, Nat.le_of_ble_eq_true rfl⟩, (rm_u hc ec).1, (rm_u hs es).1⟩ rfl (Nat.le_of_ble_eq_true rfl) d244_31 (fun vv h50 z51 H locs hR I9 => ?_)
  obtain ⟨e1, hF⟩ := hR
  subst e1
  clear I
  have I := I9
  clear I9 c9 fs9
  have hc := (rm_u hc ec).2
  have hs := (rm_u hs es).2
  clear ec es
  refine W.eq (g2 := F0 m 34 ls [.ref q45, .ref y0]) rfl ?_
  obtain ⟨fs9, c9, k9, hF⟩ := hF
  refine hm_putF (ci := 0) (v := .ref q45) (ty := (.object "MarkupStore$Tree")) (C := kR0) (T := kT0) (N := 6) X I ku0 kt0 kp0 kn0 c9 rfl 2 (by decide) ms_k107 (fun _ h => h) rfl hin rfl (by decide +kernel) rfl rfl k9 d244_34 (fun h56 H locs e9 f9 I => ?_)
  rw [← hm_eqU e9 f9] at hF
  clear e9 f9 c9 k9
  refine lv_aload_n hx hb d244_37 rfl (lv_at hl 0 rfl) ?_
  refine lv_bipush (v := 40) hx hb d244_38 (by decide) ?_
  obtain ⟨N9, c59, s60, eN, bN, ec, es, hF⟩ := hF
  refine ms_top (y := nI N9) eN ?_
  refine hm_mka (N' := N9) (atype := .int) (ty := .int) (a0 := (N9, .inl (fun _ => 0))) X I ms_k124 rfl 0 rfl (fun _ h => h) rfl (fun _ => rfl) (nI_pos (by omega)) (nI_clamp (by omega)) (Nat.le_trans (Nat.mul_le_mul_right _ bN) (by decide)) (rm_u hc ec).1 (rm_u hs es).1 d244_40 (fun q57 h58 H v9 e9 f9 I => ?_)
  have hF := hF q57 v9
  rw [← hm_eqU e9 f9] at hF
  clear e9 f9 v9 eN bN
  have hc := (rm_u hc ec).2
  have hs := (rm_u hs es).2
  clear ec es
  obtain ⟨fs9, c9, k9, hF⟩ := hF
  refine hm_putF (ci := 0) (v := .ref q57) (ty := (.array .int)) (C := kR0) (T := kT0) (N := 6) X I ku0 kt0 kp0 kn0 c9 rfl 3 (by decide) ms_k108 (fun _ h => h) rfl hin rfl (by decide +kernel) rfl rfl k9 d244_42 (fun h61 H locs e9 f9 I => ?_)
  rw [← hm_eqU e9 f9] at hF
  clear e9 f9 c9 k9
  refine lv_aload_n hx hb d244_45 rfl (lv_at hl 0 rfl) ?_
  refine lv_iconst (v := 0) hx hb d244_46 (by decide) ?_
  obtain ⟨fs9, c9, k9, hF⟩ := hF
  refine hm_put (ci := 0) (v := .int 0) (ty := .int) (C := kR0) (T := kT0) (N := 6) X I ku0 kt0 kp0 kn0 c9 rfl 4 (by decide) ms_k109 (fun _ h => h) rfl (by decide +kernel) rfl rfl k9 d244_47 (fun h62 H locs e9 f9 I => ?_)
  rw [← hm_eqU e9 f9] at hF
  clear e9 f9 c9 k9
  refine lv_aload_n hx hb d244_50 rfl (lv_at hl 0 rfl) ?_
  refine lv_iconst (v := 0) hx hb d244_51 (by decide) ?_
  obtain ⟨fs9, c9, k9, hF⟩ := hF
  refine hm_put (ci := 0) (v := .int 0) (ty := .int) (C := kR0) (T := kT0) (N := 6) X I ku0 kt0 kp0 kn0 c9 rfl 5 (by decide) ms_k110 (fun _ h => h) rfl (by decide +kernel) rfl rfl k9 d244_52 (fun h63 H locs e9 f9 I => ?_)
  rw [← hm_eqU e9 f9] at hF
  clear e9 f9 c9 k9
  exact ht_vret X d244_55 I (rm_r hc) (rm_r hs) ⟨rfl, hF⟩

def w_Store_remove_137 (dA : Nat → ClassId) (y0 : Nat) (K : Int32 → hm_T → hz_T → Prop) (x2 : Option Nat) (x3 : Int32) (c9 s9 : Nat) (h : hm_T) (z : hz_T) : Prop := (cg_d x2 (fun a52 => (cg_I h 8 6 a52 (fun v53 => (cg_R h 0 2 y0 (fun v54 => (cg_d x2 (fun a55 => (cg_I h 8 6 a55 (fun v56 => (cg_d v54 (fun a57 => (cg_c h 1 a57 (w_Tree_takeOut dA a57 v56 x3 (fun h59 z60 => (cg_I h59 0 5 y0 (fun v61 => (cg_p h59 0 5 y0 (.int (v61 + 1)) (fun h62 => (K (x3 - v53) h62 z60)))))) h z))))))))))))))
def w_Store_remove (dA : Nat → ClassId) (y0 : Nat) (y1 : Int32) (rc rs : Nat) (K : Int32 → hm_T → hz_T → Prop) (h0 : hm_T) (z0 : hz_T) : Prop := (cg_R h0 0 2 y0 (fun v21 => (cg_d v21 (fun a22 => (cg_c h0 1 a22 (w_Tree_find dA a22 y1 (fun v23 h24 z25 => (if v23 = none then (K (-1000) h24 z25) else (cg_d v23 (fun a26 => (cg_R h24 8 1 a26 (fun v27 => (if v27 = none then (K (-2000) h24 z25) else (cg_R h24 0 2 y0 (fun v28 => (cg_d v28 (fun a29 => (cg_c h24 1 a29 (w_Tree_endOf dA a29 v23 (fun v30 h31 z32 => (cg_R h31 0 2 y0 (fun v33 => (cg_d v23 (fun a34 => (cg_R h31 8 1 a34 (fun v35 => (cg_d v23 (fun a36 => (cg_I h31 8 6 a36 (fun v37 => (cg_d v33 (fun a38 => (cg_c h31 1 a38 (w_Tree_childBefore dA a38 v35 v37 (fun v39 h40 z41 => (cg_R h40 0 2 y0 (fun v42 => (cg_d v23 (fun a43 => (cg_R h40 8 1 a43 (fun v44 => (cg_d v42 (fun a45 => (cg_c h40 1 a45 (w_Tree_childFrom dA a45 v44 v30 (fun v46 h47 z48 => (w_Store_isText dA v39 (fun v49 h50 z51 => (if v49 = 0 then (w_Store_remove_137 dA y0 K v23 v30 rc rs h50 z51) else (w_Store_isText dA v46 (fun v63 h64 z65 => (if v63 = 0 then (w_Store_remove_137 dA y0 K v23 v30 rc rs h64 z65) else (cg_d v39 (fun a66 => (cg_R h64 8 7 a66 (fun v67 => (cg_d v67 (fun a68 => (jd_len z65 a68 (fun v69 => (cg_d v46 (fun a70 => (cg_R h64 8 7 a70 (fun v71 => (cg_d v71 (fun a72 => (jd_len z65 a72 (fun v73 => (if (v69 + v73) ≤ 20 then (cg_d v39 (fun a74 => (cg_R h64 8 7 a74 (fun v75 => (cg_d v46 (fun a76 => (cg_R h64 8 7 a76 (fun v77 => (cg_c h64 0 y0 (cg_rm rc rs (fun c81 s82 c83 s84 => w_Store_joined dA y0 v75 v77 c81 s82 (fun v78 h79 z80 => (cg_d v39 (fun a85 => (cg_p h79 8 7 a85 (va_rf v78) (fun h86 => (cg_d v46 (fun a87 => (cg_I h86 8 6 a87 (fun v88 => (w_Store_remove_137 dA y0 K v23 (v88 + 1) c83 s84 h86 z80)))))))))) h64 z65))))))))))) else (K (-2000) h64 z65)))))))))))))))))))) h50 z51))) h47 z48)) h40 z41))))))))))) h31 z32))))))))))))))) h24 z25))))))))))))) h0 z0))))))
set_option maxRecDepth 100000 in
set_option maxHeartbeats 8000000 in
theorem cw_Store_remove (l : Launch) (D : va_G) (dA : Nat → ClassId) (s0 : State) (hW : ms_EW D dA s0) (y0 : Nat) (y1 : Int32) (rc rs : Nat) (h0 : hm_T) (z0 : hz_T) (K : Int32 → hm_T → hz_T → Prop) (hg : w_Store_remove dA y0 y1 rc rs K h0 z0) : ht_C l D s0 yM245 bM245 7 (Option.some Jvm.ClassFile.FieldType.int) (7) (233) rc rs [.ref y0, .int y1] (fun h z => h = h0 ∧ z = z0) (fun h z vv h1 z1 => ∃ v, vv = some (.int v) ∧ K v h1 z1) := by
  have hE := hW.1
  refine ht_C.mk hE.1 (by decide) (Nat.le_of_ble_eq_true rfl) [(0, .ref y0), (1, .int y1)] rfl ?_
  intro p e s m below meth c ls h z X hin hpre I hl
  have hx := X.1
  have hb := X.2.1
  have hml := X.2.2.1
  have hown : s.vm.findClass "MarkupStore" = some m.cls := X.2.2.2.1
  have hts := X.2.2.2.2.2.2.1
  have hK := X.2.2.2.2.2.2.2.2.1
  rw [hpre.1, hpre.2] at I
  clear hpre
  have b137 : ∀ (ls : Array Slot) (x2 : Option Nat) (x3 : Int32) (c9 s9 cu su : Nat) (h : hm_T) (z : hz_T) (H : Heap) (locs : List Loc), w_Store_remove_137 dA y0 K x2 x3 c9 s9 h z → cu + c9 ≤ rc → su + s9 ≤ rs → lv_has ls 7 [(0, .ref y0), (2, va_rf x2), (3, .int x3)] → hm_I D s0 s h z H locs → W p l e { frames := 7, cells := rc, slots := rs, locals := 233 } s m ([.ref y0, .int y1] : List Value).toArray below meth c H locs cu su (MQ below (ht_Q D s0 (fun vv h1 z1 => ∃ v, vv = some (.int v) ∧ K v h1 z1)) ([.ref y0, .int y1] : List Value).toArray s rc rs (fun q => s0.heap.size ≤ q)) (F0 m 137 ls []) := by
    intro ls x2 x3 c9 s9 cu su h z H locs hF hc hs hl I
    unfold w_Store_remove_137 at hF
    refine lv_iload_n hx hb d245_137 rfl (lv_at hl 2 rfl) ?_
    refine lv_aload_nR hx hb d245_138 rfl (lv_at hl 1 rfl) ?_
    obtain ⟨a52, e9, hF⟩ := hF
    refine W.eq (g2 := F0 m 139 ls [.ref a52, .int x3]) (by rw [e9]; rfl) ?_
    clear e9
    obtain ⟨fs9, v53, c9, e9, hF⟩ := hF
    refine va_get (D := D) (ci := 8) (v := .int v53) (C := kR8) (T := kT8) (N := 9) hx hb hts ku8 hown hK (hm_one I.1 c9) 0 rfl rfl 6 (by decide) (hts _ ms_k464) (fun _ h => h) e9 d245_139 ?_
    clear e9 c9 fs9
    refine lv_isub hx hb d245_142 ?_
    refine lv_istore hx hb d245_143 hl (by decide) rfl (fun ls hl => ?_)
    have hl : lv_has ls 7 [(6, .int (x3 - v53)), (0, .ref y0), (2, va_rf x2), (3, .int x3)] := hl
    refine lv_aload_n hx hb d245_145 rfl (lv_at hl 1 rfl) ?_
    obtain ⟨fs9, v54, c9, e9, hF⟩ := hF
    refine va_get (D := D) (ci := 0) (v := va_rf v54) (C := kR0) (T := kT0) (N := 6) hx hb hts ku0 hown hK (hm_one I.1 c9) 0 rfl rfl 2 (by decide) (hts _ ms_k107) (fun _ h => h) e9 d245_146 ?_
    clear e9 c9 fs9
    refine lv_aload_nR hx hb d245_149 rfl (lv_at hl 2 rfl) ?_
    obtain ⟨a55, e9, hF⟩ := hF
    refine W.eq (g2 := F0 m 150 ls [.ref a55, va_rf v54]) (by rw [e9]; rfl) ?_
    clear e9
    obtain ⟨fs9, v56, c9, e9, hF⟩ := hF
    refine va_get (D := D) (ci := 8) (v := .int v56) (C := kR8) (T := kT8) (N := 9) hx hb hts ku8 hown hK (hm_one I.1 c9) 0 rfl rfl 6 (by decide) (hts _ ms_k464) (fun _ h => h) e9 d245_150 ?_
    clear e9 c9 fs9
    refine lv_iload_n hx hb d245_153 rfl (lv_at hl 3 rfl) ?_
    obtain ⟨a57, e9, hF⟩ := hF
    refine W.eq (g2 := F0 m 154 ls [.int x3, .int v56, .ref a57]) (by rw [e9]; rfl) ?_
    clear e9
    obtain ⟨fs9, c9, hF⟩ := hF
    refine ht_V (C := "MarkupStore$Tree") (rest := []) (as := [.int v56, .int x3]) X hl (cw_Tree_takeOut l D dA s0 hE a57 v56 x3 h z _ hF) (List.forall_mem_cons.mpr ⟨ms_k849, List.forall_mem_cons.mpr ⟨ms_k720, List.forall_mem_cons.mpr ⟨ms_k721, List.forall_mem_cons.mpr ⟨ms_k6, List.forall_mem_cons.mpr ⟨ms_k722, fun _ h => absurd h List.not_mem_nil⟩⟩⟩⟩⟩) ⟨rfl, by decide +kernel, by decide +kernel, (by decide +kernel : (parseMethodDescriptor "(II)V").map (fun d => d.parameters.length) = some 2)⟩ (hm_recv hK I rfl c9) I ⟨rfl, rfl⟩ ⟨⟨Nat.le_of_ble_eq_true rfl, Nat.le_of_ble_eq_true rfl⟩, rm_0 hc, rm_0 hs⟩ rfl (Nat.le_of_ble_eq_true rfl) d245_154 (fun vv h59 z60 H locs hR I9 => ?_)
    obtain ⟨e1, hF⟩ := hR
    subst e1
    clear I
    have I := I9
    clear I9 c9 fs9
    refine W.eq (g2 := F0 m 157 ls []) rfl ?_
    refine lv_aload_n hx hb d245_157 rfl (lv_at hl 1 rfl) ?_
    refine lv_dup hx hb d245_158 rfl ?_
    obtain ⟨fs9, v61, c9, e9, hF⟩ := hF
    refine va_get (D := D) (ci := 0) (v := .int v61) (C := kR0) (T := kT0) (N := 6) hx hb hts ku0 hown hK (hm_one I.1 c9) 0 rfl rfl 5 (by decide) (hts _ ms_k110) (fun _ h => h) e9 d245_159 ?_
    clear e9 c9 fs9
    refine lv_iconst (v := 1) hx hb d245_162 (by decide) ?_
    refine lv_iadd hx hb d245_163 ?_
    obtain ⟨fs9, c9, k9, hF⟩ := hF
    refine hm_put (ci := 0) (v := .int (v61 + 1)) (ty := .int) (C := kR0) (T := kT0) (N := 6) X I ku0 kt0 kp0 kn0 c9 rfl 5 (by decide) ms_k110 (fun _ h => h) rfl (by decide +kernel) rfl rfl k9 d245_164 (fun h62 H locs e9 f9 I => ?_)
    rw [← hm_eqU e9 f9] at hF
    clear e9 f9 c9 k9
    refine lv_iload hx hb d245_167 (lv_at hl 0 rfl) ?_
    exact ht_iret X d245_169 I (rm_r hc) (rm_r hs) ⟨_, rfl, hF⟩
  have hF := hg
  unfold w_Store_remove at hF
  clear h z
  have hc : 0 + rc ≤ rc := by omega
  have hs : 0 + rs ≤ rs := by omega
  refine lv_aload_n hx hb d245_0 rfl (lv_at hl 0 rfl) ?_
  obtain ⟨fs9, v21, c9, e9, hF⟩ := hF
  refine va_get (D := D) (ci := 0) (v := va_rf v21) (C := kR0) (T := kT0) (N := 6) hx hb hts ku0 hown hK (hm_one I.1 c9) 0 rfl rfl 2 (by decide) (hts _ ms_k107) (fun _ h => h) e9 d245_1 ?_
  clear e9 c9 fs9
  refine lv_iload_n hx hb d245_4 rfl (lv_at hl 1 rfl) ?_
  obtain ⟨a22, e9, hF⟩ := hF
  refine W.eq (g2 := F0 m 5 ls [.int y1, .ref a22]) (by rw [e9]; rfl) ?_
  clear e9
  obtain ⟨fs9, c9, hF⟩ := hF
  refine ht_V (C := "MarkupStore$Tree") (rest := []) (as := [.int y1]) X hl (cw_Tree_find l D dA s0 hE a22 y1 h0 z0 _ hF) (List.forall_mem_cons.mpr ⟨ms_k745, List.forall_mem_cons.mpr ⟨ms_k746, List.forall_mem_cons.mpr ⟨ms_k747, List.forall_mem_cons.mpr ⟨ms_k6, List.forall_mem_cons.mpr ⟨ms_k748, fun _ h => absurd h List.not_mem_nil⟩⟩⟩⟩⟩) ⟨rfl, by decide +kernel, by decide +kernel, (by decide +kernel : (parseMethodDescriptor "(I)LMarkupStore$Node;").map (fun d => d.parameters.length) = some 1)⟩ (hm_recv hK I rfl c9) I ⟨rfl, rfl⟩ ⟨⟨Nat.le_of_ble_eq_true rfl, Nat.le_of_ble_eq_true rfl⟩, rm_0 hc, rm_0 hs⟩ rfl (Nat.le_of_ble_eq_true rfl) d245_5 (fun vv h24 z25 H locs hR I9 => ?_)
  obtain ⟨v23, e1, hF⟩ := hR
  subst e1
  clear I
  have I := I9
  clear I9 c9 fs9
  refine W.eq (g2 := F0 m 8 ls [va_rf v23]) rfl ?_
  refine lv_astore_nR hx hb d245_8 rfl hl (by decide) rfl (fun ls hl => ?_)
  have hl : lv_has ls 7 [(2, va_rf v23), (0, .ref y0), (1, .int y1)] := hl
  refine lv_aload_nR hx hb d245_9 rfl (lv_at hl 0 rfl) ?_
  refine lv_ifnonnullR hx hb d245_10 rfl (fun h9 => ?_) (fun h9 => ?_)
  · have hF := Eq.mp (if_neg h9) hF
    refine lv_aload_nR hx hb d245_17 rfl (lv_at hl 0 rfl) ?_
    obtain ⟨a26, e9, hF⟩ := hF
    refine W.eq (g2 := F0 m 18 ls [.ref a26]) (by rw [e9]; rfl) ?_
    clear e9
    obtain ⟨fs9, v27, c9, e9, hF⟩ := hF
    refine va_get (D := D) (ci := 8) (v := va_rf v27) (C := kR8) (T := kT8) (N := 9) hx hb hts ku8 hown hK (hm_one I.1 c9) 0 rfl rfl 1 (by decide) (hts _ ms_k446) (fun _ h => h) e9 d245_18 ?_
    clear e9 c9 fs9
    refine lv_ifnonnullR hx hb d245_21 rfl (fun h9 => ?_) (fun h9 => ?_)
    · have hF := Eq.mp (if_neg h9) hF
      refine lv_aload_n hx hb d245_28 rfl (lv_at hl 1 rfl) ?_
      obtain ⟨fs9, v28, c9, e9, hF⟩ := hF
      refine va_get (D := D) (ci := 0) (v := va_rf v28) (C := kR0) (T := kT0) (N := 6) hx hb hts ku0 hown hK (hm_one I.1 c9) 0 rfl rfl 2 (by decide) (hts _ ms_k107) (fun _ h => h) e9 d245_29 ?_
      clear e9 c9 fs9
      refine lv_aload_nR hx hb d245_32 rfl (lv_at hl 0 rfl) ?_
      obtain ⟨a29, e9, hF⟩ := hF
      refine W.eq (g2 := F0 m 33 ls [va_rf v23, .ref a29]) (by rw [e9]; rfl) ?_
      clear e9
      obtain ⟨fs9, c9, hF⟩ := hF
      refine ht_V (C := "MarkupStore$Tree") (rest := []) (as := [va_rf v23]) X hl (cw_Tree_endOf l D dA s0 hE a29 v23 h24 z25 _ hF) (List.forall_mem_cons.mpr ⟨ms_k749, List.forall_mem_cons.mpr ⟨ms_k750, List.forall_mem_cons.mpr ⟨ms_k751, List.forall_mem_cons.mpr ⟨ms_k6, List.forall_mem_cons.mpr ⟨ms_k752, fun _ h => absurd h List.not_mem_nil⟩⟩⟩⟩⟩) ⟨rfl, by decide +kernel, by decide +kernel, (by decide +kernel : (parseMethodDescriptor "(LMarkupStore$Node;)I").map (fun d => d.parameters.length) = some 1)⟩ (hm_recv hK I rfl c9) I ⟨rfl, rfl⟩ ⟨⟨Nat.le_of_ble_eq_true rfl, Nat.le_of_ble_eq_true rfl⟩, rm_0 hc, rm_0 hs⟩ rfl (Nat.le_of_ble_eq_true rfl) d245_33 (fun vv h31 z32 H locs hR I9 => ?_)
      obtain ⟨v30, e1, hF⟩ := hR
      subst e1
      clear I
      have I := I9
      clear I9 c9 fs9
      refine W.eq (g2 := F0 m 36 ls [.int v30]) rfl ?_
      refine lv_istore_n (i := 3) hx hb d245_36 rfl hl (by decide) (show _ = [(3, .int v30), (2, va_rf v23), (0, .ref y0), (1, .int y1)] by simp [cat_rf, cat_int, cat_ref, cat_null, cat_long]) (fun ls hl => ?_)
      have hl : lv_has ls 7 [(3, .int v30), (2, va_rf v23), (0, .ref y0), (1, .int y1)] := hl
      refine lv_aload_n hx hb d245_37 rfl (lv_at hl 2 rfl) ?_
      obtain ⟨fs9, v33, c9, e9, hF⟩ := hF
      refine va_get (D := D) (ci := 0) (v := va_rf v33) (C := kR0) (T := kT0) (N := 6) hx hb hts ku0 hown hK (hm_one I.1 c9) 0 rfl rfl 2 (by decide) (hts _ ms_k107) (fun _ h => h) e9 d245_38 ?_
      clear e9 c9 fs9
      refine lv_aload_nR hx hb d245_41 rfl (lv_at hl 1 rfl) ?_
      obtain ⟨a34, e9, hF⟩ := hF
      refine W.eq (g2 := F0 m 42 ls [.ref a34, va_rf v33]) (by rw [e9]; rfl) ?_
      clear e9
      obtain ⟨fs9, v35, c9, e9, hF⟩ := hF
      refine va_get (D := D) (ci := 8) (v := va_rf v35) (C := kR8) (T := kT8) (N := 9) hx hb hts ku8 hown hK (hm_one I.1 c9) 0 rfl rfl 1 (by decide) (hts _ ms_k446) (fun _ h => h) e9 d245_42 ?_
      clear e9 c9 fs9
      refine lv_aload_nR hx hb d245_45 rfl (lv_at hl 1 rfl) ?_
      obtain ⟨a36, e9, hF⟩ := hF
      refine W.eq (g2 := F0 m 46 ls [.ref a36, va_rf v35, va_rf v33]) (by rw [e9]; rfl) ?_
      clear e9
      obtain ⟨fs9, v37, c9, e9, hF⟩ := hF
      refine va_get (D := D) (ci := 8) (v := .int v37) (C := kR8) (T := kT8) (N := 9) hx hb hts ku8 hown hK (hm_one I.1 c9) 0 rfl rfl 6 (by decide) (hts _ ms_k464) (fun _ h => h) e9 d245_46 ?_
      clear e9 c9 fs9
      obtain ⟨a38, e9, hF⟩ := hF
      refine W.eq (g2 := F0 m 49 ls [.int v37, va_rf v35, .ref a38]) (by rw [e9]; rfl) ?_
      clear e9
      obtain ⟨fs9, c9, hF⟩ := hF
      refine ht_V (C := "MarkupStore$Tree") (rest := []) (as := [va_rf v35, .int v37]) X hl (cw_Tree_childBefore l D dA s0 hE a38 v35 v37 h31 z32 _ hF) (List.forall_mem_cons.mpr ⟨ms_k753, List.forall_mem_cons.mpr ⟨ms_k754, List.forall_mem_cons.mpr ⟨ms_k755, List.forall_mem_cons.mpr ⟨ms_k6, List.forall_mem_cons.mpr ⟨ms_k756, fun _ h => absurd h List.not_mem_nil⟩⟩⟩⟩⟩) ⟨rfl, by decide +kernel, by decide +kernel, (by decide +kernel : (parseMethodDescriptor "(LMarkupStore$Node;I)LMarkupStore$Node;").map (fun d => d.parameters.length) = some 2)⟩ (hm_recv hK I rfl c9) I ⟨rfl, rfl⟩ ⟨⟨Nat.le_of_ble_eq_true rfl, Nat.le_of_ble_eq_true rfl⟩, rm_0 hc, rm_0 hs⟩ rfl (Nat.le_of_ble_eq_true rfl) d245_49 (fun vv h40 z41 H locs hR I9 => ?_)
      obtain ⟨v39, e1, hF⟩ := hR
      subst e1
      clear I
      have I := I9
      clear I9 c9 fs9
      refine W.eq (g2 := F0 m 52 ls [va_rf v39]) rfl ?_
      refine lv_astoreR hx hb d245_52 hl (by decide) rfl (fun ls hl => ?_)
      have hl : lv_has ls 7 [(4, va_rf v39), (3, .int v30), (2, va_rf v23), (0, .ref y0), (1, .int y1)] := hl
      refine lv_aload_n hx hb d245_54 rfl (lv_at hl 3 rfl) ?_
      obtain ⟨fs9, v42, c9, e9, hF⟩ := hF
      refine va_get (D := D) (ci := 0) (v := va_rf v42) (C := kR0) (T := kT0) (N := 6) hx hb hts ku0 hown hK (hm_one I.1 c9) 0 rfl rfl 2 (by decide) (hts _ ms_k107) (fun _ h => h) e9 d245_55 ?_
      clear e9 c9 fs9
      refine lv_aload_nR hx hb d245_58 rfl (lv_at hl 2 rfl) ?_
      obtain ⟨a43, e9, hF⟩ := hF
      refine W.eq (g2 := F0 m 59 ls [.ref a43, va_rf v42]) (by rw [e9]; rfl) ?_
      clear e9
      obtain ⟨fs9, v44, c9, e9, hF⟩ := hF
      refine va_get (D := D) (ci := 8) (v := va_rf v44) (C := kR8) (T := kT8) (N := 9) hx hb hts ku8 hown hK (hm_one I.1 c9) 0 rfl rfl 1 (by decide) (hts _ ms_k446) (fun _ h => h) e9 d245_59 ?_
      clear e9 c9 fs9
      refine lv_iload_n hx hb d245_62 rfl (lv_at hl 1 rfl) ?_
      obtain ⟨a45, e9, hF⟩ := hF
      refine W.eq (g2 := F0 m 63 ls [.int v30, va_rf v44, .ref a45]) (by rw [e9]; rfl) ?_
      clear e9
      obtain ⟨fs9, c9, hF⟩ := hF
      refine ht_V (C := "MarkupStore$Tree") (rest := []) (as := [va_rf v44, .int v30]) X hl (cw_Tree_childFrom l D dA s0 hE a45 v44 v30 h40 z41 _ hF) (List.forall_mem_cons.mpr ⟨ms_k757, List.forall_mem_cons.mpr ⟨ms_k758, List.forall_mem_cons.mpr ⟨ms_k759, List.forall_mem_cons.mpr ⟨ms_k6, List.forall_mem_cons.mpr ⟨ms_k760, fun _ h => absurd h List.not_mem_nil⟩⟩⟩⟩⟩) ⟨rfl, by decide +kernel, by decide +kernel, (by decide +kernel : (parseMethodDescriptor "(LMarkupStore$Node;I)LMarkupStore$Node;").map (fun d => d.parameters.length) = some 2)⟩ (hm_recv hK I rfl c9) I ⟨rfl, rfl⟩ ⟨⟨Nat.le_of_ble_eq_true rfl, Nat.le_of_ble_eq_true rfl⟩, rm_0 hc, rm_0 hs⟩ rfl (Nat.le_of_ble_eq_true rfl) d245_63 (fun vv h47 z48 H locs hR I9 => ?_)
      obtain ⟨v46, e1, hF⟩ := hR
      subst e1
      clear I
      have I := I9
      clear I9 c9 fs9
      refine W.eq (g2 := F0 m 66 ls [va_rf v46]) rfl ?_
      refine lv_astoreR (i := 5) hx hb d245_66 hl (by decide) (show _ = [(5, va_rf v46), (4, va_rf v39), (3, .int v30), (2, va_rf v23), (0, .ref y0), (1, .int y1)] by simp [cat_rf, cat_int, cat_ref, cat_null, cat_long]) (fun ls hl => ?_)
      have hl : lv_has ls 7 [(5, va_rf v46), (4, va_rf v39), (3, .int v30), (2, va_rf v23), (0, .ref y0), (1, .int y1)] := hl
      refine lv_aloadR hx hb d245_68 (lv_at hl 1 rfl) ?_
      refine ht_S (rest := []) (as := [va_rf v39]) X hl (cw_Store_isText l D dA s0 hE v39 h47 z48 _ hF) (List.forall_mem_cons.mpr ⟨ms_k792, List.forall_mem_cons.mpr ⟨ms_k790, List.forall_mem_cons.mpr ⟨ms_k1, List.forall_mem_cons.mpr ⟨ms_k791, fun _ h => absurd h List.not_mem_nil⟩⟩⟩⟩) ⟨by decide +kernel, by decide +kernel, (by decide +kernel : (parseMethodDescriptor "(LMarkupStore$Node;)Z").map (fun d => d.parameters.length) = some 1)⟩ I ⟨rfl, rfl⟩ ⟨⟨Nat.le_of_ble_eq_true rfl, Nat.le_of_ble_eq_true rfl⟩, rm_0 hc, rm_0 hs⟩ rfl (Nat.le_of_ble_eq_true rfl) d245_70 (fun vv h50 z51 H locs hR I9 => ?_)
      obtain ⟨v49, e1, hF⟩ := hR
      subst e1
      clear I
      have I := I9
      clear I9
      refine W.eq (g2 := F0 m 73 ls [.int v49]) rfl ?_
      refine lv_if_eq hx hb d245_73 rfl (fun h9 => ?_) (fun h9 => ?_)
      · have hF := Eq.mp (if_pos h9) hF
        exact b137 ls v23 v30 rc rs _ _ h50 z51 _ _ hF hc hs (hl.sub [4, 3, 2] rfl) I
      · have hF := Eq.mp (if_neg h9) hF
        refine lv_aloadR hx hb d245_76 (lv_at hl 0 rfl) ?_
        refine ht_S (rest := []) (as := [va_rf v46]) X hl (cw_Store_isText l D dA s0 hE v46 h50 z51 _ hF) (List.forall_mem_cons.mpr ⟨ms_k792, List.forall_mem_cons.mpr ⟨ms_k790, List.forall_mem_cons.mpr ⟨ms_k1, List.forall_mem_cons.mpr ⟨ms_k791, fun _ h => absurd h List.not_mem_nil⟩⟩⟩⟩) ⟨by decide +kernel, by decide +kernel, (by decide +kernel : (parseMethodDescriptor "(LMarkupStore$Node;)Z").map (fun d => d.parameters.length) = some 1)⟩ I ⟨rfl, rfl⟩ ⟨⟨Nat.le_of_ble_eq_true rfl, Nat.le_of_ble_eq_true rfl⟩, rm_0 hc, rm_0 hs⟩ rfl (Nat.le_of_ble_eq_true rfl) d245_78 (fun vv h64 z65 H locs hR I9 => ?_)
        obtain ⟨v63, e1, hF⟩ := hR
        subst e1
        clear I
        have I := I9
        clear I9
        refine W.eq (g2 := F0 m 81 ls [.int v63]) rfl ?_
        refine lv_if_eq hx hb d245_81 rfl (fun h9 => ?_) (fun h9 => ?_)
        · have hF := Eq.mp (if_pos h9) hF
          exact b137 ls v23 v30 rc rs _ _ h64 z65 _ _ hF hc hs (hl.sub [4, 3, 2] rfl) I
        · have hF := Eq.mp (if_neg h9) hF
          refine lv_aloadR hx hb d245_84 (lv_at hl 1 rfl) ?_
          obtain ⟨a66, e9, hF⟩ := hF
          refine W.eq (g2 := F0 m 86 ls [.ref a66]) (by rw [e9]; rfl) ?_
          clear e9
          obtain ⟨fs9, v67, c9, e9, hF⟩ := hF
          refine va_get (D := D) (ci := 8) (v := va_rf v67) (C := kR8) (T := kT8) (N := 9) hx hb hts ku8 hown hK (hm_one I.1 c9) 0 rfl rfl 7 (by decide) (hts _ ms_k470) (fun _ h => h) e9 d245_86 ?_
          clear e9 c9 fs9
          obtain ⟨a68, e9, hF⟩ := hF
          refine W.eq (g2 := F0 m 89 ls [.ref a68]) (by rw [e9]; rfl) ?_
          clear e9
          obtain ⟨u9, xs9, z9, hF⟩ := hF
          refine ht_V (C := "java/lang/String") (rest := []) (as := []) X hl (c_Slen l D dA s0 hE a68 u9 xs9) (List.forall_mem_cons.mpr ⟨ms_k802, List.forall_mem_cons.mpr ⟨ms_k391, List.forall_mem_cons.mpr ⟨ms_k392, List.forall_mem_cons.mpr ⟨ms_k4, List.forall_mem_cons.mpr ⟨ms_k393, fun _ h => absurd h List.not_mem_nil⟩⟩⟩⟩⟩) ⟨rfl, by decide +kernel, by decide +kernel, (by decide +kernel : (parseMethodDescriptor "()I").map (fun d => d.parameters.length) = some 0)⟩ (hz_recv I z9) I z9 ⟨⟨Nat.le_of_ble_eq_true rfl, Nat.le_of_ble_eq_true rfl⟩, rm_0 hc, rm_0 hs⟩ rfl (Nat.le_of_ble_eq_true rfl) d245_89 (fun vv h9 z7 H locs hR I9 => ?_)
          obtain ⟨e1, e2, e3⟩ := hR
          rw [e2, e3] at I9
          subst e1
          clear I
          have I := I9
          clear I9 e2 e3 h9 z7
          refine W.eq (g2 := F0 m 92 ls [.int (nI xs9.length)]) rfl ?_
          generalize (nI xs9.length) = v69 at hF ⊢
          refine lv_aloadR hx hb d245_92 (lv_at hl 0 rfl) ?_
          obtain ⟨a70, e9, hF⟩ := hF
          refine W.eq (g2 := F0 m 94 ls [.ref a70, .int v69]) (by rw [e9]; rfl) ?_
          clear e9
          obtain ⟨fs9, v71, c9, e9, hF⟩ := hF
          refine va_get (D := D) (ci := 8) (v := va_rf v71) (C := kR8) (T := kT8) (N := 9) hx hb hts ku8 hown hK (hm_one I.1 c9) 0 rfl rfl 7 (by decide) (hts _ ms_k470) (fun _ h => h) e9 d245_94 ?_
          clear e9 c9 fs9
          obtain ⟨a72, e9, hF⟩ := hF
          refine W.eq (g2 := F0 m 97 ls [.ref a72, .int v69]) (by rw [e9]; rfl) ?_
          clear e9
          obtain ⟨u9, xs9, z9, hF⟩ := hF
          refine ht_V (C := "java/lang/String") (rest := [.int v69]) (as := []) X hl (c_Slen l D dA s0 hE a72 u9 xs9) (List.forall_mem_cons.mpr ⟨ms_k802, List.forall_mem_cons.mpr ⟨ms_k391, List.forall_mem_cons.mpr ⟨ms_k392, List.forall_mem_cons.mpr ⟨ms_k4, List.forall_mem_cons.mpr ⟨ms_k393, fun _ h => absurd h List.not_mem_nil⟩⟩⟩⟩⟩) ⟨rfl, by decide +kernel, by decide +kernel, (by decide +kernel : (parseMethodDescriptor "()I").map (fun d => d.parameters.length) = some 0)⟩ (hz_recv I z9) I z9 ⟨⟨Nat.le_of_ble_eq_true rfl, Nat.le_of_ble_eq_true rfl⟩, rm_0 hc, rm_0 hs⟩ rfl (Nat.le_of_ble_eq_true rfl) d245_97 (fun vv h9 z7 H locs hR I9 => ?_)
          obtain ⟨e1, e2, e3⟩ := hR
          rw [e2, e3] at I9
          subst e1
          clear I
          have I := I9
          clear I9 e2 e3 h9 z7
          refine W.eq (g2 := F0 m 100 ls [.int (nI xs9.length), .int v69]) rfl ?_
          generalize (nI xs9.length) = v73 at hF ⊢
          refine lv_iadd hx hb d245_100 ?_
          refine lv_bipush (v := 20) hx hb d245_101 (by decide) ?_
          refine lv_icmp_le hx hb d245_103 rfl (fun h9 => ?_) (fun h9 => ?_)
          · have hF := Eq.mp (if_pos h9) hF
            refine lv_aloadR hx hb d245_110 (lv_at hl 1 rfl) ?_
            refine lv_aload_n hx hb d245_112 rfl (lv_at hl 4 rfl) ?_
            refine lv_aloadR hx hb d245_113 (lv_at hl 1 rfl) ?_
            obtain ⟨a74, e9, hF⟩ := hF
            refine W.eq (g2 := F0 m 115 ls [.ref a74, .ref y0, va_rf v39]) (by rw [e9]; rfl) ?_
            clear e9
            obtain ⟨fs9, v75, c9, e9, hF⟩ := hF
            refine va_get (D := D) (ci := 8) (v := va_rf v75) (C := kR8) (T := kT8) (N := 9) hx hb hts ku8 hown hK (hm_one I.1 c9) 0 rfl rfl 7 (by decide) (hts _ ms_k470) (fun _ h => h) e9 d245_115 ?_
            clear e9 c9 fs9
            refine lv_aloadR hx hb d245_118 (lv_at hl 0 rfl) ?_
            obtain ⟨a76, e9, hF⟩ := hF
            refine W.eq (g2 := F0 m 120 ls [.ref a76, va_rf v75, .ref y0, va_rf v39]) (by rw [e9]; rfl) ?_
            clear e9
            obtain ⟨fs9, v77, c9, e9, hF⟩ := hF
            refine va_get (D := D) (ci := 8) (v := va_rf v77) (C := kR8) (T := kT8) (N := 9) hx hb hts ku8 hown hK (hm_one I.1 c9) 0 rfl rfl 7 (by decide) (hts _ ms_k470) (fun _ h => h) e9 d245_120 ?_
            clear e9 c9 fs9
            obtain ⟨fs9, c9, hF⟩ := hF
            obtain ⟨c81, s82, c83, s84, ec, es, hF⟩ := hF
            refine ht_V (C := "MarkupStore") (rest := [va_rf v39]) (as := [va_rf v75, va_rf v77]) X hl (cw_Store_joined l D dA s0 hW y0 v75 v77 c81 s82 h64 z65 _ hF) (List.forall_mem_cons.mpr ⟨ms_k803, List.forall_mem_cons.mpr ⟨ms_k805, List.forall_mem_cons.mpr ⟨ms_p17, List.forall_mem_cons.mpr ⟨ms_k1, List.forall_mem_cons.mpr ⟨ms_k806, fun _ h => absurd h List.not_mem_nil⟩⟩⟩⟩⟩) ⟨rfl, by decide +kernel, by decide +kernel, (by decide +kernel : (parseMethodDescriptor "(Ljava/lang/String;Ljava/lang/String;)Ljava/lang/String;").map (fun d => d.parameters.length) = some 2)⟩ (hm_recv hK I rfl c9) I ⟨rfl, rfl⟩ ⟨⟨Nat.le_of_ble_eq_true rfl, Nat.le_of_ble_eq_true rfl⟩, (rm_u hc ec).1, (rm_u hs es).1⟩ rfl (by simp [cat_rf, cat_int, cat_ref, cat_null, cat_long]) d245_123 (fun vv h79 z80 H locs hR I9 => ?_)
            obtain ⟨v78, e1, hF⟩ := hR
            subst e1
            clear I
            have I := I9
            clear I9 c9 fs9
            have hc := (rm_u hc ec).2
            have hs := (rm_u hs es).2
            clear ec es
            refine W.eq (g2 := F0 m 126 ls [va_rf v78, va_rf v39]) rfl ?_
            obtain ⟨a85, e9, hF⟩ := hF
            refine W.eq (g2 := F0 m 126 ls [va_rf v78, .ref a85]) (by rw [e9]; rfl) ?_
            clear e9
            obtain ⟨fs9, c9, k9, hF⟩ := hF
            refine hm_put (ci := 8) (v := va_rf v78) (ty := (.object "java/lang/String")) (C := kR8) (T := kT8) (N := 9) X I ku8 kt8 kp8 kn8 c9 rfl 7 (by decide) ms_k470 (fun _ h => h) rfl (by decide +kernel) (by cases v78 <;> rfl) (by cases v78 <;> rfl) k9 d245_126 (fun h86 H locs e9 f9 I => ?_)
            rw [← hm_eqU e9 f9] at hF
            clear e9 f9 c9 k9
            refine lv_aloadR hx hb d245_129 (lv_at hl 0 rfl) ?_
            obtain ⟨a87, e9, hF⟩ := hF
            refine W.eq (g2 := F0 m 131 ls [.ref a87]) (by rw [e9]; rfl) ?_
            clear e9
            obtain ⟨fs9, v88, c9, e9, hF⟩ := hF
            refine va_get (D := D) (ci := 8) (v := .int v88) (C := kR8) (T := kT8) (N := 9) hx hb hts ku8 hown hK (hm_one I.1 c9) 0 rfl rfl 6 (by decide) (hts _ ms_k464) (fun _ h => h) e9 d245_131 ?_
            clear e9 c9 fs9
            refine lv_iconst (v := 1) hx hb d245_134 (by decide) ?_
            refine lv_iadd hx hb d245_135 ?_
            refine lv_istore_n (i := 3) hx hb d245_136 rfl hl (by decide) (show _ = [(3, .int (v88 + 1)), (5, va_rf v46), (4, va_rf v39), (2, va_rf v23), (0, .ref y0), (1, .int y1)] by simp [cat_rf, cat_int, cat_ref, cat_null, cat_long]) (fun ls hl => ?_)
            have hl : lv_has ls 7 [(3, .int (v88 + 1)), (5, va_rf v46), (4, va_rf v39), (2, va_rf v23), (0, .ref y0), (1, .int y1)] := hl
            exact b137 ls v23 (v88 + 1) c83 s84 _ _ h86 z80 _ _ hF hc hs (hl.sub [4, 3, 0] rfl) I
          · have hF := Eq.mp (if_neg h9) hF
            refine lv_sipush (v := (-2000)) hx hb d245_106 (by decide) ?_
            exact ht_iret X d245_109 I (rm_r hc) (rm_r hs) ⟨_, rfl, hF⟩
    · have hF := Eq.mp (if_pos h9) hF
      refine lv_sipush (v := (-2000)) hx hb d245_24 (by decide) ?_
      exact ht_iret X d245_27 I (rm_r hc) (rm_r hs) ⟨_, rfl, hF⟩
  · have hF := Eq.mp (if_pos h9) hF
    refine lv_sipush (v := (-1000)) hx hb d245_13 (by decide) ?_
    exact ht_iret X d245_16 I (rm_r hc) (rm_r hs) ⟨_, rfl, hF⟩
