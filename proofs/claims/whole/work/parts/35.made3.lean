
def w_Path_init (dA : Nat → ClassId) (y0 : Nat) (y1 : Int32) (rc rs : Nat) (K : hm_T → hz_T → Prop) (h0 : hm_T) (z0 : hz_T) : Prop := (cg_z y1 (cg_p h0 11 0 y0 (.int y1) (fun h21 => (cg_new h21 rc rs 4 3 [.int 0, .null, .int 0] (fun q22 c24 s25 h23 => (cg_c h23 4 q22 (cg_rm c24 s25 (fun c29 s30 c31 s32 => w_ArrayList_init dA q22 c29 s30 (fun h27 z28 => (cg_p h27 11 1 y0 (.ref q22) (fun h33 => (K h33 z28)))) h23 z0))))))))
set_option maxRecDepth 100000 in
set_option maxHeartbeats 8000000 in
theorem cw_Path_init (l : Launch) (D : va_G) (dA : Nat → ClassId) (s0 : State) (hW : ms_EW D dA s0) (y0 : Nat) (y1 : Int32) (rc rs : Nat) (h0 : hm_T) (z0 : hz_T) (K : hm_T → hz_T → Prop) (hg : w_Path_init dA y0 y1 rc rs K h0 z0) : ht_C l D s0 yM234 bM234 2 (Option.none : Option Jvm.ClassFile.FieldType) (4) (72) rc rs [.ref y0, .int y1] (fun h z => h = h0 ∧ z = z0) (fun h z vv h1 z1 => vv = none ∧ K h1 z1) := by
  have hE := hW.1
  refine ht_C.mk hE.1 (by decide) (Nat.le_of_ble_eq_true rfl) [(0, .ref y0), (1, .int y1)] rfl ?_
  intro p e s m below meth c ls h z X hin hpre I hl
  have hx := X.1
  have hb := X.2.1
  have hml := X.2.2.1
  have hown : s.vm.findClass "MarkupStore$Path" = some m.cls := X.2.2.2.1
  have hts := X.2.2.2.2.2.2.1
  have hK := X.2.2.2.2.2.2.2.2.1
  rw [hpre.1, hpre.2] at I
  clear hpre
  have hF := hg
  unfold w_Path_init at hF
  clear h z
  have hc : 0 + rc ≤ rc := by omega
  have hs : 0 + rs ≤ rs := by omega
  refine lv_aload_n hx hb d234_0 rfl (lv_at hl 0 rfl) ?_
  refine W.objInit hx hb hown (hts _ ms_k896) (hts _ ms_k37) (hts _ ms_k38) rfl (by rw [hml]; exact hl.1) rfl d234_1 (Nat.le_of_ble_eq_true rfl) (Nat.le_of_ble_eq_true rfl) ?_
  refine W.eq (g2 := F0 m 4 ls []) rfl ?_
  refine lv_aload_n hx hb d234_4 rfl (lv_at hl 0 rfl) ?_
  refine lv_iload_n hx hb d234_5 rfl (lv_at hl 1 rfl) ?_
  obtain ⟨hz9, hF⟩ := hF
  obtain ⟨fs9, c9, k9, hF⟩ := hF
  refine hm_putF (ci := 11) (v := .int y1) (ty := .boolean) (C := kR11) (T := kT11) (N := 2) X I ku11 kt11 kp11 kn11 c9 rfl 0 (by decide) ms_k899 (fun _ h => h) rfl hin rfl (by decide +kernel) (cg_zn hz9).1 (cg_zn hz9).2 k9 d234_6 (fun h21 H locs e9 f9 I => ?_)
  rw [← hm_eqU e9 f9] at hF
  clear e9 f9 c9 k9
  refine lv_aload_n hx hb d234_9 rfl (lv_at hl 0 rfl) ?_
  obtain ⟨c24, s25, ec, es, hF⟩ := hF
  refine hm_mk (ci := 4) (fs := [.int 0, .null, .int 0]) (C := kR4) (T := kT4) (N := 3) X I ku4 kt4 kp4 (List.forall_mem_cons.mpr ⟨ms_k897, List.forall_mem_cons.mpr ⟨ms_k323, List.forall_mem_cons.mpr ⟨ms_k18, fun _ h => absurd h List.not_mem_nil⟩⟩⟩) rfl kz4 (rm_u hc ec).1 (rm_u hs es).1 d234_10 (fun q22 h23 H v9 e9 f9 I => ?_)
  have hF := hF q22 v9
  rw [← hm_eqU e9 f9] at hF
  clear e9 f9 v9
  have hc := (rm_u hc ec).2
  have hs := (rm_u hs es).2
  clear ec es
  refine lv_dup hx hb d234_13 rfl ?_
  obtain ⟨fs9, c9, hF⟩ := hF
  obtain ⟨c29, s30, c31, s32, ec, es, hF⟩ := hF
  refine ht_I (rest := [.ref q22, .ref y0]) (as := []) X hl (cw_ArrayList_init l D dA s0 hW q22 c29 s30 h23 z0 _ hF) (List.forall_mem_cons.mpr ⟨ms_k898, List.forall_mem_cons.mpr ⟨ms_k325, List.forall_mem_cons.mpr ⟨ms_k18, List.forall_mem_cons.mpr ⟨ms_k326, fun _ h => absurd h List.not_mem_nil⟩⟩⟩⟩) rfl ⟨by decide +kernel, by decide +kernel, (by decide +kernel : (parseMethodDescriptor "()V").map (fun d => d.parameters.length) = some 0)⟩ I ⟨rfl, rfl⟩ ⟨⟨Nat.le_of_ble_eq_true rfl, Nat.le_of_ble_eq_true rfl⟩, (rm_u hc ec).1, (rm_u hs es).1⟩ rfl (Nat.le_of_ble_eq_true rfl) d234_14 (fun vv h27 z28 H locs hR I9 => ?_)
  obtain ⟨e1, hF⟩ := hR
  subst e1
  clear I
  have I := I9
  clear I9 c9 fs9
  have hc := (rm_u hc ec).2
  have hs := (rm_u hs es).2
  clear ec es
  refine W.eq (g2 := F0 m 17 ls [.ref q22, .ref y0]) rfl ?_
  obtain ⟨fs9, c9, k9, hF⟩ := hF
  refine hm_putF (ci := 11) (v := .ref q22) (ty := (.object "java/util/ArrayList")) (C := kR11) (T := kT11) (N := 2) X I ku11 kt11 kp11 kn11 c9 rfl 1 (by decide) ms_k902 (fun _ h => h) rfl hin rfl (by decide +kernel) rfl rfl k9 d234_17 (fun h33 H locs e9 f9 I => ?_)
  rw [← hm_eqU e9 f9] at hF
  clear e9 f9 c9 k9
  exact ht_vret X d234_20 I (rm_r hc) (rm_r hs) ⟨rfl, hF⟩

def w_PathReader_init (dA : Nat → ClassId) (y0 : Nat) (y1 : Option Nat) (rc rs : Nat) (K : hm_T → hz_T → Prop) (h0 : hm_T) (z0 : hz_T) : Prop := (cg_c h0 10 y0 (w_TextReader_init10 dA y0 y1 (fun h22 z23 => (K h22 z23)) h0 z0))
set_option maxRecDepth 100000 in
set_option maxHeartbeats 8000000 in
theorem cw_PathReader_init (l : Launch) (D : va_G) (dA : Nat → ClassId) (s0 : State) (hW : ms_EW D dA s0) (y0 : Nat) (y1 : Option Nat) (rc rs : Nat) (h0 : hm_T) (z0 : hz_T) (K : hm_T → hz_T → Prop) (hg : w_PathReader_init dA y0 y1 rc rs K h0 z0) : ht_C l D s0 yM235 bM235 2 (Option.none : Option Jvm.ClassFile.FieldType) (2) (33) rc rs [.ref y0, va_rf y1] (fun h z => h = h0 ∧ z = z0) (fun h z vv h1 z1 => vv = none ∧ K h1 z1) := by
  have hE := hW.1
  refine ht_C.mk hE.1 (by decide) (by simp [lg_sl, cat_rf, cat_int, cat_ref, cat_null, cat_long]) [(0, .ref y0), (1, va_rf y1)] (by simp [lv_args, cat_rf, cat_int, cat_ref, cat_null, cat_long]) ?_
  intro p e s m below meth c ls h z X hin hpre I hl
  have hx := X.1
  have hb := X.2.1
  have hml := X.2.2.1
  have hown : s.vm.findClass "MarkupStore$PathReader" = some m.cls := X.2.2.2.1
  have hts := X.2.2.2.2.2.2.1
  have hK := X.2.2.2.2.2.2.2.2.1
  rw [hpre.1, hpre.2] at I
  clear hpre
  have hF := hg
  unfold w_PathReader_init at hF
  clear h z
  have hc : 0 + rc ≤ rc := by omega
  have hs : 0 + rs ≤ rs := by omega
  refine lv_aload_n hx hb d235_0 rfl (lv_at hl 0 rfl) ?_
  refine lv_aload_nR hx hb d235_1 rfl (lv_at hl 1 rfl) ?_
  obtain ⟨fs9, c9, hF⟩ := hF
  refine ht_I (rest := []) (as := [va_rf y1]) X hl (cw_TextReader_init10 l D dA s0 hE y0 y1 h0 z0 _ hF) (List.forall_mem_cons.mpr ⟨ms_k875, List.forall_mem_cons.mpr ⟨ms_k319, List.forall_mem_cons.mpr ⟨ms_k14, List.forall_mem_cons.mpr ⟨ms_k320, fun _ h => absurd h List.not_mem_nil⟩⟩⟩⟩) rfl ⟨by decide +kernel, by decide +kernel, (by decide +kernel : (parseMethodDescriptor "(Ljava/lang/String;)V").map (fun d => d.parameters.length) = some 1)⟩ I ⟨rfl, rfl⟩ ⟨⟨Nat.le_of_ble_eq_true rfl, Nat.le_of_ble_eq_true rfl⟩, rm_0 hc, rm_0 hs⟩ rfl (Nat.le_of_ble_eq_true rfl) d235_2 (fun vv h22 z23 H locs hR I9 => ?_)
  obtain ⟨e1, hF⟩ := hR
  subst e1
  clear I
  have I := I9
  clear I9 c9 fs9
  refine W.eq (g2 := F0 m 5 ls []) rfl ?_
  exact ht_vret X d235_5 I (rm_r hc) (rm_r hs) ⟨rfl, hF⟩

def w_PathReader_readPath_118 (dA : Nat → ClassId) (P : Nat → Int32 → Nat → Nat → (Option Nat → hm_T → hz_T → Prop) → hm_T → hz_T → Prop) (y0 : Nat) (K : Option Nat → hm_T → hz_T → Prop) (x2 : Option Nat) (cr sr : Nat) (h : hm_T) (z : hz_T) : Prop := (K x2 h z)
def w_PathReader_readPath_58 (dA : Nat → ClassId) (P : Nat → Int32 → Nat → Nat → (Option Nat → hm_T → hz_T → Prop) → hm_T → hz_T → Prop) (y0 : Nat) (K : Option Nat → hm_T → hz_T → Prop) : Nat → Int32 → Option Nat → Int32 → Nat → Nat → hm_T → hz_T → Prop
  | 0, _, _, _, _, _, _, _ => False
  | n9 + 1, x1, x2, x3, cr, sr, h, z => (cg_R h 10 0 y0 (fun v56 => (cg_d v56 (fun a57 => (jd_len z a57 (fun v58 => (if v58 ≤ x3 then (w_PathReader_readPath_118 dA P y0 K x2 cr sr h z) else (cg_c h 10 y0 (w_TextReader_failed10 dA y0 (fun v59 h60 z61 => (if v59 = 0 then (cg_I h60 10 1 y0 (fun v62 => (cg_c h60 10 y0 (w_TextReader_seen10 dA y0 v62 (fun v63 h64 z65 => (if v63 = 47 then (cg_I h64 10 1 y0 (fun v66 => (cg_p h64 10 1 y0 (.int (v66 + 1)) (fun h67 => (cg_d x2 (fun a68 => (cg_R h67 11 1 a68 (fun v69 => (cg_c h67 10 y0 (cg_rm cr sr (fun c73 s74 c75 s76 => P y0 x1 c73 s74 (fun v70 h71 z72 => (cg_d v69 (fun a77 => (cg_c h71 4 a77 (cg_rm c75 s76 (fun c81 s82 c83 s84 => w_AL_add dA a77 v70 c81 s82 (fun v78 h79 z80 => ((w_PathReader_readPath_58 dA P y0 K n9) x1 x2 (x3 + 1) c83 s84 h79 z80)) h71 z72)))))) h67 z65))))))))))) else (w_PathReader_readPath_118 dA P y0 K x2 cr sr h64 z65))) h60 z61)))) else (w_PathReader_readPath_118 dA P y0 K x2 cr sr h60 z61))) h z)))))))))
def w_PathReader_readPath_43 (dA : Nat → ClassId) (P : Nat → Int32 → Nat → Nat → (Option Nat → hm_T → hz_T → Prop) → hm_T → hz_T → Prop) (y0 : Nat) (K : Option Nat → hm_T → hz_T → Prop) (x1 : Int32) (x2 : Option Nat) (cr sr : Nat) (h : hm_T) (z : hz_T) : Prop := (cg_d x2 (fun a39 => (cg_R h 11 1 a39 (fun v40 => (cg_c h 10 y0 (cg_rm cr sr (fun c44 s45 c46 s47 => P y0 x1 c44 s45 (fun v41 h42 z43 => (cg_d v40 (fun a48 => (cg_c h42 4 a48 (cg_rm c46 s47 (fun c52 s53 c54 s55 => w_AL_add dA a48 v41 c52 s53 (fun v49 h50 z51 => (w_PathReader_readPath_58 dA P y0 K mF x1 x2 0 c54 s55 h50 z51)) h42 z43)))))) h z)))))))
def w_PathReader_readPath_22 (dA : Nat → ClassId) (P : Nat → Int32 → Nat → Nat → (Option Nat → hm_T → hz_T → Prop) → hm_T → hz_T → Prop) (y0 : Nat) (K : Option Nat → hm_T → hz_T → Prop) (x1 : Int32) (w0 : Int32) (w1 : Option Nat) (w2 : Option Nat) (cr sr : Nat) (h : hm_T) (z : hz_T) : Prop := (cg_d w1 (fun a29 => (cg_c h 11 a29 (cg_rm cr sr (fun c33 s34 c35 s36 => w_Path_init dA a29 w0 c33 s34 (fun h31 z32 => (cg_d w2 (fun a37 => (cg_I h31 11 0 a37 (fun v38 => (if v38 = 0 then (w_PathReader_readPath_43 dA P y0 K x1 w2 c35 s36 h31 z32) else (cg_I h31 10 1 y0 (fun v85 => (cg_p h31 10 1 y0 (.int (v85 + 1)) (fun h86 => (w_PathReader_readPath_43 dA P y0 K x1 w2 c35 s36 h86 z32))))))))))) h z)))))
def w_PathReader_readPath (dA : Nat → ClassId) (P : Nat → Int32 → Nat → Nat → (Option Nat → hm_T → hz_T → Prop) → hm_T → hz_T → Prop) (y0 : Nat) (y1 : Int32) (rc rs : Nat) (K : Option Nat → hm_T → hz_T → Prop) (h0 : hm_T) (z0 : hz_T) : Prop := (cg_new h0 rc rs 11 2 [.int 0, .null] (fun q21 c23 s24 h22 => (cg_I h22 10 1 y0 (fun v25 => (cg_c h22 10 y0 (w_TextReader_seen10 dA y0 v25 (fun v26 h27 z28 => (if v26 = 47 then (w_PathReader_readPath_22 dA P y0 K y1 1 (some q21) (some q21) c23 s24 h27 z28) else (w_PathReader_readPath_22 dA P y0 K y1 0 (some q21) (some q21) c23 s24 h27 z28))) h22 z0))))))
set_option maxRecDepth 100000 in
set_option maxHeartbeats 8000000 in
theorem cw_PathReader_readPath (l : Launch) (D : va_G) (dA : Nat → ClassId) (s0 : State) (hW : ms_EW D dA s0) (P : Nat → Int32 → Nat → Nat → (Option Nat → hm_T → hz_T → Prop) → hm_T → hz_T → Prop) (fP lP : Nat) (hP : ∀ (a0_ : Nat) (a1_ : Int32) (c1 s1 : Nat) (h0 : hm_T) (z0 : hz_T) (K : Option Nat → hm_T → hz_T → Prop), P a0_ a1_ c1 s1 K h0 z0 → ht_C l D s0 yM237 bM237 4 (Option.some (Jvm.ClassFile.FieldType.object "MarkupStore$Step")) fP lP c1 s1 [.ref a0_, .int a1_] (fun h z => h = h0 ∧ z = z0) (fun h z vv h1 z1 => ∃ v, vv = some (va_rf v) ∧ K v h1 z1)) (y0 : Nat) (y1 : Int32) (rc rs : Nat) (h0 : hm_T) (z0 : hz_T) (K : Option Nat → hm_T → hz_T → Prop) (hg : w_PathReader_readPath dA P y0 y1 rc rs K h0 z0) : ht_C l D s0 yM236 bM236 4 (Option.some (Jvm.ClassFile.FieldType.object "MarkupStore$Path")) (fP + 7) (lP + 231) rc rs [.ref y0, .int y1] (fun h z => h = h0 ∧ z = z0) (fun h z vv h1 z1 => ∃ v, vv = some (va_rf v) ∧ K v h1 z1) := by
  have hE := hW.1
  refine ht_C.mk hE.1 (by decide) (Nat.le_of_ble_eq_true rfl) [(0, .ref y0), (1, .int y1)] rfl ?_
  intro p e s m below meth c ls h z X hin hpre I hl
  have hx := X.1
  have hb := X.2.1
  have hml := X.2.2.1
  have hown : s.vm.findClass "MarkupStore$PathReader" = some m.cls := X.2.2.2.1
  have hts := X.2.2.2.2.2.2.1
  have hK := X.2.2.2.2.2.2.2.2.1
  rw [hpre.1, hpre.2] at I
  clear hpre
  have b118 : ∀ (ls : Array Slot) (x2 : Option Nat) (cr sr cu su : Nat) (h : hm_T) (z : hz_T) (H : Heap) (locs : List Loc), w_PathReader_readPath_118 dA P y0 K x2 cr sr h z → cu + cr ≤ rc → su + sr ≤ rs → lv_has ls 4 [(2, va_rf x2)] → hm_I D s0 s h z H locs → W p l e { frames := fP + 7, cells := rc, slots := rs, locals := lP + 231 } s m ([.ref y0, .int y1] : List Value).toArray below meth c H locs cu su (MQ below (ht_Q D s0 (fun vv h1 z1 => ∃ v, vv = some (va_rf v) ∧ K v h1 z1)) ([.ref y0, .int y1] : List Value).toArray s rc rs (fun q => s0.heap.size ≤ q)) (F0 m 118 ls []) := by
    intro ls x2 cr sr cu su h z H locs hF hc hs hl I
    unfold w_PathReader_readPath_118 at hF
    refine lv_aload_nR hx hb d236_118 rfl (lv_at hl 0 rfl) ?_
    exact ht_aret X d236_119 I (rm_r hc) (rm_r hs) ⟨x2, rfl, hF⟩ (Or.inl ⟨_, rfl⟩) (rf_or _)
  have b58 : ∀ n9 : Nat, ∀ (ls : Array Slot) (x1 : Int32) (x2 : Option Nat) (x3 : Int32) (cr sr cu su : Nat) (h : hm_T) (z : hz_T) (H : Heap) (locs : List Loc), w_PathReader_readPath_58 dA P y0 K n9 x1 x2 x3 cr sr h z → cu + cr ≤ rc → su + sr ≤ rs → lv_has ls 4 [(0, .ref y0), (1, .int x1), (2, va_rf x2), (3, .int x3)] → hm_I D s0 s h z H locs → W p l e { frames := fP + 7, cells := rc, slots := rs, locals := lP + 231 } s m ([.ref y0, .int y1] : List Value).toArray below meth c H locs cu su (MQ below (ht_Q D s0 (fun vv h1 z1 => ∃ v, vv = some (va_rf v) ∧ K v h1 z1)) ([.ref y0, .int y1] : List Value).toArray s rc rs (fun q => s0.heap.size ≤ q)) (F0 m 58 ls []) := by
    intro n9
    induction n9 with
    | zero => intro ls x1 x2 x3 cr sr cu su h z H locs hF; cases hF
    | succ n9 hk58 =>
    intro ls x1 x2 x3 cr sr cu su h z H locs hF hc hs hl I
    unfold w_PathReader_readPath_58 at hF
    refine lv_iload_n hx hb d236_58 rfl (lv_at hl 3 rfl) ?_
    refine lv_aload_n hx hb d236_59 rfl (lv_at hl 0 rfl) ?_
    obtain ⟨fs9, v56, c9, e9, hF⟩ := hF
    refine va_get (D := D) (ci := 10) (v := va_rf v56) (C := kR10) (T := kT10) (N := 3) hx hb hts ku10 hown hK (hm_one I.1 c9) 0 rfl rfl 0 (by decide) (hts _ ms_k353) (fun x9 h9 => u_same (hts _ ms_k354) x9 h9) e9 d236_60 ?_
    clear e9 c9 fs9
    obtain ⟨a57, e9, hF⟩ := hF
    refine W.eq (g2 := F0 m 63 ls [.ref a57, .int x3]) (by rw [e9]; rfl) ?_
    clear e9
    obtain ⟨u9, xs9, z9, hF⟩ := hF
    refine ht_V (C := "java/lang/String") (rest := [.int x3]) (as := []) X hl (c_Slen l D dA s0 hE a57 u9 xs9) (List.forall_mem_cons.mpr ⟨ms_k1002, List.forall_mem_cons.mpr ⟨ms_k391, List.forall_mem_cons.mpr ⟨ms_k392, List.forall_mem_cons.mpr ⟨ms_k4, List.forall_mem_cons.mpr ⟨ms_k393, fun _ h => absurd h List.not_mem_nil⟩⟩⟩⟩⟩) ⟨rfl, by decide +kernel, by decide +kernel, (by decide +kernel : (parseMethodDescriptor "()I").map (fun d => d.parameters.length) = some 0)⟩ (hz_recv I z9) I z9 ⟨⟨by show _ ≤ fP + 7; omega, by show _ ≤ lP + 231; omega⟩, rm_0 hc, rm_0 hs⟩ rfl (Nat.le_of_ble_eq_true rfl) d236_63 (fun vv h9 z7 H locs hR I9 => ?_)
    obtain ⟨e1, e2, e3⟩ := hR
    rw [e2, e3] at I9
    subst e1
    clear I
    have I := I9
    clear I9 e2 e3 h9 z7
    refine W.eq (g2 := F0 m 66 ls [.int (nI xs9.length), .int x3]) rfl ?_
    generalize (nI xs9.length) = v58 at hF ⊢
    refine lv_icmp_ge hx hb d236_66 rfl (fun h9 => ?_) (fun h9 => ?_)
    · have hF := Eq.mp (if_pos h9) hF
      exact b118 ls x2 cr sr _ _ h z _ _ hF hc hs (hl.sub [2] rfl) I
    · have hF := Eq.mp (if_neg h9) hF
      refine lv_aload_n hx hb d236_69 rfl (lv_at hl 0 rfl) ?_
      obtain ⟨fs9, c9, hF⟩ := hF
      refine ht_U (C := "MarkupStore$PathReader") (x := ⟨"MarkupStore$PathReader", "failed", "()Z"⟩) (owner := "MarkupStore$TextReader") (rest := []) (as := []) X hl (cw_TextReader_failed10 l D dA s0 hE y0 h z _ hF) (List.forall_mem_cons.mpr ⟨ms_k1003, List.forall_mem_cons.mpr ⟨ms_k1004, List.forall_mem_cons.mpr ⟨ms_k1005, List.forall_mem_cons.mpr ⟨ms_k588, List.forall_mem_cons.mpr ⟨ms_k14, List.forall_mem_cons.mpr ⟨ms_k589, fun _ h => absurd h List.not_mem_nil⟩⟩⟩⟩⟩⟩) rfl ⟨by decide +kernel, by decide +kernel, (by decide +kernel : (parseMethodDescriptor "()Z").map (fun d => d.parameters.length) = some 0)⟩ (hm_recv hK I rfl c9) I ⟨rfl, rfl⟩ ⟨⟨by show _ ≤ fP + 7; omega, by show _ ≤ lP + 231; omega⟩, rm_0 hc, rm_0 hs⟩ rfl (Nat.le_of_ble_eq_true rfl) d236_70 (fun vv h60 z61 H locs hR I9 => ?_)
      obtain ⟨v59, e1, hF⟩ := hR
      subst e1
      clear I
      have I := I9
      clear I9 c9 fs9
      refine W.eq (g2 := F0 m 73 ls [.int v59]) rfl ?_
      refine lv_if_ne hx hb d236_73 rfl (fun h9 => ?_) (fun h9 => ?_)
      · have hF := Eq.mp (if_neg h9) hF
        exact b118 ls x2 cr sr _ _ h60 z61 _ _ hF hc hs (hl.sub [2] rfl) I
      · have hF := Eq.mp (if_pos h9) hF
        refine lv_aload_n hx hb d236_76 rfl (lv_at hl 0 rfl) ?_
        refine lv_aload_n hx hb d236_77 rfl (lv_at hl 0 rfl) ?_
        obtain ⟨fs9, v62, c9, e9, hF⟩ := hF
        refine va_get (D := D) (ci := 10) (v := .int v62) (C := kR10) (T := kT10) (N := 3) hx hb hts ku10 hown hK (hm_one I.1 c9) 0 rfl rfl 1 (by decide) (hts _ ms_k358) (fun x9 h9 => u_same (hts _ ms_k359) x9 h9) e9 d236_78 ?_
        clear e9 c9 fs9
        obtain ⟨fs9, c9, hF⟩ := hF
        refine ht_U (C := "MarkupStore$PathReader") (x := ⟨"MarkupStore$PathReader", "seen", "(I)C"⟩) (owner := "MarkupStore$TextReader") (rest := []) (as := [.int v62]) X hl (cw_TextReader_seen10 l D dA s0 hE y0 v62 h60 z61 _ hF) (List.forall_mem_cons.mpr ⟨ms_k890, List.forall_mem_cons.mpr ⟨ms_k891, List.forall_mem_cons.mpr ⟨ms_k892, List.forall_mem_cons.mpr ⟨ms_k388, List.forall_mem_cons.mpr ⟨ms_k14, List.forall_mem_cons.mpr ⟨ms_k389, fun _ h => absurd h List.not_mem_nil⟩⟩⟩⟩⟩⟩) rfl ⟨by decide +kernel, by decide +kernel, (by decide +kernel : (parseMethodDescriptor "(I)C").map (fun d => d.parameters.length) = some 1)⟩ (hm_recv hK I rfl c9) I ⟨rfl, rfl⟩ ⟨⟨by show _ ≤ fP + 7; omega, by show _ ≤ lP + 231; omega⟩, rm_0 hc, rm_0 hs⟩ rfl (Nat.le_of_ble_eq_true rfl) d236_81 (fun vv h64 z65 H locs hR I9 => ?_)
        obtain ⟨v63, e1, hF⟩ := hR
        subst e1
        clear I
        have I := I9
        clear I9 c9 fs9
        refine W.eq (g2 := F0 m 84 ls [.int v63]) rfl ?_
        refine lv_bipush (v := 47) hx hb d236_84 (by decide) ?_
        refine lv_icmp_ne hx hb d236_86 rfl (fun h9 => ?_) (fun h9 => ?_)
        · have hF := Eq.mp (if_neg h9) hF
          exact b118 ls x2 cr sr _ _ h64 z65 _ _ hF hc hs (hl.sub [2] rfl) I
        · have hF := Eq.mp (if_pos h9) hF
          refine lv_aload_n hx hb d236_89 rfl (lv_at hl 0 rfl) ?_
          refine lv_dup hx hb d236_90 rfl ?_
          obtain ⟨fs9, v66, c9, e9, hF⟩ := hF
          refine va_get (D := D) (ci := 10) (v := .int v66) (C := kR10) (T := kT10) (N := 3) hx hb hts ku10 hown hK (hm_one I.1 c9) 0 rfl rfl 1 (by decide) (hts _ ms_k358) (fun x9 h9 => u_same (hts _ ms_k359) x9 h9) e9 d236_91 ?_
          clear e9 c9 fs9
          refine lv_iconst (v := 1) hx hb d236_94 (by decide) ?_
          refine lv_iadd hx hb d236_95 ?_
          obtain ⟨fs9, c9, k9, hF⟩ := hF
          refine hm_put (ci := 10) (v := .int (v66 + 1)) (ty := .int) (C := kR10) (T := kT10) (N := 3) X I ku10 kt10 kp10 kn10 c9 rfl 1 (by decide) ms_k358 (fun x9 h9 => u_same (hts _ ms_k359) x9 h9) rfl (by decide +kernel) rfl rfl k9 d236_96 (fun h67 H locs e9 f9 I => ?_)
          rw [← hm_eqU e9 f9] at hF
          clear e9 f9 c9 k9
          refine lv_aload_nR hx hb d236_99 rfl (lv_at hl 2 rfl) ?_
          obtain ⟨a68, e9, hF⟩ := hF
          refine W.eq (g2 := F0 m 100 ls [.ref a68]) (by rw [e9]; rfl) ?_
          clear e9
          obtain ⟨fs9, v69, c9, e9, hF⟩ := hF
          refine va_get (D := D) (ci := 11) (v := va_rf v69) (C := kR11) (T := kT11) (N := 2) hx hb hts ku11 hown hK (hm_one I.1 c9) 0 rfl rfl 1 (by decide) (hts _ ms_k904) (fun _ h => h) e9 d236_100 ?_
          clear e9 c9 fs9
          refine lv_aload_n hx hb d236_103 rfl (lv_at hl 0 rfl) ?_
          refine lv_iload_n hx hb d236_104 rfl (lv_at hl 1 rfl) ?_
          obtain ⟨fs9, c9, hF⟩ := hF
          obtain ⟨c73, s74, c75, s76, ec, es, hF⟩ := hF
          refine ht_V (C := "MarkupStore$PathReader") (rest := [va_rf v69]) (as := [.int x1]) X hl (hP y0 x1 c73 s74 h67 z65 _ hF) (List.forall_mem_cons.mpr ⟨ms_k910, List.forall_mem_cons.mpr ⟨ms_k912, List.forall_mem_cons.mpr ⟨ms_p20, List.forall_mem_cons.mpr ⟨ms_k23, List.forall_mem_cons.mpr ⟨ms_k913, fun _ h => absurd h List.not_mem_nil⟩⟩⟩⟩⟩) ⟨rfl, by decide +kernel, by decide +kernel, (by decide +kernel : (parseMethodDescriptor "(I)LMarkupStore$Step;").map (fun d => d.parameters.length) = some 1)⟩ (hm_recv hK I rfl c9) I ⟨rfl, rfl⟩ ⟨⟨by show _ ≤ fP + 7; omega, by show _ ≤ lP + 231; omega⟩, (rm_u hc ec).1, (rm_u hs es).1⟩ rfl (by simp [cat_rf, cat_int, cat_ref, cat_null, cat_long]) d236_105 (fun vv h71 z72 H locs hR I9 => ?_)
          obtain ⟨v70, e1, hF⟩ := hR
          subst e1
          clear I
          have I := I9
          clear I9 c9 fs9
          have hc := (rm_u hc ec).2
          have hs := (rm_u hs es).2
          clear ec es
          refine W.eq (g2 := F0 m 108 ls [va_rf v70, va_rf v69]) rfl ?_
          obtain ⟨a77, e9, hF⟩ := hF
          refine W.eq (g2 := F0 m 108 ls [va_rf v70, .ref a77]) (by rw [e9]; rfl) ?_
          clear e9
          obtain ⟨fs9, c9, hF⟩ := hF
          obtain ⟨c81, s82, c83, s84, ec, es, hF⟩ := hF
          refine ht_V (C := "java/util/ArrayList") (rest := []) (as := [va_rf v70]) X hl (cw_AL_add l D dA s0 hW a77 v70 c81 s82 h71 z72 _ hF) (List.forall_mem_cons.mpr ⟨ms_k1077, List.forall_mem_cons.mpr ⟨ms_k495, List.forall_mem_cons.mpr ⟨ms_k496, List.forall_mem_cons.mpr ⟨ms_k18, List.forall_mem_cons.mpr ⟨ms_k497, fun _ h => absurd h List.not_mem_nil⟩⟩⟩⟩⟩) ⟨rfl, by decide +kernel, by decide +kernel, (by decide +kernel : (parseMethodDescriptor "(Ljava/lang/Object;)Z").map (fun d => d.parameters.length) = some 1)⟩ (hm_recv hK I rfl c9) I ⟨rfl, rfl⟩ ⟨⟨by show _ ≤ fP + 7; omega, by show _ ≤ lP + 231; omega⟩, (rm_u hc ec).1, (rm_u hs es).1⟩ rfl (Nat.le_of_ble_eq_true rfl) d236_108 (fun vv h79 z80 H locs hR I9 => ?_)
          obtain ⟨v78, e1, hF⟩ := hR
          subst e1
          clear I
          have I := I9
          clear I9 c9 fs9
          have hc := (rm_u hc ec).2
          have hs := (rm_u hs es).2
          clear ec es
          refine W.eq (g2 := F0 m 111 ls [.int v78]) rfl ?_
          refine lv_pop hx hb d236_111 rfl ?_
          refine lv_iinc (k := 3) (v := (x3 + 1)) hx hb d236_112 hl rfl (rfl) (by decide) (show _ = [(3, .int (x3 + 1)), (0, .ref y0), (1, .int x1), (2, va_rf x2)] by simp [cat_rf, cat_int, cat_ref, cat_null, cat_long]) (fun ls hl => ?_)
          have hl : lv_has ls 4 [(3, .int (x3 + 1)), (0, .ref y0), (1, .int x1), (2, va_rf x2)] := hl
          refine lv_goto hx hb d236_115 rfl ?_
          exact hk58 ls x1 x2 (x3 + 1) c83 s84 _ _ h79 z80 _ _ hF hc hs (hl.sub [1, 2, 3, 0] rfl) I
  have b43 : ∀ (ls : Array Slot) (x1 : Int32) (x2 : Option Nat) (cr sr cu su : Nat) (h : hm_T) (z : hz_T) (H : Heap) (locs : List Loc), w_PathReader_readPath_43 dA P y0 K x1 x2 cr sr h z → cu + cr ≤ rc → su + sr ≤ rs → lv_has ls 4 [(0, .ref y0), (1, .int x1), (2, va_rf x2)] → hm_I D s0 s h z H locs → W p l e { frames := fP + 7, cells := rc, slots := rs, locals := lP + 231 } s m ([.ref y0, .int y1] : List Value).toArray below meth c H locs cu su (MQ below (ht_Q D s0 (fun vv h1 z1 => ∃ v, vv = some (va_rf v) ∧ K v h1 z1)) ([.ref y0, .int y1] : List Value).toArray s rc rs (fun q => s0.heap.size ≤ q)) (F0 m 43 ls []) := by
    intro ls x1 x2 cr sr cu su h z H locs hF hc hs hl I
    unfold w_PathReader_readPath_43 at hF
    refine lv_aload_nR hx hb d236_43 rfl (lv_at hl 2 rfl) ?_
    obtain ⟨a39, e9, hF⟩ := hF
    refine W.eq (g2 := F0 m 44 ls [.ref a39]) (by rw [e9]; rfl) ?_
    clear e9
    obtain ⟨fs9, v40, c9, e9, hF⟩ := hF
    refine va_get (D := D) (ci := 11) (v := va_rf v40) (C := kR11) (T := kT11) (N := 2) hx hb hts ku11 hown hK (hm_one I.1 c9) 0 rfl rfl 1 (by decide) (hts _ ms_k904) (fun _ h => h) e9 d236_44 ?_
    clear e9 c9 fs9
    refine lv_aload_n hx hb d236_47 rfl (lv_at hl 0 rfl) ?_
    refine lv_iload_n hx hb d236_48 rfl (lv_at hl 1 rfl) ?_
    obtain ⟨fs9, c9, hF⟩ := hF
    obtain ⟨c44, s45, c46, s47, ec, es, hF⟩ := hF
    refine ht_V (C := "MarkupStore$PathReader") (rest := [va_rf v40]) (as := [.int x1]) X hl (hP y0 x1 c44 s45 h z _ hF) (List.forall_mem_cons.mpr ⟨ms_k910, List.forall_mem_cons.mpr ⟨ms_k912, List.forall_mem_cons.mpr ⟨ms_p20, List.forall_mem_cons.mpr ⟨ms_k23, List.forall_mem_cons.mpr ⟨ms_k913, fun _ h => absurd h List.not_mem_nil⟩⟩⟩⟩⟩) ⟨rfl, by decide +kernel, by decide +kernel, (by decide +kernel : (parseMethodDescriptor "(I)LMarkupStore$Step;").map (fun d => d.parameters.length) = some 1)⟩ (hm_recv hK I rfl c9) I ⟨rfl, rfl⟩ ⟨⟨by show _ ≤ fP + 7; omega, by show _ ≤ lP + 231; omega⟩, (rm_u hc ec).1, (rm_u hs es).1⟩ rfl (by simp [cat_rf, cat_int, cat_ref, cat_null, cat_long]) d236_49 (fun vv h42 z43 H locs hR I9 => ?_)
    obtain ⟨v41, e1, hF⟩ := hR
    subst e1
    clear I
    have I := I9
    clear I9 c9 fs9
    have hc := (rm_u hc ec).2
    have hs := (rm_u hs es).2
    clear ec es
    refine W.eq (g2 := F0 m 52 ls [va_rf v41, va_rf v40]) rfl ?_
    obtain ⟨a48, e9, hF⟩ := hF
    refine W.eq (g2 := F0 m 52 ls [va_rf v41, .ref a48]) (by rw [e9]; rfl) ?_
    clear e9
    obtain ⟨fs9, c9, hF⟩ := hF
    obtain ⟨c52, s53, c54, s55, ec, es, hF⟩ := hF
    refine ht_V (C := "java/util/ArrayList") (rest := []) (as := [va_rf v41]) X hl (cw_AL_add l D dA s0 hW a48 v41 c52 s53 h42 z43 _ hF) (List.forall_mem_cons.mpr ⟨ms_k1077, List.forall_mem_cons.mpr ⟨ms_k495, List.forall_mem_cons.mpr ⟨ms_k496, List.forall_mem_cons.mpr ⟨ms_k18, List.forall_mem_cons.mpr ⟨ms_k497, fun _ h => absurd h List.not_mem_nil⟩⟩⟩⟩⟩) ⟨rfl, by decide +kernel, by decide +kernel, (by decide +kernel : (parseMethodDescriptor "(Ljava/lang/Object;)Z").map (fun d => d.parameters.length) = some 1)⟩ (hm_recv hK I rfl c9) I ⟨rfl, rfl⟩ ⟨⟨by show _ ≤ fP + 7; omega, by show _ ≤ lP + 231; omega⟩, (rm_u hc ec).1, (rm_u hs es).1⟩ rfl (Nat.le_of_ble_eq_true rfl) d236_52 (fun vv h50 z51 H locs hR I9 => ?_)
    obtain ⟨v49, e1, hF⟩ := hR
    subst e1
    clear I
    have I := I9
    clear I9 c9 fs9
    have hc := (rm_u hc ec).2
    have hs := (rm_u hs es).2
    clear ec es
    refine W.eq (g2 := F0 m 55 ls [.int v49]) rfl ?_
    refine lv_pop hx hb d236_55 rfl ?_
    refine lv_iconst (v := 0) hx hb d236_56 (by decide) ?_
    refine lv_istore_n (i := 3) hx hb d236_57 rfl hl (by decide) (show _ = [(3, .int 0), (0, .ref y0), (1, .int x1), (2, va_rf x2)] by simp [cat_rf, cat_int, cat_ref, cat_null, cat_long]) (fun ls hl => ?_)
    have hl : lv_has ls 4 [(3, .int 0), (0, .ref y0), (1, .int x1), (2, va_rf x2)] := hl
    exact b58 mF ls x1 x2 0 c54 s55 _ _ h50 z51 _ _ hF hc hs (hl.sub [1, 2, 3, 0] rfl) I
  have b22 : ∀ (ls : Array Slot) (x1 : Int32) (w0 : Int32) (w1 : Option Nat) (w2 : Option Nat) (cr sr cu su : Nat) (h : hm_T) (z : hz_T) (H : Heap) (locs : List Loc), w_PathReader_readPath_22 dA P y0 K x1 w0 w1 w2 cr sr h z → cu + cr ≤ rc → su + sr ≤ rs → lv_has ls 4 [(0, .ref y0), (1, .int x1)] → hm_I D s0 s h z H locs → W p l e { frames := fP + 7, cells := rc, slots := rs, locals := lP + 231 } s m ([.ref y0, .int y1] : List Value).toArray below meth c H locs cu su (MQ below (ht_Q D s0 (fun vv h1 z1 => ∃ v, vv = some (va_rf v) ∧ K v h1 z1)) ([.ref y0, .int y1] : List Value).toArray s rc rs (fun q => s0.heap.size ≤ q)) (F0 m 22 ls [.int w0, va_rf w1, va_rf w2]) := by
    intro ls x1 w0 w1 w2 cr sr cu su h z H locs hF hc hs hl I
    unfold w_PathReader_readPath_22 at hF
    obtain ⟨a29, e9, hF⟩ := hF
    refine W.eq (g2 := F0 m 22 ls [.int w0, .ref a29, va_rf w2]) (by rw [e9]; rfl) ?_
    clear e9
    obtain ⟨fs9, c9, hF⟩ := hF
    obtain ⟨c33, s34, c35, s36, ec, es, hF⟩ := hF
    refine ht_I (rest := [va_rf w2]) (as := [.int w0]) X hl (cw_Path_init l D dA s0 hW a29 w0 c33 s34 h z _ hF) (List.forall_mem_cons.mpr ⟨ms_k893, List.forall_mem_cons.mpr ⟨ms_k894, List.forall_mem_cons.mpr ⟨ms_k24, List.forall_mem_cons.mpr ⟨ms_k895, fun _ h => absurd h List.not_mem_nil⟩⟩⟩⟩) rfl ⟨by decide +kernel, by decide +kernel, (by decide +kernel : (parseMethodDescriptor "(Z)V").map (fun d => d.parameters.length) = some 1)⟩ I ⟨rfl, rfl⟩ ⟨⟨by show _ ≤ fP + 7; omega, by show _ ≤ lP + 231; omega⟩, (rm_u hc ec).1, (rm_u hs es).1⟩ rfl (by simp [cat_rf, cat_int, cat_ref, cat_null, cat_long]) d236_22 (fun vv h31 z32 H locs hR I9 => ?_)
    obtain ⟨e1, hF⟩ := hR
    subst e1
    clear I
    have I := I9
    clear I9 c9 fs9
    have hc := (rm_u hc ec).2
    have hs := (rm_u hs es).2
    clear ec es
    refine W.eq (g2 := F0 m 25 ls [va_rf w2]) rfl ?_
    refine lv_astore_nR hx hb d236_25 rfl hl (by decide) rfl (fun ls hl => ?_)
    have hl : lv_has ls 4 [(2, va_rf w2), (0, .ref y0), (1, .int x1)] := hl
    refine lv_aload_nR hx hb d236_26 rfl (lv_at hl 0 rfl) ?_
    obtain ⟨a37, e9, hF⟩ := hF
    refine W.eq (g2 := F0 m 27 ls [.ref a37]) (by rw [e9]; rfl) ?_
    clear e9
    obtain ⟨fs9, v38, c9, e9, hF⟩ := hF
    refine va_get (D := D) (ci := 11) (v := .int v38) (C := kR11) (T := kT11) (N := 2) hx hb hts ku11 hown hK (hm_one I.1 c9) 0 rfl rfl 0 (by decide) (hts _ ms_k900) (fun _ h => h) e9 d236_27 ?_
    clear e9 c9 fs9
    refine lv_if_eq hx hb d236_30 rfl (fun h9 => ?_) (fun h9 => ?_)
    · have hF := Eq.mp (if_pos h9) hF
      exact b43 ls x1 w2 c35 s36 _ _ h31 z32 _ _ hF hc hs (hl.sub [1, 2, 0] rfl) I
    · have hF := Eq.mp (if_neg h9) hF
      refine lv_aload_n hx hb d236_33 rfl (lv_at hl 1 rfl) ?_
      refine lv_dup hx hb d236_34 rfl ?_
      obtain ⟨fs9, v85, c9, e9, hF⟩ := hF
      refine va_get (D := D) (ci := 10) (v := .int v85) (C := kR10) (T := kT10) (N := 3) hx hb hts ku10 hown hK (hm_one I.1 c9) 0 rfl rfl 1 (by decide) (hts _ ms_k358) (fun x9 h9 => u_same (hts _ ms_k359) x9 h9) e9 d236_35 ?_
      clear e9 c9 fs9
      refine lv_iconst (v := 1) hx hb d236_38 (by decide) ?_
      refine lv_iadd hx hb d236_39 ?_
      obtain ⟨fs9, c9, k9, hF⟩ := hF
      refine hm_put (ci := 10) (v := .int (v85 + 1)) (ty := .int) (C := kR10) (T := kT10) (N := 3) X I ku10 kt10 kp10 kn10 c9 rfl 1 (by decide) ms_k358 (fun x9 h9 => u_same (hts _ ms_k359) x9 h9) rfl (by decide +kernel) rfl rfl k9 d236_40 (fun h86 H locs e9 f9 I => ?_)
      rw [← hm_eqU e9 f9] at hF
      clear e9 f9 c9 k9
      exact b43 ls x1 w2 c35 s36 _ _ h86 z32 _ _ hF hc hs (hl.sub [1, 2, 0] rfl) I
  have hF := hg
  unfold w_PathReader_readPath at hF
  clear h z
  have hc : 0 + rc ≤ rc := by omega
  have hs : 0 + rs ≤ rs := by omega
  obtain ⟨c23, s24, ec, es, hF⟩ := hF
  refine hm_mk (ci := 11) (fs := [.int 0, .null]) (C := kR11) (T := kT11) (N := 2) X I ku11 kt11 kp11 (List.forall_mem_cons.mpr ⟨ms_k888, List.forall_mem_cons.mpr ⟨ms_k889, List.forall_mem_cons.mpr ⟨ms_k24, fun _ h => absurd h List.not_mem_nil⟩⟩⟩) rfl kz11 (rm_u hc ec).1 (rm_u hs es).1 d236_0 (fun q21 h22 H v9 e9 f9 I => ?_)
  have hF := hF q21 v9
  rw [← hm_eqU e9 f9] at hF
  clear e9 f9 v9
  have hc := (rm_u hc ec).2
  have hs := (rm_u hs es).2
  clear ec es
  refine lv_dup hx hb d236_3 rfl ?_
  refine lv_aload_n hx hb d236_4 rfl (lv_at hl 0 rfl) ?_
  refine lv_aload_n hx hb d236_5 rfl (lv_at hl 0 rfl) ?_
  obtain ⟨fs9, v25, c9, e9, hF⟩ := hF
  refine va_get (D := D) (ci := 10) (v := .int v25) (C := kR10) (T := kT10) (N := 3) hx hb hts ku10 hown hK (hm_one I.1 c9) 0 rfl rfl 1 (by decide) (hts _ ms_k358) (fun x9 h9 => u_same (hts _ ms_k359) x9 h9) e9 d236_6 ?_
  clear e9 c9 fs9
  obtain ⟨fs9, c9, hF⟩ := hF
  refine ht_U (C := "MarkupStore$PathReader") (x := ⟨"MarkupStore$PathReader", "seen", "(I)C"⟩) (owner := "MarkupStore$TextReader") (rest := [.ref q21, .ref q21]) (as := [.int v25]) X hl (cw_TextReader_seen10 l D dA s0 hE y0 v25 h22 z0 _ hF) (List.forall_mem_cons.mpr ⟨ms_k890, List.forall_mem_cons.mpr ⟨ms_k891, List.forall_mem_cons.mpr ⟨ms_k892, List.forall_mem_cons.mpr ⟨ms_k388, List.forall_mem_cons.mpr ⟨ms_k14, List.forall_mem_cons.mpr ⟨ms_k389, fun _ h => absurd h List.not_mem_nil⟩⟩⟩⟩⟩⟩) rfl ⟨by decide +kernel, by decide +kernel, (by decide +kernel : (parseMethodDescriptor "(I)C").map (fun d => d.parameters.length) = some 1)⟩ (hm_recv hK I rfl c9) I ⟨rfl, rfl⟩ ⟨⟨by show _ ≤ fP + 7; omega, by show _ ≤ lP + 231; omega⟩, rm_0 hc, rm_0 hs⟩ rfl (Nat.le_of_ble_eq_true rfl) d236_9 (fun vv h27 z28 H locs hR I9 => ?_)
  obtain ⟨v26, e1, hF⟩ := hR
  subst e1
  clear I
  have I := I9
  clear I9 c9 fs9
  refine W.eq (g2 := F0 m 12 ls [.int v26, .ref q21, .ref q21]) rfl ?_
  refine lv_bipush (v := 47) hx hb d236_12 (by decide) ?_
  refine lv_icmp_ne hx hb d236_14 rfl (fun h9 => ?_) (fun h9 => ?_)
  · have hF := Eq.mp (if_neg h9) hF
    refine lv_iconst (v := 0) hx hb d236_21 (by decide) ?_
    exact b22 ls y1 0 (some q21) (some q21) c23 s24 _ _ h27 z28 _ _ hF hc hs (hl.sub [0, 1] rfl) I
  · have hF := Eq.mp (if_pos h9) hF
    refine lv_iconst (v := 1) hx hb d236_17 (by decide) ?_
    refine lv_goto hx hb d236_18 rfl ?_
    exact b22 ls y1 1 (some q21) (some q21) c23 s24 _ _ h27 z28 _ _ hF hc hs (hl.sub [0, 1] rfl) I

def w_PathReader_readComparison_100 (dA : Nat → ClassId) (y0 : Nat) (K : hm_T → hz_T → Prop) (x1 : Option Nat) (x3 : Int32) (cr sr : Nat) (h : hm_T) (z : hz_T) : Prop := (cg_R h 10 0 y0 (fun v46 => (cg_I h 10 1 y0 (fun v47 => (cg_d v46 (fun a48 => (cg_k cr sr 2 146 (fun c52 s53 => w_S_sub dA a48 x3 v47 (fun v49 h50 z51 => (cg_d x1 (fun a54 => (cg_p h50 13 6 a54 (va_rf v49) (fun h55 => (cg_c h55 10 y0 (w_TextReader_take10 dA y0 39 (fun v56 h57 z58 => (K h57 z58)) h55 z51))))))) h z))))))))
def w_PathReader_readComparison_60 (dA : Nat → ClassId) (y0 : Nat) (K : hm_T → hz_T → Prop) : Nat → Option Nat → Int32 → Nat → Nat → hm_T → hz_T → Prop
  | 0, _, _, _, _, _, _ => False
  | n9 + 1, x1, x3, cr, sr, h, z => (cg_I h 10 1 y0 (fun v42 => (cg_R h 10 0 y0 (fun v43 => (cg_d v43 (fun a44 => (jd_len z a44 (fun v45 => (if v45 ≤ v42 then (w_PathReader_readComparison_100 dA y0 K x1 x3 cr sr h z) else (cg_I h 10 1 y0 (fun v59 => (cg_c h 10 y0 (w_TextReader_seen10 dA y0 v59 (fun v60 h61 z62 => (if v60 = 39 then (w_PathReader_readComparison_100 dA y0 K x1 x3 cr sr h61 z62) else (cg_I h61 10 1 y0 (fun v63 => (cg_p h61 10 1 y0 (.int (v63 + 1)) (fun h64 => ((w_PathReader_readComparison_60 dA y0 K n9) x1 x3 cr sr h64 z62))))))) h z)))))))))))))
def w_PathReader_readComparison (dA : Nat → ClassId) (y0 : Nat) (y1 : Option Nat) (y2 : Option Nat) (rc rs : Nat) (K : hm_T → hz_T → Prop) (h0 : hm_T) (z0 : hz_T) : Prop := (cg_c h0 10 y0 (w_TextReader_failed10 dA y0 (fun v21 h22 z23 => (if v21 = 0 then (cg_I h22 10 1 y0 (fun v24 => (cg_c h22 10 y0 (w_TextReader_seen10 dA y0 v24 (fun v25 h26 z27 => (cg_d y2 (fun a28 => (jd_idx z27 a28 v25 (fun v29 => (if 0 ≤ v29 then (cg_I h26 10 1 y0 (fun v30 => (cg_c h26 10 y0 (w_TextReader_seen10 dA y0 v30 (fun v31 h32 z33 => (cg_d y1 (fun a34 => (cg_ch v31 (cg_p h32 13 5 a34 (.int v31) (fun h35 => (cg_I h35 10 1 y0 (fun v36 => (cg_p h35 10 1 y0 (.int (v36 + 1)) (fun h37 => (cg_c h37 10 y0 (w_TextReader_take10 dA y0 39 (fun v38 h39 z40 => (if v38 = 0 then (K h39 z40) else (cg_I h39 10 1 y0 (fun v41 => (w_PathReader_readComparison_60 dA y0 K mF y1 v41 rc rs h39 z40))))) h37 z33)))))))))))) h26 z27)))) else (K h26 z27))))))) h22 z23)))) else (K h22 z23))) h0 z0))
set_option maxRecDepth 100000 in
set_option maxHeartbeats 8000000 in
theorem cw_PathReader_readComparison (l : Launch) (D : va_G) (dA : Nat → ClassId) (s0 : State) (hW : ms_EW D dA s0) (y0 : Nat) (y1 : Option Nat) (y2 : Option Nat) (rc rs : Nat) (h0 : hm_T) (z0 : hz_T) (K : hm_T → hz_T → Prop) (hg : w_PathReader_readComparison dA y0 y1 y2 rc rs K h0 z0) : ht_C l D s0 yM238 bM238 4 (Option.none : Option Jvm.ClassFile.FieldType) (6) (192) rc rs [.ref y0, va_rf y1, va_rf y2] (fun h z => h = h0 ∧ z = z0) (fun h z vv h1 z1 => vv = none ∧ K h1 z1) := by
  have hE := hW.1
  refine ht_C.mk hE.1 (by decide) (by simp [lg_sl, cat_rf, cat_int, cat_ref, cat_null, cat_long]) [(0, .ref y0), (1, va_rf y1), (2, va_rf y2)] (by simp [lv_args, cat_rf, cat_int, cat_ref, cat_null, cat_long]) ?_
  intro p e s m below meth c ls h z X hin hpre I hl
  have hx := X.1
  have hb := X.2.1
  have hml := X.2.2.1
  have hown : s.vm.findClass "MarkupStore$PathReader" = some m.cls := X.2.2.2.1
  have hts := X.2.2.2.2.2.2.1
  have hK := X.2.2.2.2.2.2.2.2.1
  rw [hpre.1, hpre.2] at I
  clear hpre
  have b100 : ∀ (ls : Array Slot) (x1 : Option Nat) (x3 : Int32) (cr sr cu su : Nat) (h : hm_T) (z : hz_T) (H : Heap) (locs : List Loc), w_PathReader_readComparison_100 dA y0 K x1 x3 cr sr h z → cu + cr ≤ rc → su + sr ≤ rs → lv_has ls 4 [(0, .ref y0), (1, va_rf x1), (3, .int x3)] → hm_I D s0 s h z H locs → W p l e { frames := 6, cells := rc, slots := rs, locals := 192 } s m ([.ref y0, va_rf y1, va_rf y2] : List Value).toArray below meth c H locs cu su (MQ below (ht_Q D s0 (fun vv h1 z1 => vv = none ∧ K h1 z1)) ([.ref y0, va_rf y1, va_rf y2] : List Value).toArray s rc rs (fun q => s0.heap.size ≤ q)) (F0 m 100 ls []) := by
    intro ls x1 x3 cr sr cu su h z H locs hF hc hs hl I
    unfold w_PathReader_readComparison_100 at hF
    refine lv_aload_nR hx hb d238_100 rfl (lv_at hl 1 rfl) ?_
    refine lv_aload_n hx hb d238_101 rfl (lv_at hl 0 rfl) ?_
    obtain ⟨fs9, v46, c9, e9, hF⟩ := hF
    refine va_get (D := D) (ci := 10) (v := va_rf v46) (C := kR10) (T := kT10) (N := 3) hx hb hts ku10 hown hK (hm_one I.1 c9) 0 rfl rfl 0 (by decide) (hts _ ms_k353) (fun x9 h9 => u_same (hts _ ms_k354) x9 h9) e9 d238_102 ?_
    clear e9 c9 fs9
    refine lv_iload_n hx hb d238_105 rfl (lv_at hl 2 rfl) ?_
    refine lv_aload_n hx hb d238_106 rfl (lv_at hl 0 rfl) ?_
    obtain ⟨fs9, v47, c9, e9, hF⟩ := hF
    refine va_get (D := D) (ci := 10) (v := .int v47) (C := kR10) (T := kT10) (N := 3) hx hb hts ku10 hown hK (hm_one I.1 c9) 0 rfl rfl 1 (by decide) (hts _ ms_k358) (fun x9 h9 => u_same (hts _ ms_k359) x9 h9) e9 d238_107 ?_
    clear e9 c9 fs9
    obtain ⟨a48, e9, hF⟩ := hF
    refine W.eq (g2 := F0 m 110 ls [.int v47, .int x3, .ref a48, va_rf x1]) (by rw [e9]; rfl) ?_
    clear e9
    obtain ⟨c52, s53, ec, es, hF⟩ := hF
    obtain ⟨u9, xs9, z9⟩ := w_S_sub_z hF
    refine ht_V (C := "java/lang/String") (rest := [va_rf x1]) (as := [.int x3, .int v47]) X hl (cw_S_sub l D dA s0 hE a48 x3 v47 h z _ hF) (List.forall_mem_cons.mpr ⟨ms_k1075, List.forall_mem_cons.mpr ⟨ms_k551, List.forall_mem_cons.mpr ⟨ms_k552, List.forall_mem_cons.mpr ⟨ms_k4, List.forall_mem_cons.mpr ⟨ms_k553, fun _ h => absurd h List.not_mem_nil⟩⟩⟩⟩⟩) ⟨rfl, by decide +kernel, by decide +kernel, (by decide +kernel : (parseMethodDescriptor "(II)Ljava/lang/String;").map (fun d => d.parameters.length) = some 2)⟩ (hz_recv I z9) I ⟨rfl, rfl⟩ ⟨⟨Nat.le_of_ble_eq_true rfl, Nat.le_of_ble_eq_true rfl⟩, (rm_u hc ec).1, (rm_u hs es).1⟩ rfl (by simp [cat_rf, cat_int, cat_ref, cat_null, cat_long]) d238_110 (fun vv h50 z51 H locs hR I9 => ?_)
    obtain ⟨v49, e1, hF⟩ := hR
    subst e1
    clear I
    have I := I9
    clear I9 z9
    have hc := (rm_u hc ec).2
    have hs := (rm_u hs es).2
    clear ec es
    refine W.eq (g2 := F0 m 113 ls [va_rf v49, va_rf x1]) rfl ?_
    obtain ⟨a54, e9, hF⟩ := hF
    refine W.eq (g2 := F0 m 113 ls [va_rf v49, .ref a54]) (by rw [e9]; rfl) ?_
    clear e9
    obtain ⟨fs9, c9, k9, hF⟩ := hF
    refine hm_put (ci := 13) (v := va_rf v49) (ty := (.object "java/lang/String")) (C := kR13) (T := kT13) (N := 8) X I ku13 kt13 kp13 kn13 c9 rfl 6 (by decide) ms_k1040 (fun _ h => h) rfl (by decide +kernel) (by cases v49 <;> rfl) (by cases v49 <;> rfl) k9 d238_113 (fun h55 H locs e9 f9 I => ?_)
    rw [← hm_eqU e9 f9] at hF
    clear e9 f9 c9 k9
    refine lv_aload_n hx hb d238_116 rfl (lv_at hl 0 rfl) ?_
    refine lv_bipush (v := 39) hx hb d238_117 (by decide) ?_
    obtain ⟨fs9, c9, hF⟩ := hF
    refine ht_U (C := "MarkupStore$PathReader") (x := ⟨"MarkupStore$PathReader", "take", "(C)Z"⟩) (owner := "MarkupStore$TextReader") (rest := []) (as := [.int 39]) X hl (cw_TextReader_take10 l D dA s0 hE y0 39 h55 z51 _ hF) (List.forall_mem_cons.mpr ⟨ms_k1072, List.forall_mem_cons.mpr ⟨ms_k1073, List.forall_mem_cons.mpr ⟨ms_k1074, List.forall_mem_cons.mpr ⟨ms_k627, List.forall_mem_cons.mpr ⟨ms_k14, List.forall_mem_cons.mpr ⟨ms_k628, fun _ h => absurd h List.not_mem_nil⟩⟩⟩⟩⟩⟩) rfl ⟨by decide +kernel, by decide +kernel, (by decide +kernel : (parseMethodDescriptor "(C)Z").map (fun d => d.parameters.length) = some 1)⟩ (hm_recv hK I rfl c9) I ⟨rfl, rfl⟩ ⟨⟨Nat.le_of_ble_eq_true rfl, Nat.le_of_ble_eq_true rfl⟩, rm_0 hc, rm_0 hs⟩ rfl (Nat.le_of_ble_eq_true rfl) d238_119 (fun vv h57 z58 H locs hR I9 => ?_)
    obtain ⟨v56, e1, hF⟩ := hR
    subst e1
    clear I
    have I := I9
    clear I9 c9 fs9
    refine W.eq (g2 := F0 m 122 ls [.int v56]) rfl ?_
    refine lv_pop hx hb d238_122 rfl ?_
    exact ht_vret X d238_123 I (rm_r hc) (rm_r hs) ⟨rfl, hF⟩
  have b60 : ∀ n9 : Nat, ∀ (ls : Array Slot) (x1 : Option Nat) (x3 : Int32) (cr sr cu su : Nat) (h : hm_T) (z : hz_T) (H : Heap) (locs : List Loc), w_PathReader_readComparison_60 dA y0 K n9 x1 x3 cr sr h z → cu + cr ≤ rc → su + sr ≤ rs → lv_has ls 4 [(0, .ref y0), (1, va_rf x1), (3, .int x3)] → hm_I D s0 s h z H locs → W p l e { frames := 6, cells := rc, slots := rs, locals := 192 } s m ([.ref y0, va_rf y1, va_rf y2] : List Value).toArray below meth c H locs cu su (MQ below (ht_Q D s0 (fun vv h1 z1 => vv = none ∧ K h1 z1)) ([.ref y0, va_rf y1, va_rf y2] : List Value).toArray s rc rs (fun q => s0.heap.size ≤ q)) (F0 m 60 ls []) := by
    intro n9
    induction n9 with
    | zero => intro ls x1 x3 cr sr cu su h z H locs hF; cases hF
    | succ n9 hk60 =>
    intro ls x1 x3 cr sr cu su h z H locs hF hc hs hl I
    unfold w_PathReader_readComparison_60 at hF
    refine lv_aload_n hx hb d238_60 rfl (lv_at hl 0 rfl) ?_
    obtain ⟨fs9, v42, c9, e9, hF⟩ := hF
    refine va_get (D := D) (ci := 10) (v := .int v42) (C := kR10) (T := kT10) (N := 3) hx hb hts ku10 hown hK (hm_one I.1 c9) 0 rfl rfl 1 (by decide) (hts _ ms_k358) (fun x9 h9 => u_same (hts _ ms_k359) x9 h9) e9 d238_61 ?_
    clear e9 c9 fs9
    refine lv_aload_n hx hb d238_64 rfl (lv_at hl 0 rfl) ?_
    obtain ⟨fs9, v43, c9, e9, hF⟩ := hF
    refine va_get (D := D) (ci := 10) (v := va_rf v43) (C := kR10) (T := kT10) (N := 3) hx hb hts ku10 hown hK (hm_one I.1 c9) 0 rfl rfl 0 (by decide) (hts _ ms_k353) (fun x9 h9 => u_same (hts _ ms_k354) x9 h9) e9 d238_65 ?_
    clear e9 c9 fs9
    obtain ⟨a44, e9, hF⟩ := hF
    refine W.eq (g2 := F0 m 68 ls [.ref a44, .int v42]) (by rw [e9]; rfl) ?_
    clear e9
    obtain ⟨u9, xs9, z9, hF⟩ := hF
    refine ht_V (C := "java/lang/String") (rest := [.int v42]) (as := []) X hl (c_Slen l D dA s0 hE a44 u9 xs9) (List.forall_mem_cons.mpr ⟨ms_k1002, List.forall_mem_cons.mpr ⟨ms_k391, List.forall_mem_cons.mpr ⟨ms_k392, List.forall_mem_cons.mpr ⟨ms_k4, List.forall_mem_cons.mpr ⟨ms_k393, fun _ h => absurd h List.not_mem_nil⟩⟩⟩⟩⟩) ⟨rfl, by decide +kernel, by decide +kernel, (by decide +kernel : (parseMethodDescriptor "()I").map (fun d => d.parameters.length) = some 0)⟩ (hz_recv I z9) I z9 ⟨⟨Nat.le_of_ble_eq_true rfl, Nat.le_of_ble_eq_true rfl⟩, rm_0 hc, rm_0 hs⟩ rfl (Nat.le_of_ble_eq_true rfl) d238_68 (fun vv h9 z7 H locs hR I9 => ?_)
    obtain ⟨e1, e2, e3⟩ := hR
    rw [e2, e3] at I9
    subst e1
    clear I
    have I := I9
    clear I9 e2 e3 h9 z7
    refine W.eq (g2 := F0 m 71 ls [.int (nI xs9.length), .int v42]) rfl ?_
    generalize (nI xs9.length) = v45 at hF ⊢
    refine lv_icmp_ge hx hb d238_71 rfl (fun h9 => ?_) (fun h9 => ?_)
    · have hF := Eq.mp (if_pos h9) hF
      exact b100 ls x1 x3 cr sr _ _ h z _ _ hF hc hs (hl.sub [0, 1, 2] rfl) I
    · have hF := Eq.mp (if_neg h9) hF
      refine lv_aload_n hx hb d238_74 rfl (lv_at hl 0 rfl) ?_
      refine lv_aload_n hx hb d238_75 rfl (lv_at hl 0 rfl) ?_
      obtain ⟨fs9, v59, c9, e9, hF⟩ := hF
      refine va_get (D := D) (ci := 10) (v := .int v59) (C := kR10) (T := kT10) (N := 3) hx hb hts ku10 hown hK (hm_one I.1 c9) 0 rfl rfl 1 (by decide) (hts _ ms_k358) (fun x9 h9 => u_same (hts _ ms_k359) x9 h9) e9 d238_76 ?_
      clear e9 c9 fs9
      obtain ⟨fs9, c9, hF⟩ := hF
      refine ht_U (C := "MarkupStore$PathReader") (x := ⟨"MarkupStore$PathReader", "seen", "(I)C"⟩) (owner := "MarkupStore$TextReader") (rest := []) (as := [.int v59]) X hl (cw_TextReader_seen10 l D dA s0 hE y0 v59 h z _ hF) (List.forall_mem_cons.mpr ⟨ms_k890, List.forall_mem_cons.mpr ⟨ms_k891, List.forall_mem_cons.mpr ⟨ms_k892, List.forall_mem_cons.mpr ⟨ms_k388, List.forall_mem_cons.mpr ⟨ms_k14, List.forall_mem_cons.mpr ⟨ms_k389, fun _ h => absurd h List.not_mem_nil⟩⟩⟩⟩⟩⟩) rfl ⟨by decide +kernel, by decide +kernel, (by decide +kernel : (parseMethodDescriptor "(I)C").map (fun d => d.parameters.length) = some 1)⟩ (hm_recv hK I rfl c9) I ⟨rfl, rfl⟩ ⟨⟨Nat.le_of_ble_eq_true rfl, Nat.le_of_ble_eq_true rfl⟩, rm_0 hc, rm_0 hs⟩ rfl (Nat.le_of_ble_eq_true rfl) d238_79 (fun vv h61 z62 H locs hR I9 => ?_)
      obtain ⟨v60, e1, hF⟩ := hR
      subst e1
      clear I
      have I := I9
      clear I9 c9 fs9
      refine W.eq (g2 := F0 m 82 ls [.int v60]) rfl ?_
      refine lv_bipush (v := 39) hx hb d238_82 (by decide) ?_
      refine lv_icmp_eq hx hb d238_84 rfl (fun h9 => ?_) (fun h9 => ?_)
      · have hF := Eq.mp (if_pos h9) hF
        exact b100 ls x1 x3 cr sr _ _ h61 z62 _ _ hF hc hs (hl.sub [0, 1, 2] rfl) I
      · have hF := Eq.mp (if_neg h9) hF
        refine lv_aload_n hx hb d238_87 rfl (lv_at hl 0 rfl) ?_
        refine lv_dup hx hb d238_88 rfl ?_
        obtain ⟨fs9, v63, c9, e9, hF⟩ := hF
        refine va_get (D := D) (ci := 10) (v := .int v63) (C := kR10) (T := kT10) (N := 3) hx hb hts ku10 hown hK (hm_one I.1 c9) 0 rfl rfl 1 (by decide) (hts _ ms_k358) (fun x9 h9 => u_same (hts _ ms_k359) x9 h9) e9 d238_89 ?_
        clear e9 c9 fs9
        refine lv_iconst (v := 1) hx hb d238_92 (by decide) ?_
        refine lv_iadd hx hb d238_93 ?_
        obtain ⟨fs9, c9, k9, hF⟩ := hF
        refine hm_put (ci := 10) (v := .int (v63 + 1)) (ty := .int) (C := kR10) (T := kT10) (N := 3) X I ku10 kt10 kp10 kn10 c9 rfl 1 (by decide) ms_k358 (fun x9 h9 => u_same (hts _ ms_k359) x9 h9) rfl (by decide +kernel) rfl rfl k9 d238_94 (fun h64 H locs e9 f9 I => ?_)
        rw [← hm_eqU e9 f9] at hF
        clear e9 f9 c9 k9
        refine lv_goto hx hb d238_97 rfl ?_
        exact hk60 ls x1 x3 cr sr _ _ h64 z62 _ _ hF hc hs (hl.sub [0, 1, 2] rfl) I
  have hF := hg
  unfold w_PathReader_readComparison at hF
  clear h z
  have hc : 0 + rc ≤ rc := by omega
  have hs : 0 + rs ≤ rs := by omega
  refine lv_aload_n hx hb d238_0 rfl (lv_at hl 0 rfl) ?_
  obtain ⟨fs9, c9, hF⟩ := hF
  refine ht_U (C := "MarkupStore$PathReader") (x := ⟨"MarkupStore$PathReader", "failed", "()Z"⟩) (owner := "MarkupStore$TextReader") (rest := []) (as := []) X hl (cw_TextReader_failed10 l D dA s0 hE y0 h0 z0 _ hF) (List.forall_mem_cons.mpr ⟨ms_k1003, List.forall_mem_cons.mpr ⟨ms_k1004, List.forall_mem_cons.mpr ⟨ms_k1005, List.forall_mem_cons.mpr ⟨ms_k588, List.forall_mem_cons.mpr ⟨ms_k14, List.forall_mem_cons.mpr ⟨ms_k589, fun _ h => absurd h List.not_mem_nil⟩⟩⟩⟩⟩⟩) rfl ⟨by decide +kernel, by decide +kernel, (by decide +kernel : (parseMethodDescriptor "()Z").map (fun d => d.parameters.length) = some 0)⟩ (hm_recv hK I rfl c9) I ⟨rfl, rfl⟩ ⟨⟨Nat.le_of_ble_eq_true rfl, Nat.le_of_ble_eq_true rfl⟩, rm_0 hc, rm_0 hs⟩ rfl (Nat.le_of_ble_eq_true rfl) d238_1 (fun vv h22 z23 H locs hR I9 => ?_)
  obtain ⟨v21, e1, hF⟩ := hR
  subst e1
  clear I
  have I := I9
  clear I9 c9 fs9
  refine W.eq (g2 := F0 m 4 ls [.int v21]) rfl ?_
  refine lv_if_ne hx hb d238_4 rfl (fun h9 => ?_) (fun h9 => ?_)
  · have hF := Eq.mp (if_neg h9) hF
    exact ht_vret X d238_22 I (rm_r hc) (rm_r hs) ⟨rfl, hF⟩
  · have hF := Eq.mp (if_pos h9) hF
    refine lv_aload_nR hx hb d238_7 rfl (lv_at hl 2 rfl) ?_
    refine lv_aload_n hx hb d238_8 rfl (lv_at hl 0 rfl) ?_
    refine lv_aload_n hx hb d238_9 rfl (lv_at hl 0 rfl) ?_
    obtain ⟨fs9, v24, c9, e9, hF⟩ := hF
    refine va_get (D := D) (ci := 10) (v := .int v24) (C := kR10) (T := kT10) (N := 3) hx hb hts ku10 hown hK (hm_one I.1 c9) 0 rfl rfl 1 (by decide) (hts _ ms_k358) (fun x9 h9 => u_same (hts _ ms_k359) x9 h9) e9 d238_10 ?_
    clear e9 c9 fs9
    obtain ⟨fs9, c9, hF⟩ := hF
    refine ht_U (C := "MarkupStore$PathReader") (x := ⟨"MarkupStore$PathReader", "seen", "(I)C"⟩) (owner := "MarkupStore$TextReader") (rest := [va_rf y2]) (as := [.int v24]) X hl (cw_TextReader_seen10 l D dA s0 hE y0 v24 h22 z23 _ hF) (List.forall_mem_cons.mpr ⟨ms_k890, List.forall_mem_cons.mpr ⟨ms_k891, List.forall_mem_cons.mpr ⟨ms_k892, List.forall_mem_cons.mpr ⟨ms_k388, List.forall_mem_cons.mpr ⟨ms_k14, List.forall_mem_cons.mpr ⟨ms_k389, fun _ h => absurd h List.not_mem_nil⟩⟩⟩⟩⟩⟩) rfl ⟨by decide +kernel, by decide +kernel, (by decide +kernel : (parseMethodDescriptor "(I)C").map (fun d => d.parameters.length) = some 1)⟩ (hm_recv hK I rfl c9) I ⟨rfl, rfl⟩ ⟨⟨Nat.le_of_ble_eq_true rfl, Nat.le_of_ble_eq_true rfl⟩, rm_0 hc, rm_0 hs⟩ rfl (by simp [cat_rf, cat_int, cat_ref, cat_null, cat_long]) d238_13 (fun vv h26 z27 H locs hR I9 => ?_)
    obtain ⟨v25, e1, hF⟩ := hR
    subst e1
    clear I
    have I := I9
    clear I9 c9 fs9
    refine W.eq (g2 := F0 m 16 ls [.int v25, va_rf y2]) rfl ?_
    obtain ⟨a28, e9, hF⟩ := hF
    refine W.eq (g2 := F0 m 16 ls [.int v25, .ref a28]) (by rw [e9]; rfl) ?_
    clear e9
    obtain ⟨u9, xs9, j9, z9, e8, p1, p2, p3, hF⟩ := hF
    refine ms_top (y := nI j9) e8 ?_
    refine ht_V (C := "java/lang/String") (rest := []) (as := [.int (nI j9)]) X hl (c_Sidx l D dA s0 hE a28 u9 xs9 j9 p1 p2 p3) (List.forall_mem_cons.mpr ⟨ms_k950, List.forall_mem_cons.mpr ⟨ms_k951, List.forall_mem_cons.mpr ⟨ms_k952, List.forall_mem_cons.mpr ⟨ms_k4, List.forall_mem_cons.mpr ⟨ms_k953, fun _ h => absurd h List.not_mem_nil⟩⟩⟩⟩⟩) ⟨rfl, by decide +kernel, by decide +kernel, (by decide +kernel : (parseMethodDescriptor "(I)I").map (fun d => d.parameters.length) = some 1)⟩ (hz_recv I z9) I z9 ⟨⟨Nat.le_of_ble_eq_true rfl, Nat.le_of_ble_eq_true rfl⟩, rm_0 hc, rm_0 hs⟩ rfl (Nat.le_of_ble_eq_true rfl) d238_16 (fun vv h9 z7 H locs hR I9 => ?_)
    obtain ⟨e1, e2, e3⟩ := hR
    rw [e2, e3] at I9
    subst e1
    clear I
    have I := I9
    clear I9 e2 e3 h9 z7
    refine W.eq (g2 := F0 m 19 ls [.int (if j9 ∈ xs9 then nI (xs9.idxOf j9) else -1)]) rfl ?_
    generalize (if j9 ∈ xs9 then nI (xs9.idxOf j9) else -1) = v29 at hF ⊢
    refine lv_if_ge hx hb d238_19 rfl (fun h9 => ?_) (fun h9 => ?_)
    · have hF := Eq.mp (if_pos h9) hF
      refine lv_aload_nR hx hb d238_23 rfl (lv_at hl 1 rfl) ?_
      refine lv_aload_n hx hb d238_24 rfl (lv_at hl 0 rfl) ?_
      refine lv_aload_n hx hb d238_25 rfl (lv_at hl 0 rfl) ?_
      obtain ⟨fs9, v30, c9, e9, hF⟩ := hF
      refine va_get (D := D) (ci := 10) (v := .int v30) (C := kR10) (T := kT10) (N := 3) hx hb hts ku10 hown hK (hm_one I.1 c9) 0 rfl rfl 1 (by decide) (hts _ ms_k358) (fun x9 h9 => u_same (hts _ ms_k359) x9 h9) e9 d238_26 ?_
      clear e9 c9 fs9
      obtain ⟨fs9, c9, hF⟩ := hF
      refine ht_U (C := "MarkupStore$PathReader") (x := ⟨"MarkupStore$PathReader", "seen", "(I)C"⟩) (owner := "MarkupStore$TextReader") (rest := [va_rf y1]) (as := [.int v30]) X hl (cw_TextReader_seen10 l D dA s0 hE y0 v30 h26 z27 _ hF) (List.forall_mem_cons.mpr ⟨ms_k890, List.forall_mem_cons.mpr ⟨ms_k891, List.forall_mem_cons.mpr ⟨ms_k892, List.forall_mem_cons.mpr ⟨ms_k388, List.forall_mem_cons.mpr ⟨ms_k14, List.forall_mem_cons.mpr ⟨ms_k389, fun _ h => absurd h List.not_mem_nil⟩⟩⟩⟩⟩⟩) rfl ⟨by decide +kernel, by decide +kernel, (by decide +kernel : (parseMethodDescriptor "(I)C").map (fun d => d.parameters.length) = some 1)⟩ (hm_recv hK I rfl c9) I ⟨rfl, rfl⟩ ⟨⟨Nat.le_of_ble_eq_true rfl, Nat.le_of_ble_eq_true rfl⟩, rm_0 hc, rm_0 hs⟩ rfl (by simp [cat_rf, cat_int, cat_ref, cat_null, cat_long]) d238_29 (fun vv h32 z33 H locs hR I9 => ?_)
      obtain ⟨v31, e1, hF⟩ := hR
      subst e1
      clear I
      have I := I9
      clear I9 c9 fs9
      refine W.eq (g2 := F0 m 32 ls [.int v31, va_rf y1]) rfl ?_
      obtain ⟨a34, e9, hF⟩ := hF
      refine W.eq (g2 := F0 m 32 ls [.int v31, .ref a34]) (by rw [e9]; rfl) ?_
      clear e9
      obtain ⟨hz9, hF⟩ := hF
      obtain ⟨fs9, c9, k9, hF⟩ := hF
      refine hm_put (ci := 13) (v := .int v31) (ty := .char) (C := kR13) (T := kT13) (N := 8) X I ku13 kt13 kp13 kn13 c9 rfl 5 (by decide) ms_k1037 (fun _ h => h) rfl (by decide +kernel) (cg_chn hz9).1 (cg_chn hz9).2 k9 d238_32 (fun h35 H locs e9 f9 I => ?_)
      rw [← hm_eqU e9 f9] at hF
      clear e9 f9 c9 k9
      refine lv_aload_n hx hb d238_35 rfl (lv_at hl 0 rfl) ?_
      refine lv_dup hx hb d238_36 rfl ?_
      obtain ⟨fs9, v36, c9, e9, hF⟩ := hF
      refine va_get (D := D) (ci := 10) (v := .int v36) (C := kR10) (T := kT10) (N := 3) hx hb hts ku10 hown hK (hm_one I.1 c9) 0 rfl rfl 1 (by decide) (hts _ ms_k358) (fun x9 h9 => u_same (hts _ ms_k359) x9 h9) e9 d238_37 ?_
      clear e9 c9 fs9
      refine lv_iconst (v := 1) hx hb d238_40 (by decide) ?_
      refine lv_iadd hx hb d238_41 ?_
      obtain ⟨fs9, c9, k9, hF⟩ := hF
      refine hm_put (ci := 10) (v := .int (v36 + 1)) (ty := .int) (C := kR10) (T := kT10) (N := 3) X I ku10 kt10 kp10 kn10 c9 rfl 1 (by decide) ms_k358 (fun x9 h9 => u_same (hts _ ms_k359) x9 h9) rfl (by decide +kernel) rfl rfl k9 d238_42 (fun h37 H locs e9 f9 I => ?_)
      rw [← hm_eqU e9 f9] at hF
      clear e9 f9 c9 k9
      refine lv_aload_n hx hb d238_45 rfl (lv_at hl 0 rfl) ?_
      refine lv_bipush (v := 39) hx hb d238_46 (by decide) ?_
      obtain ⟨fs9, c9, hF⟩ := hF
      refine ht_U (C := "MarkupStore$PathReader") (x := ⟨"MarkupStore$PathReader", "take", "(C)Z"⟩) (owner := "MarkupStore$TextReader") (rest := []) (as := [.int 39]) X hl (cw_TextReader_take10 l D dA s0 hE y0 39 h37 z33 _ hF) (List.forall_mem_cons.mpr ⟨ms_k1072, List.forall_mem_cons.mpr ⟨ms_k1073, List.forall_mem_cons.mpr ⟨ms_k1074, List.forall_mem_cons.mpr ⟨ms_k627, List.forall_mem_cons.mpr ⟨ms_k14, List.forall_mem_cons.mpr ⟨ms_k628, fun _ h => absurd h List.not_mem_nil⟩⟩⟩⟩⟩⟩) rfl ⟨by decide +kernel, by decide +kernel, (by decide +kernel : (parseMethodDescriptor "(C)Z").map (fun d => d.parameters.length) = some 1)⟩ (hm_recv hK I rfl c9) I ⟨rfl, rfl⟩ ⟨⟨Nat.le_of_ble_eq_true rfl, Nat.le_of_ble_eq_true rfl⟩, rm_0 hc, rm_0 hs⟩ rfl (Nat.le_of_ble_eq_true rfl) d238_48 (fun vv h39 z40 H locs hR I9 => ?_)
      obtain ⟨v38, e1, hF⟩ := hR
      subst e1
      clear I
      have I := I9
      clear I9 c9 fs9
      refine W.eq (g2 := F0 m 51 ls [.int v38]) rfl ?_
      refine lv_if_ne hx hb d238_51 rfl (fun h9 => ?_) (fun h9 => ?_)
      · have hF := Eq.mp (if_neg h9) hF
        refine lv_aload_n hx hb d238_55 rfl (lv_at hl 0 rfl) ?_
        obtain ⟨fs9, v41, c9, e9, hF⟩ := hF
        refine va_get (D := D) (ci := 10) (v := .int v41) (C := kR10) (T := kT10) (N := 3) hx hb hts ku10 hown hK (hm_one I.1 c9) 0 rfl rfl 1 (by decide) (hts _ ms_k358) (fun x9 h9 => u_same (hts _ ms_k359) x9 h9) e9 d238_56 ?_
        clear e9 c9 fs9
        refine lv_istore_n (i := 3) hx hb d238_59 rfl hl (by decide) (show _ = [(3, .int v41), (0, .ref y0), (1, va_rf y1), (2, va_rf y2)] by simp [cat_rf, cat_int, cat_ref, cat_null, cat_long]) (fun ls hl => ?_)
        have hl : lv_has ls 4 [(3, .int v41), (0, .ref y0), (1, va_rf y1), (2, va_rf y2)] := hl
        exact b60 mF ls y1 v41 rc rs _ _ h39 z40 _ _ hF hc hs (hl.sub [1, 2, 0] rfl) I
      · have hF := Eq.mp (if_pos h9) hF
        exact ht_vret X d238_54 I (rm_r hc) (rm_r hs) ⟨rfl, hF⟩
    · have hF := Eq.mp (if_neg h9) hF
      exact ht_vret X d238_22 I (rm_r hc) (rm_r hs) ⟨rfl, hF⟩
