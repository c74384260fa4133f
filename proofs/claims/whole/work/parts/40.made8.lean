
def w_F_PathReader_readPath (dA : Nat → ClassId) : Nat → Nat → Int32 → Nat → Nat → (Option Nat → hm_T → hz_T → Prop) → hm_T → hz_T → Prop
  | 0, _, _, _, _, _, _, _ => False
  | n + 1, y0_, y1_, c, s, K, h, z => w_PathReader_readPath dA (w_PathReader_readStep dA (w_PathReader_readPredicate dA (w_F_PathReader_readPath dA n))) y0_ y1_ c s K h z
theorem cw_F_PathReader_readPath (l : Launch) (D : va_G) (dA : Nat → ClassId) (s0 : State) (hW : ms_EW D dA s0) : ∀ n : Nat, ∀ (a0_ : Nat) (a1_ : Int32) (c1 s1 : Nat) (h0 : hm_T) (z0 : hz_T) (K : Option Nat → hm_T → hz_T → Prop), w_F_PathReader_readPath dA n a0_ a1_ c1 s1 K h0 z0 → ht_C l D s0 yM236 bM236 4 (Option.some (Jvm.ClassFile.FieldType.object "MarkupStore$Path")) (21 * n) (677 * n) c1 s1 [.ref a0_, .int a1_] (fun h z => h = h0 ∧ z = z0) (fun h z vv h1 z1 => ∃ v, vv = some (va_rf v) ∧ K v h1 z1) := by
  intro n
  induction n with
  | zero => intro a0_ a1_ c1 s1 h0 z0 K hg; exact absurd hg (by simp [w_F_PathReader_readPath])
  | succ n ih =>
    intro a0_ a1_ c1 s1 h0 z0 K hg
    unfold w_F_PathReader_readPath at hg
    have q := cw_PathReader_readPath l D dA s0 hW (w_PathReader_readStep dA (w_PathReader_readPredicate dA (w_F_PathReader_readPath dA n))) (((21 * n) + 7) + 7) (((677 * n) + 215) + 231) (fun b0_ b1_ c1 s1 h0 z0 K hg => cw_PathReader_readStep l D dA s0 hW (w_PathReader_readPredicate dA (w_F_PathReader_readPath dA n)) ((21 * n) + 7) ((677 * n) + 215) (fun b0_ b1_ c1 s1 h0 z0 K hg => cw_PathReader_readPredicate l D dA s0 hW (w_F_PathReader_readPath dA n) (21 * n) (677 * n) ih b0_ b1_ c1 s1 h0 z0 K hg) b0_ b1_ c1 s1 h0 z0 K hg) a0_ a1_ c1 s1 h0 z0 K hg
    rw [show 21 * (n + 1) = (((21 * n) + 7) + 7) + 7 by omega, show 677 * (n + 1) = (((677 * n) + 215) + 231) + 231 by omega]
    exact q
def w_T_PathReader_readPath (dA : Nat → ClassId) (y0 : Nat) (y1 : Int32) (rc rs : Nat) (K : Option Nat → hm_T → hz_T → Prop) (h0 : hm_T) (z0 : hz_T) : Prop := w_F_PathReader_readPath dA 8 y0 y1 rc rs K h0 z0
theorem cw_T_PathReader_readPath (l : Launch) (D : va_G) (dA : Nat → ClassId) (s0 : State) (hW : ms_EW D dA s0) (y0 : Nat) (y1 : Int32) (rc rs : Nat) (h0 : hm_T) (z0 : hz_T) (K : Option Nat → hm_T → hz_T → Prop) (hg : w_T_PathReader_readPath dA y0 y1 rc rs K h0 z0) : ht_C l D s0 yM236 bM236 4 (Option.some (Jvm.ClassFile.FieldType.object "MarkupStore$Path")) 168 5416 rc rs [.ref y0, .int y1] (fun h z => h = h0 ∧ z = z0) (fun h z vv h1 z1 => ∃ v, vv = some (va_rf v) ∧ K v h1 z1) := (cw_F_PathReader_readPath l D dA s0 hW 8) y0 y1 rc rs h0 z0 K hg
def w_T_PathReader_readPredicate (dA : Nat → ClassId) (y0 : Nat) (y1 : Int32) (rc rs : Nat) (K : Option Nat → hm_T → hz_T → Prop) (h0 : hm_T) (z0 : hz_T) : Prop := w_PathReader_readPredicate dA (w_F_PathReader_readPath dA 8) y0 y1 rc rs K h0 z0
theorem cw_T_PathReader_readPredicate (l : Launch) (D : va_G) (dA : Nat → ClassId) (s0 : State) (hW : ms_EW D dA s0) (y0 : Nat) (y1 : Int32) (rc rs : Nat) (h0 : hm_T) (z0 : hz_T) (K : Option Nat → hm_T → hz_T → Prop) (hg : w_T_PathReader_readPredicate dA y0 y1 rc rs K h0 z0) : ht_C l D s0 yM253 bM253 4 (Option.some (Jvm.ClassFile.FieldType.object "MarkupStore$Predicate")) 175 5631 rc rs [.ref y0, .int y1] (fun h z => h = h0 ∧ z = z0) (fun h z vv h1 z1 => ∃ v, vv = some (va_rf v) ∧ K v h1 z1) := (fun b0_ b1_ c1 s1 h0 z0 K hg => cw_PathReader_readPredicate l D dA s0 hW (w_F_PathReader_readPath dA 8) (21 * 8) (677 * 8) (cw_F_PathReader_readPath l D dA s0 hW 8) b0_ b1_ c1 s1 h0 z0 K hg) y0 y1 rc rs h0 z0 K hg
def w_T_PathReader_readStep (dA : Nat → ClassId) (y0 : Nat) (y1 : Int32) (rc rs : Nat) (K : Option Nat → hm_T → hz_T → Prop) (h0 : hm_T) (z0 : hz_T) : Prop := w_PathReader_readStep dA (w_PathReader_readPredicate dA (w_F_PathReader_readPath dA 8)) y0 y1 rc rs K h0 z0
theorem cw_T_PathReader_readStep (l : Launch) (D : va_G) (dA : Nat → ClassId) (s0 : State) (hW : ms_EW D dA s0) (y0 : Nat) (y1 : Int32) (rc rs : Nat) (h0 : hm_T) (z0 : hz_T) (K : Option Nat → hm_T → hz_T → Prop) (hg : w_T_PathReader_readStep dA y0 y1 rc rs K h0 z0) : ht_C l D s0 yM237 bM237 4 (Option.some (Jvm.ClassFile.FieldType.object "MarkupStore$Step")) 182 5862 rc rs [.ref y0, .int y1] (fun h z => h = h0 ∧ z = z0) (fun h z vv h1 z1 => ∃ v, vv = some (va_rf v) ∧ K v h1 z1) := (fun b0_ b1_ c1 s1 h0 z0 K hg => cw_PathReader_readStep l D dA s0 hW (w_PathReader_readPredicate dA (w_F_PathReader_readPath dA 8)) ((21 * 8) + 7) ((677 * 8) + 215) (fun b0_ b1_ c1 s1 h0 z0 K hg => cw_PathReader_readPredicate l D dA s0 hW (w_F_PathReader_readPath dA 8) (21 * 8) (677 * 8) (cw_F_PathReader_readPath l D dA s0 hW 8) b0_ b1_ c1 s1 h0 z0 K hg) b0_ b1_ c1 s1 h0 z0 K hg) y0 y1 rc rs h0 z0 K hg

def w_MarkupReader_readValue_131 (dA : Nat → ClassId) (y0 : Nat) (K : Option Nat → hm_T → hz_T → Prop) (w0 : Int32) (cr sr : Nat) (h : hm_T) (z : hz_T) : Prop := (cg_z w0 (cg_p h 6 5 y0 (.int w0) (fun h32 => (cg_R h32 6 4 y0 (fun v33 => (cg_d v33 (fun a34 => (cg_c h32 3 a34 (cg_k cr sr 2 146 (fun c38 s39 => w_SB_str dA a34 (fun v35 h36 z37 => (K v35 h36 z37)) h32 z))))))))))
def w_MarkupReader_readValue_126 (dA : Nat → ClassId) (y0 : Nat) (K : Option Nat → hm_T → hz_T → Prop) (cr sr : Nat) (h : hm_T) (z : hz_T) : Prop := (w_MarkupReader_readValue_131 dA y0 K 1 cr sr h z)
def w_MarkupReader_readValue_106 (dA : Nat → ClassId) (y0 : Nat) (K : Option Nat → hm_T → hz_T → Prop) (cr sr : Nat) (h : hm_T) (z : hz_T) : Prop := (cg_I h 6 5 y0 (fun v31 => (if v31 = 0 then (cg_R h 6 4 y0 (fun v40 => (cg_d v40 (fun a41 => (cg_c h 3 a41 (cg_rm cr sr (fun c45 s46 c47 s48 => w_SB_length dA a41 c45 s46 (fun v42 h43 z44 => (if v42 ≤ 20 then (w_MarkupReader_readValue_131 dA y0 K 0 c47 s48 h43 z44) else (w_MarkupReader_readValue_126 dA y0 K c47 s48 h43 z44))) h z))))))) else (w_MarkupReader_readValue_126 dA y0 K cr sr h z))))
def w_MarkupReader_readValue_76 (dA : Nat → ClassId) (y0 : Nat) (K : Option Nat → hm_T → hz_T → Prop) (k10 : Int32 → Int32 → Nat → Nat → hm_T → hz_T → Prop) (x1 : Int32) (x2 : Int32) (w0 : Int32) (w1 : Option Nat) (cr sr : Nat) (h : hm_T) (z : hz_T) : Prop := (cg_d w1 (fun a58 => (cg_c h 3 a58 (cg_k cr sr 1 142 (fun c62 s63 => w_SB_app dA a58 w0 (fun v59 h60 z61 => (cg_c h60 6 y0 (w_TextReader_failed6 dA y0 (fun v64 h65 z66 => (if v64 = 0 then (cg_I h65 6 1 y0 (fun v67 => (cg_p h65 6 1 y0 (.int (v67 + 1)) (fun h68 => (k10 x1 (x2 + 1) c62 s63 h68 z66))))) else (w_MarkupReader_readValue_106 dA y0 K c62 s63 h65 z66))) h60 z61))) h z)))))
def w_MarkupReader_readValue_10 (dA : Nat → ClassId) (y0 : Nat) (K : Option Nat → hm_T → hz_T → Prop) : Nat → Int32 → Int32 → Nat → Nat → hm_T → hz_T → Prop
  | 0, _, _, _, _, _, _ => False
  | n9 + 1, x1, x2, cr, sr, h, z => (cg_R h 6 0 y0 (fun v28 => (cg_d v28 (fun a29 => (jd_len z a29 (fun v30 => (if v30 ≤ x2 then (w_MarkupReader_readValue_106 dA y0 K cr sr h z) else (cg_I h 6 1 y0 (fun v49 => (cg_R h 6 0 y0 (fun v50 => (cg_d v50 (fun a51 => (jd_len z a51 (fun v52 => (if v52 ≤ v49 then (w_MarkupReader_readValue_106 dA y0 K cr sr h z) else (cg_I h 6 1 y0 (fun v53 => (cg_c h 6 y0 (w_TextReader_seen6 dA y0 v53 (fun v54 h55 z56 => (if v54 = 60 then (w_MarkupReader_readValue_106 dA y0 K cr sr h55 z56) else (if v54 = x1 then (w_MarkupReader_readValue_106 dA y0 K cr sr h55 z56) else (cg_R h55 6 4 y0 (fun v57 => (if v54 = 38 then (cg_c h55 6 y0 (cg_rm cr sr (fun c72 s73 c74 s75 => w_MarkupReader_readEntity dA y0 c72 s73 (fun v69 h70 z71 => (w_MarkupReader_readValue_76 dA y0 K (w_MarkupReader_readValue_10 dA y0 K n9) x1 x2 v69 v57 c74 s75 h70 z71)) h55 z56))) else (w_MarkupReader_readValue_76 dA y0 K (w_MarkupReader_readValue_10 dA y0 K n9) x1 x2 v54 v57 cr sr h55 z56))))))) h z))))))))))))))))))))
def w_MarkupReader_readValue (dA : Nat → ClassId) (y0 : Nat) (y1 : Int32) (rc rs : Nat) (K : Option Nat → hm_T → hz_T → Prop) (h0 : hm_T) (z0 : hz_T) : Prop := (cg_R h0 6 4 y0 (fun v21 => (cg_d v21 (fun a22 => (cg_c h0 3 a22 (cg_k rc rs 1 142 (fun c26 s27 => w_SB_set dA a22 0 (fun h24 z25 => (w_MarkupReader_readValue_10 dA y0 K mF y1 0 c26 s27 h24 z25)) h0 z0)))))))
set_option maxRecDepth 100000 in
set_option maxHeartbeats 8000000 in
theorem cw_MarkupReader_readValue (l : Launch) (D : va_G) (dA : Nat → ClassId) (s0 : State) (hW : ms_EW D dA s0) (y0 : Nat) (y1 : Int32) (rc rs : Nat) (h0 : hm_T) (z0 : hz_T) (K : Option Nat → hm_T → hz_T → Prop) (hg : w_MarkupReader_readValue dA y0 y1 rc rs K h0 z0) : ht_C l D s0 yM254 bM254 4 (Option.some (Jvm.ClassFile.FieldType.object "java/lang/String")) (7) (234) rc rs [.ref y0, .int y1] (fun h z => h = h0 ∧ z = z0) (fun h z vv h1 z1 => ∃ v, vv = some (va_rf v) ∧ K v h1 z1) := by
  have hE := hW.1
  refine ht_C.mk hE.1 (by decide) (Nat.le_of_ble_eq_true rfl) [(0, .ref y0), (1, .int y1)] rfl ?_
  intro p e s m below meth c ls h z X hin hpre I hl
  have hx := X.1
  have hb := X.2.1
  have hml := X.2.2.1
  have hown : s.vm.findClass "MarkupStore$MarkupReader" = some m.cls := X.2.2.2.1
  have hts := X.2.2.2.2.2.2.1
  have hK := X.2.2.2.2.2.2.2.2.1
  rw [hpre.1, hpre.2] at I
  clear hpre
  have b131 : ∀ (ls : Array Slot) (w0 : Int32) (cr sr cu su : Nat) (h : hm_T) (z : hz_T) (H : Heap) (locs : List Loc), w_MarkupReader_readValue_131 dA y0 K w0 cr sr h z → cu + cr ≤ rc → su + sr ≤ rs → lv_has ls 4 [(0, .ref y0)] → hm_I D s0 s h z H locs → W p l e { frames := 7, cells := rc, slots := rs, locals := 234 } s m ([.ref y0, .int y1] : List Value).toArray below meth c H locs cu su (MQ below (ht_Q D s0 (fun vv h1 z1 => ∃ v, vv = some (va_rf v) ∧ K v h1 z1)) ([.ref y0, .int y1] : List Value).toArray s rc rs (fun q => s0.heap.size ≤ q)) (F0 m 131 ls [.int w0, .ref y0]) := by
    intro ls w0 cr sr cu su h z H locs hF hc hs hl I
    unfold w_MarkupReader_readValue_131 at hF
    obtain ⟨hz9, hF⟩ := hF
    obtain ⟨fs9, c9, k9, hF⟩ := hF
    refine hm_put (ci := 6) (v := .int w0) (ty := .boolean) (C := kR6) (T := kT6) (N := 6) X I ku6 kt6 kp6 kn6 c9 rfl 5 (by decide) ms_k351 (fun _ h => h) rfl (by decide +kernel) (cg_zn hz9).1 (cg_zn hz9).2 k9 d254_131 (fun h32 H locs e9 f9 I => ?_)
    rw [← hm_eqU e9 f9] at hF
    clear e9 f9 c9 k9
    refine lv_aload_n hx hb d254_134 rfl (lv_at hl 0 rfl) ?_
    obtain ⟨fs9, v33, c9, e9, hF⟩ := hF
    refine va_get (D := D) (ci := 6) (v := va_rf v33) (C := kR6) (T := kT6) (N := 6) hx hb hts ku6 hown hK (hm_one I.1 c9) 0 rfl rfl 4 (by decide) (hts _ ms_k350) (fun _ h => h) e9 d254_135 ?_
    clear e9 c9 fs9
    obtain ⟨a34, e9, hF⟩ := hF
    refine W.eq (g2 := F0 m 138 ls [.ref a34]) (by rw [e9]; rfl) ?_
    clear e9
    obtain ⟨fs9, c9, hF⟩ := hF
    obtain ⟨c38, s39, ec, es, hF⟩ := hF
    refine ht_V (C := "java/lang/StringBuilder") (rest := []) (as := []) X hl (cw_SB_str l D dA s0 hE a34 h32 z _ hF) (List.forall_mem_cons.mpr ⟨ms_k652, List.forall_mem_cons.mpr ⟨ms_k242, List.forall_mem_cons.mpr ⟨ms_k243, List.forall_mem_cons.mpr ⟨ms_k3, List.forall_mem_cons.mpr ⟨ms_k244, fun _ h => absurd h List.not_mem_nil⟩⟩⟩⟩⟩) ⟨rfl, by decide +kernel, by decide +kernel, (by decide +kernel : (parseMethodDescriptor "()Ljava/lang/String;").map (fun d => d.parameters.length) = some 0)⟩ (hm_recv hK I rfl c9) I ⟨rfl, rfl⟩ ⟨⟨Nat.le_of_ble_eq_true rfl, Nat.le_of_ble_eq_true rfl⟩, (rm_u hc ec).1, (rm_u hs es).1⟩ rfl (Nat.le_of_ble_eq_true rfl) d254_138 (fun vv h36 z37 H locs hR I9 => ?_)
    obtain ⟨v35, e1, hF⟩ := hR
    subst e1
    clear I
    have I := I9
    clear I9 c9 fs9
    have hc := (rm_u hc ec).2
    have hs := (rm_u hs es).2
    clear ec es
    refine W.eq (g2 := F0 m 141 ls [va_rf v35]) rfl ?_
    exact ht_aret X d254_141 I (rm_r hc) (rm_r hs) ⟨v35, rfl, hF⟩ (Or.inl ⟨_, rfl⟩) (rf_or _)
  have b126 : ∀ (ls : Array Slot) (cr sr cu su : Nat) (h : hm_T) (z : hz_T) (H : Heap) (locs : List Loc), w_MarkupReader_readValue_126 dA y0 K cr sr h z → cu + cr ≤ rc → su + sr ≤ rs → lv_has ls 4 [(0, .ref y0)] → hm_I D s0 s h z H locs → W p l e { frames := 7, cells := rc, slots := rs, locals := 234 } s m ([.ref y0, .int y1] : List Value).toArray below meth c H locs cu su (MQ below (ht_Q D s0 (fun vv h1 z1 => ∃ v, vv = some (va_rf v) ∧ K v h1 z1)) ([.ref y0, .int y1] : List Value).toArray s rc rs (fun q => s0.heap.size ≤ q)) (F0 m 126 ls [.ref y0]) := by
    intro ls cr sr cu su h z H locs hF hc hs hl I
    unfold w_MarkupReader_readValue_126 at hF
    refine lv_iconst (v := 1) hx hb d254_126 (by decide) ?_
    refine lv_goto hx hb d254_127 rfl ?_
    exact b131 ls 1 cr sr _ _ h z _ _ hF hc hs (hl.sub [0] rfl) I
  have b106 : ∀ (ls : Array Slot) (cr sr cu su : Nat) (h : hm_T) (z : hz_T) (H : Heap) (locs : List Loc), w_MarkupReader_readValue_106 dA y0 K cr sr h z → cu + cr ≤ rc → su + sr ≤ rs → lv_has ls 4 [(0, .ref y0)] → hm_I D s0 s h z H locs → W p l e { frames := 7, cells := rc, slots := rs, locals := 234 } s m ([.ref y0, .int y1] : List Value).toArray below meth c H locs cu su (MQ below (ht_Q D s0 (fun vv h1 z1 => ∃ v, vv = some (va_rf v) ∧ K v h1 z1)) ([.ref y0, .int y1] : List Value).toArray s rc rs (fun q => s0.heap.size ≤ q)) (F0 m 106 ls []) := by
    intro ls cr sr cu su h z H locs hF hc hs hl I
    unfold w_MarkupReader_readValue_106 at hF
    refine lv_aload_n hx hb d254_106 rfl (lv_at hl 0 rfl) ?_
    refine lv_aload_n hx hb d254_107 rfl (lv_at hl 0 rfl) ?_
    obtain ⟨fs9, v31, c9, e9, hF⟩ := hF
    refine va_get (D := D) (ci := 6) (v := .int v31) (C := kR6) (T := kT6) (N := 6) hx hb hts ku6 hown hK (hm_one I.1 c9) 0 rfl rfl 5 (by decide) (hts _ ms_k351) (fun _ h => h) e9 d254_108 ?_
    clear e9 c9 fs9
    refine lv_if_ne hx hb d254_111 rfl (fun h9 => ?_) (fun h9 => ?_)
    · have hF := Eq.mp (if_neg h9) hF
      exact b126 ls cr sr _ _ h z _ _ hF hc hs (hl.sub [0] rfl) I
    · have hF := Eq.mp (if_pos h9) hF
      refine lv_aload_n hx hb d254_114 rfl (lv_at hl 0 rfl) ?_
      obtain ⟨fs9, v40, c9, e9, hF⟩ := hF
      refine va_get (D := D) (ci := 6) (v := va_rf v40) (C := kR6) (T := kT6) (N := 6) hx hb hts ku6 hown hK (hm_one I.1 c9) 0 rfl rfl 4 (by decide) (hts _ ms_k350) (fun _ h => h) e9 d254_115 ?_
      clear e9 c9 fs9
      obtain ⟨a41, e9, hF⟩ := hF
      refine W.eq (g2 := F0 m 118 ls [.ref a41, .ref y0]) (by rw [e9]; rfl) ?_
      clear e9
      obtain ⟨fs9, c9, hF⟩ := hF
      obtain ⟨c45, s46, c47, s48, ec, es, hF⟩ := hF
      refine ht_V (C := "java/lang/StringBuilder") (rest := [.ref y0]) (as := []) X hl (cw_SB_length l D dA s0 hW a41 c45 s46 h z _ hF) (List.forall_mem_cons.mpr ⟨ms_k651, List.forall_mem_cons.mpr ⟨ms_k130, List.forall_mem_cons.mpr ⟨ms_k131, List.forall_mem_cons.mpr ⟨ms_k3, List.forall_mem_cons.mpr ⟨ms_k132, fun _ h => absurd h List.not_mem_nil⟩⟩⟩⟩⟩) ⟨rfl, by decide +kernel, by decide +kernel, (by decide +kernel : (parseMethodDescriptor "()I").map (fun d => d.parameters.length) = some 0)⟩ (hm_recv hK I rfl c9) I ⟨rfl, rfl⟩ ⟨⟨Nat.le_of_ble_eq_true rfl, Nat.le_of_ble_eq_true rfl⟩, (rm_u hc ec).1, (rm_u hs es).1⟩ rfl (Nat.le_of_ble_eq_true rfl) d254_118 (fun vv h43 z44 H locs hR I9 => ?_)
      obtain ⟨v42, e1, hF⟩ := hR
      subst e1
      clear I
      have I := I9
      clear I9 c9 fs9
      have hc := (rm_u hc ec).2
      have hs := (rm_u hs es).2
      clear ec es
      refine W.eq (g2 := F0 m 121 ls [.int v42, .ref y0]) rfl ?_
      refine lv_bipush (v := 20) hx hb d254_121 (by decide) ?_
      refine lv_icmp_le hx hb d254_123 rfl (fun h9 => ?_) (fun h9 => ?_)
      · have hF := Eq.mp (if_pos h9) hF
        refine lv_iconst (v := 0) hx hb d254_130 (by decide) ?_
        exact b131 ls 0 c47 s48 _ _ h43 z44 _ _ hF hc hs (hl.sub [0] rfl) I
      · have hF := Eq.mp (if_neg h9) hF
        exact b126 ls c47 s48 _ _ h43 z44 _ _ hF hc hs (hl.sub [0] rfl) I
  have b76 : ∀ (k10 : Int32 → Int32 → Nat → Nat → hm_T → hz_T → Prop), (∀ (ls : Array Slot) (x1 : Int32) (x2 : Int32) (cr sr cu su : Nat) (h : hm_T) (z : hz_T) (H : Heap) (locs : List Loc), k10 x1 x2 cr sr h z → cu + cr ≤ rc → su + sr ≤ rs → lv_has ls 4 [(0, .ref y0), (1, .int x1), (2, .int x2)] → hm_I D s0 s h z H locs → W p l e { frames := 7, cells := rc, slots := rs, locals := 234 } s m ([.ref y0, .int y1] : List Value).toArray below meth c H locs cu su (MQ below (ht_Q D s0 (fun vv h1 z1 => ∃ v, vv = some (va_rf v) ∧ K v h1 z1)) ([.ref y0, .int y1] : List Value).toArray s rc rs (fun q => s0.heap.size ≤ q)) (F0 m 10 ls [])) → ∀ (ls : Array Slot) (x1 : Int32) (x2 : Int32) (w0 : Int32) (w1 : Option Nat) (cr sr cu su : Nat) (h : hm_T) (z : hz_T) (H : Heap) (locs : List Loc), w_MarkupReader_readValue_76 dA y0 K k10 x1 x2 w0 w1 cr sr h z → cu + cr ≤ rc → su + sr ≤ rs → lv_has ls 4 [(0, .ref y0), (1, .int x1), (2, .int x2)] → hm_I D s0 s h z H locs → W p l e { frames := 7, cells := rc, slots := rs, locals := 234 } s m ([.ref y0, .int y1] : List Value).toArray below meth c H locs cu su (MQ below (ht_Q D s0 (fun vv h1 z1 => ∃ v, vv = some (va_rf v) ∧ K v h1 z1)) ([.ref y0, .int y1] : List Value).toArray s rc rs (fun q => s0.heap.size ≤ q)) (F0 m 76 ls [.int w0, va_rf w1]) := by
    intro k10 hk10 ls x1 x2 w0 w1 cr sr cu su h z H locs hF hc hs hl I
    unfold w_MarkupReader_readValue_76 at hF
    obtain ⟨a58, e9, hF⟩ := hF
    refine W.eq (g2 := F0 m 76 ls [.int w0, .ref a58]) (by rw [e9]; rfl) ?_
    clear e9
    obtain ⟨fs9, c9, hF⟩ := hF
    obtain ⟨c62, s63, ec, es, hF⟩ := hF
    refine ht_V (C := "java/lang/StringBuilder") (rest := []) (as := [.int w0]) X hl (cw_SB_app l D dA s0 hE a58 w0 h z _ hF) (List.forall_mem_cons.mpr ⟨ms_k650, List.forall_mem_cons.mpr ⟨ms_k137, List.forall_mem_cons.mpr ⟨ms_k138, List.forall_mem_cons.mpr ⟨ms_k3, List.forall_mem_cons.mpr ⟨ms_k139, fun _ h => absurd h List.not_mem_nil⟩⟩⟩⟩⟩) ⟨rfl, by decide +kernel, by decide +kernel, (by decide +kernel : (parseMethodDescriptor "(C)Ljava/lang/StringBuilder;").map (fun d => d.parameters.length) = some 1)⟩ (hm_recv hK I rfl c9) I ⟨rfl, rfl⟩ ⟨⟨Nat.le_of_ble_eq_true rfl, Nat.le_of_ble_eq_true rfl⟩, (rm_u hc ec).1, (rm_u hs es).1⟩ rfl (Nat.le_of_ble_eq_true rfl) d254_76 (fun vv h60 z61 H locs hR I9 => ?_)
    obtain ⟨v59, e1, hF⟩ := hR
    subst e1
    clear I
    have I := I9
    clear I9 c9 fs9
    have hc := (rm_u hc ec).2
    have hs := (rm_u hs es).2
    clear ec es
    refine W.eq (g2 := F0 m 79 ls [va_rf v59]) rfl ?_
    refine lv_pop hx hb d254_79 (cat_rf _) ?_
    refine lv_aload_n hx hb d254_80 rfl (lv_at hl 0 rfl) ?_
    obtain ⟨fs9, c9, hF⟩ := hF
    refine ht_U (C := "MarkupStore$MarkupReader") (x := ⟨"MarkupStore$MarkupReader", "failed", "()Z"⟩) (owner := "MarkupStore$TextReader") (rest := []) (as := []) X hl (cw_TextReader_failed6 l D dA s0 hE y0 h60 z61 _ hF) (List.forall_mem_cons.mpr ⟨ms_k584, List.forall_mem_cons.mpr ⟨ms_k585, List.forall_mem_cons.mpr ⟨ms_k587, List.forall_mem_cons.mpr ⟨ms_k588, List.forall_mem_cons.mpr ⟨ms_k14, List.forall_mem_cons.mpr ⟨ms_k589, fun _ h => absurd h List.not_mem_nil⟩⟩⟩⟩⟩⟩) rfl ⟨by decide +kernel, by decide +kernel, (by decide +kernel : (parseMethodDescriptor "()Z").map (fun d => d.parameters.length) = some 0)⟩ (hm_recv hK I rfl c9) I ⟨rfl, rfl⟩ ⟨⟨Nat.le_of_ble_eq_true rfl, Nat.le_of_ble_eq_true rfl⟩, rm_0 hc, rm_0 hs⟩ rfl (Nat.le_of_ble_eq_true rfl) d254_81 (fun vv h65 z66 H locs hR I9 => ?_)
    obtain ⟨v64, e1, hF⟩ := hR
    subst e1
    clear I
    have I := I9
    clear I9 c9 fs9
    refine W.eq (g2 := F0 m 84 ls [.int v64]) rfl ?_
    refine lv_if_eq hx hb d254_84 rfl (fun h9 => ?_) (fun h9 => ?_)
    · have hF := Eq.mp (if_pos h9) hF
      refine lv_aload_n hx hb d254_90 rfl (lv_at hl 0 rfl) ?_
      refine lv_dup hx hb d254_91 rfl ?_
      obtain ⟨fs9, v67, c9, e9, hF⟩ := hF
      refine va_get (D := D) (ci := 6) (v := .int v67) (C := kR6) (T := kT6) (N := 6) hx hb hts ku6 hown hK (hm_one I.1 c9) 0 rfl rfl 1 (by decide) (hts _ ms_k360) (fun x9 h9 => u_same (hts _ ms_k361) x9 h9) e9 d254_92 ?_
      clear e9 c9 fs9
      refine lv_iconst (v := 1) hx hb d254_95 (by decide) ?_
      refine lv_iadd hx hb d254_96 ?_
      obtain ⟨fs9, c9, k9, hF⟩ := hF
      refine hm_put (ci := 6) (v := .int (v67 + 1)) (ty := .int) (C := kR6) (T := kT6) (N := 6) X I ku6 kt6 kp6 kn6 c9 rfl 1 (by decide) ms_k360 (fun x9 h9 => u_same (hts _ ms_k361) x9 h9) rfl (by decide +kernel) rfl rfl k9 d254_97 (fun h68 H locs e9 f9 I => ?_)
      rw [← hm_eqU e9 f9] at hF
      clear e9 f9 c9 k9
      refine lv_iinc (k := 2) (v := (x2 + 1)) hx hb d254_100 hl rfl (rfl) (by decide) rfl (fun ls hl => ?_)
      have hl : lv_has ls 4 [(2, .int (x2 + 1)), (0, .ref y0), (1, .int x1)] := hl
      refine lv_goto hx hb d254_103 rfl ?_
      exact hk10 ls x1 (x2 + 1) c62 s63 _ _ h68 z66 _ _ hF hc hs (hl.sub [1, 2, 0] rfl) I
    · have hF := Eq.mp (if_neg h9) hF
      refine lv_goto hx hb d254_87 rfl ?_
      exact b106 ls c62 s63 _ _ h65 z66 _ _ hF hc hs (hl.sub [0] rfl) I
  have b10 : ∀ n9 : Nat, ∀ (ls : Array Slot) (x1 : Int32) (x2 : Int32) (cr sr cu su : Nat) (h : hm_T) (z : hz_T) (H : Heap) (locs : List Loc), w_MarkupReader_readValue_10 dA y0 K n9 x1 x2 cr sr h z → cu + cr ≤ rc → su + sr ≤ rs → lv_has ls 4 [(0, .ref y0), (1, .int x1), (2, .int x2)] → hm_I D s0 s h z H locs → W p l e { frames := 7, cells := rc, slots := rs, locals := 234 } s m ([.ref y0, .int y1] : List Value).toArray below meth c H locs cu su (MQ below (ht_Q D s0 (fun vv h1 z1 => ∃ v, vv = some (va_rf v) ∧ K v h1 z1)) ([.ref y0, .int y1] : List Value).toArray s rc rs (fun q => s0.heap.size ≤ q)) (F0 m 10 ls []) := by
    intro n9
    induction n9 with
    | zero => intro ls x1 x2 cr sr cu su h z H locs hF; cases hF
    | succ n9 hk10 =>
    intro ls x1 x2 cr sr cu su h z H locs hF hc hs hl I
    unfold w_MarkupReader_readValue_10 at hF
    refine lv_iload_n hx hb d254_10 rfl (lv_at hl 2 rfl) ?_
    refine lv_aload_n hx hb d254_11 rfl (lv_at hl 0 rfl) ?_
    obtain ⟨fs9, v28, c9, e9, hF⟩ := hF
    refine va_get (D := D) (ci := 6) (v := va_rf v28) (C := kR6) (T := kT6) (N := 6) hx hb hts ku6 hown hK (hm_one I.1 c9) 0 rfl rfl 0 (by decide) (hts _ ms_k355) (fun x9 h9 => u_same (hts _ ms_k356) x9 h9) e9 d254_12 ?_
    clear e9 c9 fs9
    obtain ⟨a29, e9, hF⟩ := hF
    refine W.eq (g2 := F0 m 15 ls [.ref a29, .int x2]) (by rw [e9]; rfl) ?_
    clear e9
    obtain ⟨u9, xs9, z9, hF⟩ := hF
    refine ht_V (C := "java/lang/String") (rest := [.int x2]) (as := []) X hl (c_Slen l D dA s0 hE a29 u9 xs9) (List.forall_mem_cons.mpr ⟨ms_k579, List.forall_mem_cons.mpr ⟨ms_k391, List.forall_mem_cons.mpr ⟨ms_k392, List.forall_mem_cons.mpr ⟨ms_k4, List.forall_mem_cons.mpr ⟨ms_k393, fun _ h => absurd h List.not_mem_nil⟩⟩⟩⟩⟩) ⟨rfl, by decide +kernel, by decide +kernel, (by decide +kernel : (parseMethodDescriptor "()I").map (fun d => d.parameters.length) = some 0)⟩ (hz_recv I z9) I z9 ⟨⟨Nat.le_of_ble_eq_true rfl, Nat.le_of_ble_eq_true rfl⟩, rm_0 hc, rm_0 hs⟩ rfl (Nat.le_of_ble_eq_true rfl) d254_15 (fun vv h9 z7 H locs hR I9 => ?_)
    obtain ⟨e1, e2, e3⟩ := hR
    rw [e2, e3] at I9
    subst e1
    clear I
    have I := I9
    clear I9 e2 e3 h9 z7
    refine W.eq (g2 := F0 m 18 ls [.int (nI xs9.length), .int x2]) rfl ?_
    generalize (nI xs9.length) = v30 at hF ⊢
    refine lv_icmp_ge hx hb d254_18 rfl (fun h9 => ?_) (fun h9 => ?_)
    · have hF := Eq.mp (if_pos h9) hF
      exact b106 ls cr sr _ _ h z _ _ hF hc hs (hl.sub [0] rfl) I
    · have hF := Eq.mp (if_neg h9) hF
      refine lv_aload_n hx hb d254_21 rfl (lv_at hl 0 rfl) ?_
      obtain ⟨fs9, v49, c9, e9, hF⟩ := hF
      refine va_get (D := D) (ci := 6) (v := .int v49) (C := kR6) (T := kT6) (N := 6) hx hb hts ku6 hown hK (hm_one I.1 c9) 0 rfl rfl 1 (by decide) (hts _ ms_k360) (fun x9 h9 => u_same (hts _ ms_k361) x9 h9) e9 d254_22 ?_
      clear e9 c9 fs9
      refine lv_aload_n hx hb d254_25 rfl (lv_at hl 0 rfl) ?_
      obtain ⟨fs9, v50, c9, e9, hF⟩ := hF
      refine va_get (D := D) (ci := 6) (v := va_rf v50) (C := kR6) (T := kT6) (N := 6) hx hb hts ku6 hown hK (hm_one I.1 c9) 0 rfl rfl 0 (by decide) (hts _ ms_k355) (fun x9 h9 => u_same (hts _ ms_k356) x9 h9) e9 d254_26 ?_
      clear e9 c9 fs9
      obtain ⟨a51, e9, hF⟩ := hF
      refine W.eq (g2 := F0 m 29 ls [.ref a51, .int v49]) (by rw [e9]; rfl) ?_
      clear e9
      obtain ⟨u9, xs9, z9, hF⟩ := hF
      refine ht_V (C := "java/lang/String") (rest := [.int v49]) (as := []) X hl (c_Slen l D dA s0 hE a51 u9 xs9) (List.forall_mem_cons.mpr ⟨ms_k579, List.forall_mem_cons.mpr ⟨ms_k391, List.forall_mem_cons.mpr ⟨ms_k392, List.forall_mem_cons.mpr ⟨ms_k4, List.forall_mem_cons.mpr ⟨ms_k393, fun _ h => absurd h List.not_mem_nil⟩⟩⟩⟩⟩) ⟨rfl, by decide +kernel, by decide +kernel, (by decide +kernel : (parseMethodDescriptor "()I").map (fun d => d.parameters.length) = some 0)⟩ (hz_recv I z9) I z9 ⟨⟨Nat.le_of_ble_eq_true rfl, Nat.le_of_ble_eq_true rfl⟩, rm_0 hc, rm_0 hs⟩ rfl (Nat.le_of_ble_eq_true rfl) d254_29 (fun vv h9 z7 H locs hR I9 => ?_)
      obtain ⟨e1, e2, e3⟩ := hR
      rw [e2, e3] at I9
      subst e1
      clear I
      have I := I9
      clear I9 e2 e3 h9 z7
      refine W.eq (g2 := F0 m 32 ls [.int (nI xs9.length), .int v49]) rfl ?_
      generalize (nI xs9.length) = v52 at hF ⊢
      refine lv_icmp_ge hx hb d254_32 rfl (fun h9 => ?_) (fun h9 => ?_)
      · have hF := Eq.mp (if_pos h9) hF
        exact b106 ls cr sr _ _ h z _ _ hF hc hs (hl.sub [0] rfl) I
      · have hF := Eq.mp (if_neg h9) hF
        refine lv_aload_n hx hb d254_35 rfl (lv_at hl 0 rfl) ?_
        refine lv_aload_n hx hb d254_36 rfl (lv_at hl 0 rfl) ?_
        obtain ⟨fs9, v53, c9, e9, hF⟩ := hF
        refine va_get (D := D) (ci := 6) (v := .int v53) (C := kR6) (T := kT6) (N := 6) hx hb hts ku6 hown hK (hm_one I.1 c9) 0 rfl rfl 1 (by decide) (hts _ ms_k360) (fun x9 h9 => u_same (hts _ ms_k361) x9 h9) e9 d254_37 ?_
        clear e9 c9 fs9
        obtain ⟨fs9, c9, hF⟩ := hF
        refine ht_U (C := "MarkupStore$MarkupReader") (x := ⟨"MarkupStore$MarkupReader", "seen", "(I)C"⟩) (owner := "MarkupStore$TextReader") (rest := []) (as := [.int v53]) X hl (cw_TextReader_seen6 l D dA s0 hE y0 v53 h z _ hF) (List.forall_mem_cons.mpr ⟨ms_k384, List.forall_mem_cons.mpr ⟨ms_k385, List.forall_mem_cons.mpr ⟨ms_k387, List.forall_mem_cons.mpr ⟨ms_k388, List.forall_mem_cons.mpr ⟨ms_k14, List.forall_mem_cons.mpr ⟨ms_k389, fun _ h => absurd h List.not_mem_nil⟩⟩⟩⟩⟩⟩) rfl ⟨by decide +kernel, by decide +kernel, (by decide +kernel : (parseMethodDescriptor "(I)C").map (fun d => d.parameters.length) = some 1)⟩ (hm_recv hK I rfl c9) I ⟨rfl, rfl⟩ ⟨⟨Nat.le_of_ble_eq_true rfl, Nat.le_of_ble_eq_true rfl⟩, rm_0 hc, rm_0 hs⟩ rfl (Nat.le_of_ble_eq_true rfl) d254_40 (fun vv h55 z56 H locs hR I9 => ?_)
        obtain ⟨v54, e1, hF⟩ := hR
        subst e1
        clear I
        have I := I9
        clear I9 c9 fs9
        refine W.eq (g2 := F0 m 43 ls [.int v54]) rfl ?_
        refine lv_istore_n hx hb d254_43 rfl hl (by decide) rfl (fun ls hl => ?_)
        have hl : lv_has ls 4 [(3, .int v54), (0, .ref y0), (1, .int x1), (2, .int x2)] := hl
        refine lv_iload_n hx hb d254_44 rfl (lv_at hl 0 rfl) ?_
        refine lv_bipush (v := 60) hx hb d254_45 (by decide) ?_
        refine lv_icmp_eq hx hb d254_47 rfl (fun h9 => ?_) (fun h9 => ?_)
        · have hF := Eq.mp (if_pos h9) hF
          exact b106 ls cr sr _ _ h55 z56 _ _ hF hc hs (hl.sub [1] rfl) I
        · have hF := Eq.mp (if_neg h9) hF
          refine lv_iload_n hx hb d254_50 rfl (lv_at hl 0 rfl) ?_
          refine lv_iload_n hx hb d254_51 rfl (lv_at hl 2 rfl) ?_
          refine lv_icmp_ne hx hb d254_52 rfl (fun h9 => ?_) (fun h9 => ?_)
          · have hF := Eq.mp (if_neg h9) hF
            refine lv_aload_n hx hb d254_58 rfl (lv_at hl 1 rfl) ?_
            obtain ⟨fs9, v57, c9, e9, hF⟩ := hF
            refine va_get (D := D) (ci := 6) (v := va_rf v57) (C := kR6) (T := kT6) (N := 6) hx hb hts ku6 hown hK (hm_one I.1 c9) 0 rfl rfl 4 (by decide) (hts _ ms_k350) (fun _ h => h) e9 d254_59 ?_
            clear e9 c9 fs9
            refine lv_iload_n hx hb d254_62 rfl (lv_at hl 0 rfl) ?_
            refine lv_bipush (v := 38) hx hb d254_63 (by decide) ?_
            refine lv_icmp_ne hx hb d254_65 rfl (fun h9 => ?_) (fun h9 => ?_)
            · have hF := Eq.mp (if_neg h9) hF
              refine lv_iload_n hx hb d254_75 rfl (lv_at hl 0 rfl) ?_
              exact b76 (w_MarkupReader_readValue_10 dA y0 K n9) hk10 ls x1 x2 v54 v57 cr sr _ _ h55 z56 _ _ hF hc hs (hl.sub [1, 2, 3] rfl) I
            · have hF := Eq.mp (if_pos h9) hF
              refine lv_aload_n hx hb d254_68 rfl (lv_at hl 1 rfl) ?_
              obtain ⟨fs9, c9, hF⟩ := hF
              obtain ⟨c72, s73, c74, s75, ec, es, hF⟩ := hF
              refine ht_V (C := "MarkupStore$MarkupReader") (rest := [va_rf v57]) (as := []) X hl (cw_MarkupReader_readEntity l D dA s0 hW y0 c72 s73 h55 z56 _ hF) (List.forall_mem_cons.mpr ⟨ms_k634, List.forall_mem_cons.mpr ⟨ms_k636, List.forall_mem_cons.mpr ⟨ms_p8, List.forall_mem_cons.mpr ⟨ms_k15, List.forall_mem_cons.mpr ⟨ms_k637, fun _ h => absurd h List.not_mem_nil⟩⟩⟩⟩⟩) ⟨rfl, by decide +kernel, by decide +kernel, (by decide +kernel : (parseMethodDescriptor "()C").map (fun d => d.parameters.length) = some 0)⟩ (hm_recv hK I rfl c9) I ⟨rfl, rfl⟩ ⟨⟨Nat.le_of_ble_eq_true rfl, Nat.le_of_ble_eq_true rfl⟩, (rm_u hc ec).1, (rm_u hs es).1⟩ rfl (by simp [cat_rf, cat_int, cat_ref, cat_null, cat_long]) d254_69 (fun vv h70 z71 H locs hR I9 => ?_)
              obtain ⟨v69, e1, hF⟩ := hR
              subst e1
              clear I
              have I := I9
              clear I9 c9 fs9
              have hc := (rm_u hc ec).2
              have hs := (rm_u hs es).2
              clear ec es
              refine W.eq (g2 := F0 m 72 ls [.int v69, va_rf v57]) rfl ?_
              refine lv_goto hx hb d254_72 rfl ?_
              exact b76 (w_MarkupReader_readValue_10 dA y0 K n9) hk10 ls x1 x2 v69 v57 c74 s75 _ _ h70 z71 _ _ hF hc hs (hl.sub [1, 2, 3] rfl) I
          · have hF := Eq.mp (if_pos h9) hF
            refine lv_goto hx hb d254_55 rfl ?_
            exact b106 ls cr sr _ _ h55 z56 _ _ hF hc hs (hl.sub [1] rfl) I
  have hF := hg
  unfold w_MarkupReader_readValue at hF
  clear h z
  have hc : 0 + rc ≤ rc := by omega
  have hs : 0 + rs ≤ rs := by omega
  refine lv_aload_n hx hb d254_0 rfl (lv_at hl 0 rfl) ?_
  obtain ⟨fs9, v21, c9, e9, hF⟩ := hF
  refine va_get (D := D) (ci := 6) (v := va_rf v21) (C := kR6) (T := kT6) (N := 6) hx hb hts ku6 hown hK (hm_one I.1 c9) 0 rfl rfl 4 (by decide) (hts _ ms_k350) (fun _ h => h) e9 d254_1 ?_
  clear e9 c9 fs9
  refine lv_iconst (v := 0) hx hb d254_4 (by decide) ?_
  obtain ⟨a22, e9, hF⟩ := hF
  refine W.eq (g2 := F0 m 5 ls [.int 0, .ref a22]) (by rw [e9]; rfl) ?_
  clear e9
  obtain ⟨fs9, c9, hF⟩ := hF
  obtain ⟨c26, s27, ec, es, hF⟩ := hF
  refine ht_V (C := "java/lang/StringBuilder") (rest := []) (as := [.int 0]) X hl (cw_SB_set l D dA s0 hE a22 0 h0 z0 _ hF) (List.forall_mem_cons.mpr ⟨ms_k633, List.forall_mem_cons.mpr ⟨ms_k296, List.forall_mem_cons.mpr ⟨ms_k297, List.forall_mem_cons.mpr ⟨ms_k3, List.forall_mem_cons.mpr ⟨ms_k298, fun _ h => absurd h List.not_mem_nil⟩⟩⟩⟩⟩) ⟨rfl, by decide +kernel, by decide +kernel, (by decide +kernel : (parseMethodDescriptor "(I)V").map (fun d => d.parameters.length) = some 1)⟩ (hm_recv hK I rfl c9) I ⟨rfl, rfl⟩ ⟨⟨Nat.le_of_ble_eq_true rfl, Nat.le_of_ble_eq_true rfl⟩, (rm_u hc ec).1, (rm_u hs es).1⟩ rfl (Nat.le_of_ble_eq_true rfl) d254_5 (fun vv h24 z25 H locs hR I9 => ?_)
  obtain ⟨e1, hF⟩ := hR
  subst e1
  clear I
  have I := I9
  clear I9 c9 fs9
  have hc := (rm_u hc ec).2
  have hs := (rm_u hs es).2
  clear ec es
  refine W.eq (g2 := F0 m 8 ls []) rfl ?_
  refine lv_iconst (v := 0) hx hb d254_8 (by decide) ?_
  refine lv_istore_n hx hb d254_9 rfl hl (by decide) rfl (fun ls hl => ?_)
  have hl : lv_has ls 4 [(2, .int 0), (0, .ref y0), (1, .int y1)] := hl
  exact b10 mF ls y1 0 c26 s27 _ _ h24 z25 _ _ hF hc hs (hl.sub [1, 2, 0] rfl) I

def w_PathReader_readWhole_18 (dA : Nat → ClassId) (y0 : Nat) (K : Option Nat → hm_T → hz_T → Prop) (x1 : Option Nat) (cr sr : Nat) (h : hm_T) (z : hz_T) : Prop := (K x1 h z)
def w_PathReader_readWhole (dA : Nat → ClassId) (y0 : Nat) (rc rs : Nat) (K : Option Nat → hm_T → hz_T → Prop) (h0 : hm_T) (z0 : hz_T) : Prop := (cg_c h0 10 y0 (cg_rm rc rs (fun c24 s25 c26 s27 => w_T_PathReader_readPath dA y0 0 c24 s25 (fun v21 h22 z23 => (cg_c h22 10 y0 (w_TextReader_failed10 dA y0 (fun v28 h29 z30 => (if v28 = 0 then (cg_c h29 10 y0 (w_TextReader_readEnd10 dA y0 (fun v31 h32 z33 => (w_PathReader_readWhole_18 dA y0 K v21 c26 s27 h32 z33)) h29 z30)) else (w_PathReader_readWhole_18 dA y0 K v21 c26 s27 h29 z30))) h22 z23))) h0 z0)))
set_option maxRecDepth 100000 in
set_option maxHeartbeats 8000000 in
theorem cw_PathReader_readWhole (l : Launch) (D : va_G) (dA : Nat → ClassId) (s0 : State) (hW : ms_EW D dA s0) (y0 : Nat) (rc rs : Nat) (h0 : hm_T) (z0 : hz_T) (K : Option Nat → hm_T → hz_T → Prop) (hg : w_PathReader_readWhole dA y0 rc rs K h0 z0) : ht_C l D s0 yM255 bM255 2 (Option.some (Jvm.ClassFile.FieldType.object "MarkupStore$Path")) (169) (5439) rc rs [.ref y0] (fun h z => h = h0 ∧ z = z0) (fun h z vv h1 z1 => ∃ v, vv = some (va_rf v) ∧ K v h1 z1) := by
  have hE := hW.1
  refine ht_C.mk hE.1 (by decide) (Nat.le_of_ble_eq_true rfl) [(0, .ref y0)] rfl ?_
  intro p e s m below meth c ls h z X hin hpre I hl
  have hx := X.1
  have hb := X.2.1
  have hml := X.2.2.1
  have hown : s.vm.findClass "MarkupStore$PathReader" = some m.cls := X.2.2.2.1
  have hts := X.2.2.2.2.2.2.1
  have hK := X.2.2.2.2.2.2.2.2.1
  rw [hpre.1, hpre.2] at I
  clear hpre
  have b18 : ∀ (ls : Array Slot) (x1 : Option Nat) (cr sr cu su : Nat) (h : hm_T) (z : hz_T) (H : Heap) (locs : List Loc), w_PathReader_readWhole_18 dA y0 K x1 cr sr h z → cu + cr ≤ rc → su + sr ≤ rs → lv_has ls 2 [(1, va_rf x1)] → hm_I D s0 s h z H locs → W p l e { frames := 169, cells := rc, slots := rs, locals := 5439 } s m ([.ref y0] : List Value).toArray below meth c H locs cu su (MQ below (ht_Q D s0 (fun vv h1 z1 => ∃ v, vv = some (va_rf v) ∧ K v h1 z1)) ([.ref y0] : List Value).toArray s rc rs (fun q => s0.heap.size ≤ q)) (F0 m 18 ls []) := by
    intro ls x1 cr sr cu su h z H locs hF hc hs hl I
    unfold w_PathReader_readWhole_18 at hF
    refine lv_aload_nR hx hb d255_18 rfl (lv_at hl 0 rfl) ?_
    exact ht_aret X d255_19 I (rm_r hc) (rm_r hs) ⟨x1, rfl, hF⟩ (Or.inl ⟨_, rfl⟩) (rf_or _)
  have hF := hg
  unfold w_PathReader_readWhole at hF
  clear h z
  have hc : 0 + rc ≤ rc := by omega
  have hs : 0 + rs ≤ rs := by omega
  refine lv_aload_n hx hb d255_0 rfl (lv_at hl 0 rfl) ?_
  refine lv_iconst (v := 0) hx hb d255_1 (by decide) ?_
  obtain ⟨fs9, c9, hF⟩ := hF
  obtain ⟨c24, s25, c26, s27, ec, es, hF⟩ := hF
  refine ht_V (C := "MarkupStore$PathReader") (rest := []) (as := [.int 0]) X hl (cw_T_PathReader_readPath l D dA s0 hW y0 0 c24 s25 h0 z0 _ hF) (List.forall_mem_cons.mpr ⟨ms_k884, List.forall_mem_cons.mpr ⟨ms_k886, List.forall_mem_cons.mpr ⟨ms_p19, List.forall_mem_cons.mpr ⟨ms_k23, List.forall_mem_cons.mpr ⟨ms_k887, fun _ h => absurd h List.not_mem_nil⟩⟩⟩⟩⟩) ⟨rfl, by decide +kernel, by decide +kernel, (by decide +kernel : (parseMethodDescriptor "(I)LMarkupStore$Path;").map (fun d => d.parameters.length) = some 1)⟩ (hm_recv hK I rfl c9) I ⟨rfl, rfl⟩ ⟨⟨Nat.le_of_ble_eq_true rfl, Nat.le_of_ble_eq_true rfl⟩, (rm_u hc ec).1, (rm_u hs es).1⟩ rfl (Nat.le_of_ble_eq_true rfl) d255_2 (fun vv h22 z23 H locs hR I9 => ?_)
  obtain ⟨v21, e1, hF⟩ := hR
  subst e1
  clear I
  have I := I9
  clear I9 c9 fs9
  have hc := (rm_u hc ec).2
  have hs := (rm_u hs es).2
  clear ec es
  refine W.eq (g2 := F0 m 5 ls [va_rf v21]) rfl ?_
  refine lv_astore_nR hx hb d255_5 rfl hl (by decide) rfl (fun ls hl => ?_)
  have hl : lv_has ls 2 [(1, va_rf v21), (0, .ref y0)] := hl
  refine lv_aload_n hx hb d255_6 rfl (lv_at hl 1 rfl) ?_
  obtain ⟨fs9, c9, hF⟩ := hF
  refine ht_U (C := "MarkupStore$PathReader") (x := ⟨"MarkupStore$PathReader", "failed", "()Z"⟩) (owner := "MarkupStore$TextReader") (rest := []) (as := []) X hl (cw_TextReader_failed10 l D dA s0 hE y0 h22 z23 _ hF) (List.forall_mem_cons.mpr ⟨ms_k1003, List.forall_mem_cons.mpr ⟨ms_k1004, List.forall_mem_cons.mpr ⟨ms_k1005, List.forall_mem_cons.mpr ⟨ms_k588, List.forall_mem_cons.mpr ⟨ms_k14, List.forall_mem_cons.mpr ⟨ms_k589, fun _ h => absurd h List.not_mem_nil⟩⟩⟩⟩⟩⟩) rfl ⟨by decide +kernel, by decide +kernel, (by decide +kernel : (parseMethodDescriptor "()Z").map (fun d => d.parameters.length) = some 0)⟩ (hm_recv hK I rfl c9) I ⟨rfl, rfl⟩ ⟨⟨Nat.le_of_ble_eq_true rfl, Nat.le_of_ble_eq_true rfl⟩, rm_0 hc, rm_0 hs⟩ rfl (Nat.le_of_ble_eq_true rfl) d255_7 (fun vv h29 z30 H locs hR I9 => ?_)
  obtain ⟨v28, e1, hF⟩ := hR
  subst e1
  clear I
  have I := I9
  clear I9 c9 fs9
  refine W.eq (g2 := F0 m 10 ls [.int v28]) rfl ?_
  refine lv_if_ne hx hb d255_10 rfl (fun h9 => ?_) (fun h9 => ?_)
  · have hF := Eq.mp (if_neg h9) hF
    exact b18 ls v21 c26 s27 _ _ h29 z30 _ _ hF hc hs (hl.sub [0] rfl) I
  · have hF := Eq.mp (if_pos h9) hF
    refine lv_aload_n hx hb d255_13 rfl (lv_at hl 1 rfl) ?_
    obtain ⟨fs9, c9, hF⟩ := hF
    refine ht_U (C := "MarkupStore$PathReader") (x := ⟨"MarkupStore$PathReader", "readEnd", "()Z"⟩) (owner := "MarkupStore$TextReader") (rest := []) (as := []) X hl (cw_TextReader_readEnd10 l D dA s0 hE y0 h29 z30 _ hF) (List.forall_mem_cons.mpr ⟨ms_k1078, List.forall_mem_cons.mpr ⟨ms_k1079, List.forall_mem_cons.mpr ⟨ms_k1080, List.forall_mem_cons.mpr ⟨ms_k702, List.forall_mem_cons.mpr ⟨ms_k14, List.forall_mem_cons.mpr ⟨ms_k703, fun _ h => absurd h List.not_mem_nil⟩⟩⟩⟩⟩⟩) rfl ⟨by decide +kernel, by decide +kernel, (by decide +kernel : (parseMethodDescriptor "()Z").map (fun d => d.parameters.length) = some 0)⟩ (hm_recv hK I rfl c9) I ⟨rfl, rfl⟩ ⟨⟨Nat.le_of_ble_eq_true rfl, Nat.le_of_ble_eq_true rfl⟩, rm_0 hc, rm_0 hs⟩ rfl (Nat.le_of_ble_eq_true rfl) d255_14 (fun vv h32 z33 H locs hR I9 => ?_)
    obtain ⟨v31, e1, hF⟩ := hR
    subst e1
    clear I
    have I := I9
    clear I9 c9 fs9
    refine W.eq (g2 := F0 m 17 ls [.int v31]) rfl ?_
    refine lv_pop hx hb d255_17 rfl ?_
    exact b18 ls v21 c26 s27 _ _ h32 z33 _ _ hF hc hs (hl.sub [0] rfl) I

def w_Store_query (dA : Nat → ClassId) (y0 : Nat) (y1 : Int32) (rc rs : Nat) (K : Int32 → hm_T → hz_T → Prop) (h0 : hm_T) (z0 : hz_T) : Prop := (cg_c h0 0 y0 (cg_rm rc rs (fun c24 s25 c26 s27 => w_Store_useBuffer dA y0 c24 s25 (fun v21 h22 z23 => (cg_R h22 0 2 y0 (fun v28 => (cg_d v28 (fun a29 => (cg_c h22 1 a29 (w_Tree_find dA a29 y1 (fun v30 h31 z32 => (if v30 = none then (K (-1000) h31 z32) else (cg_new h31 c26 s27 10 3 [.null, .int 0, .int 0] (fun q33 c35 s36 h34 => (cg_c h34 10 q33 (cg_rm c35 s36 (fun c40 s41 c42 s43 => w_PathReader_init dA q33 v21 c40 s41 (fun h38 z39 => (cg_c h38 10 q33 (cg_rm c42 s43 (fun c47 s48 c49 s50 => w_PathReader_readWhole dA q33 c47 s48 (fun v44 h45 z46 => (cg_c h45 10 q33 (w_TextReader_failed10 dA q33 (fun v51 h52 z53 => (if v51 = 0 then (cg_new h52 c49 s50 14 1 [.null] (fun q54 c56 s57 h55 => (cg_R h55 0 2 y0 (fun v58 => (cg_c h55 14 q54 (w_Walker_init dA q54 v58 (fun h60 z61 => (cg_c h60 14 q54 (cg_rm c56 s57 (fun c65 s66 c67 s68 => w_T_Walker_prepare dA q54 v44 c65 s66 (fun h63 z64 => (cg_d v30 (fun a69 => (cg_I h63 8 6 a69 (fun v70 => (cg_c h63 14 q54 (w_Walker_goFrom dA q54 v70 v44 (fun v71 h72 z73 => (cg_c h72 0 y0 (w_Store_keepFound dA y0 v71 (fun h75 z76 => (cg_I h75 0 4 y0 (fun v77 => (K v77 h75 z76)))) h72 z73))) h63 z64))))))) h60 z61)))) h55 z53)))))) else (cg_I h52 10 2 q33 (fun v78 => (K ((-1) - v78) h52 z53))))) h45 z46))) h38 z39)))) h34 z32))))))) h22 z23))))))) h0 z0)))
set_option maxRecDepth 100000 in
set_option maxHeartbeats 8000000 in
theorem cw_Store_query (l : Launch) (D : va_G) (dA : Nat → ClassId) (s0 : State) (hW : ms_EW D dA s0) (y0 : Nat) (y1 : Int32) (rc rs : Nat) (h0 : hm_T) (z0 : hz_T) (K : Int32 → hm_T → hz_T → Prop) (hg : w_Store_query dA y0 y1 rc rs K h0 z0) : ht_C l D s0 yM256 bM256 7 (Option.some Jvm.ClassFile.FieldType.int) (170) (5460) rc rs [.ref y0, .int y1] (fun h z => h = h0 ∧ z = z0) (fun h z vv h1 z1 => ∃ v, vv = some (.int v) ∧ K v h1 z1) := by
  have hE := hW.1
  refine ht_C.mk hE.1 (by decide) (Nat.le_of_ble_eq_true rfl) [(0, .ref y0), (1, .int y1)] rfl ?_
  intro p e s m below meth c ls h z X hin hpre I hl
  have hx := X.1
  have hb := X.2.1
  have hml := X.2.2.1
  have hown : s.vm.findClass "MarkupStore" = some m.cls := X.2.2.2.1
  have hts := X.2.2.2.2.2.2.1
  have hK := X.2.2.2.2.2.2.2.2.1
  rw [hpre.1, hpre.2] at I
  clear hpre
  have hF := hg
  unfold w_Store_query at hF
  clear h z
  have hc : 0 + rc ≤ rc := by omega
  have hs : 0 + rs ≤ rs := by omega
  refine lv_aload_n hx hb d256_0 rfl (lv_at hl 0 rfl) ?_
  obtain ⟨fs9, c9, hF⟩ := hF
  obtain ⟨c24, s25, c26, s27, ec, es, hF⟩ := hF
  refine ht_V (C := "MarkupStore") (rest := []) (as := []) X hl (cw_Store_useBuffer l D dA s0 hW y0 c24 s25 h0 z0 _ hF) (List.forall_mem_cons.mpr ⟨ms_k237, List.forall_mem_cons.mpr ⟨ms_k239, List.forall_mem_cons.mpr ⟨ms_p0, List.forall_mem_cons.mpr ⟨ms_k1, List.forall_mem_cons.mpr ⟨ms_k240, fun _ h => absurd h List.not_mem_nil⟩⟩⟩⟩⟩) ⟨rfl, by decide +kernel, by decide +kernel, (by decide +kernel : (parseMethodDescriptor "()Ljava/lang/String;").map (fun d => d.parameters.length) = some 0)⟩ (hm_recv hK I rfl c9) I ⟨rfl, rfl⟩ ⟨⟨Nat.le_of_ble_eq_true rfl, Nat.le_of_ble_eq_true rfl⟩, (rm_u hc ec).1, (rm_u hs es).1⟩ rfl (Nat.le_of_ble_eq_true rfl) d256_1 (fun vv h22 z23 H locs hR I9 => ?_)
  obtain ⟨v21, e1, hF⟩ := hR
  subst e1
  clear I
  have I := I9
  clear I9 c9 fs9
  have hc := (rm_u hc ec).2
  have hs := (rm_u hs es).2
  clear ec es
  refine W.eq (g2 := F0 m 4 ls [va_rf v21]) rfl ?_
  refine lv_astore_nR hx hb d256_4 rfl hl (by decide) rfl (fun ls hl => ?_)
  have hl : lv_has ls 7 [(2, va_rf v21), (0, .ref y0), (1, .int y1)] := hl
  refine lv_aload_n hx hb d256_5 rfl (lv_at hl 1 rfl) ?_
  obtain ⟨fs9, v28, c9, e9, hF⟩ := hF
  refine va_get (D := D) (ci := 0) (v := va_rf v28) (C := kR0) (T := kT0) (N := 6) hx hb hts ku0 hown hK (hm_one I.1 c9) 0 rfl rfl 2 (by decide) (hts _ ms_k107) (fun _ h => h) e9 d256_6 ?_
  clear e9 c9 fs9
  refine lv_iload_n hx hb d256_9 rfl (lv_at hl 2 rfl) ?_
  obtain ⟨a29, e9, hF⟩ := hF
  refine W.eq (g2 := F0 m 10 ls [.int y1, .ref a29]) (by rw [e9]; rfl) ?_
  clear e9
  obtain ⟨fs9, c9, hF⟩ := hF
  refine ht_V (C := "MarkupStore$Tree") (rest := []) (as := [.int y1]) X hl (cw_Tree_find l D dA s0 hE a29 y1 h22 z23 _ hF) (List.forall_mem_cons.mpr ⟨ms_k745, List.forall_mem_cons.mpr ⟨ms_k746, List.forall_mem_cons.mpr ⟨ms_k747, List.forall_mem_cons.mpr ⟨ms_k6, List.forall_mem_cons.mpr ⟨ms_k748, fun _ h => absurd h List.not_mem_nil⟩⟩⟩⟩⟩) ⟨rfl, by decide +kernel, by decide +kernel, (by decide +kernel : (parseMethodDescriptor "(I)LMarkupStore$Node;").map (fun d => d.parameters.length) = some 1)⟩ (hm_recv hK I rfl c9) I ⟨rfl, rfl⟩ ⟨⟨Nat.le_of_ble_eq_true rfl, Nat.le_of_ble_eq_true rfl⟩, rm_0 hc, rm_0 hs⟩ rfl (Nat.le_of_ble_eq_true rfl) d256_10 (fun vv h31 z32 H locs hR I9 => ?_)
  obtain ⟨v30, e1, hF⟩ := hR
  subst e1
  clear I
  have I := I9
  clear I9 c9 fs9
  refine W.eq (g2 := F0 m 13 ls [va_rf v30]) rfl ?_
  refine lv_astore_nR (i := 3) hx hb d256_13 rfl hl (by decide) (show _ = [(3, va_rf v30), (2, va_rf v21), (0, .ref y0), (1, .int y1)] by simp [cat_rf, cat_int, cat_ref, cat_null, cat_long]) (fun ls hl => ?_)
  have hl : lv_has ls 7 [(3, va_rf v30), (2, va_rf v21), (0, .ref y0), (1, .int y1)] := hl
  refine lv_aload_nR hx hb d256_14 rfl (lv_at hl 0 rfl) ?_
  refine lv_ifnonnullR hx hb d256_15 rfl (fun h9 => ?_) (fun h9 => ?_)
  · have hF := Eq.mp (if_neg h9) hF
    obtain ⟨c35, s36, ec, es, hF⟩ := hF
    refine hm_mk (ci := 10) (fs := [.null, .int 0, .int 0]) (C := kR10) (T := kT10) (N := 3) X I ku10 kt10 kp10 (List.forall_mem_cons.mpr ⟨ms_k870, List.forall_mem_cons.mpr ⟨ms_k871, List.forall_mem_cons.mpr ⟨ms_k23, fun _ h => absurd h List.not_mem_nil⟩⟩⟩) rfl kz10 (rm_u hc ec).1 (rm_u hs es).1 d256_22 (fun q33 h34 H v9 e9 f9 I => ?_)
    have hF := hF q33 v9
    rw [← hm_eqU e9 f9] at hF
    clear e9 f9 v9
    have hc := (rm_u hc ec).2
    have hs := (rm_u hs es).2
    clear ec es
    refine lv_dup hx hb d256_25 rfl ?_
    refine lv_aload_nR hx hb d256_26 rfl (lv_at hl 1 rfl) ?_
    obtain ⟨fs9, c9, hF⟩ := hF
    obtain ⟨c40, s41, c42, s43, ec, es, hF⟩ := hF
    refine ht_I (rest := [.ref q33]) (as := [va_rf v21]) X hl (cw_PathReader_init l D dA s0 hW q33 v21 c40 s41 h34 z32 _ hF) (List.forall_mem_cons.mpr ⟨ms_k872, List.forall_mem_cons.mpr ⟨ms_k873, List.forall_mem_cons.mpr ⟨ms_k23, List.forall_mem_cons.mpr ⟨ms_k874, fun _ h => absurd h List.not_mem_nil⟩⟩⟩⟩) rfl ⟨by decide +kernel, by decide +kernel, (by decide +kernel : (parseMethodDescriptor "(Ljava/lang/String;)V").map (fun d => d.parameters.length) = some 1)⟩ I ⟨rfl, rfl⟩ ⟨⟨Nat.le_of_ble_eq_true rfl, Nat.le_of_ble_eq_true rfl⟩, (rm_u hc ec).1, (rm_u hs es).1⟩ rfl (Nat.le_of_ble_eq_true rfl) d256_27 (fun vv h38 z39 H locs hR I9 => ?_)
    obtain ⟨e1, hF⟩ := hR
    subst e1
    clear I
    have I := I9
    clear I9 c9 fs9
    have hc := (rm_u hc ec).2
    have hs := (rm_u hs es).2
    clear ec es
    refine W.eq (g2 := F0 m 30 ls [.ref q33]) rfl ?_
    refine lv_astore (i := 4) hx hb d256_30 hl (by decide) (show _ = [(4, .ref q33), (3, va_rf v30), (2, va_rf v21), (0, .ref y0), (1, .int y1)] by simp [cat_rf, cat_int, cat_ref, cat_null, cat_long]) (fun ls hl => ?_)
    have hl : lv_has ls 7 [(4, .ref q33), (3, va_rf v30), (2, va_rf v21), (0, .ref y0), (1, .int y1)] := hl
    refine lv_aload hx hb d256_32 (lv_at hl 0 rfl) ?_
    obtain ⟨fs9, c9, hF⟩ := hF
    obtain ⟨c47, s48, c49, s50, ec, es, hF⟩ := hF
    refine ht_V (C := "MarkupStore$PathReader") (rest := []) (as := []) X hl (cw_PathReader_readWhole l D dA s0 hW q33 c47 s48 h38 z39 _ hF) (List.forall_mem_cons.mpr ⟨ms_k880, List.forall_mem_cons.mpr ⟨ms_k881, List.forall_mem_cons.mpr ⟨ms_k882, List.forall_mem_cons.mpr ⟨ms_k23, List.forall_mem_cons.mpr ⟨ms_k883, fun _ h => absurd h List.not_mem_nil⟩⟩⟩⟩⟩) ⟨rfl, by decide +kernel, by decide +kernel, (by decide +kernel : (parseMethodDescriptor "()LMarkupStore$Path;").map (fun d => d.parameters.length) = some 0)⟩ (hm_recv hK I rfl c9) I ⟨rfl, rfl⟩ ⟨⟨Nat.le_of_ble_eq_true rfl, Nat.le_of_ble_eq_true rfl⟩, (rm_u hc ec).1, (rm_u hs es).1⟩ rfl (Nat.le_of_ble_eq_true rfl) d256_34 (fun vv h45 z46 H locs hR I9 => ?_)
    obtain ⟨v44, e1, hF⟩ := hR
    subst e1
    clear I
    have I := I9
    clear I9 c9 fs9
    have hc := (rm_u hc ec).2
    have hs := (rm_u hs es).2
    clear ec es
    refine W.eq (g2 := F0 m 37 ls [va_rf v44]) rfl ?_
    refine lv_astoreR hx hb d256_37 hl (by decide) rfl (fun ls hl => ?_)
    have hl : lv_has ls 7 [(5, va_rf v44), (4, .ref q33), (3, va_rf v30), (2, va_rf v21), (0, .ref y0), (1, .int y1)] := hl
    refine lv_aload hx hb d256_39 (lv_at hl 1 rfl) ?_
    obtain ⟨fs9, c9, hF⟩ := hF
    refine ht_U (C := "MarkupStore$PathReader") (x := ⟨"MarkupStore$PathReader", "failed", "()Z"⟩) (owner := "MarkupStore$TextReader") (rest := []) (as := []) X hl (cw_TextReader_failed10 l D dA s0 hE q33 h45 z46 _ hF) (List.forall_mem_cons.mpr ⟨ms_k1081, List.forall_mem_cons.mpr ⟨ms_k1004, List.forall_mem_cons.mpr ⟨ms_k1005, List.forall_mem_cons.mpr ⟨ms_k588, List.forall_mem_cons.mpr ⟨ms_k14, List.forall_mem_cons.mpr ⟨ms_k589, fun _ h => absurd h List.not_mem_nil⟩⟩⟩⟩⟩⟩) rfl ⟨by decide +kernel, by decide +kernel, (by decide +kernel : (parseMethodDescriptor "()Z").map (fun d => d.parameters.length) = some 0)⟩ (hm_recv hK I rfl c9) I ⟨rfl, rfl⟩ ⟨⟨Nat.le_of_ble_eq_true rfl, Nat.le_of_ble_eq_true rfl⟩, rm_0 hc, rm_0 hs⟩ rfl (Nat.le_of_ble_eq_true rfl) d256_41 (fun vv h52 z53 H locs hR I9 => ?_)
    obtain ⟨v51, e1, hF⟩ := hR
    subst e1
    clear I
    have I := I9
    clear I9 c9 fs9
    refine W.eq (g2 := F0 m 44 ls [.int v51]) rfl ?_
    refine lv_if_eq hx hb d256_44 rfl (fun h9 => ?_) (fun h9 => ?_)
    · have hF := Eq.mp (if_pos h9) hF
      obtain ⟨c56, s57, ec, es, hF⟩ := hF
      refine hm_mk (ci := 14) (fs := [.null]) (C := kR14) (T := kT14) (N := 1) X I ku14 kt14 kp14 (List.forall_mem_cons.mpr ⟨ms_k1082, List.forall_mem_cons.mpr ⟨ms_k1083, List.forall_mem_cons.mpr ⟨ms_k28, fun _ h => absurd h List.not_mem_nil⟩⟩⟩) rfl kz14 (rm_u hc ec).1 (rm_u hs es).1 d256_55 (fun q54 h55 H v9 e9 f9 I => ?_)
      have hF := hF q54 v9
      rw [← hm_eqU e9 f9] at hF
      clear e9 f9 v9
      have hc := (rm_u hc ec).2
      have hs := (rm_u hs es).2
      clear ec es
      refine lv_dup hx hb d256_58 rfl ?_
      refine lv_aload_n hx hb d256_59 rfl (lv_at hl 4 rfl) ?_
      obtain ⟨fs9, v58, c9, e9, hF⟩ := hF
      refine va_get (D := D) (ci := 0) (v := va_rf v58) (C := kR0) (T := kT0) (N := 6) hx hb hts ku0 hown hK (hm_one I.1 c9) 0 rfl rfl 2 (by decide) (hts _ ms_k107) (fun _ h => h) e9 d256_60 ?_
      clear e9 c9 fs9
      obtain ⟨fs9, c9, hF⟩ := hF
      refine ht_I (rest := [.ref q54]) (as := [va_rf v58]) X hl (cw_Walker_init l D dA s0 hE q54 v58 h55 z53 _ hF) (List.forall_mem_cons.mpr ⟨ms_k1084, List.forall_mem_cons.mpr ⟨ms_k1085, List.forall_mem_cons.mpr ⟨ms_k28, List.forall_mem_cons.mpr ⟨ms_k1086, fun _ h => absurd h List.not_mem_nil⟩⟩⟩⟩) rfl ⟨by decide +kernel, by decide +kernel, (by decide +kernel : (parseMethodDescriptor "(LMarkupStore$Tree;)V").map (fun d => d.parameters.length) = some 1)⟩ I ⟨rfl, rfl⟩ ⟨⟨Nat.le_of_ble_eq_true rfl, Nat.le_of_ble_eq_true rfl⟩, rm_0 hc, rm_0 hs⟩ rfl (Nat.le_of_ble_eq_true rfl) d256_63 (fun vv h60 z61 H locs hR I9 => ?_)
      obtain ⟨e1, hF⟩ := hR
      subst e1
      clear I
      have I := I9
      clear I9 c9 fs9
      refine W.eq (g2 := F0 m 66 ls [.ref q54]) rfl ?_
      refine lv_astore (i := 6) hx hb d256_66 hl (by decide) (show _ = [(6, .ref q54), (5, va_rf v44), (4, .ref q33), (3, va_rf v30), (2, va_rf v21), (0, .ref y0), (1, .int y1)] by simp [cat_rf, cat_int, cat_ref, cat_null, cat_long]) (fun ls hl => ?_)
      have hl : lv_has ls 7 [(6, .ref q54), (5, va_rf v44), (4, .ref q33), (3, va_rf v30), (2, va_rf v21), (0, .ref y0), (1, .int y1)] := hl
      refine lv_aload hx hb d256_68 (lv_at hl 0 rfl) ?_
      refine lv_aloadR hx hb d256_70 (lv_at hl 1 rfl) ?_
      obtain ⟨fs9, c9, hF⟩ := hF
      obtain ⟨c65, s66, c67, s68, ec, es, hF⟩ := hF
      refine ht_V (C := "MarkupStore$Walker") (rest := []) (as := [va_rf v44]) X hl (cw_T_Walker_prepare l D dA s0 hW q54 v44 c65 s66 h60 z61 _ hF) (List.forall_mem_cons.mpr ⟨ms_k1092, List.forall_mem_cons.mpr ⟨ms_k1093, List.forall_mem_cons.mpr ⟨ms_k1094, List.forall_mem_cons.mpr ⟨ms_k28, List.forall_mem_cons.mpr ⟨ms_k1095, fun _ h => absurd h List.not_mem_nil⟩⟩⟩⟩⟩) ⟨rfl, by decide +kernel, by decide +kernel, (by decide +kernel : (parseMethodDescriptor "(LMarkupStore$Path;)V").map (fun d => d.parameters.length) = some 1)⟩ (hm_recv hK I rfl c9) I ⟨rfl, rfl⟩ ⟨⟨Nat.le_of_ble_eq_true rfl, Nat.le_of_ble_eq_true rfl⟩, (rm_u hc ec).1, (rm_u hs es).1⟩ rfl (Nat.le_of_ble_eq_true rfl) d256_72 (fun vv h63 z64 H locs hR I9 => ?_)
      obtain ⟨e1, hF⟩ := hR
      subst e1
      clear I
      have I := I9
      clear I9 c9 fs9
      have hc := (rm_u hc ec).2
      have hs := (rm_u hs es).2
      clear ec es
      refine W.eq (g2 := F0 m 75 ls []) rfl ?_
      refine lv_aload_n hx hb d256_75 rfl (lv_at hl 5 rfl) ?_
      refine lv_aload hx hb d256_76 (lv_at hl 0 rfl) ?_
      refine lv_aload_nR hx hb d256_78 rfl (lv_at hl 3 rfl) ?_
      obtain ⟨a69, e9, hF⟩ := hF
      refine W.eq (g2 := F0 m 79 ls [.ref a69, .ref q54, .ref y0]) (by rw [e9]; rfl) ?_
      clear e9
      obtain ⟨fs9, v70, c9, e9, hF⟩ := hF
      refine va_get (D := D) (ci := 8) (v := .int v70) (C := kR8) (T := kT8) (N := 9) hx hb hts ku8 hown hK (hm_one I.1 c9) 0 rfl rfl 6 (by decide) (hts _ ms_k464) (fun _ h => h) e9 d256_79 ?_
      clear e9 c9 fs9
      refine lv_aloadR hx hb d256_82 (lv_at hl 1 rfl) ?_
      obtain ⟨fs9, c9, hF⟩ := hF
      refine ht_V (C := "MarkupStore$Walker") (rest := [.ref y0]) (as := [.int v70, va_rf v44]) X hl (cw_Walker_goFrom l D dA s0 hE q54 v70 v44 h63 z64 _ hF) (List.forall_mem_cons.mpr ⟨ms_k1181, List.forall_mem_cons.mpr ⟨ms_k1182, List.forall_mem_cons.mpr ⟨ms_k1183, List.forall_mem_cons.mpr ⟨ms_k28, List.forall_mem_cons.mpr ⟨ms_k1184, fun _ h => absurd h List.not_mem_nil⟩⟩⟩⟩⟩) ⟨rfl, by decide +kernel, by decide +kernel, (by decide +kernel : (parseMethodDescriptor "(ILMarkupStore$Path;)J").map (fun d => d.parameters.length) = some 2)⟩ (hm_recv hK I rfl c9) I ⟨rfl, rfl⟩ ⟨⟨Nat.le_of_ble_eq_true rfl, Nat.le_of_ble_eq_true rfl⟩, rm_0 hc, rm_0 hs⟩ rfl (Nat.le_of_ble_eq_true rfl) d256_84 (fun vv h72 z73 H locs hR I9 => ?_)
      obtain ⟨v71, e1, hF⟩ := hR
      subst e1
      clear I
      have I := I9
      clear I9 c9 fs9
      refine W.eq (g2 := F0 m 87 ls [.long v71, .ref y0]) rfl ?_
      obtain ⟨fs9, c9, hF⟩ := hF
      refine ht_V (C := "MarkupStore") (rest := []) (as := [.long v71]) X hl (cw_Store_keepFound l D dA s0 hE y0 v71 h72 z73 _ hF) (List.forall_mem_cons.mpr ⟨ms_k1192, List.forall_mem_cons.mpr ⟨ms_k1194, List.forall_mem_cons.mpr ⟨ms_p38, List.forall_mem_cons.mpr ⟨ms_k1, List.forall_mem_cons.mpr ⟨ms_k1195, fun _ h => absurd h List.not_mem_nil⟩⟩⟩⟩⟩) ⟨rfl, by decide +kernel, by decide +kernel, (by decide +kernel : (parseMethodDescriptor "(J)V").map (fun d => d.parameters.length) = some 1)⟩ (hm_recv hK I rfl c9) I ⟨rfl, rfl⟩ ⟨⟨Nat.le_of_ble_eq_true rfl, Nat.le_of_ble_eq_true rfl⟩, rm_0 hc, rm_0 hs⟩ rfl (Nat.le_of_ble_eq_true rfl) d256_87 (fun vv h75 z76 H locs hR I9 => ?_)
      obtain ⟨e1, hF⟩ := hR
      subst e1
      clear I
      have I := I9
      clear I9 c9 fs9
      refine W.eq (g2 := F0 m 90 ls []) rfl ?_
      refine lv_aload_n hx hb d256_90 rfl (lv_at hl 5 rfl) ?_
      obtain ⟨fs9, v77, c9, e9, hF⟩ := hF
      refine va_get (D := D) (ci := 0) (v := .int v77) (C := kR0) (T := kT0) (N := 6) hx hb hts ku0 hown hK (hm_one I.1 c9) 0 rfl rfl 4 (by decide) (hts _ ms_k109) (fun _ h => h) e9 d256_91 ?_
      clear e9 c9 fs9
      exact ht_iret X d256_94 I (rm_r hc) (rm_r hs) ⟨_, rfl, hF⟩
    · have hF := Eq.mp (if_neg h9) hF
      refine lv_iconst (v := (-1)) hx hb d256_47 (by decide) ?_
      refine lv_aload hx hb d256_48 (lv_at hl 1 rfl) ?_
      obtain ⟨fs9, v78, c9, e9, hF⟩ := hF
      refine va_get (D := D) (ci := 10) (v := .int v78) (C := kR10) (T := kT10) (N := 3) hx hb hts ku10 hown hK (hm_one I.1 c9) 0 rfl rfl 2 (by decide) (hts _ ms_k365) (fun x9 h9 => u_same (hts _ ms_k366) x9 h9) e9 d256_50 ?_
      clear e9 c9 fs9
      refine lv_isub hx hb d256_53 ?_
      exact ht_iret X d256_54 I (rm_r hc) (rm_r hs) ⟨_, rfl, hF⟩
  · have hF := Eq.mp (if_pos h9) hF
    refine lv_sipush (v := (-1000)) hx hb d256_18 (by decide) ?_
    exact ht_iret X d256_21 I (rm_r hc) (rm_r hs) ⟨_, rfl, hF⟩
