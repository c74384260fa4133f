
def w_Walker_settle (dA : Nat → ClassId) (P : Nat → Option Nat → Nat → Nat → (hm_T → hz_T → Prop) → hm_T → hz_T → Prop) (y0 : Nat) (y1 : Option Nat) (rc rs : Nat) (K : hm_T → hz_T → Prop) (h0 : hm_T) (z0 : hz_T) : Prop := (cg_d y1 (fun a21 => (cg_I h0 13 0 a21 (fun v22 => (if v22 = 64 then (cg_c h0 14 y0 (w_Walker_withAttribute dA y0 y1 (fun v44 h45 z46 => (cg_d y1 (fun a47 => (cg_p h45 13 7 a47 (.long v44) (fun h48 => (K h48 z46)))))) h0 z0)) else (cg_d y1 (fun a23 => (cg_R h0 13 4 a23 (fun v24 => (if v24 = none then (K h0 z0) else (cg_d y1 (fun a25 => (cg_R h0 13 4 a25 (fun v26 => (cg_c h0 14 y0 (cg_rm rc rs (fun c30 s31 c32 s33 => P y0 v26 c30 s31 (fun h28 z29 => (cg_d y1 (fun a34 => (cg_R h28 13 4 a34 (fun v35 => (cg_c h28 14 y0 (w_Walker_goals dA y0 y1 (fun v36 h37 z38 => (cg_c h37 14 y0 (w_Walker_origins dA y0 v35 v36 (fun v39 h40 z41 => (cg_d y1 (fun a42 => (cg_p h40 13 7 a42 (.long v39) (fun h43 => (K h43 z41)))))) h37 z38))) h28 z29))))))) h0 z0)))))))))))))))))
set_option maxRecDepth 100000 in
set_option maxHeartbeats 8000000 in
theorem cw_Walker_settle (l : Launch) (D : va_G) (dA : Nat → ClassId) (s0 : State) (hW : ms_EW D dA s0) (P : Nat → Option Nat → Nat → Nat → (hm_T → hz_T → Prop) → hm_T → hz_T → Prop) (fP lP : Nat) (hP : ∀ (a0_ : Nat) (a1_ : Option Nat) (c1 s1 : Nat) (h0 : hm_T) (z0 : hz_T) (K : hm_T → hz_T → Prop), P a0_ a1_ c1 s1 K h0 z0 → ht_C l D s0 yM242 bM242 5 (Option.none : Option Jvm.ClassFile.FieldType) fP lP c1 s1 [.ref a0_, va_rf a1_] (fun h z => h = h0 ∧ z = z0) (fun h z vv h1 z1 => vv = none ∧ K h1 z1)) (y0 : Nat) (y1 : Option Nat) (rc rs : Nat) (h0 : hm_T) (z0 : hz_T) (K : hm_T → hz_T → Prop) (hg : w_Walker_settle dA P y0 y1 rc rs K h0 z0) : ht_C l D s0 yM243 bM243 2 (Option.none : Option Jvm.ClassFile.FieldType) (fP + 6) (lP + 144) rc rs [.ref y0, va_rf y1] (fun h z => h = h0 ∧ z = z0) (fun h z vv h1 z1 => vv = none ∧ K h1 z1) := by
  have hE := hW.1
  refine ht_C.mk hE.1 (by decide) (by simp [lg_sl, cat_rf, cat_int, cat_ref, cat_null, cat_long]) [(0, .ref y0), (1, va_rf y1)] (by simp [lv_args, cat_rf, cat_int, cat_ref, cat_null, cat_long]) ?_
  intro p e s m below meth c ls h z X hin hpre I hl
  have hx := X.1
  have hb := X.2.1
  have hml := X.2.2.1
  have hown : s.vm.findClass "MarkupStore$Walker" = some m.cls := X.2.2.2.1
  have hts := X.2.2.2.2.2.2.1
  have hK := X.2.2.2.2.2.2.2.2.1
  rw [hpre.1, hpre.2] at I
  clear hpre
  have hF := hg
  unfold w_Walker_settle at hF
  clear h z
  have hc : 0 + rc ≤ rc := by omega
  have hs : 0 + rs ≤ rs := by omega
  refine lv_aload_nR hx hb d243_0 rfl (lv_at hl 1 rfl) ?_
  obtain ⟨a21, e9, hF⟩ := hF
  refine W.eq (g2 := F0 m 1 ls [.ref a21]) (by rw [e9]; rfl) ?_
  clear e9
  obtain ⟨fs9, v22, c9, e9, hF⟩ := hF
  refine va_get (D := D) (ci := 13) (v := .int v22) (C := kR13) (T := kT13) (N := 8) hx hb hts ku13 hown hK (hm_one I.1 c9) 0 rfl rfl 0 (by decide) (hts _ ms_k1021) (fun _ h => h) e9 d243_1 ?_
  clear e9 c9 fs9
  refine lv_bipush (v := 64) hx hb d243_4 (by decide) ?_
  refine lv_icmp_ne hx hb d243_6 rfl (fun h9 => ?_) (fun h9 => ?_)
  · have hF := Eq.mp (if_neg h9) hF
    refine lv_aload_nR hx hb d243_21 rfl (lv_at hl 1 rfl) ?_
    obtain ⟨a23, e9, hF⟩ := hF
    refine W.eq (g2 := F0 m 22 ls [.ref a23]) (by rw [e9]; rfl) ?_
    clear e9
    obtain ⟨fs9, v24, c9, e9, hF⟩ := hF
    refine va_get (D := D) (ci := 13) (v := va_rf v24) (C := kR13) (T := kT13) (N := 8) hx hb hts ku13 hown hK (hm_one I.1 c9) 0 rfl rfl 4 (by decide) (hts _ ms_k1033) (fun _ h => h) e9 d243_22 ?_
    clear e9 c9 fs9
    refine lv_ifnullR hx hb d243_25 rfl (fun h9 => ?_) (fun h9 => ?_)
    · have hF := Eq.mp (if_pos h9) hF
      exact ht_vret X d243_53 I (rm_r hc) (rm_r hs) ⟨rfl, hF⟩
    · have hF := Eq.mp (if_neg h9) hF
      refine lv_aload_n hx hb d243_28 rfl (lv_at hl 0 rfl) ?_
      refine lv_aload_nR hx hb d243_29 rfl (lv_at hl 1 rfl) ?_
      obtain ⟨a25, e9, hF⟩ := hF
      refine W.eq (g2 := F0 m 30 ls [.ref a25, .ref y0]) (by rw [e9]; rfl) ?_
      clear e9
      obtain ⟨fs9, v26, c9, e9, hF⟩ := hF
      refine va_get (D := D) (ci := 13) (v := va_rf v26) (C := kR13) (T := kT13) (N := 8) hx hb hts ku13 hown hK (hm_one I.1 c9) 0 rfl rfl 4 (by decide) (hts _ ms_k1033) (fun _ h => h) e9 d243_30 ?_
      clear e9 c9 fs9
      obtain ⟨fs9, c9, hF⟩ := hF
      obtain ⟨c30, s31, c32, s33, ec, es, hF⟩ := hF
      refine ht_V (C := "MarkupStore$Walker") (rest := []) (as := [va_rf v26]) X hl (hP y0 v26 c30 s31 h0 z0 _ hF) (List.forall_mem_cons.mpr ⟨ms_k1119, List.forall_mem_cons.mpr ⟨ms_k1093, List.forall_mem_cons.mpr ⟨ms_k1094, List.forall_mem_cons.mpr ⟨ms_k28, List.forall_mem_cons.mpr ⟨ms_k1095, fun _ h => absurd h List.not_mem_nil⟩⟩⟩⟩⟩) ⟨rfl, by decide +kernel, by decide +kernel, (by decide +kernel : (parseMethodDescriptor "(LMarkupStore$Path;)V").map (fun d => d.parameters.length) = some 1)⟩ (hm_recv hK I rfl c9) I ⟨rfl, rfl⟩ ⟨⟨by show _ ≤ fP + 6; omega, by show _ ≤ lP + 144; omega⟩, (rm_u hc ec).1, (rm_u hs es).1⟩ rfl (Nat.le_of_ble_eq_true rfl) d243_33 (fun vv h28 z29 H locs hR I9 => ?_)
      obtain ⟨e1, hF⟩ := hR
      subst e1
      clear I
      have I := I9
      clear I9 c9 fs9
      have hc := (rm_u hc ec).2
      have hs := (rm_u hs es).2
      clear ec es
      refine W.eq (g2 := F0 m 36 ls []) rfl ?_
      refine lv_aload_nR hx hb d243_36 rfl (lv_at hl 1 rfl) ?_
      refine lv_aload_n hx hb d243_37 rfl (lv_at hl 0 rfl) ?_
      refine lv_aload_nR hx hb d243_38 rfl (lv_at hl 1 rfl) ?_
      obtain ⟨a34, e9, hF⟩ := hF
      refine W.eq (g2 := F0 m 39 ls [.ref a34, .ref y0, va_rf y1]) (by rw [e9]; rfl) ?_
      clear e9
      obtain ⟨fs9, v35, c9, e9, hF⟩ := hF
      refine va_get (D := D) (ci := 13) (v := va_rf v35) (C := kR13) (T := kT13) (N := 8) hx hb hts ku13 hown hK (hm_one I.1 c9) 0 rfl rfl 4 (by decide) (hts _ ms_k1033) (fun _ h => h) e9 d243_39 ?_
      clear e9 c9 fs9
      refine lv_aload_n hx hb d243_42 rfl (lv_at hl 0 rfl) ?_
      refine lv_aload_nR hx hb d243_43 rfl (lv_at hl 1 rfl) ?_
      obtain ⟨fs9, c9, hF⟩ := hF
      refine ht_V (C := "MarkupStore$Walker") (rest := [va_rf v35, .ref y0, va_rf y1]) (as := [va_rf y1]) X hl (cw_Walker_goals l D dA s0 hE y0 y1 h28 z29 _ hF) (List.forall_mem_cons.mpr ⟨ms_k1120, List.forall_mem_cons.mpr ⟨ms_k1122, List.forall_mem_cons.mpr ⟨ms_p26, List.forall_mem_cons.mpr ⟨ms_k28, List.forall_mem_cons.mpr ⟨ms_k1123, fun _ h => absurd h List.not_mem_nil⟩⟩⟩⟩⟩) ⟨rfl, by decide +kernel, by decide +kernel, (by decide +kernel : (parseMethodDescriptor "(LMarkupStore$Predicate;)J").map (fun d => d.parameters.length) = some 1)⟩ (hm_recv hK I rfl c9) I ⟨rfl, rfl⟩ ⟨⟨by show _ ≤ fP + 6; omega, by show _ ≤ lP + 144; omega⟩, rm_0 hc, rm_0 hs⟩ rfl (by simp [cat_rf, cat_int, cat_ref, cat_null, cat_long]) d243_44 (fun vv h37 z38 H locs hR I9 => ?_)
      obtain ⟨v36, e1, hF⟩ := hR
      subst e1
      clear I
      have I := I9
      clear I9 c9 fs9
      refine W.eq (g2 := F0 m 47 ls [.long v36, va_rf v35, .ref y0, va_rf y1]) rfl ?_
      obtain ⟨fs9, c9, hF⟩ := hF
      refine ht_V (C := "MarkupStore$Walker") (rest := [va_rf y1]) (as := [va_rf v35, .long v36]) X hl (cw_Walker_origins l D dA s0 hE y0 v35 v36 h37 z38 _ hF) (List.forall_mem_cons.mpr ⟨ms_k1134, List.forall_mem_cons.mpr ⟨ms_k1136, List.forall_mem_cons.mpr ⟨ms_p28, List.forall_mem_cons.mpr ⟨ms_k28, List.forall_mem_cons.mpr ⟨ms_k1137, fun _ h => absurd h List.not_mem_nil⟩⟩⟩⟩⟩) ⟨rfl, by decide +kernel, by decide +kernel, (by decide +kernel : (parseMethodDescriptor "(LMarkupStore$Path;J)J").map (fun d => d.parameters.length) = some 2)⟩ (hm_recv hK I rfl c9) I ⟨rfl, rfl⟩ ⟨⟨by show _ ≤ fP + 6; omega, by show _ ≤ lP + 144; omega⟩, rm_0 hc, rm_0 hs⟩ rfl (by simp [cat_rf, cat_int, cat_ref, cat_null, cat_long]) d243_47 (fun vv h40 z41 H locs hR I9 => ?_)
      obtain ⟨v39, e1, hF⟩ := hR
      subst e1
      clear I
      have I := I9
      clear I9 c9 fs9
      refine W.eq (g2 := F0 m 50 ls [.long v39, va_rf y1]) rfl ?_
      obtain ⟨a42, e9, hF⟩ := hF
      refine W.eq (g2 := F0 m 50 ls [.long v39, .ref a42]) (by rw [e9]; rfl) ?_
      clear e9
      obtain ⟨fs9, c9, k9, hF⟩ := hF
      refine hm_put (ci := 13) (v := .long v39) (ty := .long) (C := kR13) (T := kT13) (N := 8) X I ku13 kt13 kp13 kn13 c9 rfl 7 (by decide) ms_k1042 (fun _ h => h) rfl (by decide +kernel) rfl rfl k9 d243_50 (fun h43 H locs e9 f9 I => ?_)
      rw [← hm_eqU e9 f9] at hF
      clear e9 f9 c9 k9
      exact ht_vret X d243_53 I (rm_r hc) (rm_r hs) ⟨rfl, hF⟩
  · have hF := Eq.mp (if_pos h9) hF
    refine lv_aload_nR hx hb d243_9 rfl (lv_at hl 1 rfl) ?_
    refine lv_aload_n hx hb d243_10 rfl (lv_at hl 0 rfl) ?_
    refine lv_aload_nR hx hb d243_11 rfl (lv_at hl 1 rfl) ?_
    obtain ⟨fs9, c9, hF⟩ := hF
    refine ht_V (C := "MarkupStore$Walker") (rest := [va_rf y1]) (as := [va_rf y1]) X hl (cw_Walker_withAttribute l D dA s0 hE y0 y1 h0 z0 _ hF) (List.forall_mem_cons.mpr ⟨ms_k1109, List.forall_mem_cons.mpr ⟨ms_k1111, List.forall_mem_cons.mpr ⟨ms_p25, List.forall_mem_cons.mpr ⟨ms_k28, List.forall_mem_cons.mpr ⟨ms_k1112, fun _ h => absurd h List.not_mem_nil⟩⟩⟩⟩⟩) ⟨rfl, by decide +kernel, by decide +kernel, (by decide +kernel : (parseMethodDescriptor "(LMarkupStore$Predicate;)J").map (fun d => d.parameters.length) = some 1)⟩ (hm_recv hK I rfl c9) I ⟨rfl, rfl⟩ ⟨⟨by show _ ≤ fP + 6; omega, by show _ ≤ lP + 144; omega⟩, rm_0 hc, rm_0 hs⟩ rfl (by simp [cat_rf, cat_int, cat_ref, cat_null, cat_long]) d243_12 (fun vv h45 z46 H locs hR I9 => ?_)
    obtain ⟨v44, e1, hF⟩ := hR
    subst e1
    clear I
    have I := I9
    clear I9 c9 fs9
    refine W.eq (g2 := F0 m 15 ls [.long v44, va_rf y1]) rfl ?_
    obtain ⟨a47, e9, hF⟩ := hF
    refine W.eq (g2 := F0 m 15 ls [.long v44, .ref a47]) (by rw [e9]; rfl) ?_
    clear e9
    obtain ⟨fs9, c9, k9, hF⟩ := hF
    refine hm_put (ci := 13) (v := .long v44) (ty := .long) (C := kR13) (T := kT13) (N := 8) X I ku13 kt13 kp13 kn13 c9 rfl 7 (by decide) ms_k1042 (fun _ h => h) rfl (by decide +kernel) rfl rfl k9 d243_15 (fun h48 H locs e9 f9 I => ?_)
    rw [← hm_eqU e9 f9] at hF
    clear e9 f9 c9 k9
    refine lv_goto hx hb d243_18 rfl ?_
    exact ht_vret X d243_53 I (rm_r hc) (rm_r hs) ⟨rfl, hF⟩

def w_F_Walker_prepare (dA : Nat → ClassId) : Nat → Nat → Option Nat → Nat → Nat → (hm_T → hz_T → Prop) → hm_T → hz_T → Prop
  | 0, _, _, _, _, _, _, _ => False
  | n + 1, y0_, y1_, c, s, K, h, z => w_Walker_prepare dA (w_Walker_settle dA (w_F_Walker_prepare dA n)) y0_ y1_ c s K h z
theorem cw_F_Walker_prepare (l : Launch) (D : va_G) (dA : Nat → ClassId) (s0 : State) (hW : ms_EW D dA s0) : ∀ n : Nat, ∀ (a0_ : Nat) (a1_ : Option Nat) (c1 s1 : Nat) (h0 : hm_T) (z0 : hz_T) (K : hm_T → hz_T → Prop), w_F_Walker_prepare dA n a0_ a1_ c1 s1 K h0 z0 → ht_C l D s0 yM242 bM242 5 (Option.none : Option Jvm.ClassFile.FieldType) (9 * n) (209 * n) c1 s1 [.ref a0_, va_rf a1_] (fun h z => h = h0 ∧ z = z0) (fun h z vv h1 z1 => vv = none ∧ K h1 z1) := by
  intro n
  induction n with
  | zero => intro a0_ a1_ c1 s1 h0 z0 K hg; exact absurd hg (by simp [w_F_Walker_prepare])
  | succ n ih =>
    intro a0_ a1_ c1 s1 h0 z0 K hg
    unfold w_F_Walker_prepare at hg
    have q := cw_Walker_prepare l D dA s0 hW (w_Walker_settle dA (w_F_Walker_prepare dA n)) ((9 * n) + 6) ((209 * n) + 144) (fun b0_ b1_ c1 s1 h0 z0 K hg => cw_Walker_settle l D dA s0 hW (w_F_Walker_prepare dA n) (9 * n) (209 * n) ih b0_ b1_ c1 s1 h0 z0 K hg) a0_ a1_ c1 s1 h0 z0 K hg
    rw [show 9 * (n + 1) = ((9 * n) + 6) + 3 by omega, show 209 * (n + 1) = ((209 * n) + 144) + 65 by omega]
    exact q
def w_T_Walker_prepare (dA : Nat → ClassId) (y0 : Nat) (y1 : Option Nat) (rc rs : Nat) (K : hm_T → hz_T → Prop) (h0 : hm_T) (z0 : hz_T) : Prop := w_F_Walker_prepare dA 8 y0 y1 rc rs K h0 z0
theorem cw_T_Walker_prepare (l : Launch) (D : va_G) (dA : Nat → ClassId) (s0 : State) (hW : ms_EW D dA s0) (y0 : Nat) (y1 : Option Nat) (rc rs : Nat) (h0 : hm_T) (z0 : hz_T) (K : hm_T → hz_T → Prop) (hg : w_T_Walker_prepare dA y0 y1 rc rs K h0 z0) : ht_C l D s0 yM242 bM242 5 (Option.none : Option Jvm.ClassFile.FieldType) 72 1672 rc rs [.ref y0, va_rf y1] (fun h z => h = h0 ∧ z = z0) (fun h z vv h1 z1 => vv = none ∧ K h1 z1) := (cw_F_Walker_prepare l D dA s0 hW 8) y0 y1 rc rs h0 z0 K hg
def w_T_Walker_settle (dA : Nat → ClassId) (y0 : Nat) (y1 : Option Nat) (rc rs : Nat) (K : hm_T → hz_T → Prop) (h0 : hm_T) (z0 : hz_T) : Prop := w_Walker_settle dA (w_F_Walker_prepare dA 8) y0 y1 rc rs K h0 z0
theorem cw_T_Walker_settle (l : Launch) (D : va_G) (dA : Nat → ClassId) (s0 : State) (hW : ms_EW D dA s0) (y0 : Nat) (y1 : Option Nat) (rc rs : Nat) (h0 : hm_T) (z0 : hz_T) (K : hm_T → hz_T → Prop) (hg : w_T_Walker_settle dA y0 y1 rc rs K h0 z0) : ht_C l D s0 yM243 bM243 2 (Option.none : Option Jvm.ClassFile.FieldType) 78 1816 rc rs [.ref y0, va_rf y1] (fun h z => h = h0 ∧ z = z0) (fun h z vv h1 z1 => vv = none ∧ K h1 z1) := (fun b0_ b1_ c1 s1 h0 z0 K hg => cw_Walker_settle l D dA s0 hW (w_F_Walker_prepare dA 8) (9 * 8) (209 * 8) (cw_F_Walker_prepare l D dA s0 hW 8) b0_ b1_ c1 s1 h0 z0 K hg) y0 y1 rc rs h0 z0 K hg

def w_Store_init (dA : Nat → ClassId) (y0 : Nat) (rc rs : Nat) (K : hm_T → hz_T → Prop) (h0 : hm_T) (z0 : hz_T) : Prop := (cg_new h0 rc rs 3 4 [.null, .int 0, .int 0, .int 0] (fun q21 c23 s24 h22 => (cg_c h22 3 q21 (cg_rm c23 s24 (fun c28 s29 c30 s31 => w_SB_init dA q21 c28 s29 (fun h26 z27 => (cg_p h26 0 0 y0 (.ref q21) (fun h32 => (cg_new h32 c30 s31 3 4 [.null, .int 0, .int 0, .int 0] (fun q33 c35 s36 h34 => (cg_c h34 3 q33 (cg_rm c35 s36 (fun c40 s41 c42 s43 => w_SB_init dA q33 c40 s41 (fun h38 z39 => (cg_p h38 0 1 y0 (.ref q33) (fun h44 => (cg_new h44 c42 s43 1 6 [.null, .int 0, .null, .int 0, .null, .int 0] (fun q45 c47 s48 h46 => (cg_c h46 1 q45 (cg_rm c47 s48 (fun c52 s53 c54 s55 => w_Tree_init dA q45 c52 s53 (fun h50 z51 => (cg_p h50 0 2 y0 (.ref q45) (fun h56 => (cg_na dA h56 c54 s55 0 40 (fun q57 c59 s60 h58 => (cg_p h58 0 3 y0 (.ref q57) (fun h61 => (cg_p h61 0 4 y0 (.int 0) (fun h62 => (cg_p h62 0 5 y0 (.int 0) (fun h63 => (K h63 z51)))))))))))) h46 z39)))))))) h34 z27)))))))) h22 z0)))))
set_option maxRecDepth 100000 in
set_option maxHeartbeats 8000000 in
theorem cw_Store_init (l : Launch) (D : va_G) (dA : Nat → ClassId) (s0 : State) (hW : ms_EW D dA s0) (y0 : Nat) (rc rs : Nat) (h0 : hm_T) (z0 : hz_T) (K : hm_T → hz_T → Prop) (hg : w_Store_init dA y0 rc rs K h0 z0) : ht_C l D s0 yM244 bM244 1 (Option.none : Option Jvm.ClassFile.FieldType) (3) (53) rc rs [.ref y0] (fun h z => h = h0 ∧ z = z0) (fun h z vv h1 z1 => vv = none ∧ K h1 z1) := by
  have hE := hW.1
  refine ht_C.mk hE.1 (by decide) (Nat.le_of_ble_eq_true rfl) [(0, .ref y0)] rfl ?_
  intro p e s m below meth c ls h z X hin hpre I hl
  have hx := X.1
  have hb := X.2.1
  have hml := X.2.2.1
  have hown : s.vm.findClass "MarkupStore" = some m.cls := X.2.2.2.1
  have hts := X.2.2.2.2.2.2.1
  have hK := X.2.2.2.2.2.2.2.2.1
  rw [hpre.1, hpre.2] at I
  clear hpre
  have hF := hg
  unfold w_Store_init at hF
  clear h z
  have hc : 0 + rc ≤ rc := by omega
  have hs : 0 + rs ≤ rs := by omega
  refine lv_aload_n hx hb d244_0 rfl (lv_at hl 0 rfl) ?_
  refine W.objInit hx hb hown (hts _ ms_k36) (hts _ ms_k37) (hts _ ms_k38) rfl (by rw [hml]; exact hl.1) rfl d244_1 (Nat.le_of_ble_eq_true rfl) (Nat.le_of_ble_eq_true rfl) ?_
  refine W.eq (g2 := F0 m 4 ls []) rfl ?_
  refine lv_aload_n hx hb d244_4 rfl (lv_at hl 0 rfl) ?_
  obtain ⟨c23, s24, ec, es, hF⟩ := hF
  refine hm_mk (ci := 3) (fs := [.null, .int 0, .int 0, .int 0]) (C := kR3) (T := kT3) (N := 4) X I ku3 kt3 kp3 (List.forall_mem_cons.mpr ⟨ms_k39, List.forall_mem_cons.mpr ⟨ms_k40, List.forall_mem_cons.mpr ⟨ms_k3, fun _ h => absurd h List.not_mem_nil⟩⟩⟩) rfl kz3 (rm_u hc ec).1 (rm_u hs es).1 d244_5 (fun q21 h22 H v9 e9 f9 I => ?_)
  have hF := hF q21 v9
  rw [← hm_eqU e9 f9] at hF
  clear e9 f9 v9
  have hc := (rm_u hc ec).2
  have hs := (rm_u hs es).2
  clear ec es
  refine lv_dup hx hb d244_8 rfl ?_
  obtain ⟨fs9, c9, hF⟩ := hF
  obtain ⟨c28, s29, c30, s31, ec, es, hF⟩ := hF
  refine ht_I (rest := [.ref q21, .ref y0]) (as := []) X hl (cw_SB_init l D dA s0 hW q21 c28 s29 h22 z0 _ hF) (List.forall_mem_cons.mpr ⟨ms_k41, List.forall_mem_cons.mpr ⟨ms_k42, List.forall_mem_cons.mpr ⟨ms_k3, List.forall_mem_cons.mpr ⟨ms_k43, fun _ h => absurd h List.not_mem_nil⟩⟩⟩⟩) rfl ⟨by decide +kernel, by decide +kernel, (by decide +kernel : (parseMethodDescriptor "()V").map (fun d => d.parameters.length) = some 0)⟩ I ⟨rfl, rfl⟩ ⟨⟨Nat.le_of_ble_eq_true rfl, Nat.le_of_ble_eq_true rfl⟩, (rm_u hc ec).1, (rm_u hs es).1⟩ rfl (Nat.le_of_ble_eq_true rfl) d244_9 (fun vv h26 z27 H locs hR I9 => ?_)
  obtain ⟨e1, hF⟩ := hR
  subst e1
  clear I
  have I := I9
  clear I9 c9 fs9
  have hc := (rm_u hc ec).2
  have hs := (rm_u hs es).2
  clear ec es
  refine W.eq (g2 := F0 m 12 ls [.ref q21, .ref y0]) rfl ?_
  obtain ⟨fs9, c9, k9, hF⟩ := hF
  refine hm_putF (ci := 0) (v := .ref q21) (ty := (.object "java/lang/StringBuilder")) (C := kR0) (T := kT0) (N := 6) X I ku0 kt0 kp0 kn0 c9 rfl 0 (by decide) ms_k105 (fun _ h => h) rfl hin rfl (by decide +kernel) rfl rfl k9 d244_12 (fun h32 H locs e9 f9 I => ?_)
  rw [← hm_eqU e9 f9] at hF
  clear e9 f9 c9 k9
  refine lv_aload_n hx hb d244_15 rfl (lv_at hl 0 rfl) ?_
  obtain ⟨c35, s36, ec, es, hF⟩ := hF
  refine hm_mk (ci := 3) (fs := [.null, .int 0, .int 0, .int 0]) (C := kR3) (T := kT3) (N := 4) X I ku3 kt3 kp3 (List.forall_mem_cons.mpr ⟨ms_k39, List.forall_mem_cons.mpr ⟨ms_k40, List.forall_mem_cons.mpr ⟨ms_k3, fun _ h => absurd h List.not_mem_nil⟩⟩⟩) rfl kz3 (rm_u hc ec).1 (rm_u hs es).1 d244_16 (fun q33 h34 H v9 e9 f9 I => ?_)
  have hF := hF q33 v9
  rw [← hm_eqU e9 f9] at hF
  clear e9 f9 v9
  have hc := (rm_u hc ec).2
  have hs := (rm_u hs es).2
  clear ec es
  refine lv_dup hx hb d244_19 rfl ?_
  obtain ⟨fs9, c9, hF⟩ := hF
  obtain ⟨c40, s41, c42, s43, ec, es, hF⟩ := hF
  refine ht_I (rest := [.ref q33, .ref y0]) (as := []) X hl (cw_SB_init l D dA s0 hW q33 c40 s41 h34 z27 _ hF) (List.forall_mem_cons.mpr ⟨ms_k41, List.forall_mem_cons.mpr ⟨ms_k42, List.forall_mem_cons.mpr ⟨ms_k3, List.forall_mem_cons.mpr ⟨ms_k43, fun _ h => absurd h List.not_mem_nil⟩⟩⟩⟩) rfl ⟨by decide +kernel, by decide +kernel, (by decide +kernel : (parseMethodDescriptor "()V").map (fun d => d.parameters.length) = some 0)⟩ I ⟨rfl, rfl⟩ ⟨⟨Nat.le_of_ble_eq_true rfl, Nat.le_of_ble_eq_true rfl⟩, (rm_u hc ec).1, (rm_u hs es).1⟩ rfl (Nat.le_of_ble_eq_true rfl) d244_20 (fun vv h38 z39 H locs hR I9 => ?_)
  obtain ⟨e1, hF⟩ := hR
  subst e1
  clear I
  have I := I9
  clear I9 c9 fs9
  have hc := (rm_u hc ec).2
  have hs := (rm_u hs es).2
  clear ec es
  refine W.eq (g2 := F0 m 23 ls [.ref q33, .ref y0]) rfl ?_
  obtain ⟨fs9, c9, k9, hF⟩ := hF
  refine hm_putF (ci := 0) (v := .ref q33) (ty := (.object "java/lang/StringBuilder")) (C := kR0) (T := kT0) (N := 6) X I ku0 kt0 kp0 kn0 c9 rfl 1 (by decide) ms_k106 (fun _ h => h) rfl hin rfl (by decide +kernel) rfl rfl k9 d244_23 (fun h44 H locs e9 f9 I => ?_)
  rw [← hm_eqU e9 f9] at hF
  clear e9 f9 c9 k9
  refine lv_aload_n hx hb d244_26 rfl (lv_at hl 0 rfl) ?_
  obtain ⟨c47, s48, ec, es, hF⟩ := hF
  refine hm_mk (ci := 1) (fs := [.null, .int 0, .null, .int 0, .null, .int 0]) (C := kR1) (T := kT1) (N := 6) X I ku1 kt1 kp1 (List.forall_mem_cons.mpr ⟨ms_k72, List.forall_mem_cons.mpr ⟨ms_k73, List.forall_mem_cons.mpr ⟨ms_k6, fun _ h => absurd h List.not_mem_nil⟩⟩⟩) rfl kz1 (rm_u hc ec).1 (rm_u hs es).1 d244_27 (fun q45 h46 H v9 e9 f9 I => ?_)
  have hF := hF q45 v9
  rw [← hm_eqU e9 f9] at hF
  clear e9 f9 v9
  have hc := (rm_u hc ec).2
  have hs := (rm_u hs es).2
  clear ec es
  refine lv_dup hx hb d244_30 rfl ?_
  obtain ⟨fs9, c9, hF⟩ := hF
  obtain ⟨c52, s53, c54, s55, ec, es, hF⟩ := hF
  refine ht_I (rest := [.ref q45, .ref y0]) (as := []) X hl (cw_Tree_init l D dA s0 hW q45 c52 s53 h46 z39 _ hF) (List.forall_mem_cons.mpr ⟨ms_k74, List.forall_mem_cons.mpr ⟨ms_k75, List.forall_mem_cons.mpr ⟨ms_k6, List.forall_mem_cons.mpr ⟨ms_k76, fun _ h => absurd h List.not_mem_nil⟩⟩⟩⟩) rfl ⟨by decide +kernel, by decide +kernel, (by decide +kernel : (parseMethodDescriptor "()V").map (fun d => d.parameters.length) = some 0)⟩ I ⟨rfl, rfl⟩ ⟨⟨Nat.le_of_ble_eq_true rfl, Nat.le_of_ble_eq_true rfl⟩, (rm_u hc ec).1, (rm_u hs es).1⟩ rfl (Nat.le_of_ble_eq_true rfl) d244_31 (fun vv h50 z51 H locs hR I9 => ?_)
  obtain ⟨e1, hF⟩ := hR
  subst e1
  clear I
  have I := I9
  clear I9 c9 fs9
  have hc := (rm_u hc ec).2
  have hs := (rm_u hs es).2
  clear ec es
  refine W.eq (g2 := F0 m 34 ls [.ref q45, .ref y0]) rfl ?_
  obtain ⟨fs9, c9, k9, hF⟩ := hF
  refine hm_putF (ci := 0) (v := .ref q45) (ty := (.object "MarkupStore$Tree")) (C := kR0) (T := kT0) (N := 6) X I ku0 kt0 kp0 kn0 c9 rfl 2 (by decide) ms_k107 (fun _ h => h) rfl hin rfl (by decide +kernel) rfl rfl k9 d244_34 (fun h56 H locs e9 f9 I => ?_)
  rw [← hm_eqU e9 f9] at hF
  clear e9 f9 c9 k9
  refine lv_aload_n hx hb d244_37 rfl (lv_at hl 0 rfl) ?_
  refine lv_bipush (v := 40) hx hb d244_38 (by decide) ?_
  obtain ⟨N9, c59, s60, eN, bN, ec, es, hF⟩ := hF
  refine ms_top (y := nI N9) eN ?_
  refine hm_mka (N' := N9) (atype := .int) (ty := .int) (a0 := (N9, .inl (fun _ => 0))) X I ms_k124 rfl 0 rfl (fun _ h => h) rfl (fun _ => rfl) (nI_pos (by omega)) (nI_clamp (by omega)) (Nat.le_trans (Nat.mul_le_mul_right _ bN) (by decide)) (rm_u hc ec).1 (rm_u hs es).1 d244_40 (fun q57 h58 H v9 e9 f9 I => ?_)
  have hF := hF q57 v9
  rw [← hm_eqU e9 f9] at hF
  clear e9 f9 v9 eN bN
  have hc := (rm_u hc ec).2
  have hs := (rm_u hs es).2
  clear ec es
  obtain ⟨fs9, c9, k9, hF⟩ := hF
  refine hm_putF (ci := 0) (v := .ref q57) (ty := (.array .int)) (C := kR0) (T := kT0) (N := 6) X I ku0 kt0 kp0 kn0 c9 rfl 3 (by decide) ms_k108 (fun _ h => h) rfl hin rfl (by decide +kernel) rfl rfl k9 d244_42 (fun h61 H locs e9 f9 I => ?_)
  rw [← hm_eqU e9 f9] at hF
  clear e9 f9 c9 k9
  refine lv_aload_n hx hb d244_45 rfl (lv_at hl 0 rfl) ?_
  refine lv_iconst (v := 0) hx hb d244_46 (by decide) ?_
  obtain ⟨fs9, c9, k9, hF⟩ := hF
  refine hm_put (ci := 0) (v := .int 0) (ty := .int) (C := kR0) (T := kT0) (N := 6) X I ku0 kt0 kp0 kn0 c9 rfl 4 (by decide) ms_k109 (fun _ h => h) rfl (by decide +kernel) rfl rfl k9 d244_47 (fun h62 H locs e9 f9 I => ?_)
  rw [← hm_eqU e9 f9] at hF
  clear e9 f9 c9 k9
  refine lv_aload_n hx hb d244_50 rfl (lv_at hl 0 rfl) ?_
  refine lv_iconst (v := 0) hx hb d244_51 (by decide) ?_
  obtain ⟨fs9, c9, k9, hF⟩ := hF
  refine hm_put (ci := 0) (v := .int 0) (ty := .int) (C := kR0) (T := kT0) (N := 6) X I ku0 kt0 kp0 kn0 c9 rfl 5 (by decide) ms_k110 (fun _ h => h) rfl (by decide +kernel) rfl rfl k9 d244_52 (fun h63 H locs e9 f9 I => ?_)
  rw [← hm_eqU e9 f9] at hF
  clear e9 f9 c9 k9
  exact ht_vret X d244_55 I (rm_r hc) (rm_r hs) ⟨rfl, hF⟩

def w_Store_remove_137 (dA : Nat → ClassId) (y0 : Nat) (K : Int32 → hm_T → hz_T → Prop) (x2 : Option Nat) (x3 : Int32) (cr sr : Nat) (h : hm_T) (z : hz_T) : Prop := (cg_d x2 (fun a52 => (cg_I h 8 6 a52 (fun v53 => (cg_R h 0 2 y0 (fun v54 => (cg_d x2 (fun a55 => (cg_I h 8 6 a55 (fun v56 => (cg_d v54 (fun a57 => (cg_c h 1 a57 (w_Tree_takeOut dA a57 v56 x3 (fun h59 z60 => (cg_I h59 0 5 y0 (fun v61 => (cg_p h59 0 5 y0 (.int (v61 + 1)) (fun h62 => (K (x3 - v53) h62 z60)))))) h z))))))))))))))
def w_Store_remove (dA : Nat → ClassId) (y0 : Nat) (y1 : Int32) (rc rs : Nat) (K : Int32 → hm_T → hz_T → Prop) (h0 : hm_T) (z0 : hz_T) : Prop := (cg_R h0 0 2 y0 (fun v21 => (cg_d v21 (fun a22 => (cg_c h0 1 a22 (w_Tree_find dA a22 y1 (fun v23 h24 z25 => (if v23 = none then (K (-1000) h24 z25) else (cg_d v23 (fun a26 => (cg_R h24 8 1 a26 (fun v27 => (if v27 = none then (K (-2000) h24 z25) else (cg_R h24 0 2 y0 (fun v28 => (cg_d v28 (fun a29 => (cg_c h24 1 a29 (w_Tree_endOf dA a29 v23 (fun v30 h31 z32 => (cg_R h31 0 2 y0 (fun v33 => (cg_d v23 (fun a34 => (cg_R h31 8 1 a34 (fun v35 => (cg_d v23 (fun a36 => (cg_I h31 8 6 a36 (fun v37 => (cg_d v33 (fun a38 => (cg_c h31 1 a38 (w_Tree_childBefore dA a38 v35 v37 (fun v39 h40 z41 => (cg_R h40 0 2 y0 (fun v42 => (cg_d v23 (fun a43 => (cg_R h40 8 1 a43 (fun v44 => (cg_d v42 (fun a45 => (cg_c h40 1 a45 (w_Tree_childFrom dA a45 v44 v30 (fun v46 h47 z48 => (w_Store_isText dA v39 (fun v49 h50 z51 => (if v49 = 0 then (w_Store_remove_137 dA y0 K v23 v30 rc rs h50 z51) else (w_Store_isText dA v46 (fun v63 h64 z65 => (if v63 = 0 then (w_Store_remove_137 dA y0 K v23 v30 rc rs h64 z65) else (cg_d v39 (fun a66 => (cg_R h64 8 7 a66 (fun v67 => (cg_d v67 (fun a68 => (jd_len z65 a68 (fun v69 => (cg_d v46 (fun a70 => (cg_R h64 8 7 a70 (fun v71 => (cg_d v71 (fun a72 => (jd_len z65 a72 (fun v73 => (if (v69 + v73) ≤ 20 then (cg_d v39 (fun a74 => (cg_R h64 8 7 a74 (fun v75 => (cg_d v46 (fun a76 => (cg_R h64 8 7 a76 (fun v77 => (cg_c h64 0 y0 (cg_rm rc rs (fun c81 s82 c83 s84 => w_Store_joined dA y0 v75 v77 c81 s82 (fun v78 h79 z80 => (cg_d v39 (fun a85 => (cg_p h79 8 7 a85 (va_rf v78) (fun h86 => (cg_d v46 (fun a87 => (cg_I h86 8 6 a87 (fun v88 => (w_Store_remove_137 dA y0 K v23 (v88 + 1) c83 s84 h86 z80)))))))))) h64 z65))))))))))) else (K (-2000) h64 z65)))))))))))))))))))) h50 z51))) h47 z48)) h40 z41))))))))))) h31 z32))))))))))))))) h24 z25))))))))))))) h0 z0))))))
set_option maxRecDepth 100000 in
set_option maxHeartbeats 8000000 in
theorem cw_Store_remove (l : Launch) (D : va_G) (dA : Nat → ClassId) (s0 : State) (hW : ms_EW D dA s0) (y0 : Nat) (y1 : Int32) (rc rs : Nat) (h0 : hm_T) (z0 : hz_T) (K : Int32 → hm_T → hz_T → Prop) (hg : w_Store_remove dA y0 y1 rc rs K h0 z0) : ht_C l D s0 yM245 bM245 7 (Option.some Jvm.ClassFile.FieldType.int) (7) (233) rc rs [.ref y0, .int y1] (fun h z => h = h0 ∧ z = z0) (fun h z vv h1 z1 => ∃ v, vv = some (.int v) ∧ K v h1 z1) := by
  have hE := hW.1
  refine ht_C.mk hE.1 (by decide) (Nat.le_of_ble_eq_true rfl) [(0, .ref y0), (1, .int y1)] rfl ?_
  intro p e s m below meth c ls h z X hin hpre I hl
  have hx := X.1
  have hb := X.2.1
  have hml := X.2.2.1
  have hown : s.vm.findClass "MarkupStore" = some m.cls := X.2.2.2.1
  have hts := X.2.2.2.2.2.2.1
  have hK := X.2.2.2.2.2.2.2.2.1
  rw [hpre.1, hpre.2] at I
  clear hpre
  have b137 : ∀ (ls : Array Slot) (x2 : Option Nat) (x3 : Int32) (cr sr cu su : Nat) (h : hm_T) (z : hz_T) (H : Heap) (locs : List Loc), w_Store_remove_137 dA y0 K x2 x3 cr sr h z → cu + cr ≤ rc → su + sr ≤ rs → lv_has ls 7 [(0, .ref y0), (2, va_rf x2), (3, .int x3)] → hm_I D s0 s h z H locs → W p l e { frames := 7, cells := rc, slots := rs, locals := 233 } s m ([.ref y0, .int y1] : List Value).toArray below meth c H locs cu su (MQ below (ht_Q D s0 (fun vv h1 z1 => ∃ v, vv = some (.int v) ∧ K v h1 z1)) ([.ref y0, .int y1] : List Value).toArray s rc rs (fun q => s0.heap.size ≤ q)) (F0 m 137 ls []) := by
    intro ls x2 x3 cr sr cu su h z H locs hF hc hs hl I
    unfold w_Store_remove_137 at hF
    refine lv_iload_n hx hb d245_137 rfl (lv_at hl 2 rfl) ?_
    refine lv_aload_nR hx hb d245_138 rfl (lv_at hl 1 rfl) ?_
    obtain ⟨a52, e9, hF⟩ := hF
    refine W.eq (g2 := F0 m 139 ls [.ref a52, .int x3]) (by rw [e9]; rfl) ?_
    clear e9
    obtain ⟨fs9, v53, c9, e9, hF⟩ := hF
    refine va_get (D := D) (ci := 8) (v := .int v53) (C := kR8) (T := kT8) (N := 9) hx hb hts ku8 hown hK (hm_one I.1 c9) 0 rfl rfl 6 (by decide) (hts _ ms_k464) (fun _ h => h) e9 d245_139 ?_
    clear e9 c9 fs9
    refine lv_isub hx hb d245_142 ?_
    refine lv_istore hx hb d245_143 hl (by decide) rfl (fun ls hl => ?_)
    have hl : lv_has ls 7 [(6, .int (x3 - v53)), (0, .ref y0), (2, va_rf x2), (3, .int x3)] := hl
    refine lv_aload_n hx hb d245_145 rfl (lv_at hl 1 rfl) ?_
    obtain ⟨fs9, v54, c9, e9, hF⟩ := hF
    refine va_get (D := D) (ci := 0) (v := va_rf v54) (C := kR0) (T := kT0) (N := 6) hx hb hts ku0 hown hK (hm_one I.1 c9) 0 rfl rfl 2 (by decide) (hts _ ms_k107) (fun _ h => h) e9 d245_146 ?_
    clear e9 c9 fs9
    refine lv_aload_nR hx hb d245_149 rfl (lv_at hl 2 rfl) ?_
    obtain ⟨a55, e9, hF⟩ := hF
    refine W.eq (g2 := F0 m 150 ls [.ref a55, va_rf v54]) (by rw [e9]; rfl) ?_
    clear e9
    obtain ⟨fs9, v56, c9, e9, hF⟩ := hF
    refine va_get (D := D) (ci := 8) (v := .int v56) (C := kR8) (T := kT8) (N := 9) hx hb hts ku8 hown hK (hm_one I.1 c9) 0 rfl rfl 6 (by decide) (hts _ ms_k464) (fun _ h => h) e9 d245_150 ?_
    clear e9 c9 fs9
    refine lv_iload_n hx hb d245_153 rfl (lv_at hl 3 rfl) ?_
    obtain ⟨a57, e9, hF⟩ := hF
    refine W.eq (g2 := F0 m 154 ls [.int x3, .int v56, .ref a57]) (by rw [e9]; rfl) ?_
    clear e9
    obtain ⟨fs9, c9, hF⟩ := hF
    refine ht_V (C := "MarkupStore$Tree") (rest := []) (as := [.int v56, .int x3]) X hl (cw_Tree_takeOut l D dA s0 hE a57 v56 x3 h z _ hF) (List.forall_mem_cons.mpr ⟨ms_k849, List.forall_mem_cons.mpr ⟨ms_k720, List.forall_mem_cons.mpr ⟨ms_k721, List.forall_mem_cons.mpr ⟨ms_k6, List.forall_mem_cons.mpr ⟨ms_k722, fun _ h => absurd h List.not_mem_nil⟩⟩⟩⟩⟩) ⟨rfl, by decide +kernel, by decide +kernel, (by decide +kernel : (parseMethodDescriptor "(II)V").map (fun d => d.parameters.length) = some 2)⟩ (hm_recv hK I rfl c9) I ⟨rfl, rfl⟩ ⟨⟨Nat.le_of_ble_eq_true rfl, Nat.le_of_ble_eq_true rfl⟩, rm_0 hc, rm_0 hs⟩ rfl (Nat.le_of_ble_eq_true rfl) d245_154 (fun vv h59 z60 H locs hR I9 => ?_)
    obtain ⟨e1, hF⟩ := hR
    subst e1
    clear I
    have I := I9
    clear I9 c9 fs9
    refine W.eq (g2 := F0 m 157 ls []) rfl ?_
    refine lv_aload_n hx hb d245_157 rfl (lv_at hl 1 rfl) ?_
    refine lv_dup hx hb d245_158 rfl ?_
    obtain ⟨fs9, v61, c9, e9, hF⟩ := hF
    refine va_get (D := D) (ci := 0) (v := .int v61) (C := kR0) (T := kT0) (N := 6) hx hb hts ku0 hown hK (hm_one I.1 c9) 0 rfl rfl 5 (by decide) (hts _ ms_k110) (fun _ h => h) e9 d245_159 ?_
    clear e9 c9 fs9
    refine lv_iconst (v := 1) hx hb d245_162 (by decide) ?_
    refine lv_iadd hx hb d245_163 ?_
    obtain ⟨fs9, c9, k9, hF⟩ := hF
    refine hm_put (ci := 0) (v := .int (v61 + 1)) (ty := .int) (C := kR0) (T := kT0) (N := 6) X I ku0 kt0 kp0 kn0 c9 rfl 5 (by decide) ms_k110 (fun _ h => h) rfl (by decide +kernel) rfl rfl k9 d245_164 (fun h62 H locs e9 f9 I => ?_)
    rw [← hm_eqU e9 f9] at hF
    clear e9 f9 c9 k9
    refine lv_iload hx hb d245_167 (lv_at hl 0 rfl) ?_
    exact ht_iret X d245_169 I (rm_r hc) (rm_r hs) ⟨_, rfl, hF⟩
  have hF := hg
  unfold w_Store_remove at hF
  clear h z
  have hc : 0 + rc ≤ rc := by omega
  have hs : 0 + rs ≤ rs := by omega
  refine lv_aload_n hx hb d245_0 rfl (lv_at hl 0 rfl) ?_
  obtain ⟨fs9, v21, c9, e9, hF⟩ := hF
  refine va_get (D := D) (ci := 0) (v := va_rf v21) (C := kR0) (T := kT0) (N := 6) hx hb hts ku0 hown hK (hm_one I.1 c9) 0 rfl rfl 2 (by decide) (hts _ ms_k107) (fun _ h => h) e9 d245_1 ?_
  clear e9 c9 fs9
  refine lv_iload_n hx hb d245_4 rfl (lv_at hl 1 rfl) ?_
  obtain ⟨a22, e9, hF⟩ := hF
  refine W.eq (g2 := F0 m 5 ls [.int y1, .ref a22]) (by rw [e9]; rfl) ?_
  clear e9
  obtain ⟨fs9, c9, hF⟩ := hF
  refine ht_V (C := "MarkupStore$Tree") (rest := []) (as := [.int y1]) X hl (cw_Tree_find l D dA s0 hE a22 y1 h0 z0 _ hF) (List.forall_mem_cons.mpr ⟨ms_k745, List.forall_mem_cons.mpr ⟨ms_k746, List.forall_mem_cons.mpr ⟨ms_k747, List.forall_mem_cons.mpr ⟨ms_k6, List.forall_mem_cons.mpr ⟨ms_k748, fun _ h => absurd h List.not_mem_nil⟩⟩⟩⟩⟩) ⟨rfl, by decide +kernel, by decide +kernel, (by decide +kernel : (parseMethodDescriptor "(I)LMarkupStore$Node;").map (fun d => d.parameters.length) = some 1)⟩ (hm_recv hK I rfl c9) I ⟨rfl, rfl⟩ ⟨⟨Nat.le_of_ble_eq_true rfl, Nat.le_of_ble_eq_true rfl⟩, rm_0 hc, rm_0 hs⟩ rfl (Nat.le_of_ble_eq_true rfl) d245_5 (fun vv h24 z25 H locs hR I9 => ?_)
  obtain ⟨v23, e1, hF⟩ := hR
  subst e1
  clear I
  have I := I9
  clear I9 c9 fs9
  refine W.eq (g2 := F0 m 8 ls [va_rf v23]) rfl ?_
  refine lv_astore_nR hx hb d245_8 rfl hl (by decide) rfl (fun ls hl => ?_)
  have hl : lv_has ls 7 [(2, va_rf v23), (0, .ref y0), (1, .int y1)] := hl
  refine lv_aload_nR hx hb d245_9 rfl (lv_at hl 0 rfl) ?_
  refine lv_ifnonnullR hx hb d245_10 rfl (fun h9 => ?_) (fun h9 => ?_)
  · have hF := Eq.mp (if_neg h9) hF
    refine lv_aload_nR hx hb d245_17 rfl (lv_at hl 0 rfl) ?_
    obtain ⟨a26, e9, hF⟩ := hF
    refine W.eq (g2 := F0 m 18 ls [.ref a26]) (by rw [e9]; rfl) ?_
    clear e9
    obtain ⟨fs9, v27, c9, e9, hF⟩ := hF
    refine va_get (D := D) (ci := 8) (v := va_rf v27) (C := kR8) (T := kT8) (N := 9) hx hb hts ku8 hown hK (hm_one I.1 c9) 0 rfl rfl 1 (by decide) (hts _ ms_k446) (fun _ h => h) e9 d245_18 ?_
    clear e9 c9 fs9
    refine lv_ifnonnullR hx hb d245_21 rfl (fun h9 => ?_) (fun h9 => ?_)
    · have hF := Eq.mp (if_neg h9) hF
      refine lv_aload_n hx hb d245_28 rfl (lv_at hl 1 rfl) ?_
      obtain ⟨fs9, v28, c9, e9, hF⟩ := hF
      refine va_get (D := D) (ci := 0) (v := va_rf v28) (C := kR0) (T := kT0) (N := 6) hx hb hts ku0 hown hK (hm_one I.1 c9) 0 rfl rfl 2 (by decide) (hts _ ms_k107) (fun _ h => h) e9 d245_29 ?_
      clear e9 c9 fs9
      refine lv_aload_nR hx hb d245_32 rfl (lv_at hl 0 rfl) ?_
      obtain ⟨a29, e9, hF⟩ := hF
      refine W.eq (g2 := F0 m 33 ls [va_rf v23, .ref a29]) (by rw [e9]; rfl) ?_
      clear e9
      obtain ⟨fs9, c9, hF⟩ := hF
      refine ht_V (C := "MarkupStore$Tree") (rest := []) (as := [va_rf v23]) X hl (cw_Tree_endOf l D dA s0 hE a29 v23 h24 z25 _ hF) (List.forall_mem_cons.mpr ⟨ms_k749, List.forall_mem_cons.mpr ⟨ms_k750, List.forall_mem_cons.mpr ⟨ms_k751, List.forall_mem_cons.mpr ⟨ms_k6, List.forall_mem_cons.mpr ⟨ms_k752, fun _ h => absurd h List.not_mem_nil⟩⟩⟩⟩⟩) ⟨rfl, by decide +kernel, by decide +kernel, (by decide +kernel : (parseMethodDescriptor "(LMarkupStore$Node;)I").map (fun d => d.parameters.length) = some 1)⟩ (hm_recv hK I rfl c9) I ⟨rfl, rfl⟩ ⟨⟨Nat.le_of_ble_eq_true rfl, Nat.le_of_ble_eq_true rfl⟩, rm_0 hc, rm_0 hs⟩ rfl (Nat.le_of_ble_eq_true rfl) d245_33 (fun vv h31 z32 H locs hR I9 => ?_)
      obtain ⟨v30, e1, hF⟩ := hR
      subst e1
      clear I
      have I := I9
      clear I9 c9 fs9
      refine W.eq (g2 := F0 m 36 ls [.int v30]) rfl ?_
      refine lv_istore_n (i := 3) hx hb d245_36 rfl hl (by decide) (show _ = [(3, .int v30), (2, va_rf v23), (0, .ref y0), (1, .int y1)] by simp [cat_rf, cat_int, cat_ref, cat_null, cat_long]) (fun ls hl => ?_)
      have hl : lv_has ls 7 [(3, .int v30), (2, va_rf v23), (0, .ref y0), (1, .int y1)] := hl
      refine lv_aload_n hx hb d245_37 rfl (lv_at hl 2 rfl) ?_
      obtain ⟨fs9, v33, c9, e9, hF⟩ := hF
      refine va_get (D := D) (ci := 0) (v := va_rf v33) (C := kR0) (T := kT0) (N := 6) hx hb hts ku0 hown hK (hm_one I.1 c9) 0 rfl rfl 2 (by decide) (hts _ ms_k107) (fun _ h => h) e9 d245_38 ?_
      clear e9 c9 fs9
      refine lv_aload_nR hx hb d245_41 rfl (lv_at hl 1 rfl) ?_
      obtain ⟨a34, e9, hF⟩ := hF
      refine W.eq (g2 := F0 m 42 ls [.ref a34, va_rf v33]) (by rw [e9]; rfl) ?_
      clear e9
      obtain ⟨fs9, v35, c9, e9, hF⟩ := hF
      refine va_get (D := D) (ci := 8) (v := va_rf v35) (C := kR8) (T := kT8) (N := 9) hx hb hts ku8 hown hK (hm_one I.1 c9) 0 rfl rfl 1 (by decide) (hts _ ms_k446) (fun _ h => h) e9 d245_42 ?_
      clear e9 c9 fs9
      refine lv_aload_nR hx hb d245_45 rfl (lv_at hl 1 rfl) ?_
      obtain ⟨a36, e9, hF⟩ := hF
      refine W.eq (g2 := F0 m 46 ls [.ref a36, va_rf v35, va_rf v33]) (by rw [e9]; rfl) ?_
      clear e9
      obtain ⟨fs9, v37, c9, e9, hF⟩ := hF
      refine va_get (D := D) (ci := 8) (v := .int v37) (C := kR8) (T := kT8) (N := 9) hx hb hts ku8 hown hK (hm_one I.1 c9) 0 rfl rfl 6 (by decide) (hts _ ms_k464) (fun _ h => h) e9 d245_46 ?_
      clear e9 c9 fs9
      obtain ⟨a38, e9, hF⟩ := hF
      refine W.eq (g2 := F0 m 49 ls [.int v37, va_rf v35, .ref a38]) (by rw [e9]; rfl) ?_
      clear e9
      obtain ⟨fs9, c9, hF⟩ := hF
      refine ht_V (C := "MarkupStore$Tree") (rest := []) (as := [va_rf v35, .int v37]) X hl (cw_Tree_childBefore l D dA s0 hE a38 v35 v37 h31 z32 _ hF) (List.forall_mem_cons.mpr ⟨ms_k753, List.forall_mem_cons.mpr ⟨ms_k754, List.forall_mem_cons.mpr ⟨ms_k755, List.forall_mem_cons.mpr ⟨ms_k6, List.forall_mem_cons.mpr ⟨ms_k756, fun _ h => absurd h List.not_mem_nil⟩⟩⟩⟩⟩) ⟨rfl, by decide +kernel, by decide +kernel, (by decide +kernel : (parseMethodDescriptor "(LMarkupStore$Node;I)LMarkupStore$Node;").map (fun d => d.parameters.length) = some 2)⟩ (hm_recv hK I rfl c9) I ⟨rfl, rfl⟩ ⟨⟨Nat.le_of_ble_eq_true rfl, Nat.le_of_ble_eq_true rfl⟩, rm_0 hc, rm_0 hs⟩ rfl (Nat.le_of_ble_eq_true rfl) d245_49 (fun vv h40 z41 H locs hR I9 => ?_)
      obtain ⟨v39, e1, hF⟩ := hR
      subst e1
      clear I
      have I := I9
      clear I9 c9 fs9
      refine W.eq (g2 := F0 m 52 ls [va_rf v39]) rfl ?_
      refine lv_astoreR hx hb d245_52 hl (by decide) rfl (fun ls hl => ?_)
      have hl : lv_has ls 7 [(4, va_rf v39), (3, .int v30), (2, va_rf v23), (0, .ref y0), (1, .int y1)] := hl
      refine lv_aload_n hx hb d245_54 rfl (lv_at hl 3 rfl) ?_
      obtain ⟨fs9, v42, c9, e9, hF⟩ := hF
      refine va_get (D := D) (ci := 0) (v := va_rf v42) (C := kR0) (T := kT0) (N := 6) hx hb hts ku0 hown hK (hm_one I.1 c9) 0 rfl rfl 2 (by decide) (hts _ ms_k107) (fun _ h => h) e9 d245_55 ?_
      clear e9 c9 fs9
      refine lv_aload_nR hx hb d245_58 rfl (lv_at hl 2 rfl) ?_
      obtain ⟨a43, e9, hF⟩ := hF
      refine W.eq (g2 := F0 m 59 ls [.ref a43, va_rf v42]) (by rw [e9]; rfl) ?_
      clear e9
      obtain ⟨fs9, v44, c9, e9, hF⟩ := hF
      refine va_get (D := D) (ci := 8) (v := va_rf v44) (C := kR8) (T := kT8) (N := 9) hx hb hts ku8 hown hK (hm_one I.1 c9) 0 rfl rfl 1 (by decide) (hts _ ms_k446) (fun _ h => h) e9 d245_59 ?_
      clear e9 c9 fs9
      refine lv_iload_n hx hb d245_62 rfl (lv_at hl 1 rfl) ?_
      obtain ⟨a45, e9, hF⟩ := hF
      refine W.eq (g2 := F0 m 63 ls [.int v30, va_rf v44, .ref a45]) (by rw [e9]; rfl) ?_
      clear e9
      obtain ⟨fs9, c9, hF⟩ := hF
      refine ht_V (C := "MarkupStore$Tree") (rest := []) (as := [va_rf v44, .int v30]) X hl (cw_Tree_childFrom l D dA s0 hE a45 v44 v30 h40 z41 _ hF) (List.forall_mem_cons.mpr ⟨ms_k757, List.forall_mem_cons.mpr ⟨ms_k758, List.forall_mem_cons.mpr ⟨ms_k759, List.forall_mem_cons.mpr ⟨ms_k6, List.forall_mem_cons.mpr ⟨ms_k760, fun _ h => absurd h List.not_mem_nil⟩⟩⟩⟩⟩) ⟨rfl, by decide +kernel, by decide +kernel, (by decide +kernel : (parseMethodDescriptor "(LMarkupStore$Node;I)LMarkupStore$Node;").map (fun d => d.parameters.length) = some 2)⟩ (hm_recv hK I rfl c9) I ⟨rfl, rfl⟩ ⟨⟨Nat.le_of_ble_eq_true rfl, Nat.le_of_ble_eq_true rfl⟩, rm_0 hc, rm_0 hs⟩ rfl (Nat.le_of_ble_eq_true rfl) d245_63 (fun vv h47 z48 H locs hR I9 => ?_)
      obtain ⟨v46, e1, hF⟩ := hR
      subst e1
      clear I
      have I := I9
      clear I9 c9 fs9
      refine W.eq (g2 := F0 m 66 ls [va_rf v46]) rfl ?_
      refine lv_astoreR (i := 5) hx hb d245_66 hl (by decide) (show _ = [(5, va_rf v46), (4, va_rf v39), (3, .int v30), (2, va_rf v23), (0, .ref y0), (1, .int y1)] by simp [cat_rf, cat_int, cat_ref, cat_null, cat_long]) (fun ls hl => ?_)
      have hl : lv_has ls 7 [(5, va_rf v46), (4, va_rf v39), (3, .int v30), (2, va_rf v23), (0, .ref y0), (1, .int y1)] := hl
      refine lv_aloadR hx hb d245_68 (lv_at hl 1 rfl) ?_
      refine ht_S (rest := []) (as := [va_rf v39]) X hl (cw_Store_isText l D dA s0 hE v39 h47 z48 _ hF) (List.forall_mem_cons.mpr ⟨ms_k792, List.forall_mem_cons.mpr ⟨ms_k790, List.forall_mem_cons.mpr ⟨ms_k1, List.forall_mem_cons.mpr ⟨ms_k791, fun _ h => absurd h List.not_mem_nil⟩⟩⟩⟩) ⟨by decide +kernel, by decide +kernel, (by decide +kernel : (parseMethodDescriptor "(LMarkupStore$Node;)Z").map (fun d => d.parameters.length) = some 1)⟩ I ⟨rfl, rfl⟩ ⟨⟨Nat.le_of_ble_eq_true rfl, Nat.le_of_ble_eq_true rfl⟩, rm_0 hc, rm_0 hs⟩ rfl (Nat.le_of_ble_eq_true rfl) d245_70 (fun vv h50 z51 H locs hR I9 => ?_)
      obtain ⟨v49, e1, hF⟩ := hR
      subst e1
      clear I
      have I := I9
      clear I9
      refine W.eq (g2 := F0 m 73 ls [.int v49]) rfl ?_
      refine lv_if_eq hx hb d245_73 rfl (fun h9 => ?_) (fun h9 => ?_)
      · have hF := Eq.mp (if_pos h9) hF
        exact b137 ls v23 v30 rc rs _ _ h50 z51 _ _ hF hc hs (hl.sub [4, 3, 2] rfl) I
      · have hF := Eq.mp (if_neg h9) hF
        refine lv_aloadR hx hb d245_76 (lv_at hl 0 rfl) ?_
        refine ht_S (rest := []) (as := [va_rf v46]) X hl (cw_Store_isText l D dA s0 hE v46 h50 z51 _ hF) (List.forall_mem_cons.mpr ⟨ms_k792, List.forall_mem_cons.mpr ⟨ms_k790, List.forall_mem_cons.mpr ⟨ms_k1, List.forall_mem_cons.mpr ⟨ms_k791, fun _ h => absurd h List.not_mem_nil⟩⟩⟩⟩) ⟨by decide +kernel, by decide +kernel, (by decide +kernel : (parseMethodDescriptor "(LMarkupStore$Node;)Z").map (fun d => d.parameters.length) = some 1)⟩ I ⟨rfl, rfl⟩ ⟨⟨Nat.le_of_ble_eq_true rfl, Nat.le_of_ble_eq_true rfl⟩, rm_0 hc, rm_0 hs⟩ rfl (Nat.le_of_ble_eq_true rfl) d245_78 (fun vv h64 z65 H locs hR I9 => ?_)
        obtain ⟨v63, e1, hF⟩ := hR
        subst e1
        clear I
        have I := I9
        clear I9
        refine W.eq (g2 := F0 m 81 ls [.int v63]) rfl ?_
        refine lv_if_eq hx hb d245_81 rfl (fun h9 => ?_) (fun h9 => ?_)
        · have hF := Eq.mp (if_pos h9) hF
          exact b137 ls v23 v30 rc rs _ _ h64 z65 _ _ hF hc hs (hl.sub [4, 3, 2] rfl) I
        · have hF := Eq.mp (if_neg h9) hF
          refine lv_aloadR hx hb d245_84 (lv_at hl 1 rfl) ?_
          obtain ⟨a66, e9, hF⟩ := hF
          refine W.eq (g2 := F0 m 86 ls [.ref a66]) (by rw [e9]; rfl) ?_
          clear e9
          obtain ⟨fs9, v67, c9, e9, hF⟩ := hF
          refine va_get (D := D) (ci := 8) (v := va_rf v67) (C := kR8) (T := kT8) (N := 9) hx hb hts ku8 hown hK (hm_one I.1 c9) 0 rfl rfl 7 (by decide) (hts _ ms_k470) (fun _ h => h) e9 d245_86 ?_
          clear e9 c9 fs9
          obtain ⟨a68, e9, hF⟩ := hF
          refine W.eq (g2 := F0 m 89 ls [.ref a68]) (by rw [e9]; rfl) ?_
          clear e9
          obtain ⟨u9, xs9, z9, hF⟩ := hF
          refine ht_V (C := "java/lang/String") (rest := []) (as := []) X hl (c_Slen l D dA s0 hE a68 u9 xs9) (List.forall_mem_cons.mpr ⟨ms_k802, List.forall_mem_cons.mpr ⟨ms_k391, List.forall_mem_cons.mpr ⟨ms_k392, List.forall_mem_cons.mpr ⟨ms_k4, List.forall_mem_cons.mpr ⟨ms_k393, fun _ h => absurd h List.not_mem_nil⟩⟩⟩⟩⟩) ⟨rfl, by decide +kernel, by decide +kernel, (by decide +kernel : (parseMethodDescriptor "()I").map (fun d => d.parameters.length) = some 0)⟩ (hz_recv I z9) I z9 ⟨⟨Nat.le_of_ble_eq_true rfl, Nat.le_of_ble_eq_true rfl⟩, rm_0 hc, rm_0 hs⟩ rfl (Nat.le_of_ble_eq_true rfl) d245_89 (fun vv h9 z7 H locs hR I9 => ?_)
          obtain ⟨e1, e2, e3⟩ := hR
          rw [e2, e3] at I9
          subst e1
          clear I
          have I := I9
          clear I9 e2 e3 h9 z7
          refine W.eq (g2 := F0 m 92 ls [.int (nI xs9.length)]) rfl ?_
          generalize (nI xs9.length) = v69 at hF ⊢
          refine lv_aloadR hx hb d245_92 (lv_at hl 0 rfl) ?_
          obtain ⟨a70, e9, hF⟩ := hF
          refine W.eq (g2 := F0 m 94 ls [.ref a70, .int v69]) (by rw [e9]; rfl) ?_
          clear e9
          obtain ⟨fs9, v71, c9, e9, hF⟩ := hF
          refine va_get (D := D) (ci := 8) (v := va_rf v71) (C := kR8) (T := kT8) (N := 9) hx hb hts ku8 hown hK (hm_one I.1 c9) 0 rfl rfl 7 (by decide) (hts _ ms_k470) (fun _ h => h) e9 d245_94 ?_
          clear e9 c9 fs9
          obtain ⟨a72, e9, hF⟩ := hF
          refine W.eq (g2 := F0 m 97 ls [.ref a72, .int v69]) (by rw [e9]; rfl) ?_
          clear e9
          obtain ⟨u9, xs9, z9, hF⟩ := hF
          refine ht_V (C := "java/lang/String") (rest := [.int v69]) (as := []) X hl (c_Slen l D dA s0 hE a72 u9 xs9) (List.forall_mem_cons.mpr ⟨ms_k802, List.forall_mem_cons.mpr ⟨ms_k391, List.forall_mem_cons.mpr ⟨ms_k392, List.forall_mem_cons.mpr ⟨ms_k4, List.forall_mem_cons.mpr ⟨ms_k393, fun _ h => absurd h List.not_mem_nil⟩⟩⟩⟩⟩) ⟨rfl, by decide +kernel, by decide +kernel, (by decide +kernel : (parseMethodDescriptor "()I").map (fun d => d.parameters.length) = some 0)⟩ (hz_recv I z9) I z9 ⟨⟨Nat.le_of_ble_eq_true rfl, Nat.le_of_ble_eq_true rfl⟩, rm_0 hc, rm_0 hs⟩ rfl (Nat.le_of_ble_eq_true rfl) d245_97 (fun vv h9 z7 H locs hR I9 => ?_)
          obtain ⟨e1, e2, e3⟩ := hR
          rw [e2, e3] at I9
          subst e1
          clear I
          have I := I9
          clear I9 e2 e3 h9 z7
          refine W.eq (g2 := F0 m 100 ls [.int (nI xs9.length), .int v69]) rfl ?_
          generalize (nI xs9.length) = v73 at hF ⊢
          refine lv_iadd hx hb d245_100 ?_
          refine lv_bipush (v := 20) hx hb d245_101 (by decide) ?_
          refine lv_icmp_le hx hb d245_103 rfl (fun h9 => ?_) (fun h9 => ?_)
          · have hF := Eq.mp (if_pos h9) hF
            refine lv_aloadR hx hb d245_110 (lv_at hl 1 rfl) ?_
            refine lv_aload_n hx hb d245_112 rfl (lv_at hl 4 rfl) ?_
            refine lv_aloadR hx hb d245_113 (lv_at hl 1 rfl) ?_
            obtain ⟨a74, e9, hF⟩ := hF
            refine W.eq (g2 := F0 m 115 ls [.ref a74, .ref y0, va_rf v39]) (by rw [e9]; rfl) ?_
            clear e9
            obtain ⟨fs9, v75, c9, e9, hF⟩ := hF
            refine va_get (D := D) (ci := 8) (v := va_rf v75) (C := kR8) (T := kT8) (N := 9) hx hb hts ku8 hown hK (hm_one I.1 c9) 0 rfl rfl 7 (by decide) (hts _ ms_k470) (fun _ h => h) e9 d245_115 ?_
            clear e9 c9 fs9
            refine lv_aloadR hx hb d245_118 (lv_at hl 0 rfl) ?_
            obtain ⟨a76, e9, hF⟩ := hF
            refine W.eq (g2 := F0 m 120 ls [.ref a76, va_rf v75, .ref y0, va_rf v39]) (by rw [e9]; rfl) ?_
            clear e9
            obtain ⟨fs9, v77, c9, e9, hF⟩ := hF
            refine va_get (D := D) (ci := 8) (v := va_rf v77) (C := kR8) (T := kT8) (N := 9) hx hb hts ku8 hown hK (hm_one I.1 c9) 0 rfl rfl 7 (by decide) (hts _ ms_k470) (fun _ h => h) e9 d245_120 ?_
            clear e9 c9 fs9
            obtain ⟨fs9, c9, hF⟩ := hF
            obtain ⟨c81, s82, c83, s84, ec, es, hF⟩ := hF
            refine ht_V (C := "MarkupStore") (rest := [va_rf v39]) (as := [va_rf v75, va_rf v77]) X hl (cw_Store_joined l D dA s0 hW y0 v75 v77 c81 s82 h64 z65 _ hF) (List.forall_mem_cons.mpr ⟨ms_k803, List.forall_mem_cons.mpr ⟨ms_k805, List.forall_mem_cons.mpr ⟨ms_p17, List.forall_mem_cons.mpr ⟨ms_k1, List.forall_mem_cons.mpr ⟨ms_k806, fun _ h => absurd h List.not_mem_nil⟩⟩⟩⟩⟩) ⟨rfl, by decide +kernel, by decide +kernel, (by decide +kernel : (parseMethodDescriptor "(Ljava/lang/String;Ljava/lang/String;)Ljava/lang/String;").map (fun d => d.parameters.length) = some 2)⟩ (hm_recv hK I rfl c9) I ⟨rfl, rfl⟩ ⟨⟨Nat.le_of_ble_eq_true rfl, Nat.le_of_ble_eq_true rfl⟩, (rm_u hc ec).1, (rm_u hs es).1⟩ rfl (by simp [cat_rf, cat_int, cat_ref, cat_null, cat_long]) d245_123 (fun vv h79 z80 H locs hR I9 => ?_)
            obtain ⟨v78, e1, hF⟩ := hR
            subst e1
            clear I
            have I := I9
            clear I9 c9 fs9
            have hc := (rm_u hc ec).2
            have hs := (rm_u hs es).2
            clear ec es
            refine W.eq (g2 := F0 m 126 ls [va_rf v78, va_rf v39]) rfl ?_
            obtain ⟨a85, e9, hF⟩ := hF
            refine W.eq (g2 := F0 m 126 ls [va_rf v78, .ref a85]) (by rw [e9]; rfl) ?_
            clear e9
            obtain ⟨fs9, c9, k9, hF⟩ := hF
            refine hm_put (ci := 8) (v := va_rf v78) (ty := (.object "java/lang/String")) (C := kR8) (T := kT8) (N := 9) X I ku8 kt8 kp8 kn8 c9 rfl 7 (by decide) ms_k470 (fun _ h => h) rfl (by decide +kernel) (by cases v78 <;> rfl) (by cases v78 <;> rfl) k9 d245_126 (fun h86 H locs e9 f9 I => ?_)
            rw [← hm_eqU e9 f9] at hF
            clear e9 f9 c9 k9
            refine lv_aloadR hx hb d245_129 (lv_at hl 0 rfl) ?_
            obtain ⟨a87, e9, hF⟩ := hF
            refine W.eq (g2 := F0 m 131 ls [.ref a87]) (by rw [e9]; rfl) ?_
            clear e9
            obtain ⟨fs9, v88, c9, e9, hF⟩ := hF
            refine va_get (D := D) (ci := 8) (v := .int v88) (C := kR8) (T := kT8) (N := 9) hx hb hts ku8 hown hK (hm_one I.1 c9) 0 rfl rfl 6 (by decide) (hts _ ms_k464) (fun _ h => h) e9 d245_131 ?_
            clear e9 c9 fs9
            refine lv_iconst (v := 1) hx hb d245_134 (by decide) ?_
            refine lv_iadd hx hb d245_135 ?_
            refine lv_istore_n (i := 3) hx hb d245_136 rfl hl (by decide) (show _ = [(3, .int (v88 + 1)), (5, va_rf v46), (4, va_rf v39), (2, va_rf v23), (0, .ref y0), (1, .int y1)] by simp [cat_rf, cat_int, cat_ref, cat_null, cat_long]) (fun ls hl => ?_)
            have hl : lv_has ls 7 [(3, .int (v88 + 1)), (5, va_rf v46), (4, va_rf v39), (2, va_rf v23), (0, .ref y0), (1, .int y1)] := hl
            exact b137 ls v23 (v88 + 1) c83 s84 _ _ h86 z80 _ _ hF hc hs (hl.sub [4, 3, 0] rfl) I
          · have hF := Eq.mp (if_neg h9) hF
            refine lv_sipush (v := (-2000)) hx hb d245_106 (by decide) ?_
            exact ht_iret X d245_109 I (rm_r hc) (rm_r hs) ⟨_, rfl, hF⟩
    · have hF := Eq.mp (if_pos h9) hF
      refine lv_sipush (v := (-2000)) hx hb d245_24 (by decide) ?_
      exact ht_iret X d245_27 I (rm_r hc) (rm_r hs) ⟨_, rfl, hF⟩
  · have hF := Eq.mp (if_pos h9) hF
    refine lv_sipush (v := (-1000)) hx hb d245_13 (by decide) ?_
    exact ht_iret X d245_16 I (rm_r hc) (rm_r hs) ⟨_, rfl, hF⟩
