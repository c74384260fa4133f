theorem ms_k790 : (Jvm.Cond.static ({ cls := "MarkupStore", name := "isText", desc := "(LMarkupStore$Node;)Z" } : Jvm.MethodName)) ∈ ms_tb := ms_i4 70 (by decide +kernel) (by decide +kernel)
theorem ms_k791 : (Jvm.Cond.code ({ cls := "MarkupStore", name := "isText", desc := "(LMarkupStore$Node;)Z" } : Jvm.MethodName) prog_1_method_24_code (1 : Nat) (Option.some Jvm.ClassFile.FieldType.boolean)) ∈ ms_tb := ms_i4 71 (by decide +kernel) (by decide +kernel)
abbrev bM208 : ByteArray := prog_3_method_3_code
def yM208 : MethodName := ⟨"MarkupStore$MarkupReader", "startsWithText", "()Z"⟩
theorem d208_0 : decode bM208 0 = .ok (.aload_n 0, 1) := by decide +kernel
theorem d208_1 : decode bM208 1 = .ok (.getfield 14, 3) := by decide +kernel
theorem d208_4 : decode bM208 4 = .ok (.invokevirtual 42, 3) := by decide +kernel
theorem d208_7 : decode bM208 7 = .ok (.ifCond .ne 24, 3) := by decide +kernel
theorem d208_10 : decode bM208 10 = .ok (.aload_n 0, 1) := by decide +kernel
theorem d208_11 : decode bM208 11 = .ok (.getfield 14, 3) := by decide +kernel
theorem d208_14 : decode bM208 14 = .ok (.iconst 0, 1) := by decide +kernel
theorem d208_15 : decode bM208 15 = .ok (.invokevirtual 32, 3) := by decide +kernel
theorem d208_18 : decode bM208 18 = .ok (.checkcast 36, 3) := by decide +kernel
theorem d208_21 : decode bM208 21 = .ok (.invokestatic 46, 3) := by decide +kernel
theorem d208_24 : decode bM208 24 = .ok (.ifCond .eq 7, 3) := by decide +kernel
theorem d208_27 : decode bM208 27 = .ok (.iconst 1, 1) := by decide +kernel
theorem d208_28 : decode bM208 28 = .ok (.goto 4, 3) := by decide +kernel
theorem d208_31 : decode bM208 31 = .ok (.iconst 0, 1) := by decide +kernel
theorem d208_32 : decode bM208 32 = .ok (.ireturn, 1) := by decide +kernel
-- calls between nestmates
section HTC
variable {p : Program} {l : Launch} {e : Env} {R : Room} {s s0 : State} {m : MethodId} {args : Array Value} {below : List Frame} {meth : Method} {c : Code} {H : Heap} {locs : List Loc} {cells slots : Nat} {Q : State → Prop}
variable {cc : ByteArray} {pc : Nat} {ls : Array Slot} {rest st0 : List Value} {D : va_G} {h0 : hm_T} {z0 : hz_T} {A : Nat → Prop} {mc ms : Nat} {Pre : hm_T → hz_T → Prop} {Post : hm_T → hz_T → Option Value → hm_T → hz_T → Prop} {tys : List (ClassId × FieldType)} {y0 : MethodName} {n0 : Nat} {ret0 : Option FieldType} {lv : List (Nat × Value)}
variable {y : MethodName} {b : ByteArray} {n : Nat} {ret : Option FieldType} {fr lo : Nat} {as : List Value} {idx : Nat} {h : Nat} {C : String}
theorem ht_SN {host : String} (X : ms_X D tys s0 p s m args meth c A y0 cc n0 ret0) (hl : lv_has ls n0 lv) (hM : ht_C l D s0 y b n ret fr lo mc ms as Pre Post) (hN : va_Nw (.methodLinkNest y0.cls idx y host) s) (hw : ∀ w ∈ ([.static y, .initialized y.cls, .code y b n ret] : List Cond), w ∈ ms_tb) (hd : y.cls ≠ "java/lang/invoke/MethodHandle" ∧ y.cls ≠ "java/lang/invoke/VarHandle" ∧ (parseMethodDescriptor y.desc).map (fun d => d.parameters.length) = some as.length)
    (I : hm_I D s0 s h0 z0 H locs) (hpre : Pre h0 z0) (hrm : (fr + 1 ≤ R.frames ∧ 8 + (n + 11) + lo ≤ R.locals) ∧ cells + mc ≤ R.cells ∧ slots + ms ≤ R.slots) (hst : st0 = as.reverse ++ rest) (hrs : (rest.map fun v => v.category).sum ≤ 8) (hdg : decode cc pc = .ok (.invokestatic idx, 3))
    (kk : ∀ (v : Option Value) (h1 : hm_T) (z1 : hz_T) (H1 : Heap) (locs1 : List Loc), Post h0 z0 v h1 z1 → hm_I D s0 s h1 z1 H1 locs1 → W p l e R s m args below meth c H1 locs1 (cells + mc) (slots + ms) Q (F0 m (pc + 3) ls (v.toList ++ rest))) : W p l e R s m args below meth c H locs cells slots Q (F0 m pc ls st0) :=
  ht_go (va_runSN (As := as) (rest := rest) ⟨X.1, X.2.1, X.2.2.1, X.2.2.2.1, X.2.2.2.2.2.2.1⟩ (hM h0 z0 hpre) ⟨va_cnB as.length X.2.2.2.2.2.2.1 (ms_g1 (hw _ (by simp))) rfl rfl rfl hN (X.2.2.2.2.2.2.1 _ (hw _ (by simp))) hd hrm.1, X.2.2.2.2.2.2.1 _ (hw _ (by simp)), trivial⟩ (ht_pre X I) rfl rfl hl.1 hst (lv_room hrs) hdg hrm.2) I kk
theorem ht_IN {host : String} (X : ms_X D tys s0 p s m args meth c A y0 cc n0 ret0) (hl : lv_has ls n0 lv) (hM : ht_C l D s0 y b n none fr lo mc ms (.ref h :: as) Pre Post) (hN : va_Nw (.methodLinkNest y0.cls idx y host) s) (hw : ∀ w ∈ ([.instanceMethod y, .initialized y.cls, .code y b n none] : List Cond), w ∈ ms_tb) (hy : y.name = "<init>") (hd : y.cls ≠ "java/lang/invoke/MethodHandle" ∧ y.cls ≠ "java/lang/invoke/VarHandle" ∧ (parseMethodDescriptor y.desc).map (fun d => d.parameters.length) = some as.length)
    (I : hm_I D s0 s h0 z0 H locs) (hpre : Pre h0 z0) (hrm : (fr + 1 ≤ R.frames ∧ 8 + (n + 11) + lo ≤ R.locals) ∧ cells + mc ≤ R.cells ∧ slots + ms ≤ R.slots) (hst : st0 = as.reverse ++ .ref h :: rest) (hrs : (rest.map fun v => v.category).sum ≤ 8) (hdg : decode cc pc = .ok (.invokespecial idx, 3))
    (kk : ∀ (v : Option Value) (h1 : hm_T) (z1 : hz_T) (H1 : Heap) (locs1 : List Loc), Post h0 z0 v h1 z1 → hm_I D s0 s h1 z1 H1 locs1 → W p l e R s m args below meth c H1 locs1 (cells + mc) (slots + ms) Q (F0 m (pc + 3) ls (v.toList ++ rest))) : W p l e R s m args below meth c H locs cells slots Q (F0 m pc ls st0) :=
  ht_go (va_runIN (As := as) (rest := rest) ⟨X.1, X.2.1, X.2.2.1, X.2.2.2.1, X.2.2.2.2.2.2.1⟩ (hM h0 z0 hpre) ⟨va_cnB as.length X.2.2.2.2.2.2.1 (ms_g1 (hw _ (by simp))) rfl rfl rfl hN (X.2.2.2.2.2.2.1 _ (hw _ (by simp))) hd hrm.1, hy, X.2.2.2.2.2.2.1 _ (hw _ (by simp))⟩ (ht_pre X I) rfl rfl hl.1 hst (lv_room hrs) hdg hrm.2) I kk
end HTC

def w_MarkupReader_startsWithText_31 (dA : Nat → ClassId) (y0 : Nat) (K : Int32 → hm_T → hz_T → Prop) (h : hm_T) (z : hz_T) : Prop := (K 0 h z)
def w_MarkupReader_startsWithText (dA : Nat → ClassId) (y0 : Nat) (K : Int32 → hm_T → hz_T → Prop) (h0 : hm_T) (z0 : hz_T) : Prop := (cg_R h0 6 3 y0 (fun v21 => (cg_d v21 (fun a22 => (jd_no h0 a22 (fun v23 => (if v23 = 0 then (cg_R h0 6 3 y0 (fun v24 => (cg_d v24 (fun a25 => (jd_get dA h0 a25 0 (fun v26 => (cg_c h0 8 v26 (w_Store_isText dA (some v26) (fun v27 h28 z29 => (if v27 = 0 then (w_MarkupReader_startsWithText_31 dA y0 K h28 z29) else (K 1 h28 z29))) h0 z0)))))))) else (w_MarkupReader_startsWithText_31 dA y0 K h0 z0))))))))
set_option maxRecDepth 100000 in
set_option maxHeartbeats 8000000 in
theorem cw_MarkupReader_startsWithText (l : Launch) (D : va_G) (dA : Nat → ClassId) (s0 : State) (hE : ms_EV D dA s0) (y0 : Nat) (h0 : hm_T) (z0 : hz_T) (K : Int32 → hm_T → hz_T → Prop) (hg : w_MarkupReader_startsWithText dA y0 K h0 z0) : ht_C l D s0 yM208 bM208 1 (Option.some Jvm.ClassFile.FieldType.boolean) 3 64 0 0 [.ref y0] (fun h z => h = h0 ∧ z = z0) (fun h z vv h1 z1 => ∃ v, vv = some (.int v) ∧ K v h1 z1) := by
  refine ht_C.mk hE.1 (by decide) (Nat.le_of_ble_eq_true rfl) [(0, .ref y0)] rfl ?_
  intro p e s m below meth c ls h z X hin hpre I hl
  have hx := X.1
  have hb := X.2.1
  have hml := X.2.2.1
  have hown : s.vm.findClass "MarkupStore$MarkupReader" = some m.cls := X.2.2.2.1
  have hts := X.2.2.2.2.2.2.1
  have hK := X.2.2.2.2.2.2.2.2.1
  rw [hpre.1, hpre.2] at I
  clear hpre
  have b31 : ∀ (ls : Array Slot) (h : hm_T) (z : hz_T) (H : Heap) (locs : List Loc), w_MarkupReader_startsWithText_31 dA y0 K h z → lv_has ls 1 [] → hm_I D s0 s h z H locs → W p l e { frames := 3, cells := 0, slots := 0, locals := 64 } s m ([.ref y0] : List Value).toArray below meth c H locs 0 0 (MQ below (ht_Q D s0 (fun vv h1 z1 => ∃ v, vv = some (.int v) ∧ K v h1 z1)) ([.ref y0] : List Value).toArray s 0 0 (fun q => s0.heap.size ≤ q)) (F0 m 31 ls []) := by
    intro ls h z H locs hF hl I
    unfold w_MarkupReader_startsWithText_31 at hF
    refine lv_iconst (v := 0) hx hb d208_31 (by decide) ?_
    exact ht_zret X d208_32 I (Nat.le_of_ble_eq_true rfl) (Nat.le_of_ble_eq_true rfl) ⟨_, rfl, hF⟩ rfl
  have hF := hg
  unfold w_MarkupReader_startsWithText at hF
  clear h z
  refine lv_aload_n hx hb d208_0 rfl (lv_at hl 0 rfl) ?_
  obtain ⟨fs9, v21, c9, e9, hF⟩ := hF
  refine va_get (D := D) (ci := 6) (v := va_rf v21) (C := kR6) (T := kT6) (N := 6) hx hb hts ku6 hown hK (hm_one I.1 c9) 0 rfl rfl 3 (by decide) (hts _ ms_k348) (fun _ h => h) e9 d208_1 ?_
  clear e9 c9 fs9
  obtain ⟨a22, e9, hF⟩ := hF
  refine W.eq (g2 := F0 m 4 ls [.ref a22]) (by rw [e9]; rfl) ?_
  clear e9
  obtain ⟨d9, k9, mo9, c9, p1, hF⟩ := hF
  refine ht_V (C := "java/util/ArrayList") (rest := []) (as := []) X hl (c_ALempty l D dA s0 hE a22 d9 k9 mo9 p1) (List.forall_mem_cons.mpr ⟨ms_k785, List.forall_mem_cons.mpr ⟨ms_k786, List.forall_mem_cons.mpr ⟨ms_k787, List.forall_mem_cons.mpr ⟨ms_k18, List.forall_mem_cons.mpr ⟨ms_k788, fun _ h => absurd h List.not_mem_nil⟩⟩⟩⟩⟩) ⟨rfl, by decide +kernel, by decide +kernel, (by decide +kernel : (parseMethodDescriptor "()Z").map (fun d => d.parameters.length) = some 0)⟩ (hm_recv hK I rfl c9) I c9 ⟨⟨Nat.le_of_ble_eq_true rfl, Nat.le_of_ble_eq_true rfl⟩, Nat.le_of_ble_eq_true rfl, Nat.le_of_ble_eq_true rfl⟩ rfl (Nat.le_of_ble_eq_true rfl) d208_4 (fun vv h9 z7 H locs hR I9 => ?_)
  obtain ⟨e1, e2, e3⟩ := hR
  rw [e2, e3] at I9
  subst e1
  clear I
  have I := I9
  clear I9 e2 e3 h9 z7
  refine W.eq (g2 := F0 m 7 ls [.int (if k9 = 0 then 1 else 0)]) rfl ?_
  generalize (if k9 = 0 then 1 else 0) = v23 at hF ⊢
  refine lv_if_ne hx hb d208_7 rfl (fun h9 => ?_) (fun h9 => ?_)
  · have hF := Eq.mp (if_neg h9) hF
    exact b31 ls h0 z0 _ _ hF (hl.sub [] rfl) I
  · have hF := Eq.mp (if_pos h9) hF
    refine lv_aload_n hx hb d208_10 rfl (lv_at hl 0 rfl) ?_
    obtain ⟨fs9, v24, c9, e9, hF⟩ := hF
    refine va_get (D := D) (ci := 6) (v := va_rf v24) (C := kR6) (T := kT6) (N := 6) hx hb hts ku6 hown hK (hm_one I.1 c9) 0 rfl rfl 3 (by decide) (hts _ ms_k348) (fun _ h => h) e9 d208_11 ?_
    clear e9 c9 fs9
    refine lv_iconst (v := 0) hx hb d208_14 (by decide) ?_
    obtain ⟨a25, e9, hF⟩ := hF
    refine W.eq (g2 := F0 m 15 ls [.int 0, .ref a25]) (by rw [e9]; rfl) ?_
    clear e9
    obtain ⟨d9, k9, mo9, n8, j9, q9, f8, c9, c8, e8, p1, p2, p3, p4, hF⟩ := hF
    refine ms_top (y := nI j9) e8 ?_
    refine ht_V (C := "java/util/ArrayList") (rest := []) (as := [.int (nI j9)]) X hl (c_ALget l D dA s0 hE a25 d9 k9 mo9 n8 j9 q9 f8 p1 p2 p3 p4) (List.forall_mem_cons.mpr ⟨ms_k710, List.forall_mem_cons.mpr ⟨ms_k599, List.forall_mem_cons.mpr ⟨ms_k600, List.forall_mem_cons.mpr ⟨ms_k18, List.forall_mem_cons.mpr ⟨ms_k601, fun _ h => absurd h List.not_mem_nil⟩⟩⟩⟩⟩) ⟨rfl, by decide +kernel, by decide +kernel, (by decide +kernel : (parseMethodDescriptor "(I)Ljava/lang/Object;").map (fun d => d.parameters.length) = some 1)⟩ (hm_recv hK I rfl c9) I ⟨c9, c8⟩ ⟨⟨Nat.le_of_ble_eq_true rfl, Nat.le_of_ble_eq_true rfl⟩, Nat.le_of_ble_eq_true rfl, Nat.le_of_ble_eq_true rfl⟩ rfl (Nat.le_of_ble_eq_true rfl) d208_15 (fun vv h9 z7 H locs hR I9 => ?_)
    obtain ⟨e1, e2, e3⟩ := hR
    rw [e2, e3] at I9
    subst e1
    clear I
    have I := I9
    clear I9 e2 e3 h9 z7
    refine W.eq (g2 := F0 m 18 ls [.ref q9]) rfl ?_
    generalize q9 = v26 at hF ⊢
    try clear p4
    obtain ⟨fs9, c9, hF⟩ := hF
    refine va_castE hx hb hown (hts _ ms_k430) (hm_recv hK I rfl c9) d208_18 ?_
    clear c9 fs9
    refine ht_SN (host := "MarkupStore") (rest := []) (as := [.ref v26]) X hl (cw_Store_isText l D dA s0 hE (some v26) h0 z0 _ hF) (ms_nest hE X (ms_l (ms_t4 (List.mem_of_getElem? (i := 69) (by decide +kernel))))) (List.forall_mem_cons.mpr ⟨ms_k790, List.forall_mem_cons.mpr ⟨ms_k1, List.forall_mem_cons.mpr ⟨ms_k791, fun _ h => absurd h List.not_mem_nil⟩⟩⟩) ⟨by decide +kernel, by decide +kernel, (by decide +kernel : (parseMethodDescriptor "(LMarkupStore$Node;)Z").map (fun d => d.parameters.length) = some 1)⟩ I ⟨rfl, rfl⟩ ⟨⟨Nat.le_of_ble_eq_true rfl, Nat.le_of_ble_eq_true rfl⟩, Nat.le_of_ble_eq_true rfl, Nat.le_of_ble_eq_true rfl⟩ rfl (Nat.le_of_ble_eq_true rfl) d208_21 (fun vv h28 z29 H locs hR I9 => ?_)
    obtain ⟨v27, e1, hF⟩ := hR
    subst e1
    clear I
    have I := I9
    clear I9
    refine W.eq (g2 := F0 m 24 ls [.int v27]) rfl ?_
    refine lv_if_eq hx hb d208_24 rfl (fun h9 => ?_) (fun h9 => ?_)
    · have hF := Eq.mp (if_pos h9) hF
      exact b31 ls h28 z29 _ _ hF (hl.sub [] rfl) I
    · have hF := Eq.mp (if_neg h9) hF
      refine lv_iconst (v := 1) hx hb d208_27 (by decide) ?_
      refine lv_goto hx hb d208_28 rfl ?_
      exact ht_zret X d208_32 I (Nat.le_of_ble_eq_true rfl) (Nat.le_of_ble_eq_true rfl) ⟨_, rfl, hF⟩ rfl
