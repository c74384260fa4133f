theorem ms_k31 : (Jvm.Cond.classLink "MarkupStoreLaw" (7 : Nat) "MarkupStore") ∈ ms_tb := ms_i1 31 (by decide +kernel) (by decide +kernel)
theorem ms_k32 : (Jvm.Cond.instantiable "MarkupStore" (6 : Nat)) ∈ ms_tb := ms_i1 32 (by decide +kernel) (by decide +kernel)
theorem ms_k33 : (Jvm.Cond.methodLink "MarkupStoreLaw" (9 : Nat) ({ cls := "MarkupStore", name := "<init>", desc := "()V" } : Jvm.MethodName)) ∈ ms_tb := ms_i1 33 (by decide +kernel) (by decide +kernel)
theorem ms_k34 : (Jvm.Cond.instanceMethod ({ cls := "MarkupStore", name := "<init>", desc := "()V" } : Jvm.MethodName)) ∈ ms_tb := ms_i1 34 (by decide +kernel) (by decide +kernel)
theorem ms_k35 : (Jvm.Cond.code ({ cls := "MarkupStore", name := "<init>", desc := "()V" } : Jvm.MethodName) prog_1_method_1_code (1 : Nat) (Option.none : Option Jvm.ClassFile.FieldType)) ∈ ms_tb := ms_i1 35 (by decide +kernel) (by decide +kernel)
theorem ms_k1310 : (Jvm.Cond.classLink "MarkupStoreLaw" (10 : Nat) "MarkupStoreModel") ∈ ms_tb := ms_i6 110 (by decide +kernel) (by decide +kernel)
theorem ms_k1311 : (Jvm.Cond.instantiable "MarkupStoreModel" (60 : Nat)) ∈ ms_tb := ms_i6 111 (by decide +kernel) (by decide +kernel)
theorem ms_k1312 : (Jvm.Cond.methodLink "MarkupStoreLaw" (12 : Nat) ({ cls := "MarkupStoreModel", name := "<init>", desc := "()V" } : Jvm.MethodName)) ∈ ms_tb := ms_i6 112 (by decide +kernel) (by decide +kernel)
theorem ms_k1313 : (Jvm.Cond.instanceMethod ({ cls := "MarkupStoreModel", name := "<init>", desc := "()V" } : Jvm.MethodName)) ∈ ms_tb := ms_i6 113 (by decide +kernel) (by decide +kernel)
theorem ms_k1314 : (Jvm.Cond.code ({ cls := "MarkupStoreModel", name := "<init>", desc := "()V" } : Jvm.MethodName) prog_14_method_1_code (1 : Nat) (Option.none : Option Jvm.ClassFile.FieldType)) ∈ ms_tb := ms_i6 114 (by decide +kernel) (by decide +kernel)
theorem d264_0 : decode code 0 = .ok (.new 7, 3) := by decide +kernel
theorem d264_3 : decode code 3 = .ok (.dup, 1) := by decide +kernel
theorem d264_4 : decode code 4 = .ok (.invokespecial 9, 3) := by decide +kernel
theorem d264_7 : decode code 7 = .ok (.astore_n 1, 1) := by decide +kernel
theorem d264_8 : decode code 8 = .ok (.new 10, 3) := by decide +kernel
theorem d264_11 : decode code 11 = .ok (.dup, 1) := by decide +kernel
theorem d264_12 : decode code 12 = .ok (.invokespecial 12, 3) := by decide +kernel
theorem d264_15 : decode code 15 = .ok (.astore_n 2, 1) := by decide +kernel
theorem d264_16 : decode code 16 = .ok (.iconst 0, 1) := by decide +kernel
theorem d264_17 : decode code 17 = .ok (.istore_n 3, 1) := by decide +kernel
theorem d264_18 : decode code 18 = .ok (.iload_n 3, 1) := by decide +kernel
theorem d264_19 : decode code 19 = .ok (.aload_n 0, 1) := by decide +kernel
theorem d264_20 : decode code 20 = .ok (.arraylength, 1) := by decide +kernel
theorem d264_21 : decode code 21 = .ok (.iconst 3, 1) := by decide +kernel
theorem d264_22 : decode code 22 = .ok (.isub, 1) := by decide +kernel
theorem d264_23 : decode code 23 = .ok (.if_icmp .gt 472, 3) := by decide +kernel
theorem d264_26 : decode code 26 = .ok (.aload_n 0, 1) := by decide +kernel
theorem d264_27 : decode code 27 = .ok (.iload_n 3, 1) := by decide +kernel
theorem d264_28 : decode code 28 = .ok (.iaload, 1) := by decide +kernel
theorem d264_29 : decode code 29 = .ok (.bipush 31, 2) := by decide +kernel
theorem d264_31 : decode code 31 = .ok (.iand, 1) := by decide +kernel
theorem d264_32 : decode code 32 = .ok (.tableswitch 457 0 16 #[84, 109, 122, 155, 178, 201, 224, 247, 260, 273, 296, 329, 362, 395, 408, 421, 434], 84) := by decide +kernel
theorem d264_489 : decode code 489 = .ok (.iinc 3 3, 3) := by decide +kernel
theorem d264_492 : decode code 492 = .ok (.goto (-474), 3) := by decide +kernel
theorem d264_495 : decode code 495 = .ok (.iconst 1, 1) := by decide +kernel
theorem d264_496 : decode code 496 = .ok (.ireturn, 1) := by decide +kernel
theorem law_end {k L : Nat} (h : L < 3 * k + 3) (hL : L ≤ 1536) (hk : 3 * k ≤ L) : Int32.ofNat L - 3 < nI (3 * k) := by
  rcases Nat.lt_or_ge L 3 with q | q
  · have k0 : k = 0 := by omega
    subst k0
    rcases (show L = 0 ∨ L = 1 ∨ L = 2 by omega) with rfl | rfl | rfl <;> decide
  · show nI L - nI 3 < nI (3 * k)
    rw [nI_sub q]
    exact nI_lt (by omega) (by omega)
theorem law_on {k L : Nat} (h : 3 * k + 3 ≤ L) (hL : L ≤ 1536) : ¬ Int32.ofNat L - 3 < nI (3 * k) := by
  show ¬ nI L - nI 3 < nI (3 * k)
  rw [nI_sub (by omega)]
  exact nI_nlt (by omega) (by omega)

set_option maxRecDepth 100000 in
set_option maxHeartbeats 16000000 in
theorem law_loop {p : Program} {e : Env} {s : State} {m : MethodId} {below : List Frame} {meth : Method} {c : Code} (l : Launch) (D : va_G) (dA : Nat → ClassId) {b L : Nat} {xs : Nat → Int32} (hW : ms_EW D dA s) (X : ms_X D (ms_tys dA) s p s m #[Value.ref b] meth c (fun q => s.heap.size ≤ q) x code 4 ret) (hX : va_X b L xs s s.heap) (hbl : b < s.heap.size) (hL : L ≤ 1536) {y r9 : Nat} {M : Nat → Nat} (hM : mm_ok r9 M) : ∀ (n k : Nat) (hc : hm_T) (z : hz_T) (st : mT) (a : aS) (H : Heap) (locs : List Loc) (cells slots : Nat) (ls : Array Slot), 3 * (k + n) ≤ L → L < 3 * (k + n) + 3 → cI dA y hc z a → mI st a → aO a → dj (mm_h dA hE0 r9 M st) hc → hm_I D s s (mm_h dA hc r9 M st) z H locs → lv_has ls 4 [(3, .int (nI (3 * k))), (2, .ref r9), (1, .ref y), (0, .ref b)] → cells + 40 * bl a + 100 * n ≤ 600000 → slots + 2600 * bl a + 4000 * n ≤ 7302249 → W p l e room_1 s m #[Value.ref b] below meth c H locs cells slots (lw_Z below #[Value.ref b] s) (F0 m 18 ls []) := by
  have hx := X.1
  have hb := X.2.1
  have hown : s.vm.findClass "MarkupStoreLaw" = some m.cls := X.2.2.2.1
  have hK := X.2.2.2.2.2.2.2.2.1
  have hbA : ¬ s.heap.size ≤ b := Nat.not_le.mpr hbl
  intro n
  induction n with
  | zero =>
    intro k hc z st a H locs cells slots ls h1 h2 Cc Mm ok dj0 I hl hcl hsl
    refine lv_iload_n hx hb d264_18 rfl (lv_at hl 0 rfl) ?_
    refine lv_aload_n hx hb d264_19 rfl (lv_at hl 3 rfl) ?_
    refine va_slen hx hb hX hbl hbA I.2.2.1 d264_20 ?_
    refine lv_iconst (v := 3) hx hb d264_21 (by decide) ?_
    refine lv_isub hx hb d264_22 ?_
    refine lv_icmp_gt hx hb d264_23 rfl (fun _ => ?_) (fun h9 => absurd (law_end (k := k) (by omega) hL (by omega)) h9)
    refine lv_iconst (v := 1) hx hb d264_495 (by decide) ?_
    refine va_forget (fun q hq => X.2.2.2.2.2.2.2.2.2.1 _ (I.2.2.1.2.2 q hq)) ?_
    refine W.widen (k := 600000) (n := 7302249) (by omega) (by omega) ?_
    exact lw_ret hx hb X.2.2.2.2.1 X.2.2.2.2.2.1 d264_496
  | succ n ih =>
    intro k hc z st a H locs cells slots ls h1 h2 Cc Mm ok dj0 I hl hcl hsl
    refine lv_iload_n hx hb d264_18 rfl (lv_at hl 0 rfl) ?_
    refine lv_aload_n hx hb d264_19 rfl (lv_at hl 3 rfl) ?_
    refine va_slen hx hb hX hbl hbA I.2.2.1 d264_20 ?_
    refine lv_iconst (v := 3) hx hb d264_21 (by decide) ?_
    refine lv_isub hx hb d264_22 ?_
    refine lv_icmp_gt hx hb d264_23 rfl (fun h9 => absurd h9 (law_on (k := k) (by omega) hL)) (fun _ => ?_)
    have nx : ∀ (hc2 : hm_T) (z2 : hz_T) (st2 : mT) (a2 : aS) (H2 : Heap) (locs2 : List Loc) (cells2 slots2 : Nat), cI dA y hc2 z2 a2 → mI st2 a2 → aO a2 → dj (mm_h dA hE0 r9 M st2) hc2 → hm_I D s s (mm_h dA hc2 r9 M st2) z2 H2 locs2 → cells2 + 40 * bl a2 ≤ cells + 40 * bl a + 100 → slots2 + 2600 * bl a2 ≤ slots + 2600 * bl a + 4000 → W p l e room_1 s m #[Value.ref b] below meth c H2 locs2 cells2 slots2 (lw_Z below #[Value.ref b] s) (F0 m 489 ls []) := fun hc2 z2 st2 a2 H2 locs2 cells2 slots2 c2 m2 o2 d2 I2 b1 b2 => by
      refine lv_iinc (k := 0) (v := nI (3 * (k + 1))) hx hb d264_489 hl rfl (by rw [show Int32.ofInt 3 = nI 3 by decide, nI_add, show 3 * k + 3 = 3 * (k + 1) by omega]) (by decide) rfl (fun ls hl => ?_)
      have hl : lv_has ls 4 [(3, .int (nI (3 * (k + 1)))), (2, .ref r9), (1, .ref y), (0, .ref b)] := hl
      refine lv_goto hx hb d264_492 rfl ?_
      exact ih (k + 1) hc2 z2 st2 a2 H2 locs2 cells2 slots2 ls (by omega) (by omega) c2 m2 o2 d2 I2 hl (by omega) (by omega)
    have hk : 3 * k + 3 ≤ L := by omega
    have hcl2 : cells + 40 * bl a + 100 ≤ 600000 := by omega
    have hsl2 : slots + 2600 * bl a + 4000 ≤ 7302249 := by omega
    refine W.eq (g2 := F0 m 26 ls []) rfl ?_
    refine lv_aload_n hx hb d264_26 rfl (lv_at hl 3 rfl) ?_
    refine lv_iload_n hx hb d264_27 rfl (lv_at hl 0 rfl) ?_
    refine va_sld hx hb hX hbl hbA I.2.2.1 (vp_inI (i := 3 * k) (by omega) (by omega)) d264_28 ?_
    refine lv_bipush (v := 31) hx hb d264_29 (by decide) ?_
    refine lv_iand hx hb d264_31 ?_
    obtain ⟨j, hj, ej⟩ := pk_andE (xs (nI (3 * k)).toNatClampNeg) (m := 31) 5 (by decide)
    refine ms_top (y := nI j) ej ?_
    by_cases h16 : j ≤ 16
    · rcases (show j = 0 ∨ j = 1 ∨ j = 2 ∨ j = 3 ∨ j = 4 ∨ j = 5 ∨ j = 6 ∨ j = 7 ∨ j = 8 ∨ j = 9 ∨ j = 10 ∨ j = 11 ∨ j = 12 ∨ j = 13 ∨ j = 14 ∨ j = 15 ∨ j = 16 by omega) with rfl | rfl | rfl | rfl | rfl | rfl | rfl | rfl | rfl | rfl | rfl | rfl | rfl | rfl | rfl | rfl | rfl
      · refine lv_tableIn (off := 84) (tgt := 116) hx hb d264_32 (by decide) (by decide) (by decide) rfl ?_
        exact law_c0 l D dA hW X hX hbl hk hL hM Cc Mm ok dj0 I hl hcl2 hsl2 nx
      · refine lv_tableIn (off := 109) (tgt := 141) hx hb d264_32 (by decide) (by decide) (by decide) rfl ?_
        exact law_c1 l D dA hW X hX hbl hk hL hM Cc Mm ok dj0 I hl hcl2 hsl2 nx
      · refine lv_tableIn (off := 122) (tgt := 154) hx hb d264_32 (by decide) (by decide) (by decide) rfl ?_
        exact law_c2 l D dA hW X hX hbl hk hL hM Cc Mm ok dj0 I hl hcl2 hsl2 nx
      · refine lv_tableIn (off := 155) (tgt := 187) hx hb d264_32 (by decide) (by decide) (by decide) rfl ?_
        exact law_c3 l D dA hW X hX hbl hk hL hM Cc Mm ok dj0 I hl hcl2 hsl2 nx
      · refine lv_tableIn (off := 178) (tgt := 210) hx hb d264_32 (by decide) (by decide) (by decide) rfl ?_
        exact law_c4 l D dA hW X hX hbl hk hL hM Cc Mm ok dj0 I hl hcl2 hsl2 nx
      · refine lv_tableIn (off := 201) (tgt := 233) hx hb d264_32 (by decide) (by decide) (by decide) rfl ?_
        exact law_c5 l D dA hW X hX hbl hk hL hM Cc Mm ok dj0 I hl hcl2 hsl2 nx
      · refine lv_tableIn (off := 224) (tgt := 256) hx hb d264_32 (by decide) (by decide) (by decide) rfl ?_
        exact law_c6 l D dA hW X hX hbl hk hL hM Cc Mm ok dj0 I hl hcl2 hsl2 nx
      · refine lv_tableIn (off := 247) (tgt := 279) hx hb d264_32 (by decide) (by decide) (by decide) rfl ?_
        exact law_c7 l D dA hW X hX hbl hk hL hM Cc Mm ok dj0 I hl hcl2 hsl2 nx
      · refine lv_tableIn (off := 260) (tgt := 292) hx hb d264_32 (by decide) (by decide) (by decide) rfl ?_
        exact law_c8 l D dA hW X hX hbl hk hL hM Cc Mm ok dj0 I hl hcl2 hsl2 nx
      · refine lv_tableIn (off := 273) (tgt := 305) hx hb d264_32 (by decide) (by decide) (by decide) rfl ?_
        exact law_c9 l D dA hW X hX hbl hk hL hM Cc Mm ok dj0 I hl hcl2 hsl2 nx
      · refine lv_tableIn (off := 296) (tgt := 328) hx hb d264_32 (by decide) (by decide) (by decide) rfl ?_
        exact law_c10 l D dA hW X hX hbl hk hL hM Cc Mm ok dj0 I hl hcl2 hsl2 nx
      · refine lv_tableIn (off := 329) (tgt := 361) hx hb d264_32 (by decide) (by decide) (by decide) rfl ?_
        exact law_c11 l D dA hW X hX hbl hk hL hM Cc Mm ok dj0 I hl hcl2 hsl2 nx
      · refine lv_tableIn (off := 362) (tgt := 394) hx hb d264_32 (by decide) (by decide) (by decide) rfl ?_
        exact law_c12 l D dA hW X hX hbl hk hL hM Cc Mm ok dj0 I hl hcl2 hsl2 nx
      · refine lv_tableIn (off := 395) (tgt := 427) hx hb d264_32 (by decide) (by decide) (by decide) rfl ?_
        exact law_c13 l D dA hW X hX hbl hk hL hM Cc Mm ok dj0 I hl hcl2 hsl2 nx
      · refine lv_tableIn (off := 408) (tgt := 440) hx hb d264_32 (by decide) (by decide) (by decide) rfl ?_
        exact law_c14 l D dA hW X hX hbl hk hL hM Cc Mm ok dj0 I hl hcl2 hsl2 nx
      · refine lv_tableIn (off := 421) (tgt := 453) hx hb d264_32 (by decide) (by decide) (by decide) rfl ?_
        exact law_c15 l D dA hW X hX hbl hk hL hM Cc Mm ok dj0 I hl hcl2 hsl2 nx
      · refine lv_tableIn (off := 434) (tgt := 466) hx hb d264_32 (by decide) (by decide) (by decide) rfl ?_
        exact law_c16 l D dA hW X hX hbl hk hL hM Cc Mm ok dj0 I hl hcl2 hsl2 nx
    · refine lv_tableOut (tgt := 489) hx hb d264_32 (Or.inr (by rw [nI_toInt (by omega)]; omega)) rfl ?_
      exact nx hc z st a H locs cells slots Cc Mm ok dj0 I (by omega) (by omega)

set_option maxRecDepth 100000 in
set_option maxHeartbeats 16000000 in
theorem law_main {p : Program} {e : Env} {s : State} {m : MethodId} {below : List Frame} {meth : Method} {c : Code} (l : Launch) (D : va_G) (dA : Nat → ClassId) {b L : Nat} {xs : Nat → Int32} (hW : ms_EW D dA s) (X : ms_X D (ms_tys dA) s p s m #[Value.ref b] meth c (fun q => s.heap.size ≤ q) x code 4 ret) (hX : va_X b L xs s s.heap) (hbl : b < s.heap.size) (hL : L ≤ 1536) {z : hz_T} {ls : Array Slot} (I : hm_I D s s hE0 z s.heap []) (hl : lv_has ls 4 [(0, .ref b)]) : W p l e room_1 s m #[Value.ref b] below meth c s.heap [] 0 0 (lw_Z below #[Value.ref b] s) (F0 m 0 ls []) := by
  have hx := X.1
  have hb := X.2.1
  have hown : s.vm.findClass "MarkupStoreLaw" = some m.cls := X.2.2.2.1
  have hK := X.2.2.2.2.2.2.2.2.1
  have hbA : ¬ s.heap.size ≤ b := Nat.not_le.mpr hbl
  refine hm_mk (ci := 0) (fs := [.null, .null, .null, .null, .int 0, .int 0]) (C := kR0) (T := kT0) (N := 6) X I ku0 kt0 kp0 (List.forall_mem_cons.mpr ⟨ms_k31, List.forall_mem_cons.mpr ⟨ms_k32, List.forall_mem_cons.mpr ⟨ms_k1, fun _ h => absurd h List.not_mem_nil⟩⟩⟩) rfl kz0 (Nat.le_of_ble_eq_true rfl) (Nat.le_of_ble_eq_true rfl) d264_0 (fun q1 h1 H v1 e1 f1 I => ?_)
  refine lv_dup hx hb d264_3 rfl ?_
  refine ht_I (rest := [.ref q1]) (as := []) X hl (cw_Store_init l D dA s hW q1 9 366 h1 z (fun h2 z2 => cI dA q1 h2 z2 as0) (pc_init e1 (fun h2 c2 => c2))) (List.forall_mem_cons.mpr ⟨ms_k33, List.forall_mem_cons.mpr ⟨ms_k34, List.forall_mem_cons.mpr ⟨ms_k1, List.forall_mem_cons.mpr ⟨ms_k35, fun _ h => absurd h List.not_mem_nil⟩⟩⟩⟩) rfl ⟨by decide +kernel, by decide +kernel, (by decide +kernel : (parseMethodDescriptor "()V").map (fun d => d.parameters.length) = some 0)⟩ I ⟨rfl, rfl⟩ ⟨⟨(Nat.le_of_ble_eq_true rfl), (Nat.le_of_ble_eq_true rfl)⟩, (Nat.le_of_ble_eq_true rfl), (Nat.le_of_ble_eq_true rfl)⟩ rfl (Nat.le_of_ble_eq_true rfl) d264_4 (fun vv h2 z2 H locs hR I9 => ?_)
  obtain ⟨e2, C2⟩ := hR
  subst e2
  refine W.eq (g2 := F0 m 7 ls [.ref q1]) rfl ?_
  refine lv_astore_n hx hb d264_7 rfl hl (by decide) rfl (fun ls hl => ?_)
  have hl : lv_has ls 4 [(1, .ref q1), (0, .ref b)] := hl
  refine hm_mk (ci := 2) (fs := [.null, .null, .null, .null, .int 0, .int 0, .null, .int 0, .int 0, .int 0, .int 0, .int 0, .int 0, .int 0, .int 0, .null, .null, .null, .int 0, .int 0, .null, .null, .null, .int 0, .int 0, .null, .null, .null, .null, .null, .null, .int 0, .null, .null, .null, .null, .null, .null, .null, .null, .null, .null, .null, .int 0, .null, .int 0, .int 0, .int 0, .int 0, .int 0, .null, .null, .null, .int 0, .null, .int 0, .null, .int 0, .int 0, .int 0]) (C := kR2) (T := kT2) (N := 60) X I9 ku2 kt2 kp2 (List.forall_mem_cons.mpr ⟨ms_k1310, List.forall_mem_cons.mpr ⟨ms_k1311, List.forall_mem_cons.mpr ⟨ms_k7, fun _ h => absurd h List.not_mem_nil⟩⟩⟩) rfl kz2 (Nat.le_of_ble_eq_true rfl) (Nat.le_of_ble_eq_true rfl) d264_8 (fun q3 h3 H v3 e3 f3 I => ?_)
  refine lv_dup hx hb d264_11 rfl ?_
  refine ht_I (rest := [.ref q3]) (as := []) X hl (c_MMinit l D dA s hW.1 q3).lift (List.forall_mem_cons.mpr ⟨ms_k1312, List.forall_mem_cons.mpr ⟨ms_k1313, List.forall_mem_cons.mpr ⟨ms_k7, List.forall_mem_cons.mpr ⟨ms_k1314, fun _ h => absurd h List.not_mem_nil⟩⟩⟩⟩) rfl ⟨by decide +kernel, by decide +kernel, (by decide +kernel : (parseMethodDescriptor "()V").map (fun d => d.parameters.length) = some 0)⟩ I (hm_has1 e3) ⟨⟨(Nat.le_of_ble_eq_true rfl), (Nat.le_of_ble_eq_true rfl)⟩, (Nat.le_of_ble_eq_true rfl), (Nat.le_of_ble_eq_true rfl)⟩ rfl (Nat.le_of_ble_eq_true rfl) d264_12 (fun vv h4 z4 H locs hR J9 => ?_)
  obtain ⟨w, ⟨r, e5, e6⟩, A4, e7⟩ := hR
  subst e5
  subst e7
  subst e6
  obtain ⟨hM, d0, sub⟩ := mm_born (dA := dA) (M := r) v3 f3 A4
  have I := J9.sub sub
  clear J9
  refine W.eq (g2 := F0 m 15 ls [.ref q3]) rfl ?_
  refine lv_astore_n hx hb d264_15 rfl hl (by decide) rfl (fun ls hl => ?_)
  have hl : lv_has ls 4 [(2, .ref q3), (1, .ref q1), (0, .ref b)] := hl
  refine lv_iconst (v := 0) hx hb d264_16 (by decide) ?_
  refine lv_istore_n hx hb d264_17 rfl hl (by decide) rfl (fun ls hl => ?_)
  have hl : lv_has ls 4 [(3, .int (nI (3 * 0))), (2, .ref q3), (1, .ref q1), (0, .ref b)] := hl
  refine law_loop l D dA hW X hX hbl hL hM (L / 3) 0 h2 _ st00 as0 H locs _ _ ls (by omega) (by omega) C2 mI0 aO0 d0 I hl ?_ ?_
  · show 0 + 1 + 9 + 1 + 34 + 40 * 0 + 100 * (L / 3) ≤ 600000
    omega
  · show 0 + 6 + 366 + 60 + 17382 + 2600 * 0 + 4000 * (L / 3) ≤ 7302249
    omega
