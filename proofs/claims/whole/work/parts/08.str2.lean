abbrev bM27 : ByteArray := prog_25_method_13_code
def yM27 : MethodName := ⟨"java/lang/StringLatin1", "equals", "([B[B)Z"⟩
theorem d27_0 : decode bM27 0 = .ok (.aload_n 0, 1) := by decide +kernel
theorem d27_1 : decode bM27 1 = .ok (.arraylength, 1) := by decide +kernel
theorem d27_2 : decode bM27 2 = .ok (.aload_n 1, 1) := by decide +kernel
theorem d27_3 : decode bM27 3 = .ok (.arraylength, 1) := by decide +kernel
theorem d27_4 : decode bM27 4 = .ok (.if_icmp .ne 30, 3) := by decide +kernel
theorem d27_7 : decode bM27 7 = .ok (.iconst 0, 1) := by decide +kernel
theorem d27_8 : decode bM27 8 = .ok (.istore_n 2, 1) := by decide +kernel
theorem d27_9 : decode bM27 9 = .ok (.iload_n 2, 1) := by decide +kernel
theorem d27_10 : decode bM27 10 = .ok (.aload_n 0, 1) := by decide +kernel
theorem d27_11 : decode bM27 11 = .ok (.arraylength, 1) := by decide +kernel
theorem d27_12 : decode bM27 12 = .ok (.if_icmp .ge 20, 3) := by decide +kernel
theorem d27_15 : decode bM27 15 = .ok (.aload_n 0, 1) := by decide +kernel
theorem d27_16 : decode bM27 16 = .ok (.iload_n 2, 1) := by decide +kernel
theorem d27_17 : decode bM27 17 = .ok (.baload, 1) := by decide +kernel
theorem d27_18 : decode bM27 18 = .ok (.aload_n 1, 1) := by decide +kernel
theorem d27_19 : decode bM27 19 = .ok (.iload_n 2, 1) := by decide +kernel
theorem d27_20 : decode bM27 20 = .ok (.baload, 1) := by decide +kernel
theorem d27_21 : decode bM27 21 = .ok (.if_icmp .eq 5, 3) := by decide +kernel
theorem d27_24 : decode bM27 24 = .ok (.iconst 0, 1) := by decide +kernel
theorem d27_25 : decode bM27 25 = .ok (.ireturn, 1) := by decide +kernel
theorem d27_26 : decode bM27 26 = .ok (.iinc 2 1, 3) := by decide +kernel
theorem d27_29 : decode bM27 29 = .ok (.goto (-20), 3) := by decide +kernel
theorem d27_32 : decode bM27 32 = .ok (.iconst 1, 1) := by decide +kernel
theorem d27_33 : decode bM27 33 = .ok (.ireturn, 1) := by decide +kernel
theorem d27_34 : decode bM27 34 = .ok (.iconst 0, 1) := by decide +kernel
theorem d27_35 : decode bM27 35 = .ok (.ireturn, 1) := by decide +kernel
theorem tx_ext {xs ys : List Nat} (hl : xs.length = ys.length) (h : ∀ j, j < xs.length → xs.getD j 0 = ys.getD j 0) : xs = ys := by
  apply List.ext_getElem hl
  intro i h1 h2
  have := h i h1
  rw [List.getD_eq_getElem?_getD, List.getD_eq_getElem?_getD, List.getElem?_eq_getElem h1, List.getElem?_eq_getElem h2] at this
  exact this
theorem nI_ne {a b : Nat} (ha : a < 2 ^ 31) (hb : b < 2 ^ 31) (h : a ≠ b) : ¬ nI a = nI b := fun q => h ((nI_eq ha hb).mp q)

set_option maxRecDepth 100000 in
set_option maxHeartbeats 8000000 in
theorem c_L1eq (l : Launch) (D : va_G) (dA : Nat → ClassId) (s0 : State) (hE : ms_EV D dA s0) (t1 : Nat) (u1 : Nat) (xs : List Nat) (t2 : Nat) (u2 : Nat) (ys : List Nat) (hn1 : xs.length < 2 ^ 31) (hn2 : ys.length < 2 ^ 31) (hc1 : ∀ c ∈ xs, c < 128) (hc2 : ∀ c ∈ ys, c < 128) : ht_C l D s0 yM27 bM27 3 (Option.some Jvm.ClassFile.FieldType.boolean) 0 0 0 0 [.ref u1, .ref u2] (fun h z => z t1 = some (u1, xs) ∧ z t2 = some (u2, ys)) (fun h z vv h1 z1 => vv = some (.int (if xs = ys then 1 else 0)) ∧ h1 = h ∧ z1 = z) := by
  refine ht_C.mk hE.1 (by decide) (Nat.le_of_ble_eq_true rfl) [(0, .ref u1), (1, .ref u2)] rfl ?_
  intro p e s m below meth c ls h z X hin hpre I hl
  have hx := X.1
  have hb := X.2.1
  have hml := X.2.2.1
  have hown : s.vm.findClass "java/lang/StringLatin1" = some m.cls := X.2.2.2.1
  have hts := X.2.2.2.2.2.2.1
  have hK := X.2.2.2.2.2.2.2.2.1
  obtain ⟨hz1, hz2⟩ := hpre
  have FR : ∀ (b : Nat) (e : va_E), h b = some e → h b = some e := fun _ _ q => q
  refine lv_aload_n hx hb d27_0 rfl (lv_at hl 0 rfl) ?_
  refine hz_len X I hz1 d27_1 ?_
  refine lv_aload_n hx hb d27_2 rfl (lv_at hl 1 rfl) ?_
  refine hz_len X I hz2 d27_3 ?_
  refine lv_icmp_ne hx hb d27_4 rfl (fun hd => ?_) (fun hd => ?_)
  · refine lv_iconst (v := 0) hx hb d27_34 (by decide) ?_
    exact ht_zret X d27_35 I (Nat.le_of_ble_eq_true rfl) (Nat.le_of_ble_eq_true rfl) (⟨by rw [if_neg (fun q => hd (by rw [q]))], rfl, rfl⟩) (rfl)
  · have hlen : xs.length = ys.length := (nI_eq hn1 hn2).mp hd
    refine lv_iconst (v := 0) hx hb d27_7 (by decide) ?_
    refine lv_istore_n hx hb d27_8 rfl hl (by decide) rfl (fun ls hl => ?_)
    have hl : lv_has ls 3 [(2, .int 0), (0, .ref u1), (1, .ref u2)] := hl
    have loop : ∀ (n i : Nat) (ls : Array Slot), i + n = xs.length → (∀ j, j < i → xs.getD j 0 = ys.getD j 0) → lv_has ls 3 [(2, .int (nI i)), (0, .ref u1), (1, .ref u2)] → W p l e { frames := 0, cells := 0, slots := 0, locals := 0 } s m ([.ref u1, .ref u2] : List Value).toArray below meth c s.heap [] 0 0 (MQ below (ht_Q D s0 (fun vv h1 z1 => vv = some (.int (if xs = ys then 1 else 0)) ∧ h1 = h ∧ z1 = z)) ([.ref u1, .ref u2] : List Value).toArray s 0 0 (fun q => s0.heap.size ≤ q)) (F0 m 9 ls []) := by
      intro n
      induction n with
      | zero =>
        intro i ls hn9 hinv hl
        refine lv_iload_n hx hb d27_9 rfl (lv_at hl 0 rfl) ?_
        refine lv_aload_n hx hb d27_10 rfl (lv_at hl 1 rfl) ?_
        refine hz_len X I hz1 d27_11 ?_
        refine lv_icmp_ge hx hb d27_12 rfl (fun _ => ?_) (fun h9 => absurd (nI_le (by omega) (by omega)) h9)
        refine lv_iconst (v := 1) hx hb d27_32 (by decide) ?_
        exact ht_zret X d27_33 I (Nat.le_of_ble_eq_true rfl) (Nat.le_of_ble_eq_true rfl) (⟨by rw [if_pos (tx_ext hlen (fun j hj => hinv j (by omega)))], rfl, rfl⟩) (rfl)
      | succ n ih =>
        intro i ls hn9 hinv hl
        refine lv_iload_n hx hb d27_9 rfl (lv_at hl 0 rfl) ?_
        refine lv_aload_n hx hb d27_10 rfl (lv_at hl 1 rfl) ?_
        refine hz_len X I hz1 d27_11 ?_
        refine lv_icmp_ge hx hb d27_12 rfl (fun h9 => absurd h9 (nI_ge (by omega) (by omega))) (fun _ => ?_)
        refine lv_aload_n hx hb d27_15 rfl (lv_at hl 1 rfl) ?_
        refine lv_iload_n hx hb d27_16 rfl (lv_at hl 0 rfl) ?_
        refine hz_ald (i := i) X I hz1 (by omega) (by omega) d27_17 ?_
        refine lv_aload_n hx hb d27_18 rfl (lv_at hl 2 rfl) ?_
        refine lv_iload_n hx hb d27_19 rfl (lv_at hl 0 rfl) ?_
        refine hz_ald (i := i) X I hz2 (by omega) (by omega) d27_20 ?_
        refine lv_icmp_eq hx hb d27_21 rfl (fun hc => ?_) (fun hc => ?_)
        · refine lv_iinc (k := 0) (v := (nI (i + 1))) hx hb d27_26 hl rfl (nI_1 i) (by decide) rfl (fun ls hl => ?_)
          have hl : lv_has ls 3 [(2, .int (nI (i + 1))), (0, .ref u1), (1, .ref u2)] := hl
          refine lv_goto hx hb d27_29 rfl ?_
          exact ih (i + 1) ls (by omega) (lt_s hinv ((nI_eq (Nat.lt_trans (tx_get hc1 i) (by decide)) (Nat.lt_trans (tx_get hc2 i) (by decide))).mp hc)) hl
        · refine lv_iconst (v := 0) hx hb d27_24 (by decide) ?_
          exact ht_zret X d27_25 I (Nat.le_of_ble_eq_true rfl) (Nat.le_of_ble_eq_true rfl) (⟨by rw [if_neg (fun q => hc (by rw [q]))], rfl, rfl⟩) (rfl)
    exact loop (xs.length - 0) 0 ls (by omega) (fun j hj => absurd hj (Nat.not_lt_zero _)) hl
