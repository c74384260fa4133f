
theorem ms_arrP {s : State} {args : Array Value} {ty : FieldType} (h : (Cond.arrayClass ty).before args s = true) : ∃ cA, ArrOfT s cA ty ∧ s.vm.findClass ("[" ++ ty.toString) = some cA := by
  obtain ⟨c, k, comp, h1, h2, h3⟩ := Cond.arrayClass_spec h
  exact ⟨c, fun n z => ⟨fun _ h => (by cases h), k, h2, comp, h3⟩, h1⟩
theorem ms_arrO {s : State} {args : Array Value} {C : String} (h : (Cond.arrayOver (.object C)).before args s = true) : ∃ cA, ArrOfT s cA (.object C) ∧ va_RA s cA (.object C) := by
  obtain ⟨comp, c, k, h1, h2, h3, h4, h5⟩ := Cond.arrayOver_spec h
  exact ⟨c, fun n z => ⟨fun _ h => (by cases h), k, h3, comp, h4⟩, k, comp, h3, h4, h1, h5⟩
theorem ms_isr {args : Array Value} {s : State} {C n d : String} (h : (Cond.isRef (.static C n d)).before args s = true) : (Term.static C n d).eval args s none [] s = some .null ∨ ∃ t : Nat, (Term.static C n d).eval args s none [] s = some (.ref t) := by
  obtain ⟨v, hv, hr⟩ := Cond.isRef_spec h
  cases v with
  | ref t => exact Or.inr ⟨t, hv⟩
  | null => exact Or.inl hv
  | _ => simp [Value.isRef] at hr

theorem lit_of {A : Array Value} {s : State} {own tx : String} {k : Nat} {xs : List Nat} (hx : xs.length < 1000) (hw : (Cond.stringRef own k tx).before A s = true) (hex : (Cond.exactly (.string own k) "java/lang/String").before A s = true) (hco : (Cond.eq (.field (.string own k) "java/lang/String" "coder" "B") (.int 0)).before A s = true) (har : (Cond.arrayOf (.field (.string own k) "java/lang/String" "value" "[B") .byte).before A s = true) (hln : (Cond.eq (.length (.field (.string own k) "java/lang/String" "value" "[B")) (.int (Int32.ofNat xs.length))).before A s = true) (hel : ∀ j, j < xs.length → (Cond.eq (.elem (.field (.string own k) "java/lang/String" "value" "[B") (.int (Int32.ofNat j))) (.int (nI (xs.getD j 0)))).before A s = true) : ∃ a u, vk_R own k tx a s ∧ st_at s s.heap a u xs := by
  obtain ⟨a, c, cA, kA, q1, q2, q3, q4, q5, q6, -⟩ := Cond.exactly_spec (args := A) (first := s) (o := none) (s := s) (idx := []) (t := .string own k) (cls := "java/lang/String") hex
  obtain ⟨u, e1, t1⟩ := va_Tof (ty := .byte) (N := xs.length) (f := fun j => .int (nI (xs.getD j 0))) (A := fun _ => False) (by omega) har (va_eqt hln) (fun j hj => va_eqt (hel j hj)) (fun _ _ h => h)
  exact ⟨a, u, vk_R.of hw q1, va_Oof hex q1 (fun _ _ h => h), vk_OFof q1 (va_eqt hco) (fun _ _ h => h), vk_OFof q1 e1 (fun _ _ h => h), t1⟩
theorem st_uni {s : State} {H : Heap} {a u u2 : Nat} {xs xs2 : List Nat} (h1 : st_at s H a u xs) (h2 : st_at s H a u2 xs2) (b1 : xs.length < 1000 ∧ ∀ c ∈ xs, c < 128) (b2 : xs2.length < 1000 ∧ ∀ c ∈ xs2, c < 128) : u = u2 ∧ xs = xs2 := by
  obtain ⟨-, -, ⟨cf, k, i, f, cell, f1, f2, f3, f4, f5, -⟩, ⟨c1, t1, t2, t3, t4, t5, t6, -⟩⟩ := h1
  obtain ⟨-, -, ⟨cf2, k2, i2, f', cell2, g1, g2, g3, g4, g5, -⟩, ⟨c2, r1, r2, r3, r4, r5, r6, -⟩⟩ := h2
  rw [f1] at g1
  cases g1
  rw [f3] at g3
  cases g3
  rw [f5] at g5
  have eu : u = u2 := by cases g5; rfl
  subst eu
  rw [t1] at r1
  cases r1
  have el : xs.length = xs2.length := by
    rw [t5] at r5
    exact (nI_eq (by omega) (by omega)).mp r5
  refine ⟨rfl, (list_eq_iff el).mpr (fun j hj => ?_)⟩
  have e1 := t6 j (by omega)
  have e2 := r6 j hj
  rw [e1] at e2
  have l1 := getD_lt b1.2 j
  have l2 := getD_lt b2.2 j
  have e3 : nI (xs.getD j 0) = nI (xs2.getD j 0) := by injection (Option.some.inj e2)
  exact (nI_eq (by omega) (by omega)).mp e3
theorem lit_small : ∀ q ∈ ms_lit, q.2.2.2.length < 1000 ∧ ∀ c ∈ q.2.2.2, c < 128 := by decide +kernel
theorem lit_map (s : State) : ∃ z : hz_T, hz_P s s hE0 z s.heap := by
  have h : ∀ a : Nat, ∃ o : Option (Nat × List Nat), (∀ u xs, o = some (u, xs) → st_at s s.heap a u xs) ∧ ∀ (k : Nat) (q : String × Nat × String × List Nat) (u : Nat), ms_lit[k]? = some q → vk_R q.1 q.2.1 q.2.2.1 a s → st_at s s.heap a u q.2.2.2 → o = some (u, q.2.2.2) := fun a => by
    by_cases w : ∃ (k : Nat) (q : String × Nat × String × List Nat) (u : Nat), ms_lit[k]? = some q ∧ st_at s s.heap a u q.2.2.2
    · obtain ⟨k, q, u, e1, e2⟩ := w
      refine ⟨some (u, q.2.2.2), fun u1 xs1 e => by cases e; exact e2, fun k2 q2 u2 f1 _ f2 => ?_⟩
      obtain ⟨x1, x2⟩ := st_uni e2 f2 (lit_small q (List.mem_of_getElem? e1)) (lit_small q2 (List.mem_of_getElem? f1))
      rw [x1, x2]
    · exact ⟨none, fun u xs e => (by cases e), fun k q u f1 _ f2 => absurd ⟨k, q, u, f1, f2⟩ w⟩
  exact ⟨fun a => Classical.choose (h a), fun a u xs e => ⟨(Classical.choose_spec (h a)).1 u xs e, rfl, rfl⟩, fun k q a u f1 f2 f3 => (Classical.choose_spec (h a)).2 k q u f1 f2 f3⟩

set_option maxRecDepth 100000 in
set_option maxHeartbeats 16000000 in
theorem ms_lits {s : State} {b : Nat} (hts : ∀ w ∈ lw_tbl, w.before #[Value.ref b] s = true) (hgv : (Jvm.Cond.and given_1 narrow_1).before #[Value.ref b] s = true) : ∀ q ∈ ms_lit, ∃ a u : Nat, vk_R q.1 q.2.1 q.2.2.1 a s ∧ st_at s s.heap a u q.2.2.2 := by
  have hs := flat_of_before _ hgv
  have l0 := lit_of (own := "MarkupStore$Node") (k := 39) (tx := "") (xs := []) (by decide) (hts _ (ms_l (ms_t2 (List.mem_of_getElem? (i := 198) (by decide +kernel))))) (hs _ (by decide +kernel)) (hs _ (by decide +kernel)) (hs _ (by decide +kernel)) (hs _ (by decide +kernel)) (fun j hj => absurd hj (Nat.not_lt_zero _))
  have l1 := lit_of (own := "java/lang/StringLatin1") (k := 151) (tx := "") (xs := []) (by decide) (hts _ (ms_l (ms_t3 (List.mem_of_getElem? (i := 84) (by decide +kernel))))) (hs _ (by decide +kernel)) (hs _ (by decide +kernel)) (hs _ (by decide +kernel)) (hs _ (by decide +kernel)) (fun j hj => absurd hj (Nat.not_lt_zero _))
  have l2 := lit_of (own := "java/lang/StringUTF16") (k := 295) (tx := "") (xs := []) (by decide) (hts _ (ms_l (ms_t3 (List.mem_of_getElem? (i := 93) (by decide +kernel))))) (hs _ (by decide +kernel)) (hs _ (by decide +kernel)) (hs _ (by decide +kernel)) (hs _ (by decide +kernel)) (fun j hj => absurd hj (Nat.not_lt_zero _))
  have l3 := lit_of (own := "MarkupStore$MarkupReader") (k := 170) (tx := "&lt") (xs := [38, 108, 116]) (by decide) (hts _ (ms_l (ms_t3 (List.mem_of_getElem? (i := 158) (by decide +kernel))))) (hs _ (by decide +kernel)) (hs _ (by decide +kernel)) (hs _ (by decide +kernel)) (hs _ (by decide +kernel)) (fun j hj => by
    rcases (show j = 0 ∨ j = 1 ∨ j = 2 by simp at hj; omega) with rfl | rfl | rfl
    · exact hs _ (by decide +kernel)
    · exact hs _ (by decide +kernel)
    · exact hs _ (by decide +kernel))
  have l4 := lit_of (own := "MarkupStore$MarkupReader") (k := 176) (tx := "&gt") (xs := [38, 103, 116]) (by decide) (hts _ (ms_l (ms_t3 (List.mem_of_getElem? (i := 166) (by decide +kernel))))) (hs _ (by decide +kernel)) (hs _ (by decide +kernel)) (hs _ (by decide +kernel)) (hs _ (by decide +kernel)) (fun j hj => by
    rcases (show j = 0 ∨ j = 1 ∨ j = 2 by simp at hj; omega) with rfl | rfl | rfl
    · exact hs _ (by decide +kernel)
    · exact hs _ (by decide +kernel)
    · exact hs _ (by decide +kernel))
  have l5 := lit_of (own := "MarkupStore$MarkupReader") (k := 178) (tx := "&amp") (xs := [38, 97, 109, 112]) (by decide) (hts _ (ms_l (ms_t3 (List.mem_of_getElem? (i := 167) (by decide +kernel))))) (hs _ (by decide +kernel)) (hs _ (by decide +kernel)) (hs _ (by decide +kernel)) (hs _ (by decide +kernel)) (fun j hj => by
    rcases (show j = 0 ∨ j = 1 ∨ j = 2 ∨ j = 3 by simp at hj; omega) with rfl | rfl | rfl | rfl
    · exact hs _ (by decide +kernel)
    · exact hs _ (by decide +kernel)
    · exact hs _ (by decide +kernel)
    · exact hs _ (by decide +kernel))
  have l6 := lit_of (own := "MarkupStore$MarkupReader") (k := 180) (tx := "&quot") (xs := [38, 113, 117, 111, 116]) (by decide) (hts _ (ms_l (ms_t3 (List.mem_of_getElem? (i := 168) (by decide +kernel))))) (hs _ (by decide +kernel)) (hs _ (by decide +kernel)) (hs _ (by decide +kernel)) (hs _ (by decide +kernel)) (fun j hj => by
    rcases (show j = 0 ∨ j = 1 ∨ j = 2 ∨ j = 3 ∨ j = 4 by simp at hj; omega) with rfl | rfl | rfl | rfl | rfl
    · exact hs _ (by decide +kernel)
    · exact hs _ (by decide +kernel)
    · exact hs _ (by decide +kernel)
    · exact hs _ (by decide +kernel)
    · exact hs _ (by decide +kernel))
  have l7 := lit_of (own := "MarkupStore$MarkupReader") (k := 182) (tx := "&apos") (xs := [38, 97, 112, 111, 115]) (by decide) (hts _ (ms_l (ms_t3 (List.mem_of_getElem? (i := 169) (by decide +kernel))))) (hs _ (by decide +kernel)) (hs _ (by decide +kernel)) (hs _ (by decide +kernel)) (hs _ (by decide +kernel)) (fun j hj => by
    rcases (show j = 0 ∨ j = 1 ∨ j = 2 ∨ j = 3 ∨ j = 4 by simp at hj; omega) with rfl | rfl | rfl | rfl | rfl
    · exact hs _ (by decide +kernel)
    · exact hs _ (by decide +kernel)
    · exact hs _ (by decide +kernel)
    · exact hs _ (by decide +kernel)
    · exact hs _ (by decide +kernel))
  have l8 := lit_of (own := "MarkupStore$MarkupReader") (k := 50) (tx := "") (xs := []) (by decide) (hts _ (ms_l (ms_t4 (List.mem_of_getElem? (i := 77) (by decide +kernel))))) (hs _ (by decide +kernel)) (hs _ (by decide +kernel)) (hs _ (by decide +kernel)) (hs _ (by decide +kernel)) (fun j hj => absurd hj (Nat.not_lt_zero _))
  have l9 := lit_of (own := "MarkupStore$Step") (k := 18) (tx := "") (xs := []) (by decide) (hts _ (ms_l (ms_t4 (List.mem_of_getElem? (i := 200) (by decide +kernel))))) (hs _ (by decide +kernel)) (hs _ (by decide +kernel)) (hs _ (by decide +kernel)) (hs _ (by decide +kernel)) (fun j hj => absurd hj (Nat.not_lt_zero _))
  have l10 := lit_of (own := "MarkupStore$PathReader") (k := 103) (tx := "DEPABSNLFR") (xs := [68, 69, 80, 65, 66, 83, 78, 76, 70, 82]) (by decide) (hts _ (ms_l (ms_t4 (List.mem_of_getElem? (i := 229) (by decide +kernel))))) (hs _ (by decide +kernel)) (hs _ (by decide +kernel)) (hs _ (by decide +kernel)) (hs _ (by decide +kernel)) (fun j hj => by
    rcases (show j = 0 ∨ j = 1 ∨ j = 2 ∨ j = 3 ∨ j = 4 ∨ j = 5 ∨ j = 6 ∨ j = 7 ∨ j = 8 ∨ j = 9 by simp at hj; omega) with rfl | rfl | rfl | rfl | rfl | rfl | rfl | rfl | rfl | rfl
    · exact hs _ (by decide +kernel)
    · exact hs _ (by decide +kernel)
    · exact hs _ (by decide +kernel)
    · exact hs _ (by decide +kernel)
    · exact hs _ (by decide +kernel)
    · exact hs _ (by decide +kernel)
    · exact hs _ (by decide +kernel)
    · exact hs _ (by decide +kernel)
    · exact hs _ (by decide +kernel)
    · exact hs _ (by decide +kernel))
  have l11 := lit_of (own := "MarkupStore$PathReader") (k := 109) (tx := "*#%.") (xs := [42, 35, 37, 46]) (by decide) (hts _ (ms_l (ms_t5 (List.mem_of_getElem? (i := 38) (by decide +kernel))))) (hs _ (by decide +kernel)) (hs _ (by decide +kernel)) (hs _ (by decide +kernel)) (hs _ (by decide +kernel)) (fun j hj => by
    rcases (show j = 0 ∨ j = 1 ∨ j = 2 ∨ j = 3 by simp at hj; omega) with rfl | rfl | rfl | rfl
    · exact hs _ (by decide +kernel)
    · exact hs _ (by decide +kernel)
    · exact hs _ (by decide +kernel)
    · exact hs _ (by decide +kernel))
  have l12 := lit_of (own := "MarkupStore$Predicate") (k := 21) (tx := "") (xs := []) (by decide) (hts _ (ms_l (ms_t5 (List.mem_of_getElem? (i := 59) (by decide +kernel))))) (hs _ (by decide +kernel)) (hs _ (by decide +kernel)) (hs _ (by decide +kernel)) (hs _ (by decide +kernel)) (fun j hj => absurd hj (Nat.not_lt_zero _))
  have l13 := lit_of (own := "MarkupStore$PathReader") (k := 128) (tx := "=") (xs := [61]) (by decide) (hts _ (ms_l (ms_t5 (List.mem_of_getElem? (i := 107) (by decide +kernel))))) (hs _ (by decide +kernel)) (hs _ (by decide +kernel)) (hs _ (by decide +kernel)) (hs _ (by decide +kernel)) (fun j hj => by
    rcases (show j = 0 by simp at hj; omega) with rfl
    · exact hs _ (by decide +kernel))
  have l14 := lit_of (own := "MarkupStore$PathReader") (k := 138) (tx := "=~") (xs := [61, 126]) (by decide) (hts _ (ms_l (ms_t5 (List.mem_of_getElem? (i := 116) (by decide +kernel))))) (hs _ (by decide +kernel)) (hs _ (by decide +kernel)) (hs _ (by decide +kernel)) (hs _ (by decide +kernel)) (fun j hj => by
    rcases (show j = 0 ∨ j = 1 by simp at hj; omega) with rfl | rfl
    · exact hs _ (by decide +kernel)
    · exact hs _ (by decide +kernel))
  have l15 := lit_of (own := "MarkupStore$Scribe") (k := 69) (tx := "</") (xs := [60, 47]) (by decide) (hts _ (ms_l (ms_t6 (List.mem_of_getElem? (i := 72) (by decide +kernel))))) (hs _ (by decide +kernel)) (hs _ (by decide +kernel)) (hs _ (by decide +kernel)) (hs _ (by decide +kernel)) (fun j hj => by
    rcases (show j = 0 ∨ j = 1 by simp at hj; omega) with rfl | rfl
    · exact hs _ (by decide +kernel)
    · exact hs _ (by decide +kernel))
  have l16 := lit_of (own := "MarkupStore$Scribe") (k := 94) (tx := "=\"") (xs := [61, 34]) (by decide) (hts _ (ms_l (ms_t6 (List.mem_of_getElem? (i := 92) (by decide +kernel))))) (hs _ (by decide +kernel)) (hs _ (by decide +kernel)) (hs _ (by decide +kernel)) (hs _ (by decide +kernel)) (fun j hj => by
    rcases (show j = 0 ∨ j = 1 by simp at hj; omega) with rfl | rfl
    · exact hs _ (by decide +kernel)
    · exact hs _ (by decide +kernel))
  have l17 := lit_of (own := "MarkupStore$Scribe") (k := 99) (tx := "&quot;") (xs := [38, 113, 117, 111, 116, 59]) (by decide) (hts _ (ms_l (ms_t6 (List.mem_of_getElem? (i := 94) (by decide +kernel))))) (hs _ (by decide +kernel)) (hs _ (by decide +kernel)) (hs _ (by decide +kernel)) (hs _ (by decide +kernel)) (fun j hj => by
    rcases (show j = 0 ∨ j = 1 ∨ j = 2 ∨ j = 3 ∨ j = 4 ∨ j = 5 by simp at hj; omega) with rfl | rfl | rfl | rfl | rfl | rfl
    · exact hs _ (by decide +kernel)
    · exact hs _ (by decide +kernel)
    · exact hs _ (by decide +kernel)
    · exact hs _ (by decide +kernel)
    · exact hs _ (by decide +kernel)
    · exact hs _ (by decide +kernel))
  have l18 := lit_of (own := "MarkupStore$Scribe") (k := 114) (tx := "&amp;") (xs := [38, 97, 109, 112, 59]) (by decide) (hts _ (ms_l (ms_t6 (List.mem_of_getElem? (i := 99) (by decide +kernel))))) (hs _ (by decide +kernel)) (hs _ (by decide +kernel)) (hs _ (by decide +kernel)) (hs _ (by decide +kernel)) (fun j hj => by
    rcases (show j = 0 ∨ j = 1 ∨ j = 2 ∨ j = 3 ∨ j = 4 by simp at hj; omega) with rfl | rfl | rfl | rfl | rfl
    · exact hs _ (by decide +kernel)
    · exact hs _ (by decide +kernel)
    · exact hs _ (by decide +kernel)
    · exact hs _ (by decide +kernel)
    · exact hs _ (by decide +kernel))
  have l19 := lit_of (own := "MarkupStore$Scribe") (k := 116) (tx := "&lt;") (xs := [38, 108, 116, 59]) (by decide) (hts _ (ms_l (ms_t6 (List.mem_of_getElem? (i := 100) (by decide +kernel))))) (hs _ (by decide +kernel)) (hs _ (by decide +kernel)) (hs _ (by decide +kernel)) (hs _ (by decide +kernel)) (fun j hj => by
    rcases (show j = 0 ∨ j = 1 ∨ j = 2 ∨ j = 3 by simp at hj; omega) with rfl | rfl | rfl | rfl
    · exact hs _ (by decide +kernel)
    · exact hs _ (by decide +kernel)
    · exact hs _ (by decide +kernel)
    · exact hs _ (by decide +kernel))
  have l20 := lit_of (own := "MarkupStore$Scribe") (k := 101) (tx := ">") (xs := [62]) (by decide) (hts _ (ms_l (ms_t6 (List.mem_of_getElem? (i := 101) (by decide +kernel))))) (hs _ (by decide +kernel)) (hs _ (by decide +kernel)) (hs _ (by decide +kernel)) (hs _ (by decide +kernel)) (fun j hj => by
    rcases (show j = 0 by simp at hj; omega) with rfl
    · exact hs _ (by decide +kernel))
  have l21 := lit_of (own := "MarkupStore$Scribe") (k := 103) (tx := "/>") (xs := [47, 62]) (by decide) (hts _ (ms_l (ms_t6 (List.mem_of_getElem? (i := 102) (by decide +kernel))))) (hs _ (by decide +kernel)) (hs _ (by decide +kernel)) (hs _ (by decide +kernel)) (hs _ (by decide +kernel)) (fun j hj => by
    rcases (show j = 0 ∨ j = 1 by simp at hj; omega) with rfl | rfl
    · exact hs _ (by decide +kernel)
    · exact hs _ (by decide +kernel))
  have l22 := lit_of (own := "MarkupStore$Scribe") (k := 55) (tx := "&gt;") (xs := [38, 103, 116, 59]) (by decide) (hts _ (ms_l (ms_t6 (List.mem_of_getElem? (i := 103) (by decide +kernel))))) (hs _ (by decide +kernel)) (hs _ (by decide +kernel)) (hs _ (by decide +kernel)) (hs _ (by decide +kernel)) (fun j hj => by
    rcases (show j = 0 ∨ j = 1 ∨ j = 2 ∨ j = 3 by simp at hj; omega) with rfl | rfl | rfl | rfl
    · exact hs _ (by decide +kernel)
    · exact hs _ (by decide +kernel)
    · exact hs _ (by decide +kernel)
    · exact hs _ (by decide +kernel))
  have l23 := lit_of (own := "MarkupStore$Scribe") (k := 61) (tx := "<!--") (xs := [60, 33, 45, 45]) (by decide) (hts _ (ms_l (ms_t6 (List.mem_of_getElem? (i := 104) (by decide +kernel))))) (hs _ (by decide +kernel)) (hs _ (by decide +kernel)) (hs _ (by decide +kernel)) (hs _ (by decide +kernel)) (fun j hj => by
    rcases (show j = 0 ∨ j = 1 ∨ j = 2 ∨ j = 3 by simp at hj; omega) with rfl | rfl | rfl | rfl
    · exact hs _ (by decide +kernel)
    · exact hs _ (by decide +kernel)
    · exact hs _ (by decide +kernel)
    · exact hs _ (by decide +kernel))
  have l24 := lit_of (own := "MarkupStore$Scribe") (k := 67) (tx := "-->") (xs := [45, 45, 62]) (by decide) (hts _ (ms_l (ms_t6 (List.mem_of_getElem? (i := 105) (by decide +kernel))))) (hs _ (by decide +kernel)) (hs _ (by decide +kernel)) (hs _ (by decide +kernel)) (hs _ (by decide +kernel)) (fun j hj => by
    rcases (show j = 0 ∨ j = 1 ∨ j = 2 by simp at hj; omega) with rfl | rfl | rfl
    · exact hs _ (by decide +kernel)
    · exact hs _ (by decide +kernel)
    · exact hs _ (by decide +kernel))
  exact List.forall_mem_cons.mpr ⟨l0, List.forall_mem_cons.mpr ⟨l1, List.forall_mem_cons.mpr ⟨l2, List.forall_mem_cons.mpr ⟨l3, List.forall_mem_cons.mpr ⟨l4, List.forall_mem_cons.mpr ⟨l5, List.forall_mem_cons.mpr ⟨l6, List.forall_mem_cons.mpr ⟨l7, List.forall_mem_cons.mpr ⟨l8, List.forall_mem_cons.mpr ⟨l9, List.forall_mem_cons.mpr ⟨l10, List.forall_mem_cons.mpr ⟨l11, List.forall_mem_cons.mpr ⟨l12, List.forall_mem_cons.mpr ⟨l13, List.forall_mem_cons.mpr ⟨l14, List.forall_mem_cons.mpr ⟨l15, List.forall_mem_cons.mpr ⟨l16, List.forall_mem_cons.mpr ⟨l17, List.forall_mem_cons.mpr ⟨l18, List.forall_mem_cons.mpr ⟨l19, List.forall_mem_cons.mpr ⟨l20, List.forall_mem_cons.mpr ⟨l21, List.forall_mem_cons.mpr ⟨l22, List.forall_mem_cons.mpr ⟨l23, List.forall_mem_cons.mpr ⟨l24, fun _ h => absurd h List.not_mem_nil⟩⟩⟩⟩⟩⟩⟩⟩⟩⟩⟩⟩⟩⟩⟩⟩⟩⟩⟩⟩⟩⟩⟩⟩⟩
set_option maxRecDepth 100000 in
set_option maxHeartbeats 16000000 in
theorem ms_start {s : State} {b : Nat} (hts : ∀ w ∈ lw_tbl, w.before #[Value.ref b] s = true) (hgv : (Jvm.Cond.and given_1 narrow_1).before #[Value.ref b] s = true) : ∃ (D : va_G) (dA : Nat → ClassId), ms_EW D dA s := by
  have hx0 : (Cond.selects "java/lang/StringBuilder" ⟨"java/lang/AbstractStringBuilder", "ensureCapacityInternal", "(I)V"⟩ ⟨"java/lang/AbstractStringBuilder", "ensureCapacityInternal", "(I)V"⟩).before #[Value.ref b] s = true := ms_selP ⟨by decide +kernel, by decide +kernel⟩ (hts (Jvm.Cond.selects "java/lang/StringBuilder" ({ cls := "java/lang/AbstractStringBuilder", name := "isLatin1", desc := "()Z" } : Jvm.MethodName) ({ cls := "java/lang/AbstractStringBuilder", name := "isLatin1", desc := "()Z" } : Jvm.MethodName)) (ms_l (ms_t1 (List.mem_of_getElem? (i := 181) (by decide +kernel))))) rfl (hts _ (ms_l (ms_t1 (List.mem_of_getElem? (i := 144) (by decide +kernel))))) (hts _ (ms_l (ms_t1 (List.mem_of_getElem? (i := 145) (by decide +kernel)))))
  have hx1 : (Cond.selects "java/lang/StringBuilder" ⟨"java/lang/AbstractStringBuilder", "newCapacity", "(I)I"⟩ ⟨"java/lang/AbstractStringBuilder", "newCapacity", "(I)I"⟩).before #[Value.ref b] s = true := ms_selP ⟨by decide +kernel, by decide +kernel⟩ (hts (Jvm.Cond.selects "java/lang/StringBuilder" ({ cls := "java/lang/AbstractStringBuilder", name := "isLatin1", desc := "()Z" } : Jvm.MethodName) ({ cls := "java/lang/AbstractStringBuilder", name := "isLatin1", desc := "()Z" } : Jvm.MethodName)) (ms_l (ms_t1 (List.mem_of_getElem? (i := 181) (by decide +kernel))))) rfl (hts _ (ms_l (ms_t1 (List.mem_of_getElem? (i := 148) (by decide +kernel))))) (hts _ (ms_l (ms_t1 (List.mem_of_getElem? (i := 149) (by decide +kernel)))))
  have hx2 : (Cond.selects "java/lang/StringBuilder" ⟨"java/lang/AbstractStringBuilder", "inflate", "()V"⟩ ⟨"java/lang/AbstractStringBuilder", "inflate", "()V"⟩).before #[Value.ref b] s = true := ms_selP ⟨by decide +kernel, by decide +kernel⟩ (hts (Jvm.Cond.selects "java/lang/StringBuilder" ({ cls := "java/lang/AbstractStringBuilder", name := "isLatin1", desc := "()Z" } : Jvm.MethodName) ({ cls := "java/lang/AbstractStringBuilder", name := "isLatin1", desc := "()Z" } : Jvm.MethodName)) (ms_l (ms_t1 (List.mem_of_getElem? (i := 181) (by decide +kernel))))) rfl (hts _ (ms_l (ms_t1 (List.mem_of_getElem? (i := 187) (by decide +kernel))))) (hts _ (ms_l (ms_t1 (List.mem_of_getElem? (i := 188) (by decide +kernel)))))
  have hx3 : (Cond.selects "java/lang/StringBuilder" ⟨"java/lang/AbstractStringBuilder", "appendNull", "()Ljava/lang/AbstractStringBuilder;"⟩ ⟨"java/lang/AbstractStringBuilder", "appendNull", "()Ljava/lang/AbstractStringBuilder;"⟩).before #[Value.ref b] s = true := ms_selP ⟨by decide +kernel, by decide +kernel⟩ (hts (Jvm.Cond.selects "java/lang/StringBuilder" ({ cls := "java/lang/AbstractStringBuilder", name := "isLatin1", desc := "()Z" } : Jvm.MethodName) ({ cls := "java/lang/AbstractStringBuilder", name := "isLatin1", desc := "()Z" } : Jvm.MethodName)) (ms_l (ms_t1 (List.mem_of_getElem? (i := 181) (by decide +kernel))))) rfl (hts _ (ms_l (ms_t4 (List.mem_of_getElem? (i := 95) (by decide +kernel))))) (hts _ (ms_l (ms_t4 (List.mem_of_getElem? (i := 96) (by decide +kernel)))))
  have hx4 : (Cond.selects "java/lang/StringBuilder" ⟨"java/lang/AbstractStringBuilder", "putStringAt", "(ILjava/lang/String;)V"⟩ ⟨"java/lang/AbstractStringBuilder", "putStringAt", "(ILjava/lang/String;)V"⟩).before #[Value.ref b] s = true := ms_selP ⟨by decide +kernel, by decide +kernel⟩ (hts (Jvm.Cond.selects "java/lang/StringBuilder" ({ cls := "java/lang/AbstractStringBuilder", name := "isLatin1", desc := "()Z" } : Jvm.MethodName) ({ cls := "java/lang/AbstractStringBuilder", name := "isLatin1", desc := "()Z" } : Jvm.MethodName)) (ms_l (ms_t1 (List.mem_of_getElem? (i := 181) (by decide +kernel))))) rfl (hts _ (ms_l (ms_t4 (List.mem_of_getElem? (i := 107) (by decide +kernel))))) (hts _ (ms_l (ms_t4 (List.mem_of_getElem? (i := 108) (by decide +kernel)))))
  have hx5 : (Cond.selects "java/lang/StringBuilder" ⟨"java/lang/AbstractStringBuilder", "inflateIfNeededFor", "(Ljava/lang/String;)V"⟩ ⟨"java/lang/AbstractStringBuilder", "inflateIfNeededFor", "(Ljava/lang/String;)V"⟩).before #[Value.ref b] s = true := ms_selP ⟨by decide +kernel, by decide +kernel⟩ (hts (Jvm.Cond.selects "java/lang/StringBuilder" ({ cls := "java/lang/AbstractStringBuilder", name := "isLatin1", desc := "()Z" } : Jvm.MethodName) ({ cls := "java/lang/AbstractStringBuilder", name := "isLatin1", desc := "()Z" } : Jvm.MethodName)) (ms_l (ms_t1 (List.mem_of_getElem? (i := 181) (by decide +kernel))))) rfl (hts _ (ms_l (ms_t4 (List.mem_of_getElem? (i := 111) (by decide +kernel))))) (hts _ (ms_l (ms_t4 (List.mem_of_getElem? (i := 112) (by decide +kernel)))))
  have ht : ∀ w ∈ ms_tb, w.before #[Value.ref b] s = true := fun w hw => (List.mem_append.mp hw).elim (fun h => hts w (List.mem_filter.mp h).1) (fun h => (show ∀ w ∈ ms_xs, w.before #[Value.ref b] s = true from List.forall_mem_cons.mpr ⟨hx0, List.forall_mem_cons.mpr ⟨hx1, List.forall_mem_cons.mpr ⟨hx2, List.forall_mem_cons.mpr ⟨hx3, List.forall_mem_cons.mpr ⟨hx4, List.forall_mem_cons.mpr ⟨hx5, fun _ h => absurd h List.not_mem_nil⟩⟩⟩⟩⟩⟩) w h)
  obtain ⟨c0, i0, h0⟩ := u_known (C := kR0) (T := kT0) (N := 6) ht ku0 (ht _ ms_k32)
  obtain ⟨c1, i1, h1⟩ := u_known (C := kR1) (T := kT1) (N := 6) ht ku1 (ht _ ms_k73)
  obtain ⟨c2, i2, h2⟩ := u_known (C := kR2) (T := kT2) (N := 60) ht ku2 (ht _ ms_k1311)
  obtain ⟨c3, i3, h3⟩ := u_known (C := kR3) (T := kT3) (N := 4) ht ku3 (ht _ ms_k40)
  obtain ⟨c4, i4, h4⟩ := u_known (C := kR4) (T := kT4) (N := 3) ht ku4 (ht _ ms_k323)
  obtain ⟨c5, i5, h5⟩ := u_known (C := kR5) (T := kT5) (N := 4) ht ku5 (ht _ ms_k246)
  obtain ⟨c6, i6, h6⟩ := u_known (C := kR6) (T := kT6) (N := 6) ht ku6 (ht _ ms_k236)
  obtain ⟨c7, i7, h7⟩ := u_known (C := kR7) (T := kT7) (N := 3) ht ku7 (ht _ ms_k1247)
  obtain ⟨c8, i8, h8⟩ := u_known (C := kR8) (T := kT8) (N := 9) ht ku8 (ht _ ms_k431)
  obtain ⟨c9, i9, h9⟩ := u_known (C := kR9) (T := kT9) (N := 2) ht ku9 (ht _ ms_k654)
  obtain ⟨c10, i10, h10⟩ := u_known (C := kR10) (T := kT10) (N := 3) ht ku10 (ht _ ms_k871)
  obtain ⟨c11, i11, h11⟩ := u_known (C := kR11) (T := kT11) (N := 2) ht ku11 (ht _ ms_k889)
  obtain ⟨c12, i12, h12⟩ := u_known (C := kR12) (T := kT12) (N := 5) ht ku12 (ht _ ms_k915)
  obtain ⟨c13, i13, h13⟩ := u_known (C := kR13) (T := kT13) (N := 8) ht ku13 (ht _ ms_k1014)
  obtain ⟨c14, i14, h14⟩ := u_known (C := kR14) (T := kT14) (N := 1) ht ku14 (ht _ ms_k1083)
  obtain ⟨a0, g0, f0⟩ := ms_arrP (ht _ ms_k124)
  obtain ⟨a1, g1, f1⟩ := ms_arrP (ht _ ms_k1497)
  obtain ⟨a2, g2, f2⟩ := ms_arrP (ht _ ms_k71)
  obtain ⟨a3, g3, f3⟩ := ms_arrP (ht _ ms_k1498)
  obtain ⟨a4, g4, f4⟩ := ms_arrP (ht _ ms_k1499)
  obtain ⟨a5, g5, f5⟩ := ms_arrO (C := "MarkupStore$Node") (hts _ (ms_l (ms_t1 (List.mem_of_getElem? (i := 79) (by decide +kernel)))))
  obtain ⟨a6, g6, f6⟩ := ms_arrO (C := "java/lang/Object") (hts _ (ms_l (ms_t3 (List.mem_of_getElem? (i := 57) (by decide +kernel)))))
  have hs := flat_of_before _ hgv
  have hz : (Cond.eq (.static "java/lang/String" "COMPACT_STRINGS" "Z") (.int 1)).before #[Value.ref b] s = true := hs _ (by decide +kernel)
  have hd1 : (Cond.arrayOf (Term.static "java/util/ArrayList" "DEFAULTCAPACITY_EMPTY_ELEMENTDATA" "[Ljava/lang/Object;") (.object "java/lang/Object")).before #[Value.ref b] s = true := hs _ (by decide +kernel)
  have hd2 : (Cond.eq (.length (Term.static "java/util/ArrayList" "DEFAULTCAPACITY_EMPTY_ELEMENTDATA" "[Ljava/lang/Object;")) (.int 0)).before #[Value.ref b] s = true := hs _ (by decide +kernel)
  have hf : (Cond.isRef (.static "jdk/internal/util/Preconditions" "SIOOBE_FORMATTER" "Ljava/util/function/BiFunction;")).before #[Value.ref b] s = true := hs _ (by decide +kernel)
  have hm : (Cond.isRef (.mirror "[Ljava/lang/Object;")).before #[Value.ref b] s = true := hs _ (by decide +kernel)
  obtain ⟨t, et, tt⟩ := va_Tof (ty := .object "java/lang/Object") (N := 0) (f := fun _ => .null) (A := fun _ => False) (by decide) hd1 (va_eqt hd2) (fun j hj => absurd hj (Nat.not_lt_zero _)) (fun _ _ h => h)
  obtain ⟨mi, hmi⟩ := va_Mi.of hm
  have fm9 : (∀ B : Nat → Prop, (∀ q, B q → s.heap.size ≤ q) → va_Z "jdk/internal/util/Preconditions" "SIOOBE_FORMATTER" "Ljava/util/function/BiFunction;" .null B s s.heap) ∨ ∃ t : Nat, ∀ B : Nat → Prop, (∀ q, B q → s.heap.size ≤ q) → va_Z "jdk/internal/util/Preconditions" "SIOOBE_FORMATTER" "Ljava/util/function/BiFunction;" (.ref t) B s s.heap := (ms_isr hf).imp (fun e => fun B hB => va_Zof (hts _ (ms_l (ms_t1 (List.mem_of_getElem? (i := 206) (by decide +kernel))))) (ht _ ms_k13) e (fun a ha hq => absurd (hB a hq) (Nat.not_le.mpr ha))) (fun ⟨t, e⟩ => ⟨t, fun B hB => va_Zof (hts _ (ms_l (ms_t1 (List.mem_of_getElem? (i := 206) (by decide +kernel))))) (ht _ ms_k13) e (fun a ha hq => absurd (hB a hq) (Nat.not_le.mpr ha))⟩)
  refine ⟨(fun k => match k with | 0 => c0 | 1 => c1 | 2 => c2 | 3 => c3 | 4 => c4 | 5 => c5 | 6 => c6 | 7 => c7 | 8 => c8 | 9 => c9 | 10 => c10 | 11 => c11 | 12 => c12 | 13 => c13 | _ => c14, fun k => match k with | 0 => i0 | 1 => i1 | 2 => i2 | 3 => i3 | 4 => i4 | 5 => i5 | 6 => i6 | 7 => i7 | 8 => i8 | 9 => i9 | 10 => i10 | 11 => i11 | 12 => i12 | 13 => i13 | _ => i14), fun k => match k with | 0 => a0 | 1 => a1 | 2 => a2 | 3 => a3 | 4 => a4 | 5 => a5 | 6 => a6 | 98 => mi | _ => t, ⟨⟨fun w hw => word_at (State.WarmedH.refl s) (ms_good hw) (ht w hw), ?_, ?_⟩, va_AO.of (hts _ (ms_l (ms_t1 (List.mem_of_getElem? (i := 79) (by decide +kernel))))), fun B hB => va_Zof (hts _ (ms_l (ms_t1 (List.mem_of_getElem? (i := 49) (by decide +kernel))))) (ht _ ms_k4) (va_eqi hz) (fun a ha hq => absurd (hB a hq) (Nat.not_le.mpr ha)), ⟨t, fun B hB => va_Zof (hts _ (ms_l (ms_t2 (List.mem_of_getElem? (i := 95) (by decide +kernel))))) (ht _ ms_k18) et (fun a ha hq => absurd (hB a hq) (Nat.not_le.mpr ha))⟩, va_AO.of (hts _ (ms_l (ms_t3 (List.mem_of_getElem? (i := 57) (by decide +kernel))))), fm9, ⟨_, hts⟩, fun k q h => ms_lits hts hgv q (List.mem_of_getElem? h)⟩, fun B hB => va_Zof (hts _ (ms_l (ms_t2 (List.mem_of_getElem? (i := 95) (by decide +kernel))))) (ht _ ms_k18) et (fun a ha hq => absurd (hB a hq) (Nat.not_le.mpr ha)), tt, hmi⟩
  · intro c q hq
    rcases (show c = 0 ∨ c = 1 ∨ c = 2 ∨ c = 3 ∨ c = 4 ∨ c = 5 ∨ c = 6 ∨ c = 7 ∨ c = 8 ∨ c = 9 ∨ c = 10 ∨ c = 11 ∨ c = 12 ∨ c = 13 ∨ c = 14 ∨ 15 ≤ c by omega) with rfl | rfl | rfl | rfl | rfl | rfl | rfl | rfl | rfl | rfl | rfl | rfl | rfl | rfl | rfl | h9
    · cases hq; exact h0
    · cases hq; exact h1
    · cases hq; exact h2
    · cases hq; exact h3
    · cases hq; exact h4
    · cases hq; exact h5
    · cases hq; exact h6
    · cases hq; exact h7
    · cases hq; exact h8
    · cases hq; exact h9
    · cases hq; exact h10
    · cases hq; exact h11
    · cases hq; exact h12
    · cases hq; exact h13
    · cases hq; exact h14
    · rw [List.getElem?_eq_none (by show 15 ≤ c; exact h9)] at hq; cases hq
  · intro c q hq
    rcases (show c = 0 ∨ c = 1 ∨ c = 2 ∨ c = 3 ∨ c = 4 ∨ c = 5 ∨ c = 6 ∨ 7 ≤ c by omega) with rfl | rfl | rfl | rfl | rfl | rfl | rfl | h9
    · cases hq; exact ⟨g0, f0⟩
    · cases hq; exact ⟨g1, f1⟩
    · cases hq; exact ⟨g2, f2⟩
    · cases hq; exact ⟨g3, f3⟩
    · cases hq; exact ⟨g4, f4⟩
    · cases hq; exact ⟨g5, f5⟩
    · cases hq; exact ⟨g6, f6⟩
    · rw [List.getElem?_eq_none (by show 7 ≤ c; exact h9)] at hq; cases hq
set_option maxRecDepth 100000 in
set_option maxHeartbeats 4000000 in
theorem whole_start {p : Program} {e : Env} {s : State} {m : MethodId} {below : List Frame} {meth : Method} {c : Code} (l : Launch) {b L : Nat} {xs : Nat → Int32} (hL : L ≤ 1536) (C0 : lw_At p s m meth c b L xs) : W p l e room_1 s m #[Value.ref b] below meth c s.heap [] 0 0 (lw_Z below #[Value.ref b] s) (entryFrame m ([Value.ref b] : List Value).toArray 4) := by
  obtain ⟨hx, hb, hr, hml, hown, hts, hX, hbl, hlocks, hgv⟩ := C0
  obtain ⟨D, dA, hW⟩ := ms_start hts hgv
  obtain ⟨z, hz⟩ := lit_map s
  have hB : ms_Bs s s := ⟨State.WarmedH.refl s, Nat.le_refl _, fun _ _ => rfl⟩
  have X : ms_X D (ms_tys dA) s p s m #[Value.ref b] meth c (fun q => s.heap.size ≤ q) x code 4 ret := ⟨hx, hb, hml, hown, hr, hlocks, ms_words hW.1.1 hB _, hB, hW.1.1.2, fun _ h => h, fun _ h => h⟩
  have hl := lv_entry ([Value.ref b]) (n := 4) (Nat.le_of_ble_eq_true rfl)
  rw [lg_entry_eq]
  generalize (lg_sl ([Value.ref b]) ++ List.replicate (4 - (lg_sl ([Value.ref b])).length) Slot.unset).toArray = ls at hl ⊢
  have hl : lv_has ls 4 [(0, .ref b)] := hl
  exact law_main l D dA hW X hX hbl hL ⟨fun a e h => (by cases h), fun a e h => (by cases h), va_S.rf, hz⟩ hl
