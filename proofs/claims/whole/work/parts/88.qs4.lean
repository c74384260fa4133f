-- the reference's tests of a node
theorem list_eq_iff {t u : List Nat} (h : t.length = u.length) : t = u ↔ ∀ j, j < u.length → t.getD j 0 = u.getD j 0 := by
  constructor
  · intro e j _; rw [e]
  · intro e
    refine List.ext_getElem h (fun i h1 h2 => ?_)
    have := e i h2
    rw [List.getD_eq_getElem?_getD, List.getD_eq_getElem?_getD, List.getElem?_eq_getElem h1, List.getElem?_eq_getElem h2] at this
    simpa using this
theorem drop_step {t u : List Nat} {i : Nat} (h : t.length = u.length) (hi : i < u.length) : t.drop i = u.drop i ↔ t.getD i 0 = u.getD i 0 ∧ t.drop (i + 1) = u.drop (i + 1) := by
  have e : ∀ v : List Nat, (hv : i < v.length) → v.getD i 0 = v[i] := fun v hv => by rw [List.getD_eq_getElem?_getD, List.getElem?_eq_getElem hv]; rfl
  rw [List.drop_eq_getElem_cons (by omega), List.drop_eq_getElem_cons hi, List.cons.injEq, e t (by omega), e u hi]
theorem drop_end {t u : List Nat} {i : Nat} (h : t.length = u.length) (hi : i = u.length) : t.drop i = u.drop i := by rw [List.drop_eq_nil_of_le (by omega), List.drop_eq_nil_of_le (by omega)]
section QS4
variable {st : mT} {xs : List Nat} {mk n : Nat} {D : Nat → nd} {d : Nat → Nat}
theorem rTx.at {v w : Int32} {t : List Nat} (h : rTx xs v w t) (b : md_buf st xs) {j : Nat} (hj : j < t.length) : g_look (v + nI j) st = some (nI (t.getD j 0), st) := by
  obtain ⟨fr, e1, e2, e3, e4⟩ := h
  have hl := b.2.2.1
  rw [e1, nI_add, mp_look b (by omega)]
  have : t.getD j 0 = xs.getD (fr + j) 0 := by
    conv => lhs; rw [e4]
    exact getD_tk hj
  rw [this]
theorem rTx.lt {v w : Int32} {t : List Nat} (h : rTx xs v w t) (b : md_buf st xs) (j : Nat) : t.getD j 0 < 128 := by
  obtain ⟨fr, e1, e2, e3, e4⟩ := h
  refine getD_lt (fun c hc => ?_) j
  rw [e4] at hc
  exact b.2.2.2 c (List.mem_of_mem_drop (List.mem_of_mem_take hc))
theorem rTx.le {v w : Int32} {t : List Nat} (h : rTx xs v w t) (b : md_buf st xs) : t.length ≤ 120 := by
  obtain ⟨fr, e1, e2, e3, e4⟩ := h
  have := b.2.2.1
  omega
/-- is a node of a step's kind -/
theorem rw_kind (M : md (st.2.1 0) n d D) (ok : nd_ok mk n D) (b : md_buf st xs) {id k y : Nat} {nm : List Nat} (hid : id < 130) (hk : k ≤ 4) (h26 : st.2.1 26 id = nI k) (ht : rTx xs (st.2.1 27 id) (st.2.1 28 id) nm) (hy : y < n) : g_isKind (nI id) (nI y) st = some (bI (q_kd D k nm y), st) := by
  have hD := md_D M
  have row := M.2.2.2.2.1 y hy
  have hdy := (M.2.2.1 y hy).1
  have o := ok.2 y hy
  have ko := o.2.1
  have tl := o.2.2.2.2.2.2.1
  have tc := o.2.2.2.2.2.2.2.1
  have nl := ht.le b
  have k1 : nI (D y).2.1 = 1 ↔ (D y).2.1 = 1 := nI_eq (b := 1) (by omega) (by decide)
  have h28 : st.2.1 28 id = nI nm.length := by obtain ⟨_, _, e, _⟩ := ht; exact e
  have zc : ∀ v : Bool, g_isKind_136 (bI v) st = some (bI v, st) := fun v => by cases v <;> rfl
  have l0 : ∀ (fu : Nat) (x6 : Int32), 1 ≤ fu → g_isKind_81 fu (nI id) (nI (d y)) 0 x6 st = some (0, st) := fun fu x6 h1 => by
    obtain ⟨fu, rfl⟩ : ∃ f, fu = f + 1 := ⟨fu - 1, by omega⟩
    unfold g_isKind_81
    rw [mp_ld hid (by decide)]
    split
    · exact zc false
    · rw [if_pos rfl]; exact zc false
  have loop : (D y).2.2.2.2.2.length = nm.length → ∀ (r fu i : Nat), i + r = nm.length → r + 1 < fu → g_isKind_81 fu (nI id) (nI (d y)) 1 (nI i) st = some (bI (decide ((D y).2.2.2.2.2.drop i = nm.drop i)), st) := fun hlen => by
    intro r
    induction r with
    | zero =>
      intro fu i h1 h2
      obtain ⟨fu, rfl⟩ : ∃ f, fu = f + 1 := ⟨fu - 1, by omega⟩
      unfold g_isKind_81
      rw [mp_ld hid (by decide), h28, if_pos (nI_le (by omega) (by omega)), decide_eq_true (drop_end hlen (by omega))]
      exact zc true
    | succ r ih =>
      intro fu i h1 h2
      obtain ⟨fu, rfl⟩ : ∃ f, fu = f + 1 := ⟨fu - 1, by omega⟩
      have ft : g_f (nI (d y)) (8 + nI i) st = some (nI ((D y).2.2.2.2.2.getD i 0), st) := by
        rw [show (8 : Int32) + nI i = nI (8 + i) by rw [show (8 : Int32) = nI 8 from rfl, nI_add], mp_f st hdy (by omega), ← Nat.add_assoc, row.2.2.2.2.2.2.1 i (by omega)]
      have c1 := getD_lt tc i
      have c2 := ht.lt b i
      unfold g_isKind_81 g_isKind_128
      rw [mp_ld hid (by decide), h28, if_neg (nI_ge (by omega) (by omega)), if_neg (by decide), ft, Option.bind_some, mp_ld hid (by decide)]
      simp only []
      rw [ht.at b (by omega), Option.bind_some, nI_1]
      simp only []
      by_cases e : (D y).2.2.2.2.2.getD i 0 = nm.getD i 0
      · rw [if_pos (by rw [e]), ih fu (i + 1) (by omega) (by omega)]
        rw [show decide ((D y).2.2.2.2.2.drop i = nm.drop i) = decide ((D y).2.2.2.2.2.drop (i + 1) = nm.drop (i + 1)) by
          rw [decide_eq_decide, drop_step (i := i) hlen (by omega)]
          exact ⟨fun w => w.2, fun w => ⟨e, w⟩⟩]
      · rw [if_neg (fun w => e ((nI_eq (by omega) (by omega)).mp w)), l0 fu _ (by omega), decide_eq_false (fun w => e ((drop_step hlen (by omega)).mp w).1)]
        rfl
  unfold g_isKind
  rw [mp_bd (mp_dc hD hy)]
  simp only []
  rw [show g_f (nI (d y)) 1 st = some (nI (D y).2.1, st) by rw [← row.2.1]; exact mp_f st (o := 1) hdy (by decide), Option.bind_some, mp_ld hid (by decide), h26]
  simp only []
  unfold q_kd
  by_cases q0 : k = 0
  · rw [if_pos (show nI k ≤ 0 by rw [q0]; decide), if_pos q0]
    by_cases qe : (D y).2.1 = 1
    · rw [if_pos (k1.mpr qe), show g_f (nI (d y)) 3 st = some (nI (D y).2.2.2.2.2.length, st) by rw [← row.2.2.2.1]; exact mp_f st (o := 3) hdy (by decide), Option.bind_some, mp_ld hid (by decide), h28]
      simp only []
      unfold g_isKind_76 g_isKind_75 g_isKind_76
      by_cases ql : (D y).2.2.2.2.2.length = nm.length
      · rw [if_pos (by rw [ql]), show g_isKind_81 mF (nI id) (nI (d y)) 1 0 st = _ from loop ql nm.length mF 0 (by omega) (by unfold mF; omega)]
        rw [List.drop_zero, List.drop_zero, show decide ((D y).2.1 = 1 ∧ (D y).2.2.2.2.2 = nm) = decide ((D y).2.2.2.2.2 = nm) by
          rw [decide_eq_decide]
          exact ⟨fun w => w.2, fun w => ⟨qe, w⟩⟩]
      · rw [if_neg (fun w => ql ((nI_eq (by omega) (by omega)).mp w)), l0 mF 0 (by unfold mF; omega), decide_eq_false (fun w => ql (by rw [w.2]))]
        rfl
    · rw [if_neg (fun w => qe (k1.mp w)), decide_eq_false (fun w => qe w.1)]
      unfold g_isKind_75 g_isKind_76
      exact l0 mF 0 (by unfold mF; omega)
  · rw [if_neg (show ¬ nI k ≤ 0 from nI_ge (a := 0) (by omega) (by omega)), if_neg q0, mp_ld hid (by decide), h26]
    unfold g_isKind_44
    by_cases q4 : k = 4
    · rw [if_pos (show nI k = 4 by rw [q4]; rfl), if_pos q4]
      rfl
    · rw [if_neg (show ¬ nI k = 4 from fun w => q4 ((nI_eq (b := 4) (by omega) (by decide)).mp w)), if_neg q4, mp_ld hid (by decide), h26]
      by_cases qk : (D y).2.1 = k
      · rw [if_pos (by rw [qk]), decide_eq_true qk]
        rfl
      · rw [if_neg (fun w => qk ((nI_eq (by omega) (by omega)).mp w)), decide_eq_false qk]
        rfl
/-- which attribute has a name -/
def aIx (att : List (List Nat × List Nat)) (nm : List Nat) : Nat := match mp_fst (fun i => decide ((att.getD i ([], [])).1 = nm)) att.length 0 with
  | some i => i
  | none => att.length
theorem find_ix {att : List (List Nat × List Nat)} {nm : List Nat} : att.find? (fun q => decide (q.1 = nm)) = if aIx att nm < att.length then some (att.getD (aIx att nm) ([], [])) else none := by
  have key : ∀ (r k : Nat), k + r = att.length → (att.drop k).find? (fun q => decide (q.1 = nm)) = (match mp_fst (fun i => decide ((att.getD i ([], [])).1 = nm)) r k with | some i => some (att.getD i ([], [])) | none => none) := by
    intro r
    induction r with
    | zero => intro k h; rw [List.drop_eq_nil_of_le (by omega)]; rfl
    | succ r ih =>
      intro k h
      have e : att.getD k ([], []) = att[k]'(by omega) := by rw [List.getD_eq_getElem?_getD, List.getElem?_eq_getElem (by omega)]; rfl
      rw [List.drop_eq_getElem_cons (by omega), List.find?_cons, ← e]
      show _ = (match (if decide ((att.getD k ([], [])).1 = nm) = true then some k else mp_fst (fun i => decide ((att.getD i ([], [])).1 = nm)) r (k + 1)) with | some i => some (att.getD i ([], [])) | none => none)
      by_cases q : (att.getD k ([], [])).1 = nm
      · rw [decide_eq_true q]; rfl
      · rw [decide_eq_false q]
        exact ih (k + 1) (by omega)
  have h := key att.length 0 (by omega)
  rw [List.drop_zero] at h
  rw [h]
  unfold aIx
  cases e : mp_fst (fun i => decide ((att.getD i ([], [])).1 = nm)) att.length 0 with
  | none =>
    show none = _
    rw [if_neg (Nat.lt_irrefl _)]
  | some i =>
    have := mp_fst_some _ _ e
    show some (att.getD i ([], [])) = if i < att.length then some (att.getD i ([], [])) else none
    rw [if_pos (by omega)]
theorem aIx_le {att : List (List Nat × List Nat)} {nm : List Nat} : aIx att nm ≤ att.length := by
  unfold aIx
  cases e : mp_fst (fun i => decide ((att.getD i ([], [])).1 = nm)) att.length 0 with
  | none => exact Nat.le_refl _
  | some i =>
    have := mp_fst_some _ _ e
    simp only []
    omega
theorem rw_attOf (M : md (st.2.1 0) n d D) (ok : nd_ok mk n D) (b : md_buf st xs) {y : Nat} {v w : Int32} {nm : List Nat} (ht : rTx xs v w nm) (hy : y < n) : g_attributeOf (nI (d y)) v w st = some (nI (aIx (D y).2.2.2.2.1 nm), st) := by
  have row := M.2.2.2.2.1 y hy
  have hdy := (M.2.2.1 y hy).1
  have o := ok.2 y hy
  have al := o.2.2.2.2.1
  have nl := ht.le b
  have hw : w = nI nm.length := by obtain ⟨_, _, e, _⟩ := ht; exact e
  have f5 : g_f (nI (d y)) 5 st = some (nI (D y).2.2.2.2.1.length, st) := by rw [← row.2.2.2.2.2.1]; exact mp_f st (o := 5) hdy (by decide)
  -- one attribute's name
  have cmp : ∀ (k6 : Int32 → Int32 → Int32 → Int32 → Int32 → mT → Option (Int32 × mT)) (a : Nat), a < (D y).2.2.2.2.1.length → g_attributeOf_44 k6 (nI (d y)) v w (nI a) (if ((D y).2.2.2.2.1.getD a ([], [])).1.length = nm.length then 1 else 0) st = k6 (nI (d y)) v w (nI (if ((D y).2.2.2.2.1.getD a ([], [])).1 = nm then a else a + 1)) (if ((D y).2.2.2.2.1.getD a ([], [])).1 = nm then 1 else 0) st := fun k6 a ha => by
    have q6 := o.2.2.2.2.2.1 _ (getD_mem' (d := ([], [])) ha)
    have ra := row.2.2.2.2.2.2.2.2 a ha
    generalize hat : ((D y).2.2.2.2.1.getD a ([], [])) = at0 at q6 ra
    have e0 : ∀ (fu : Nat) (x6 : Int32), 1 ≤ fu → g_attributeOf_49 k6 fu (nI (d y)) v w (nI a) 0 x6 st = k6 (nI (d y)) v w (nI (a + 1)) 0 st := fun fu x6 h1 => by
      obtain ⟨fu, rfl⟩ : ∃ f, fu = f + 1 := ⟨fu - 1, by omega⟩
      unfold g_attributeOf_49 g_attributeOf_100 g_attributeOf_114
      split
      · rw [if_pos rfl, nI_1]
      · rw [if_pos rfl, if_pos rfl, nI_1]
    have lp : at0.1.length = nm.length → ∀ (r fu i : Nat), i + r = nm.length → r + 1 < fu → g_attributeOf_49 k6 fu (nI (d y)) v w (nI a) 1 (nI i) st = k6 (nI (d y)) v w (nI (if at0.1.drop i = nm.drop i then a else a + 1)) (if at0.1.drop i = nm.drop i then 1 else 0) st := fun hlen => by
      intro r
      induction r with
      | zero =>
        intro fu i h1 h2
        obtain ⟨fu, rfl⟩ : ∃ f, fu = f + 1 := ⟨fu - 1, by omega⟩
        unfold g_attributeOf_49 g_attributeOf_100 g_attributeOf_114
        rw [hw, if_pos (nI_le (by omega) (by omega)), if_neg (by decide), if_pos (drop_end hlen (by omega)), if_pos (drop_end hlen (by omega))]
      | succ r ih =>
        intro fu i h1 h2
        obtain ⟨fu, rfl⟩ : ∃ f, fu = f + 1 := ⟨fu - 1, by omega⟩
        have ft : g_f (nI (d y)) ((45 + (28 * nI a)) + nI i) st = some (nI (at0.1.getD i 0), st) := by
          rw [show (45 : Int32) + 28 * nI a + nI i = nI (45 + 28 * a + i) by rw [show (28 : Int32) = nI 28 from rfl, mp_mul, show (45 : Int32) = nI 45 from rfl, nI_add, nI_add], mp_f st hdy (by omega), ← Nat.add_assoc, ra.2.1 i (by omega)]
        have c1 := getD_lt q6.2.2.1 i
        have c2 := ht.lt b i
        unfold g_attributeOf_49 g_attributeOf_92
        rw [hw, if_neg (nI_ge (by omega) (by omega)), if_neg (by decide), ft, Option.bind_some]
        simp only []
        rw [ht.at b (by omega), Option.bind_some, nI_1]
        simp only []
        rw [← hw]
        by_cases e : at0.1.getD i 0 = nm.getD i 0
        · rw [if_pos (by rw [e]), ih fu (i + 1) (by omega) (by omega)]
          have iff : (at0.1.drop (i + 1) = nm.drop (i + 1)) ↔ (at0.1.drop i = nm.drop i) := by
            rw [drop_step (i := i) hlen (by omega)]
            exact ⟨fun w => ⟨e, w⟩, fun w => w.2⟩
          by_cases q : at0.1.drop i = nm.drop i
          · rw [if_pos q, if_pos q, if_pos (iff.mpr q), if_pos (iff.mpr q)]
          · rw [if_neg q, if_neg q, if_neg (fun w => q (iff.mp w)), if_neg (fun w => q (iff.mp w))]
        · rw [if_neg (fun w => e ((nI_eq (by omega) (by omega)).mp w)), e0 fu _ (by omega), if_neg (fun w => e ((drop_step hlen (by omega)).mp w).1), if_neg (fun w => e ((drop_step hlen (by omega)).mp w).1)]
    unfold g_attributeOf_44
    by_cases ql : at0.1.length = nm.length
    · rw [if_pos ql, show g_attributeOf_49 k6 mF (nI (d y)) v w (nI a) 1 0 st = _ from lp ql nm.length mF 0 (by omega) (by unfold mF; omega)]
      rw [List.drop_zero, List.drop_zero]
    · rw [if_neg ql, e0 mF 0 (by unfold mF; omega), if_neg (fun w => ql (by rw [w])), if_neg (fun w => ql (by rw [w]))]
  have loop : ∀ (r fu a : Nat), a + r = (D y).2.2.2.2.1.length → r + 1 < fu → g_attributeOf_6 fu (nI (d y)) v w (nI a) 0 st = some (nI (match mp_fst (fun i => decide (((D y).2.2.2.2.1.getD i ([], [])).1 = nm)) r a with | some i => i | none => (D y).2.2.2.2.1.length), st) := by
    intro r
    induction r with
    | zero =>
      intro fu a h1 h2
      obtain ⟨fu, rfl⟩ : ∃ f, fu = f + 1 := ⟨fu - 1, by omega⟩
      unfold g_attributeOf_6 g_attributeOf_119
      rw [f5, Option.bind_some, if_pos (nI_le (by omega) (by omega))]
      show some (nI a, st) = some (nI (D y).2.2.2.2.1.length, st)
      rw [show a = (D y).2.2.2.2.1.length by omega]
    | succ r ih =>
      intro fu a h1 h2
      obtain ⟨fu, rfl⟩ : ∃ f, fu = f + 1 := ⟨fu - 1, by omega⟩
      have ha : a < (D y).2.2.2.2.1.length := by omega
      have ra := row.2.2.2.2.2.2.2.2 a ha
      have q6 := o.2.2.2.2.2.1 _ (getD_mem' (d := ([], [])) ha)
      have fl : g_f (nI (d y)) (44 + (28 * nI a)) st = some (nI ((D y).2.2.2.2.1.getD a ([], [])).1.length, st) := by
        rw [show (44 : Int32) + 28 * nI a = nI (44 + 28 * a) by rw [show (28 : Int32) = nI 28 from rfl, mp_mul, show (44 : Int32) = nI 44 from rfl, nI_add], mp_f st hdy (by omega), ra.1]
      have c := cmp (g_attributeOf_6 fu) a ha
      conv => lhs; unfold g_attributeOf_6
      rw [f5, Option.bind_some, if_neg (nI_ge (by omega) (by omega)), if_pos rfl]
      simp only []
      rw [fl, Option.bind_some]
      simp only []
      have e1 : (if nI ((D y).2.2.2.2.1.getD a ([], [])).1.length = w then g_attributeOf_44 (g_attributeOf_6 fu) (nI (d y)) v w (nI a) 1 st else g_attributeOf_44 (g_attributeOf_6 fu) (nI (d y)) v w (nI a) 0 st) = g_attributeOf_44 (g_attributeOf_6 fu) (nI (d y)) v w (nI a) (if ((D y).2.2.2.2.1.getD a ([], [])).1.length = nm.length then 1 else 0) st := by
        by_cases ql : ((D y).2.2.2.2.1.getD a ([], [])).1.length = nm.length
        · rw [if_pos (by rw [ql, hw]), if_pos ql]
        · rw [if_neg (by rw [hw]; exact fun w => ql ((nI_eq (by omega) (by omega)).mp w)), if_neg ql]
      rw [e1, c]
      show _ = some (nI (match (if decide (((D y).2.2.2.2.1.getD a ([], [])).1 = nm) = true then some a else mp_fst (fun i => decide (((D y).2.2.2.2.1.getD i ([], [])).1 = nm)) r (a + 1)) with | some i => i | none => (D y).2.2.2.2.1.length), st)
      by_cases q : ((D y).2.2.2.2.1.getD a ([], [])).1 = nm
      · rw [if_pos q, if_pos q, decide_eq_true q]
        obtain ⟨fu, rfl⟩ : ∃ f, fu = f + 1 := ⟨fu - 1, by omega⟩
        unfold g_attributeOf_6 g_attributeOf_119
        rw [f5, Option.bind_some, if_neg (nI_ge (by omega) (by omega)), if_neg (by decide)]
        rfl
      · rw [if_neg q, if_neg q, decide_eq_false q]
        exact ih fu (a + 1) (by omega) (by omega)
  unfold g_attributeOf
  exact loop (D y).2.2.2.2.1.length mF 0 (by omega) (by unfold mF; omega)
end QS4
-- the reference's predicates, and a step
section QS5
variable {st : mT} {xs : List Nat} {mk n : Nat} {D : Nat → nd} {d : Nat → Nat}
theorem rw_hatt (M : md (st.2.1 0) n d D) (ok : nd_ok mk n D) (b : md_buf st xs) {id y wh : Nat} {nm str : List Nat} (hid : id < 65) (hwh : wh = 2 ∨ wh = 3) (h32 : st.2.1 32 id = nI wh) (ht : rTx xs (st.2.1 34 id) (st.2.1 35 id) nm) (hs : wh = 3 → rTx xs (st.2.1 36 id) (st.2.1 37 id) str) (hy : y < n) : g_holdsAttribute (nI id) (nI (d y)) st = some (bI (q_hat D wh nm str y), st) := by
  have row := M.2.2.2.2.1 y hy
  have hdy := (M.2.2.1 y hy).1
  have o := ok.2 y hy
  have al := o.2.2.2.2.1
  have f5 : g_f (nI (d y)) 5 st = some (nI (D y).2.2.2.2.1.length, st) := by rw [← row.2.2.2.2.2.1]; exact mp_f st (o := 5) hdy (by decide)
  have k1 : nI (D y).2.1 = 1 ↔ (D y).2.1 = 1 := nI_eq (b := 1) (by have := o.2.1; omega) (by decide)
  have ale := aIx_le (att := (D y).2.2.2.2.1) (nm := nm)
  unfold g_holdsAttribute q_hat
  rw [find_ix, show g_f (nI (d y)) 1 st = some (nI (D y).2.1, st) by rw [← row.2.1]; exact mp_f st (o := 1) hdy (by decide), Option.bind_some]
  by_cases qe : (D y).2.1 = 1
  · rw [if_pos (k1.mpr qe), mp_ld hid (by decide), mp_ld hid (by decide), rw_attOf M ok b ht hy, Option.bind_some]
    simp only []
    rw [f5, Option.bind_some, decide_eq_true qe, Bool.true_and]
    simp only []
    have e50 : g_holdsAttribute_50 (nI (d y)) (nI (aIx (D y).2.2.2.2.1 nm)) st = some (bI (decide (aIx (D y).2.2.2.2.1 nm < (D y).2.2.2.2.1.length)), st) := by
      unfold g_holdsAttribute_50
      rw [f5, Option.bind_some]
      by_cases q : aIx (D y).2.2.2.2.1 nm < (D y).2.2.2.2.1.length
      · rw [if_neg (nI_ge q (by omega)), decide_eq_true q]; rfl
      · rw [if_pos (nI_le (by omega) (by omega)), decide_eq_false q]; rfl
    by_cases qa : aIx (D y).2.2.2.2.1 nm < (D y).2.2.2.2.1.length
    · rw [if_neg (fun w => by have := (nI_eq (by omega) (by omega)).mp w; omega), mp_ld hid (by decide), h32, if_pos qa]
      simp only []
      by_cases q2 : wh = 2
      · rw [if_pos (show nI wh = 2 by rw [q2]; rfl), e50, decide_eq_true qa, decide_eq_true (Or.inl q2)]
      · have q3 : wh = 3 := by omega
        have hs' := hs q3
        have sl := hs'.le b
        have ra := row.2.2.2.2.2.2.2.2 _ qa
        have q6 := o.2.2.2.2.2.1 _ (getD_mem' (d := ([], [])) qa)
        have h37 : st.2.1 37 id = nI str.length := by obtain ⟨_, _, e, _⟩ := hs'; exact e
        generalize hax : aIx (D y).2.2.2.2.1 nm = ax at *
        generalize hat : (D y).2.2.2.2.1.getD ax ([], []) = at0 at ra q6 ⊢
        have zc : ∀ v : Bool, g_holdsAttribute_157 (bI v) st = some (bI v, st) := fun v => by cases v <;> rfl
        have l0 : ∀ (fu : Nat) (x6 : Int32), 1 ≤ fu → g_holdsAttribute_97 fu (nI id) (nI (d y)) (nI ax) 0 x6 st = some (0, st) := fun fu x6 h1 => by
          obtain ⟨fu, rfl⟩ : ∃ f, fu = f + 1 := ⟨fu - 1, by omega⟩
          unfold g_holdsAttribute_97
          rw [mp_ld hid (by decide)]
          split
          · exact zc false
          · rw [if_pos rfl]; exact zc false
        have loop : at0.2.length = str.length → ∀ (r fu i : Nat), i + r = str.length → r + 1 < fu → g_holdsAttribute_97 fu (nI id) (nI (d y)) (nI ax) 1 (nI i) st = some (bI (decide (at0.2.drop i = str.drop i)), st) := fun hlen => by
          intro r
          induction r with
          | zero =>
            intro fu i h1 h2
            obtain ⟨fu, rfl⟩ : ∃ f, fu = f + 1 := ⟨fu - 1, by omega⟩
            unfold g_holdsAttribute_97
            rw [mp_ld hid (by decide), h37, if_pos (nI_le (by omega) (by omega)), decide_eq_true (drop_end hlen (by omega))]
            exact zc true
          | succ r ih =>
            intro fu i h1 h2
            obtain ⟨fu, rfl⟩ : ∃ f, fu = f + 1 := ⟨fu - 1, by omega⟩
            have ft : g_f (nI (d y)) ((52 + (28 * nI ax)) + nI i) st = some (nI (at0.2.getD i 0), st) := by
              rw [show (52 : Int32) + 28 * nI ax + nI i = nI (52 + 28 * ax + i) by rw [show (28 : Int32) = nI 28 from rfl, mp_mul, show (52 : Int32) = nI 52 from rfl, nI_add, nI_add], mp_f st hdy (by omega), ← Nat.add_assoc, ra.2.2.2 i (by omega)]
            have c1 := getD_lt q6.2.2.2 i
            have c2 := hs'.lt b i
            unfold g_holdsAttribute_97 g_holdsAttribute_149
            rw [mp_ld hid (by decide), h37, if_neg (nI_ge (by omega) (by omega)), if_neg (by decide), ft, Option.bind_some, mp_ld hid (by decide)]
            simp only []
            rw [hs'.at b (by omega), Option.bind_some, nI_1]
            simp only []
            by_cases e : at0.2.getD i 0 = str.getD i 0
            · rw [if_pos (by rw [e]), ih fu (i + 1) (by omega) (by omega)]
              rw [show decide (at0.2.drop i = str.drop i) = decide (at0.2.drop (i + 1) = str.drop (i + 1)) by
                rw [decide_eq_decide, drop_step (i := i) hlen (by omega)]
                exact ⟨fun w => w.2, fun w => ⟨e, w⟩⟩]
            · rw [if_neg (fun w => e ((nI_eq (by omega) (by omega)).mp w)), l0 fu _ (by omega), decide_eq_false (fun w => e ((drop_step hlen (by omega)).mp w).1)]
              rfl
        rw [if_neg (show ¬ nI wh = 2 by rw [q3]; decide), show (51 : Int32) + 28 * nI ax = nI (51 + 28 * ax) by rw [show (28 : Int32) = nI 28 from rfl, mp_mul, show (51 : Int32) = nI 51 from rfl, nI_add], mp_f st hdy (by omega), Option.bind_some, ra.2.2.1, mp_ld hid (by decide), h37]
        simp only []
        unfold g_holdsAttribute_92
        have ed : decide (wh = 2 ∨ at0.2 = str) = decide (at0.2 = str) := by
          rw [decide_eq_decide]
          exact ⟨fun w => w.resolve_left q2, Or.inr⟩
        rw [ed]
        by_cases ql : at0.2.length = str.length
        · rw [if_pos (by rw [ql]), show g_holdsAttribute_97 mF (nI id) (nI (d y)) (nI ax) 1 0 st = _ from loop ql str.length mF 0 (by omega) (by unfold mF; omega), List.drop_zero, List.drop_zero]
        · rw [if_neg (fun w => ql ((nI_eq (by omega) (by omega)).mp w)), l0 mF 0 (by unfold mF; omega), decide_eq_false (fun w => ql (by rw [w]))]
          rfl
    · rw [if_pos (by rw [show aIx (D y).2.2.2.2.1 nm = (D y).2.2.2.2.1.length by omega]), e50, decide_eq_false qa, if_neg qa]
  · rw [if_neg (fun w => qe (k1.mp w)), decide_eq_false qe, Bool.false_and]
    rfl
/-- the bits of a predicate's path -/
def mPk (n : Nat) (D : Nat → nd) (J : Nat → Int64) : (N : Nat) → Nat → qPr N → Prop
  | 0, _, _ => True
  | N + 1, bp, pr => 4 ≤ pr.2.1 → ∀ x, x < n → bt (J bp) x = q_hit n D (q_H n D N) pr.2.1 pr.2.2.2.2.1 pr.2.2.2.2.2.1 pr.2.2.2.2.2.2 x
theorem rw_holds (M : md (st.2.1 0) n d D) (ok : nd_ok mk n D) (b : md_buf st xs) {N bs bp : Nat} {pr : qPr (N + 1)} (hbp : bp < 65) (R : rP1 xs st.2.1 (N + 1) bs bp pr) (J : mPk n D st.2.2 (N + 1) bp pr) {x k of : Nat} (hx : x < n) (hk : k < 1000) (hof : of < 1000) : g_holds (nI bp) (nI x) (nI k) (nI of) st = some (bI (q_H n D (N + 1) pr x k of), st) := by
  obtain ⟨r1, r2, r3, r4, r5, r6, r7, r8⟩ := R
  have hn := M.1
  have e94 : ∀ v : Bool, g_holds_94 (nI bp) (bI v) st = some (bI (pr.1 != v), st) := fun v => by
    unfold g_holds_94
    rw [mp_ld hbp (by decide), r1]
    cases v <;> cases pr.1 <;> rfl
  have i : ∀ c, c < 10 → (nI pr.2.1 = nI c ↔ pr.2.1 = c) := fun c hc => nI_eq (by omega) (by omega)
  unfold g_holds
  rw [mp_ld hbp (by decide), r2]
  show _ = some (bI (pr.1 != (if pr.2.1 = 0 then decide (k = pr.2.2.1) else if pr.2.1 = 1 then decide (k = of) else if pr.2.1 < 4 then q_hat D pr.2.1 pr.2.2.2.1 pr.2.2.2.2.1 x else q_hit n D (q_H n D N) pr.2.1 pr.2.2.2.2.1 pr.2.2.2.2.2.1 pr.2.2.2.2.2.2 x)), st)
  by_cases q0 : pr.2.1 = 0
  · rw [if_pos (show nI pr.2.1 = 0 from (i 0 (by decide)).mpr q0), if_pos q0, mp_ld hbp (by decide), (r4 q0).1]
    have := (r4 q0).2
    by_cases q : k = pr.2.2.1
    · rw [if_pos (by rw [q]), decide_eq_true q]
      exact e94 true
    · rw [if_neg (fun w => q ((nI_eq (by omega) (by omega)).mp w)), decide_eq_false q]
      exact e94 false
  · rw [if_neg (show ¬ nI pr.2.1 = 0 from fun w => q0 ((i 0 (by decide)).mp w)), if_neg q0, mp_ld hbp (by decide), r2]
    by_cases q1 : pr.2.1 = 1
    · rw [if_pos (show nI pr.2.1 = 1 from (i 1 (by decide)).mpr q1), if_pos q1]
      by_cases q : k = of
      · rw [if_pos (by rw [q]), decide_eq_true q]
        exact e94 true
      · rw [if_neg (fun w => q ((nI_eq (by omega) (by omega)).mp w)), decide_eq_false q]
        exact e94 false
    · rw [if_neg (show ¬ nI pr.2.1 = 1 from fun w => q1 ((i 1 (by decide)).mp w)), if_neg q1, mp_ld hbp (by decide), r2]
      by_cases q4 : pr.2.1 < 4
      · rw [if_neg (show ¬ (4 : Int32) ≤ nI pr.2.1 from nI_ge (b := 4) q4 (by decide)), if_pos q4, mp_bd (mp_dc (md_D M) hx)]
        simp only []
        rw [rw_hatt M ok b hbp (by omega) r2 (r5 (by omega)) (fun w => r6 (Or.inl w)) hx, Option.bind_some]
        exact e94 _
      · have ld : ∀ K : Int64 → Option (Int32 × mT), mm_ldL st.2.2 65 (nI bp) K = K (st.2.2 bp) := fun K => by
          unfold mm_ldL
          rw [if_neg (nI_pos (by omega)), nI_clamp (by omega), if_pos hbp]
        rw [if_pos (show (4 : Int32) ≤ nI pr.2.1 from nI_le (a := 4) (by omega) (by omega)), if_neg q4, ld]
        have hj := J (by omega) x hx
        have ts := b_test (m := st.2.2 bp) (y := x) (by omega)
        cases hq : q_hit n D (q_H n D N) pr.2.1 pr.2.2.2.2.1 pr.2.2.2.2.2.1 pr.2.2.2.2.2.2 x with
        | true =>
          rw [if_pos (ts.mpr (by rw [hj, hq]))]
          exact e94 true
        | false =>
          rw [if_neg (fun w => by have := ts.mp w; rw [hj, hq] at this; cases this)]
          exact e94 false
end QS5
-- the reference walks one step
def wS (st0 st : mT) : Prop := (∀ k, k ≠ 53 → st.1 k = st0.1 k) ∧ (∀ a, a ≠ 54 → st.2.1 a = st0.2.1 a) ∧ st.2.2 = st0.2.2
theorem wS.refl {st : mT} : wS st st := ⟨fun _ _ => rfl, fun _ _ => rfl, rfl⟩
theorem wS.trans {a b c : mT} (h : wS a b) (g : wS b c) : wS a c := ⟨fun k hk => (g.1 k hk).trans (h.1 k hk), fun k hk => (g.2.1 k hk).trans (h.2.1 k hk), g.2.2.trans h.2.2⟩
theorem wS.buf {st0 st : mT} {xs : List Nat} (h : wS st0 st) (b : md_buf st0 xs) : md_buf st xs := ⟨by rw [h.1 7 (by decide)]; exact b.1, by rw [h.2.1 6 (by decide)]; exact b.2.1, b.2.2⟩
theorem wS.md {st0 st : mT} {n : Nat} {d : Nat → Nat} {D : Nat → nd} (h : wS st0 st) (M : md (st0.2.1 0) n d D) : md (st.2.1 0) n d D := by rw [h.2.1 0 (by decide)]; exact M
/-- the numbers in the list -/
def lA (G : aT) (l : List Nat) (f t : Nat) : Prop := ∀ i, f ≤ i → i < t → G 54 i = nI (l.getD i 0)
def mC {α : Type} (c : α → Nat × Nat) (R : Nat → α → Prop) : Nat → List α → Prop
  | _, [] => True
  | bp, x :: l => R bp x ∧ mC c R (bp + (c x).2) l
theorem q_flt_mem {h : Nat → Nat → Nat → Bool} {of : Nat} : ∀ (l : List Nat) (k y : Nat), y ∈ q_flt h of k l → y ∈ l := by
  intro l
  induction l with
  | nil => intro k y hy; cases hy
  | cons x l ih =>
    intro k y hy
    unfold q_flt at hy
    split at hy
    · rcases List.mem_cons.mp hy with e | e
      · rw [e]; exact List.mem_cons_self
      · exact List.mem_cons_of_mem _ (ih _ _ e)
    · exact List.mem_cons_of_mem _ (ih _ _ hy)
theorem q_flt_len {h : Nat → Nat → Nat → Bool} {of : Nat} : ∀ (l : List Nat) (k : Nat), (q_flt h of k l).length ≤ l.length := by
  intro l
  induction l with
  | nil => intro k; exact Nat.le_refl _
  | cons x l ih =>
    intro k
    unfold q_flt
    have := ih (k + 1)
    split
    · simp only [List.length_cons]; omega
    · simp only [List.length_cons]; omega
section QS6
variable {st0 st : mT} {xs : List Nat} {mk n : Nat} {D : Nat → nd} {d : Nat → Nat}
theorem q_ax_lt (ok : nd_ok mk n D) {a : Nat} {xo : Option Nat} (hxo : ∀ x, xo = some x → x < n) : ∀ y ∈ q_ax n D a xo, y < n := by
  intro y hy
  unfold q_ax at hy
  cases xo with
  | none =>
    simp only [] at hy
    split at hy
    · split at hy
      · cases hy
      · rcases List.mem_cons.mp hy with e | e
        · omega
        · cases e
    · split at hy
      · exact (q_rng_mem.mp hy).2
      · cases hy
  | some x =>
    have hx := hxo x rfl
    have he := (mp_end_spec (pa := fun k => (D k).2.2.1) hx).2.1
    have e1 : a_end n D x = mp_end (fun k => (D k).2.2.1) n x := rfl
    simp only [] at hy
    split at hy
    · exact (q_rng_mem.mp (List.mem_filter.mp hy).1).2
    split at hy
    · have := (q_rng_mem.mp hy).2; omega
    split at hy
    · rcases List.mem_cons.mp hy with e | e
      · omega
      · have := (q_rng_mem.mp e).2; omega
    split at hy
    · have := (q_anc_len ok 1 x hx).2 y hy; omega
    split at hy
    · have := (q_anc_len ok 50 x hx).2 y hy; omega
    split at hy
    · rcases List.mem_cons.mp hy with e | e
      · omega
      · have := (q_anc_len ok 50 x hx).2 y e; omega
    split at hy
    · rcases List.mem_cons.mp hy with e | e
      · omega
      · cases e
    split at hy
    · exact (q_rng_mem.mp (List.mem_filter.mp hy).1).2
    split at hy
    · have := (q_rng_mem.mp (List.mem_reverse.mp (List.mem_filter.mp hy).1)).2; omega
    split at hy
    · exact (q_rng_mem.mp hy).2
    · have := (q_rng_mem.mp (List.mem_reverse.mp (List.mem_filter.mp hy).1)).2; omega
theorem lA.put {G G2 : aT} {kept l : List Nat} {k : Nat} (h1 : lA G kept 0 kept.length) (h2 : lA G l k l.length) (hk : kept.length ≤ k) (hkl : k < l.length) (e : G2 54 = upd (G 54) kept.length (nI (l.getD k 0))) : lA G2 (kept ++ [l.getD k 0]) 0 (kept ++ [l.getD k 0]).length ∧ lA G2 l (k + 1) l.length := by
  refine ⟨fun i _ hi => ?_, fun i h3 h4 => ?_⟩
  · rw [len_snoc] at hi
    rw [e]
    by_cases q : i < kept.length
    · rw [upd_n (by omega), getD_left q]; exact h1 i (Nat.zero_le _) q
    · have : i = kept.length := by omega
      subst this
      rw [upd_s, getD_snoc]
  · rw [e, upd_n (by omega)]
    exact h2 i (by omega) h4
/-- only the step's kind stays -/
theorem rw_16 (M0 : md (st0.2.1 0) n d D) (ok : nd_ok mk n D) (b0 : md_buf st0 xs) {sid kd : Nat} {nm : List Nat} (hsid : sid < 130) (hkd : kd ≤ 4) (h26 : st0.2.1 26 sid = nI kd) (ht : rTx xs (st0.2.1 27 sid) (st0.2.1 28 sid) nm) {l : List Nat} (hl : l.length ≤ 41) (hln : ∀ y ∈ l, y < n) : ∀ (r fu k : Nat) (kept : List Nat) (st : mT), k + r = l.length → r < fu → wS st0 st → st.1 53 = nI l.length → kept.length ≤ k → lA st.2.1 kept 0 kept.length → lA st.2.1 l k l.length → ∃ s, g_walk_16 fu (nI sid) (nI kept.length) (nI k) st = g_walk_70 mF (nI (kept ++ (l.drop k).filter (q_kd D kd nm)).length) (st0.2.1 29 sid) s ∧ wS st0 s ∧ lA s.2.1 (kept ++ (l.drop k).filter (q_kd D kd nm)) 0 (kept ++ (l.drop k).filter (q_kd D kd nm)).length := by
  intro r
  induction r with
  | zero =>
    intro fu k kept st h1 h2 w h53 hk a1 a2
    obtain ⟨fu, rfl⟩ : ∃ f, fu = f + 1 := ⟨fu - 1, by omega⟩
    rw [List.drop_eq_nil_of_le (by omega), List.filter_nil, List.append_nil]
    refine ⟨st, ?_, w, a1⟩
    unfold g_walk_16
    rw [h53, if_pos (nI_le (by omega) (by omega)), mp_ld hsid (by decide), w.2.1 29 (by decide)]
  | succ r ih =>
    intro fu k kept st h1 h2 w h53 hk a1 a2
    obtain ⟨fu, rfl⟩ : ∃ f, fu = f + 1 := ⟨fu - 1, by omega⟩
    have hkl : k < l.length := by omega
    have hyn := hln _ (getD_mem' (d := 0) hkl)
    have e1 : l.getD k 0 = l[k] := by rw [List.getD_eq_getElem?_getD, List.getElem?_eq_getElem hkl]; rfl
    have K := rw_kind (w.md M0) ok (w.buf b0) hsid hkd (by rw [w.2.1 26 (by decide)]; exact h26) (by rw [w.2.1 27 (by decide), w.2.1 28 (by decide)]; exact ht) hyn
    rw [List.drop_eq_getElem_cons hkl, List.filter_cons, ← e1]
    conv => enter [1, s, 1, 1]; unfold g_walk_16
    rw [h53, if_neg (nI_ge (by omega) (by omega)), mp_ld (by omega) (by decide), a2 k (Nat.le_refl _) hkl, K, Option.bind_some]
    unfold g_walk_56
    simp only []
    cases q : q_kd D kd nm (l.getD k 0) with
    | true =>
      rw [if_neg (show ¬ bI true = 0 by decide), mp_ld (by omega) (by decide), a2 k (Nat.le_refl _) hkl, mp_ix (by omega) (by decide), nI_1, nI_1, if_pos rfl, ← len_snoc (t := kept) (c := l.getD k 0)]
      obtain ⟨p1, p2⟩ := lA.put (G2 := (mm_G st 54 kept.length (nI (l.getD k 0))).2.1) a1 a2 hk hkl rfl
      obtain ⟨s, b1, b2, b3⟩ := ih fu (k + 1) (kept ++ [l.getD k 0]) (mm_G st 54 kept.length (nI (l.getD k 0))) (by omega) (by omega) ⟨w.1, fun a ha => by rw [fG_n ha]; exact w.2.1 a ha, w.2.2⟩ h53 (by rw [len_snoc]; omega) p1 p2
      rw [List.append_assoc] at b1 b3
      exact ⟨s, b1, b2, b3⟩
    | false =>
      rw [if_pos (show bI false = 0 by decide), nI_1, if_neg (by decide)]
      exact ih fu (k + 1) kept st (by omega) (by omega) w h53 (by omega) a1 (fun i h3 h4 => a2 i (by omega) h4)
/-- only those for which the predicate holds stay -/
theorem rw_81 (M0 : md (st0.2.1 0) n d D) (ok : nd_ok mk n D) (b0 : md_buf st0 xs) {N bs bp : Nat} {pr : qPr (N + 1)} (hbp : bp < 65) (R : rP1 xs st0.2.1 (N + 1) bs bp pr) (J : mPk n D st0.2.2 (N + 1) bp pr) {l : List Nat} (hl : l.length ≤ 41) (hln : ∀ y ∈ l, y < n) {k70 : Int32 → Int32 → mT → Option (Int64 × mT)} : ∀ (r fu k : Nat) (kept : List Nat) (st : mT), k + r = l.length → r < fu → wS st0 st → kept.length ≤ k → lA st.2.1 kept 0 kept.length → lA st.2.1 l k l.length → ∃ s, g_walk_81 k70 fu (nI l.length) (nI bp) (nI kept.length) (nI k) st = k70 (nI (kept ++ q_flt (q_H n D (N + 1) pr) l.length (k + 1) (l.drop k)).length) (st0.2.1 39 bp) s ∧ wS st0 s ∧ lA s.2.1 (kept ++ q_flt (q_H n D (N + 1) pr) l.length (k + 1) (l.drop k)) 0 (kept ++ q_flt (q_H n D (N + 1) pr) l.length (k + 1) (l.drop k)).length := by
  intro r
  induction r with
  | zero =>
    intro fu k kept st h1 h2 w hk a1 a2
    obtain ⟨fu, rfl⟩ : ∃ f, fu = f + 1 := ⟨fu - 1, by omega⟩
    rw [List.drop_eq_nil_of_le (by omega)]
    show ∃ s, g_walk_81 k70 (fu + 1) (nI l.length) (nI bp) (nI kept.length) (nI k) st = k70 (nI (kept ++ []).length) (st0.2.1 39 bp) s ∧ wS st0 s ∧ lA s.2.1 (kept ++ []) 0 (kept ++ []).length
    rw [List.append_nil]
    refine ⟨st, ?_, w, a1⟩
    unfold g_walk_81
    rw [if_pos (nI_le (by omega) (by omega)), mp_ld hbp (by decide), w.2.1 39 (by decide)]
  | succ r ih =>
    intro fu k kept st h1 h2 w hk a1 a2
    obtain ⟨fu, rfl⟩ : ∃ f, fu = f + 1 := ⟨fu - 1, by omega⟩
    have hkl : k < l.length := by omega
    have hyn := hln _ (getD_mem' (d := 0) hkl)
    have e1 : l.getD k 0 = l[k] := by rw [List.getD_eq_getElem?_getD, List.getElem?_eq_getElem hkl]; rfl
    have R' : rP1 xs st.2.1 (N + 1) bs bp pr := (frP_of (xs := xs) (N + 1) pr).2 st0.2.1 st.2.1 bs bp R (fun a h1 h2 i _ _ => by rw [w.2.1 a (by omega)]) (fun a h1 h2 i _ _ => by rw [w.2.1 a (by omega)]) (fun a h1 h2 _ => by rw [w.2.1 a (by omega)])
    have J' : mPk n D st.2.2 (N + 1) bp pr := by rw [w.2.2]; exact J
    have H := rw_holds (w.md M0) ok (w.buf b0) hbp R' J' hyn (k := k + 1) (of := l.length) (by omega) (by omega)
    rw [List.drop_eq_getElem_cons hkl, ← e1]
    show ∃ s, g_walk_81 k70 (fu + 1) (nI l.length) (nI bp) (nI kept.length) (nI k) st = k70 (nI (kept ++ (if q_H n D (N + 1) pr (l.getD k 0) (k + 1) l.length = true then l.getD k 0 :: q_flt (q_H n D (N + 1) pr) l.length (k + 1 + 1) (l.drop (k + 1)) else q_flt (q_H n D (N + 1) pr) l.length (k + 1 + 1) (l.drop (k + 1)))).length) (st0.2.1 39 bp) s ∧ wS st0 s ∧ lA s.2.1 (kept ++ (if q_H n D (N + 1) pr (l.getD k 0) (k + 1) l.length = true then l.getD k 0 :: q_flt (q_H n D (N + 1) pr) l.length (k + 1 + 1) (l.drop (k + 1)) else q_flt (q_H n D (N + 1) pr) l.length (k + 1 + 1) (l.drop (k + 1)))) 0 (kept ++ (if q_H n D (N + 1) pr (l.getD k 0) (k + 1) l.length = true then l.getD k 0 :: q_flt (q_H n D (N + 1) pr) l.length (k + 1 + 1) (l.drop (k + 1)) else q_flt (q_H n D (N + 1) pr) l.length (k + 1 + 1) (l.drop (k + 1)))).length
    conv => enter [1, s, 1, 1]; unfold g_walk_81
    rw [if_neg (nI_ge (by omega) (by omega)), mp_ld (by omega) (by decide), a2 k (Nat.le_refl _) hkl, nI_1, H, Option.bind_some]
    unfold g_walk_125
    simp only []
    cases q : q_H n D (N + 1) pr (l.getD k 0) (k + 1) l.length with
    | true =>
      rw [if_neg (show ¬ bI true = 0 by decide), mp_ld (by omega) (by decide), a2 k (Nat.le_refl _) hkl, mp_ix (by omega) (by decide), nI_1, nI_1, if_pos rfl, ← len_snoc (t := kept) (c := l.getD k 0)]
      obtain ⟨p1, p2⟩ := lA.put (G2 := (mm_G st 54 kept.length (nI (l.getD k 0))).2.1) a1 a2 hk hkl rfl
      obtain ⟨s, b1, b2, b3⟩ := ih fu (k + 1) (kept ++ [l.getD k 0]) (mm_G st 54 kept.length (nI (l.getD k 0))) (by omega) (by omega) ⟨w.1, fun a ha => by rw [fG_n ha]; exact w.2.1 a ha, w.2.2⟩ (by rw [len_snoc]; omega) p1 p2
      rw [List.append_assoc] at b1 b3
      exact ⟨s, b1, b2, b3⟩
    | false =>
      rw [if_pos (show bI false = 0 by decide), nI_1, if_neg (by decide)]
      exact ih fu (k + 1) kept st (by omega) (by omega) w (by omega) a1 (fun i h3 h4 => a2 i (by omega) h4)
/-- the bits of the list -/
theorem rw_152 {l : List Nat} (hl : l.length ≤ 41) (hln : ∀ y ∈ l, y < 64) (a1 : lA st.2.1 l 0 l.length) : ∀ (r fu k : Nat) (m : Int64), k + r = l.length → r < fu → bR m (fun y => decide (y ∈ l.take k)) → ∃ m2, g_walk_152 fu (nI l.length) m (nI k) st = some (m2, st) ∧ bR m2 (fun y => decide (y ∈ l)) := by
  intro r
  induction r with
  | zero =>
    intro fu k m h1 h2 B
    obtain ⟨fu, rfl⟩ : ∃ f, fu = f + 1 := ⟨fu - 1, by omega⟩
    rw [List.take_of_length_le (by omega)] at B
    refine ⟨m, ?_, B⟩
    unfold g_walk_152
    rw [if_pos (nI_le (by omega) (by omega))]
  | succ r ih =>
    intro fu k m h1 h2 B
    obtain ⟨fu, rfl⟩ : ∃ f, fu = f + 1 := ⟨fu - 1, by omega⟩
    have hkl : k < l.length := by omega
    have hy := hln _ (getD_mem' (d := 0) hkl)
    have e1 : l.getD k 0 = l[k] := by rw [List.getD_eq_getElem?_getD, List.getElem?_eq_getElem hkl]; rfl
    unfold g_walk_152
    rw [if_neg (nI_ge (by omega) (by omega)), mp_ld (by omega) (by decide), a1 k (Nat.zero_le _) hkl, nI_1]
    refine ih fu (k + 1) _ (by omega) (by omega) (fun y hy64 => ?_)
    rw [b_or, B y hy64, b_one hy hy64, ← Bool.decide_or, decide_eq_decide, List.take_add_one, List.mem_append, List.getElem?_eq_getElem hkl, e1]
    simp
end QS6
