-- writing out: the reference
/-- the reference with this much written -/
def mo (st : mT) (s : Int32 × Int32) : mT := (upd (upd st.1 59 s.2) 57 s.1, st.2)
section PO4
variable {st : mT} {s : Int32 × Int32} {mk n m : Nat} {D D2 : Nat → nd} {xs : List Nat} {rs : List Int32} {ch : Int32} {d : Nat → Nat}
theorem mo_57 : (mo st s).1 57 = s.1 := by
  show upd (upd st.1 59 s.2) 57 s.1 57 = _
  rw [upd_s]
theorem mo_59 : (mo st s).1 59 = s.2 := by
  show upd (upd st.1 59 s.2) 57 s.1 59 = _
  rw [upd_n (by decide), upd_s]
theorem mo_58 : (mo st s).1 58 = st.1 58 := by
  show upd (upd st.1 59 s.2) 57 s.1 58 = _
  rw [upd_n (by decide), upd_n (by decide)]
theorem mo_F {t f : Int32} : mm_F (mm_F (mo st s) 59 f) 57 t = mo st (t, f) := by
  unfold mm_F mo
  refine Prod.ext ?_ rfl
  funext i
  show upd (upd (upd (upd st.1 59 s.2) 57 s.1) 59 f) 57 t i = upd (upd st.1 59 f) 57 t i
  by_cases q : i = 57
  · rw [q, upd_s, upd_s]
  · rw [upd_n q, upd_n q]
    by_cases q2 : i = 59
    · rw [q2, upd_s, upd_s]
    · rw [upd_n q2, upd_n q2, upd_n q, upd_n q2]
theorem mp_out (c : Nat) : g_out (nI c) (mo st s) = some (mo st (o_put (st.1 58) s c)) := by
  have e20 : ∀ w0 : Int32, g_out_20 w0 (mo st s) = some (mo st (s.1 + 1, w0)) := fun w0 => by
    unfold g_out_20
    show some (mm_F (mm_F (mo st s) 59 w0) 57 ((mm_F (mo st s) 59 w0).1 57 + 1)) = _
    rw [show (mm_F (mo st s) 59 w0).1 57 = s.1 from by show upd (mo st s).1 59 w0 57 = _; rw [upd_n (by decide)]; exact mo_57, mo_F]
  unfold g_out o_put
  rw [mo_57, mo_58, mo_59, e20, e20]
  by_cases q : s.1 = st.1 58
  · rw [if_pos q, if_pos q]
  · rw [if_neg q, if_neg q]
theorem mp_outI {c : Int32} (k : Nat) (h : c = nI k) : g_out c (mo st s) = some (mo st (o_put (st.1 58) s k)) := by rw [h]; exact mp_out k
theorem mp_four2 (a b : Nat) : g_outFour (nI a) (nI b) 0 0 (mo st s) = some (mo st (o_all (st.1 58) s [a, b])) := by
  unfold g_outFour g_outFour_19
  rw [mp_bd (mp_out a), mp_bd (mp_out b), if_pos (by decide), if_pos (by decide)]
  rfl
theorem mp_four3 (a b c : Nat) (hc : 0 < c) (hc2 : c < 128) : g_outFour (nI a) (nI b) (nI c) 0 (mo st s) = some (mo st (o_all (st.1 58) s [a, b, c])) := by
  unfold g_outFour g_outFour_19
  rw [mp_bd (mp_out a), mp_bd (mp_out b), if_neg (show ¬ nI c ≤ 0 from nI_ge (a := 0) hc (by omega)), mp_bd (mp_out c), if_pos (by decide)]
  rfl
theorem mp_four4 (a b c e : Nat) (hc : 0 < c) (hc2 : c < 128) (he : 0 < e) (he2 : e < 128) : g_outFour (nI a) (nI b) (nI c) (nI e) (mo st s) = some (mo st (o_all (st.1 58) s [a, b, c, e])) := by
  unfold g_outFour g_outFour_19
  rw [mp_bd (mp_out a), mp_bd (mp_out b), if_neg (show ¬ nI c ≤ 0 from nI_ge (a := 0) hc (by omega)), mp_bd (mp_out c), if_neg (show ¬ nI e ≤ 0 from nI_ge (a := 0) he (by omega)), mp_bd (mp_out e)]
  rfl
theorem mp_f2 {A B : Int32} (a b : Nat) (hA : A = nI a) (hB : B = nI b) : g_outFour A B 0 0 (mo st s) = some (mo st (o_all (st.1 58) s [a, b])) := by rw [hA, hB]; exact mp_four2 a b
theorem mp_f3 {A B C : Int32} (a b c : Nat) (hA : A = nI a) (hB : B = nI b) (hC : C = nI c) (hc : 0 < c) (hc2 : c < 128) : g_outFour A B C 0 (mo st s) = some (mo st (o_all (st.1 58) s [a, b, c])) := by rw [hA, hB, hC]; exact mp_four3 a b c hc hc2
theorem mp_f4 {A B C E : Int32} (a b c e : Nat) (hA : A = nI a) (hB : B = nI b) (hC : C = nI c) (hE : E = nI e) (hc : 0 < c) (hc2 : c < 128) (he : 0 < e) (he2 : e < 128) : g_outFour A B C E (mo st s) = some (mo st (o_all (st.1 58) s [a, b, c, e])) := by rw [hA, hB, hC, hE]; exact mp_four4 a b c e hc hc2 he he2
/-- a value's character: the third that is coded is > or " -/
theorem mp_outValue {c q : Nat} (hc : c < 128) {ent : List Nat} (hq : (q = 62 ∧ ent = a_gt) ∨ (q = 34 ∧ ent = a_qu)) : g_outValue (nI c) (nI q) (mo st s) = some (mo st (o_all (st.1 58) s (a_esc q ent c))) := by
  have eq : ∀ b : Nat, b < 128 → (nI c = nI b ↔ c = b) := fun b hb => nI_eq (by omega) (by omega)
  have e59 : ∀ s, g_outValue_132 (mo st s) = some (mo st (o_all (st.1 58) s [59])) := fun s => by
    unfold g_outValue_132
    rw [mp_bd (mp_outI (c := 59) 59 rfl)]
    rfl
  unfold g_outValue a_esc
  by_cases q1 : c = 38
  · subst q1
    rw [if_pos (show (nI 38 : Int32) = 38 from rfl), if_pos rfl]
    unfold g_outValue_17 g_outValue_22
    rw [if_neg (by decide), if_pos (show (nI 38 : Int32) = 38 from rfl), mp_bd (mp_f4 (A := 38) (B := 97) (C := 109) (E := 112) 38 97 109 112 rfl rfl rfl rfl (by decide) (by decide) (by decide) (by decide))]
    unfold g_outValue_100 g_outValue_116
    rw [if_neg (by decide), if_neg (by decide), if_neg (by decide), if_pos (show (nI 38 : Int32) = 38 from rfl), e59, ← o_all_app]
    rfl
  rw [if_neg (show ¬ nI c = 38 from fun w => q1 ((eq 38 (by decide)).mp w)), if_neg q1]
  by_cases q2 : c = 60
  · subst q2
    rw [if_pos (show (nI 60 : Int32) = 60 from rfl), if_pos rfl]
    unfold g_outValue_17 g_outValue_22
    rw [if_neg (by decide), if_neg (by decide), if_neg (by decide), if_pos (show (nI 60 : Int32) = 60 from rfl)]
    unfold g_outValue_93
    rw [mp_bd (mp_f4 (A := 38) (B := 108) (C := 116) (E := 59) 38 108 116 59 rfl rfl rfl rfl (by decide) (by decide) (by decide) (by decide))]
    unfold g_outValue_100 g_outValue_116
    rw [if_neg (by decide), if_neg (by decide), if_neg (by decide), if_neg (by decide), if_neg (by decide)]
  rw [if_neg (show ¬ nI c = 60 from fun w => q2 ((eq 60 (by decide)).mp w)), if_neg q2]
  by_cases q3 : c = q
  · rw [if_pos (by rw [q3]), if_pos q3]
    rcases hq with ⟨hq, he⟩ | ⟨hq, he⟩
    · subst he
      have q4 : c = 62 := by omega
      subst q4
      unfold g_outValue_17 g_outValue_22
      rw [if_neg (by decide), if_neg (by decide), if_neg (by decide), if_neg (by decide)]
      unfold g_outValue_93
      rw [mp_bd (mp_f4 (A := 38) (B := 103) (C := 116) (E := 59) 38 103 116 59 rfl rfl rfl rfl (by decide) (by decide) (by decide) (by decide))]
      unfold g_outValue_100 g_outValue_116
      rw [if_neg (by decide), if_neg (by decide), if_neg (by decide), if_neg (by decide), if_neg (by decide)]
      rfl
    · subst he
      have q4 : c = 34 := by omega
      subst q4
      unfold g_outValue_17 g_outValue_22
      rw [if_neg (by decide), if_neg (by decide), if_pos (show (nI 34 : Int32) = 34 from rfl), mp_bd (mp_f4 (A := 38) (B := 113) (C := 117) (E := 111) 38 113 117 111 rfl rfl rfl rfl (by decide) (by decide) (by decide) (by decide))]
      unfold g_outValue_100
      rw [if_neg (by decide), if_pos (show (nI 34 : Int32) = 34 from rfl), mp_bd (mp_outI (c := 116) 116 rfl)]
      unfold g_outValue_116
      rw [if_neg (by decide), if_neg (by decide), if_pos (show (nI 34 : Int32) = 34 from rfl), e59]
      rfl
  · rw [if_neg (show ¬ nI c = nI q from fun w => q3 ((eq q (by omega)).mp w)), if_neg q3]
    unfold g_outValue_22
    rw [if_pos rfl, mp_bd (mp_out c)]
    unfold g_outValue_100 g_outValue_116
    rw [if_pos rfl, if_pos rfl]
    rfl
theorem mp_fo {r o : Nat} (hr : r < 40) (ho : o < 128) : g_f (nI r) (nI o) (mo st s) = some (st.2.1 0 (128 * r + o), mo st s) := mp_f (mo st s) hr ho
/-- a text of a row, out -/
theorem mp_outNameL {r : Nat} (hr : r < 40) {t : List Nat} (ht : t.length ≤ 20) (h3 : st.2.1 0 (128 * r + 3) = nI t.length) (h8 : md_txt (st.2.1 0) (128 * r + 8) t) : ∀ (k fu i : Nat) (s : Int32 × Int32), i + k = t.length → k < fu → g_outName_2 fu (nI r) (nI i) (mo st s) = some (mo st (o_all (st.1 58) s (t.drop i))) := by
  intro k
  induction k with
  | zero =>
    intro fu i s hi hf
    obtain ⟨fu, rfl⟩ : ∃ f, fu = f + 1 := ⟨fu - 1, by omega⟩
    have e : g_f (nI r) 3 (mo st s) = some (nI t.length, mo st s) := by rw [← h3]; exact mp_fo (o := 3) hr (by decide)
    unfold g_outName_2
    rw [mp_bd e, if_pos (nI_le (by omega) (by omega)), List.drop_eq_nil_of_le (by omega)]
    rfl
  | succ k ih =>
    intro fu i s hi hf
    obtain ⟨fu, rfl⟩ : ∃ f, fu = f + 1 := ⟨fu - 1, by omega⟩
    have hlt : i < t.length := by omega
    have e : g_f (nI r) 3 (mo st s) = some (nI t.length, mo st s) := by rw [← h3]; exact mp_fo (o := 3) hr (by decide)
    have e2 : g_f (nI r) (8 + nI i) (mo st s) = some (nI (t.getD i 0), mo st s) := by
      rw [show (8 : Int32) + nI i = nI (8 + i) from nI_add 8 i, mp_fo hr (by omega), ← Nat.add_assoc, h8 i hlt]
    unfold g_outName_2
    rw [mp_bd e, if_neg (nI_ge (by omega) (by omega)), mp_bd e2, mp_bd (mp_out _), nI_1, ih fu (i + 1) _ (by omega) (by omega), List.drop_eq_getElem_cons hlt, o_all_cons, List.getD_eq_getElem?_getD, List.getElem?_eq_getElem hlt]
    rfl
theorem mp_outName (M : md (st.2.1 0) n d D) (ok : nd_ok mk n D) {k : Nat} (hk : k < n) : g_outName (nI (d k)) (mo st s) = some (mo st (o_all (st.1 58) s (D k).2.2.2.2.2)) := by
  have r := M.2.2.2.2.1 k hk
  have o := ok.2 k hk
  unfold g_outName
  exact mp_outNameL (M.2.2.1 k hk).1 o.2.2.2.2.2.2.1 r.2.2.2.1 r.2.2.2.2.2.2.1 (D k).2.2.2.2.2.length mF 0 s (by omega) (by unfold mF; omega)
theorem mp_tag85 {r o : Nat} (hr : r < 40) {t : List Nat} (ht : t.length ≤ 20) (ho : o + 28 ≤ 128) (hc : ∀ c ∈ t, c < 128) (h7 : st.2.1 0 (128 * r + (o + 7)) = nI t.length) (h8 : md_txt (st.2.1 0) (128 * r + (o + 8)) t) (k13 : Int32 → Int32 → mT → Option mT) (x2 : Int32) : ∀ (k fu i : Nat) (s : Int32 × Int32), i + k = t.length → k < fu → g_outTag_85 k13 fu (nI r) x2 (nI o) (nI i) (mo st s) = k13 (nI r) (x2 + 1) (mo st (o_all (st.1 58) s (a_val 34 a_qu (t.drop i) ++ [34]))) := by
  intro k
  induction k with
  | zero =>
    intro fu i s hi hf
    obtain ⟨fu, rfl⟩ : ∃ f, fu = f + 1 := ⟨fu - 1, by omega⟩
    have e : g_f (nI r) (nI o + 7) (mo st s) = some (nI t.length, mo st s) := by rw [← h7, show nI o + 7 = nI (o + 7) from nI_add o 7]; exact mp_fo hr (by omega)
    unfold g_outTag_85
    rw [mp_bd e, if_pos (nI_le (by omega) (by omega)), mp_bd (mp_outI (c := 34) 34 rfl), List.drop_eq_nil_of_le (by omega)]
    rfl
  | succ k ih =>
    intro fu i s hi hf
    obtain ⟨fu, rfl⟩ : ∃ f, fu = f + 1 := ⟨fu - 1, by omega⟩
    have hlt : i < t.length := by omega
    have e : g_f (nI r) (nI o + 7) (mo st s) = some (nI t.length, mo st s) := by rw [← h7, show nI o + 7 = nI (o + 7) from nI_add o 7]; exact mp_fo hr (by omega)
    have e2 : g_f (nI r) (nI o + 8 + nI i) (mo st s) = some (nI (t.getD i 0), mo st s) := by
      rw [show nI o + 8 + nI i = nI (o + 8 + i) by rw [show nI o + 8 = nI (o + 8) from nI_add o 8, nI_add], mp_fo hr (by omega), ← Nat.add_assoc, h8 i hlt]
    have ev : a_val 34 a_qu (t.drop i) = a_esc 34 a_qu (t.getD i 0) ++ a_val 34 a_qu (t.drop (i + 1)) := by
      rw [List.drop_eq_getElem_cons hlt, List.getD_eq_getElem?_getD, List.getElem?_eq_getElem hlt]
      rfl
    unfold g_outTag_85
    rw [mp_bd e, if_neg (nI_ge (by omega) (by omega)), mp_bd e2, mp_bd (show g_outValue (nI (t.getD i 0)) 34 (mo st s) = some (mo st (o_all (st.1 58) s (a_esc 34 a_qu (t.getD i 0)))) from mp_outValue (q := 34) (getD_lt hc i) (Or.inr ⟨rfl, rfl⟩)), nI_1, ih fu (i + 1) _ (by omega) (by omega), ev, List.append_assoc]
    exact congrArg (fun q => k13 (nI r) (x2 + 1) (mo st q)) o_all_app.symm
theorem mp_tag40 {r o : Nat} (hr : r < 40) {t1 t2 : List Nat} (ht1 : t1.length ≤ 6) (ht2 : t2.length ≤ 20) (ho : o + 28 ≤ 128) (hc : ∀ c ∈ t2, c < 128) (h0 : st.2.1 0 (128 * r + o) = nI t1.length) (h1 : md_txt (st.2.1 0) (128 * r + (o + 1)) t1) (h7 : st.2.1 0 (128 * r + (o + 7)) = nI t2.length) (h8 : md_txt (st.2.1 0) (128 * r + (o + 8)) t2) (k13 : Int32 → Int32 → mT → Option mT) (x2 : Int32) : ∀ (k fu i : Nat) (s : Int32 × Int32), i + k = t1.length → k < fu → g_outTag_40 k13 fu (nI r) x2 (nI o) (nI i) (mo st s) = k13 (nI r) (x2 + 1) (mo st (o_all (st.1 58) s (t1.drop i ++ ([61, 34] ++ (a_val 34 a_qu t2 ++ [34]))))) := by
  intro k
  induction k with
  | zero =>
    intro fu i s hi hf
    obtain ⟨fu, rfl⟩ : ∃ f, fu = f + 1 := ⟨fu - 1, by omega⟩
    have e : g_f (nI r) (nI o) (mo st s) = some (nI t1.length, mo st s) := by rw [← h0]; exact mp_fo hr (by omega)
    unfold g_outTag_40
    rw [mp_bd e, if_pos (nI_le (by omega) (by omega)), mp_bd (mp_f2 (A := 61) (B := 34) 61 34 rfl rfl)]
    have := mp_tag85 hr ht2 ho hc h7 h8 k13 x2 t2.length mF 0 (o_all (st.1 58) s [61, 34]) (by omega) (by unfold mF; omega)
    rw [show (0 : Int32) = nI 0 from rfl, this, show t1.drop i = [] from List.drop_eq_nil_of_le (by omega), List.drop_zero, List.nil_append, ← o_all_app]
  | succ k ih =>
    intro fu i s hi hf
    obtain ⟨fu, rfl⟩ : ∃ f, fu = f + 1 := ⟨fu - 1, by omega⟩
    have hlt : i < t1.length := by omega
    have e : g_f (nI r) (nI o) (mo st s) = some (nI t1.length, mo st s) := by rw [← h0]; exact mp_fo hr (by omega)
    have e2 : g_f (nI r) (nI o + 1 + nI i) (mo st s) = some (nI (t1.getD i 0), mo st s) := by
      rw [show nI o + 1 + nI i = nI (o + 1 + i) by rw [nI_1, nI_add], mp_fo hr (by omega), ← Nat.add_assoc, h1 i hlt]
    unfold g_outTag_40
    rw [mp_bd e, if_neg (nI_ge (by omega) (by omega)), mp_bd e2, mp_bd (mp_out _), nI_1, ih fu (i + 1) _ (by omega) (by omega)]
    have ed : t1.drop i = t1.getD i 0 :: t1.drop (i + 1) := by
      rw [List.drop_eq_getElem_cons hlt, List.getD_eq_getElem?_getD, List.getElem?_eq_getElem hlt]
      rfl
    rw [ed]
    rfl
theorem mp_tag13 (M : md (st.2.1 0) n d D) (ok : nd_ok mk n D) {k : Nat} (hk : k < n) : ∀ (r fu i : Nat) (s : Int32 × Int32), i + r = (D k).2.2.2.2.1.length → r < fu → g_outTag_13 fu (nI (d k)) (nI i) (mo st s) = some (mo st (o_all (st.1 58) s (((D k).2.2.2.2.1.drop i).flatMap a_att))) := by
  have rw_ := M.2.2.2.2.1 k hk
  have o := ok.2 k hk
  have hd := (M.2.2.1 k hk).1
  intro r
  induction r with
  | zero =>
    intro fu i s hi hf
    obtain ⟨fu, rfl⟩ : ∃ f, fu = f + 1 := ⟨fu - 1, by omega⟩
    have e : g_f (nI (d k)) 5 (mo st s) = some (nI (D k).2.2.2.2.1.length, mo st s) := by rw [← rw_.2.2.2.2.2.1]; exact mp_fo (o := 5) hd (by decide)
    unfold g_outTag_13
    rw [mp_bd e, if_pos (nI_le (by omega) (by omega)), List.drop_eq_nil_of_le (by omega)]
    rfl
  | succ r ih =>
    intro fu i s hi hf
    obtain ⟨fu, rfl⟩ : ∃ f, fu = f + 1 := ⟨fu - 1, by omega⟩
    have hlt : i < (D k).2.2.2.2.1.length := by omega
    have e : g_f (nI (d k)) 5 (mo st s) = some (nI (D k).2.2.2.2.1.length, mo st s) := by rw [← rw_.2.2.2.2.2.1]; exact mp_fo (o := 5) hd (by decide)
    have hmem : (D k).2.2.2.2.1.getD i ([], []) ∈ (D k).2.2.2.2.1 := by
      rw [List.getD_eq_getElem?_getD, List.getElem?_eq_getElem hlt]
      exact List.getElem_mem hlt
    have hp := o.2.2.2.2.2.1 _ hmem
    obtain ⟨c1, c2, c3, c4⟩ := rw_.2.2.2.2.2.2.2.2 i hlt
    have h4 := mp_tag40 (st := st) (o := 44 + 28 * i) hd hp.1 hp.2.1 (by have := o.2.2.2.2.1; omega) hp.2.2.2 c1 (by rw [show 44 + 28 * i + 1 = 45 + 28 * i by omega]; exact c2) (by rw [show 44 + 28 * i + 7 = 51 + 28 * i by omega]; exact c3) (by rw [show 44 + 28 * i + 8 = 52 + 28 * i by omega]; exact c4) (g_outTag_13 fu) (nI i) ((D k).2.2.2.2.1.getD i ([], [])).1.length mF 0 (o_put (st.1 58) s 32) (by omega) (by unfold mF; omega)
    unfold g_outTag_13
    rw [mp_bd e, if_neg (nI_ge (by omega) (by omega)), mp_bd (mp_outI (c := 32) 32 rfl), show (44 : Int32) + 28 * nI i = nI (44 + 28 * i) by rw [show (28 : Int32) = nI 28 from rfl, mp_mul, show (44 : Int32) = nI 44 from rfl, nI_add], show (0 : Int32) = nI 0 from rfl, h4, nI_1, ih fu (i + 1) _ (by omega) (by omega)]
    have ed : (D k).2.2.2.2.1.drop i = (D k).2.2.2.2.1.getD i ([], []) :: (D k).2.2.2.2.1.drop (i + 1) := by
      rw [List.drop_eq_getElem_cons hlt, List.getD_eq_getElem?_getD, List.getElem?_eq_getElem hlt]
      rfl
    rw [ed, List.flatMap_cons, List.drop_zero]
    exact congrArg (fun q => some (mo st q)) o_all_app.symm
theorem mp_outTag (M : md (st.2.1 0) n d D) (ok : nd_ok mk n D) {k : Nat} (hk : k < n) : g_outTag (nI (d k)) (mo st s) = some (mo st (o_all (st.1 58) s (a_tag (D k)))) := by
  have o := ok.2 k hk
  unfold g_outTag
  rw [mp_bd (mp_outI (c := 60) 60 rfl), mp_bd (mp_outName M ok hk)]
  have := mp_tag13 M ok hk (D k).2.2.2.2.1.length mF 0 (o_all (st.1 58) (o_put (st.1 58) s 60) (D k).2.2.2.2.2) (by omega) (by unfold mF; omega)
  rw [show (0 : Int32) = nI 0 from rfl, this, List.drop_zero, ← o_all_app]
  rfl
theorem mp_outCom (M : md (st.2.1 0) n d D) (ok : nd_ok mk n D) {k : Nat} (hk : k < n) : g_outComment (nI (d k)) (mo st s) = some (mo st (o_all (st.1 58) s ([60, 33, 45, 45] ++ ((D k).2.2.2.2.2 ++ [45, 45, 62])))) := by
  unfold g_outComment
  rw [mp_bd (mp_f4 (A := 60) (B := 33) (C := 45) (E := 45) 60 33 45 45 rfl rfl rfl rfl (by decide) (by decide) (by decide) (by decide)), mp_bd (mp_outName M ok hk), mp_bd (mp_f3 (A := 45) (B := 45) (C := 62) 45 45 62 rfl rfl rfl (by decide) (by decide)), ← o_all_app, ← o_all_app]
end PO4
