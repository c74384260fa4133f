-- paths in the reference: the kinds of predicates; what has ended
section QQ8
variable {st0 st : mT} {xs : List Nat} {p lv nest ns np ne : Nat}
theorem rq_bpc (b : md_buf st0 xs) (hp : p ≤ xs.length) {id : Nat} (hid : id < 65) (hlv : lv < 4) (M : qM st0 st p lv nest ns np ne 3) : (a_dig (xs.getD p 0) = true → a_dig (xs.getD (p + 1) 0) = true → mq (g_bpc (nI id) st) (fun s => qM st0 s (p + 2) lv nest ns np ne 4 ∧ s.2.1 32 id = nI 0 ∧ s.2.1 33 id = nI (10 * (xs.getD p 0 - 48) + (xs.getD (p + 1) 0 - 48)) ∧ s.1 48 = st.1 48 ∧ s.1 49 = st.1 49 ∧ qSame st s (qOC id lv))) ∧ (a_dig (xs.getD p 0) = true → ¬ a_dig (xs.getD (p + 1) 0) = true → mq (g_bpc (nI id) st) (fun s => qM st0 s (p + 1) lv nest ns np ne 4 ∧ s.2.1 32 id = nI 0 ∧ s.2.1 33 id = nI (xs.getD p 0 - 48) ∧ s.1 48 = st.1 48 ∧ s.1 49 = st.1 49 ∧ qSame st s (qOC id lv))) ∧ (¬ a_dig (xs.getD p 0) = true → xs.getD p 0 = 36 → mq (g_bpc (nI id) st) (fun s => qM st0 s (p + 1) lv nest ns np ne 4 ∧ s.2.1 32 id = nI 1 ∧ s.1 48 = st.1 48 ∧ s.1 49 = st.1 49 ∧ qSame st s (qOC id lv))) ∧ (¬ a_dig (xs.getD p 0) = true → xs.getD p 0 = 64 → ∃ s4, g_bpc (nI id) st = g_attributePredicate (nI id) s4 ∧ qM st0 s4 p lv nest ns np ne 4 ∧ s4.2.1 = st.2.1 ∧ s4.1 48 = st.1 48 ∧ s4.1 49 = st.1 49) ∧ (¬ a_dig (xs.getD p 0) = true → xs.getD p 0 ≠ 36 → xs.getD p 0 ≠ 64 → mq (g_bpc (nI id) st) (fun s => qM st0 s p (lv + 1) nest ns np ne 0 ∧ s.2.1 50 (lv + 1) = nI id ∧ s.2.1 51 (lv + 1) = -1 ∧ s.1 48 = st.1 48 ∧ s.1 49 = st.1 49 ∧ qSame st s (qOC id lv))) := by
  have hl := b.2.2.1
  obtain ⟨m1, m2, m3, m4, m5, m6, m7, m8, m9⟩ := M
  have bs := m1.buf b
  have lc := getD_lt bs.2.2.2 p
  have lc1 := getD_lt bs.2.2.2 (p + 1)
  have c36 : nI (xs.getD p 0) = 36 ↔ xs.getD p 0 = 36 := nI_eq (b := 36) (by omega) (by decide)
  have c64 : nI (xs.getD p 0) = 64 ↔ xs.getD p 0 = 64 := nI_eq (b := 64) (by omega) (by decide)
  have f : ∀ k, k ≠ 47 → (mm_F st 47 4).1 k = st.1 k := fun k hk => fF_n hk
  have M4 : qM st0 (mm_F st 47 4) p lv nest ns np ne 4 := ⟨m1.F (by unfold qfld; omega), (f 8 (by decide)).trans m2, (f 9 (by decide)).trans m3, (f 24 (by decide)).trans m4, (f 31 (by decide)).trans m5, (f 43 (by decide)).trans m6, (f 45 (by decide)).trans m7, (f 46 (by decide)).trans m8, fF_s⟩
  have b4 := M4.1.buf b
  unfold g_bpc
  rw [m2, mp_look bs (by omega), Option.bind_some]
  simp only [mm_lt]
  rw [rq_dig lc, Option.bind_some]
  simp only []
  have e48 : nI (xs.getD p 0) - 48 = nI (xs.getD p 0 - 48) ∨ xs.getD p 0 < 48 := by
    rcases Nat.lt_or_ge (xs.getD p 0) 48 with h | h
    · exact Or.inr h
    · exact Or.inl (by rw [show (48 : Int32) = nI 48 from rfl, nI_sub h])
  have f48 : (mm_F st 47 4).1 48 = st.1 48 := f 48 (by decide)
  have f49 : (mm_F st 47 4).1 49 = st.1 49 := f 49 (by decide)
  have fA : (mm_F st 47 4).2.1 = st.2.1 := rfl
  generalize mm_F st 47 4 = s4 at M4 b4 f48 f49 fA
  obtain ⟨n1, n2, n3, n4, n5, n6, n7, n8, n9⟩ := M4
  have e209 : ∀ (x3 v : Int32) (d : Nat), ((x3 = 0 ∧ d = 1) ∨ (x3 ≠ 0 ∧ d = 2)) → mq (g_beginPredicate_209 x3 v (nI id) (mm_G s4 32 id 0)) (fun s => qM st0 s (p + d) lv nest ns np ne 4 ∧ s.2.1 32 id = nI 0 ∧ s.2.1 33 id = v ∧ s.1 48 = st.1 48 ∧ s.1 49 = st.1 49 ∧ qSame st s (qOC id lv)) := fun x3 v d hd => by
    have fin : ∀ x : Int32, nI p + x = nI (p + d) → mq (g_beginPredicate_224 x (nI p) (mm_G (mm_G s4 32 id 0) 33 id v)) (fun s => qM st0 s (p + d) lv nest ns np ne 4 ∧ s.2.1 32 id = nI 0 ∧ s.2.1 33 id = v ∧ s.1 48 = st.1 48 ∧ s.1 49 = st.1 49 ∧ qSame st s (qOC id lv)) := fun x hx => by
      unfold g_beginPredicate_224
      have g : ∀ k, k ≠ 8 → (mm_F (mm_G (mm_G s4 32 id 0) 33 id v) 8 (nI p + x)).1 k = s4.1 k := fun k hk => fF_n hk
      refine mq_some ⟨⟨((n1.G (by unfold qarr; omega)).G (by unfold qarr; omega)).F (by unfold qfld; omega), fF_s.trans hx, (g 9 (by decide)).trans n3, (g 24 (by decide)).trans n4, (g 31 (by decide)).trans n5, (g 43 (by decide)).trans n6, (g 45 (by decide)).trans n7, (g 46 (by decide)).trans n8, (g 47 (by decide)).trans n9⟩, ?_, fG_s (st := mm_G s4 32 id 0) (a := 33), (g 48 (by decide)).trans f48, (g 49 (by decide)).trans f49, fun a i h => ?_⟩
      · show (mm_G (mm_G s4 32 id 0) 33 id v).2.1 32 id = _
        rw [fG_n (by decide), fG_s]
        rfl
      · unfold qOC at h
        show (mm_G (mm_G s4 32 id 0) 33 id v).2.1 a i = _
        rw [fG_c (by omega), fG_c (by omega), fA]
    unfold g_beginPredicate_209
    rw [mp_ix hid (by decide)]
    simp only [mm_lt]
    rw [show (mm_G (mm_G s4 32 id 0) 33 id v).1 8 = nI p from n2]
    rcases hd with ⟨h1, h2⟩ | ⟨h1, h2⟩
    · rw [if_pos h1]
      exact fin 1 (by rw [h2, nI_1])
    · rw [if_neg h1]
      exact fin 2 (by rw [h2]; exact nI_add _ 2)
  refine ⟨fun d1 d2 => ?_, fun d1 d2 => ?_, fun d1 h => ?_, fun d1 h => ?_, fun d1 h1 h2 => ?_⟩
  · have r1 : 48 ≤ xs.getD p 0 := by unfold a_dig at d1; exact (of_decide_eq_true d1).1
    have r2 : 48 ≤ xs.getD (p + 1) 0 := by unfold a_dig at d2; exact (of_decide_eq_true d2).1
    rw [if_pos d1, if_neg (show ¬ (1 : Int32) = 0 by decide), n2, nI_1, mp_look b4 (by omega), Option.bind_some]
    simp only []
    rw [rq_dig lc1, Option.bind_some, if_pos d2]
    simp only []
    rw [mp_ix hid (by decide), if_neg (show ¬ (1 : Int32) = 0 by decide), show (mm_G s4 32 id 0).1 8 = nI p from n2, nI_1, mp_look ((n1.G (a := 32) (i := id) (v := 0) (by unfold qarr; omega)).buf b) (by omega), Option.bind_some]
    have ev : 10 * (nI (xs.getD p 0) - 48) + nI (xs.getD (p + 1) 0) - 48 = nI (10 * (xs.getD p 0 - 48) + (xs.getD (p + 1) 0 - 48)) := by
      rw [e48.resolve_right (by omega), show (10 : Int32) = nI 10 from rfl, mp_mul, nI_add, show (48 : Int32) = nI 48 from rfl, nI_sub (by omega)]
      congr 1
      omega
    simp only []
    rw [ev]
    exact e209 1 _ 2 (Or.inr ⟨by decide, rfl⟩)
  · have r1 : 48 ≤ xs.getD p 0 := by unfold a_dig at d1; exact (of_decide_eq_true d1).1
    rw [if_pos d1, if_neg (show ¬ (1 : Int32) = 0 by decide), n2, nI_1, mp_look b4 (by omega), Option.bind_some]
    simp only []
    rw [rq_dig lc1, Option.bind_some, if_neg d2]
    simp only []
    rw [mp_ix hid (by decide), if_pos trivial, e48.resolve_right (by omega)]
    exact e209 0 _ 1 (Or.inl ⟨rfl, rfl⟩)
  · rw [if_neg d1, if_pos rfl, if_pos (c36.mpr h), mp_ix hid (by decide), show (mm_G s4 32 id 1).1 8 = nI p from n2, nI_1]
    have g : ∀ k, k ≠ 8 → (mm_F (mm_G s4 32 id 1) 8 (nI (p + 1))).1 k = s4.1 k := fun k hk => fF_n hk
    refine mq_some ⟨⟨(n1.G (by unfold qarr; omega)).F (by unfold qfld; omega), fF_s, (g 9 (by decide)).trans n3, (g 24 (by decide)).trans n4, (g 31 (by decide)).trans n5, (g 43 (by decide)).trans n6, (g 45 (by decide)).trans n7, (g 46 (by decide)).trans n8, (g 47 (by decide)).trans n9⟩, fG_s (st := s4) (a := 32), (g 48 (by decide)).trans f48, (g 49 (by decide)).trans f49, fun a i h => ?_⟩
    unfold qOC at h
    show (mm_G s4 32 id 1).2.1 a i = _
    rw [fG_c (by omega), fA]
  · refine ⟨s4, ?_, ⟨n1, n2, n3, n4, n5, n6, n7, n8, n9⟩, fA, f48, f49⟩
    rw [if_neg d1, if_pos rfl, if_neg (fun w => by have := c36.mp w; omega), if_pos (c64.mpr h), bind_id]
  · rw [if_neg d1, if_pos rfl, if_neg (fun w => h1 (c36.mp w)), if_neg (fun w => h2 (c64.mp w)), n7, nI_1, show (mm_F s4 45 (nI (lv + 1))).1 45 = nI (lv + 1) from fF_s, mp_ix (by omega) (by decide), show (mm_G (mm_F s4 45 (nI (lv + 1))) 50 (lv + 1) (nI id)).1 45 = nI (lv + 1) from fF_s (st := s4) (k := 45), mp_ix (by omega) (by decide)]
    have g : ∀ k, k ≠ 45 → k ≠ 47 → (mm_F (mm_G (mm_G (mm_F s4 45 (nI (lv + 1))) 50 (lv + 1) (nI id)) 51 (lv + 1) (-1)) 47 0).1 k = s4.1 k := fun k h1 h2 => (fF_n h2).trans (fF_n (st := s4) h1)
    refine mq_some ⟨⟨(((n1.F (by unfold qfld; omega)).G (by unfold qarr; omega)).G (by unfold qarr; omega)).F (by unfold qfld; omega), (g 8 (by decide) (by decide)).trans n2, (g 9 (by decide) (by decide)).trans n3, (g 24 (by decide) (by decide)).trans n4, (g 31 (by decide) (by decide)).trans n5, (g 43 (by decide) (by decide)).trans n6, (fF_n (by decide)).trans (fF_s (st := s4) (k := 45)), (g 46 (by decide) (by decide)).trans n8, fF_s⟩, ?_, fG_s (st := mm_G (mm_F s4 45 (nI (lv + 1))) 50 (lv + 1) (nI id)) (a := 51), (g 48 (by decide) (by decide)).trans f48, (g 49 (by decide) (by decide)).trans f49, fun a i h => ?_⟩
    · show (mm_G (mm_G (mm_F s4 45 (nI (lv + 1))) 50 (lv + 1) (nI id)) 51 (lv + 1) (-1)).2.1 50 (lv + 1) = _
      rw [fG_n (by decide)]
      exact fG_s (st := mm_F s4 45 (nI (lv + 1))) (a := 50)
    · unfold qOC at h
      show (mm_G (mm_G (mm_F s4 45 (nI (lv + 1))) 50 (lv + 1) (nI id)) 51 (lv + 1) (-1)).2.1 a i = _
      rw [fG_c (by omega)]
      exact (fG_c (st := mm_F s4 45 (nI (lv + 1))) (by omega)).trans (by rw [← fA]; rfl)
end QQ8
/-- the numbers of the paths in predicates, in the order of their ends -/
def eCh {α : Type} (c : α → Nat × Nat) (e : Nat → α → List Nat) : Nat → List α → List Nat
  | _, [] => []
  | bp, x :: l => e bp x ++ eCh c e (bp + (c x).2) l
theorem eCh_snoc {α : Type} {c : α → Nat × Nat} {e : Nat → α → List Nat} : ∀ (l : List α) (x : α) (bp : Nat), eCh c e bp (l ++ [x]) = eCh c e bp l ++ e (bp + (sm c l).2) x := by
  intro l
  induction l with
  | nil => intro x bp; show e bp x ++ [] = [] ++ e (bp + 0) x; rw [List.append_nil, List.nil_append, Nat.add_zero]
  | cons y l ih =>
    intro x bp
    show e bp y ++ eCh c e (bp + (c y).2) (l ++ [x]) = (e bp y ++ eCh c e (bp + (c y).2) l) ++ e (bp + ((c y).2 + (sm c l).2)) x
    rw [ih, List.append_assoc, Nat.add_assoc]
def eS {α : Type} (c : α → Nat × Nat) (e : Nat → α → List Nat) (bp : Nat) (s : Nat × Nat × List Nat × List α) : List Nat := eCh c e bp s.2.2.2
def eP : (N : Nat) → Nat → qPr N → List Nat
  | 0, _, _ => []
  | N + 1, bp, pr => eCh (cst (qc N)) (eS (qc N) (eP N)) (bp + 1) pr.2.2.2.2.2.2 ++ (if 4 ≤ pr.2.1 then [bp] else [])
theorem eCh_len {α : Type} {c : α → Nat × Nat} {e : Nat → α → List Nat} (h : ∀ bp x, (e bp x).length ≤ (c x).2) : ∀ (l : List α) (bp : Nat), (eCh c e bp l).length ≤ (sm c l).2 := by
  intro l
  induction l with
  | nil => intro bp; exact Nat.le_refl _
  | cons y l ih =>
    intro bp
    show (e bp y ++ eCh c e (bp + (c y).2) l).length ≤ (c y).2 + (sm c l).2
    rw [List.length_append]
    have := h bp y
    have := ih (bp + (c y).2)
    omega
theorem eP_len : ∀ (N bp : Nat) (pr : qPr N), (eP N bp pr).length ≤ (qc N pr).2 := by
  intro N
  induction N with
  | zero => intro bp pr; exact Nat.zero_le _
  | succ N ih =>
    intro bp pr
    have h := eCh_len (c := cst (qc N)) (e := eS (qc N) (eP N)) (fun bp s => eCh_len ih s.2.2.2 bp) pr.2.2.2.2.2.2 (bp + 1)
    show (eCh (cst (qc N)) (eS (qc N) (eP N)) (bp + 1) pr.2.2.2.2.2.2 ++ (if 4 ≤ pr.2.1 then [bp] else [])).length ≤ 1 + (sm (cst (qc N)) pr.2.2.2.2.2.2).2
    rw [List.length_append]
    split
    · simp; omega
    · simp; omega
def rE (G : aT) (ne : Nat) (E : List Nat) : Prop := ∀ i, i < E.length → G 44 (ne + i) = nI (E.getD i 0)
theorem rE.app {G : aT} {ne : Nat} {E F : List Nat} (h : rE G ne E) (g : rE G (ne + E.length) F) : rE G ne (E ++ F) := fun i hi => by
  rw [List.length_append] at hi
  by_cases q : i < E.length
  · rw [getD_left q]; exact h i q
  · rw [getD_app (by omega)]
    have := g (i - E.length) (by omega)
    rw [show ne + E.length + (i - E.length) = ne + i by omega] at this
    exact this
theorem rE.cg {G G2 : aT} {ne : Nat} {E : List Nat} (h : rE G ne E) (g : ∀ i, ne ≤ i → i < ne + E.length → G2 44 i = G 44 i) : rE G2 ne E := fun i hi => by rw [g _ (by omega) (by omega)]; exact h i hi
-- paths in the reference: predicates are read
def q_prc {α : Type} (xs : List Nat) (PR : Nat → Nat ⊕ (Nat × α)) (p : Nat) : Nat ⊕ (Nat × α) := match PR p with
  | .inl e => .inl e
  | .inr (q, pr) => if xs.getD q 0 = 93 then .inr (q + 1, pr) else .inl q
def lpo {α : Type} (c : α → Nat × Nat) (j : Nat × Nat → Nat) (b : Nat × Nat) (l : List α) : Option Nat := match l with
  | [] => none
  | y :: t => some (j (b.1 + (sm c (y :: t).dropLast).1, b.2 + (sm c (y :: t).dropLast).2))
theorem lpo_snoc {α : Type} {c : α → Nat × Nat} {j : Nat × Nat → Nat} {b : Nat × Nat} {l : List α} {x : α} : lpo c j b (l ++ [x]) = some (j (b.1 + (sm c l).1, b.2 + (sm c l).2)) := by
  have e : (l ++ [x]).dropLast = l := List.dropLast_concat
  cases l with
  | nil => rfl
  | cons y l =>
    show some (j (b.1 + (sm c ((y :: l) ++ [x]).dropLast).1, b.2 + (sm c ((y :: l) ++ [x]).dropLast).2)) = _
    rw [e]
def oI (o : Option Nat) : Int32 := match o with
  | some l => nI l
  | none => -1
/-- what reading a predicate changes -/
def chP (lv ns np ne ls : Nat) (lp : Option Nat) (a i : Nat) : Prop := (25 ≤ a ∧ a ≤ 30 ∧ ns ≤ i) ∨ (32 ≤ a ∧ a ≤ 41 ∧ np ≤ i) ∨ (a = 39 ∧ lp = some i) ∨ (a = 29 ∧ lp = none ∧ i = ls) ∨ (a = 44 ∧ ne ≤ i) ∨ (a = 52 ∧ i = lv) ∨ ((a = 50 ∨ a = 51 ∨ a = 52) ∧ lv < i)
def chT (lv ns np ne ow : Nat) (a i : Nat) : Prop := (25 ≤ a ∧ a ≤ 30 ∧ ns ≤ i) ∨ (32 ≤ a ∧ a ≤ 41 ∧ np ≤ i) ∨ ((a = 38 ∨ a = 41) ∧ lv ≠ 0 ∧ i = ow) ∨ (a = 44 ∧ ne ≤ i) ∨ ((a = 51 ∨ a = 52) ∧ i = lv) ∨ ((a = 50 ∨ a = 51 ∨ a = 52) ∧ lv < i)
/-- what stands there behind a predicate, and behind a path -/
def pRes (xs : List Nat) (st0 st s : mT) (N lv ns np ne ls : Nat) (lp : Option Nat) (pr : qPr N) : Prop := rP1 xs s.2.1 N ns np pr ∧ s.2.1 39 np = -1 ∧ s.2.1 52 lv = nI np ∧ qPL s ls lp np ∧ rE s.2.1 ne (eP N np pr) ∧ s.1 48 = st.1 48 ∧ s.1 49 = st.1 49 ∧ qSame st s (chP lv ns np ne ls lp)
def hLk (s : mT) (lv ow : Nat) (h : Int32) (v : Int32) : Prop := if lv = 0 then s.1 48 = h ∧ s.1 49 = v else s.2.1 38 ow = h ∧ s.2.1 41 ow = v
def tRes (xs : List Nat) (st s : mT) (N lv ns np ne ow : Nat) (pt : qPt N) : Prop := rCh (rS1 (rP1 xs s.2.1 N) (qc N) xs s.2.1) (cst (qc N)) s.2.1 30 j1 (-1) ns np pt.2 ∧ pt.2 ≠ [] ∧ hLk s lv ow (nI ns) (bI pt.1) ∧ (lv ≠ 0 → s.1 48 = st.1 48 ∧ s.1 49 = st.1 49) ∧ rE s.2.1 ne (eCh (cst (qc N)) (eS (qc N) (eP N)) np pt.2) ∧ qSame st s (chT lv ns np ne ow)
def qImpP (xs : List Nat) (st0 : mT) (Q : mT → Prop) (N : Nat) (PR : Nat → Nat ⊕ (Nat × qPr N)) : Prop := ∀ p lv ns np ne st fu ls lp, p ≤ xs.length → lv + N = 3 → qM st0 st p lv (lv + 1) ns np ne 3 → st.2.1 51 lv = nI ls → ls < ns → st.2.1 52 lv = oI lp → (∀ l, lp = some l → l < np) → ns ≤ p → 2 * np + 1 ≤ p → ne ≤ np → 4 * xs.length + 7 ≤ 4 * p + fu → (∀ e s, q_prc xs PR p = .inl e → qFr st0 s → s.1 9 = nI e → Q s) → (∀ q pr s fu2, q_prc xs PR p = .inr (q, pr) → p < q → q ≤ xs.length → qM st0 s q lv lv (ns + (qc N pr).1) (np + (qc N pr).2) (ne + (eP N np pr).length) 2 → pRes xs st0 st s N lv ns np ne ls lp pr → ns + (qc N pr).1 ≤ q → 2 * (np + (qc N pr).2) ≤ q → 4 * xs.length + 8 ≤ 4 * q + fu2 → mq (g_readPath_52 fu2 s) Q) → mq (g_readPath_52 fu st) Q
def qImpT (xs : List Nat) (st0 : mT) (Q : mT → Prop) (N : Nat) (PT : Nat → Nat ⊕ (Nat × qPt N)) : Prop := ∀ p lv ns np ne st fu ow, p ≤ xs.length → lv + N = 3 → qM st0 st p lv lv ns np ne 0 → (lv ≠ 0 → st.2.1 50 lv = nI ow ∧ ow < np) → st.2.1 51 lv = -1 → ns ≤ p → 2 * np ≤ p + 1 → ne ≤ np → 4 * xs.length + 6 ≤ 4 * p + fu → (∀ e s, PT p = .inl e → qFr st0 s → s.1 9 = nI e → Q s) → (∀ q pt s fu2, PT p = .inr (q, pt) → p < q → q ≤ xs.length → xs.getD q 0 ≠ 91 → xs.getD q 0 ≠ 47 → qM st0 s q lv lv (ns + (sm (cst (qc N)) pt.2).1) (np + (sm (cst (qc N)) pt.2).2) (ne + (eCh (cst (qc N)) (eS (qc N) (eP N)) np pt.2).length) 2 → tRes xs st s N lv ns np ne ow pt → ns + (sm (cst (qc N)) pt.2).1 ≤ q → 2 * (np + (sm (cst (qc N)) pt.2).2) ≤ q → 4 * xs.length + 8 ≤ 4 * q + fu2 → mq (g_readPath_52 fu2 s) Q) → mq (g_readPath_52 fu st) Q
section QQ9
variable {st0 : mT} {xs : List Nat} {Q : mT → Prop}
theorem qSame.tr {a b c : mT} {ch ch2 ch3 : Nat → Nat → Prop} (h : qSame a b ch) (g : qSame b c ch2) (h1 : ∀ x i, ch x i → ch3 x i) (h2 : ∀ x i, ch2 x i → ch3 x i) : qSame a c ch3 := fun x i k => (g x i (fun w => k (h2 x i w))).trans (h x i (fun w => k (h1 x i w)))
theorem qPC_chP {lv ns np ne ls : Nat} {lp : Option Nat} {a i : Nat} (w : qPC lv ls lp np a i) : chP lv ns np ne ls lp a i := by
  rcases w with w | w | w | w | w
  · exact Or.inr (Or.inl ⟨w.1, w.2.1, by omega⟩)
  · exact Or.inr (Or.inr (Or.inl w))
  · exact Or.inr (Or.inr (Or.inr (Or.inl w)))
  · exact Or.inr (Or.inr (Or.inr (Or.inr (Or.inr (Or.inl w)))))
  · exact Or.inr (Or.inr (Or.inr (Or.inr (Or.inr (Or.inr ⟨by omega, by omega⟩)))))
theorem qOC_chP {lv ns np ne ls : Nat} {lp : Option Nat} {a i : Nat} (w : qOC np lv a i) : chP lv ns np ne ls lp a i := by
  rcases w with w | w
  · exact Or.inr (Or.inl ⟨by omega, by omega, by omega⟩)
  · exact Or.inr (Or.inr (Or.inr (Or.inr (Or.inr (Or.inr ⟨by omega, by omega⟩)))))
theorem chT_chP {lv ns np ne ls : Nat} {lp : Option Nat} {a i : Nat} (w : chT (lv + 1) ns (np + 1) ne np a i) : chP lv ns np ne ls lp a i := by
  rcases w with w | w | w | w | w | w
  · exact Or.inl w
  · exact Or.inr (Or.inl ⟨by omega, by omega, by omega⟩)
  · exact Or.inr (Or.inl ⟨by omega, by omega, by omega⟩)
  · exact Or.inr (Or.inr (Or.inr (Or.inr (Or.inl w))))
  · exact Or.inr (Or.inr (Or.inr (Or.inr (Or.inr (Or.inr ⟨by omega, by omega⟩)))))
  · exact Or.inr (Or.inr (Or.inr (Or.inr (Or.inr (Or.inr ⟨by omega, by omega⟩)))))
/-- from a path to the predicate that has it -/
theorem rq_prd (b : md_buf st0 xs) {N : Nat} {PT : Nat → Nat ⊕ (Nat × qPt N)} (hT : qImpT xs st0 Q N PT) : qImpP xs st0 Q (N + 1) (q_prd xs PT) := by
  have hl := b.2.2.1
  intro p lv ns np ne st fu ls lp hp hN M h51 hls h52 hlp hns hnp hne hfu kE kR
  obtain ⟨fu, rfl⟩ : ∃ f, fu = f + 1 := ⟨fu - 1, by omega⟩
  have t1 := rq_turn (fu := fu) M (Or.inl (by decide)) b (by decide) (by omega) hp
  have t2 := (rq_85 (k52 := g_readPath_52 fu) M).2.2.2.1 rfl
  obtain ⟨s1, a1, a2, a3, a4, a5, a6, a7, a8, a9⟩ := rq_phd b hp (by omega) (by omega) (by omega) M h51 hls (by rw [h52]; cases lp <;> rfl) hlp
  have sp := q_bng_sp (xs := xs) 130 p false hp (by omega)
  rw [t1, t2, a1]
  have C := rq_bpc b sp.2.1 (id := np) (by omega) (by omega) a2
  -- behind a simple predicate
  have simple : ∀ (wh q : Nat) (pr : qPr (N + 1)) (s : mT), pr.2.1 = wh → q_prd xs PT p = .inr (q, pr) → (q_bng xs 130 p false).1 < q → q ≤ xs.length → pr.2.2.2.2.2.2 = [] → wh < 4 → qM st0 s q lv (lv + 1) ns (np + 1) ne 4 → s.1 48 = s1.1 48 → s.1 49 = s1.1 49 → qSame s1 s (qOC np lv) → s.2.1 32 np = nI pr.2.1 → bI pr.1 = bI (q_bng xs 130 p false).2 → (wh = 0 → s.2.1 33 np = nI pr.2.2.1 ∧ pr.2.2.1 < 100) → (wh = 2 ∨ wh = 3 → rTx xs (s.2.1 34 np) (s.2.1 35 np) pr.2.2.2.1) → (wh = 3 → rTx xs (s.2.1 36 np) (s.2.1 37 np) pr.2.2.2.2.1) → mq (g_readPath_52 fu s) Q := fun wh q pr s ewh ep l1 l2 e0 e4 N4 g48 g49 gS v32 v40 v33 v34 v36 => by
    obtain ⟨fu, rfl⟩ : ∃ f, fu = f + 1 := ⟨fu - 1, by omega⟩
    have cq : qc (N + 1) pr = (0, 1) := by show ((sm (cst (qc N)) pr.2.2.2.2.2.2).1, 1 + (sm (cst (qc N)) pr.2.2.2.2.2.2).2) = _; rw [e0]; rfl
    have ce : eP (N + 1) np pr = [] := by show eCh (cst (qc N)) (eS (qc N) (eP N)) (np + 1) pr.2.2.2.2.2.2 ++ (if 4 ≤ pr.2.1 then [np] else []) = _; rw [e0, if_neg (by omega)]; rfl
    have u1 := rq_turn (fu := fu) N4 (Or.inl (by decide)) b (by decide) (by omega) l2
    rw [u1]
    have CL := rq_close (k52 := g_readPath_52 fu) (Q := Q) b l2 (by omega) (by omega) N4
    unfold q_prc at kE kR
    rw [ep] at kE kR
    simp only [] at kE kR
    by_cases q93 : xs.getD q 0 = 93
    · have := getD_pos q93 (by decide)
      rw [if_pos q93] at kR
      refine CL.2 q93 (fun s2 N2 A2 h48 h49 => ?_)
      rw [show lv + 1 - 1 = lv by omega] at N2
      refine kR (q + 1) pr s2 fu rfl (by omega) (by omega) ?_ ⟨?_, ?_, ?_, ?_, ?_, ?_, ?_, ?_⟩ (by rw [cq]; omega) (by rw [cq]; simp only []; omega) (by omega)
      · rw [cq, ce]; exact N2
      · refine ⟨?_, by rw [A2]; exact v32, by omega, fun w => by rw [A2]; exact v33 (by omega), fun w => by rw [A2]; exact v34 (by omega), fun w => by rw [A2]; exact v36 (by omega), fun _ => e0, fun w => by omega⟩
        rw [A2, gS 40 np (by unfold qOC; omega), a3, v40]
      · rw [A2, gS 39 np (by unfold qOC; omega)]; exact a4
      · rw [A2, gS 52 lv (by unfold qOC; omega)]; exact a5
      · unfold qPL at a6 ⊢
        cases lp with
        | some l =>
          have := hlp l rfl
          simp only [] at a6 ⊢
          rw [A2, gS 39 l (by unfold qOC; omega)]; exact a6
        | none =>
          simp only [] at a6 ⊢
          rw [A2, gS 29 ls (by unfold qOC; omega)]; exact a6
      · rw [ce]; exact fun i hi => absurd hi (by simp)
      · exact h48.trans (g48.trans a7)
      · exact h49.trans (g49.trans a8)
      · intro a i h
        rw [A2, gS a i (fun w => h (qOC_chP w))]
        exact a9 a i (fun w => h (qPC_chP w))
    · rw [if_neg q93] at kE
      refine CL.1 q93 (fun s2 F2 h9 => ?_)
      exact rq_stopQ (e := q) (by omega) (by omega) h9 (kE q s2 rfl F2 h9)
  have bad : ∀ (e : Nat) (s : mT), q_prd xs PT p = .inl e → e ≤ xs.length → qFr st0 s → s.1 9 = nI e → mq (g_readPath_52 fu s) Q := fun e s ep le F2 h9 => by
    unfold q_prc at kE
    rw [ep] at kE
    exact rq_stopQ (e := e) (by omega) (by omega) h9 (kE e s rfl F2 h9)
  have ef : q_prd xs PT p = (if a_dig (xs.getD (q_bng xs 130 p false).1 0) = true then (if a_dig (xs.getD ((q_bng xs 130 p false).1 + 1) 0) = true then .inr ((q_bng xs 130 p false).1 + 2, ((q_bng xs 130 p false).2, 0, 10 * (xs.getD (q_bng xs 130 p false).1 0 - 48) + (xs.getD ((q_bng xs 130 p false).1 + 1) 0 - 48), [], [], false, [])) else .inr ((q_bng xs 130 p false).1 + 1, ((q_bng xs 130 p false).2, 0, xs.getD (q_bng xs 130 p false).1 0 - 48, [], [], false, []))) else if xs.getD (q_bng xs 130 p false).1 0 = 36 then .inr ((q_bng xs 130 p false).1 + 1, ((q_bng xs 130 p false).2, 1, 0, [], [], false, [])) else if xs.getD (q_bng xs 130 p false).1 0 = 64 then (if a_let xs ((q_bng xs 130 p false).1 + 1) = 0 then .inl ((q_bng xs 130 p false).1 + 1) else if xs.getD ((q_bng xs 130 p false).1 + 1 + a_let xs ((q_bng xs 130 p false).1 + 1)) 0 = 61 then (match q_str xs ((q_bng xs 130 p false).1 + 1 + a_let xs ((q_bng xs 130 p false).1 + 1) + 1) with
      | .inl e => .inl e
      | .inr (q, s) => .inr (q, ((q_bng xs 130 p false).2, 3, 0, (xs.drop ((q_bng xs 130 p false).1 + 1)).take (a_let xs ((q_bng xs 130 p false).1 + 1)), s, false, []))) else .inr ((q_bng xs 130 p false).1 + 1 + a_let xs ((q_bng xs 130 p false).1 + 1), ((q_bng xs 130 p false).2, 2, 0, (xs.drop ((q_bng xs 130 p false).1 + 1)).take (a_let xs ((q_bng xs 130 p false).1 + 1)), [], false, []))) else match PT (q_bng xs 130 p false).1 with
    | .inl e => .inl e
    | .inr (q, pt) => if xs.getD q 0 = 61 ∨ xs.getD q 0 = 126 then (match q_str xs (q + 1) with
      | .inl e => .inl e
      | .inr (q2, s) => .inr (q2, ((q_bng xs 130 p false).2, (if xs.getD q 0 = 61 then 5 else 6), 0, [], s, pt.1, pt.2))) else .inr (q, ((q_bng xs 130 p false).2, 4, 0, [], [], pt.1, pt.2))) := rfl
  generalize hpp : (q_bng xs 130 p false).1 = p1 at *
  generalize hnn : (q_bng xs 130 p false).2 = neg at *
  obtain ⟨sp1, sp2, sp3⟩ := sp
  refine mq_bind ?_
  by_cases d1 : a_dig (xs.getD p1 0) = true
  · have h57 : xs.getD p1 0 ≤ 57 ∧ 48 ≤ xs.getD p1 0 := by unfold a_dig at d1; have := of_decide_eq_true d1; omega
    have l1 := getD_pos (rfl : xs.getD p1 0 = xs.getD p1 0) (by omega)
    rw [if_pos d1] at ef
    by_cases d2 : a_dig (xs.getD (p1 + 1) 0) = true
    · have h57' : xs.getD (p1 + 1) 0 ≤ 57 ∧ 48 ≤ xs.getD (p1 + 1) 0 := by unfold a_dig at d2; have := of_decide_eq_true d2; omega
      have l2 := getD_pos (rfl : xs.getD (p1 + 1) 0 = xs.getD (p1 + 1) 0) (by omega)
      rw [if_pos d2] at ef
      obtain ⟨s, c1, c2, c3, c4, c5, c6, c7⟩ := C.1 d1 d2
      exact ⟨s, c1, simple 0 _ _ s rfl ef (by omega) (by omega) rfl (by decide) c2 c5 c6 c7 c3 rfl (fun _ => ⟨c4, by show 10 * _ + _ < 100; omega⟩) (fun w => absurd w (by decide)) (fun w => absurd w (by decide))⟩
    · rw [if_neg d2] at ef
      obtain ⟨s, c1, c2, c3, c4, c5, c6, c7⟩ := C.2.1 d1 d2
      exact ⟨s, c1, simple 0 _ _ s rfl ef (by omega) (by omega) rfl (by decide) c2 c5 c6 c7 c3 rfl (fun _ => ⟨c4, by show _ - 48 < 100; omega⟩) (fun w => absurd w (by decide)) (fun w => absurd w (by decide))⟩
  rw [if_neg d1] at ef
  by_cases d36 : xs.getD p1 0 = 36
  · have l1 := getD_pos d36 (by decide)
    rw [if_pos d36] at ef
    obtain ⟨s, c1, c2, c3, c5, c6, c7⟩ := C.2.2.1 d1 d36
    exact ⟨s, c1, simple 1 _ _ s rfl ef (by omega) (by omega) rfl (by decide) c2 c5 c6 c7 c3 rfl (fun w => absurd w (by decide)) (fun w => absurd w (by decide)) (fun w => absurd w (by decide))⟩
  rw [if_neg d36] at ef
  by_cases d64 : xs.getD p1 0 = 64
  · have l1 := getD_pos d64 (by decide)
    rw [if_pos d64] at ef
    obtain ⟨s4, c1, c2, c3, c4, c5⟩ := C.2.2.2.1 d1 d64
    rw [c1]
    have A := rq_attr b l1 (id := np) (by omega) c2
    have lle := a_let_le (xs := xs) (p := p1 + 1) (by omega)
    by_cases n0 : a_let xs (p1 + 1) = 0
    · rw [if_pos n0] at ef
      obtain ⟨s, x1, x2, x3⟩ := A.1 n0
      exact ⟨s, x1, bad _ s ef (by omega) x2 x3⟩
    · rw [if_neg n0] at ef
      have A2 := A.2 n0
      have sm4 : ∀ s : mT, qSame s4 s (qOC np lv) → qSame s1 s (qOC np lv) := fun s h a i k => by rw [h a i k, c3]
      by_cases q61 : xs.getD (p1 + 1 + a_let xs (p1 + 1)) 0 = 61
      · rw [if_pos q61] at ef
        cases es : q_str xs (p1 + 1 + a_let xs (p1 + 1) + 1) with
        | inl e =>
          rw [es] at ef
          obtain ⟨le, s, x1, x2, x3⟩ := (A2.2 q61).1 e es
          exact ⟨s, x1, bad e s ef le x2 x3⟩
        | inr r =>
          obtain ⟨q, t⟩ := r
          rw [es] at ef
          obtain ⟨g1, g2, s, x1, x2, x3, x4, x5, x6, x7, x8⟩ := (A2.2 q61).2 q t es
          exact ⟨s, x1, simple 3 _ _ s rfl ef g1 g2 rfl (by decide) x2 (x6.trans c4) (x7.trans c5) (sm4 s x8) x3 rfl (fun w => absurd w (by decide)) (fun _ => x4) (fun _ => x5)⟩
      · rw [if_neg q61] at ef
        obtain ⟨s, x1, x2, x3, x4, x6, x7, x8⟩ := A2.1 q61
        exact ⟨s, x1, simple 2 _ _ s rfl ef (by omega) (by omega) rfl (by decide) x2 (x6.trans c4) (x7.trans c5) (sm4 s x8) x3 rfl (fun w => absurd w (by decide)) (fun _ => x4) (fun w => absurd w (by decide))⟩
  rw [if_neg d64] at ef
  obtain ⟨s, c1, c2, c3, c4, c5, c6, c7⟩ := C.2.2.2.2 d1 d36 d64
  refine ⟨s, c1, ?_⟩
  refine hT p1 (lv + 1) ns (np + 1) ne s fu np sp2 (by omega) c2 (fun _ => ⟨c3, by omega⟩) c4 (by omega) (by omega) (by omega) (by omega) (fun e s2 ep F2 h9 => ?_) (fun q pt s2 fu2 ep l1 l2 n91 n47 M2 R2 b1 b2 hf2 => ?_)
  · rw [ep] at ef
    unfold q_prc at kE
    rw [ef] at kE
    exact kE e s2 rfl F2 h9
  · rw [ep] at ef
    simp only [] at ef
    obtain ⟨fu2, rfl⟩ : ∃ f, fu2 = f + 1 := ⟨fu2 - 1, by omega⟩
    obtain ⟨r1, r2, r3, r4, r5, r6⟩ := R2
    have cE := eCh_len (c := cst (qc N)) (e := eS (qc N) (eP N)) (fun bp s => eCh_len (eP_len N) s.2.2.2 bp) pt.2 (np + 1)
    unfold hLk at r3
    rw [if_neg (by omega)] at r3
    have s250 : s2.2.1 50 (lv + 1) = nI np := by rw [r6 50 (lv + 1) (by unfold chT; omega)]; exact c3
    have u1 := rq_turn (fu := fu2) M2 (Or.inr (Or.inl (by omega))) b (by decide) (by omega) l2
    have u2 := (rq_85 (k52 := g_readPath_52 fu2) M2).2.2.1 rfl
    have BH := rq_behind b l2 (by omega) (by omega) M2 (ow := np) (fun _ => ⟨s250, by omega⟩) (by omega)
    rw [u1, u2]
    -- the predicate's cells behind the path's end
    have cl : ∀ (s3 : mT) (q2 wh : Nat) (str : List Nat), q_prd xs PT p = .inr (q2, (neg, wh, 0, [], str, pt.1, pt.2)) → 4 ≤ wh → wh < 7 → q ≤ q2 → q2 ≤ xs.length → 4 * xs.length + 5 ≤ 4 * q2 + fu2 → qM st0 s3 q2 lv (lv + 1) (ns + (sm (cst (qc N)) pt.2).1) (np + 1 + (sm (cst (qc N)) pt.2).2) (ne + (eCh (cst (qc N)) (eS (qc N) (eP N)) (np + 1) pt.2).length + 1) 4 → s3.2.1 32 np = nI wh → (5 ≤ wh → rTx xs (s3.2.1 36 np) (s3.2.1 37 np) str) → s3.2.1 44 (ne + (eCh (cst (qc N)) (eS (qc N) (eP N)) (np + 1) pt.2).length) = nI np → s3.1 48 = s2.1 48 → s3.1 49 = s2.1 49 → (∀ a i, ¬ ((a = 32 ∨ a = 36 ∨ a = 37) ∧ i = np) → ¬ (a = 44 ∧ i = ne + (eCh (cst (qc N)) (eS (qc N) (eP N)) (np + 1) pt.2).length) → s3.2.1 a i = s2.2.1 a i) → mq (g_readPath_52 fu2 s3) Q := fun s3 q2 wh str eq2 w4 w7 lq lq2 hf3 M3 v32 v36 v44 v48 v49 vS => by
      obtain ⟨fu3, rfl⟩ : ∃ f, fu2 = f + 1 := ⟨fu2 - 1, by omega⟩
      have u3 := rq_turn (fu := fu3) M3 (Or.inl (by decide)) b (by decide) (by omega) lq2
      rw [u3]
      have CL := rq_close (k52 := g_readPath_52 fu3) (Q := Q) b lq2 (by omega) (by omega) M3
      unfold q_prc at kE kR
      rw [eq2] at kE kR
      simp only [] at kE kR
      by_cases q93 : xs.getD q2 0 = 93
      · have l93 := getD_pos q93 (by decide)
        rw [if_pos q93] at kR
        refine CL.2 q93 (fun s5 N5 A5 h48 h49 => ?_)
        rw [show lv + 1 - 1 = lv by omega] at N5
        have cq : qc (N + 1) ((neg, wh, 0, [], str, pt.1, pt.2) : qPr (N + 1)) = ((sm (cst (qc N)) pt.2).1, 1 + (sm (cst (qc N)) pt.2).2) := rfl
        have ce : eP (N + 1) np ((neg, wh, 0, [], str, pt.1, pt.2) : qPr (N + 1)) = eCh (cst (qc N)) (eS (qc N) (eP N)) (np + 1) pt.2 ++ [np] := by
          show eCh (cst (qc N)) (eS (qc N) (eP N)) (np + 1) pt.2 ++ (if 4 ≤ wh then [np] else []) = _
          rw [if_pos w4]
        have frS' := frS_of (xs := xs) (frP_of (xs := xs) N)
        refine kR (q2 + 1) _ s5 fu3 rfl (by omega) (by omega) ?_ ⟨?_, ?_, ?_, ?_, ?_, ?_, ?_, ?_⟩ (by rw [cq]; show ns + (sm (cst (qc N)) pt.2).1 ≤ q2 + 1; omega) (by rw [cq]; show 2 * (np + (1 + (sm (cst (qc N)) pt.2).2)) ≤ q2 + 1; omega) (by omega)
        · rw [cq, ce, len_snoc]
          have e1 : np + (1 + (sm (cst (qc N)) pt.2).2) = np + 1 + (sm (cst (qc N)) pt.2).2 := by omega
          show qM st0 s5 (q2 + 1) lv lv (ns + (sm (cst (qc N)) pt.2).1) (np + (1 + (sm (cst (qc N)) pt.2).2)) _ 2
          rw [e1, ← Nat.add_assoc]
          exact N5
        · refine ⟨?_, by rw [A5]; exact v32, w7, fun w => absurd (show wh = 0 from w) (by omega), fun w => absurd (show wh = 2 ∨ wh = 3 from w) (by omega), fun w => by rw [A5]; exact v36 (by have : wh = 3 ∨ 5 ≤ wh := w; omega), fun w => absurd (show wh < 4 from w) (by omega), fun _ => ⟨?_, ?_, r2, ?_⟩⟩
          · rw [A5, vS 40 np (by omega) (by omega), r6 40 np (by unfold chT; omega), c7 40 np (by unfold qOC; omega)]
            exact a3
          · rw [A5, vS 41 np (by omega) (by omega)]
            exact r3.2
          · rw [A5, vS 38 np (by omega) (by omega)]
            exact r3.1
          · rw [A5]
            refine rCh_S (R := fun G => rS1 (rP1 xs G N) (qc N) xs G) frS' pt.2 s2.2.1 s3.2.1 (-1) ns (np + 1) r1 (fun a h1 h2 i h3 h4 => vS a i (by omega) (by omega)) (fun a h1 h2 i h3 h4 => vS a i (by omega) (by omega))
        · rw [A5, vS 39 np (by omega) (by omega), r6 39 np (by unfold chT; omega), c7 39 np (by unfold qOC; omega)]
          exact a4
        · rw [A5, vS 52 lv (by omega) (by omega), r6 52 lv (by unfold chT; omega), c7 52 lv (by unfold qOC; omega)]
          exact a5
        · unfold qPL at a6 ⊢
          cases lp with
          | some l =>
            have := hlp l rfl
            simp only [] at a6 ⊢
            rw [A5, vS 39 l (by omega) (by omega), r6 39 l (by unfold chT; omega), c7 39 l (by unfold qOC; omega)]
            exact a6
          | none =>
            simp only [] at a6 ⊢
            rw [A5, vS 29 ls (by omega) (by omega), r6 29 ls (by unfold chT; omega), c7 29 ls (by unfold qOC; omega)]
            exact a6
        · rw [ce, A5]
          refine rE.app (r5.cg (fun i h1 h2 => vS 44 i (by omega) (by omega))) (fun i hi => ?_)
          have : i = 0 := by simp at hi; exact hi
          subst this
          exact v44
        · rw [h48, v48, (r4 (by omega)).1, c5, a7]
        · rw [h49, v49, (r4 (by omega)).2, c6, a8]
        · intro a i h
          rw [A5, vS a i (fun w => h (Or.inr (Or.inl ⟨by omega, by omega, by omega⟩))) (fun w => h (Or.inr (Or.inr (Or.inr (Or.inr (Or.inl ⟨w.1, by omega⟩)))))), r6 a i (fun w => h (chT_chP w)), c7 a i (fun w => h (qOC_chP w))]
          exact a9 a i (fun w => h (qPC_chP w))
      · rw [if_neg q93] at kE
        refine CL.1 q93 (fun s5 F5 h9 => ?_)
        exact rq_stopQ (e := q2) (by omega) (by omega) h9 (kE q2 s5 rfl F5 h9)
    by_cases qc1 : xs.getD q 0 = 61 ∨ xs.getD q 0 = 126
    · rw [if_pos qc1] at ef
      have B4 := BH.2.2.2.1 (by omega) qc1
      cases es : q_str xs (q + 1) with
      | inl e =>
        rw [es] at ef
        obtain ⟨le, s3, x1, x2, x3⟩ := B4.1 e es
        refine mq_b x1 ?_
        unfold q_prc at kE
        rw [ef] at kE
        exact rq_stopQ (e := e) (by omega) (by omega) x3 (kE e s3 rfl x2 x3)
      | inr r =>
        obtain ⟨q2, str⟩ := r
        rw [es] at ef
        obtain ⟨g1, g2, s3, x1, x2, x3, x4, x5, x6, x7, x8⟩ := B4.2 q2 str es
        refine mq_b x1 ?_
        refine cl s3 q2 (if xs.getD q 0 = 61 then 5 else 6) str ef (by split <;> omega) (by split <;> omega) (by omega) g2 (by omega) x2 x3 (fun _ => x4) x5 x6 x7 (fun a i h1 h2 => x8 a i (fun w => w.elim h1 h2))
    · rw [if_neg qc1] at ef
      by_cases q93 : xs.getD q 0 = 93
      · obtain ⟨s3, x1, x2, x3, x5, x6, x7, x8⟩ := BH.2.2.2.2 (by omega) q93
        refine mq_b x1 ?_
        refine cl s3 q 4 [] ef (by omega) (by omega) (Nat.le_refl _) l2 (by omega) x2 x3 (fun w => absurd w (by omega)) x5 x6 x7 (fun a i h1 h2 => x8 a i (fun w => w.elim (fun k => h1 ⟨Or.inl k.1, k.2⟩) h2))
      · obtain ⟨s3, x1, x2, x3⟩ := BH.2.2.1 (Or.inr ⟨n91, n47, Or.inr ⟨fun w => qc1 (Or.inl w), fun w => qc1 (Or.inr w), q93⟩⟩)
        refine mq_b x1 ?_
        unfold q_prc at kE
        rw [ef] at kE
        simp only [] at kE
        rw [if_neg q93] at kE
        exact rq_stopQ (e := q) (by omega) (by omega) x3 (kE q s3 rfl x2 x3)
end QQ9
-- paths in the reference: steps and paths are read
def chS (lv sid bp ne : Nat) (a i : Nat) : Prop := (25 ≤ a ∧ a ≤ 30 ∧ sid < i) ∨ (a = 29 ∧ i = sid) ∨ (32 ≤ a ∧ a ≤ 41 ∧ bp ≤ i) ∨ (a = 44 ∧ ne ≤ i) ∨ (a = 52 ∧ i = lv) ∨ ((a = 50 ∨ a = 51 ∨ a = 52) ∧ lv < i)
def pI (xs : List Nat) (st : mT) (N lv sid bp ne : Nat) (l : List (qPr N)) : Prop := rCh (rP1 xs st.2.1 N) (qc N) st.2.1 39 j2 (-1) (sid + 1) bp l ∧ st.2.1 29 sid = nxt l (-1) (nI bp) ∧ st.2.1 51 lv = nI sid ∧ st.2.1 52 lv = oI (lpo (qc N) j2 (sid + 1, bp) l) ∧ rE st.2.1 ne (eCh (qc N) (eP N) bp l)
section QQ10
variable {st0 : mT} {xs : List Nat} {Q : mT → Prop}
theorem rq_prs (b : md_buf st0 xs) {N lv sid bp ne : Nat} {PR : Nat → Nat ⊕ (Nat × qPr N)} {can : Bool} (hlv : lv < 4) (hcan : (can = false ∧ lv = 3) ∨ (can = true ∧ lv + N = 3 ∧ lv < 3 ∧ qImpP xs st0 Q N PR)) {ow : Nat} : ∀ (f p : Nat) (l0 : List (qPr N)) (st : mT) (fu : Nat), p ≤ xs.length → xs.length < p + f → (lv ≠ 0 → st.2.1 50 lv = nI ow ∧ ow < 65) → qM st0 st p lv lv (sid + 1 + (sm (qc N) l0).1) (bp + (sm (qc N) l0).2) (ne + (eCh (qc N) (eP N) bp l0).length) 2 → pI xs st N lv sid bp ne l0 → sid + 1 + (sm (qc N) l0).1 ≤ p → 2 * (bp + (sm (qc N) l0).2) ≤ p → ne ≤ bp → 4 * xs.length + 8 ≤ 4 * p + fu → (∀ e s, q_prs xs PR can f p l0 = .inl e → qFr st0 s → s.1 9 = nI e → Q s) → (∀ q l s fu2, q_prs xs PR can f p l0 = .inr (q, l) → p ≤ q → q ≤ xs.length → xs.getD q 0 ≠ 91 → qM st0 s q lv lv (sid + 1 + (sm (qc N) l).1) (bp + (sm (qc N) l).2) (ne + (eCh (qc N) (eP N) bp l).length) 2 → pI xs s N lv sid bp ne l → s.1 48 = st.1 48 → s.1 49 = st.1 49 → qSame st s (chS lv sid bp ne) → sid + 1 + (sm (qc N) l).1 ≤ q → 2 * (bp + (sm (qc N) l).2) ≤ q → 4 * xs.length + 8 ≤ 4 * q + fu2 → mq (g_readPath_52 fu2 s) Q) → mq (g_readPath_52 fu st) Q := by
  have hl := b.2.2.1
  intro f
  induction f with
  | zero => intro p l0 st fu h1 h2; omega
  | succ f ih =>
    intro p l0 st fu hp hf how M I b1 b2 b3 hfu kE kR
    unfold q_prs at kE kR
    have eL := eCh_len (c := qc N) (e := eP N) (eP_len N) l0 bp
    by_cases q91 : xs.getD p 0 = 91
    · have hp1 := getD_pos q91 (by decide)
      rw [if_pos q91] at kE kR
      obtain ⟨fu, rfl⟩ : ∃ f, fu = f + 1 := ⟨fu - 1, by omega⟩
      have t1 := rq_turn (fu := fu) M (Or.inr (Or.inr hp1)) b (by decide) (by omega) hp
      have t2 := (rq_85 (k52 := g_readPath_52 fu) M).2.2.1 rfl
      have BH := rq_behind b hp (by omega) (by omega) M (ow := ow) how (by omega)
      rw [t1, t2]
      rcases hcan with ⟨c1, c2⟩ | ⟨c1, c2, c3, hP⟩
      · rw [if_pos c1] at kE
        obtain ⟨s, x1, x2, x3⟩ := BH.2.2.1 (Or.inl ⟨q91, by omega⟩)
        refine mq_b x1 ?_
        exact rq_stopQ (e := p) (by omega) (by omega) x3 (kE p s rfl x2 x3)
      · rw [if_neg (by rw [c1]; decide)] at kE kR
        obtain ⟨s1, x1, x2, x3, x4, x5⟩ := BH.1 q91 c3
        refine mq_b x1 ?_
        obtain ⟨i1, i2, i3, i4, i5⟩ := I
        have lpl : ∀ l, lpo (qc N) j2 (sid + 1, bp) l0 = some l → l < bp + (sm (qc N) l0).2 := fun l hl => by
          rcases List.eq_nil_or_concat l0 with e | ⟨l', x, e⟩
          · rw [e] at hl; cases hl
          · have e' : l0 = l' ++ [x] := by rw [e]; simp
            rw [e', lpo_snoc] at hl
            cases hl
            rw [e', sm_snoc]
            have := (frP_of (xs := xs) N x).1
            show bp + (sm (qc N) l').2 < bp + ((sm (qc N) l').2 + (qc N x).2)
            omega
        refine hP (p + 1) lv _ _ _ s1 fu sid (lpo (qc N) j2 (sid + 1, bp) l0) (by omega) c2 x2 (by rw [x3]; exact i3) (by omega) (by rw [x3]; exact i4) lpl (by omega) (by omega) (by omega) (by omega) (fun e s ep F2 h9 => ?_) (fun q pr s fu2 ep l1 l2 M2 R2 d1 d2 hf2 => ?_)
        · unfold q_prc at ep
          cases er : PR (p + 1) with
          | inl e1 =>
            rw [er] at ep kE
            cases ep
            exact kE e s rfl F2 h9
          | inr r =>
            obtain ⟨q, pr⟩ := r
            rw [er] at ep kE
            simp only [] at ep kE
            by_cases q93 : xs.getD q 0 = 93
            · rw [if_pos q93] at ep; cases ep
            · rw [if_neg q93] at ep kE
              cases ep
              exact kE _ s rfl F2 h9
        · unfold q_prc at ep
          cases er : PR (p + 1) with
          | inl e1 => rw [er] at ep; cases ep
          | inr r =>
            obtain ⟨q0, pr0⟩ := r
            rw [er] at ep kE kR
            simp only [] at ep kE kR
            by_cases q93 : xs.getD q0 0 = 93
            · rw [if_pos q93] at ep kE kR
              cases ep
              obtain ⟨r1, r2, r3, r4, r5, r6, r7, r8⟩ := R2
              have sS : sm (qc N) (l0 ++ [pr]) = ((sm (qc N) l0).1 + (qc N pr).1, (sm (qc N) l0).2 + (qc N pr).2) := sm_snoc l0 pr
              have eE : eCh (qc N) (eP N) bp (l0 ++ [pr]) = eCh (qc N) (eP N) bp l0 ++ eP N (bp + (sm (qc N) l0).2) pr := eCh_snoc l0 pr bp
              have s1s : ∀ a i, s1.2.1 a i = st.2.1 a i := fun a i => by rw [x3]
              -- the chain so far
              have ch : rCh (rP1 xs s.2.1 N) (qc N) s.2.1 39 j2 (nI (bp + (sm (qc N) l0).2)) (sid + 1) bp l0 ∧ s.2.1 29 sid = nI bp := by
                rcases List.eq_nil_or_concat l0 with e | ⟨l', x, e⟩
                · subst e
                  refine ⟨trivial, ?_⟩
                  have := r4
                  unfold qPL at this
                  exact this
                · have e' : l0 = l' ++ [x] := by rw [e]; simp
                  have el : lpo (qc N) j2 (sid + 1, bp) l0 = some (bp + (sm (qc N) l').2) := by rw [e']; exact lpo_snoc
                  rw [el] at r4 r8
                  have sL : sm (qc N) l0 = ((sm (qc N) l').1 + (qc N x).1, (sm (qc N) l').2 + (qc N x).2) := by rw [e']; exact sm_snoc l' x
                  have f1 := frP_of (xs := xs) N
                  have f2 := (f1 x).1
                  have i1' := i1
                  rw [e'] at i1'
                  obtain ⟨k1, k2, k3⟩ := (rCh_snoc l' x (sid + 1) bp).mp i1'
                  have e1 : (sm (qc N) l0).1 = (sm (qc N) l').1 + (qc N x).1 := by rw [sL]
                  have e2 : (sm (qc N) l0).2 = (sm (qc N) l').2 + (qc N x).2 := by rw [sL]
                  have sam : ∀ a i, ¬ chP lv (sid + 1 + (sm (qc N) l0).1) (bp + (sm (qc N) l0).2) (ne + (eCh (qc N) (eP N) bp l0).length) sid (some (bp + (sm (qc N) l').2)) a i → s.2.1 a i = st.2.1 a i := fun a i h => (r8 a i h).trans (s1s a i)
                  have nch : ∀ a i, (25 ≤ a → a ≤ 30 → i < sid + 1 + (sm (qc N) l0).1) → (32 ≤ a → a ≤ 41 → i < bp + (sm (qc N) l0).2) → ¬ (a = 39 ∧ i = bp + (sm (qc N) l').2) → a ≠ 44 → a < 50 → ¬ chP lv (sid + 1 + (sm (qc N) l0).1) (bp + (sm (qc N) l0).2) (ne + (eCh (qc N) (eP N) bp l0).length) sid (some (bp + (sm (qc N) l').2)) a i := fun a i g1 g2 g3 g4 g5 w => by
                    rcases w with w | w | w | w | w | w | w
                    · have := g1 w.1 w.2.1; omega
                    · have := g2 w.1 w.2.1; omega
                    · have := Option.some.inj w.2; omega
                    · cases w.2.1
                    · omega
                    · omega
                    · omega
                  refine ⟨?_, ?_⟩
                  · have key : rCh (rP1 xs s.2.1 N) (qc N) s.2.1 39 j2 (nI (bp + (sm (qc N) l0).2)) (sid + 1) bp (l' ++ [x]) := by
                      refine (rCh_snoc l' x (sid + 1) bp).mpr ⟨?_, ?_, ?_⟩
                      · exact rCh_P (R := fun G => rP1 xs G N) f1 l' st.2.1 s.2.1 _ _ _ k1 (fun a g1 g2 i g3 g4 => sam a i (nch a i (fun _ _ => by omega) (fun h _ => by omega) (by omega) (by omega) (by omega))) (fun a g1 g2 i g3 g4 => sam a i (nch a i (fun h h' => by omega) (fun _ _ => by omega) (by omega) (by omega) (by omega)))
                      · exact (f1 x).2 st.2.1 s.2.1 _ _ k2 (fun a g1 g2 i g3 g4 => sam a i (nch a i (fun _ _ => by omega) (fun h _ => by omega) (by omega) (by omega) (by omega))) (fun a g1 g2 i g3 g4 => sam a i (nch a i (fun h h' => by omega) (fun _ _ => by omega) (by omega) (by omega) (by omega))) (fun a g1 g2 g3 => sam a _ (nch a _ (fun h h' => by omega) (fun _ _ => by omega) (by omega) (by omega) (by omega)))
                      · have := r4
                        unfold qPL at this
                        exact this
                    rw [← e'] at key
                    exact key
                  · rw [sam 29 sid (nch 29 sid (fun _ _ => by omega) (fun h _ => by omega) (by omega) (by omega) (by omega)), i2, e']
                    exact nxt_snoc
              refine ih (q0 + 1) (l0 ++ [pr]) s fu2 l2 (by omega) (fun h0 => ?_) ?_ ⟨?_, ?_, ?_, ?_, ?_⟩ (by rw [sS]; show sid + 1 + ((sm (qc N) l0).1 + (qc N pr).1) ≤ q0 + 1; omega) (by rw [sS]; show 2 * (bp + ((sm (qc N) l0).2 + (qc N pr).2)) ≤ q0 + 1; omega) b3 hf2 kE (fun q2 l s2 fu3 ep2 m1 m2 m3 m4 m5 m6 m7 m8 m9 m10 m11 => ?_)
              · have := how h0
                rw [r8 50 lv (by unfold chP; omega), s1s]
                exact this
              · rw [sS, eE, List.length_append]
                show qM st0 s (q0 + 1) lv lv (sid + 1 + ((sm (qc N) l0).1 + (qc N pr).1)) (bp + ((sm (qc N) l0).2 + (qc N pr).2)) _ 2
                rw [← Nat.add_assoc, ← Nat.add_assoc, ← Nat.add_assoc]
                exact M2
              · exact (rCh_snoc l0 pr (sid + 1) bp).mpr ⟨ch.1, r1, r2⟩
              · rw [nxt_snoc]; exact ch.2
              · rw [r8 51 lv (by unfold chP; omega), s1s]; exact i3
              · rw [lpo_snoc]; exact r3
              · rw [eE]
                refine rE.app (i5.cg (fun i h1 h2 => ?_)) r5
                rw [r8 44 i (by unfold chP; omega), s1s]
              · refine kR q2 l s2 fu3 ep2 (by omega) m2 m3 m4 m5 (m6.trans (r6.trans x4)) (m7.trans (r7.trans x5)) (fun a i h => ?_) m9 m10 m11
                rw [m8 a i h, r8 a i (fun w => h ?_), s1s]
                rcases w with w | w | w | w | w | w | w
                · exact Or.inl ⟨w.1, w.2.1, by omega⟩
                · exact Or.inr (Or.inr (Or.inl ⟨w.1, w.2.1, by omega⟩))
                · have := lpl i w.2
                  have h3 : bp ≤ i := by
                    rcases List.eq_nil_or_concat l0 with e | ⟨l', x, e⟩
                    · rw [e] at w; cases w.2
                    · have e' : l0 = l' ++ [x] := by rw [e]; simp
                      rw [e', lpo_snoc] at w
                      have := Option.some.inj w.2
                      have : bp + (sm (qc N) l').2 = i := this
                      omega
                  exact Or.inr (Or.inr (Or.inl ⟨by omega, by omega, h3⟩))
                · exact Or.inr (Or.inl ⟨w.1, w.2.2⟩)
                · exact Or.inr (Or.inr (Or.inr (Or.inl ⟨w.1, by omega⟩)))
                · exact Or.inr (Or.inr (Or.inr (Or.inr (Or.inl w))))
                · exact Or.inr (Or.inr (Or.inr (Or.inr (Or.inr w))))
            · rw [if_neg q93] at ep; cases ep
    · rw [if_neg q91] at kR
      exact kR p l0 st fu rfl (Nat.le_refl _) hp q91 M I rfl rfl (fun _ _ _ => rfl) b1 b2 hfu
end QQ10
