-- the reference walks steps
def mS {N : Nat} (n : Nat) (D : Nat → nd) (J : Nat → Int64) (bp : Nat) (s : qSt N) : Prop := mC (qc N) (mPk n D J N) bp s.2.2.2
section QS7
variable {st0 st : mT} {xs : List Nat} {mk n : Nat} {D : Nat → nd} {d : Nat → Nat}
theorem rw_70 (M0 : md (st0.2.1 0) n d D) (ok : nd_ok mk n D) (b0 : md_buf st0 xs) {N : Nat} : ∀ (ps : List (qPr N)) (fu bs bp : Nat) (l : List Nat) (st : mT), rCh (rP1 xs st0.2.1 N) (qc N) st0.2.1 39 j2 (-1) bs bp ps → mC (qc N) (mPk n D st0.2.2 N) bp ps → bp + (sm (qc N) ps).2 ≤ 65 → ps.length < fu → l.length ≤ 41 → (∀ y ∈ l, y < n) → wS st0 st → lA st.2.1 l 0 l.length → ∃ m s, g_walk_70 fu (nI l.length) (nxt ps (-1) (nI bp)) st = some (m, s) ∧ wS st0 s ∧ bR m (fun y => decide (y ∈ q_sft (q_H n D N) ps l)) := by
  have hn := M0.1
  intro ps
  induction ps with
  | nil =>
    intro fu bs bp l st _ _ _ hf hl hln w a1
    obtain ⟨fu, rfl⟩ : ∃ f, fu = f + 1 := ⟨fu - 1, by simp at hf; omega⟩
    obtain ⟨m, e1, e2⟩ := rw_152 (st := st) hl (fun y hy => by have := hln y hy; omega) a1 l.length mF 0 0 (by omega) (by unfold mF; omega) (fun y _ => by rw [b_zero, List.take_zero]; simp)
    refine ⟨m, st, ?_, w, e2⟩
    unfold g_walk_70
    rw [if_pos (show nxt ([] : List (qPr N)) (-1) (nI bp) < 0 from (by decide : (-1 : Int32) < 0))]
    exact e1
  | cons pr ps ih =>
    intro fu bs bp l st R J hb hf hl hln w a1
    obtain ⟨fu, rfl⟩ : ∃ f, fu = f + 1 := ⟨fu - 1, by simp at hf; omega⟩
    obtain ⟨r1, r2, r3⟩ := R
    cases N with
    | zero => exact r1.elim
    | succ N =>
      have hc := (frP_of (xs := xs) (N + 1) pr).1
      have e2 : (sm (qc (N + 1)) (pr :: ps)).2 = (qc (N + 1) pr).2 + (sm (qc (N + 1)) ps).2 := rfl
      obtain ⟨s, b1, b2, b3⟩ := rw_81 M0 ok b0 (bp := bp) (by omega) r1 J.1 hl hln (k70 := g_walk_70 fu) l.length mF 0 [] st (by omega) (by unfold mF; omega) w (Nat.zero_le _) (fun i _ hi => absurd hi (by simp)) a1
      rw [List.nil_append, List.drop_zero] at b1 b3
      have len := q_flt_len (h := q_H n D (N + 1) pr) (of := l.length) l 1
      obtain ⟨m, s2, c1, c2, c3⟩ := ih fu (bs + (qc (N + 1) pr).1) (bp + (qc (N + 1) pr).2) (q_flt (q_H n D (N + 1) pr) l.length 1 l) s r3 J.2 (by omega) (by simp at hf; omega) (by omega) (fun y hy => hln y (q_flt_mem l 1 y hy)) b2 b3
      refine ⟨m, s2, ?_, c2, c3⟩
      unfold g_walk_70
      rw [if_neg (show ¬ nxt (pr :: ps) (-1) (nI bp) < 0 from nI_pos (by omega))]
      show g_walk_81 (g_walk_70 fu) mF (nI l.length) (nI bp) 0 0 st = _
      rw [show g_walk_81 (g_walk_70 fu) mF (nI l.length) (nI bp) 0 0 st = _ from b1, show st0.2.1 39 bp = nxt ps (-1) (nI (bp + (qc (N + 1) pr).2)) from r2]
      exact c1
theorem q_ax_len (ok : nd_ok mk n D) (hn : n ≤ 40) {a : Nat} {xo : Option Nat} (hxo : ∀ x, xo = some x → x < n) : (q_ax n D a xo).length ≤ 40 := by
  unfold q_ax
  cases xo with
  | none =>
    simp only []
    split
    · split <;> simp
    · split
      · rw [q_rng_len]; omega
      · simp
  | some x =>
    have hx := hxo x rfl
    have he := (mp_end_spec (pa := fun k => (D k).2.2.1) hx).2.1
    have e1 : a_end n D x = mp_end (fun k => (D k).2.2.1) n x := rfl
    have a1 := (q_anc_len ok 1 x hx).1
    have a50 := (q_anc_len ok 50 x hx).1
    have f : ∀ (l : List Nat) (p : Nat → Bool), (l.filter p).length ≤ l.length := fun l p => List.length_filter_le p l
    simp only []
    split
    · have := f (q_rng (x + 1) n) (fun k => decide ((D k).2.2.1 = some x)); rw [q_rng_len] at this; omega
    split
    · rw [q_rng_len]; omega
    split
    · rw [List.length_cons, q_rng_len]; omega
    split
    · omega
    split
    · omega
    split
    · rw [List.length_cons]; omega
    split
    · simp
    split
    · have := f (q_rng (x + 1) n) (fun k => decide ((D k).2.2.1 = (D x).2.2.1)); rw [q_rng_len] at this; omega
    split
    · have := f (q_rng 0 x).reverse (fun k => decide ((D k).2.2.1 = (D x).2.2.1)); rw [List.length_reverse, q_rng_len] at this; omega
    split
    · rw [q_rng_len]; omega
    · have := f (q_rng 0 x).reverse (fun k => decide (a_end n D k ≤ x)); rw [List.length_reverse, q_rng_len] at this; omega
theorem rw_walk (M0 : md (st0.2.1 0) n d D) (ok : nd_ok mk n D) (b0 : md_buf st0 xs) {N sid bp : Nat} {sp : qSt N} (hsid : sid < 130) (R : rS1 (rP1 xs st0.2.1 N) (qc N) xs st0.2.1 sid bp sp) (J : mS n D st0.2.2 bp sp) (hb : bp + (sm (qc N) sp.2.2.2).2 ≤ 65) (hpl : sp.2.2.2.length ≤ 1000) {xo : Option Nat} (hxo : ∀ x, xo = some x → x < n) : ∃ m s, g_walk (nI sid) (oX xo) st0 = some (m, s) ∧ wS st0 s ∧ bR m (fun y => decide (y ∈ q_stp n D (q_H n D N) sp xo)) := by
  obtain ⟨r1, r2, r3, r4, r5, r6, r7⟩ := R
  have hn := M0.1
  have al := q_ax_len ok hn (a := sp.1) hxo
  have alt := q_ax_lt ok (a := sp.1) hxo
  obtain ⟨s1, g1, g2⟩ := rw_gather M0 ok r6 xo hxo
  have w1 : wS st0 s1 := ⟨g2.1, g2.2.2.1, g2.2.2.2.2⟩
  obtain ⟨s2, c1, c2, c3⟩ := rw_16 M0 ok b0 hsid r7 r2 r3 (l := q_ax n D sp.1 xo) (by omega) alt (q_ax n D sp.1 xo).length mF 0 [] s1 (by omega) (by unfold mF; omega) w1 g2.2.1 (Nat.zero_le _) (fun i _ hi => absurd hi (by simp)) (fun i _ hi => g2.2.2.2.1 i hi)
  rw [List.nil_append, List.drop_zero] at c1 c3
  have fl := List.length_filter_le (q_kd D sp.2.1 sp.2.2.1) (q_ax n D sp.1 xo)
  obtain ⟨m, s3, e1, e2, e3⟩ := rw_70 M0 ok b0 sp.2.2.2 mF (sid + 1) bp ((q_ax n D sp.1 xo).filter (q_kd D sp.2.1 sp.2.2.1)) s2 r5 J hb (by unfold mF; omega) (by omega) (fun y hy => alt y (List.mem_filter.mp hy).1) c2 c3
  refine ⟨m, s3, ?_, e2, e3⟩
  unfold g_walk
  rw [mp_ld hsid (by decide), r1, g1, Option.bind_some, show g_walk_16 mF (nI sid) 0 0 s1 = _ from c1, r4]
  exact e1
theorem mS_of {N : Nat} {J J2 : Nat → Int64} (h : J = J2) {bp : Nat} {sp : qSt N} (w : mS n D J bp sp) : mS n D J2 bp sp := by rw [← h]; exact w
theorem rS1_w {N sid bp : Nat} {sp : qSt N} (w : wS st0 st) (R : rS1 (rP1 xs st0.2.1 N) (qc N) xs st0.2.1 sid bp sp) : rS1 (rP1 xs st.2.1 N) (qc N) xs st.2.1 sid bp sp := (frS_of (xs := xs) (frP_of (xs := xs) N) sp).2 st0.2.1 st.2.1 sid bp R (fun a h1 h2 i _ _ => by rw [w.2.1 a (by omega)]) (fun a h1 h2 i _ _ => by rw [w.2.1 a (by omega)]) (fun a h1 h2 => by rw [w.2.1 a (by omega)])
theorem rw_26 (M0 : md (st0.2.1 0) n d D) (ok : nd_ok mk n D) (b0 : md_buf st0 xs) {N sid bp : Nat} {sp : qSt N} (hsid : sid < 130) (R : rS1 (rP1 xs st0.2.1 N) (qc N) xs st0.2.1 sid bp sp) (J : mS n D st0.2.2 bp sp) (hb : bp + (sm (qc N) sp.2.2.2).2 ≤ 65) (hpl : sp.2.2.2.length ≤ 1000) {S : Nat → Bool} {x3 : Int64} (hS : bR x3 S) {k15 : Int64 → Int32 → mT → Option (Int64 × mT)} : ∀ (r fu y : Nat) (m : Int64) (st : mT), y + r = n → r < fu → wS st0 st → bR m (fun z => (List.range y).any (fun v => S v && decide (z ∈ q_stp n D (q_H n D N) sp (some v)))) → ∃ m2 s, g_lead_26 k15 fu x3 (nI sid) m (nI y) st = k15 m2 (st0.2.1 30 sid) s ∧ wS st0 s ∧ bR m2 (q_nx n D (q_H n D N) sp S) := by
  have hn := M0.1
  intro r
  induction r with
  | zero =>
    intro fu y m st h1 h2 w B
    obtain ⟨fu, rfl⟩ : ∃ f, fu = f + 1 := ⟨fu - 1, by omega⟩
    have hD := md_D (w.md M0)
    refine ⟨m, st, ?_, w, ?_⟩
    · unfold g_lead_26
      rw [mp_bd (mp_cnt hD), if_pos (nI_le (by omega) (by omega)), mp_ld hsid (by decide), w.2.1 30 (by decide)]
    · rw [show y = n by omega] at B
      exact B
  | succ r ih =>
    intro fu y m st h1 h2 w B
    obtain ⟨fu, rfl⟩ : ∃ f, fu = f + 1 := ⟨fu - 1, by omega⟩
    have hD := md_D (w.md M0)
    have ts := b_test (m := x3) (y := y) (by omega)
    unfold g_lead_26 g_lead_62
    rw [mp_bd (mp_cnt hD), if_neg (nI_ge (by omega) (by omega))]
    have rs : ∀ z, (List.range (y + 1)).any (fun v => S v && decide (z ∈ q_stp n D (q_H n D N) sp (some v))) = ((List.range y).any (fun v => S v && decide (z ∈ q_stp n D (q_H n D N) sp (some v))) || (S y && decide (z ∈ q_stp n D (q_H n D N) sp (some y)))) := fun z => by
      rw [List.range_succ, List.any_append]
      simp
    cases q : S y with
    | true =>
      rw [if_pos (ts.mpr (by rw [hS y (by omega), q]))]
      obtain ⟨m1, s1, c1, c2, c3⟩ := rw_walk (st0 := st) (w.md M0) ok (w.buf b0) hsid (rS1_w w R) (mS_of w.2.2.symm J) hb hpl (xo := some y) (fun x hx => by cases hx; omega)
      rw [show g_walk (nI sid) (nI y) st = _ from c1, Option.bind_some, nI_1]
      refine ih fu (y + 1) (m ||| m1) s1 (by omega) (by omega) (w.trans c2) (fun z hz => ?_)
      rw [b_or, B z hz, c3 z hz]
      refine Eq.trans ?_ (rs z).symm
      rw [q, Bool.true_and]
    | false =>
      rw [if_neg (fun k => by have := ts.mp k; rw [hS y (by omega), q] at this; cases this), nI_1]
      refine ih fu (y + 1) m st (by omega) (by omega) w (fun z hz => ?_)
      refine (B z hz).trans (Eq.trans ?_ (rs z).symm)
      rw [q, Bool.false_and, Bool.or_false]
/-- all further steps -/
theorem rw_15 (M0 : md (st0.2.1 0) n d D) (ok : nd_ok mk n D) (b0 : md_buf st0 xs) {N : Nat} : ∀ (l : List (qSt N)) (fu ns np : Nat) (m : Int64) (S : Nat → Bool) (st : mT), rCh (rS1 (rP1 xs st0.2.1 N) (qc N) xs st0.2.1) (cst (qc N)) st0.2.1 30 j1 (-1) ns np l → mC (cst (qc N)) (mS n D st0.2.2) np l → ns + (sm (cst (qc N)) l).1 ≤ 130 → np + (sm (cst (qc N)) l).2 ≤ 65 → (∀ s ∈ l, s.2.2.2.length ≤ 1000) → l.length < fu → wS st0 st → bR m S → ∃ m2 s, g_lead_15 fu m (nxt l (-1) (nI ns)) st = some (m2, s) ∧ wS st0 s ∧ bR m2 (q_ld n D (q_H n D N) l S) := by
  have hn := M0.1
  intro l
  induction l with
  | nil =>
    intro fu ns np m S st _ _ _ _ _ hf w B
    obtain ⟨fu, rfl⟩ : ∃ f, fu = f + 1 := ⟨fu - 1, by simp at hf; omega⟩
    refine ⟨m, st, ?_, w, B⟩
    unfold g_lead_15
    rw [if_pos (show nxt ([] : List (qSt N)) (-1) (nI ns) < 0 from (by decide : (-1 : Int32) < 0))]
  | cons sp l ih =>
    intro fu ns np m S st R J h1 h2 hp hf w B
    obtain ⟨fu, rfl⟩ : ∃ f, fu = f + 1 := ⟨fu - 1, by simp at hf; omega⟩
    obtain ⟨r1, r2, r3⟩ := R
    have e1 : (sm (cst (qc N)) (sp :: l)).1 = 1 + (sm (qc N) sp.2.2.2).1 + (sm (cst (qc N)) l).1 := rfl
    have e2 : (sm (cst (qc N)) (sp :: l)).2 = (sm (qc N) sp.2.2.2).2 + (sm (cst (qc N)) l).2 := rfl
    obtain ⟨m1, s1, c1, c2, c3⟩ := rw_26 (st0 := st) (w.md M0) ok (w.buf b0) (sid := ns) (bp := np) (by omega) (rS1_w w r1) (mS_of w.2.2.symm J.1) (by omega) (hp sp List.mem_cons_self) B (k15 := g_lead_15 fu) n mF 0 0 st (by omega) (by unfold mF; omega) wS.refl (fun z _ => by rw [b_zero]; rfl)
    have w1 : wS st0 s1 := w.trans c2
    obtain ⟨m2, s2, f1, f2, f3⟩ := ih fu _ _ m1 _ s1 r3 J.2 (by show ns + (1 + (sm (qc N) sp.2.2.2).1) + _ ≤ 130; omega) (by show np + (sm (qc N) sp.2.2.2).2 + _ ≤ 65; omega) (fun s hs => hp s (List.mem_cons_of_mem _ hs)) (by simp at hf; omega) w1 c3
    refine ⟨m2, s2, ?_, f2, f3⟩
    unfold g_lead_15
    rw [if_neg (show ¬ nxt (sp :: l) (-1) (nI ns) < 0 from nI_pos (by omega))]
    show g_lead_26 (g_lead_15 fu) mF m (nI ns) 0 0 st = _
    rw [show g_lead_26 (g_lead_15 fu) mF m (nI ns) 0 0 st = _ from c1, w.2.1 30 (by decide), show st0.2.1 30 ns = nxt l (-1) (nI (ns + (cst (qc N) sp).1)) from r2]
    exact f1
theorem rw_lead (M0 : md (st0.2.1 0) n d D) (ok : nd_ok mk n D) (b0 : md_buf st0 xs) {N ns np : Nat} {l : List (qSt N)} (R : rCh (rS1 (rP1 xs st0.2.1 N) (qc N) xs st0.2.1) (cst (qc N)) st0.2.1 30 j1 (-1) ns np l) (hne : l ≠ []) (J : mC (cst (qc N)) (mS n D st0.2.2) np l) (h1 : ns + (sm (cst (qc N)) l).1 ≤ 130) (h2 : np + (sm (cst (qc N)) l).2 ≤ 65) (hp : ∀ s ∈ l, s.2.2.2.length ≤ 1000) (hl : l.length ≤ 1000) {xo : Option Nat} (hxo : ∀ x, xo = some x → x < n) : ∃ m s, g_lead (nI ns) (oX xo) st0 = some (m, s) ∧ wS st0 s ∧ bR m (q_rch n D (q_H n D N) l xo) := by
  cases l with
  | nil => exact absurd rfl hne
  | cons sp l =>
    obtain ⟨r1, r2, r3⟩ := R
    have e1 : (sm (cst (qc N)) (sp :: l)).1 = 1 + (sm (qc N) sp.2.2.2).1 + (sm (cst (qc N)) l).1 := rfl
    have e2 : (sm (cst (qc N)) (sp :: l)).2 = (sm (qc N) sp.2.2.2).2 + (sm (cst (qc N)) l).2 := rfl
    obtain ⟨m1, s1, c1, c2, c3⟩ := rw_walk M0 ok b0 (sid := ns) (bp := np) (by omega) r1 J.1 (by omega) (hp sp List.mem_cons_self) hxo
    have fS := frS_of (xs := xs) (frP_of (xs := xs) N)
    have r3' : rCh (rS1 (rP1 xs st0.2.1 N) (qc N) xs st0.2.1) (cst (qc N)) st0.2.1 30 j1 (-1) (ns + (cst (qc N) sp).1) (np + (cst (qc N) sp).2) l := r3
    obtain ⟨m2, s2, f1, f2, f3⟩ := rw_15 M0 ok b0 l mF (ns + (cst (qc N) sp).1) (np + (cst (qc N) sp).2) m1 _ s1 r3' J.2 (by show ns + (1 + (sm (qc N) sp.2.2.2).1) + _ ≤ 130; omega) (by show np + (sm (qc N) sp.2.2.2).2 + _ ≤ 65; omega) (fun s hs => hp s (List.mem_cons_of_mem _ hs)) (by unfold mF; simp at hl; omega) c2 c3
    refine ⟨m2, s2, ?_, f2, f3⟩
    unfold g_lead
    rw [c1, Option.bind_some, mp_ld (by omega) (by decide)]
    simp only []
    rw [c2.2.1 30 (by decide), show st0.2.1 30 ns = nxt l (-1) (nI (ns + (cst (qc N) sp).1)) from r2]
    exact f1
end QS7
-- the reference reads a node's text
def okP (str w : List Nat) (beg : Bool) : Prop := ∀ i, i < w.length → (i < str.length → w.getD i 0 = str.getD i 0) ∧ (str.length ≤ i → beg = true)
theorem okP.pre {str w u : List Nat} {beg : Bool} (h : okP str (w ++ u) beg) : okP str w beg := fun i hi => by
  have := h i (by rw [List.length_append]; omega)
  rw [getD_left hi] at this
  exact this
theorem okP_snoc {str w : List Nat} {beg : Bool} {c : Nat} : okP str (w ++ [c]) beg ↔ okP str w beg ∧ (w.length < str.length → c = str.getD w.length 0) ∧ (str.length ≤ w.length → beg = true) := by
  constructor
  · intro h
    have := h w.length (by rw [len_snoc]; omega)
    rw [getD_snoc] at this
    exact ⟨h.pre, this.1, this.2⟩
  · rintro ⟨h1, h2, h3⟩ i hi
    rw [len_snoc] at hi
    by_cases q : i < w.length
    · rw [getD_left q]; exact h1 i q
    · have e : i = w.length := by omega
      subst e
      rw [getD_snoc]
      exact ⟨h2, h3⟩
theorem okP_fin {str w : List Nat} {beg : Bool} : (if beg = true then str.isPrefixOf w else decide (w = str)) = true ↔ okP str w beg ∧ str.length ≤ w.length := by
  cases beg with
  | true =>
    rw [if_pos rfl, List.isPrefixOf_iff_prefix]
    constructor
    · rintro ⟨u, rfl⟩
      refine ⟨fun i hi => ⟨fun hs => ?_, fun _ => rfl⟩, by rw [List.length_append]; omega⟩
      rw [getD_left hs]
    · rintro ⟨h1, h2⟩
      refine ⟨w.drop str.length, ?_⟩
      have : str = w.take str.length := by
        refine (list_eq_iff (by rw [List.length_take]; omega)).mpr (fun j hj => ?_)
        rw [List.length_take] at hj
        rw [List.getD_eq_getElem?_getD (l := w.take str.length), List.getElem?_take, if_pos (by omega), ← List.getD_eq_getElem?_getD]
        exact ((h1 j (by omega)).1 (by omega)).symm
      conv => lhs; rw [this]
      rw [List.length_take, Nat.min_eq_left h2, List.take_append_drop]
  | false =>
    rw [if_neg (by decide), decide_eq_true_iff]
    constructor
    · intro e
      subst e
      exact ⟨fun i hi => ⟨fun _ => rfl, fun h => by omega⟩, Nat.le_refl _⟩
    · rintro ⟨h1, h2⟩
      have hl : w.length ≤ str.length := by
        rcases Nat.lt_or_ge str.length w.length with q | q
        · have := (h1 str.length q).2 (Nat.le_refl _)
          cases this
        · exact q
      exact (list_eq_iff (by omega)).mpr (fun j hj => (h1 j (by omega)).1 hj)
section QS8
variable {st : mT} {xs : List Nat} {mk n : Nat} {D : Nat → nd} {d : Nat → Nat}
/-- one node's text -/
theorem rw_74 (M : md (st.2.1 0) n d D) (ok : nd_ok mk n D) (b : md_buf st xs) {v w0 : Int32} {str : List Nat} (hs : rTx xs v w0 str) {beg : Bool} {q : Nat} (hq : q < n) {k16 : Int32 → Int32 → Int32 → Int32 → Int32 → Int32 → Int32 → Int32 → mT → Option (Int32 × mT)} {x1 x7 x8 : Int32} : (∀ (fu : Nat) (x5 x6 : Int32), 1 ≤ fu → g_reads_74 k16 fu x1 v (nI str.length) (bI beg) x5 x6 x7 x8 (nI (d q)) 0 0 st = k16 x1 v (nI str.length) (bI beg) x5 x6 x7 (x8 + 1) st) ∧ ∀ (r fu c : Nat) (w : List Nat), c + r = (D q).2.2.2.2.2.length → r + 1 < fu → w.length + r < 2000 → okP str w beg → (okP str (w ++ (D q).2.2.2.2.2.drop c) beg → g_reads_74 k16 fu x1 v (nI str.length) (bI beg) (nI w.length) 1 x7 x8 (nI (d q)) 1 (nI c) st = k16 x1 v (nI str.length) (bI beg) (nI (w ++ (D q).2.2.2.2.2.drop c).length) 1 x7 (x8 + 1) st) ∧ (¬ okP str (w ++ (D q).2.2.2.2.2.drop c) beg → ∃ k', g_reads_74 k16 fu x1 v (nI str.length) (bI beg) (nI w.length) 1 x7 x8 (nI (d q)) 1 (nI c) st = k16 x1 v (nI str.length) (bI beg) k' 0 x7 (x8 + 1) st) := by
  have row := M.2.2.2.2.1 q hq
  have hdq := (M.2.2.1 q hq).1
  have o := ok.2 q hq
  have tl := o.2.2.2.2.2.2.1
  have tc := o.2.2.2.2.2.2.2.1
  have sl := hs.le b
  have f3 : g_f (nI (d q)) 3 st = some (nI (D q).2.2.2.2.2.length, st) := by rw [← row.2.2.2.1]; exact mp_f st (o := 3) hdq (by decide)
  have stop : ∀ (fu c : Nat) (x5 : Int32), 1 ≤ fu → g_reads_74 k16 fu x1 v (nI str.length) (bI beg) x5 0 x7 x8 (nI (d q)) 1 (nI c) st = k16 x1 v (nI str.length) (bI beg) x5 0 x7 (x8 + 1) st := fun fu c x5 h1 => by
    obtain ⟨fu, rfl⟩ : ∃ f, fu = f + 1 := ⟨fu - 1, by omega⟩
    unfold g_reads_74 g_reads_145
    rw [f3, Option.bind_some]
    split
    · rfl
    · rw [if_neg (by decide), if_pos rfl]
  refine ⟨fun fu x5 x6 h1 => ?_, ?_⟩
  · obtain ⟨fu, rfl⟩ : ∃ f, fu = f + 1 := ⟨fu - 1, by omega⟩
    unfold g_reads_74 g_reads_145
    rw [f3, Option.bind_some]
    split
    · rfl
    · rw [if_pos rfl]
  intro r
  induction r with
  | zero =>
    intro fu c w h1 h2 hw hk
    obtain ⟨fu, rfl⟩ : ∃ f, fu = f + 1 := ⟨fu - 1, by omega⟩
    rw [List.drop_eq_nil_of_le (by omega), List.append_nil]
    refine ⟨fun _ => ?_, fun h => absurd hk h⟩
    unfold g_reads_74 g_reads_145
    rw [f3, Option.bind_some, if_pos (nI_le (by omega) (by omega))]
  | succ r ih =>
    intro fu c w h1 h2 hw hk
    obtain ⟨fu, rfl⟩ : ∃ f, fu = f + 1 := ⟨fu - 1, by omega⟩
    have hc : c < (D q).2.2.2.2.2.length := by omega
    have e1 : (D q).2.2.2.2.2.getD c 0 = (D q).2.2.2.2.2[c] := by rw [List.getD_eq_getElem?_getD, List.getElem?_eq_getElem hc]; rfl
    have ed : w ++ (D q).2.2.2.2.2.drop c = (w ++ [(D q).2.2.2.2.2.getD c 0]) ++ (D q).2.2.2.2.2.drop (c + 1) := by rw [List.drop_eq_getElem_cons hc, e1, List.append_assoc]; rfl
    have c1 := getD_lt tc c
    have c2 := hs.lt b w.length
    have ft : g_f (nI (d q)) (8 + nI c) st = some (nI ((D q).2.2.2.2.2.getD c 0), st) := by
      rw [show (8 : Int32) + nI c = nI (8 + c) by rw [show (8 : Int32) = nI 8 from rfl, nI_add], mp_f st hdq (by omega), ← Nat.add_assoc, row.2.2.2.2.2.2.1 c hc]
    -- one sign
    have step : ∃ v0 : Bool, g_reads_74 k16 (fu + 1) x1 v (nI str.length) (bI beg) (nI w.length) 1 x7 x8 (nI (d q)) 1 (nI c) st = g_reads_74 k16 fu x1 v (nI str.length) (bI beg) (nI (w.length + 1)) (bI v0) x7 x8 (nI (d q)) 1 (nI (c + 1)) st ∧ (v0 = true ↔ ((w.length < str.length → (D q).2.2.2.2.2.getD c 0 = str.getD w.length 0) ∧ (str.length ≤ w.length → beg = true))) := by
      conv => enter [1, v0, 1, 1]; unfold g_reads_74
      unfold g_reads_134
      rw [f3, Option.bind_some, if_neg (nI_ge (by omega) (by omega)), if_neg (by decide), if_neg (by decide), nI_1, nI_1]
      by_cases ql : str.length ≤ w.length
      · rw [if_pos (nI_le ql (by omega))]
        exact ⟨beg, rfl, fun h => ⟨fun w => by omega, fun _ => h⟩, fun h => h.2 ql⟩
      · rw [if_neg (nI_ge (by omega) (by omega)), ft, Option.bind_some]
        simp only []
        rw [hs.at b (by omega), Option.bind_some]
        simp only []
        by_cases e : (D q).2.2.2.2.2.getD c 0 = str.getD w.length 0
        · rw [if_pos (by rw [e])]
          exact ⟨true, rfl, fun _ => ⟨fun _ => e, fun k => by omega⟩, fun _ => rfl⟩
        · rw [if_neg (fun k => e ((nI_eq (by omega) (by omega)).mp k))]
          exact ⟨false, rfl, fun k => (by cases k), fun k => absurd (k.1 (by omega)) e⟩
    obtain ⟨v0, s1, s2⟩ := step
    rw [s1, ed]
    have iff : okP str (w ++ [(D q).2.2.2.2.2.getD c 0]) beg ↔ v0 = true := by
      rw [okP_snoc, s2]
      exact ⟨fun h => h.2, fun h => ⟨hk, h⟩⟩
    cases v0 with
    | true =>
      have hk2 := iff.mpr rfl
      have := ih fu (c + 1) (w ++ [(D q).2.2.2.2.2.getD c 0]) (by omega) (by omega) (by rw [len_snoc]; omega) hk2
      rw [len_snoc] at this
      exact this
    | false =>
      have hk2 : ¬ okP str (w ++ [(D q).2.2.2.2.2.getD c 0]) beg := fun h => by have := iff.mp h; cases this
      refine ⟨fun h => absurd h.pre hk2, fun _ => ⟨_, stop fu (c + 1) _ (by omega)⟩⟩
theorem rw_reads (M : md (st.2.1 0) n d D) (ok : nd_ok mk n D) (b : md_buf st xs) {v w0 : Int32} {str : List Nat} (hs : rTx xs v w0 str) (beg : Bool) {y : Nat} (hy : y < n) : g_reads (nI y) v (nI str.length) (bI beg) st = some (bI (q_rd n D y str beg), st) := by
  have hn := M.1
  have hD := md_D M
  have sl := hs.le b
  have he := mp_end_spec (pa := fun k => (D k).2.2.1) hy
  have e1 : a_end n D y = mp_end (fun k => (D k).2.2.1) n y := rfl
  generalize hpart : (fun q => if (D q).2.1 = 2 ∨ (q = y ∧ (D q).2.1 = 3) then (D q).2.2.2.2.2 else []) = part
  have plen : ∀ q, q < n → (part q).length ≤ 20 := fun q hq => by
    rw [← hpart]
    simp only []
    split
    · exact (ok.2 q hq).2.2.2.2.2.2.1
    · simp
  have no : ∀ (fu : Nat) (x5 : Int32) (q : Nat), 1 ≤ fu → g_reads_16 fu (nI y) v (nI str.length) (bI beg) x5 0 (nI (a_end n D y)) (nI q) st = some (0, st) := fun fu x5 q h1 => by
    obtain ⟨fu, rfl⟩ : ∃ f, fu = f + 1 := ⟨fu - 1, by omega⟩
    unfold g_reads_16 g_reads_151 g_reads_166
    split
    · rw [if_pos rfl]
    · rw [if_pos rfl, if_pos rfl]
  have loop : ∀ (r fu q : Nat) (w : List Nat), q + r = a_end n D y → r + 1 < fu → y ≤ q → w.length ≤ 20 * q → okP str w beg → g_reads_16 fu (nI y) v (nI str.length) (bI beg) (nI w.length) 1 (nI (a_end n D y)) (nI q) st = some (bI (if beg = true then str.isPrefixOf (w ++ ((q_rng q (a_end n D y)).map part).flatten) else decide (w ++ ((q_rng q (a_end n D y)).map part).flatten = str)), st) := by
    intro r
    induction r with
    | zero =>
      intro fu q w h1 h2 hyq hw hk
      obtain ⟨fu, rfl⟩ : ∃ f, fu = f + 1 := ⟨fu - 1, by omega⟩
      rw [q_rng_nil (by omega)]
      simp only [List.map_nil, List.flatten_nil, List.append_nil]
      unfold g_reads_16 g_reads_151 g_reads_166
      rw [if_pos (nI_le (by omega) (by omega)), if_neg (by decide)]
      have f := okP_fin (str := str) (w := w) (beg := beg)
      by_cases ql : str.length ≤ w.length
      · rw [if_neg (nI_nlt ql (by omega)), f.mpr ⟨hk, ql⟩]
        rfl
      · rw [if_pos (nI_lt (by omega) (by omega))]
        have : (if beg = true then str.isPrefixOf w else decide (w = str)) = false := by
          rw [← Bool.not_eq_true]
          exact fun k => ql (f.mp k).2
        rw [this]
        rfl
    | succ r ih =>
      intro fu q w h1 h2 hyq hw hk
      obtain ⟨fu, rfl⟩ : ∃ f, fu = f + 1 := ⟨fu - 1, by omega⟩
      have hq : q < n := by omega
      have row := M.2.2.2.2.1 q hq
      have hdq := (M.2.2.1 q hq).1
      have ko := (ok.2 q hq).2.1
      have pl := plen q hq
      have k2 : nI (D q).2.1 = 2 ↔ (D q).2.1 = 2 := nI_eq (b := 2) (by omega) (by decide)
      have k3 : nI (D q).2.1 = 3 ↔ (D q).2.1 = 3 := nI_eq (b := 3) (by omega) (by decide)
      have f1 : g_f (nI (d q)) 1 st = some (nI (D q).2.1, st) := by rw [← row.2.1]; exact mp_f st (o := 1) hdq (by decide)
      have T := rw_74 M ok b hs (beg := beg) hq (k16 := g_reads_16 fu) (x1 := nI y) (x7 := nI (a_end n D y)) (x8 := nI q)
      rw [q_rng_cons (by omega), List.map_cons, List.flatten_cons, ← List.append_assoc]
      -- with the node's part
      have go : (okP str (w ++ part q) beg → g_reads_16 fu (nI y) v (nI str.length) (bI beg) (nI (w ++ part q).length) 1 (nI (a_end n D y)) (nI (q + 1)) st = some (bI (if beg = true then str.isPrefixOf (w ++ part q ++ ((q_rng (q + 1) (a_end n D y)).map part).flatten) else decide (w ++ part q ++ ((q_rng (q + 1) (a_end n D y)).map part).flatten = str)), st)) := fun h => ih fu (q + 1) (w ++ part q) (by omega) (by omega) (by omega) (by rw [List.length_append]; omega) h
      have bad : ¬ okP str (w ++ part q) beg → (if beg = true then str.isPrefixOf (w ++ part q ++ ((q_rng (q + 1) (a_end n D y)).map part).flatten) else decide (w ++ part q ++ ((q_rng (q + 1) (a_end n D y)).map part).flatten = str)) = false := fun h => by
        rw [← Bool.not_eq_true]
        exact fun k => h ((okP_fin.mp k).1.pre)
      have e0 : g_reads_16 (fu + 1) (nI y) v (nI str.length) (bI beg) (nI w.length) 1 (nI (a_end n D y)) (nI q) st = g_reads_74 (g_reads_16 fu) mF (nI y) v (nI str.length) (bI beg) (nI w.length) 1 (nI (a_end n D y)) (nI q) (nI (d q)) (if (D q).2.1 = 2 ∨ (q = y ∧ (D q).2.1 = 3) then 1 else 0) 0 st := by
        conv => lhs; unfold g_reads_16
        rw [if_neg (nI_ge (by omega) (by omega)), if_neg (by decide), mp_bd (mp_dc hD hq)]
        simp only []
        rw [f1, Option.bind_some]
        simp only []
        unfold g_reads_64 g_reads_68 g_reads_69
        by_cases q2 : (D q).2.1 = 2
        · rw [if_pos (k2.mpr q2), if_pos (Or.inl q2)]
        · rw [if_neg (fun k => q2 (k2.mp k))]
          by_cases qy : q = y
          · rw [if_pos (by rw [qy]), f1, Option.bind_some]
            simp only []
            by_cases q3 : (D q).2.1 = 3
            · rw [if_pos (k3.mpr q3), if_pos (Or.inr ⟨qy, q3⟩)]
            · rw [if_neg (fun k => q3 (k3.mp k)), if_neg (fun k => k.elim q2 (fun j => q3 j.2))]
          · rw [if_neg (fun k => qy ((nI_eq (by omega) (by omega)).mp k)), if_neg (fun k => k.elim q2 (fun j => qy j.1))]
      rw [e0]
      by_cases cnt : (D q).2.1 = 2 ∨ (q = y ∧ (D q).2.1 = 3)
      · have ep : part q = (D q).2.2.2.2.2 := by rw [← hpart]; exact if_pos cnt
        rw [if_pos cnt]
        have T2 := T.2 (D q).2.2.2.2.2.length mF 0 w (by omega) (by unfold mF; have := (ok.2 q hq).2.2.2.2.2.2.1; omega) (by have := (ok.2 q hq).2.2.2.2.2.2.1; omega) hk
        rw [List.drop_zero, ← ep] at T2
        by_cases h : okP str (w ++ part q) beg
        · rw [show g_reads_74 (g_reads_16 fu) mF (nI y) v (nI str.length) (bI beg) (nI w.length) 1 (nI (a_end n D y)) (nI q) (nI (d q)) 1 0 st = _ from T2.1 h, nI_1]
          exact go h
        · obtain ⟨k', T3⟩ := T2.2 h
          rw [show g_reads_74 (g_reads_16 fu) mF (nI y) v (nI str.length) (bI beg) (nI w.length) 1 (nI (a_end n D y)) (nI q) (nI (d q)) 1 0 st = _ from T3, nI_1, no fu k' (q + 1) (by omega), bad h]
          rfl
      · have ep : part q = [] := by rw [← hpart]; exact if_neg cnt
        rw [if_neg cnt, T.1 mF _ _ (by unfold mF; omega), nI_1]
        have := go (by rw [ep, List.append_nil]; exact hk)
        rw [ep, List.append_nil] at this ⊢
        exact this
  unfold g_reads
  rw [mp_bd (mp_gend hD (md_P M ok) hy)]
  have := loop (a_end n D y - y) mF y [] (by omega) (by unfold mF; omega) (Nat.le_refl _) (by simp) (fun i hi => absurd hi (by simp))
  rw [List.nil_append] at this
  unfold q_rd q_sv
  rw [hpart]
  exact this
end QS8
-- the reference fills in what a path in a predicate holds for
theorem sm_len1 {α : Type} {c : α → Nat × Nat} (h : ∀ x, 1 ≤ (c x).1) : ∀ l : List α, l.length ≤ (sm c l).1 := by
  intro l
  induction l with
  | nil => exact Nat.le_refl _
  | cons x l ih =>
    have := h x
    show l.length + 1 ≤ (c x).1 + (sm c l).1
    omega
theorem sm_len2 {α : Type} {c : α → Nat × Nat} (h : ∀ x, 1 ≤ (c x).2) : ∀ l : List α, l.length ≤ (sm c l).2 := by
  intro l
  induction l with
  | nil => exact Nat.le_refl _
  | cons x l ih =>
    have := h x
    show l.length + 1 ≤ (c x).2 + (sm c l).2
    omega
theorem sm_mem {α : Type} {c : α → Nat × Nat} : ∀ (l : List α) (x : α), x ∈ l → (c x).2 ≤ (sm c l).2 := by
  intro l
  induction l with
  | nil => intro x h; cases h
  | cons y l ih =>
    intro x h
    show (c x).2 ≤ (c y).2 + (sm c l).2
    rcases List.mem_cons.mp h with e | e
    · rw [e]; omega
    · have := ih x e; omega
section QS9
variable {st0 st : mT} {xs : List Nat} {mk n : Nat} {D : Nat → nd} {d : Nat → Nat}
theorem q_sft_mem {α : Type} {H : α → Nat → Nat → Nat → Bool} : ∀ (ps : List α) (l : List Nat) (y : Nat), y ∈ q_sft H ps l → y ∈ l := by
  intro ps
  induction ps with
  | nil => intro l y h; exact h
  | cons pr ps ih => intro l y h; exact q_flt_mem l 1 y (ih _ y h)
theorem q_stp_lt (ok : nd_ok mk n D) {α : Type} {H : α → Nat → Nat → Nat → Bool} {s : Nat × Nat × List Nat × List α} {xo : Option Nat} (hxo : ∀ x, xo = some x → x < n) : ∀ y ∈ q_stp n D H s xo, y < n := fun y hy => q_ax_lt ok hxo y (List.mem_filter.mp (q_sft_mem _ _ y hy)).1
theorem q_nx_lt (ok : nd_ok mk n D) {α : Type} {H : α → Nat → Nat → Nat → Bool} {s : Nat × Nat × List Nat × List α} {S : Nat → Bool} {y : Nat} (h : q_nx n D H s S y = true) : y < n := by
  unfold q_nx at h
  rw [List.any_eq_true] at h
  obtain ⟨z, h1, h2⟩ := h
  rw [Bool.and_eq_true, decide_eq_true_iff] at h2
  exact q_stp_lt ok (fun x e => by cases e; exact List.mem_range.mp h1) y h2.2
theorem q_ld_lt (ok : nd_ok mk n D) {α : Type} {H : α → Nat → Nat → Nat → Bool} : ∀ (l : List (Nat × Nat × List Nat × List α)) (S : Nat → Bool), (∀ y, S y = true → y < n) → ∀ y, q_ld n D H l S y = true → y < n := by
  intro l
  induction l with
  | nil => intro S h y hy; exact h y hy
  | cons s l ih => intro S h y hy; exact ih _ (fun z hz => q_nx_lt ok hz) y hy
theorem q_rch_lt (ok : nd_ok mk n D) {α : Type} {H : α → Nat → Nat → Nat → Bool} {l : List (Nat × Nat × List Nat × List α)} {xo : Option Nat} (hxo : ∀ x, xo = some x → x < n) {y : Nat} (h : q_rch n D H l xo y = true) : y < n := by
  cases l with
  | nil => cases h
  | cons s l => exact q_ld_lt ok l _ (fun z hz => q_stp_lt ok hxo z (of_decide_eq_true hz)) y h
theorem vJ_s {J : Nat → Int64} {i : Nat} {v : Int64} : vp_updL J i v i = v := by simp [vp_updL]
theorem vJ_n {J : Nat → Int64} {i j : Nat} {v : Int64} (h : j ≠ i) : vp_updL J i v j = J j := by simp [vp_updL, h]
theorem rw_fill (M0 : md (st0.2.1 0) n d D) (ok : nd_ok mk n D) (b0 : md_buf st0 xs) {N bs bp : Nat} {pr : qPr (N + 1)} (hbp : bp < 65) (R : rP1 xs st0.2.1 (N + 1) bs bp pr) (h4 : 4 ≤ pr.2.1) (J : mC (cst (qc N)) (mS n D st0.2.2) (bp + 1) pr.2.2.2.2.2.2) (h1 : bs + (qc (N + 1) pr).1 ≤ 130) (h2 : bp + (qc (N + 1) pr).2 ≤ 65) : ∃ s, g_fill (nI bp) st0 = some s ∧ (∀ k, k ≠ 53 → s.1 k = st0.1 k) ∧ (∀ a, a ≠ 54 → s.2.1 a = st0.2.1 a) ∧ (∀ i, i ≠ bp → s.2.2 i = st0.2.2 i) ∧ mPk n D s.2.2 (N + 1) bp pr := by
  have R0 := R
  obtain ⟨r1, r2, r3, r4, r5, r6, r7, r8⟩ := R
  obtain ⟨q1, q2, q3, q4⟩ := r8 h4
  have hn := M0.1
  have c1 : (qc (N + 1) pr).1 = (sm (cst (qc N)) pr.2.2.2.2.2.2).1 := rfl
  have c2 : (qc (N + 1) pr).2 = 1 + (sm (cst (qc N)) pr.2.2.2.2.2.2).2 := rfl
  have fP := frP_of (xs := xs) N
  have fS := frS_of (xs := xs) fP
  have hl : pr.2.2.2.2.2.2.length ≤ 1000 := by have := sm_len1 (c := cst (qc N)) (fun x => (fS x).1) pr.2.2.2.2.2.2; omega
  have hpl : ∀ s ∈ pr.2.2.2.2.2.2, s.2.2.2.length ≤ 1000 := fun s hs => by
    have a1 := sm_mem (c := cst (qc N)) _ s hs
    have a2 := sm_len2 (c := qc N) (fun x => (fP x).1) s.2.2.2
    have a3 : (cst (qc N) s).2 = (sm (qc N) s.2.2.2).2 := rfl
    omega
  generalize hH : q_hit n D (q_H n D N) pr.2.1 pr.2.2.2.2.1 pr.2.2.2.2.2.1 pr.2.2.2.2.2.2 = Hf
  have i32 : ∀ c, c < 10 → (nI pr.2.1 = nI c ↔ pr.2.1 = c) := fun c hc => nI_eq (by omega) (by omega)
  have loop : ∀ (r fu x : Nat) (bits : Int64) (st : mT), x + r = n → r < fu → wS st0 st → bR bits (fun z => decide (z < x) && Hf z) → ∃ s bits2, g_fill_5 fu (nI bp) bits (nI x) st = some (mm_J s bp bits2) ∧ wS st0 s ∧ bR bits2 (fun z => decide (z < n) && Hf z) := by
    intro r
    induction r with
    | zero =>
      intro fu x bits st h3 h5 w B
      obtain ⟨fu, rfl⟩ : ∃ f, fu = f + 1 := ⟨fu - 1, by omega⟩
      refine ⟨st, bits, ?_, w, by rw [show x = n by omega] at B; exact B⟩
      unfold g_fill_5
      rw [mp_bd (mp_cnt (md_D (w.md M0))), if_pos (nI_le (by omega) (by omega)), mp_ix hbp (by decide)]
      rfl
    | succ r ih =>
      intro fu x bits st h3 h5 w B
      obtain ⟨fu, rfl⟩ : ∃ f, fu = f + 1 := ⟨fu - 1, by omega⟩
      have hx : x < n := by omega
      -- where the path begins
      have hxo : ∀ y, (if pr.2.2.2.2.2.1 = true then none else some x) = some y → y < n := fun y hy => by
        split at hy
        · cases hy
        · cases hy; exact hx
      have Rw : rCh (rS1 (rP1 xs st.2.1 N) (qc N) xs st.2.1) (cst (qc N)) st.2.1 30 j1 (-1) bs (bp + 1) pr.2.2.2.2.2.2 := rCh_S (R := fun G => rS1 (rP1 xs G N) (qc N) xs G) fS _ st0.2.1 st.2.1 (-1) bs (bp + 1) q4 (fun a g1 g2 i _ _ => by rw [w.2.1 a (by omega)]) (fun a g1 g2 i _ _ => by rw [w.2.1 a (by omega)])
      obtain ⟨m, s, L1, L2, L3⟩ := rw_lead (st0 := st) (w.md M0) ok (w.buf b0) (N := N) (ns := bs) (np := bp + 1) (l := pr.2.2.2.2.2.2) Rw q3 (by rw [w.2.2]; exact J) (by omega) (by omega) hpl hl hxo
      have ws : wS st0 s := w.trans L2
      have Ms := ws.md M0
      have bs' := ws.buf b0
      -- behind the question whether the path holds
      have fin : ∀ v : Bool, v = Hf x → ∃ s2 bits2, g_fill_154 (g_fill_5 fu) (nI bp) bits (nI x) (bI v) s = some (mm_J s2 bp bits2) ∧ wS st0 s2 ∧ bR bits2 (fun z => decide (z < n) && Hf z) := fun v hv => by
        unfold g_fill_154 g_fill_169
        rw [nI_1]
        cases v with
        | true =>
          rw [if_neg (show ¬ bI true = 0 by decide)]
          refine ih fu (x + 1) _ s (by omega) (by omega) ws (fun z hz => ?_)
          rw [b_or, B z hz, b_one (by omega) hz]
          show ((decide (z < x) && Hf z) || decide (z = x)) = (decide (z < x + 1) && Hf z)
          by_cases e : z = x
          · rw [e, ← hv]
            simp
          · rw [decide_eq_false e, Bool.or_false]
            by_cases l : z < x
            · rw [decide_eq_true l, decide_eq_true (by omega)]
            · rw [decide_eq_false l, decide_eq_false (by omega)]
        | false =>
          rw [if_pos (show bI false = 0 by decide)]
          refine ih fu (x + 1) _ s (by omega) (by omega) ws (fun z hz => ?_)
          rw [B z hz]
          show (decide (z < x) && Hf z) = (decide (z < x + 1) && Hf z)
          by_cases e : z = x
          · rw [e, ← hv]
            simp
          · by_cases l : z < x
            · rw [decide_eq_true l, decide_eq_true (by omega)]
            · rw [decide_eq_false l, decide_eq_false (by omega)]
      have e36 : g_fill_5 (fu + 1) (nI bp) bits (nI x) st = g_fill_36 (g_fill_5 fu) (nI bp) bits (nI x) (oX (if pr.2.2.2.2.2.1 = true then none else some x)) (nI bs) st := by
        conv => lhs; unfold g_fill_5
        rw [mp_bd (mp_cnt (md_D (w.md M0))), if_neg (nI_ge (by omega) (by omega)), mp_ld hbp (by decide), mp_ld hbp (by decide), w.2.1 38 (by decide), w.2.1 41 (by decide), q1, q2]
        cases pr.2.2.2.2.2.1 with
        | true => rfl
        | false => rfl
      rw [e36]
      unfold g_fill_36
      rw [L1, Option.bind_some, mp_ld hbp (by decide), ws.2.1 32 (by decide), r2]
      unfold g_fill_62 g_fill_63
      have hd : Hf x = (List.range n).any (fun y => q_rch n D (q_H n D N) pr.2.2.2.2.2.2 (if pr.2.2.2.2.2.1 = true then none else some x) y && (if pr.2.1 = 4 then true else q_rd n D y pr.2.2.2.2.1 (decide (pr.2.1 = 6)))) := by rw [← hH]; rfl
      have cnt : g_count s = some (nI n, s) := mp_cnt (md_D Ms)
      by_cases w4 : pr.2.1 = 4
      · have e68 : ∀ v : Bool, g_fill_68 (g_fill_5 fu) mF (nI bp) bits (nI x) m (bI v) 0 s = g_fill_154 (g_fill_5 fu) (nI bp) bits (nI x) (bI v) s := fun v => by
          rw [show mF = 5999 + 1 from rfl]
          unfold g_fill_68
          rw [mp_bd cnt, mp_ld hbp (by decide), ws.2.1 32 (by decide), r2, if_pos (show nI pr.2.1 ≤ 4 by rw [w4]; decide)]
          split <;> rfl
        rw [if_pos (show nI pr.2.1 = 4 from (i32 4 (by decide)).mpr w4)]
        by_cases z0 : mm_cmp m 0 = 0
        · rw [if_pos z0, show g_fill_68 (g_fill_5 fu) mF (nI bp) bits (nI x) m 0 0 s = _ from e68 false]
          refine fin false ?_
          rw [hd]
          symm
          rw [List.any_eq_false]
          intro y hy
          have := b_cmp0.mp z0 y (by have := List.mem_range.mp hy; omega)
          rw [L3 y (by have := List.mem_range.mp hy; omega)] at this
          rw [this]
          simp
        · rw [if_neg z0, show g_fill_68 (g_fill_5 fu) mF (nI bp) bits (nI x) m 1 0 s = _ from e68 true]
          refine fin true ?_
          rw [hd]
          symm
          rw [List.any_eq_true]
          have ⟨y, hy, hb⟩ : ∃ y, y < 64 ∧ bt m y = true := by
            rcases Classical.em (∃ y, y < 64 ∧ bt m y = true) with k | k
            · exact k
            · refine absurd (b_cmp0.mpr (fun y hy => ?_)) z0
              cases hb : bt m y with
              | false => rfl
              | true => exact absurd ⟨y, hy, hb⟩ k
          rw [L3 y hy] at hb
          exact ⟨y, List.mem_range.mpr (q_rch_lt ok hxo hb), by rw [hb, if_pos w4]; rfl⟩
      · rw [if_neg (show ¬ nI pr.2.1 = 4 from fun k => w4 ((i32 4 (by decide)).mp k))]
        have h36 : rTx xs (s.2.1 36 bp) (s.2.1 37 bp) pr.2.2.2.2.1 := by rw [ws.2.1 36 (by decide), ws.2.1 37 (by decide)]; exact r6 (by omega)
        have h37 : s.2.1 37 bp = nI pr.2.2.2.2.1.length := by obtain ⟨_, _, e, _⟩ := h36; exact e
        have lp : ∀ (r fu2 y : Nat) (v : Bool), y + r = n → r < fu2 → v = (List.range y).any (fun y => q_rch n D (q_H n D N) pr.2.2.2.2.2.2 (if pr.2.2.2.2.2.1 = true then none else some x) y && q_rd n D y pr.2.2.2.2.1 (decide (pr.2.1 = 6))) → ∃ v2, g_fill_68 (g_fill_5 fu) fu2 (nI bp) bits (nI x) m (bI v) (nI y) s = g_fill_154 (g_fill_5 fu) (nI bp) bits (nI x) (bI v2) s ∧ v2 = (List.range n).any (fun y => q_rch n D (q_H n D N) pr.2.2.2.2.2.2 (if pr.2.2.2.2.2.1 = true then none else some x) y && q_rd n D y pr.2.2.2.2.1 (decide (pr.2.1 = 6))) := by
          intro r
          induction r with
          | zero =>
            intro fu2 y v h6 h7 hv
            obtain ⟨fu2, rfl⟩ : ∃ f, fu2 = f + 1 := ⟨fu2 - 1, by omega⟩
            refine ⟨v, ?_, by rw [hv, show y = n by omega]⟩
            unfold g_fill_68
            rw [mp_bd cnt, if_pos (nI_le (by omega) (by omega))]
          | succ r ih2 =>
            intro fu2 y v h6 h7 hv
            obtain ⟨fu2, rfl⟩ : ∃ f, fu2 = f + 1 := ⟨fu2 - 1, by omega⟩
            have hyn : y < n := by omega
            have ts := b_test (m := m) (y := y) (by omega)
            have rs : (List.range (y + 1)).any (fun y => q_rch n D (q_H n D N) pr.2.2.2.2.2.2 (if pr.2.2.2.2.2.1 = true then none else some x) y && q_rd n D y pr.2.2.2.2.1 (decide (pr.2.1 = 6))) = (v || (q_rch n D (q_H n D N) pr.2.2.2.2.2.2 (if pr.2.2.2.2.2.1 = true then none else some x) y && q_rd n D y pr.2.2.2.2.1 (decide (pr.2.1 = 6)))) := by
              rw [List.range_succ, List.any_append, hv]
              simp
            have nextV : ∀ v2 : Bool, v2 = (v || (q_rch n D (q_H n D N) pr.2.2.2.2.2.2 (if pr.2.2.2.2.2.1 = true then none else some x) y && q_rd n D y pr.2.2.2.2.1 (decide (pr.2.1 = 6)))) → ∃ v3, g_fill_146 (g_fill_5 fu) (g_fill_68 (g_fill_5 fu) fu2) (nI bp) bits (nI x) m (nI y) (bI v2) s = g_fill_154 (g_fill_5 fu) (nI bp) bits (nI x) (bI v3) s ∧ v3 = (List.range n).any (fun y => q_rch n D (q_H n D N) pr.2.2.2.2.2.2 (if pr.2.2.2.2.2.1 = true then none else some x) y && q_rd n D y pr.2.2.2.2.1 (decide (pr.2.1 = 6))) := fun v2 hv2 => by
              unfold g_fill_146
              rw [nI_1]
              exact ih2 fu2 (y + 1) v2 (by omega) (by omega) (by rw [hv2, rs])
            conv => enter [1, v2, 1, 1]; unfold g_fill_68
            unfold g_fill_141 g_fill_145
            rw [mp_bd cnt, if_neg (nI_ge (by omega) (by omega)), mp_ld hbp (by decide), ws.2.1 32 (by decide), r2, if_neg (show ¬ nI pr.2.1 ≤ 4 from nI_ge (a := 4) (by omega) (by omega))]
            cases v with
            | true =>
              rw [if_neg (show ¬ bI true = 0 by decide)]
              exact nextV true (by simp)
            | false =>
              rw [if_pos (show bI false = 0 by decide)]
              cases hq : q_rch n D (q_H n D N) pr.2.2.2.2.2.2 (if pr.2.2.2.2.2.1 = true then none else some x) y with
              | false =>
                rw [if_neg (fun k => by have := ts.mp k; rw [L3 y (by omega), hq] at this; cases this)]
                exact nextV false (by rw [hq]; rfl)
              | true =>
                rw [if_pos (ts.mpr (by rw [L3 y (by omega), hq])), mp_ld hbp (by decide), mp_ld hbp (by decide), mp_ld hbp (by decide), r2]
                simp only []
                rw [h37]
                have e135 : ∀ bg : Bool, bg = decide (pr.2.1 = 6) → ∃ v3, g_fill_135 (g_fill_5 fu) (g_fill_68 (g_fill_5 fu) fu2) (nI bp) bits (nI x) m (nI y) (bI bg) (nI pr.2.2.2.2.1.length) (s.2.1 36 bp) (nI y) s = g_fill_154 (g_fill_5 fu) (nI bp) bits (nI x) (bI v3) s ∧ v3 = (List.range n).any (fun y => q_rch n D (q_H n D N) pr.2.2.2.2.2.2 (if pr.2.2.2.2.2.1 = true then none else some x) y && q_rd n D y pr.2.2.2.2.1 (decide (pr.2.1 = 6))) := fun bg hbg => by
                  unfold g_fill_135 g_fill_141 g_fill_145
                  rw [rw_reads Ms ok bs' h36 bg hyn, Option.bind_some]
                  simp only []
                  have := nextV (q_rd n D y pr.2.2.2.2.1 bg) (by rw [hq, hbg]; rfl)
                  cases hr : q_rd n D y pr.2.2.2.2.1 bg with
                  | true => rw [if_neg (show ¬ bI true = 0 by decide)]; rw [hr] at this; exact this
                  | false => rw [if_pos (show bI false = 0 by decide)]; rw [hr] at this; exact this
                by_cases w6 : pr.2.1 = 6
                · rw [if_pos (show nI pr.2.1 = 6 from (i32 6 (by decide)).mpr w6)]
                  exact e135 true (decide_eq_true w6).symm
                · rw [if_neg (show ¬ nI pr.2.1 = 6 from fun k => w6 ((i32 6 (by decide)).mp k))]
                  exact e135 false (decide_eq_false w6).symm
        obtain ⟨v2, g1, g2⟩ := lp n mF 0 false (by omega) (by unfold mF; omega) rfl
        rw [show g_fill_68 (g_fill_5 fu) mF (nI bp) bits (nI x) m 0 0 s = _ from g1]
        refine fin v2 ?_
        rw [g2, hd]
        simp only [if_neg w4]
  obtain ⟨s, bits, f1, f2, f3⟩ := loop n mF 0 0 st0 (by omega) (by unfold mF; omega) wS.refl (fun z _ => by rw [b_zero]; simp)
  refine ⟨mm_J s bp bits, f1, f2.1, f2.2.1, fun i hi => ?_, fun _ x hx => ?_⟩
  · show vp_updL s.2.2 bp bits i = _
    rw [vJ_n hi, f2.2.2]
  · show bt (vp_updL s.2.2 bp bits bp) x = _
    rw [vJ_s, f3 x (by omega), hH]
    show (decide (x < n) && Hf x) = Hf x
    rw [decide_eq_true hx, Bool.true_and]
end QS9
