-- the reference puts nodes in: its loops
def mi (st : mT) (g sl : Nat → Int32) : mT := (st.1, (fun j => if j = 0 then g else if j = 3 then sl else st.2.1 j), st.2.2)
theorem mi_0 {st : mT} {g sl : Nat → Int32} : (mi st g sl).2.1 0 = g := rfl
theorem mi_3 {st : mT} {g sl : Nat → Int32} : (mi st g sl).2.1 3 = sl := rfl
theorem mi_k {st : mT} {g sl : Nat → Int32} {k : Nat} (h0 : k ≠ 0) (h3 : k ≠ 3) : (mi st g sl).2.1 k = st.2.1 k := by
  show (if k = 0 then g else if k = 3 then sl else st.2.1 k) = _
  rw [if_neg h0, if_neg h3]
theorem mi_G0 {st : mT} {g sl : Nat → Int32} {i : Nat} {v : Int32} : mm_G (mi st g sl) 0 i v = mi st (upd g i v) sl := by
  unfold mm_G mi
  refine Prod.ext rfl (Prod.ext ?_ rfl)
  funext j
  by_cases q : j = 0
  · simp [q]
  · simp [q]
theorem mi_G3 {st : mT} {g sl : Nat → Int32} {i : Nat} {v : Int32} : mm_G (mi st g sl) 3 i v = mi st g (upd sl i v) := by
  unfold mm_G mi
  refine Prod.ext rfl (Prod.ext ?_ rfl)
  funext j
  by_cases q : j = 3
  · simp [q]
  · simp [q]
theorem mi_id (st : mT) : mi st (st.2.1 0) (st.2.1 3) = st := by
  unfold mi
  refine Prod.ext rfl (Prod.ext ?_ rfl)
  funext j
  by_cases q : j = 0
  · simp [q]
  · by_cases q3 : j = 3
    · simp [q3]
    · simp [q, q3]
theorem mi_f {st : mT} {g sl : Nat → Int32} {s o : Nat} (hs : s < 40) (ho : o < 128) : g_f (nI s) (nI o) (mi st g sl) = some (g (128 * s + o), mi st g sl) := mp_f (mi st g sl) hs ho
theorem mi_set {st : mT} {g sl : Nat → Int32} {s o : Nat} (v : Int32) (hs : s < 40) (ho : o < 128) : g_set (nI s) (nI o) v (mi st g sl) = some (mi st (upd g (128 * s + o) v) sl) := by rw [mp_set (mi st g sl) v hs ho, mi_G0]
/-- fewer than N values leave one of N out -/
theorem free_of : ∀ (N m : Nat) (f : Nat → Nat), m < N → ∃ s, s < N ∧ ∀ i, i < m → f i ≠ s := by
  intro N
  induction N with
  | zero => intro m f h; omega
  | succ N ih =>
    intro m f h
    by_cases q : ∀ i, i < m → f i ≠ N
    · exact ⟨N, by omega, q⟩
    · have ⟨i0, h0, e0⟩ : ∃ i, i < m ∧ f i = N := by
        rcases Classical.em (∃ i, i < m ∧ f i = N) with w | w
        · exact w
        · exact absurd (fun i hi e => w ⟨i, hi, e⟩) q
      obtain ⟨s, h1, h2⟩ := ih (m - 1) (fun i => if i = i0 then f (m - 1) else f i) (by omega)
      refine ⟨s, by omega, fun i hi e => ?_⟩
      by_cases c1 : i = i0
      · rw [c1, e0] at e; omega
      · by_cases c2 : i = m - 1
        · have := h2 i0 (by omega)
          rw [if_pos rfl, ← c2] at this
          exact this e
        · have := h2 i (by omega)
          rw [if_neg c1] at this
          exact this e
section QN1
variable {st : mT}
theorem rm_shift {L sp : Nat} {x1 : Int32} {sl : Nat → Int32} (hL : st.1 10 = nI L) (hL1 : 1 ≤ L) (hsp : sp + L ≤ 40) : ∀ (r fu : Nat) (g : Nat → Int32), sp + r + L ≤ 40 → r < fu → ∃ g2, g_install_7 fu x1 (nI sp) (nI (sp + r) - 1) (mi st g sl) = g_install_45 mF x1 (nI sp) 0 (mi st g2 sl) ∧ (∀ i, sp ≤ i → i < sp + r → g2 (5120 + i + L) = g (5120 + i)) ∧ ∀ i, i < 5120 + sp + L ∨ 5120 + sp + r + L ≤ i → g2 i = g i := by
  intro r
  induction r with
  | zero =>
    intro fu g h1 h2
    obtain ⟨fu, rfl⟩ : ∃ f, fu = f + 1 := ⟨fu - 1, by omega⟩
    refine ⟨g, ?_, fun i q1 q2 => by omega, fun _ _ => rfl⟩
    unfold g_install_7
    rw [if_pos]
    rw [Nat.add_zero]
    cases sp with
    | zero => decide
    | succ k =>
      rw [show nI (k + 1) - 1 = nI k by rw [show (1 : Int32) = nI 1 from rfl, nI_sub (by omega)]; rfl]
      exact nI_lt (by omega) (by omega)
  | succ r ih =>
    intro fu g h1 h2
    obtain ⟨fu, rfl⟩ : ∃ f, fu = f + 1 := ⟨fu - 1, by omega⟩
    have e1 : nI (sp + (r + 1)) - 1 = nI (sp + r) := by rw [show (1 : Int32) = nI 1 from rfl, nI_sub (by omega)]; rfl
    unfold g_install_7
    rw [e1, if_neg (nI_nlt (by omega) (by omega)), show (5120 : Int32) = nI 5120 from rfl, nI_add, mp_ld (by omega) (by decide), show (mi st g sl).1 10 = nI L from hL, nI_add, mp_ix (by omega) (by decide)]
    simp only [mm_lt, mi_G0]
    rw [mi_0, show nI (sp + r) + -1 = nI (sp + r) - 1 from (Int32.sub_eq_add_neg _ _).symm]
    obtain ⟨g2, a1, a2, a3⟩ := ih fu (upd g (5120 + (sp + r) + L) (g (5120 + (sp + r)))) (by omega) (by omega)
    refine ⟨g2, a1, fun i q1 q2 => ?_, fun i hi => by rw [a3 i (by omega), upd_n (by omega)]⟩
    by_cases e : i = sp + r
    · rw [e, a3 _ (by omega), upd_s]
    · rw [a2 i q1 (by omega), upd_n (by omega)]
theorem rm_free {k45 : Int32 → Int32 → Int32 → mT → Option mT} {x1 x2 x3 : Int32} {g sl : Nat → Int32} : ∀ (r fu k : Nat), k + r = 40 → r < fu → (∃ s, k ≤ s ∧ s < 40 ∧ g (128 * s) = 0) → ∃ s, k ≤ s ∧ s < 40 ∧ g (128 * s) = 0 ∧ g_install_56 k45 fu x1 x2 x3 (nI k) (mi st g sl) = g_install_75 k45 mF x1 x2 x3 (nI s) 0 (mi st g sl) := by
  intro r
  induction r with
  | zero => intro fu k h1 h2 h3; obtain ⟨s, a, b, _⟩ := h3; omega
  | succ r ih =>
    intro fu k h1 h2 h3
    obtain ⟨fu, rfl⟩ : ∃ f, fu = f + 1 := ⟨fu - 1, by omega⟩
    unfold g_install_56
    rw [show g_f (nI k) 0 (mi st g sl) = some (g (128 * k + 0), mi st g sl) from mi_f (o := 0) (by omega) (by decide), Option.bind_some, Nat.add_zero]
    by_cases q : g (128 * k) = 0
    · exact ⟨k, Nat.le_refl _, by omega, q, by rw [if_pos q]⟩
    · rw [if_neg q, nI_1]
      obtain ⟨s, a1, a2, a3⟩ := h3
      obtain ⟨s2, b1, b2, b3, b4⟩ := ih fu (k + 1) (by omega) (by omega) ⟨s, by
        by_cases e : s = k
        · rw [e] at a3; exact absurd a3 q
        · omega, a2, a3⟩
      exact ⟨s2, by omega, b2, b3, b4⟩
theorem rm_copy {k45 : Int32 → Int32 → Int32 → mT → Option mT} {x1 x2 : Int32} {sl : Nat → Int32} {k s : Nat} (hk : k < 40) (hs : s < 40) {w0 : Int32} (hw : (st.2.1 2 (128 * k + 2) < 0 ∧ w0 = x1) ∨ ∃ j, j < 40 ∧ st.2.1 2 (128 * k + 2) = nI j ∧ sl j = w0) : ∀ (r fu o : Nat) (g : Nat → Int32), o + r = 128 → r < fu → ∃ g2, g_install_75 k45 fu x1 x2 (nI k) (nI s) (nI o) (mi st g sl) = g_install_146 k45 x1 x2 (nI k) (nI s) w0 (mi st g2 sl) ∧ (∀ i, o ≤ i → i < 128 → g2 (128 * s + i) = st.2.1 2 (128 * k + i)) ∧ ∀ i, i < 128 * s + o ∨ 128 * s + 128 ≤ i → g2 i = g i := by
  have e2 : (128 : Int32) * nI k + 2 = nI (128 * k + 2) := e128 (o := 2)
  intro r
  induction r with
  | zero =>
    intro fu o g h1 h2
    obtain ⟨fu, rfl⟩ : ∃ f, fu = f + 1 := ⟨fu - 1, by omega⟩
    obtain rfl : o = 128 := by omega
    refine ⟨g, ?_, fun i q1 q2 => by omega, fun _ _ => rfl⟩
    unfold g_install_75
    rw [if_pos (show (128 : Int32) ≤ nI 128 from nI_le (a := 128) (Nat.le_refl _) (by decide)), e2, mp_ld (by omega) (by decide), mi_k (by decide) (by decide)]
    rcases hw with ⟨a1, a2⟩ | ⟨j, a1, a2, a3⟩
    · rw [if_neg (by simpa using a1), a2]
    · rw [if_pos (by rw [a2]; exact nI_le (Nat.zero_le _) (by omega)), mp_ld (by omega) (by decide), a2, mp_ld a1 (by decide), mi_3, a3]
  | succ r ih =>
    intro fu o g h1 h2
    obtain ⟨fu, rfl⟩ : ∃ f, fu = f + 1 := ⟨fu - 1, by omega⟩
    unfold g_install_75
    rw [if_neg (show ¬ (128 : Int32) ≤ nI o from nI_ge (b := 128) (by omega) (by decide)), e128, mp_ld (by omega) (by decide), mi_k (by decide) (by decide), mi_set _ hs (by omega), Option.bind_some, nI_1]
    obtain ⟨g2, a1, a2, a3⟩ := ih fu (o + 1) (upd g (128 * s + o) (st.2.1 2 (128 * k + o))) (by omega) (by omega)
    refine ⟨g2, a1, fun i q1 q2 => ?_, fun i hi => by rw [a3 i (by omega), upd_n (by omega)]⟩
    by_cases e : i = o
    · rw [e, a3 _ (by omega), upd_s]
    · exact a2 i (by omega) q2
/-- the parent's label is copied -/
theorem rm_lbc {x3 : Int32} {sl : Nat → Int32} {s u n : Nat} (hs : s < 40) (hu : u < 40) (hsu : s ≠ u) (hn : n ≤ 16) : ∀ (r fu i : Nat) (g : Nat → Int32), i + r = n → r < fu → ∃ g2, g_labelBy_19 fu (nI s) (nI u) x3 (nI n) (nI i) (mi st g sl) = (if x3 = 0 then g_labelBy_59 mF (nI s) (nI n) 0 (mi st g2 sl) else g_labelBy_114 mF (nI s) x3 (nI n) 0 0 (mi st g2 sl)) ∧ (∀ j, i ≤ j → j < n → g2 (128 * s + 28 + j) = g (128 * u + 28 + j)) ∧ ∀ j, j < 128 * s + 28 + i ∨ 128 * s + 28 + n ≤ j → g2 j = g j := by
  intro r
  induction r with
  | zero =>
    intro fu i g h1 h2
    obtain ⟨fu, rfl⟩ : ∃ f, fu = f + 1 := ⟨fu - 1, by omega⟩
    refine ⟨g, ?_, fun i q1 q2 => by omega, fun _ _ => rfl⟩
    unfold g_labelBy_19
    rw [if_pos (nI_le (by omega) (by omega))]
  | succ r ih =>
    intro fu i g h1 h2
    obtain ⟨fu, rfl⟩ : ∃ f, fu = f + 1 := ⟨fu - 1, by omega⟩
    have e28 : (28 : Int32) + nI i = nI (28 + i) := by rw [show (28 : Int32) = nI 28 from rfl, nI_add]
    unfold g_labelBy_19
    rw [if_neg (nI_ge (by omega) (by omega)), e28, mi_f hu (by omega), Option.bind_some]
    simp only []
    rw [mi_set _ hs (by omega), Option.bind_some, nI_1]
    obtain ⟨g2, a1, a2, a3⟩ := ih fu (i + 1) (upd g (128 * s + (28 + i)) (g (128 * u + (28 + i)))) (by omega) (by omega)
    refine ⟨g2, a1, fun j q1 q2 => ?_, fun j hj => by rw [a3 j (by omega), upd_n (by omega)]⟩
    by_cases e : j = i
    · rw [e, a3 _ (by omega), show 128 * s + 28 + i = 128 * s + (28 + i) by omega, upd_s, show 128 * u + 28 + i = 128 * u + (28 + i) by omega]
    · rw [a2 j (by omega) q2, upd_n (by omega)]
/-- the tail is put behind it -/
theorem rm_lbt {sl : Nat → Int32} {s n T : Nat} (hs : s < 40) (hT : st.1 23 = nI T) (hn : n + T ≤ 16) : ∀ (r fu i : Nat) (g : Nat → Int32), i + r = T → r < fu → ∃ g2, g_labelBy_59 fu (nI s) (nI n) (nI i) (mi st g sl) = some (mi st g2 sl) ∧ (∀ j, i ≤ j → j < T → g2 (128 * s + 28 + n + j) = st.2.1 22 j) ∧ g2 (128 * s + 4) = nI (n + T) ∧ ∀ j, j ≠ 128 * s + 4 → j < 128 * s + 28 + n + i ∨ 128 * s + 28 + n + T ≤ j → g2 j = g j := by
  intro r
  induction r with
  | zero =>
    intro fu i g h1 h2
    obtain ⟨fu, rfl⟩ : ∃ f, fu = f + 1 := ⟨fu - 1, by omega⟩
    refine ⟨upd g (128 * s + 4) (nI (n + T)), ?_, fun i q1 q2 => by omega, upd_s, fun j q1 q2 => upd_n q1⟩
    unfold g_labelBy_59
    rw [show (mi st g sl).1 23 = nI T from hT, if_pos (nI_le (by omega) (by omega)), nI_add, show g_set (nI s) 4 (nI (n + T)) (mi st g sl) = _ from mi_set (o := 4) _ hs (by decide), Option.bind_some]
  | succ r ih =>
    intro fu i g h1 h2
    obtain ⟨fu, rfl⟩ : ∃ f, fu = f + 1 := ⟨fu - 1, by omega⟩
    unfold g_labelBy_59
    rw [show (mi st g sl).1 23 = nI T from hT, if_neg (nI_ge (by omega) (by omega)), mp_ld (by omega) (by decide), mi_k (by decide) (by decide), show (28 : Int32) = nI 28 from rfl, nI_add, nI_add, mi_set _ hs (by omega), Option.bind_some, nI_1]
    obtain ⟨g2, a1, a2, a3, a4⟩ := ih fu (i + 1) (upd g (128 * s + (28 + n + i)) (st.2.1 22 i)) (by omega) (by omega)
    refine ⟨g2, a1, fun j q1 q2 => ?_, a3, fun j q1 hj => by rw [a4 j q1 (by omega), upd_n (by omega)]⟩
    by_cases e : j = i
    · rw [e, a4 _ (by omega) (by omega), show 128 * s + 28 + n + i = 128 * s + (28 + n + i) by omega, upd_s]
    · exact a2 j (by omega) q2
/-- how many of r places from k on hold v -/
def cntW (w : Nat → Int32) (v : Int32) : Nat → Nat → Nat
  | 0, _ => 0
  | r + 1, k => (if w (128 * k + 2) = v then 1 else 0) + cntW w v r (k + 1)
theorem cntW_le {w : Nat → Int32} {v : Int32} : ∀ (r k : Nat), cntW w v r k ≤ r := by
  intro r
  induction r with
  | zero => intro k; exact Nat.le_refl _
  | succ r ih =>
    intro k
    have := ih (k + 1)
    unfold cntW
    split <;> omega
theorem rm_lbn {g sl : Nat → Int32} {s n x : Nat} (hs : s < 40) (hx : x < 40) (hn : n + 1 ≤ 16) : ∀ (r fu k c : Nat), k + r = x → r < fu → g_labelBy_114 fu (nI s) (nI x) (nI n) (nI c) (nI k) (mi st g sl) = some (mi st (upd (upd g (128 * s + (28 + n)) (2 * nI (c + cntW (st.2.1 2) (st.2.1 2 (128 * x + 2)) r k) + 1)) (128 * s + 4) (nI (n + 1))) sl) := by
  have e2 : ∀ k, (128 : Int32) * nI k + 2 = nI (128 * k + 2) := fun k => e128 (o := 2)
  intro r
  induction r with
  | zero =>
    intro fu k c h1 h2
    obtain ⟨fu, rfl⟩ : ∃ f, fu = f + 1 := ⟨fu - 1, by omega⟩
    unfold g_labelBy_114
    rw [if_pos (nI_le (by omega) (by omega)), show (28 : Int32) = nI 28 from rfl, nI_add, mi_set _ hs (by omega), Option.bind_some, nI_1, show g_set (nI s) 4 (nI (n + 1)) (mi st _ sl) = _ from mi_set (o := 4) _ hs (by decide), Option.bind_some]
    rfl
  | succ r ih =>
    intro fu k c h1 h2
    obtain ⟨fu, rfl⟩ : ∃ f, fu = f + 1 := ⟨fu - 1, by omega⟩
    unfold g_labelBy_114 g_labelBy_157
    rw [if_neg (nI_ge (by omega) (by omega)), e2, e2, mp_ld (by omega) (by decide), mp_ld (by omega) (by decide), mi_k (by decide) (by decide), nI_1, nI_1]
    unfold cntW
    by_cases q : st.2.1 2 (128 * k + 2) = st.2.1 2 (128 * x + 2)
    · rw [if_pos q, if_pos q, ih fu (k + 1) (c + 1) (by omega) (by omega), Nat.add_assoc]
    · rw [if_neg q, if_neg q, ih fu (k + 1) c (by omega) (by omega), Nat.zero_add]
end QN1
-- the reference puts nodes in
def nB (x : nd) : Prop := x.2.2.2.1.length ≤ 16 ∧ x.2.2.2.2.1.length ≤ 3 ∧ (∀ q ∈ x.2.2.2.2.1, q.1.length ≤ 6 ∧ q.2.length ≤ 20) ∧ x.2.2.2.2.2.length ≤ 20
theorem md_row_cg {g g2 : Nat → Int32} {s : Nat} {x : nd} {ps : Int32} (b : nB x) (h : ∀ i, 128 * s ≤ i → i < 128 * s + 128 → g2 i = g i) (r : md_row g s x ps) : md_row g2 s x ps := by
  obtain ⟨o1, o2, o3, o4⟩ := b
  obtain ⟨b1, b2, b3, b4, b5, b6, b7, b8, b9⟩ := r
  refine ⟨(h _ (by omega) (by omega)).trans b1, (h _ (by omega) (by omega)).trans b2, (h _ (by omega) (by omega)).trans b3, (h _ (by omega) (by omega)).trans b4, (h _ (by omega) (by omega)).trans b5, (h _ (by omega) (by omega)).trans b6, fun j hj => (h _ (by omega) (by omega)).trans (b7 j hj), fun j hj => (h _ (by omega) (by omega)).trans (b8 j hj), fun a ha => ?_⟩
  obtain ⟨c1, c2, c3, c4⟩ := b9 a ha
  have hl := o3 _ (getD_mem' (d := ([], [])) ha)
  exact ⟨(h _ (by omega) (by omega)).trans c1, fun j hj => (h _ (by omega) (by omega)).trans (c2 j hj), (h _ (by omega) (by omega)).trans c3, fun j hj => (h _ (by omega) (by omega)).trans (c4 j hj)⟩
theorem getD_app {α : Type} {t u : List α} {d : α} {j : Nat} (h : t.length ≤ j) : (t ++ u).getD j d = u.getD (j - t.length) d := by rw [List.getD_eq_getElem?_getD, List.getElem?_append_right h, ← List.getD_eq_getElem?_getD]
section QN2
variable {st : mT}
/-- where the parent's label stands -/
def lbU (g : Nat → Int32) (s : Nat) (x2 : Int32) (lp : List Int32) : Prop := (x2 = -1 ∧ lp = []) ∨ ∃ u, x2 = nI u ∧ u < 40 ∧ s ≠ u ∧ g (128 * u + 4) = nI lp.length ∧ ∀ j, j < lp.length → g (128 * u + 28 + j) = lp.getD j 0
theorem rm_lb {g sl : Nat → Int32} {s x : Nat} {x2 : Int32} {lp R : List Int32} (hs : s < 40) (hx : x < 40) (hu : lbU g s x2 lp) (hl : lp.length + R.length ≤ 16) (hR : (x = 0 ∧ st.1 23 = nI R.length ∧ ∀ i, i < R.length → st.2.1 22 i = R.getD i 0) ∨ (0 < x ∧ R = [2 * nI (cntW (st.2.1 2) (st.2.1 2 (128 * x + 2)) x 0) + 1])) : ∃ g2, g_labelBy (nI s) x2 (nI x) (mi st g sl) = some (mi st g2 sl) ∧ g2 (128 * s + 4) = nI (lp ++ R).length ∧ (∀ i, i < (lp ++ R).length → g2 (128 * s + 28 + i) = (lp ++ R).getD i 0) ∧ ∀ i, i ≠ 128 * s + 4 → i < 128 * s + 28 ∨ 128 * s + 44 ≤ i → g2 i = g i := by
  -- behind the parent's label
  have tl : ∀ g1 : Nat → Int32, (∀ j, j < lp.length → g1 (128 * s + 28 + j) = lp.getD j 0) → (∀ j, j < 128 * s + 28 ∨ 128 * s + 28 + lp.length ≤ j → g1 j = g j) → ∃ g2, (if nI x = 0 then g_labelBy_59 mF (nI s) (nI lp.length) 0 (mi st g1 sl) else g_labelBy_114 mF (nI s) (nI x) (nI lp.length) 0 0 (mi st g1 sl)) = some (mi st g2 sl) ∧ g2 (128 * s + 4) = nI (lp ++ R).length ∧ (∀ i, i < (lp ++ R).length → g2 (128 * s + 28 + i) = (lp ++ R).getD i 0) ∧ ∀ i, i ≠ 128 * s + 4 → i < 128 * s + 28 ∨ 128 * s + 44 ≤ i → g2 i = g i := fun g1 a1 a2 => by
    rw [List.length_append]
    rcases hR with ⟨r1, r2, r3⟩ | ⟨r1, r2⟩
    · subst r1
      rw [if_pos (show nI 0 = 0 from rfl)]
      obtain ⟨g2, c1, c2, c3, c4⟩ := rm_lbt (st := st) (sl := sl) (s := s) (n := lp.length) (T := R.length) hs r2 hl R.length mF 0 g1 (by omega) (by unfold mF; omega)
      refine ⟨g2, c1, c3, fun i hi => ?_, fun i q1 q2 => by rw [c4 i q1 (by omega), a2 i (by omega)]⟩
      by_cases e : i < lp.length
      · rw [c4 _ (by omega) (by omega), a1 i e, getD_left e]
      · have := c2 (i - lp.length) (Nat.zero_le _) (by omega)
        rw [show 128 * s + 28 + lp.length + (i - lp.length) = 128 * s + 28 + i by omega, r3 _ (by omega)] at this
        rw [this, getD_app (by omega)]
    · rw [if_neg (show ¬ nI x = 0 from fun w => by have := (nI_eq (b := 0) (by omega) (by decide)).mp w; omega)]
      have e1 : R.length = 1 := by rw [r2]; rfl
      have c1 := rm_lbn (st := st) (g := g1) (sl := sl) (s := s) (n := lp.length) (x := x) hs hx (by omega) x mF 0 0 (by omega) (by unfold mF; omega)
      change g_labelBy_114 mF (nI s) (nI x) (nI lp.length) 0 0 (mi st g1 sl) = _ at c1
      rw [Nat.zero_add] at c1
      refine ⟨_, c1, by rw [upd_s, e1], fun i hi => ?_, fun i q1 q2 => by rw [upd_n q1, upd_n (by omega), a2 i (by omega)]⟩
      rw [upd_n (by omega)]
      by_cases e : i < lp.length
      · rw [upd_n (by omega), a1 i e, getD_left e]
      · have e3 : i = lp.length := by omega
        subst e3
        rw [show 128 * s + 28 + lp.length = 128 * s + (28 + lp.length) by omega, upd_s, getD_app (Nat.le_refl _), Nat.sub_self, r2]
        rfl
  rcases hu with ⟨u1, u2⟩ | ⟨u, u1, u2, u3, u4, u5⟩
  · subst u1 u2
    unfold g_labelBy g_labelBy_14
    rw [if_neg (by decide), show mF = 5999 + 1 from rfl]
    unfold g_labelBy_19
    rw [if_pos (by decide)]
    exact tl g (fun j hj => absurd hj (by simp)) (fun _ _ => rfl)
  · subst u1
    unfold g_labelBy g_labelBy_14
    rw [if_pos (show (0 : Int32) ≤ nI u from nI_le (a := 0) (Nat.zero_le _) (by omega)), show g_f (nI u) 4 (mi st g sl) = some (g (128 * u + 4), mi st g sl) from mi_f (o := 4) u2 (by decide), Option.bind_some, u4]
    simp only []
    obtain ⟨g1, c1, c2, c3⟩ := rm_lbc (st := st) (x3 := nI x) (sl := sl) (n := lp.length) hs u2 u3 (by omega) lp.length mF 0 g (by omega) (by unfold mF; omega)
    change g_labelBy_19 mF (nI s) (nI u) (nI x) (nI lp.length) 0 (mi st g sl) = _ at c1
    rw [c1]
    exact tl g1 (fun j hj => by rw [c2 j (Nat.zero_le _) hj]; exact u5 j hj) (fun j hj => c3 j (by omega))
def iPs (d : Nat → Nat) (po : Option Nat) (σ : Nat → Nat) (w : wn) : Int32 := match w.2.1 with
  | some j => nI (σ j)
  | none => match po with
    | some p => nI (d p)
    | none => -1
/-- j of the nodes W have been put in, the i-th in row σ i -/
def iI (g sl : Nat → Int32) (n : Nat) (d : Nat → Nat) (D : Nat → nd) (sp mk : Nat) (po : Option Nat) (W : List wn) (j : Nat) (σ : Nat → Nat) : Prop :=
  g 5160 = nI n ∧ (∀ i, i < sp → g (5120 + i) = nI (d i)) ∧ (∀ i, i < j → g (5120 + sp + i) = nI (σ i)) ∧ (∀ i, sp ≤ i → i < n → g (5120 + i + W.length) = nI (d i)) ∧ (∀ i, i < j → σ i < 40 ∧ sl i = nI (σ i)) ∧ (∀ i, i < j → ∀ k, k < n → σ i ≠ d k) ∧ (∀ i k, i < j → k < j → σ i = σ k → i = k) ∧ (∀ k, k < n → md_row g (d k) (D k) (md_ps d (D k))) ∧ (∀ i, i < j → md_row g (σ i) (nd_w mk sp po i (W.getD i wn0)) (iPs d po σ (W.getD i wn0))) ∧ ∀ s, s < 40 → (∀ k, k < n → d k ≠ s) → (∀ i, i < j → σ i ≠ s) → g (128 * s) = 0
def lPo (D : Nat → nd) (po : Option Nat) : List Int32 := match po with
  | some p => (D p).2.2.2.1
  | none => []
/-- what the rows of W and its labels are -/
def iW (st : mT) (n : Nat) (D : Nat → nd) (po : Option Nat) (W : List wn) : Prop := ∀ i, i < W.length → wR (st.2.1 2) i (W.getD i wn0).1 (wPs (W.getD i wn0).2.1) (W.getD i wn0).2.2.2.2.1 (W.getD i wn0).2.2.2.2.2 ∧ ((W.getD i wn0).2.2.2.2.1.length ≤ 3 ∧ (∀ q ∈ (W.getD i wn0).2.2.2.2.1, q.1.length ≤ 6 ∧ q.2.length ≤ 20) ∧ (W.getD i wn0).2.2.2.2.2.length ≤ 20) ∧ (W.getD i wn0).2.2.2.1.length ≤ 16 ∧ ((i = 0 ∧ (W.getD i wn0).2.1 = none ∧ ∃ T : List Int32, st.1 23 = nI T.length ∧ (∀ i, i < T.length → st.2.1 22 i = T.getD i 0) ∧ (W.getD i wn0).2.2.2.1 = lPo D po ++ T) ∨ (0 < i ∧ ∃ p, (W.getD i wn0).2.1 = some p ∧ p < i ∧ (W.getD i wn0).2.2.2.1 = (W.getD p wn0).2.2.2.1 ++ [2 * nI (cntW (st.2.1 2) (st.2.1 2 (128 * i + 2)) i 0) + 1]))
theorem rm_put1 {x1 : Int32} {g sl : Nat → Int32} {n : Nat} {d : Nat → Nat} {D : Nat → nd} {sp mk : Nat} {po : Option Nat} {W : List wn} {j : Nat} {σ : Nat → Nat} (hL : st.1 10 = nI W.length) (hmk : st.1 4 = nI mk) (hmk2 : mk + W.length ≤ 200) (hn : n + W.length ≤ 40) (hsp : sp ≤ n) (hd : ∀ k, k < n → d k < 40) (hpo : (po = none ∧ x1 = -1) ∨ ∃ pp, po = some pp ∧ pp < n ∧ x1 = nI (d pp)) (hB : ∀ k, k < n → nB (D k) ∧ (D k).1 < mk) (hW : iW st n D po W) (hj : j < W.length) (I : iI g sl n d D sp mk po W j σ) (fu : Nat) : ∃ g2 sl2 σ2, g_install_45 (fu + 1) x1 (nI sp) (nI j) (mi st g sl) = g_install_45 fu x1 (nI sp) (nI (j + 1)) (mi st g2 sl2) ∧ iI g2 sl2 n d D sp mk po W (j + 1) σ2 := by
  obtain ⟨i1, i2, i3, i4, i5, i6, i7, i8, i9, i10⟩ := I
  obtain ⟨w1, w2, w3, w4⟩ := hW j hj
  -- a free row
  have ⟨s0, f1, f2⟩ := free_of 40 (n + j) (fun i => if i < n then d i else σ (i - n)) (by omega)
  have fd : ∀ k, k < n → d k ≠ s0 := fun k hk => by
    have := f2 k (by omega)
    rw [if_pos hk] at this
    exact this
  have fs : ∀ i, i < j → σ i ≠ s0 := fun i hi => by
    have := f2 (n + i) (by omega)
    rw [if_neg (by omega), show n + i - n = i by omega] at this
    exact this
  obtain ⟨s, _, hs, s3, s4⟩ := rm_free (st := st) (k45 := g_install_45 fu) (x1 := x1) (x2 := nI sp) (x3 := nI j) (g := g) (sl := sl) 40 mF 0 (by omega) (by unfold mF; omega) ⟨s0, Nat.zero_le _, f1, i10 s0 f1 fd fs⟩
  have nz : ∀ v : Nat, v < 1000 → nI (v + 1) ≠ 0 := fun v hv w => by
    have := (nI_eq (b := 0) (by omega) (by decide)).mp w
    omega
  have hsd : ∀ k, k < n → d k ≠ s := fun k hk e => by
    have := (i8 k hk).1
    rw [e, s3] at this
    exact nz _ (by have := (hB k hk).2; omega) this.symm
  have hss : ∀ i, i < j → σ i ≠ s := fun i hi e => by
    have := (i9 i hi).1
    rw [e, s3] at this
    exact nz (mk + i) (by omega) this.symm
  -- its parent
  have hps : ∃ w0 lp, ((st.2.1 2 (128 * j + 2) < 0 ∧ w0 = x1) ∨ ∃ q, q < 40 ∧ st.2.1 2 (128 * j + 2) = nI q ∧ sl q = w0) ∧ iPs d po σ (W.getD j wn0) = w0 ∧ lbU g s w0 lp ∧ ∃ R, (W.getD j wn0).2.2.2.1 = lp ++ R ∧ ((j = 0 ∧ st.1 23 = nI R.length ∧ ∀ i, i < R.length → st.2.1 22 i = R.getD i 0) ∨ (0 < j ∧ R = [2 * nI (cntW (st.2.1 2) (st.2.1 2 (128 * j + 2)) j 0) + 1])) := by
    have e2 : st.2.1 2 (128 * j + 2) = wPs (W.getD j wn0).2.1 := w1.2.1
    rcases w4 with ⟨p1, p2, T, p3, p4, p5⟩ | ⟨p1, p, p2, p3, p4⟩
    · rw [p2] at e2
      refine ⟨x1, lPo D po, Or.inl ⟨by rw [e2]; decide, rfl⟩, ?_, ?_, T, p5, Or.inl ⟨p1, p3, p4⟩⟩
      · unfold iPs
        rw [p2]
        rcases hpo with ⟨h1, h2⟩ | ⟨pp, h1, h2, h3⟩
        · rw [h1, h2]
        · rw [h1, h3]
      · rcases hpo with ⟨h1, h2⟩ | ⟨pp, h1, h2, h3⟩
        · rw [h1]
          exact Or.inl ⟨h2, rfl⟩
        · rw [h1]
          have r := i8 pp h2
          exact Or.inr ⟨d pp, h3, hd pp h2, fun e => hsd pp h2 e.symm, r.2.2.2.2.1, r.2.2.2.2.2.2.2.1⟩
    · rw [p2] at e2
      have r := i9 p p3
      refine ⟨nI (σ p), (W.getD p wn0).2.2.2.1, Or.inr ⟨p, by omega, e2, (i5 p p3).2⟩, ?_, Or.inr ⟨σ p, rfl, (i5 p p3).1, fun e => hss p p3 e.symm, r.2.2.2.2.1, r.2.2.2.2.2.2.2.1⟩, _, p4, Or.inr ⟨p1, rfl⟩⟩
      unfold iPs
      rw [p2]
  obtain ⟨w0, lp, q1, q2, q3, R, q4, q5⟩ := hps
  obtain ⟨g2, c1, c2, c3⟩ := rm_copy (st := st) (k45 := g_install_45 fu) (x1 := x1) (x2 := nI sp) (sl := sl) (k := j) (s := s) (by omega) hs q1 128 mF 0 g (by omega) (by unfold mF; omega)
  have g3 : ∀ i, i < 128 * s ∨ 128 * s + 128 ≤ i → i ≠ 5120 + sp + j → upd (upd (upd g2 (128 * s + 0) (nI (mk + j + 1))) (128 * s + 2) w0) (5120 + sp + j) (nI s) i = g i := fun i h1 h2 => by rw [upd_n h2, upd_n (by omega), upd_n (by omega), c3 i (by omega)]
  have g3r : ∀ i, i < 128 → i ≠ 0 → i ≠ 2 → upd (upd (upd g2 (128 * s + 0) (nI (mk + j + 1))) (128 * s + 2) w0) (5120 + sp + j) (nI s) (128 * s + i) = st.2.1 2 (128 * j + i) := fun i h1 h2 h3 => by rw [upd_n (by omega), upd_n (by omega), upd_n (by omega), c2 i (Nat.zero_le _) h1]
  have g30 : upd (upd (upd g2 (128 * s + 0) (nI (mk + j + 1))) (128 * s + 2) w0) (5120 + sp + j) (nI s) (128 * s) = nI (mk + j + 1) := by rw [upd_n (by omega), upd_n (by omega)]; exact upd_s
  have g32 : upd (upd (upd g2 (128 * s + 0) (nI (mk + j + 1))) (128 * s + 2) w0) (5120 + sp + j) (nI s) (128 * s + 2) = w0 := by rw [upd_n (by omega), upd_s]
  have g3d : upd (upd (upd g2 (128 * s + 0) (nI (mk + j + 1))) (128 * s + 2) w0) (5120 + sp + j) (nI s) (5120 + sp + j) = nI s := upd_s
  have step : g_install_45 (fu + 1) x1 (nI sp) (nI j) (mi st g sl) = (g_labelBy (nI s) w0 (nI j) (mi st (upd (upd (upd g2 (128 * s + 0) (nI (mk + j + 1))) (128 * s + 2) w0) (5120 + sp + j) (nI s)) (upd sl j (nI s)))).bind (fun q16 => g_install_45 fu x1 (nI sp) (nI (j + 1)) q16) := by
    have u : g_install_45 (fu + 1) x1 (nI sp) (nI j) (mi st g sl) = g_install_56 (g_install_45 fu) mF x1 (nI sp) (nI j) 0 (mi st g sl) := by
      conv => lhs; unfold g_install_45
      rw [show (mi st g sl).1 10 = nI W.length from hL, if_neg (nI_ge (by omega) (by omega))]
    rw [u, show g_install_56 (g_install_45 fu) mF x1 (nI sp) (nI j) 0 (mi st g sl) = _ from s4, show g_install_75 (g_install_45 fu) mF x1 (nI sp) (nI j) (nI s) 0 (mi st g sl) = _ from c1]
    unfold g_install_146
    rw [show (mi st g2 sl).1 4 = nI mk from hmk, nI_add, nI_1, show g_set (nI s) 0 (nI (mk + j + 1)) (mi st g2 sl) = _ from mi_set (o := 0) _ hs (by decide), Option.bind_some, show g_set (nI s) 2 w0 (mi st _ sl) = _ from mi_set (o := 2) _ hs (by decide), Option.bind_some, mp_ix (by omega) (by decide)]
    simp only [mm_lt, mi_G3]
    rw [show (5120 : Int32) = nI 5120 from rfl, nI_add, nI_add, mp_ix (by omega) (by decide), mi_G0, nI_1]
  generalize upd (upd (upd g2 (128 * s + 0) (nI (mk + j + 1))) (128 * s + 2) w0) (5120 + sp + j) (nI s) = gg at g3 g3r g30 g32 g3d step
  have hu : lbU gg s w0 lp := by
    rcases q3 with q3 | ⟨u, u1, u2, u3, u4, u5⟩
    · exact Or.inl q3
    · refine Or.inr ⟨u, u1, u2, u3, by rw [g3 _ (by omega) (by omega)]; exact u4, fun k hk => ?_⟩
      have : lp.length ≤ 16 := by
        have := w3
        rw [q4, List.length_append] at this
        omega
      rw [g3 _ (by omega) (by omega)]
      exact u5 k hk
  have ll := w3
  rw [q4, List.length_append] at ll
  obtain ⟨g4, e1, e2, e3, e4⟩ := rm_lb (st := st) (sl := upd sl j (nI s)) (x := j) hs (by omega) hu ll q5
  rw [← q4] at e2 e3
  have f4 : ∀ i, i < 128 * s ∨ 128 * s + 128 ≤ i → i ≠ 5120 + sp + j → g4 i = g i := fun i h1 h2 => by rw [e4 i (by omega) (by omega), g3 i h1 h2]
  have f4r : ∀ i, i < 128 → i ≠ 0 → i ≠ 2 → i ≠ 4 → i < 28 ∨ 44 ≤ i → g4 (128 * s + i) = st.2.1 2 (128 * j + i) := fun i h1 h2 h3 h4 h5 => by rw [e4 _ (by omega) (by omega), g3r i h1 h2 h3]
  refine ⟨g4, upd sl j (nI s), fun i => if i = j then s else σ i, by rw [step, e1, Option.bind_some], ?_⟩
  have σj : (fun i => if i = j then s else σ i) j = s := if_pos rfl
  have σn : ∀ i, i ≠ j → (fun i => if i = j then s else σ i) i = σ i := fun i hi => if_neg hi
  have psE : ∀ i, i ≤ j → iPs d po (fun i => if i = j then s else σ i) (W.getD i wn0) = iPs d po σ (W.getD i wn0) := fun i hi => by
    unfold iPs
    rcases (hW i (by omega)).2.2.2 with ⟨_, p2, _⟩ | ⟨_, p, p2, p3, _⟩
    · rw [p2]
    · rw [p2]
      simp only []
      rw [if_neg (by omega)]
  refine ⟨by rw [f4 _ (by omega) (by omega)]; exact i1, fun i hi => by rw [f4 _ (by omega) (by omega)]; exact i2 i hi, fun i hi => ?_, fun i h1 h2 => by rw [f4 _ (by omega) (by omega)]; exact i4 i h1 h2, fun i hi => ?_, fun i hi k hk => ?_, fun i k hi hk e => ?_, fun k hk => md_row_cg (hB k hk).1 (fun i h1 h2 => f4 i (by have := hsd k hk; have := hd k hk; omega) (by have := hd k hk; omega)) (i8 k hk), fun i hi => ?_, fun t ht hd2 hs2 => ?_⟩
  · by_cases e : i = j
    · rw [e, σj, e4 _ (by omega) (by omega), g3d]
    · rw [f4 _ (by omega) (by omega), σn i e]
      exact i3 i (by omega)
  · by_cases e : i = j
    · rw [e, σj, upd_s]
      exact ⟨hs, rfl⟩
    · rw [σn i e, upd_n e]
      exact i5 i (by omega)
  · by_cases e : i = j
    · rw [e, σj]
      exact fun w => hsd k hk w.symm
    · rw [σn i e]
      exact i6 i (by omega) k hk
  · by_cases e1 : i = j
    · by_cases e2 : k = j
      · omega
      · rw [e1, σj, σn k e2] at e
        exact absurd e.symm (hss k (by omega))
    · by_cases e2 : k = j
      · rw [e2, σj, σn i e1] at e
        exact absurd e (hss i (by omega))
      · rw [σn i e1, σn k e2] at e
        exact i7 i k (by omega) (by omega) e
  · rw [psE i (by omega)]
    by_cases e : i = j
    · subst e
      rw [σj, q2]
      obtain ⟨a1, a2, a3, a5, a6, a7, a8⟩ := w1
      have at3 := w2.1
      have at6 := w2.2.1
      have tx20 := w2.2.2
      refine ⟨by rw [e4 _ (by omega) (by omega)]; exact g30, (f4r 1 (by omega) (by omega) (by omega) (by omega) (by omega)).trans a1, by rw [e4 _ (by omega) (by omega)]; exact g32, (f4r 3 (by omega) (by omega) (by omega) (by omega) (by omega)).trans a3, e2, (f4r 5 (by omega) (by omega) (by omega) (by omega) (by omega)).trans a5, fun k hk => ?_, fun k hk => e3 k hk, fun a ha => ?_⟩
      · have hk2 : k < (W.getD i wn0).2.2.2.2.2.length := hk
        rw [show 128 * s + 8 + k = 128 * s + (8 + k) by omega, f4r _ (by omega) (by omega) (by omega) (by omega) (by omega), ← Nat.add_assoc]
        exact a6 k hk
      · have ha2 : a < (W.getD i wn0).2.2.2.2.1.length := ha
        obtain ⟨c1, c2, c3, c4⟩ := a7 a ha
        have hl := at6 _ (getD_mem' (d := ([], [])) ha2)
        refine ⟨(f4r _ (by omega) (by omega) (by omega) (by omega) (by omega)).trans c1, fun k hk => ?_, ?_, fun k hk => ?_⟩
        · have hk2 : k < ((W.getD i wn0).2.2.2.2.1.getD a ([], [])).1.length := hk
          rw [show 128 * s + (45 + 28 * a) + k = 128 * s + (45 + 28 * a + k) by omega, f4r _ (by omega) (by omega) (by omega) (by omega) (by omega), show 128 * i + (45 + 28 * a + k) = 128 * i + (44 + 28 * a) + 1 + k by omega]
          exact c2 k hk
        · rw [f4r _ (by omega) (by omega) (by omega) (by omega) (by omega), show 128 * i + (51 + 28 * a) = 128 * i + (44 + 28 * a) + 7 by omega]
          exact c3
        · have hk2 : k < ((W.getD i wn0).2.2.2.2.1.getD a ([], [])).2.length := hk
          rw [show 128 * s + (52 + 28 * a) + k = 128 * s + (52 + 28 * a + k) by omega, f4r _ (by omega) (by omega) (by omega) (by omega) (by omega), show 128 * i + (52 + 28 * a + k) = 128 * i + (44 + 28 * a) + 8 + k by omega]
          exact c4 k hk
    · rw [σn i e]
      have hi2 : i < j := by omega
      have wi := hW i (by omega)
      have b1 := hss i hi2
      have b2 := (i5 i hi2).1
      exact md_row_cg (x := nd_w mk sp po i (W.getD i wn0)) ⟨wi.2.2.1, wi.2.1.1, wi.2.1.2.1, wi.2.1.2.2⟩ (fun k h1 h2 => f4 k (by omega) (by omega)) (i9 i hi2)
  · have ts : s ≠ t := fun e => hs2 j (by omega) (by rw [σj]; exact e)
    rw [f4 _ (by omega) (by omega)]
    refine i10 t ht hd2 (fun i hi => ?_)
    have := hs2 i (by omega)
    rw [σn i (by omega)] at this
    exact this
end QN2
-- the reference puts nodes in: all of them
def iD (d σ : Nat → Nat) (sp L k : Nat) : Nat := if k < sp then d k else if k < sp + L then σ (k - sp) else d (k - L)
section QN3
variable {st : mT}
theorem rm_putL {x1 : Int32} {n : Nat} {d : Nat → Nat} {D : Nat → nd} {sp mk : Nat} {po : Option Nat} {W : List wn} (hL : st.1 10 = nI W.length) (hmk : st.1 4 = nI mk) (hmk2 : mk + W.length ≤ 200) (hn : n + W.length ≤ 40) (hsp : sp ≤ n) (hd : ∀ k, k < n → d k < 40) (hpo : (po = none ∧ x1 = -1) ∨ ∃ pp, po = some pp ∧ pp < n ∧ x1 = nI (d pp)) (hB : ∀ k, k < n → nB (D k) ∧ (D k).1 < mk) (hW : iW st n D po W) : ∀ (r fu j : Nat) (g sl : Nat → Int32) (σ : Nat → Nat), j + r = W.length → r < fu → iI g sl n d D sp mk po W j σ → ∃ g2 sl2 σ2 fu2, g_install_45 fu x1 (nI sp) (nI j) (mi st g sl) = g_install_45 (fu2 + 1) x1 (nI sp) (nI W.length) (mi st g2 sl2) ∧ iI g2 sl2 n d D sp mk po W W.length σ2 := by
  intro r
  induction r with
  | zero =>
    intro fu j g sl σ h1 h2 I
    obtain ⟨fu, rfl⟩ : ∃ f, fu = f + 1 := ⟨fu - 1, by omega⟩
    obtain rfl : j = W.length := by omega
    exact ⟨g, sl, σ, fu, rfl, I⟩
  | succ r ih =>
    intro fu j g sl σ h1 h2 I
    obtain ⟨fu, rfl⟩ : ∃ f, fu = f + 1 := ⟨fu - 1, by omega⟩
    obtain ⟨g2, sl2, σ2, a1, a2⟩ := rm_put1 hL hmk hmk2 hn hsp hd hpo hB hW (by omega) I fu
    rw [a1]
    exact ih fu (j + 1) g2 sl2 σ2 (by omega) (by omega) a2
theorem iI.md {g sl : Nat → Int32} {n mk : Nat} {d : Nat → Nat} {D : Nat → nd} {sp : Nat} {po : Option Nat} {W : List wn} {σ : Nat → Nat} (I : iI g sl n d D sp mk po W W.length σ) (hn : n + W.length ≤ 40) (hsp : sp ≤ n) (hd : ∀ k, k < n → d k < 40) (hdi : ∀ i j, i < n → j < n → d i = d j → i = j) (hpa : ∀ k, k < n → ∀ p, (D k).2.2.1 = some p → p < k) (hpo : ∀ pp, po = some pp → pp < sp) (hWp : ∀ i, i < W.length → ∀ p, (W.getD i wn0).2.1 = some p → p < i) (hB : ∀ k, k < n → nB (D k)) (hWB : ∀ i, i < W.length → nB (nd_w mk sp po i (W.getD i wn0))) : md (upd g 5160 (nI (n + W.length))) (n + W.length) (iD d σ sp W.length) (nd_ins D sp mk po W) := by
  obtain ⟨i1, i2, i3, i4, i5, i6, i7, i8, i9, i10⟩ := I
  have dl : ∀ k, k < sp → iD d σ sp W.length k = d k := fun k h => if_pos h
  have dm : ∀ i, i < W.length → iD d σ sp W.length (sp + i) = σ i := fun i h => by unfold iD; rw [if_neg (by omega), if_pos (by omega), show sp + i - sp = i by omega]
  have dr : ∀ k, sp ≤ k → iD d σ sp W.length (k + W.length) = d k := fun k h => by unfold iD; rw [if_neg (by omega), if_neg (by omega), show k + W.length - W.length = k by omega]
  have cs : ∀ k, k < n + W.length → k < sp ∨ (∃ i, i < W.length ∧ k = sp + i) ∨ ∃ i, sp ≤ i ∧ i < n ∧ k = i + W.length := fun k hk => by
    by_cases q : k < sp
    · exact Or.inl q
    · by_cases q2 : k < sp + W.length
      · exact Or.inr (Or.inl ⟨k - sp, by omega, by omega⟩)
      · exact Or.inr (Or.inr ⟨k - W.length, by omega, by omega, by omega⟩)
  have nl : ∀ k, k < sp → nd_ins D sp mk po W k = D k := fun k h => if_pos h
  have nm : ∀ i, i < W.length → nd_ins D sp mk po W (sp + i) = nd_w mk sp po i (W.getD i wn0) := fun i h => by unfold nd_ins; rw [if_neg (by omega), if_pos (by omega), show sp + i - sp = i by omega]
  have nr : ∀ k, sp ≤ k → nd_ins D sp mk po W (k + W.length) = nd_mv sp W.length (D k) := fun k h => by unfold nd_ins; rw [if_neg (by omega), if_neg (by omega), show k + W.length - W.length = k by omega]
  have u : ∀ i, i < 5160 → upd g 5160 (nI (n + W.length)) i = g i := fun i h => upd_n (by omega)
  refine ⟨hn, upd_s, fun k hk => ?_, fun a b ha hb e => ?_, fun k hk => ?_, fun s hs hf => ?_⟩
  · rcases cs k hk with q | ⟨i, h1, rfl⟩ | ⟨i, h1, h2, rfl⟩
    · rw [dl k q, u _ (by omega)]
      exact ⟨hd k (by omega), i2 k q⟩
    · rw [dm i h1, u _ (by omega), ← Nat.add_assoc]
      exact ⟨(i5 i h1).1, i3 i h1⟩
    · rw [dr i h1, u _ (by omega), ← Nat.add_assoc]
      exact ⟨hd i h2, i4 i h1 h2⟩
  · rcases cs a ha with q | ⟨i, h1, rfl⟩ | ⟨i, h1, h2, rfl⟩
    · rcases cs b hb with q2 | ⟨i2, h3, rfl⟩ | ⟨i2, h3, h4, rfl⟩
      · rw [dl a q, dl b q2] at e
        exact hdi a b (by omega) (by omega) e
      · rw [dl a q, dm i2 h3] at e
        exact absurd e.symm (i6 i2 h3 a (by omega))
      · rw [dl a q, dr i2 h3] at e
        have := hdi a i2 (by omega) h4 e
        omega
    · rcases cs b hb with q2 | ⟨i2, h3, rfl⟩ | ⟨i2, h3, h4, rfl⟩
      · rw [dm i h1, dl b q2] at e
        exact absurd e (i6 i h1 b (by omega))
      · rw [dm i h1, dm i2 h3] at e
        rw [i7 i i2 h1 h3 e]
      · rw [dm i h1, dr i2 h3] at e
        exact absurd e (i6 i h1 i2 h4)
    · rcases cs b hb with q2 | ⟨i2, h3, rfl⟩ | ⟨i2, h3, h4, rfl⟩
      · rw [dr i h1, dl b q2] at e
        have := hdi i b h2 (by omega) e
        omega
      · rw [dr i h1, dm i2 h3] at e
        exact absurd e.symm (i6 i2 h3 i h2)
      · rw [dr i h1, dr i2 h3] at e
        rw [hdi i i2 h2 h4 e]
  · rcases cs k hk with q | ⟨i, h1, rfl⟩ | ⟨i, h1, h2, rfl⟩
    · rw [dl k q, nl k q]
      have e : md_ps (iD d σ sp W.length) (D k) = md_ps d (D k) := by
        unfold md_ps
        cases hp : (D k).2.2.1 with
        | none => rfl
        | some p => simp only []; rw [dl p (by have := hpa k (by omega) p hp; omega)]
      rw [e]
      exact md_row_cg (hB k (by omega)) (fun i h1 h2 => u i (by have := hd k (by omega); omega)) (i8 k (by omega))
    · rw [dm i h1, nm i h1]
      have e : md_ps (iD d σ sp W.length) (nd_w mk sp po i (W.getD i wn0)) = iPs d po σ (W.getD i wn0) := by
        unfold md_ps iPs nd_w nd_wp
        simp only []
        cases hp : (W.getD i wn0).2.1 with
        | none =>
          simp only []
          cases hq : po with
          | none => rfl
          | some pp => simp only []; rw [dl pp (hpo pp hq)]
        | some p => simp only []; rw [dm p (by have := hWp i h1 p hp; omega)]
      rw [e]
      exact md_row_cg (hWB i h1) (fun j h3 h4 => u j (by have := (i5 i h1).1; omega)) (i9 i h1)
    · rw [dr i h1, nr i h1]
      have e : md_ps (iD d σ sp W.length) (nd_mv sp W.length (D i)) = md_ps d (D i) := by
        unfold md_ps nd_mv nd_sf
        simp only []
        cases hp : (D i).2.2.1 with
        | none => rfl
        | some p =>
          simp only [Option.map_some]
          by_cases q : p < sp
          · rw [if_pos q, dl p q]
          · rw [if_neg q, dr p (by omega)]
      rw [e]
      exact md_row_cg (x := nd_mv sp W.length (D i)) (hB i h2) (fun j h3 h4 => u j (by have := hd i h2; omega)) (i8 i h2)
  · rw [u _ (by omega)]
    refine i10 s hs (fun k hk => ?_) (fun i hi => ?_)
    · by_cases q : k < sp
      · have := hf k (by omega)
        rw [dl k q] at this
        exact this
      · have := hf (k + W.length) (by omega)
        rw [dr k (by omega)] at this
        exact this
    · have := hf (sp + i) (by omega)
      rw [dm i hi] at this
      exact this
theorem rm_install {x1 : Int32} {n : Nat} {d : Nat → Nat} {D : Nat → nd} {sp mk : Nat} {po : Option Nat} {W : List wn} (M : md (st.2.1 0) n d D) (ok : nd_ok mk n D) (hW1 : 1 ≤ W.length) (hL : st.1 10 = nI W.length) (hmk : st.1 4 = nI mk) (hmk2 : mk + W.length ≤ 200) (hn : n + W.length ≤ 40) (hsp : sp ≤ n) (hpo : (po = none ∧ x1 = -1) ∨ ∃ pp, po = some pp ∧ pp < sp ∧ x1 = nI (d pp)) (hW : iW st n D po W) : ∃ st2 d2, g_install x1 (nI sp) st = some st2 ∧ md (st2.2.1 0) (n + W.length) d2 (nd_ins D sp mk po W) ∧ st2.1 4 = nI (mk + W.length) ∧ (∀ k, k ≠ 4 → st2.1 k = st.1 k) ∧ (∀ a, a ≠ 0 → a ≠ 3 → st2.2.1 a = st.2.1 a) ∧ st2.2.1 3 0 = nI (d2 sp) := by
  have hB : ∀ k, k < n → nB (D k) ∧ (D k).1 < mk := fun k hk => by
    have o := ok.2 k hk
    exact ⟨⟨o.2.2.2.1, o.2.2.2.2.1, fun q hq => ⟨(o.2.2.2.2.2.1 q hq).1, (o.2.2.2.2.2.1 q hq).2.1⟩, o.2.2.2.2.2.2.1⟩, o.1⟩
  have hd : ∀ k, k < n → d k < 40 := fun k hk => (M.2.2.1 k hk).1
  have hpo2 : (po = none ∧ x1 = -1) ∨ ∃ pp, po = some pp ∧ pp < n ∧ x1 = nI (d pp) := hpo.imp id (fun ⟨pp, a, b, c⟩ => ⟨pp, a, by omega, c⟩)
  obtain ⟨g1, a1, a2, a3⟩ := rm_shift (st := st) (x1 := x1) (sl := st.2.1 3) (L := W.length) (sp := sp) hL hW1 (by omega) (n - sp) mF (st.2.1 0) (by omega) (by unfold mF; omega)
  rw [mi_id, show sp + (n - sp) = n by omega] at a1
  have I0 : iI g1 (st.2.1 3) n d D sp mk po W 0 (fun _ => 0) := by
    refine ⟨by rw [a3 _ (by omega)]; exact M.2.1, fun i hi => by rw [a3 _ (by omega)]; exact (M.2.2.1 i (by omega)).2, fun i hi => absurd hi (Nat.not_lt_zero _), fun i h1 h2 => by rw [a2 i h1 (by omega)]; exact (M.2.2.1 i h2).2, fun i hi => absurd hi (Nat.not_lt_zero _), fun i hi => absurd hi (Nat.not_lt_zero _), fun i k hi => absurd hi (Nat.not_lt_zero _), fun k hk => md_row_cg (hB k hk).1 (fun i h1 h2 => a3 i (by have := hd k hk; omega)) (M.2.2.2.2.1 k hk), fun i hi => absurd hi (Nat.not_lt_zero _), fun s hs hf _ => by rw [a3 _ (by omega)]; exact M.2.2.2.2.2 s hs hf⟩
  obtain ⟨g2, sl2, σ, fu2, b1, b2⟩ := rm_putL hL hmk hmk2 hn hsp hd hpo2 hB hW W.length mF 0 g1 (st.2.1 3) (fun _ => 0) (by omega) (by unfold mF; omega) I0
  have hWB : ∀ i, i < W.length → nB (nd_w mk sp po i (W.getD i wn0)) := fun i hi => ⟨(hW i hi).2.2.1, (hW i hi).2.1.1, (hW i hi).2.1.2.1, (hW i hi).2.1.2.2⟩
  have hWp : ∀ i, i < W.length → ∀ p, (W.getD i wn0).2.1 = some p → p < i := fun i hi p e => by
    rcases (hW i hi).2.2.2 with ⟨_, p2, _⟩ | ⟨_, q, p2, p3, _⟩
    · rw [p2] at e; cases e
    · rw [p2] at e; cases e; exact p3
  have m := b2.md hn hsp hd M.2.2.2.1 (fun k hk p e => (ok.2 k hk).2.2.1 p e) (fun pp e => by
    rcases hpo with ⟨h1, _⟩ | ⟨q, h1, h2, _⟩
    · rw [h1] at e; cases e
    · rw [h1] at e; cases e; exact h2) hWp (fun k hk => (hB k hk).1) hWB
  refine ⟨mm_F (mi st (upd g2 5160 (nI (n + W.length))) sl2) 4 (nI (mk + W.length)), iD d σ sp W.length, ?_, m, fF_s, fun k hk => fF_n hk, fun a h0 h3 => mi_k h0 h3, ?_⟩
  · unfold g_install
    rw [mp_count, Option.bind_some]
    simp only []
    rw [M.2.1, a1, show (0 : Int32) = nI 0 from rfl, b1]
    unfold g_install_45
    rw [show (mi st g2 sl2).1 10 = nI W.length from hL, if_pos (nI_le (Nat.le_refl _) (by omega)), mp_count, Option.bind_some, show (5160 : Int32) = nI 5160 from rfl, mp_ix (by decide) (by decide)]
    simp only [mm_lt, mi_G0]
    rw [show (mi st g2 sl2).2.1 0 5160 = nI n from b2.1, show (mi st g2 sl2).1 10 = nI W.length from hL, nI_add, show (mi st (upd g2 5160 (nI (n + W.length))) sl2).1 4 = nI mk from hmk, show (mi st (upd g2 5160 (nI (n + W.length))) sl2).1 10 = nI W.length from hL, nI_add]
  · show sl2 0 = _
    unfold iD
    rw [if_neg (by omega), if_pos (by omega), Nat.sub_self]
    exact (b2.2.2.2.2.1 0 (by omega)).2
end QN3
-- load of the reference
theorem wPs_inj {a b : Option Nat} (ha : ∀ j, a = some j → j < 1000) (hb : ∀ j, b = some j → j < 1000) : wPs a = wPs b ↔ a = b := by
  have n1 : ∀ j, j < 1000 → nI j ≠ -1 := fun j hj w => by
    have : (0 : Int32) ≤ nI j := nI_le (a := 0) (Nat.zero_le _) (by omega)
    rw [w] at this
    exact absurd this (by decide)
  cases a with
  | none =>
    cases b with
    | none => exact ⟨fun _ => rfl, fun _ => rfl⟩
    | some j => exact ⟨fun w => absurd w.symm (n1 j (hb j rfl)), fun w => by cases w⟩
  | some i =>
    cases b with
    | none => exact ⟨fun w => absurd w (n1 i (ha i rfl)), fun w => by cases w⟩
    | some j =>
      have h1 := ha i rfl
      have h2 := hb j rfl
      exact ⟨fun w => by rw [(nI_eq (by omega) (by omega)).mp w], fun w => by rw [w]⟩
theorem cntW_eq {W : List wn} {w : Nat → Int32} {j : Nat} (hj : j < 1000) (h : ∀ i, i < W.length → w (128 * i + 2) = wPs (W.getD i wn0).2.1 ∧ ∀ p, (W.getD i wn0).2.1 = some p → p < 1000) : ∀ (r k : Nat), k + r ≤ W.length → cntW w (wPs (some j)) r k = (((W.drop k).take r).filter (fun w => decide (w.2.1 = some j))).length := by
  intro r
  induction r with
  | zero => intro k _; rw [List.take_zero]; rfl
  | succ r ih =>
    intro k hk
    have e : (W.drop k).take (r + 1) = W.getD k wn0 :: (W.drop (k + 1)).take r := by
      rw [List.drop_eq_getElem_cons (by omega), List.take_succ_cons, List.getD_eq_getElem?_getD, List.getElem?_eq_getElem (by omega)]
      rfl
    unfold cntW
    rw [ih (k + 1) (by omega), e, List.filter_cons, (h k (by omega)).1]
    have iff := wPs_inj (a := (W.getD k wn0).2.1) (b := some j) (h k (by omega)).2 (fun q hq => by cases hq; exact hj)
    by_cases q : (W.getD k wn0).2.1 = some j
    · rw [if_pos (iff.mpr q), if_pos (decide_eq_true q), List.length_cons]
      omega
    · rw [if_neg (fun w => q (iff.mp w)), if_neg (by simpa using q), Nat.zero_add]
theorem tA_id {att : List (List Nat × List Nat)} (h3 : att.length ≤ 3) (h20 : ∀ q ∈ att, q.2.length ≤ 20) : tA att = att := by
  unfold tA
  rw [List.take_of_length_le h3]
  refine (List.map_congr_left (g := id) (fun q hq => ?_)).trans (List.map_id _)
  show (q.1, q.2.take 20) = q
  rw [List.take_of_length_le (h20 q hq)]
theorem iW_of {st : mT} {n : Nat} {D : Nat → nd} {po : Option Nat} {W W2 : List wn} {w : wn} {od : Nat} {T : List Int32} (hrow : ∀ i, i < W.length → i < 40 → wRow (st.2.1 2) i (W.getD i wn0)) (I : wI od W false) (h40 : W.length ≤ 40) (e0 : W = w :: W2) (hp : w.2.1 = none) (hl : w.2.2.2.1 = lPo D po ++ T) (hT : st.1 23 = nI T.length) (h22 : ∀ i, i < T.length → st.2.1 22 i = T.getD i 0) (hlab : ∀ i, i < W.length → (W.getD i wn0).2.2.2.1.length ≤ 16) : iW st n D po W := by
  have rows : ∀ i, i < W.length → wR (st.2.1 2) i (W.getD i wn0).1 (wPs (W.getD i wn0).2.1) (W.getD i wn0).2.2.2.2.1 (W.getD i wn0).2.2.2.2.2 := fun i hi => by
    have r := (hrow i hi (by omega)).2
    have o := I.2 rfl i hi
    rw [tA_id o.1 o.2.1, List.take_of_length_le o.2.2] at r
    exact r
  have pl : ∀ i, i < W.length → ∀ p, (W.getD i wn0).2.1 = some p → p < 1000 := fun i hi p e => by
    have := (I.par hi).2 p e
    omega
  intro i hi
  have o := I.2 rfl i hi
  have nx := I.1 i hi
  refine ⟨rows i hi, ⟨o.1, fun q hq => ⟨(nx.2.2.2.1 q hq).1, o.2.1 q hq⟩, o.2.2⟩, hlab i hi, ?_⟩
  cases ep : (W.getD i wn0).2.1 with
  | none =>
    have i0 := ((I.par hi).1 ep).2
    subst i0
    refine Or.inl ⟨rfl, rfl, T, hT, h22, ?_⟩
    rw [e0]
    exact hl
  | some j =>
    have hj := (I.par hi).2 j ep
    refine Or.inr ⟨by omega, j, rfl, hj.1, ?_⟩
    have lb := nx.2.2.1.2.2.2 j ep
    have tk : (W.take i).getD j wn0 = W.getD j wn0 := by
      rw [List.getD_eq_getElem?_getD, List.getElem?_take, if_pos hj.1, ← List.getD_eq_getElem?_getD]
    rw [tk] at lb
    rw [lb]
    have c := cntW_eq (W := W) (w := st.2.1 2) (j := j) (by omega) (fun k hk => ⟨(rows k hk).2.1, pl k hk⟩) i 0 (by omega)
    rw [show st.2.1 2 (128 * i + 2) = wPs (some j) by rw [← ep]; exact (rows i hi).2.1, c]
    rfl
theorem p_doc_le {xs : List Nat} {e : Nat} (h : p_doc xs = .inl e) : e ≤ xs.length := by
  unfold p_doc at h
  by_cases g0 : xs.getD 0 0 = 60
  · have l0 := getD_pos g0 (by decide)
    rw [if_neg (fun w => w g0)] at h
    cases sm : a_small (xs.getD 1 0) with
    | false =>
      rw [if_pos sm] at h
      cases h
      omega
    | true =>
      rw [if_neg (by rw [sm]; decide)] at h
      have L := p_F_le (xs := xs) 8 none 0 [1] 0 [] false (by omega) ⟨g0, sm, by omega, by omega⟩
      unfold p_fin at h
      cases ep : p_F xs 8 none 0 [1] 0 [] false with
      | inl e1 =>
        rw [ep] at h
        cases h
        exact (L.1 _ ep).2
      | inr r =>
        obtain ⟨q, W, ov⟩ := r
        rw [ep] at h
        simp only [] at h
        have := (L.2 q W ov ep).2.1
        split at h
        · cases h
        · cases h
          exact this
  · rw [if_pos g0] at h
    cases h
    omega
section QN4
variable {st : mT} {mk n m : Nat} {D D2 : Nat → nd} {xs : List Nat} {rs : List Int32} {ch : Int32}
theorem mPIC.frame {st2 : mT} (I : mPIC st mk n D m D2 xs rs ch) (F : mFr st st2) : mPIC (mm_F st2 7 0) mk n D m D2 [] rs ch := by
  obtain ⟨M, M2, r1, r2, r3, r4, r5, r6⟩ := I
  have fa : ∀ a, ¬ marr a → st2.2.1 a = st.2.1 a := F.2.1
  have ff : ∀ k, ¬ mfld k → st2.1 k = st.1 k := F.1
  refine ⟨?_, ?_, ?_, ?_, fF_s, fun j hj => absurd hj (Nat.not_lt_zero _), ?_, ?_⟩
  · show ∃ d, md (st2.2.1 0) n d D
    rw [fa 0 (by unfold marr; omega)]; exact M
  · show ∃ d, md (st2.2.1 1) m d D2
    rw [fa 1 (by unfold marr; omega)]; exact M2
  · exact (fF_n (by decide)).trans ((ff 4 (by unfold mfld; omega)).trans r1)
  · exact (fF_n (by decide)).trans ((ff 5 (by unfold mfld; omega)).trans r2)
  · exact (fF_n (by decide)).trans ((ff 55 (by unfold mfld; omega)).trans r5)
  · show ∀ j, j < rs.length → st2.2.1 56 j = rs.getD j 0
    rw [fa 56 (by unfold marr; omega)]; exact r6
theorem mPIC.buf (I : mPIC st mk n D m D2 xs rs ch) (ok : aOK mk n D m D2 xs rs) : md_buf st xs ∧ ∀ c ∈ xs, c ≠ 0 := ⟨⟨I.2.2.2.2.1, I.2.2.2.2.2.1, ok.2.2.2.1, fun c hc => by have := ok.2.2.2.2.1 c hc; omega⟩, fun c hc => by have := ok.2.2.2.2.1 c hc; omega⟩
/-- all rows become free -/
theorem rm_clrL {sl : Nat → Int32} : ∀ (r fu k : Nat) (g : Nat → Int32), k + r = 40 → r < fu → ∃ g2 fu2, g_loaded_57 fu (nI k) (mi st g sl) = g_loaded_57 (fu2 + 1) (nI 40) (mi st g2 sl) ∧ (∀ s, k ≤ s → s < 40 → g2 (128 * s) = 0) ∧ ∀ i, (∀ s, k ≤ s → i ≠ 128 * s) → g2 i = g i := by
  intro r
  induction r with
  | zero =>
    intro fu k g h1 h2
    obtain ⟨fu, rfl⟩ : ∃ f, fu = f + 1 := ⟨fu - 1, by omega⟩
    obtain rfl : k = 40 := by omega
    exact ⟨g, fu, rfl, fun s h1 h2 => by omega, fun _ _ => rfl⟩
  | succ r ih =>
    intro fu k g h1 h2
    obtain ⟨fu, rfl⟩ : ∃ f, fu = f + 1 := ⟨fu - 1, by omega⟩
    obtain ⟨g2, fu2, a1, a2, a3⟩ := ih fu (k + 1) (upd g (128 * k + 0) 0) (by omega) (by omega)
    refine ⟨g2, fu2, ?_, fun s h1 h2 => ?_, fun i hi => ?_⟩
    · rw [← a1]
      conv => lhs; unfold g_loaded_57
      rw [if_neg (show ¬ (40 : Int32) ≤ nI k from nI_ge (b := 40) (by omega) (by decide)), show g_set (nI k) 0 0 (mi st g sl) = _ from mi_set (o := 0) _ (by omega) (by decide), Option.bind_some, nI_1]
    · by_cases e : s = k
      · rw [e, a3 _ (fun t ht => by omega)]
        exact upd_s
      · exact a2 s (by omega) h2
    · rw [a3 i (fun t ht => hi t (by omega))]
      exact upd_n (hi k (Nat.le_refl _))
theorem rm_clr0 {s : mT} {g2 sl : Nat → Int32} {c : Nat} (h : ∀ K : Nat → Option (Int32 × mT), mm_ix 5161 5160 K = K c) : (mm_ix 5161 5160 (fun j3 => mm_lt (mm_G (mi s g2 sl) 0 j3 0) (fun st2 => (mm_ix 40 0 (fun j5 => mm_lt (mm_G st2 22 j5 1) (fun st4 => (mm_lt (mm_F st4 23 1) (fun st6 => ((g_install (-1) 0 st6).bind (fun q7 => ((g_save q7).bind (fun q8 => (some ((q8.1 10), q8)))))))))))))) = ((g_install (-1) 0 (mm_F (mm_G (mi s (upd g2 c 0) sl) 22 0 1) 23 1)).bind (fun q7 => ((g_save q7).bind (fun q8 => (some ((q8.1 10), q8)))))) := by
  have ix0 : ∀ K : Nat → Option (Int32 × mT), mm_ix 40 0 K = K 0 := fun K => mp_ix (n := 40) (i := 0) (by omega) (by omega)
  rw [h]
  show mm_ix 40 0 (fun j5 => (g_install (-1) 0 (mm_F (mm_G (mm_G (mi s g2 sl) 0 c 0) 22 j5 1) 23 1)).bind (fun q7 => ((g_save q7).bind (fun q8 => (some ((q8.1 10), q8)))))) = _
  rw [ix0, mi_G0]
theorem rm_clr (s : mT) : ∃ s6, g_loaded_57 mF 0 s = ((g_install (-1) 0 s6).bind (fun q7 => ((g_save q7).bind (fun q8 => (some ((q8.1 10), q8)))))) ∧ (∀ k, k ≠ 23 → s6.1 k = s.1 k) ∧ s6.1 23 = 1 ∧ (∀ a, a ≠ 0 → a ≠ 22 → s6.2.1 a = s.2.1 a) ∧ s6.2.1 22 0 = 1 ∧ (∀ t, t < 40 → s6.2.1 0 (128 * t) = 0) ∧ s6.2.1 0 5160 = 0 := by
  obtain ⟨g2, fu2, a1, a2, a3⟩ := rm_clrL (st := s) (sl := s.2.1 3) 40 mF 0 (s.2.1 0) (by omega) (by unfold mF; omega)
  rw [mi_id] at a1
  have z0 : (0 : Int32) = nI 0 := rfl
  refine ⟨mm_F (mm_G (mi s (upd g2 5160 0) (s.2.1 3)) 22 0 1) 23 1, ?_, fun k hk => fF_n hk, fF_s, fun a h0 h22 => ?_, ?_, fun t ht => ?_, ?_⟩
  · refine (show g_loaded_57 mF 0 s = _ from a1).trans ?_
    conv => lhs; unfold g_loaded_57
    rw [if_pos (show (40 : Int32) ≤ nI 40 from nI_le (a := 40) (Nat.le_refl _) (by decide))]
    exact rm_clr0 (c := 5160) (fun K => mp_ix (n := 5161) (i := 5160) (by omega) (by omega))
  · show (mm_G (mi s (upd g2 5160 0) (s.2.1 3)) 22 0 1).2.1 a = _
    rw [fG_n h22]
    by_cases h3 : a = 3
    · rw [h3]; rfl
    · exact mi_k h0 h3
  · exact fG_s (st := mi s (upd g2 5160 0) (s.2.1 3)) (a := 22)
  · show upd g2 5160 0 (128 * t) = 0
    rw [upd_n (by omega)]
    exact a2 t (Nat.zero_le _) ht
  · show upd g2 5160 0 5160 = 0
    exact upd_s
theorem pm_load (I : mPIC st mk n D m D2 xs rs ch) (ok : aOK mk n D m D2 xs rs) : (∀ e, a_load mk xs = .inl e → ∃ st2, g_load st = some (-1 - nI e, st2) ∧ mPIC st2 mk n D m D2 [] rs ch) ∧ (a_load mk xs = .inr none → ∃ st2, g_load st = some (-2000, st2) ∧ mPIC st2 mk n D m D2 [] rs ch) ∧ ∀ W, a_load mk xs = .inr (some W) → ∃ st2, g_load st = some (nI W.length, st2) ∧ mPIC st2 (mk + W.length) W.length (nd_ins D 0 mk none W) W.length (nd_ins D 0 mk none W) [] rs 0 := by
  obtain ⟨b, hx⟩ := I.buf ok
  have hl := b.2.2.1
  have hc : ∀ c ∈ xs, c < 128 := b.2.2.2
  obtain ⟨s, p1, p2, p3⟩ := rm_doc b hx
  have fin : ∀ v s2, g_loaded st = some (v, s2) → g_load st = some (v, mm_F s2 7 0) := fun v s2 e => by
    unfold g_load
    rw [e, Option.bind_some]
    rfl
  have e1 : g_loaded st = (if (s.1 9) < 0 then (if (s.1 11) = 0 then (if 40 < (s.1 10) then (g_loaded_51 s) else (if ((s.1 4) + (s.1 10)) ≤ 200 then (g_loaded_57 mF 0 s) else (g_loaded_51 s))) else (g_loaded_51 s)) else (some (((-1) - (s.1 9)), s))) := by
    unfold g_loaded
    rw [p1, Option.bind_some]
  have f4 : s.1 4 = nI mk := (p2.1 4 (by unfold mfld; omega)).trans I.2.2.1
  unfold a_load
  cases ep : p_doc xs with
  | inl e =>
    rw [ep] at p3
    simp only [] at p3
    have he : e ≤ xs.length := p_doc_le ep
    refine ⟨fun e2 h => ?_, fun h => (by cases h), fun W h => by cases h⟩
    cases h
    refine ⟨_, fin (-1 - nI e) s ?_, I.frame p2⟩
    rw [e1, if_neg (by rw [p3]; exact nI_nlt (b := 0) (Nat.zero_le _) (by omega)), p3]
  | inr r =>
    obtain ⟨W, ov⟩ := r
    rw [ep] at p3
    obtain ⟨p3, p4, p5, p6⟩ := p3
    obtain ⟨S1, ⟨w, W2, S2, S3, S4, S5⟩, S6⟩ := p_doc_S hc (by omega) ep
    have lab := wI_lab S1 S2 S3 W.length
    have lab7 : ∀ i, i < W.length → (W.getD i wn0).2.2.2.1.length ≤ 16 := fun i hi => by
      have h1 := wI_lab S1 S2 S3 (i + 1) i (by omega) hi
      have h2 := (S1.1 i hi).2.2.1.2.1
      rw [S5] at h1
      have : ([1] : List Int32).length = 1 := rfl
      omega
    have ao : a_over W ov = ov := by
      unfold a_over
      have : W.any (fun w => decide (16 < w.2.2.2.1.length)) = false := by
        rw [List.any_eq_false]
        intro w hw
        obtain ⟨i, hi, ei⟩ := List.mem_iff_getElem.mp hw
        have := lab7 i hi
        rw [List.getD_eq_getElem?_getD, List.getElem?_eq_getElem hi, Option.getD_some, ei] at this
        simpa using this
      rw [this, Bool.or_false]
    simp only []
    rw [ao]
    have h9 : s.1 9 < 0 := by rw [p3]; decide
    rw [if_pos h9] at e1
    have mk2 : mk ≤ 200 := ok.2.2.1
    by_cases q : ov = true ∨ 40 < W.length ∨ 200 < mk + W.length
    · rw [if_pos q]
      refine ⟨fun e2 h => (by cases h), fun _ => ⟨_, fin (-2000) s ?_, I.frame p2⟩, fun W h => by cases h⟩
      rw [e1]
      by_cases q1 : s.1 11 = 0
      · rw [if_pos q1, p4]
        by_cases q2 : 40 < W.length
        · rw [if_pos (show (40 : Int32) < nI W.length from nI_lt (a := 40) q2 (by omega))]
          rfl
        · rw [if_neg (show ¬ (40 : Int32) < nI W.length from nI_nlt (a := 40) (by omega) (by decide)), f4, nI_add, if_neg (show ¬ nI (mk + W.length) ≤ 200 from nI_ge (a := 200) ?_ (by omega))]
          · rfl
          · rcases q with w | w | w
            · rcases p5.2.2 w with k | k
              · rw [q1] at k; exact absurd k (by decide)
              · omega
            · omega
            · omega
      · rw [if_neg q1]
        rfl
    · have q1 : ov = false := by cases ov with | false => rfl | true => exact absurd (Or.inl rfl) q
      subst q1
      have q2 : W.length ≤ 40 := by omega
      have q3 : mk + W.length ≤ 200 := by omega
      rw [if_neg q]
      refine ⟨fun e2 h => (by cases h), fun h => (by cases h), fun W1 h => ?_⟩
      cases h
      have h11 : s.1 11 = 0 := p5.1.resolve_right (fun w => absurd (p5.2.1 w) (by decide))
      have w1 : 1 ≤ W.length := by rw [S2]; simp
      rw [if_pos h11, p4, if_neg (show ¬ (40 : Int32) < nI W.length from nI_nlt (a := 40) (by omega) (by decide)), f4, nI_add, if_pos (show nI (mk + W.length) ≤ 200 from nI_le (b := 200) q3 (by decide))] at e1
      obtain ⟨s6, c1, c2, c3, c4, c5, c6, c7⟩ := rm_clr s
      rw [c1] at e1
      have M0 : md (s6.2.1 0) 0 (fun _ => 0) D := ⟨Nat.zero_le _, c7, fun k hk => absurd hk (Nat.not_lt_zero _), fun i j hi => absurd hi (Nat.not_lt_zero _), fun k hk => absurd hk (Nat.not_lt_zero _), fun t ht _ => c6 t ht⟩
      have ok0 : nd_ok mk 0 D := ⟨Nat.zero_le _, fun k hk => absurd hk (Nat.not_lt_zero _)⟩
      have iw : iW s6 0 D none W := iW_of (T := [1]) (fun i h1 h2 => by rw [c4 2 (by decide) (by decide)]; exact p6 i h1 h2) S1 q2 S2 S4 S5 c3 (fun i hi => by
        have : i = 0 := by simp at hi; exact hi
        subst this
        exact c5) lab7
      obtain ⟨s7, d2, g1, g2, g3, g4, g5, _⟩ := rm_install (st := s6) (x1 := -1) (sp := 0) (mk := mk) (po := none) (W := W) M0 ok0 w1 ((c2 10 (by decide)).trans p4) ((c2 4 (by decide)).trans f4) q3 (by omega) (Nat.le_refl _) (Or.inl ⟨rfl, rfl⟩) iw
      rw [Nat.zero_add] at g2
      have nok := nd_ins_ok (mk := mk) ok0 (sp := 0) (po := none) (od := 0) ⟨Nat.le_refl _, Or.inl ⟨rfl, rfl, rfl⟩⟩ S1 lab7 (by omega)
      rw [Nat.zero_add] at nok
      have ff : ∀ k, k ≠ 4 → k ≠ 23 → s7.1 k = s.1 k := fun k h1 h2 => (g4 k h1).trans (c2 k h2)
      have fa : ∀ a, a ≠ 0 → a ≠ 3 → a ≠ 22 → s7.2.1 a = s.2.1 a := fun a h1 h2 h3 => (g5 a h1 h2).trans (c4 a h1 h3)
      refine ⟨_, fin (nI W.length) (mm_F (mp_cp s7 0 1 5161) 5 0) ?_, ⟨d2, g2⟩, ⟨d2, ?_⟩, ?_, ?_, fF_s, fun j hj => absurd hj (Nat.not_lt_zero _), ?_, ?_⟩
      · rw [e1, show g_install (-1) 0 s6 = _ from g1, Option.bind_some, mp_save, Option.bind_some]
        rw [show (mm_F (mp_cp s7 0 1 5161) 5 0).1 10 = nI W.length from (fF_n (by decide)).trans ((ff 10 (by decide) (by decide)).trans p4)]
      · refine md_congr (g := s7.2.1 0) (fun i hi => ?_) g2 nok
        show (mp_cp s7 0 1 5161).2.1 1 i = s7.2.1 0 i
        simp [mp_cp, hi]
      · exact (fF_n (by decide)).trans ((fF_n (by decide)).trans g3)
      · exact (fF_n (by decide)).trans fF_s
      · exact (fF_n (by decide)).trans ((fF_n (by decide)).trans ((ff 55 (by decide) (by decide)).trans ((p2.1 55 (by unfold mfld; omega)).trans I.2.2.2.2.2.2.1)))
      · intro j hj
        show s7.2.1 56 j = rs.getD j 0
        rw [fa 56 (by decide) (by decide) (by decide), p2.2.1 56 (by unfold marr; omega)]
        exact I.2.2.2.2.2.2.2 j hj
end QN4
