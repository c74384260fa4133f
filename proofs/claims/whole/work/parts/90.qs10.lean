-- the reference's query: all predicates are filled in
def fSm (st s : mT) : Prop := (∀ k, k ≠ 53 → s.1 k = st.1 k) ∧ ∀ a, a ≠ 54 → s.2.1 a = st.2.1 a
theorem fSm.trans {a b c : mT} (h : fSm a b) (g : fSm b c) : fSm a c := ⟨fun k hk => (g.1 k hk).trans (h.1 k hk), fun k hk => (g.2 k hk).trans (h.2 k hk)⟩
theorem fSm.md {st s : mT} {n : Nat} {d : Nat → Nat} {D : Nat → nd} (h : fSm st s) (M : md (st.2.1 0) n d D) : md (s.2.1 0) n d D := by rw [h.2 0 (by decide)]; exact M
theorem fSm.buf {st s : mT} {xs : List Nat} (h : fSm st s) (b : md_buf st xs) : md_buf s xs := ⟨by rw [h.1 7 (by decide)]; exact b.1, by rw [h.2 6 (by decide)]; exact b.2.1, b.2.2⟩
/-- a part of a path is filled in, and reading goes on behind it -/
def FE {α : Type} (xs : List Nat) (n : Nat) (d : Nat → Nat) (D : Nat → nd) (x1 : Int32) (T : Nat) (Q : Int32 × mT → Prop) (R : aT → Nat → Nat → α → Prop) (c : α → Nat × Nat) (e : Nat → α → List Nat) (V : (Nat → Int64) → Nat → α → Prop) (x : α) : Prop := ∀ bs bp e0 st fu, md (st.2.1 0) n d D → md_buf st xs → st.1 43 = nI T → R st.2.1 bs bp x → rE st.2.1 e0 (e bp x) → e0 + (e bp x).length ≤ T → bs + (c x).1 ≤ 130 → bp + (c x).2 ≤ 65 → T < e0 + fu → (∀ s fu2, fSm st s → (∀ i, i < bp ∨ bp + (c x).2 ≤ i → s.2.2 i = st.2.2 i) → V s.2.2 bp x → T < e0 + (e bp x).length + fu2 → mq (g_asked_20 fu2 x1 (nI (e0 + (e bp x).length)) s) Q) → mq (g_asked_20 fu x1 (nI e0) st) Q
def rL {α : Type} (c : α → Nat × Nat) (R : Nat → Nat → α → Prop) : Nat → Nat → List α → Prop
  | _, _, [] => True
  | bs, bp, x :: l => R bs bp x ∧ rL c R (bs + (c x).1) (bp + (c x).2) l
theorem rCh_L {α : Type} {R : Nat → Nat → α → Prop} {c : α → Nat × Nat} {G : aT} {ar : Nat} {j : Nat × Nat → Nat} {nx : Int32} : ∀ (l : List α) (bs bp : Nat), rCh R c G ar j nx bs bp l → rL c R bs bp l := by
  intro l
  induction l with
  | nil => intro bs bp _; trivial
  | cons x l ih => intro bs bp h; exact ⟨h.1, ih _ _ h.2.2⟩
theorem rL_imp {α : Type} {R R2 : Nat → Nat → α → Prop} {c : α → Nat × Nat} (h : ∀ bs bp x, R bs bp x → R2 bs bp x) : ∀ (l : List α) (bs bp : Nat), rL c R bs bp l → rL c R2 bs bp l := by
  intro l
  induction l with
  | nil => intro bs bp _; trivial
  | cons x l ih => intro bs bp k; exact ⟨h _ _ _ k.1, ih _ _ k.2⟩
theorem mC_cg {α : Type} {c : α → Nat × Nat} {V : (Nat → Int64) → Nat → α → Prop} (hV : ∀ x bp (J J2 : Nat → Int64), (∀ i, bp ≤ i → i < bp + (c x).2 → J2 i = J i) → V J bp x → V J2 bp x) : ∀ (l : List α) (bp : Nat) (J J2 : Nat → Int64), (∀ i, bp ≤ i → i < bp + (sm c l).2 → J2 i = J i) → mC c (V J) bp l → mC c (V J2) bp l := by
  intro l
  induction l with
  | nil => intro bp J J2 _ _; trivial
  | cons x l ih =>
    intro bp J J2 h k
    have e : (sm c (x :: l)).2 = (c x).2 + (sm c l).2 := rfl
    exact ⟨hV x bp J J2 (fun i h1 h2 => h i h1 (by omega)) k.1, ih _ J J2 (fun i h1 h2 => h i (by omega) (by omega)) k.2⟩
section QS10
variable {xs : List Nat} {mk n : Nat} {D : Nat → nd} {d : Nat → Nat} {x1 : Int32} {T : Nat} {Q : Int32 × mT → Prop}
theorem FE_list {α : Type} {R : aT → Nat → Nat → α → Prop} {c : α → Nat × Nat} {e : Nat → α → List Nat} {V : (Nat → Int64) → Nat → α → Prop} (hR : ∀ x bs bp (G G2 : aT), (∀ a, a ≠ 54 → G2 a = G a) → R G bs bp x → R G2 bs bp x) (hV : ∀ x bp (J J2 : Nat → Int64), (∀ i, bp ≤ i → i < bp + (c x).2 → J2 i = J i) → V J bp x → V J2 bp x) (hF : ∀ x, FE xs n d D x1 T Q R c e V x) : ∀ l : List α, FE xs n d D x1 T Q (fun G bs bp l => rL c (R G) bs bp l) (sm c) (fun bp l => eCh c e bp l) (fun J bp l => mC c (V J) bp l) l := by
  intro l
  induction l with
  | nil =>
    intro bs bp e0 st fu M b h43 _ _ _ _ _ hf k
    exact k st fu ⟨fun _ _ => rfl, fun _ _ => rfl⟩ (fun _ _ => rfl) trivial hf
  | cons x l ih =>
    intro bs bp e0 st fu M b h43 hr he hT h1 h2 hf k
    have e1 : (sm c (x :: l)).1 = (c x).1 + (sm c l).1 := rfl
    have e2 : (sm c (x :: l)).2 = (c x).2 + (sm c l).2 := rfl
    have eL : eCh c e bp (x :: l) = e bp x ++ eCh c e (bp + (c x).2) l := rfl
    simp only [] at he hT k
    rw [eL, List.length_append] at hT k
    rw [eL] at he
    have heA : rE st.2.1 e0 (e bp x) := fun i hi => by
      have := he i (by rw [List.length_append]; omega)
      rw [getD_left hi] at this
      exact this
    have heB : rE st.2.1 (e0 + (e bp x).length) (eCh c e (bp + (c x).2) l) := fun i hi => by
      have := he ((e bp x).length + i) (by rw [List.length_append]; omega)
      rw [getD_app (by omega), show (e bp x).length + i - (e bp x).length = i by omega, ← Nat.add_assoc] at this
      exact this
    refine hF x bs bp e0 st fu M b h43 hr.1 heA (by omega) (by omega) (by omega) hf (fun s fu2 w wm v hf2 => ?_)
    refine ih (bs + (c x).1) (bp + (c x).2) (e0 + (e bp x).length) s fu2 (w.md M) (w.buf b) ((w.1 43 (by decide)).trans h43) (rL_imp (fun bs bp y hy => hR y bs bp _ _ w.2 hy) _ _ _ hr.2) (fun i hi => by rw [w.2 44 (by decide)]; exact heB i hi) (by show e0 + (e bp x).length + (eCh c e (bp + (c x).2) l).length ≤ T; omega) (by omega) (by omega) hf2 (fun s2 fu3 w2 wm2 v2 hf3 => ?_)
    have hf4 : T < e0 + (e bp x).length + (eCh c e (bp + (c x).2) l).length + fu3 := hf3
    have := k s2 fu3 (w.trans w2) (fun i hi => (wm2 i (by omega)).trans (wm i (by omega))) ⟨hV x bp _ _ (fun i g1 g2 => wm2 i (by omega)) v, v2⟩ (by omega)
    rw [← Nat.add_assoc] at this
    exact this
/-- the step from steps to their predicate -/
theorem FE_step {N : Nat} (ok : nd_ok mk n D) (hF : ∀ pr : qPr N, FE xs n d D x1 T Q (fun G => rP1 xs G N) (qc N) (eP N) (fun J => mPk n D J N) pr) (sp : qSt N) : FE xs n d D x1 T Q (fun G => rS1 (rP1 xs G N) (qc N) xs G) (cst (qc N)) (eS (qc N) (eP N)) (fun J => mS n D J) sp := by
  have fP := frP_of (xs := xs) N
  have L := FE_list (xs := xs) (n := n) (d := d) (D := D) (x1 := x1) (T := T) (Q := Q) (R := fun G => rP1 xs G N) (c := qc N) (e := eP N) (V := fun J => mPk n D J N) (fun x bs bp G G2 h r => (fP x).2 G G2 bs bp r (fun a h1 h2 i _ _ => by rw [h a (by omega)]) (fun a h1 h2 i _ _ => by rw [h a (by omega)]) (fun a h1 h2 _ => by rw [h a (by omega)])) (fun x bp J J2 h v => by
    cases N with
    | zero => trivial
    | succ N => exact fun h4 y hy => by rw [h bp (Nat.le_refl _) (by have := (fP x).1; omega)]; exact v h4 y hy) hF sp.2.2.2
  intro bs bp e0 st fu M b h43 hr he hT h1 h2 hf k
  have c1 : (cst (qc N) sp).1 = 1 + (sm (qc N) sp.2.2.2).1 := rfl
  exact L (bs + 1) bp e0 st fu M b h43 (rCh_L _ _ _ hr.2.2.2.2.1) he hT (by omega) h2 hf k
theorem FE_all (ok : nd_ok mk n D) (hT65 : T ≤ 65) : ∀ (N : Nat) (pr : qPr N), FE xs n d D x1 T Q (fun G => rP1 xs G N) (qc N) (eP N) (fun J => mPk n D J N) pr := by
  intro N
  induction N with
  | zero => intro pr bs bp e0 st fu M b h43 hr; exact hr.elim
  | succ N ih =>
    intro pr bs bp e0 st fu M b h43 hr he hT h1 h2 hf k
    have fP := frP_of (xs := xs) N
    have fS := frS_of (xs := xs) fP
    have R0 := hr
    obtain ⟨r1, r2, r3, r4, r5, r6, r7, r8⟩ := hr
    have c1 : (qc (N + 1) pr).1 = (sm (cst (qc N)) pr.2.2.2.2.2.2).1 := rfl
    have c2 : (qc (N + 1) pr).2 = 1 + (sm (cst (qc N)) pr.2.2.2.2.2.2).2 := rfl
    have eE : eP (N + 1) bp pr = eCh (cst (qc N)) (eS (qc N) (eP N)) (bp + 1) pr.2.2.2.2.2.2 ++ (if 4 ≤ pr.2.1 then [bp] else []) := rfl
    by_cases h4 : 4 ≤ pr.2.1
    · rw [if_pos h4] at eE
      have lE : (eP (N + 1) bp pr).length = (eCh (cst (qc N)) (eS (qc N) (eP N)) (bp + 1) pr.2.2.2.2.2.2).length + 1 := by rw [eE, len_snoc]
      have hVs : ∀ (x : qSt N) bp (J J2 : Nat → Int64), (∀ i, bp ≤ i → i < bp + (cst (qc N) x).2 → J2 i = J i) → mS n D J bp x → mS n D J2 bp x := fun x bp J J2 h v => mC_cg (V := fun J => mPk n D J N) (fun y bp J J2 h v => by
        cases N with
        | zero => trivial
        | succ N => exact fun h4 z hz => by rw [h bp (Nat.le_refl _) (by have := (fP y).1; omega)]; exact v h4 z hz) x.2.2.2 bp J J2 h v
      have L := FE_list (xs := xs) (n := n) (d := d) (D := D) (x1 := x1) (T := T) (Q := Q) (R := fun G => rS1 (rP1 xs G N) (qc N) xs G) (c := cst (qc N)) (e := eS (qc N) (eP N)) (V := fun J => mS n D J) (fun x bs bp G G2 h r => (fS x).2 G G2 bs bp r (fun a h1 h2 i _ _ => by rw [h a (by omega)]) (fun a h1 h2 i _ _ => by rw [h a (by omega)]) (fun a h1 h2 => by rw [h a (by omega)])) hVs (FE_step ok ih) pr.2.2.2.2.2.2
      obtain ⟨g1, g2, g3, g4⟩ := r8 h4
      rw [eE] at he
      have heA : rE st.2.1 e0 (eCh (cst (qc N)) (eS (qc N) (eP N)) (bp + 1) pr.2.2.2.2.2.2) := fun i hi => by
        have := he i (by rw [len_snoc]; omega)
        rw [getD_left hi] at this
        exact this
      have heB := he (eCh (cst (qc N)) (eS (qc N) (eP N)) (bp + 1) pr.2.2.2.2.2.2).length (by rw [len_snoc]; omega)
      rw [getD_snoc] at heB
      refine L bs (bp + 1) e0 st fu M b h43 (rCh_L _ _ _ g4) heA (by show e0 + (eCh (cst (qc N)) (eS (qc N) (eP N)) (bp + 1) pr.2.2.2.2.2.2).length ≤ T; omega) (by omega) (by omega) hf (fun s fu2 w wm v hf2 => ?_)
      simp only [] at hf2 v
      generalize hlen : (eCh (cst (qc N)) (eS (qc N) (eP N)) (bp + 1) pr.2.2.2.2.2.2).length = len at *
      obtain ⟨fu2, rfl⟩ : ∃ f, fu2 = f + 1 := ⟨fu2 - 1, by omega⟩
      have Rs : rP1 xs s.2.1 (N + 1) bs bp pr := (frP_of (xs := xs) (N + 1) pr).2 st.2.1 s.2.1 bs bp R0 (fun a h1 h2 i _ _ => by rw [w.2 a (by omega)]) (fun a h1 h2 i _ _ => by rw [w.2 a (by omega)]) (fun a h1 h2 _ => by rw [w.2 a (by omega)])
      obtain ⟨s2, f1, f2, f3, f4, f5⟩ := rw_fill (st0 := s) (w.md M) ok (w.buf b) (by omega) Rs h4 v h1 h2
      have ek := k s2 fu2 (w.trans ⟨f2, f3⟩) (fun i hi => (f4 i (by omega)).trans (wm i (by omega))) f5 (by omega)
      unfold g_asked_20
      rw [show s.1 43 = nI T from (w.1 43 (by decide)).trans h43, if_neg (nI_ge (by omega) (by omega)), mp_ld (show e0 + len < 65 by omega) (by decide), w.2 44 (by decide), heB, f1, Option.bind_some, nI_1, Nat.add_assoc, ← lE]
      exact ek
    · rw [if_neg h4, List.append_nil, r7 (by omega)] at eE
      have e0' : eP (N + 1) bp pr = [] := eE
      have cq : (qc (N + 1) pr).2 = 1 := by rw [c2, r7 (by omega)]; rfl
      rw [e0'] at k
      exact k st fu ⟨fun _ _ => rfl, fun _ _ => rfl⟩ (fun _ _ => rfl) (fun w => absurd w h4) hf
end QS10
-- the reference's query
def a_query (n : Nat) (D : Nat → nd) (xs : List Nat) (x : Int32) : Int32 ⊕ List Int32 := match a_at n D x with
  | none => .inl (-1000)
  | some k => match q_top xs with
    | .inl e => .inl (-1 - nI e)
    | .inr pt => .inr ((q_ans n D pt k).map (fun j => nI (D j).1))
-- where a path's errors lie
def qLe {α : Type} (xs : List Nat) (PR : Nat → Nat ⊕ (Nat × α)) : Prop := ∀ p, p ≤ xs.length → (∀ e, PR p = .inl e → e ≤ xs.length) ∧ ∀ q r, PR p = .inr (q, r) → q ≤ xs.length
theorem q_str_le {xs : List Nat} : qLe xs (q_str xs) := by
  intro p hp
  unfold q_str
  by_cases q1 : xs.getD p 0 = 39
  · have := getD_pos q1 (by decide)
    have lq := q_quo_le (xs := xs) (p := p + 1) (by omega)
    rw [if_neg (fun w => w q1)]
    by_cases q2 : xs.length ≤ q_quo xs (p + 1)
    · rw [if_pos q2]
      exact ⟨fun e h => by cases h; omega, fun q r h => by cases h⟩
    · rw [if_neg q2]
      exact ⟨fun e h => (by cases h), fun q r h => by cases h; omega⟩
  · rw [if_pos q1]
    exact ⟨fun e h => by cases h; exact hp, fun q r h => by cases h⟩
theorem q_prs_le {α : Type} {xs : List Nat} {PR : Nat → Nat ⊕ (Nat × α)} {can : Bool} (h : can = true → qLe xs PR) : ∀ (f p : Nat) (l : List α), p ≤ xs.length → (∀ e, q_prs xs PR can f p l = .inl e → e ≤ xs.length) ∧ ∀ q r, q_prs xs PR can f p l = .inr (q, r) → q ≤ xs.length := by
  intro f
  induction f with
  | zero => intro p l hp; exact ⟨fun e h => by cases h; exact hp, fun q r h => by cases h⟩
  | succ f ih =>
    intro p l hp
    unfold q_prs
    by_cases q1 : xs.getD p 0 = 91
    · have hp1 := getD_pos q1 (by decide)
      rw [if_pos q1]
      cases can with
      | false => rw [if_pos rfl]; exact ⟨fun e h => by cases h; exact hp, fun q r h => by cases h⟩
      | true =>
        rw [if_neg (by decide)]
        have H := h rfl (p + 1) (by omega)
        cases er : PR (p + 1) with
        | inl e1 => exact ⟨fun e h => by cases h; exact H.1 _ er, fun q r h => by cases h⟩
        | inr r =>
          obtain ⟨q, pr⟩ := r
          have hq := H.2 q pr er
          simp only []
          by_cases q93 : xs.getD q 0 = 93
          · have := getD_pos q93 (by decide)
            rw [if_pos q93]
            exact ih (q + 1) (l ++ [pr]) (by omega)
          · rw [if_neg q93]
            exact ⟨fun e h => by cases h; exact hq, fun q r h => by cases h⟩
    · rw [if_neg q1]
      exact ⟨fun e h => (by cases h), fun q r h => by cases h; exact hp⟩
theorem q_hd_le {xs : List Nat} {p : Nat} (hp : p ≤ xs.length) : q_hd xs p ≤ xs.length := by
  unfold q_hd
  by_cases e : q_axs (xs.getD p 0) = 0
  · rw [if_pos e]; exact hp
  · rw [if_neg e]
    have : xs.getD p 0 ≠ 0 := fun w => e (by rw [w]; rfl)
    rcases Nat.lt_or_ge p xs.length with h | h
    · exact h
    · exact absurd (by rw [List.getD_eq_getElem?_getD, List.getElem?_eq_none h]; rfl) this
theorem q_step_le {α : Type} {xs : List Nat} {PR : Nat → Nat ⊕ (Nat × α)} {can : Bool} (h : can = true → qLe xs PR) : qLe xs (q_step xs PR can) := by
  intro p hp
  have hd := q_hd_le hp
  unfold q_step
  by_cases q0 : a_let xs (q_hd xs p) = 0 ∧ q_sgn (xs.getD (q_hd xs p) 0) = 0
  · rw [if_pos q0]
    exact ⟨fun e h => by cases h; exact hd, fun q r h => by cases h⟩
  · rw [if_neg q0]
    have lle := a_let_le (xs := xs) (p := q_hd xs p) hd
    have hp2 : q_hd xs p + (if a_let xs (q_hd xs p) = 0 then 1 else a_let xs (q_hd xs p)) ≤ xs.length := by
      by_cases e : a_let xs (q_hd xs p) = 0
      · rw [if_pos e]
        have : xs.getD (q_hd xs p) 0 ≠ 0 := fun k => q0 ⟨e, by rw [k]; rfl⟩
        rcases Nat.lt_or_ge (q_hd xs p) xs.length with h | h
        · exact h
        · exact absurd (by rw [List.getD_eq_getElem?_getD, List.getElem?_eq_none h]; rfl) this
      · rw [if_neg e]; exact lle
    have H := q_prs_le (can := can) h 130 _ [] hp2
    cases er : q_prs xs PR can 130 (q_hd xs p + (if a_let xs (q_hd xs p) = 0 then 1 else a_let xs (q_hd xs p))) [] with
    | inl e1 => exact ⟨fun e h => by cases h; exact H.1 _ er, fun q r h => by cases h⟩
    | inr r =>
      obtain ⟨q, l⟩ := r
      exact ⟨fun e h => (by cases h), fun q2 r h => by cases h; exact H.2 _ _ er⟩
theorem q_sts_le {α : Type} {xs : List Nat} {PR : Nat → Nat ⊕ (Nat × α)} {can : Bool} (h : can = true → qLe xs PR) : ∀ (f p : Nat) (l : List (Nat × Nat × List Nat × List α)), p ≤ xs.length → (∀ e, q_sts xs PR can f p l = .inl e → e ≤ xs.length) ∧ ∀ q r, q_sts xs PR can f p l = .inr (q, r) → q ≤ xs.length := by
  intro f
  induction f with
  | zero => intro p l hp; exact ⟨fun e h => by cases h; exact hp, fun q r h => by cases h⟩
  | succ f ih =>
    intro p l hp
    unfold q_sts
    have H := q_step_le (can := can) h p hp
    cases er : q_step xs PR can p with
    | inl e1 => exact ⟨fun e h => by cases h; exact H.1 _ er, fun q r h => by cases h⟩
    | inr r =>
      obtain ⟨q, s⟩ := r
      have hq := H.2 q s er
      simp only []
      by_cases q47 : xs.getD q 0 = 47
      · have := getD_pos q47 (by decide)
        rw [if_pos q47]
        exact ih (q + 1) _ (by omega)
      · rw [if_neg q47]
        exact ⟨fun e h => (by cases h), fun q2 r h => by cases h; exact hq⟩
theorem q_pth_le {α : Type} {xs : List Nat} {PR : Nat → Nat ⊕ (Nat × α)} {can : Bool} (h : can = true → qLe xs PR) : qLe xs (q_pth xs PR can) := by
  intro p hp
  unfold q_pth
  have hp2 : (if xs.getD p 0 = 47 then p + 1 else p) ≤ xs.length := by
    split
    · rename_i e
      exact getD_pos e (by decide)
    · exact hp
  have H := q_sts_le (can := can) h 130 _ [] hp2
  cases er : q_sts xs PR can 130 (if xs.getD p 0 = 47 then p + 1 else p) [] with
  | inl e1 => exact ⟨fun e h => by cases h; exact H.1 _ er, fun q r h => by cases h⟩
  | inr r =>
    obtain ⟨q, l⟩ := r
    exact ⟨fun e h => (by cases h), fun q2 r h => by cases h; exact H.2 _ _ er⟩
theorem q_prd_le {N : Nat} {xs : List Nat} (hx : xs.length ≤ 120) {PT : Nat → Nat ⊕ (Nat × qPt N)} (h : qLe xs PT) : qLe xs (q_prd xs PT) := by
  intro p hp
  have sp := q_bng_sp (xs := xs) 130 p false hp (by omega)
  unfold q_prd
  simp only []
  generalize (q_bng xs 130 p false).1 = p1 at *
  generalize (q_bng xs 130 p false).2 = neg at *
  have ok1 : ∀ (q : Nat) (r : qPr (N + 1)), q ≤ xs.length → (∀ e, (.inr (q, r) : Nat ⊕ (Nat × qPr (N + 1))) = .inl e → e ≤ xs.length) ∧ ∀ q2 r2, (.inr (q, r) : Nat ⊕ (Nat × qPr (N + 1))) = .inr (q2, r2) → q2 ≤ xs.length := fun q r hq => ⟨fun e h => (by cases h), fun q2 r2 h => by cases h; exact hq⟩
  have er1 : ∀ (e0 : Nat), e0 ≤ xs.length → (∀ e, (.inl e0 : Nat ⊕ (Nat × qPr (N + 1))) = .inl e → e ≤ xs.length) ∧ ∀ q2 r2, (.inl e0 : Nat ⊕ (Nat × qPr (N + 1))) = .inr (q2, r2) → q2 ≤ xs.length := fun e0 he => ⟨fun e h => (by cases h; exact he), fun q2 r2 h => by cases h⟩
  by_cases d1 : a_dig (xs.getD p1 0) = true
  · have h48 : xs.getD p1 0 ≠ 0 := fun w => by rw [w] at d1; exact absurd d1 (by decide)
    have l1 := getD_pos (rfl : xs.getD p1 0 = xs.getD p1 0) h48
    rw [if_pos d1]
    by_cases d2 : a_dig (xs.getD (p1 + 1) 0) = true
    · have h48' : xs.getD (p1 + 1) 0 ≠ 0 := fun w => by rw [w] at d2; exact absurd d2 (by decide)
      have l2 := getD_pos (rfl : xs.getD (p1 + 1) 0 = xs.getD (p1 + 1) 0) h48'
      rw [if_pos d2]
      exact ok1 _ _ (by omega)
    · rw [if_neg d2]
      exact ok1 _ _ (by omega)
  rw [if_neg d1]
  by_cases d36 : xs.getD p1 0 = 36
  · have := getD_pos d36 (by decide)
    rw [if_pos d36]
    exact ok1 _ _ (by omega)
  rw [if_neg d36]
  by_cases d64 : xs.getD p1 0 = 64
  · have := getD_pos d64 (by decide)
    rw [if_pos d64]
    have lle := a_let_le (xs := xs) (p := p1 + 1) (by omega)
    by_cases n0 : a_let xs (p1 + 1) = 0
    · rw [if_pos n0]
      exact er1 _ (by omega)
    · rw [if_neg n0]
      by_cases q61 : xs.getD (p1 + 1 + a_let xs (p1 + 1)) 0 = 61
      · have := getD_pos q61 (by decide)
        rw [if_pos q61]
        have H := q_str_le (xs := xs) (p1 + 1 + a_let xs (p1 + 1) + 1) (by omega)
        cases es : q_str xs (p1 + 1 + a_let xs (p1 + 1) + 1) with
        | inl e => exact er1 _ (H.1 _ es)
        | inr r => obtain ⟨q, t⟩ := r; exact ok1 _ _ (H.2 _ _ es)
      · rw [if_neg q61]
        exact ok1 _ _ lle
  rw [if_neg d64]
  have HP := h p1 sp.2.1
  cases ep : PT p1 with
  | inl e => exact er1 _ (HP.1 _ ep)
  | inr r =>
    obtain ⟨q, pt⟩ := r
    have hq := HP.2 q pt ep
    simp only []
    by_cases qc1 : xs.getD q 0 = 61 ∨ xs.getD q 0 = 126
    · have : q < xs.length := by rcases qc1 with k | k <;> exact getD_pos k (by decide)
      rw [if_pos qc1]
      have H := q_str_le (xs := xs) (q + 1) (by omega)
      cases es : q_str xs (q + 1) with
      | inl e => exact er1 _ (H.1 _ es)
      | inr r => obtain ⟨q, t⟩ := r; exact ok1 _ _ (H.2 _ _ es)
    · rw [if_neg qc1]
      exact ok1 _ _ hq
theorem q_T_le {xs : List Nat} (hx : xs.length ≤ 120) : ∀ N, qLe xs (q_T xs N) := by
  intro N
  induction N with
  | zero => exact q_pth_le (fun h => by cases h)
  | succ N ih => exact q_pth_le (fun _ => q_prd_le hx ih)
theorem q_top_le {xs : List Nat} (hx : xs.length ≤ 120) {e : Nat} (h : q_top xs = .inl e) : e ≤ xs.length := by
  have H := q_T_le hx 3 0 (Nat.zero_le _)
  unfold q_top at h
  cases et : q_T xs 3 0 with
  | inl e1 => rw [et] at h; cases h; exact H.1 _ et
  | inr r =>
    obtain ⟨q, pt⟩ := r
    rw [et] at h
    simp only [] at h
    have := H.2 q pt et
    split at h
    · cases h
    · cases h; exact this
section QS11
variable {st : mT} {xs : List Nat} {mk n m : Nat} {D D2 : Nat → nd} {d : Nat → Nat} {rs : List Int32} {ch : Int32}
/-- what has been found, so far -/
def rsR (st0 st : mT) (l : List Int32) : Prop := (∀ k, k ≠ 53 → k ≠ 55 → st.1 k = st0.1 k) ∧ (∀ a, a ≠ 54 → a ≠ 56 → st.2.1 a = st0.2.1 a) ∧ st.1 55 = nI l.length ∧ ∀ j, j < l.length → st.2.1 56 j = l.getD j 0
theorem rw_77 {st0 : mT} (M0 : md (st0.2.1 0) n d D) (ok : nd_ok mk n D) {m2 : Int64} {S : Nat → Bool} (hS : bR m2 S) : ∀ (r fu y : Nat) (st : mT), y + r = n → r < fu → rsR st0 st (((List.range y).filter S).map (fun j => nI (D j).1)) → ∃ s, g_asked_77 fu m2 (nI y) st = some (nI (((List.range n).filter S).map (fun j => nI (D j).1)).length, s) ∧ rsR st0 s (((List.range n).filter S).map (fun j => nI (D j).1)) := by
  have hn := M0.1
  intro r
  induction r with
  | zero =>
    intro fu y st h1 h2 R
    obtain ⟨fu, rfl⟩ : ∃ f, fu = f + 1 := ⟨fu - 1, by omega⟩
    have M : md (st.2.1 0) n d D := by rw [R.2.1 0 (by decide) (by decide)]; exact M0
    rw [show y = n by omega] at R
    refine ⟨st, ?_, R⟩
    unfold g_asked_77
    rw [mp_bd (mp_cnt (md_D M)), if_pos (nI_le (by omega) (by omega))]
    show some (st.1 55, st) = _
    rw [R.2.2.1]
  | succ r ih =>
    intro fu y st h1 h2 R
    obtain ⟨fu, rfl⟩ : ∃ f, fu = f + 1 := ⟨fu - 1, by omega⟩
    have hy : y < n := by omega
    have M : md (st.2.1 0) n d D := by rw [R.2.1 0 (by decide) (by decide)]; exact M0
    have hD := md_D M
    have ts := b_test (m := m2) (y := y) (by omega)
    have ll : (((List.range y).filter S).map (fun j => nI (D j).1)).length ≤ y := by
      rw [List.length_map]
      have := List.length_filter_le S (List.range y)
      rw [List.length_range] at this
      exact this
    unfold g_asked_77 g_asked_129
    rw [mp_bd (mp_cnt hD), if_neg (nI_ge (by omega) (by omega)), nI_1]
    have rg : (List.range (y + 1)).filter S = (List.range y).filter S ++ (if S y = true then [y] else []) := by
      rw [List.range_succ, List.filter_append, List.filter_cons]
      cases S y <;> rfl
    cases q : S y with
    | true =>
      have row := M.2.2.2.2.1 y hy
      have hdy := (M.2.2.1 y hy).1
      rw [if_pos (ts.mpr (by rw [hS y (by omega), q])), mp_bd (mp_dc hD hy)]
      simp only []
      rw [show g_f (nI (d y)) 0 st = some (st.2.1 0 (128 * d y + 0), st) from mp_f st (o := 0) hdy (by decide), Option.bind_some, Nat.add_zero, row.1, R.2.2.1]
      simp only []
      rw [mp_ix (by omega) (by decide), ← nI_1, Int32.add_sub_cancel]
      simp only [mm_lt]
      rw [show (mm_G st 56 (((List.range y).filter S).map (fun j => nI (D j).1)).length (nI (D y).1)).1 55 = nI (((List.range y).filter S).map (fun j => nI (D j).1)).length from R.2.2.1, nI_1]
      refine ih fu (y + 1) _ (by omega) (by omega) ?_
      rw [rg, q, if_pos rfl, List.map_append]
      generalize ((List.range y).filter S).map (fun j => nI (D j).1) = l at R ll
      refine ⟨fun k h3 h5 => (fF_n h5).trans (R.1 k h3 h5), fun a h4 h6 => ?_, ?_, fun j hj => ?_⟩
      · show (mm_G st 56 l.length (nI (D y).1)).2.1 a = _
        rw [fG_n h6]
        exact R.2.1 a h4 h6
      · show (mm_F _ 55 (nI (l.length + 1))).1 55 = nI (l ++ [nI (D y).1]).length
        rw [fF_s, len_snoc]
      · have hj2 : j < (l ++ [nI (D y).1]).length := hj
        rw [len_snoc] at hj2
        show (mm_G st 56 l.length (nI (D y).1)).2.1 56 j = (l ++ [nI (D y).1]).getD j 0
        by_cases e : j < l.length
        · rw [fG_i (by omega), getD_left e]; exact R.2.2.2 j e
        · have : j = l.length := by omega
          subst this
          rw [fG_s, getD_snoc]
    | false =>
      rw [if_neg (fun k => by have := ts.mp k; rw [hS y (by omega), q] at this; cases this)]
      refine ih fu (y + 1) st (by omega) (by omega) ?_
      rw [rg, q, if_neg (by decide), List.append_nil]
      exact R
theorem pm_query (I : mPIC st mk n D m D2 xs rs ch) (ok : aOK mk n D m D2 xs rs) (x : Int32) : (∀ v, a_query n D xs x = .inl v → ∃ st2, g_query x st = some (v, st2) ∧ mPIC st2 mk n D m D2 [] rs ch) ∧ (∀ l, a_query n D xs x = .inr l → ∃ st2, g_query x st = some (nI l.length, st2) ∧ mPIC st2 mk n D m D2 [] l ch) := by
  obtain ⟨b, _⟩ := I.buf ok
  obtain ⟨⟨d, M⟩, ⟨d2, M2⟩, r1, r2, r3, r4, r5, r6⟩ := I
  have okn := ok.1
  have hD := md_D M
  have hl := b.2.2.1
  have pic : ∀ {t : mT} {l : List Int32}, t.2.1 0 = st.2.1 0 → t.2.1 1 = st.2.1 1 → t.1 4 = st.1 4 → t.1 5 = st.1 5 → t.1 55 = nI l.length → (∀ j, j < l.length → t.2.1 56 j = l.getD j 0) → mPIC (mm_F t 7 0) mk n D m D2 [] l ch := fun {t l} h0 h1 h4 h5 h55 h56 => ⟨⟨d, by show md (t.2.1 0) n d D; rw [h0]; exact M⟩, ⟨d2, by show md (t.2.1 1) m d2 D2; rw [h1]; exact M2⟩, (fF_n (by decide)).trans (h4.trans r1), (fF_n (by decide)).trans (h5.trans r2), fF_s, fun j hj => absurd hj (Nat.not_lt_zero _), (fF_n (by decide)).trans h55, h56⟩
  unfold a_query
  cases ea : a_at n D x with
  | none =>
    refine ⟨fun v h => ?_, fun l h => by cases h⟩
    cases h
    refine ⟨mm_F st 7 0, ?_, pic rfl rfl rfl rfl r5 r6⟩
    unfold g_query g_query_21
    rw [mp_bd (mp_pl_none hD (by rw [md_at M]; exact ea)), if_neg (show ¬ (0 : Int32) ≤ -1 by decide)]
    rfl
  | some k =>
    have hk := (a_at_some ea).1
    have hdk := (M.2.2.1 k hk).1
    have fin : ∀ v t, g_asked (nI (d k)) st = some (v, t) → g_query x st = some (v, mm_F t 7 0) := fun v t e => by
      unfold g_query g_query_21
      rw [mp_bd (mp_pl_some hD (by rw [md_at M]; exact ea)), if_pos (show (0 : Int32) ≤ nI (d k) from nI_le (a := 0) (Nat.zero_le _) (by omega)), e, Option.bind_some]
      rfl
    obtain ⟨s, p1, p2, p3⟩ := rq_top b
    have fa : ∀ a, ¬ qarr a → s.2.1 a = st.2.1 a := p2.2.1
    have ff : ∀ j, ¬ qfld j → s.1 j = st.1 j := p2.1
    have s0 : s.2.1 0 = st.2.1 0 := fa 0 (by unfold qarr; omega)
    have s56 : s.2.1 56 = st.2.1 56 := fa 56 (by unfold qarr; omega)
    simp only []
    cases et : q_top xs with
    | inl e =>
      rw [et] at p3
      simp only [] at p3
      refine ⟨fun v h => ?_, fun l h => by cases h⟩
      have hv : v = -1 - nI e := (Sum.inl.inj h).symm
      rw [hv]
      have he : e ≤ xs.length := q_top_le hl et
      refine ⟨_, fin (-1 - nI e) s ?_, pic s0 (fa 1 (by unfold qarr; omega)) (ff 4 (by unfold qfld; omega)) (ff 5 (by unfold qfld; omega)) ((ff 55 (by unfold qfld; omega)).trans r5) (fun j hj => by rw [s56]; exact r6 j hj)⟩
      unfold g_asked
      rw [p1, Option.bind_some, if_neg (by rw [p3]; exact nI_nlt (b := 0) (Nat.zero_le _) (by omega)), p3]
    | inr pt =>
      rw [et] at p3
      obtain ⟨g1, g2, g3, g4, g5, g6, g7, g8, g9⟩ := p3
      refine ⟨fun v h => (by cases h), fun l h => ?_⟩
      have hlq : l = (q_ans n D pt k).map (fun j => nI (D j).1) := (Sum.inr.inj h).symm
      have Ms : md (s.2.1 0) n d D := by rw [s0]; exact M
      have bs := p2.buf b
      have fP := frP_of (xs := xs) 3
      have fS := frS_of (xs := xs) fP
      have eL := eCh_len (c := cst (qc 3)) (e := eS (qc 3) (eP 3)) (fun bp s => eCh_len (eP_len 3) s.2.2.2 bp) pt.2 0
      have F := FE_list (xs := xs) (n := n) (d := d) (D := D) (x1 := nI (d k)) (T := (eCh (cst (qc 3)) (eS (qc 3) (eP 3)) 0 pt.2).length) (Q := fun a => a.1 = nI l.length ∧ a.2.2.1 0 = st.2.1 0 ∧ a.2.2.1 1 = st.2.1 1 ∧ a.2.1 4 = st.1 4 ∧ a.2.1 5 = st.1 5 ∧ a.2.1 55 = nI l.length ∧ ∀ j, j < l.length → a.2.2.1 56 j = l.getD j 0) (R := fun G => rS1 (rP1 xs G 3) (qc 3) xs G) (c := cst (qc 3)) (e := eS (qc 3) (eP 3)) (V := fun J => mS n D J) (fun x bs bp G G2 h r => (fS x).2 G G2 bs bp r (fun a h1 h2 i _ _ => by rw [h a (by omega)]) (fun a h1 h2 i _ _ => by rw [h a (by omega)]) (fun a h1 h2 => by rw [h a (by omega)])) (fun x bp J J2 h v => mC_cg (V := fun J => mPk n D J 3) (fun y bp J J2 h v => fun h4 z hz => by rw [h bp (Nat.le_refl _) (by have := (fP y).1; omega)]; exact v h4 z hz) x.2.2.2 bp J J2 h v) (FE_step okn (FE_all okn (by omega) 3)) pt.2
      have key := F 0 0 0 s mF Ms bs g6 (rCh_L _ _ _ g2) g7 (by show 0 + (eCh (cst (qc 3)) (eS (qc 3) (eP 3)) 0 pt.2).length ≤ _; omega) (by omega) (by omega) (by unfold mF; omega) (fun s2 fu2 w wm v hf2 => ?_)
      · obtain ⟨a, a1, a2, a3, a4, a5, a6, a7, a8⟩ := key
        have e1 : g_asked (nI (d k)) st = some (nI l.length, a.2) := by
          unfold g_asked
          rw [p1, Option.bind_some, if_pos (by rw [g1]; decide), show g_asked_20 mF (nI (d k)) 0 s = _ from a1, ← a2]
        exact ⟨_, fin _ _ e1, pic a3 a4 a5 a6 a7 a8⟩
      · -- all predicates are filled in
        have hf3 : (eCh (cst (qc 3)) (eS (qc 3) (eP 3)) 0 pt.2).length < 0 + (eCh (cst (qc 3)) (eS (qc 3) (eP 3)) 0 pt.2).length + fu2 := hf2
        show mq (g_asked_20 fu2 (nI (d k)) (nI (0 + (eCh (cst (qc 3)) (eS (qc 3) (eP 3)) 0 pt.2).length)) s2) _
        rw [Nat.zero_add]
        generalize hT : (eCh (cst (qc 3)) (eS (qc 3) (eP 3)) 0 pt.2).length = T at *
        obtain ⟨fu2, rfl⟩ : ∃ f, fu2 = f + 1 := ⟨fu2 - 1, by omega⟩
        have M3 := w.md Ms
        have b3 := w.buf bs
        have Rw : rCh (rS1 (rP1 xs s2.2.1 3) (qc 3) xs s2.2.1) (cst (qc 3)) s2.2.1 30 j1 (-1) 0 0 pt.2 := rCh_S (R := fun G => rS1 (rP1 xs G 3) (qc 3) xs G) fS _ s.2.1 s2.2.1 (-1) 0 0 g2 (fun a g1 g2 i _ _ => by rw [w.2 a (by omega)]) (fun a g1 g2 i _ _ => by rw [w.2 a (by omega)])
        have hlen : pt.2.length ≤ 1000 := by have := sm_len1 (c := cst (qc 3)) (fun x => (fS x).1) pt.2; omega
        have hpl : ∀ s ∈ pt.2, s.2.2.2.length ≤ 1000 := fun s hs => by
          have a1 := sm_mem (c := cst (qc 3)) _ s hs
          have a2 := sm_len2 (c := qc 3) (fun x => (fP x).1) s.2.2.2
          have a3 : (cst (qc 3) s).2 = (sm (qc 3) s.2.2.2).2 := rfl
          omega
        obtain ⟨m2, s3, L1, L2, L3⟩ := rw_lead (st0 := s2) M3 okn b3 (N := 3) (ns := 0) (np := 0) (l := pt.2) Rw g3 v (by omega) (by omega) hpl hlen (xo := if pt.1 = true then none else some k) (fun y hy => by
          split at hy
          · cases hy
          · cases hy; exact hk)
        have e20 : g_asked_20 (fu2 + 1) (nI (d k)) (nI T) s2 = g_asked_65 (oX (if pt.1 = true then none else some k)) 0 s2 := by
          unfold g_asked_20
          rw [show s2.1 43 = nI T from (w.1 43 (by decide)).trans g6, if_pos (nI_le (Nat.le_refl _) (by omega)), show s2.1 49 = bI pt.1 from (w.1 49 (by decide)).trans g5, show s2.1 48 = 0 from (w.1 48 (by decide)).trans g4]
          cases pt.1 with
          | true => rfl
          | false =>
            rw [if_pos (by rfl), mp_bd (mp_order (md_D M3) hk M3.2.2.2.1)]
            rfl
        rw [e20]
        unfold g_asked_65
        rw [show g_lead 0 (oX (if pt.1 = true then none else some k)) s2 = _ from L1, Option.bind_some]
        simp only [mm_lt]
        have M4 := L2.md M3
        obtain ⟨s4, c1, c2⟩ := rw_77 (st0 := mm_F s3 55 0) M4 okn L3 n mF 0 (mm_F s3 55 0) (by omega) (by unfold mF; have := M.1; omega) ⟨fun _ _ _ => rfl, fun _ _ _ => rfl, fF_s, fun j hj => absurd hj (by simp)⟩
        rw [show g_asked_77 mF m2 0 (mm_F s3 55 0) = _ from c1]
        have el : (((List.range n).filter (q_rch n D (q_H n D 3) pt.2 (if pt.1 = true then none else some k))).map (fun j => nI (D j).1)) = l := by rw [hlq]; rfl
        rw [el] at c2 ⊢
        refine mq_some ⟨rfl, ?_, ?_, ?_, ?_, c2.2.2.1, c2.2.2.2⟩
        · rw [c2.2.1 0 (by decide) (by decide)]
          show s3.2.1 0 = _
          rw [L2.2.1 0 (by decide), w.2 0 (by decide), s0]
        · rw [c2.2.1 1 (by decide) (by decide)]
          show s3.2.1 1 = _
          rw [L2.2.1 1 (by decide), w.2 1 (by decide), fa 1 (by unfold qarr; omega)]
        · rw [c2.1 4 (by decide) (by decide), fF_n (by decide), L2.1 4 (by decide), w.1 4 (by decide), ff 4 (by unfold qfld; omega)]
        · rw [c2.1 5 (by decide) (by decide), fF_n (by decide), L2.1 5 (by decide), w.1 5 (by decide), ff 5 (by unfold qfld; omega)]
end QS11
