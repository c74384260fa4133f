-- the class's walker: steps from many places, paths forwards and backwards
section QV7
variable {dA : Nat → ClassId} {h h1 : hm_T} {z z1 : hz_T} {w a n : Nat} {B : Nat → Nat} {D : Nat → nd} {F : Nat → Prop}
theorem pl.at {α : Type} {R : List Nat → Nat → α → Prop} : ∀ (xs : List α) (rs L : List Nat), pl R L rs xs → ∀ (i : Nat) (x : α), xs[i]? = some x → ∃ L1, R L1 (rs.getD i 0) x := by
  intro xs
  induction xs with
  | nil => intro rs L h i x e; cases e
  | cons y xs ih =>
    intro rs L h i x e
    cases rs with
    | nil => exact h.elim
    | cons r rs =>
      obtain ⟨L1, L2, _, h1, h2⟩ := h
      cases i with
      | zero =>
        have e2 : y = x := Option.some.inj e
        subst e2
        exact ⟨L1, h1⟩
      | succ i => exact ih rs L2 h2 i x e
theorem jF.gi {al i : Nat} {rs : List Nat} (j : jF dA h F al rs) (hi : i < rs.length) {K : Nat → Prop} (hK : K (rs.getD i 0)) : jd_get dA h al (nI i) K := by
  obtain ⟨d, ⟨mo, c1, c2⟩, f1, f2⟩ := j
  rcases c2 with ⟨e, _⟩ | ⟨e, n, f, c3, l1, l2, l3⟩
  · rw [e] at hi; exact absurd hi (Nat.not_lt_zero _)
  · exact ⟨d, rs.length, mo, n, i, _, f, c1, c3, rfl, hi, l1, by omega, l3 i hi, hK⟩
theorem any_succ {k : Nat} {f : Nat → Bool} : (List.range (k + 1)).any f = ((List.range k).any f || f k) := by
  rw [List.range_succ, List.any_append]
  simp
theorem wk_has {m : Int64} {k : Nat} (hk : k < 64) {K : Int32 → hm_T → hz_T → Prop} (hK : K (bI (bt m k)) h z) : w_Walker_has dA m (nI k) K h z := by
  unfold w_Walker_has
  cases e : bt m k with
  | true => rw [e] at hK; exact if_yes ((b_test hk).mpr e) hK
  | false => rw [e] at hK; exact if_no (fun q => by rw [(b_test hk).mp q] at e; cases e) hK
theorem wk_lallL (G : wk dA h z w a n B D) {N : Nat} {L : List Nat} {c : Nat} {s : qSt N} (p : sP dA h z F (kfD n D) (pP dA h z F (kfD n D) (hfD n D) N) L c s) (vs : vSt (vPr N) s) {m : Int64} {S : Nat → Bool} (hm : bR m S) {K : Int64 → hm_T → hz_T → Prop} (hK : ∀ v, bR v (q_nx n D (q_H n D N) s S) → K v h z) : ∀ (r fu k : Nat) (acc : Int64), k + r = n → r < fu → bR acc (fun y => (List.range k).any (fun x => S x && decide (y ∈ q_stp n D (q_H n D N) s (some x)))) → w_Walker_leadAll_6 dA w K fu (some c) m acc (nI k) h z := by
  have hn := G.hn
  intro r
  induction r with
  | zero =>
    intro fu k acc hk hr ha
    obtain ⟨fu, rfl⟩ : ∃ f, fu = f + 1 := ⟨fu - 1, by omega⟩
    obtain rfl : k = n := by omega
    unfold w_Walker_leadAll_6
    exact G.size (if_yes (nI_le (Nat.le_refl _) (by omega)) (hK acc ha))
  | succ r ih =>
    intro fu k acc hk hr ha
    obtain ⟨fu, rfl⟩ : ∃ f, fu = f + 1 := ⟨fu - 1, by omega⟩
    unfold w_Walker_leadAll_6
    refine G.size (if_no (nI_ge (by omega) (by omega)) (wk_has (by omega) ?_))
    unfold w_Walker_leadAll_40
    rw [nI_1]
    have e := hm.at (y := k) (by omega)
    cases eb : bt m k with
    | false =>
      rw [eb] at e
      refine if_yes rfl (ih fu (k + 1) _ (by omega) (by omega) (fun y hy => ?_))
      rw [b_or, b_zero, Bool.or_false, (ha.at hy), any_succ, ← e, Bool.false_and, Bool.or_false]
    | true =>
      rw [eb] at e
      refine if_no (by decide) (cg_c_of G.W (wk_lead (xo := some k) G p vs (by omega) (fun x hx => by cases hx; omega) (fun v hv => ih fu (k + 1) _ (by omega) (by omega) (fun y hy => ?_))))
      rw [b_or, (ha.at hy), (hv.at hy), any_succ, ← e, Bool.true_and]
theorem wk_lall (G : wk dA h z w a n B D) {N : Nat} {L : List Nat} {c : Nat} {s : qSt N} (p : sP dA h z F (kfD n D) (pP dA h z F (kfD n D) (hfD n D) N) L c s) (vs : vSt (vPr N) s) {m : Int64} {S : Nat → Bool} (hm : bR m S) {K : Int64 → hm_T → hz_T → Prop} (hK : ∀ v, bR v (q_nx n D (q_H n D N) s S) → K v h z) : w_Walker_leadAll dA w (some c) m K h z := by
  have hn := G.hn
  unfold w_Walker_leadAll
  exact wk_lallL G p vs hm hK n mF 0 0 (by omega) (by unfold mF; omega) (fun y hy => b_zero)
/-- from where one step leads into G -/
def q_b1 {α : Type} (n : Nat) (D : Nat → nd) (H : α → Nat → Nat → Nat → Bool) (s : Nat × Nat × List Nat × List α) (G : Nat → Bool) (xo : Option Nat) : Bool := (List.range n).any (fun y => decide (y ∈ q_stp n D H s xo) && G y)
def q_bk {α : Type} (n : Nat) (D : Nat → nd) (H : α → Nat → Nat → Nat → Bool) : List (Nat × Nat × List Nat × List α) → (Nat → Bool) → Nat → Bool
  | [], G => G
  | s :: l, G => fun x => q_b1 n D H s (q_bk n D H l G) (some x)
theorem q_swap {α : Type} {H : α → Nat → Nat → Nat → Bool} : ∀ (l : List (Nat × Nat × List Nat × List α)) (S G : Nat → Bool), (List.range n).any (fun y => q_ld n D H l S y && G y) = (List.range n).any (fun x => S x && q_bk n D H l G x) := by
  intro l
  induction l with
  | nil => intro S G; rfl
  | cons s l ih =>
    intro S G
    show (List.range n).any (fun y => q_ld n D H l (q_nx n D H s S) y && G y) = _
    rw [ih (q_nx n D H s S) G, Bool.eq_iff_iff, List.any_eq_true, List.any_eq_true]
    constructor
    · rintro ⟨x, hx, e⟩
      rw [Bool.and_eq_true] at e
      obtain ⟨e1, e2⟩ := e
      obtain ⟨y, hy, e3⟩ := List.any_eq_true.mp e1
      rw [Bool.and_eq_true] at e3
      refine ⟨y, hy, ?_⟩
      rw [Bool.and_eq_true]
      refine ⟨e3.1, List.any_eq_true.mpr ⟨x, hx, ?_⟩⟩
      rw [Bool.and_eq_true]
      exact ⟨e3.2, e2⟩
    · rintro ⟨y, hy, e⟩
      rw [Bool.and_eq_true] at e
      obtain ⟨e1, e2⟩ := e
      obtain ⟨x, hx, e3⟩ := List.any_eq_true.mp e2
      rw [Bool.and_eq_true] at e3
      refine ⟨x, hx, ?_⟩
      rw [Bool.and_eq_true]
      refine ⟨List.any_eq_true.mpr ⟨y, hy, ?_⟩, e3.2⟩
      rw [Bool.and_eq_true]
      exact ⟨e1, e3.1⟩
theorem q_hit_eq {α : Type} {H : α → Nat → Nat → Nat → Bool} {what : Nat} {str : List Nat} {ab : Bool} {s : Nat × Nat × List Nat × List α} {l : List (Nat × Nat × List Nat × List α)} {x : Nat} : q_hit n D H what str ab (s :: l) x = q_b1 n D H s (q_bk n D H l (goS n D what str)) (if ab = true then none else some x) := q_swap l _ _
theorem q_b1_cmp {mk : Nat} (ok : nd_ok mk n D) {α : Type} {H : α → Nat → Nat → Nat → Bool} {s : Nat × Nat × List Nat × List α} {xo : Option Nat} (hxo : ∀ x, xo = some x → x < n) {v m : Int64} {G : Nat → Bool} (hv : bR v (fun y => decide (y ∈ q_stp n D H s xo))) (hm : bR m (fun y => decide (y < n) && G y)) : mm_cmp (v &&& m) 0 = 0 ↔ q_b1 n D H s G xo = false := by
  have hn := ok.1
  rw [b_cmp0]
  unfold q_b1
  rw [List.any_eq_false]
  constructor
  · intro k y hy w
    have hy := List.mem_range.mp hy
    have := k y (by omega)
    rw [b_and, hv.at (by omega), hm.at (by omega), decide_eq_true hy, Bool.true_and] at this
    rw [this] at w
    cases w
  · intro k y hy
    rw [b_and, (hv.at hy), (hm.at hy)]
    cases e : decide (y ∈ q_stp n D H s xo) with
    | false => rfl
    | true =>
      have hyn := q_stp_lt ok hxo y (of_decide_eq_true e)
      have := k y (List.mem_range.mpr hyn)
      rw [e, Bool.true_and] at this
      rw [decide_eq_true hyn, Bool.true_and, Bool.true_and]
      simpa using this
theorem wk_whL (G : wk dA h z w a n B D) {N : Nat} {L : List Nat} {c : Nat} {s : qSt N} (p : sP dA h z F (kfD n D) (pP dA h z F (kfD n D) (hfD n D) N) L c s) (vs : vSt (vPr N) s) {m : Int64} {S : Nat → Bool} (hm : bR m (fun y => decide (y < n) && S y)) {K : Int64 → hm_T → hz_T → Prop} (hK : ∀ v, bR v (fun x => decide (x < n) && q_b1 n D (q_H n D N) s S (some x)) → K v h z) : ∀ (r fu k : Nat), k + r = n → r < fu → w_Walker_whence_6 dA w K fu (some c) m (bO (fun x => q_b1 n D (q_H n D N) s S (some x)) k) (nI k) h z := by
  have hn := G.hn
  obtain ⟨mk, ok⟩ := G.ok
  intro r
  induction r with
  | zero =>
    intro fu k hk hr
    obtain ⟨fu, rfl⟩ : ∃ f, fu = f + 1 := ⟨fu - 1, by omega⟩
    obtain rfl : k = n := by omega
    unfold w_Walker_whence_6
    exact G.size (if_yes (nI_le (Nat.le_refl _) (by omega)) (hK _ (fun y hy => b_O hy k (by omega))))
  | succ r ih =>
    intro fu k hk hr
    obtain ⟨fu, rfl⟩ : ∃ f, fu = f + 1 := ⟨fu - 1, by omega⟩
    have i1 := ih fu (k + 1) (by omega) (by omega)
    unfold w_Walker_whence_6
    have hxo : ∀ x, some k = some x → x < n := fun x hx => by cases hx; omega
    refine G.size (if_no (nI_ge (by omega) (by omega)) (cg_c_of G.W (wk_lead (xo := some k) G p vs (by omega) hxo (fun v hv => ?_))))
    have e := q_b1_cmp ok hxo hv hm
    unfold w_Walker_whence_42
    rw [nI_1]
    cases eb : q_b1 n D (q_H n D N) s S (some k) with
    | false =>
      refine if_yes (e.mpr eb) ?_
      rw [bO_s0 (S := fun x => q_b1 n D (q_H n D N) s S (some x)) eb]
      exact i1
    | true =>
      refine if_no (fun q => by rw [e.mp q] at eb; cases eb) ?_
      rw [bO_s1 (S := fun x => q_b1 n D (q_H n D N) s S (some x)) eb]
      exact i1
theorem wk_wh (G : wk dA h z w a n B D) {N : Nat} {L : List Nat} {c : Nat} {s : qSt N} (p : sP dA h z F (kfD n D) (pP dA h z F (kfD n D) (hfD n D) N) L c s) (vs : vSt (vPr N) s) {m : Int64} {S : Nat → Bool} (hm : bR m (fun y => decide (y < n) && S y)) {K : Int64 → hm_T → hz_T → Prop} (hK : ∀ v, bR v (fun x => decide (x < n) && q_b1 n D (q_H n D N) s S (some x)) → K v h z) : w_Walker_whence dA w (some c) m K h z := by
  have hn := G.hn
  unfold w_Walker_whence
  exact wk_whL G p vs hm hK n mF 0 (by omega) (by unfold mF; omega)
theorem drop_g {α : Type} {l : List α} {k : Nat} (hk : k < l.length) : ∃ x, l[k]? = some x ∧ x ∈ l ∧ l.drop k = x :: l.drop (k + 1) := ⟨l[k], List.getElem?_eq_getElem hk, List.getElem_mem hk, List.drop_eq_getElem_cons hk⟩
theorem wk_goL5 (G : wk dA h z w a n B D) {N : Nat} {c al : Nat} {ab : Bool} {l : List (qSt N)} {rs L : List Nat} (c0 : h c = some (.inr (11, [.int (bI ab), .ref al]))) (j : jF dA h F al rs) (p : pl (sP dA h z F (kfD n D) (pP dA h z F (kfD n D) (hfD n D) N)) L rs l) (vs : ∀ s ∈ l, vSt (vPr N) s) {x1 : Int32} {K : Int64 → hm_T → hz_T → Prop} : ∀ (r fu k : Nat) (m : Int64) (S : Nat → Bool), k + r = l.length → r < fu → 1 ≤ k → bR m S → (∀ v, bR v (q_ld n D (q_H n D N) (l.drop k) S) → K v h z) → w_Walker_goFrom_5 dA w K fu x1 (some c) m (nI k) h z := by
  have hle := j.le
  have hlen := pl.len _ _ _ p
  intro r
  induction r with
  | zero =>
    intro fu k m S hk hr h1 hm hK
    obtain ⟨fu, rfl⟩ : ∃ f, fu = f + 1 := ⟨fu - 1, by omega⟩
    unfold w_Walker_goFrom_5
    rw [List.drop_eq_nil_of_le (by omega)] at hK
    exact cg_d_of (cg_R_ref c0 rfl (cg_d_of (j.sz (if_yes (nI_le (by omega) (by omega)) (hK m hm)))))
  | succ r ih =>
    intro fu k m S hk hr h1 hm hK
    obtain ⟨fu, rfl⟩ : ∃ f, fu = f + 1 := ⟨fu - 1, by omega⟩
    obtain ⟨s, es, ms, ed⟩ := drop_g (l := l) (k := k) (by omega)
    obtain ⟨L1, ps⟩ := pl.at _ _ _ p k s es
    obtain ⟨fs, cs12⟩ : ∃ fs, h (rs.getD k 0) = some (.inr (12, fs)) := by
      obtain ⟨nm, al2, u, rs2, L2, eL, f, c9, _⟩ := ps
      exact ⟨_, c9⟩
    rw [ed] at hK
    unfold w_Walker_goFrom_5
    refine cg_d_of (cg_R_ref c0 rfl (cg_d_of (j.sz (if_no (nI_ge (by omega) (by omega)) (cg_d_of (cg_R_ref c0 rfl (cg_d_of (j.gi (by omega) (cg_c_of cs12 (if_no (nI_ne (b := 0) (by omega) (by omega) (by omega)) (cg_c_of G.W (wk_lall G ps (vs s ms) hm (fun v hv => ?_)))))))))))))
    unfold w_Walker_goFrom_66
    rw [nI_1]
    exact ih fu (k + 1) v _ (by omega) (by omega) (by omega) hv hK
theorem wk_goFrom (G : wk dA h z w a n B D) {N : Nat} {c : Nat} {pt : qPt N} {L : List Nat} (p : tP dA h z F (kfD n D) (pP dA h z F (kfD n D) (hfD n D) N) L c pt) (vs : ∀ s ∈ pt.2, vSt (vPr N) s) (hne : pt.2 ≠ []) {x : Nat} (hx : x < n) {K : Int64 → hm_T → hz_T → Prop} (hK : ∀ v, bR v (q_rch n D (q_H n D N) pt.2 (if pt.1 = true then none else some x)) → K v h z) : w_Walker_goFrom dA w (nI x) (some c) K h z := by
  have hn := G.hn
  obtain ⟨al, rs, f, c0, j, p⟩ := p
  have hle := j.le
  have hlen := pl.len _ _ _ p
  have hl : 0 < pt.2.length := List.length_pos_iff.mpr hne
  obtain ⟨s, es, ms, ed⟩ := drop_g (l := pt.2) (k := 0) hl
  obtain ⟨L1, ps⟩ := pl.at _ _ _ p 0 s es
  obtain ⟨fs, cs12⟩ : ∃ fs, h (rs.getD 0 0) = some (.inr (12, fs)) := by
    obtain ⟨nm, al2, u, rs2, L2, eL, f, c9, _⟩ := ps
    exact ⟨_, c9⟩
  rw [List.drop_zero] at ed
  rw [ed] at hK
  have go : ∀ xo, (∀ x, xo = some x → x < n) → (∀ v, bR v (q_ld n D (q_H n D N) (pt.2.drop 1) (fun y => decide (y ∈ q_stp n D (q_H n D N) s xo))) → K v h z) → w_Walker_goFrom_51 dA w K (w_Walker_goFrom_5 dA w K 5999) (nI x) (some c) 0 (oX xo) (some (rs.getD 0 0)) h z := fun xo hxo k => by
    unfold w_Walker_goFrom_51 w_Walker_goFrom_66
    refine cg_c_of G.W (wk_lead G ps (vs s ms) (by omega) hxo (fun v hv => ?_))
    exact wk_goL5 G c0 j p vs (pt.2.length - 1) 5999 1 v _ (by omega) (by omega) (Nat.le_refl _) hv k
  unfold w_Walker_goFrom mF w_Walker_goFrom_5
  refine cg_d_of (cg_R_ref c0 rfl (cg_d_of (j.sz (if_no (nI_ge (b := rs.length) (a := 0) (by omega) (by omega)) (cg_d_of (cg_R_ref c0 rfl (cg_d_of (j.gi (i := 0) (by omega) (cg_c_of cs12 (if_yes rfl (cg_d_of (cg_I_of c0 rfl ?_))))))))))))
  cases e : pt.1 with
  | false =>
    rw [e] at hK
    exact if_yes rfl (go (some x) (fun y hy => by cases hy; exact hx) hK)
  | true =>
    rw [e] at hK
    exact if_no (by decide) (go none (fun y hy => by cases hy) hK)
theorem wk_orL (G : wk dA h z w a n B D) {N : Nat} {c al : Nat} {ab : Bool} {l : List (qSt N)} {rs L : List Nat} (c0 : h c = some (.inr (11, [.int (bI ab), .ref al]))) (j : jF dA h F al rs) (p : pl (sP dA h z F (kfD n D) (pP dA h z F (kfD n D) (hfD n D) N)) L rs l) (vs : ∀ s ∈ l, vSt (vPr N) s) (h0 : 0 < n) {what : Nat} {str : List Nat} {K : Int64 → hm_T → hz_T → Prop} (hK : ∀ v, bR v (fun x => decide (x < n) && q_hit n D (q_H n D N) what str ab l x) → K v h z) : ∀ (k fu : Nat) (m : Int64), k < l.length → k + 2 < fu → bR m (fun y => decide (y < n) && q_bk n D (q_H n D N) (l.drop (k + 1)) (goS n D what str) y) → w_Walker_origins_14 dA w K fu (some c) m (nI k) h z := by
  have hn := G.hn
  obtain ⟨mk, ok⟩ := G.ok
  have hle := j.le
  have hlen := pl.len _ _ _ p
  intro k
  induction k with
  | zero =>
    intro fu m hk hf hm
    obtain ⟨fu, rfl⟩ : ∃ f, fu = f + 1 + 1 := ⟨fu - 2, by omega⟩
    obtain ⟨s, es, ms, ed⟩ := drop_g (l := l) (k := 0) hk
    obtain ⟨L1, ps⟩ := pl.at _ _ _ p 0 s es
    obtain ⟨fs, cs12⟩ : ∃ fs, h (rs.getD 0 0) = some (.inr (12, fs)) := by
      obtain ⟨nm, al2, u, rs2, L2, eL, f, c9, _⟩ := ps
      exact ⟨_, c9⟩
    rw [List.drop_zero] at ed
    have fin : ∀ v, bR v (fun x => decide (x < n) && q_hit n D (q_H n D N) what str ab l x) → w_Walker_origins_90 dA w K (w_Walker_origins_14 dA w K (fu + 1)) (some c) v (nI 0) h z := fun v hv => by
      unfold w_Walker_origins_90 w_Walker_origins_14
      exact if_yes (by decide) (hK v hv)
    unfold w_Walker_origins_14
    refine if_no (nI_pos (by decide)) (cg_d_of (cg_R_ref c0 rfl (cg_d_of (j.gi (i := 0) (by omega) (cg_c_of cs12 (if_yes rfl (cg_d_of (cg_I_of c0 rfl ?_))))))))
    cases e : ab with
    | false =>
      rw [e] at fin
      unfold w_Walker_origins_80
      refine if_yes rfl (cg_c_of G.W (wk_wh G ps (vs s ms) hm (fun v hv => fin v (bR_cg hv (fun x hx => ?_)))))
      rw [ed, q_hit_eq]
      rfl
    | true =>
      rw [e] at fin
      refine if_no (by decide) (cg_c_of G.W (wk_lead (xo := none) G ps (vs s ms) h0 (fun x hx => by cases hx) (fun v hv => ?_)))
      have e2 := q_b1_cmp ok (fun x hx => by cases hx) hv hm
      have e3 : ∀ x, q_hit n D (q_H n D N) what str true l x = q_b1 n D (q_H n D N) s (q_bk n D (q_H n D N) (l.drop (0 + 1)) (goS n D what str)) none := fun x => by
        conv => lhs; rw [ed]
        rw [q_hit_eq]
        rfl
      cases eb : q_b1 n D (q_H n D N) s (q_bk n D (q_H n D N) (l.drop (0 + 1)) (goS n D what str)) none with
      | false =>
        refine if_yes (e2.mpr eb) ?_
        unfold w_Walker_origins_75
        refine fin 0 (bR.mk (fun y hy => ?_))
        rw [b_zero, e3, eb, Bool.and_false]
      | true =>
        refine if_no (fun q => by rw [e2.mp q] at eb; cases eb) (G.size (wk_range (f := 0) (Nat.zero_le _) hn (fun v2 hv2 => ?_)))
        unfold w_Walker_origins_75
        refine fin v2 (bR_cg hv2 (fun y hy => ?_))
        rw [e3, eb, Bool.and_true]
        exact decide_eq_decide.mpr ⟨fun k => k.2, fun k => ⟨Nat.zero_le _, k⟩⟩
  | succ k ih =>
    intro fu m hk hf hm
    obtain ⟨fu, rfl⟩ : ∃ f, fu = f + 1 := ⟨fu - 1, by omega⟩
    obtain ⟨s, es, ms, ed⟩ := drop_g (l := l) (k := k + 1) hk
    obtain ⟨L1, ps⟩ := pl.at _ _ _ p (k + 1) s es
    obtain ⟨fs, cs12⟩ : ∃ fs, h (rs.getD (k + 1) 0) = some (.inr (12, fs)) := by
      obtain ⟨nm, al2, u, rs2, L2, eL, f, c9, _⟩ := ps
      exact ⟨_, c9⟩
    unfold w_Walker_origins_14
    refine if_no (nI_pos (by omega)) (cg_d_of (cg_R_ref c0 rfl (cg_d_of (j.gi (by omega) (cg_c_of cs12 (if_no (nI_ne (b := 0) (by omega) (by omega) (by omega)) ?_))))))
    unfold w_Walker_origins_80 w_Walker_origins_90
    refine cg_c_of G.W (wk_wh G ps (vs s ms) hm (fun v hv => ?_))
    have e1 : nI (k + 1) + -1 = nI k := by rw [← nI_1, Int32.add_assoc, show (1 : Int32) + -1 = 0 by decide, Int32.add_zero]
    rw [e1]
    refine ih fu v (by omega) (by omega) (bR_cg hv (fun x hx => ?_))
    rw [ed]
    rfl
theorem wk_orig (G : wk dA h z w a n B D) {N : Nat} {c : Nat} {pt : qPt N} {L : List Nat} (p : tP dA h z F (kfD n D) (pP dA h z F (kfD n D) (hfD n D) N) L c pt) (vs : ∀ s ∈ pt.2, vSt (vPr N) s) (hne : pt.2 ≠ []) (h0 : 0 < n) {what : Nat} {str : List Nat} {m : Int64} (hm : bR m (fun y => decide (y < n) && goS n D what str y)) {K : Int64 → hm_T → hz_T → Prop} (hK : K (bO (q_hit n D (q_H n D N) what str pt.1 pt.2) n) h z) : w_Walker_origins dA w (some c) m K h z := by
  have hn := G.hn
  obtain ⟨al, rs, f, c0, j, p⟩ := p
  have hle := j.le
  have hlen := pl.len _ _ _ p
  have hl : 0 < pt.2.length := List.length_pos_iff.mpr hne
  unfold w_Walker_origins
  refine cg_d_of (cg_R_ref c0 rfl (cg_d_of (j.sz ?_)))
  rw [show (1 : Int32) = nI 1 from rfl, nI_sub (by omega)]
  refine wk_orL G c0 j p vs h0 (what := what) (str := str) (fun v hv => ?_) (rs.length - 1) mF m (by omega) (by unfold mF; omega) ?_
  · rw [bO_eq hn hv]; exact hK
  · rw [List.drop_eq_nil_of_le (by omega)]
    exact hm
end QV7
