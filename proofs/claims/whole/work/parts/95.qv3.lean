-- the class's walker: what it holds, and the axes
section QV3
variable {dA : Nat → ClassId} {h h1 : hm_T} {z z1 : hz_T} {w a n : Nat} {B : Nat → Nat} {D : Nat → nd}
/-- the walker w over the tree a of n nodes -/
def wk (dA : Nat → ClassId) (h : hm_T) (z : hz_T) (w a n : Nat) (B : Nat → Nat) (D : Nat → nd) : Prop := ∃ (aM aO aE mk m : Nat) (N E : Nat → Nat) (J : Nat → Int32 × Option Nat × Int32 × Nat × Nat × Int32) (V : Nat → Int32 × Nat × Nat) (Q : Nat → Prop), h w = some (.inr (14, [.ref a])) ∧ cp_T dA h a aM aO aE mk n m N B E J V ∧ cp_P mk n N B J V ∧ cp_doc dA h z Q B J (fun x => (V x).2.1) n D ∧ nd_ok mk n D ∧ nd_pre n D ∧ nd_at n D
theorem wk.ok (G : wk dA h z w a n B D) : ∃ mk, nd_ok mk n D := by
  obtain ⟨aM, aO, aE, mk, m, N, E, J, V, Q, W, T, P, d, ok, pre, at0⟩ := G
  exact ⟨mk, ok⟩
theorem wk.pre (G : wk dA h z w a n B D) : nd_pre n D := by
  obtain ⟨aM, aO, aE, mk, m, N, E, J, V, Q, W, T, P, d, ok, pre, at0⟩ := G
  exact pre
theorem wk.at0 (G : wk dA h z w a n B D) : nd_at n D := by
  obtain ⟨aM, aO, aE, mk, m, N, E, J, V, Q, W, T, P, d, ok, pre, at0⟩ := G
  exact at0
theorem wk.W (G : wk dA h z w a n B D) : h w = some (.inr (14, [.ref a])) := by
  obtain ⟨aM, aO, aE, mk, m, N, E, J, V, Q, W, T, P, d, ok, pre, at0⟩ := G
  exact W
theorem wk.hn (G : wk dA h z w a n B D) : n ≤ 40 := by
  obtain ⟨aM, aO, aE, mk, m, N, E, J, V, Q, W, T, P, d, ok, pre, at0⟩ := G
  exact ok.1
/-- the tree's size -/
theorem wk.size (G : wk dA h z w a n B D) {K : Int32 → Prop} (hK : K (nI n)) : cg_R h 14 0 w (fun v => cg_d v (fun a2 => cg_I h 1 3 a2 K)) := by
  obtain ⟨aM, aO, aE, mk, m, N, E, J, V, Q, W, T, P, d, ok, pre, at0⟩ := G
  exact cg_R_ref W rfl (cg_d_of (cg_I_of T.1 rfl hK))
/-- the node in a place -/
theorem wk.node (G : wk dA h z w a n B D) {k : Nat} (hk : k < n) {K : Option Nat → Prop} (hK : K (some (B k))) : cg_R h 14 0 w (fun v => cg_d v (fun a2 => cg_R h 1 2 a2 (fun v2 => cg_d v2 (fun a3 => cg_ar dA h 5 a3 (nI k) K)))) := by
  obtain ⟨aM, aO, aE, mk, m, N, E, J, V, Q, W, T, P, d, ok, pre, at0⟩ := G
  have hb := T.2.2.2.2.2.2.2.2.2.2
  obtain ⟨f, hO, hf⟩ := T.2.2.1
  exact cg_R_ref W rfl (cg_d_of (cg_R_ref T.1 rfl (cg_d_of (cg_ar_of hO (by omega) (by omega) (hf k hk) hK))))
/-- a node's fields: kind, parent, place, text -/
theorem wk.cell (G : wk dA h z w a n B D) {k : Nat} (hk : k < n) : ∃ (fs : List Value) (tt u : Nat), h (B k) = some (.inr (8, fs)) ∧ fs[0]? = some (.int (nI (D k).2.1)) ∧ fs[1]? = some (va_rf ((D k).2.2.1.map B)) ∧ fs[6]? = some (.int (nI k)) ∧ fs[7]? = some (.ref tt) ∧ z tt = some (u, (D k).2.2.2.2.2) := by
  obtain ⟨aM, aO, aE, mk, m, N, E, J, V, Q, W, T, P, d, ok, pre, at0⟩ := G
  obtain ⟨d1, d2, d3, d4, d5, d6, d7, u, d8⟩ := d k hk
  refine ⟨_, _, u, cp_nB T hk, ?_, ?_, ?_, rfl, d8⟩
  · show some (Value.int (J (B k)).1) = _; rw [d1]
  · show some (va_rf (J (B k)).2.1) = _; rw [d2]
  · show some (Value.int (V (B k)).1) = _; rw [P.2.1 k hk]
/-- where a node's inside ends -/
theorem wk.endOf (G : wk dA h z w a n B D) {k : Nat} (hk : k < n) {K : Int32 → hm_T → hz_T → Prop} (hK : K (nI (a_end n D k)) h z) : cg_R h 14 0 w (fun v => cg_d v (fun a2 => cg_c h 1 a2 (w_Tree_endOf dA a2 (some (B k)) K h z))) := by
  obtain ⟨aM, aO, aE, mk, m, N, E, J, V, Q, W, T, P, d, ok, pre, at0⟩ := G
  exact cg_R_ref W rfl (cg_d_of (cg_c_of T.1 (cp_endOf (pa := fun k => (D k).2.2.1) T P (fun j hj => ⟨(d j hj).2.2.1, by
    have := mp_dp_le (pa := fun k => (D k).2.2.1) (fun k hk p e => (ok.2 k hk).2.2.1 p e) (j + 1) j hj
    have hn := ok.1
    unfold mp_dep
    omega⟩) hk hK)))
theorem wk.inj (G : wk dA h z w a n B D) {i j : Nat} (hi : i < n) (hj : j < n) (e : B i = B j) : i = j := by
  obtain ⟨aM, aO, aE, mk, m, N, E, J, V, Q, W, T, P, d, ok, pre, at0⟩ := G
  have hn := ok.1
  have e1 := P.2.1 i hi
  rw [e, P.2.1 j hj] at e1
  exact ((nI_eq (by omega) (by omega)).mp e1).symm
theorem wk.paB (G : wk dA h z w a n B D) {k : Nat} (hk : k < n) {p : Option Nat} (hp : ∀ q, p = some q → q < n) : (D k).2.2.1.map B = p.map B ↔ (D k).2.2.1 = p := by
  obtain ⟨mk, ok⟩ := G.ok
  constructor
  · intro e
    cases e1 : (D k).2.2.1 with
    | none =>
      rw [e1] at e
      cases p with
      | none => rfl
      | some q => cases e
    | some i =>
      rw [e1] at e
      cases p with
      | none => cases e
      | some q =>
        have hi := (ok.2 k hk).2.2.1 i e1
        rw [G.inj (i := i) (j := q) (by omega) (hp q rfl) (Option.some.inj e)]
  · intro e; rw [e]
theorem wk_chL (G : wk dA h z w a n B D) {p : Nat} (hp : p < n) {K : Int64 → hm_T → hz_T → Prop} (hK : K (bO (fun k => decide ((D k).2.2.1 = some p)) n) h z) : ∀ (r fu k : Nat), k + r = n → r < fu → w_Walker_children_5 dA w K fu (some (B p)) (bO (fun k => decide ((D k).2.2.1 = some p)) k) (nI k) h z := by
  have hn := G.hn
  intro r
  induction r with
  | zero =>
    intro fu k hk hr
    obtain ⟨fu, rfl⟩ : ∃ f, fu = f + 1 := ⟨fu - 1, by omega⟩
    obtain rfl : k = n := by omega
    unfold w_Walker_children_5
    exact if_no (by simp) (G.size (if_yes (nI_le (Nat.le_refl _) (by omega)) hK))
  | succ r ih =>
    intro fu k hk hr
    obtain ⟨fu, rfl⟩ : ∃ f, fu = f + 1 := ⟨fu - 1, by omega⟩
    have i1 := ih fu (k + 1) (by omega) (by omega)
    obtain ⟨fs, tt, u, c1, c2, c3, c4, c5, c6⟩ := G.cell (k := k) (by omega)
    have e := G.paB (k := k) (by omega) (p := some p) (fun q hq => by cases hq; exact hp)
    unfold w_Walker_children_5
    refine if_no (by simp) (G.size (if_no (nI_ge (by omega) (by omega)) (G.node (by omega) (cg_d_of (cg_R_of c1 c3 ?_)))))
    unfold w_Walker_children_47
    rw [nI_1]
    show if (D k).2.2.1.map B = Option.map B (some p) then _ else _
    by_cases q : (D k).2.2.1 = some p
    · refine if_yes (e.mpr q) ?_
      have e2 : bO (fun k => decide ((D k).2.2.1 = some p)) (k + 1) = bO (fun k => decide ((D k).2.2.1 = some p)) k ||| ((1 : Int64) <<< ((nI k).toInt64 &&& 63)) := by
        show _ ||| _ = _
        rw [if_pos (decide_eq_true q)]
      rw [← e2]
      exact i1
    · refine if_no (fun x => q (e.mp x)) ?_
      have e2 : bO (fun k => decide ((D k).2.2.1 = some p)) (k + 1) = bO (fun k => decide ((D k).2.2.1 = some p)) k ||| 0 := by
        show _ ||| _ = _
        rw [if_neg (by simpa using q)]
      rw [← e2]
      exact i1
theorem wk_children (G : wk dA h z w a n B D) {p : Option Nat} (hp : ∀ q, p = some q → q < n) {K : Int64 → hm_T → hz_T → Prop} (hK : ∀ v, bR v (fun y => decide (y < n ∧ p ≠ none ∧ (D y).2.2.1 = p)) → K v h z) : w_Walker_children dA w (p.map B) K h z := by
  have hn := G.hn
  unfold w_Walker_children
  cases p with
  | none =>
    unfold mF w_Walker_children_5
    refine if_yes rfl (hK 0 (bR.mk (fun y hy => ?_)))
    rw [b_zero, decide_eq_false (fun e => e.2.1 rfl)]
  | some p =>
    refine wk_chL G (hp p rfl) (hK _ (bR.mk (fun y hy => ?_))) n mF 0 (by omega) (by unfold mF; omega)
    rw [b_O hy n (by omega)]
    by_cases q : y < n
    · rw [decide_eq_true q, Bool.true_and]
      exact decide_eq_decide.mpr ⟨fun e => ⟨q, by simp, e⟩, fun e => e.2.2⟩
    · rw [decide_eq_false q, Bool.false_and, decide_eq_false (fun e => q e.1)]
theorem wk_ancL (G : wk dA h z w a n B D) {K : Int64 → hm_T → hz_T → Prop} : ∀ (f x fu : Nat) (acc : Int64) (S : Nat → Bool), x < n → x < f → f < fu → bR acc S → (∀ v, bR v (fun y => S y || decide (y ∈ q_anc D f x)) → K v h z) → w_Walker_ancestors_8 dA w K fu acc ((D x).2.2.1.map B) h z := by
  obtain ⟨mk, ok⟩ := G.ok
  have hn := G.hn
  intro f
  induction f with
  | zero => intro x fu acc S _ h2; omega
  | succ f ih =>
    intro x fu acc S hx hf hfu hS hK
    obtain ⟨fu, rfl⟩ : ∃ f, fu = f + 1 := ⟨fu - 1, by omega⟩
    unfold w_Walker_ancestors_8
    unfold q_anc at hK
    cases e : (D x).2.2.1 with
    | none =>
      rw [e] at hK
      refine if_yes rfl (hK acc (bR.mk (fun y hy => ?_)))
      rw [(hS.at hy)]
      simp
    | some p =>
      rw [e] at hK
      have hp := (ok.2 x hx).2.2.1 p e
      obtain ⟨fs, tt, u, c1, c2, c3, c4, c5, c6⟩ := G.cell (k := p) (by omega)
      refine if_no (by simp) (cg_d_of (cg_I_of c1 c4 (cg_d_of (cg_R_of c1 c3 ?_))))
      refine ih p fu _ (fun y => S y || decide (y = p)) (by omega) (by omega) (by omega) (fun y hy => ?_) (fun v hv => hK v (bR.mk (fun y hy => ?_)))
      · rw [b_or, (hS.at hy), b_one (by omega) hy]
      · rw [(hv.at hy)]
        simp only [List.mem_cons, Bool.or_assoc]
        congr 1
        rw [Bool.decide_or]
theorem wk_anc (G : wk dA h z w a n B D) {x : Nat} (hx : x < n) {K : Int64 → hm_T → hz_T → Prop} (hK : ∀ v, bR v (fun y => decide (y ∈ q_anc D 50 x)) → K v h z) : w_Walker_ancestors dA w (some (B x)) K h z := by
  have hn := G.hn
  obtain ⟨fs, tt, u, c1, c2, c3, c4, c5, c6⟩ := G.cell hx
  unfold w_Walker_ancestors
  refine cg_d_of (cg_R_of c1 c3 (wk_ancL G 50 x mF 0 (fun _ => false) hx (by omega) (by unfold mF; omega) (fun y hy => b_zero) (fun v hv => hK v (bR.mk (fun y hy => by rw [(hv.at hy), Bool.false_or])))))
/-- who isn't above x ends ahead of it -/
theorem q_anc_end {mk : Nat} (ok : nd_ok mk n D) (pre : nd_pre n D) {k : Nat} : ∀ (f x : Nat), x < f → x < n → k < x → (k ∈ q_anc D f x ↔ x < a_end n D k) := by
  have up : ∀ j, j < n → ∀ p, (fun k => (D k).2.2.1) j = some p → p < j := fun j hj p hp => (ok.2 j hj).2.2.1 p hp
  intro f
  induction f with
  | zero => intro x h; omega
  | succ f ih =>
    intro x hf hx hk
    have es := mp_end_spec (pa := fun k => (D k).2.2.1) (show k < n by omega)
    unfold q_anc
    cases e : (D x).2.2.1 with
    | none => have := (ok.2 x hx).2.2.2.2.2.2.2.2 e; omega
    | some p =>
      have hp := (ok.2 x hx).2.2.1 p e
      have dx : mp_dep (fun k => (D k).2.2.1) x = mp_dep (fun k => (D k).2.2.1) p + 1 := mp_dep_some up hx e
      have pr := (pre x hx p e).2
      simp only [List.mem_cons]
      rcases Nat.lt_trichotomy p k with q | q | q
      · have d1 := pr k q hk
        constructor
        · rintro (w | w)
          · omega
          · have := (q_anc_len ok f p (by omega)).2 k w; omega
        · intro w
          have := es.2.2.1 x hk w
          omega
      · subst q
        refine ⟨fun _ => ?_, fun _ => Or.inl rfl⟩
        rcases Nat.lt_or_ge x (a_end n D p) with w | w
        · exact w
        · exfalso
          have h3 := es.2.2.2 (show mp_end (fun k => (D k).2.2.1) n p < n by unfold a_end at w; omega)
          unfold a_end at w
          rcases Nat.lt_or_ge (mp_end (fun k => (D k).2.2.1) n p) x with w2 | w2
          · have := pr _ es.1 w2; omega
          · have e3 : mp_end (fun k => (D k).2.2.1) n p = x := by omega
            rw [e3] at h3; omega
      · have i1 := ih p (by omega) (by omega) q
        constructor
        · rintro (w | w)
          · omega
          · have w2 := i1.mp w
            rcases Nat.lt_or_ge x (a_end n D k) with w3 | w3
            · exact w3
            · exfalso
              have h3 := es.2.2.2 (show mp_end (fun k => (D k).2.2.1) n k < n by unfold a_end at w3; omega)
              have h4 := es.2.2.1 p q w2
              unfold a_end at w3 w2
              rcases Nat.lt_or_ge (mp_end (fun k => (D k).2.2.1) n k) x with w4 | w4
              · have := pr _ w2 w4; omega
              · have e3 : mp_end (fun k => (D k).2.2.1) n k = x := by omega
                rw [e3] at h3; omega
        · intro w
          exact Or.inr (i1.mpr (by omega))
end QV3
-- the class's walker: each axis gives the places of the list
section QV4
variable {dA : Nat → ClassId} {h h1 : hm_T} {z z1 : hz_T} {w a n : Nat} {B : Nat → Nat} {D : Nat → nd}
theorem q_axc_in : ∀ i, i < 11 → ((nI (q_axc i) = 65 ↔ i = 4) ∧ (nI (q_axc i) = 66 ↔ i = 5) ∧ (nI (q_axc i) = 68 ↔ i = 1) ∧ (nI (q_axc i) = 69 ↔ i = 2) ∧ (nI (q_axc i) = 70 ↔ i = 9) ∧ (nI (q_axc i) = 76 ↔ i = 8) ∧ (nI (q_axc i) = 78 ↔ i = 7) ∧ (nI (q_axc i) = 80 ↔ i = 3) ∧ (nI (q_axc i) = 82 ↔ i = 10) ∧ (nI (q_axc i) = 83 ↔ i = 6) ∧ (nI (q_axc i) = 67 ↔ i = 0)) := by decide +kernel
def axB (i : Nat) : Bool := decide (i = 4 ∨ i = 5 ∨ i = 8 ∨ i = 10)
theorem bR_cg {v : Int64} {S S2 : Nat → Bool} (hv : bR v S) (e : ∀ y, y < 64 → S y = S2 y) : bR v S2 := fun y hy => ((hv.at hy)).trans (e y hy)
theorem bR_and {v u : Int64} {S S2 : Nat → Bool} (hv : bR v S) (hu : bR u S2) : bR (v &&& u) (fun y => S y && S2 y) := fun y hy => by rw [b_and, (hv.at hy), (hu.at hy)]
theorem bR_rng {f t : Nat} (hf : f ≤ t) (ht : t ≤ 40) : bR (rgL f t) (fun y => decide (f ≤ y ∧ y < t)) := fun y hy => b_rng hf ht hy
theorem wk_range {f t : Nat} {K : Int64 → hm_T → hz_T → Prop} (hf : f ≤ t) (ht : t ≤ 40) (hK : ∀ v, bR v (fun y => decide (f ≤ y ∧ y < t)) → K v h z) : w_Walker_range dA (nI f) (nI t) K h z := by
  unfold w_Walker_range
  exact hK _ (bR_rng hf ht)
theorem dec_and {p q : Prop} [Decidable p] [Decidable q] : (decide p && decide q) = decide (p ∧ q) := by
  by_cases hp : p
  · by_cases hq : q
    · rw [decide_eq_true hp, decide_eq_true hq, decide_eq_true ⟨hp, hq⟩]; rfl
    · rw [decide_eq_false hq, Bool.and_false, decide_eq_false (fun w => hq w.2)]
  · rw [decide_eq_false hp, Bool.false_and, decide_eq_false (fun w => hp w.1)]
theorem dec_not {p : Prop} [Decidable p] : (!decide p) = decide (¬ p) := by
  by_cases hp : p
  · rw [decide_eq_true hp, decide_eq_false (fun w => w hp)]; rfl
  · rw [decide_eq_false hp, decide_eq_true hp]; rfl
theorem wk_axis (G : wk dA h z w a n B D) {i x : Nat} (hi : i ≤ 10) (hx : x < n) {K : Int64 → hm_T → hz_T → Prop} (hK : ∀ v, bR v (fun y => decide (y ∈ q_ax n D i (some x))) → K v h z) : w_Walker_axis dA w (nI (q_axc i)) (some (B x)) K h z := by
  obtain ⟨mk, ok⟩ := G.ok
  have hn := G.hn
  have pre := G.pre
  obtain ⟨fs, tt, u, c1, c2, c3, c4, c5, c6⟩ := G.cell hx
  obtain ⟨i4, i5, i1, i2, i9, i8, i7, i3, i10, i6, i0⟩ := q_axc_in i (by omega)
  have es := mp_end_spec (pa := fun k => (D k).2.2.1) hx
  have hpx : ∀ q, (D x).2.2.1 = some q → q < n := fun q hq => by have := (ok.2 x hx).2.2.1 q hq; omega
  have ho : ∀ y, (D y).2.2.1 = none → y < n → y = 0 := fun y hy hyn => (ok.2 y hyn).2.2.2.2.2.2.2.2 hy
  have pl : ∀ y p, y < n → (D y).2.2.1 = some p → p < y := fun y p hy hp => (ok.2 y hy).2.2.1 p hp
  unfold w_Walker_axis
  by_cases q4 : i = 4
  · subst q4
    exact if_yes (i4.mpr rfl) (cg_c_of G.W (wk_anc G hx (fun v hv => hK v hv)))
  refine if_no (fun e => q4 (i4.mp e)) ?_
  by_cases q5 : i = 5
  · subst q5
    refine if_yes (i5.mpr rfl) (cg_c_of G.W (wk_anc G hx (fun v hv => cg_d_of (cg_I_of c1 c4 (hK _ (bR.mk (fun y hy => ?_)))))))
    rw [b_or, (hv.at hy), b_one (by omega) hy]
    show _ = decide (y ∈ x :: q_anc D 50 x)
    rw [← Bool.decide_or]
    exact decide_eq_decide.mpr (by rw [List.mem_cons]; exact or_comm)
  refine if_no (fun e => q5 (i5.mp e)) ?_
  by_cases q1 : i = 1
  · subst q1
    refine if_yes (i1.mpr rfl) (cg_d_of (cg_I_of c1 c4 (G.endOf hx ?_)))
    rw [nI_1]
    refine wk_range (by unfold a_end; omega) (by unfold a_end; omega) (fun v hv => hK v (bR_cg hv (fun y hy => ?_)))
    exact decide_eq_decide.mpr (q_rng_mem (a := x + 1) (b := a_end n D x)).symm
  refine if_no (fun e => q1 (i1.mp e)) ?_
  by_cases q2 : i = 2
  · subst q2
    refine if_yes (i2.mpr rfl) (cg_d_of (cg_I_of c1 c4 (G.endOf hx ?_)))
    refine wk_range (by unfold a_end; omega) (by unfold a_end; omega) (fun v hv => hK v (bR_cg hv (fun y hy => ?_)))
    refine decide_eq_decide.mpr ?_
    show _ ↔ y ∈ x :: q_rng (x + 1) (a_end n D x)
    rw [List.mem_cons, q_rng_mem]
    unfold a_end
    omega
  refine if_no (fun e => q2 (i2.mp e)) ?_
  by_cases q9 : i = 9
  · subst q9
    refine if_yes (i9.mpr rfl) (G.endOf hx (G.size (wk_range (by unfold a_end; omega) (by omega) (fun v hv => hK v (bR_cg hv (fun y hy => ?_))))))
    exact decide_eq_decide.mpr (q_rng_mem (a := a_end n D x) (b := n)).symm
  refine if_no (fun e => q9 (i9.mp e)) ?_
  by_cases q8 : i = 8
  · subst q8
    refine if_yes (i8.mpr rfl) (cg_d_of (cg_R_of c1 c3 (cg_c_of G.W (wk_children G hpx (fun v hv => cg_d_of (cg_I_of c1 c4 (wk_range (f := 0) (Nat.zero_le _) (by omega) (fun v2 hv2 => hK _ (bR_cg (bR_and hv hv2) (fun y hy => ?_))))))))))
    rw [dec_and]
    refine decide_eq_decide.mpr ?_
    show _ ↔ y ∈ (q_rng 0 x).reverse.filter (fun k => decide ((D k).2.2.1 = (D x).2.2.1))
    rw [List.mem_filter, List.mem_reverse, q_rng_mem, decide_eq_true_iff]
    constructor
    · rintro ⟨⟨h1, h2, h3⟩, h4, h5⟩
      exact ⟨⟨h4, h5⟩, h3⟩
    · rintro ⟨⟨h1, h2⟩, h3⟩
      exact ⟨⟨by omega, fun e => by have := ho x e hx; omega, h3⟩, h1, h2⟩
  refine if_no (fun e => q8 (i8.mp e)) ?_
  by_cases q7 : i = 7
  · subst q7
    refine if_yes (i7.mpr rfl) (cg_d_of (cg_R_of c1 c3 (cg_c_of G.W (wk_children G hpx (fun v hv => cg_d_of (cg_I_of c1 c4 (G.size ?_)))))))
    rw [nI_1]
    refine wk_range (by omega) (by omega) (fun v2 hv2 => hK _ (bR_cg (bR_and hv hv2) (fun y hy => ?_)))
    rw [dec_and]
    refine decide_eq_decide.mpr ?_
    show _ ↔ y ∈ (q_rng (x + 1) n).filter (fun k => decide ((D k).2.2.1 = (D x).2.2.1))
    rw [List.mem_filter, q_rng_mem, decide_eq_true_iff]
    constructor
    · rintro ⟨⟨h1, h2, h3⟩, h4, h5⟩
      exact ⟨⟨h4, h5⟩, h3⟩
    · rintro ⟨⟨h1, h2⟩, h3⟩
      exact ⟨⟨h2, fun e => by rw [e] at h3; have := ho y h3 h2; omega, h3⟩, h1, h2⟩
  refine if_no (fun e => q7 (i7.mp e)) ?_
  by_cases q3 : i = 3
  · subst q3
    refine if_yes (i3.mpr rfl) (cg_d_of (cg_R_of c1 c3 ?_))
    have ea : q_ax n D 3 (some x) = q_anc D 1 x := rfl
    unfold q_anc at ea
    cases e : (D x).2.2.1 with
    | none =>
      rw [e] at ea
      refine if_yes rfl (hK 0 (bR.mk (fun y hy => ?_)))
      rw [b_zero, ea]
      rfl
    | some p =>
      rw [e] at ea
      rw [e] at c3
      obtain ⟨fs2, tt2, u2, e1, e2, e3, e4, e5, e6⟩ := G.cell (hpx p e)
      refine if_no (by simp) (cg_d_of (cg_R_of c1 c3 (cg_d_of (cg_I_of e1 e4 (hK _ (bR.mk (fun y hy => ?_)))))))
      rw [b_one (by have := hpx p e; omega) hy, ea]
      exact decide_eq_decide.mpr (by simp [q_anc])
  refine if_no (fun e => q3 (i3.mp e)) ?_
  by_cases q10 : i = 10
  · subst q10
    refine if_yes (i10.mpr rfl) (cg_d_of (cg_I_of c1 c4 (wk_range (f := 0) (Nat.zero_le _) (by omega) (fun v hv => cg_c_of G.W (wk_anc G hx (fun v2 hv2 => hK _ (bR.mk (fun y hy => ?_))))))))
    rw [b_and, (hv.at hy), b_not hy, (hv2.at hy), dec_not, dec_and]
    refine decide_eq_decide.mpr ?_
    show _ ↔ y ∈ (q_rng 0 x).reverse.filter (fun k => decide (a_end n D k ≤ x))
    rw [List.mem_filter, List.mem_reverse, q_rng_mem, decide_eq_true_iff]
    constructor
    · rintro ⟨⟨h1, h2⟩, h3⟩
      have := q_anc_end ok pre 50 x (by omega) hx h2
      exact ⟨⟨h1, h2⟩, Nat.le_of_not_lt (fun w => h3 (this.mpr w))⟩
    · rintro ⟨⟨h1, h2⟩, h3⟩
      have := q_anc_end ok pre 50 x (by omega) hx h2
      exact ⟨⟨h1, h2⟩, fun w => by have := this.mp w; omega⟩
  refine if_no (fun e => q10 (i10.mp e)) ?_
  by_cases q6 : i = 6
  · subst q6
    refine if_yes (i6.mpr rfl) (cg_d_of (cg_I_of c1 c4 (hK _ (bR.mk (fun y hy => ?_)))))
    rw [b_one (by omega) hy]
    exact decide_eq_decide.mpr (by show _ ↔ y ∈ [x]; simp)
  refine if_no (fun e => q6 (i6.mp e)) ?_
  have q0 : i = 0 := by omega
  subst q0
  unfold w_Walker_axis_255
  refine cg_c_of G.W (wk_children G (p := some x) (fun q hq => by cases hq; exact hx) (fun v hv => hK v (bR_cg hv (fun y hy => ?_))))
  refine decide_eq_decide.mpr ?_
  show _ ↔ y ∈ (q_rng (x + 1) n).filter (fun k => decide ((D k).2.2.1 = some x))
  rw [List.mem_filter, q_rng_mem, decide_eq_true_iff]
  constructor
  · rintro ⟨h1, h2, h3⟩
    have := pl y x h1 h3
    exact ⟨⟨by omega, h1⟩, h3⟩
  · rintro ⟨⟨h1, h2⟩, h3⟩
    exact ⟨h2, by simp, h3⟩
theorem wk_docAxis (G : wk dA h z w a n B D) {i : Nat} (hi : i ≤ 10) (h0 : 0 < n) {K : Int64 → hm_T → hz_T → Prop} (hK : ∀ v, bR v (fun y => decide (y ∈ q_ax n D i none)) → K v h z) : w_Walker_documentAxis dA w (nI (q_axc i)) K h z := by
  have hn := G.hn
  obtain ⟨i4, i5, i1, i2, i9, i8, i7, i3, i10, i6, i0⟩ := q_axc_in i (by omega)
  have all : i = 1 ∨ i = 2 → w_Walker_documentAxis_30 dA w K h z := fun q => by
    unfold w_Walker_documentAxis_30
    refine G.size (wk_range (f := 0) (Nat.zero_le _) hn (fun v hv => hK v (bR_cg hv (fun y hy => ?_))))
    have e : q_ax n D i none = q_rng 0 n := by
      unfold q_ax
      simp only []
      rw [if_neg (by omega), if_pos q]
    rw [e]
    exact decide_eq_decide.mpr (q_rng_mem (a := 0) (b := n)).symm
  unfold w_Walker_documentAxis
  by_cases q0 : i = 0
  · subst q0
    refine if_yes (i0.mpr rfl) (hK 1 (bR.mk (fun y hy => ?_)))
    have e : q_ax n D 0 none = [0] := by
      unfold q_ax
      simp only []
      rw [if_pos trivial, if_neg (by omega)]
    have e1 := b_one (x := 0) (y := y) (by decide) hy
    rw [show (1 : Int64) <<< ((nI 0).toInt64 &&& 63) = 1 by decide] at e1
    rw [e1, e]
    exact decide_eq_decide.mpr (by simp)
  refine if_no (fun e => q0 (i0.mp e)) ?_
  by_cases q1 : i = 1
  · exact if_yes (i1.mpr q1) (all (Or.inl q1))
  refine if_no (fun e => q1 (i1.mp e)) ?_
  by_cases q2 : i = 2
  · exact if_yes (i2.mpr q2) (all (Or.inr q2))
  refine if_no (fun e => q2 (i2.mp e)) (hK 0 (bR.mk (fun y hy => ?_)))
  have e : q_ax n D i none = [] := by
    unfold q_ax
    simp only []
    rw [if_neg q0, if_neg (by omega)]
  rw [b_zero, e]
  rfl
/-- the list of an axis goes one way -/
theorem q_anc_srt {mk : Nat} (ok : nd_ok mk n D) : ∀ (f x : Nat), x < n → srt true (q_anc D f x) := by
  intro f
  induction f with
  | zero => intro x _; exact List.Pairwise.nil
  | succ f ih =>
    intro x hx
    unfold q_anc
    cases e : (D x).2.2.1 with
    | none => exact List.Pairwise.nil
    | some p =>
      have hp := (ok.2 x hx).2.2.1 p e
      exact List.pairwise_cons.mpr ⟨fun y hy => by have := (q_anc_len ok f p (by omega)).2 y hy; simpa using this, ih p (by omega)⟩
theorem q_rng_srt {f t : Nat} : srt false (q_rng f t) := by
  unfold q_rng srt
  rw [List.pairwise_map]
  exact List.pairwise_lt_range.imp (fun h => by simpa using h)
theorem srt_rev {l : List Nat} (s : srt false l) : srt true l.reverse := by
  unfold srt at *
  rw [List.pairwise_reverse]
  exact s.imp (fun h => by simpa using h)
theorem srt_1 {bk : Bool} {x : Nat} : srt bk [x] := List.pairwise_cons.mpr ⟨fun y hy => (by cases hy), List.Pairwise.nil⟩
theorem q_ax_srt {mk : Nat} (ok : nd_ok mk n D) {i : Nat} (hi : i ≤ 10) {xo : Option Nat} (hxo : ∀ x, xo = some x → x < n) : srt (axB i) (q_ax n D i xo) := by
  cases xo with
  | none =>
    unfold q_ax
    simp only []
    by_cases q0 : i = 0
    · rw [if_pos q0]
      by_cases qn : n = 0
      · rw [if_pos qn]; exact List.Pairwise.nil
      · rw [if_neg qn]; exact srt_1
    · rw [if_neg q0]
      by_cases q1 : i = 1 ∨ i = 2
      · rw [if_pos q1]
        have e : axB i = false := decide_eq_false (by omega)
        rw [e]
        exact q_rng_srt
      · rw [if_neg q1]; exact List.Pairwise.nil
  | some x =>
    have hx := hxo x rfl
    by_cases q : i = 4 ∨ i = 5 ∨ i = 8 ∨ i = 10
    · have e : axB i = true := decide_eq_true q
      rw [e]
      rcases q with q | q | q | q
      · subst q; exact q_anc_srt ok 50 x hx
      · subst q
        exact List.pairwise_cons.mpr ⟨fun y hy => by have := (q_anc_len ok 50 x hx).2 y hy; simpa using this, q_anc_srt ok 50 x hx⟩
      · subst q; exact (srt_rev q_rng_srt).filter _
      · subst q; exact (srt_rev q_rng_srt).filter _
    · have e : axB i = false := decide_eq_false q
      rw [e]
      unfold q_ax
      simp only []
      by_cases q0 : i = 0
      · rw [if_pos q0]; exact q_rng_srt.filter _
      rw [if_neg q0]
      by_cases q1 : i = 1
      · rw [if_pos q1]; exact q_rng_srt
      rw [if_neg q1]
      by_cases q2 : i = 2
      · rw [if_pos q2]
        exact List.pairwise_cons.mpr ⟨fun y hy => by have := q_rng_mem.mp hy; simp; omega, q_rng_srt⟩
      rw [if_neg q2]
      by_cases q3 : i = 3
      · rw [if_pos q3]
        unfold q_anc
        cases (D x).2.2.1 with
        | none => exact List.Pairwise.nil
        | some p => exact srt_1
      rw [if_neg q3, if_neg (by omega), if_neg (by omega)]
      by_cases q6 : i = 6
      · rw [if_pos q6]; exact srt_1
      rw [if_neg q6]
      by_cases q7 : i = 7
      · rw [if_pos q7]; exact q_rng_srt.filter _
      rw [if_neg q7, if_neg (by omega)]
      by_cases q9 : i = 9
      · rw [if_pos q9]; exact q_rng_srt
      rw [if_neg q9]
      exfalso
      omega
end QV4
