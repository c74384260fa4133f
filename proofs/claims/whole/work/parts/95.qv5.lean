-- the class's walker: kinds, attributes, texts
section QV5
variable {dA : Nat → ClassId} {h h1 : hm_T} {z z1 : hz_T} {w a n : Nat} {B : Nat → Nat} {D : Nat → nd}
theorem q_sgc_in : ∀ i, i < 5 → ((nI (q_sgc i) = 35 ↔ i = 2) ∧ (nI (q_sgc i) = 37 ↔ i = 3) ∧ (nI (q_sgc i) = 42 ↔ i = 1) ∧ (nI (q_sgc i) = 46 ↔ i = 4)) := by decide +kernel
theorem bI_if {p : Prop} [Decidable p] {K : Int32 → Prop} (hK : K (bI (decide p))) : if p then K 1 else K 0 := by
  by_cases q : p
  · rw [decide_eq_true q] at hK; exact if_yes q hK
  · rw [decide_eq_false q] at hK; exact if_no q hK
def cs (t : List Nat) : Prop := t.length ≤ 120 ∧ ∀ c ∈ t, c < 128
theorem wk.txt (G : wk dA h z w a n B D) {k : Nat} (hk : k < n) : cs (D k).2.2.2.2.2 := by
  obtain ⟨mk, ok⟩ := G.ok
  have o := ok.2 k hk
  exact ⟨by omega, o.2.2.2.2.2.2.2.1⟩
theorem wk.kd (G : wk dA h z w a n B D) {k : Nat} (hk : k < n) {i : Nat} (hi : i < 10) : nI (D k).2.1 = nI i ↔ (D k).2.1 = i := by
  obtain ⟨mk, ok⟩ := G.ok
  have o := ok.2 k hk
  exact nI_eq (by omega) (by omega)
theorem wk_takes (G : wk dA h z w a n B D) {c nm u kd k : Nat} {v0 v3 v4 : Value} {t : List Nat} (c0 : h c = some (.inr (12, [v0, .int (nI (q_sgc kd)), .ref nm, v3, v4]))) (hz : z nm = some (u, t)) (ht : cs t) (hkd : kd ≤ 4) (hk : k < n) {K : Int32 → hm_T → hz_T → Prop} (hK : K (bI (q_kd D kd t k)) h z) : w_Step_takes dA c (some (B k)) K h z := by
  obtain ⟨fs, tt, u2, c1, c2, c3, c4, c5, c6⟩ := G.cell hk
  obtain ⟨i2, i3, i1, i4⟩ := q_sgc_in kd (by omega)
  have tx := G.txt hk
  have kdi : ∀ i, i < 10 → i ≠ 0 → i ≠ 4 → kd = i → q_kd D kd t k = decide ((D k).2.1 = i) := fun i _ h0 h4 e => by
    unfold q_kd
    rw [if_neg (by omega), if_neg (by omega), e]
  have leaf : ∀ i : Nat, i < 10 → i ≠ 0 → i ≠ 4 → kd = i → cg_d (some (B k)) (fun a22 => cg_I h 8 0 a22 (fun v23 => if v23 = nI i then K 1 h z else K 0 h z)) := fun i h1 h0 h4 e => by
    refine cg_d_of (cg_I_of c1 c2 ?_)
    rw [kdi i h1 h0 h4 e] at hK
    by_cases q : (D k).2.1 = i
    · rw [decide_eq_true q] at hK; exact if_yes ((G.kd hk h1).mpr q) hK
    · rw [decide_eq_false q] at hK; exact if_no (fun e => q ((G.kd hk h1).mp e)) hK
  unfold w_Step_takes
  refine cg_I_of c0 rfl ?_
  by_cases q2 : kd = 2
  · exact if_yes (i2.mpr q2) (leaf 2 (by decide) (by decide) (by decide) q2)
  refine if_no (fun e => q2 (i2.mp e)) ?_
  by_cases q3 : kd = 3
  · exact if_yes (i3.mpr q3) (leaf 3 (by decide) (by decide) (by decide) q3)
  refine if_no (fun e => q3 (i3.mp e)) ?_
  by_cases q1 : kd = 1
  · exact if_yes (i1.mpr q1) (leaf 1 (by decide) (by decide) (by decide) q1)
  refine if_no (fun e => q1 (i1.mp e)) ?_
  by_cases q4 : kd = 4
  · refine if_yes (i4.mpr q4) ?_
    have e : q_kd D kd t k = true := by
      unfold q_kd
      rw [if_neg (by omega), if_pos q4]
    rw [e] at hK
    exact hK
  refine if_no (fun e => q4 (i4.mp e)) (cg_d_of (cg_I_of c1 c2 ?_))
  have e : q_kd D kd t k = decide ((D k).2.1 = 1 ∧ (D k).2.2.2.2.2 = t) := by
    unfold q_kd
    rw [if_pos (by omega)]
  rw [e] at hK
  by_cases q : (D k).2.1 = 1
  · refine if_yes ((G.kd hk (i := 1) (by decide)).mpr q) (cg_d_of (cg_R_ref c1 c5 (cg_R_ref c0 rfl (cg_d_of (cg_d_of ⟨u2, _, u, t, c6, hz, by have := tx.1; omega, by have := ht.1; omega, tx.2, ht.2, ?_⟩)))))
    by_cases qt : (D k).2.2.2.2.2 = t
    · rw [if_pos qt]
      rw [decide_eq_true ⟨q, qt⟩] at hK
      exact if_no (by decide) hK
    · rw [if_neg qt]
      rw [decide_eq_false (fun x => qt x.2)] at hK
      exact if_yes rfl hK
  · rw [decide_eq_false (fun x => q x.1)] at hK
    exact if_no (fun e => q ((G.kd hk (i := 1) (by decide)).mp e)) hK
theorem wk_att (G : wk dA h z w a n B D) {k tn un : Nat} {nm : List Nat} (hk : k < n) (hz : z tn = some (un, nm)) (hn : cs nm) {K : Option Nat → hm_T → hz_T → Prop} (k0 : (D k).2.2.2.2.1.find? (fun q => decide (q.1 = nm)) = none → K none h z) (k1 : ∀ x q, (D k).2.2.2.2.1.find? (fun q => decide (q.1 = nm)) = some q → cp_at1 h z x q → (q.2.length ≤ 20 ∧ ∀ c ∈ q.2, c < 128) → K (some x) h z) : w_Node_attributeNamed dA (B k) (some tn) K h z := by
  obtain ⟨aM, aO, aE, mk, m, N, E, J, V, Q, W, T, P, d, ok, pre, at0⟩ := G
  obtain ⟨d1, d2, d3, d4, d5, d6, ⟨ad, aas, j, n1, n2, el, ra⟩, u, d8⟩ := d k hk
  have o := ok.2 k hk
  refine rl_named (cp_nB T hk) rfl j el (fun i hi => (ra i hi).1) hz (by have := hn.1; omega) hn.2 (fun q hq => ⟨by have := (o.2.2.2.2.2.1 q hq).1; omega, (o.2.2.2.2.2.1 q hq).2.2.1⟩) (by omega) (fun nn => k0 ?_) (fun i hi e1 e2 => ?_)
  · rw [List.find?_eq_none]
    exact fun q hq => by simpa using nn q hq
  · have gi : (D k).2.2.2.2.1.getD i ([], []) = (D k).2.2.2.2.1[i] := by rw [List.getD_eq_getElem?_getD, List.getElem?_eq_getElem hi]; rfl
    have gm : (D k).2.2.2.2.1.getD i ([], []) ∈ (D k).2.2.2.2.1 := by rw [gi]; exact List.getElem_mem hi
    have oq := o.2.2.2.2.2.1 _ gm
    refine k1 _ _ ?_ (ra i hi).1 ⟨oq.2.1, oq.2.2.2⟩
    rw [List.find?_eq_some_iff_getElem]
    refine ⟨decide_eq_true e1, i, hi, gi.symm, fun j hj => ?_⟩
    have := e2 j hj
    rw [List.getD_eq_getElem?_getD, List.getElem?_eq_getElem (by omega)] at this
    simpa using this
theorem q_hat_eq (at0 : nd_at n D) {k what : Nat} {nm str : List Nat} (hk : k < n) : q_hat D what nm str k = (match (D k).2.2.2.2.1.find? (fun q => decide (q.1 = nm)) with | none => false | some q => decide (what = 2 ∨ q.2 = str)) := by
  unfold q_hat
  by_cases q : (D k).2.1 = 1
  · rw [decide_eq_true q, Bool.true_and]
    rfl
  · rw [at0 k hk q, decide_eq_false q, Bool.false_and]
    rfl
theorem bO_s1 {S : Nat → Bool} {k : Nat} (e : S k = true) : bO S k ||| ((1 : Int64) <<< ((nI k).toInt64 &&& 63)) = bO S (k + 1) := by
  show _ = bO S k ||| _
  rw [if_pos e]
theorem bO_s0 {S : Nat → Bool} {k : Nat} (e : S k = false) : bO S k ||| 0 = bO S (k + 1) := by
  show _ = bO S k ||| _
  rw [if_neg (by rw [e]; decide)]
theorem wk_wAttL (G : wk dA h z w a n B D) {c nm st u v what : Nat} {v0 v1 v2 v4 v7 : Value} {t str : List Nat} (c0 : h c = some (.inr (13, [v0, v1, v2, .ref nm, v4, .int (nI (q_cmc what)), .ref st, v7]))) (hz : z nm = some (u, t)) (ht : cs t) (hz2 : z st = some (v, str)) (hs : what = 3 → cs str) (hw : what = 2 ∨ what = 3) {K : Int64 → hm_T → hz_T → Prop} (hK : K (bO (q_hat D what t str) n) h z) : ∀ (r fu k : Nat), k + r = n → r < fu → w_Walker_withAttribute_5 dA w K fu (some c) (bO (q_hat D what t str) k) (nI k) h z := by
  have hn := G.hn
  have at0 := G.at0
  intro r
  induction r with
  | zero =>
    intro fu k hk hr
    obtain ⟨fu, rfl⟩ : ∃ f, fu = f + 1 := ⟨fu - 1, by omega⟩
    obtain rfl : k = n := by omega
    unfold w_Walker_withAttribute_5
    exact G.size (if_yes (nI_le (Nat.le_refl _) (by omega)) hK)
  | succ r ih =>
    intro fu k hk hr
    obtain ⟨fu, rfl⟩ : ∃ f, fu = f + 1 := ⟨fu - 1, by omega⟩
    have i1 := ih fu (k + 1) (by omega) (by omega)
    have hkn : k < n := by omega
    obtain ⟨fs, tt, u2, c1, c2, c3, c4, c5, c6⟩ := G.cell hkn
    have he := q_hat_eq (what := what) (nm := t) (str := str) at0 hkn
    have yes : q_hat D what t str k = true → w_Walker_withAttribute_65 dA w K (w_Walker_withAttribute_5 dA w K fu) (some c) (bO (q_hat D what t str) k) (nI k) h z := fun e => by
      unfold w_Walker_withAttribute_65 w_Walker_withAttribute_70 w_Walker_withAttribute_86
      refine if_no (by decide) ?_
      rw [bO_s1 e, nI_1]
      exact i1
    have no : q_hat D what t str k = false → w_Walker_withAttribute_69 dA w K (w_Walker_withAttribute_5 dA w K fu) (some c) (bO (q_hat D what t str) k) (nI k) h z := fun e => by
      unfold w_Walker_withAttribute_69 w_Walker_withAttribute_70 w_Walker_withAttribute_86
      refine if_yes rfl ?_
      rw [bO_s0 e, nI_1]
      exact i1
    unfold w_Walker_withAttribute_5
    refine G.size (if_no (nI_ge (by omega) (by omega)) (G.node hkn (cg_d_of (cg_R_ref c0 rfl (cg_d_of (cg_c_of c1 (wk_att G hkn hz ht (fun e => ?_) (fun x q e hx hq => ?_))))))))
    · rw [e] at he
      exact if_yes rfl (no he)
    · rw [e] at he
      obtain ⟨p1, p2, u3, u4, x1, x2, x3⟩ := hx
      refine if_no (by simp) (cg_d_of (cg_I_of c0 rfl ?_))
      rcases hw with hw | hw
      · subst hw
        exact if_yes (by decide) (yes (he.trans (decide_eq_true (Or.inl rfl))))
      · have hs3 := hs hw
        subst hw
        refine if_no (by decide) (cg_d_of (cg_c_of x1 ?_))
        unfold w_Attribute_value
        refine cg_R_ref x1 rfl (cg_d_of (cg_R_ref c0 rfl (cg_d_of (cg_d_of ⟨u4, _, v, str, x3, hz2, by omega, by have := hs3.1; omega, hq.2, hs3.2, ?_⟩))))
        by_cases qe : q.2 = str
        · rw [if_pos qe]
          exact if_no (by decide) (yes (he.trans (decide_eq_true (Or.inr qe))))
        · rw [if_neg qe]
          exact if_yes rfl (no (he.trans (decide_eq_false (fun x => x.elim (by decide) qe))))
theorem wk_wAtt (G : wk dA h z w a n B D) {c nm st u v what : Nat} {v0 v1 v2 v4 v7 : Value} {t str : List Nat} (c0 : h c = some (.inr (13, [v0, v1, v2, .ref nm, v4, .int (nI (q_cmc what)), .ref st, v7]))) (hz : z nm = some (u, t)) (ht : cs t) (hz2 : z st = some (v, str)) (hs : what = 3 → cs str) (hw : what = 2 ∨ what = 3) {K : Int64 → hm_T → hz_T → Prop} (hK : K (bO (q_hat D what t str) n) h z) : w_Walker_withAttribute dA w (some c) K h z := by
  have hn := G.hn
  unfold w_Walker_withAttribute
  exact wk_wAttL G c0 hz ht hz2 hs hw hK n mF 0 (by omega) (by unfold mF; omega)
-- texts
def fz (beg : Bool) : List Nat → List Nat → Bool
  | [], rem => decide (rem = [])
  | _ :: _, [] => beg
  | c :: t, d :: rem => if c = d then fz beg t rem else false
theorem fz_rd {beg : Bool} : ∀ t str : List Nat, fz beg t str = (if beg = true then str.isPrefixOf t else decide (t = str)) := by
  intro t
  induction t with
  | nil =>
    intro str
    cases str with
    | nil => cases beg <;> rfl
    | cons d r => cases beg <;> rfl
  | cons c t ih =>
    intro str
    cases str with
    | nil => cases beg <;> rfl
    | cons d r =>
      unfold fz
      rw [ih r]
      cases beg with
      | true =>
        rw [if_pos rfl, if_pos rfl]
        show _ = (d == c && r.isPrefixOf t)
        by_cases q : c = d
        · subst q; rw [if_pos rfl, beq_self_eq_true, Bool.true_and]
        · rw [if_neg q, beq_false_of_ne (Ne.symm q), Bool.false_and]
      | false =>
        show (if c = d then decide (t = r) else false) = decide (c :: t = d :: r)
        by_cases q : c = d
        · subst q
          rw [if_pos rfl]
          exact decide_eq_decide.mpr ⟨fun e => by rw [e], fun e => (List.cons.inj e).2⟩
        · rw [if_neg q, decide_eq_false (fun e => q (List.cons.inj e).1)]
theorem nd_leaf {mk : Nat} (ok : nd_ok mk n D) (pre : nd_pre n D) {y : Nat} (hy : y < n) (hk : (D y).2.1 ≠ 1) : a_end n D y = y + 1 := by
  have up : ∀ j, j < n → ∀ p, (fun k => (D k).2.2.1) j = some p → p < j := fun j hj p hp => (ok.2 j hj).2.2.1 p hp
  have es := mp_end_spec (pa := fun k => (D k).2.2.1) hy
  rcases Nat.lt_or_ge (y + 1) (a_end n D y) with q | q
  · exfalso
    unfold a_end at q
    have hn : y + 1 < n := by omega
    have d1 := es.2.2.1 (y + 1) (by omega) q
    cases e : (D (y + 1)).2.2.1 with
    | none => have := (ok.2 _ hn).2.2.2.2.2.2.2.2 e; omega
    | some p =>
      have hp := (ok.2 _ hn).2.2.1 p e
      have p1 := pre _ hn p e
      have d2 : mp_dep (fun k => (D k).2.2.1) (y + 1) = mp_dep (fun k => (D k).2.2.1) p + 1 := mp_dep_some up hn e
      rcases Nat.lt_or_ge p y with w | w
      · have := p1.2 y w (by omega); omega
      · have e2 : p = y := by omega
        rw [e2] at p1
        exact hk p1.1
  · unfold a_end at q ⊢; omega
theorem drop_c {l : List Nat} {i : Nat} (hi : i < l.length) : l.drop i = l.getD i 0 :: l.drop (i + 1) := by
  rw [List.drop_eq_getElem_cons hi, List.getD_eq_getElem?_getD, List.getElem?_eq_getElem hi]
  rfl
theorem q_cmc_in : ∀ i, i < 7 → (nI (q_cmc i) = 126 ↔ i = 6) := by decide +kernel
theorem wk_sv70 (G : wk dA h z w a n B D) {c st v what y q e : Nat} {v0 v1 v2 v3 v4 v7 : Value} {str rest : List Nat} (c0 : h c = some (.inr (13, [v0, v1, v2, v3, v4, .int (nI (q_cmc what)), .ref st, v7]))) (hz2 : z st = some (v, str)) (hs : cs str) (hw : what < 7) (hq : q < n) {K : Int32 → hm_T → hz_T → Prop} {k24 : Option Nat → Option Nat → Option Nat → Int32 → Int32 → Int32 → hm_T → hz_T → Prop} {ans : Bool} (hK : K (bI ans) h z) (hk : ∀ c2, c2 ≤ str.length → fz (decide (what = 6)) rest (str.drop c2) = ans → k24 (some (B y)) (some c) (some st) (nI c2) (nI e) (nI (q + 1)) h z) : ∀ (r fu j c2 : Nat), j + r = (D q).2.2.2.2.2.length → r < fu → c2 ≤ str.length → fz (decide (what = 6)) ((D q).2.2.2.2.2.drop j ++ rest) (str.drop c2) = ans → w_Walker_stringValueFits_70 dA w K k24 fu (some (B y)) (some c) (some st) (nI c2) (nI e) (nI q) (some (B q)) 1 (nI j) h z := by
  obtain ⟨fs, tt, u2, c1, c2', c3, c4, c5, c6⟩ := G.cell hq
  have tx := G.txt hq
  have hn := G.hn
  intro r
  induction r with
  | zero =>
    intro fu j c2 hj hr hc ha
    obtain ⟨fu, rfl⟩ : ∃ f, fu = f + 1 := ⟨fu - 1, by omega⟩
    unfold w_Walker_stringValueFits_70 w_Walker_stringValueFits_142
    refine if_no (by decide) (cg_d_of (cg_R_ref c1 c5 (cg_d_of ⟨u2, _, c6, if_yes (nI_le (by omega) (by have := tx.1; omega)) ?_⟩)))
    rw [nI_1]
    rw [List.drop_eq_nil_of_le (by omega), List.nil_append] at ha
    exact hk c2 hc ha
  | succ r ih =>
    intro fu j c2 hj hr hc ha
    obtain ⟨fu, rfl⟩ : ∃ f, fu = f + 1 := ⟨fu - 1, by omega⟩
    have htx := tx.1
    have hsx := hs.1
    unfold w_Walker_stringValueFits_70
    refine if_no (by decide) (cg_d_of (cg_R_ref c1 c5 (cg_d_of ⟨u2, _, c6, if_no (nI_ge (by omega) (by omega)) (cg_d_of ⟨v, str, hz2, ?_⟩)⟩)))
    rw [drop_c (show j < (D q).2.2.2.2.2.length by omega), List.cons_append] at ha
    by_cases qc : c2 = str.length
    · refine if_yes (by rw [qc]) (cg_d_of (cg_I_of c0 rfl ?_))
      rw [qc, List.drop_eq_nil_of_le (Nat.le_refl _)] at ha
      have ha2 : decide (what = 6) = ans := ha
      have e6 : nI (q_cmc what) = 126 ↔ what = 6 := q_cmc_in what hw
      by_cases q6 : what = 6
      · rw [decide_eq_true q6] at ha2
        rw [← ha2] at hK
        exact if_yes (e6.mpr q6) hK
      · rw [decide_eq_false q6] at ha2
        rw [← ha2] at hK
        exact if_no (fun x => q6 (e6.mp x)) hK
    · have hc3 : c2 < str.length := by omega
      rw [drop_c hc3] at ha
      unfold fz at ha
      have l1 := getD_lt tx.2 j
      have l2 := getD_lt hs.2 c2
      refine if_no (fun x => qc ((nI_eq (by omega) (by omega)).mp x)) (cg_d_of (cg_R_ref c1 c5 (cg_d_of ⟨u2, _, j, c6, rfl, by omega, by omega, tx.2, cg_d_of ⟨v, str, c2, hz2, rfl, hc3, by omega, hs.2, ?_⟩⟩)))
      by_cases qd : (D q).2.2.2.2.2.getD j 0 = str.getD c2 0
      · rw [if_pos qd] at ha
        refine if_yes (by rw [qd]) ?_
        rw [nI_1, nI_1]
        exact ih fu (j + 1) (c2 + 1) (by omega) (by omega) (by omega) ha
      · rw [if_neg qd] at ha
        rw [← ha] at hK
        exact if_no (fun x => qd ((nI_eq (by omega) (by omega)).mp x)) hK
def svP (D : Nat → nd) (y q : Nat) : List Nat := if (D q).2.1 = 2 ∨ (q = y ∧ (D q).2.1 = 3) then (D q).2.2.2.2.2 else []
theorem wk_sv24 (G : wk dA h z w a n B D) {c st v what y : Nat} {v0 v1 v2 v3 v4 v7 : Value} {str : List Nat} (c0 : h c = some (.inr (13, [v0, v1, v2, v3, v4, .int (nI (q_cmc what)), .ref st, v7]))) (hz2 : z st = some (v, str)) (hs : cs str) (hw : what < 7) (hy : y < n) {K : Int32 → hm_T → hz_T → Prop} {ans : Bool} (hK : K (bI ans) h z) : ∀ (r fu q c2 : Nat), q + r = a_end n D y → y ≤ q → r < fu → c2 ≤ str.length → fz (decide (what = 6)) ((q_rng q (a_end n D y)).map (svP D y)).flatten (str.drop c2) = ans → w_Walker_stringValueFits_24 dA w K fu (some (B y)) (some c) (some st) (nI c2) (nI (a_end n D y)) (nI q) h z := by
  obtain ⟨mk, ok⟩ := G.ok
  have hn := G.hn
  have es := mp_end_spec (pa := fun k => (D k).2.2.1) hy
  have hsx := hs.1
  have ae : a_end n D y ≤ n := es.2.1
  intro r
  induction r with
  | zero =>
    intro fu q c2 hj hyq hr hc ha
    obtain ⟨fu, rfl⟩ : ∃ f, fu = f + 1 := ⟨fu - 1, by omega⟩
    unfold w_Walker_stringValueFits_24
    rw [q_rng_nil (by omega)] at ha
    have ha2 : decide (str.drop c2 = []) = ans := ha
    refine if_yes (nI_le (by omega) (by omega)) (cg_d_of ⟨v, str, hz2, ?_⟩)
    rw [← ha2] at hK
    by_cases qc : c2 = str.length
    · rw [decide_eq_true (by rw [qc]; exact List.drop_eq_nil_of_le (Nat.le_refl _))] at hK
      exact if_yes (by rw [qc]) hK
    · rw [decide_eq_false (fun x => by have := congrArg List.length x; rw [List.length_drop] at this; simp at this; omega)] at hK
      exact if_no (fun x => qc ((nI_eq (by omega) (by omega)).mp x)) hK
  | succ r ih =>
    intro fu q c2 hj hyq hr hc ha
    obtain ⟨fu, rfl⟩ : ∃ f, fu = f + 1 := ⟨fu - 1, by omega⟩
    have hqn : q < n := by omega
    obtain ⟨fs, tt, u2, c1, c2', c3, c4, c5, c6⟩ := G.cell hqn
    obtain ⟨fs2, tt2, u3, e1, e2, e3, e4, e5, e6⟩ := G.cell hy
    have tx := (G.txt hqn).1
    rw [q_rng_cons (by omega), List.map_cons, List.flatten_cons] at ha
    have next : ∀ c9, c9 ≤ str.length → fz (decide (what = 6)) ((q_rng (q + 1) (a_end n D y)).map (svP D y)).flatten (str.drop c9) = ans → w_Walker_stringValueFits_24 dA w K fu (some (B y)) (some c) (some st) (nI c9) (nI (a_end n D y)) (nI (q + 1)) h z := fun c9 h1 h2 => ih fu (q + 1) c9 (by omega) (by omega) (by omega) h1 h2
    have yes : svP D y q = (D q).2.2.2.2.2 → w_Walker_stringValueFits_60 dA w K (w_Walker_stringValueFits_24 dA w K fu) (some (B y)) (some c) (some st) (nI c2) (nI (a_end n D y)) (nI q) (some (B q)) h z := fun e => by
      unfold w_Walker_stringValueFits_60 w_Walker_stringValueFits_65
      rw [e] at ha
      exact wk_sv70 G c0 hz2 hs hw hqn hK next (D q).2.2.2.2.2.length mF 0 c2 (by omega) (by unfold mF; omega) hc (by rw [List.drop_zero]; exact ha)
    unfold w_Walker_stringValueFits_24
    refine if_no (nI_ge (by omega) (by omega)) (G.node hqn (cg_d_of (cg_I_of c1 c2' ?_)))
    by_cases q2 : (D q).2.1 = 2
    · exact if_yes ((G.kd hqn (i := 2) (by decide)).mpr q2) (yes (if_pos (Or.inl q2)))
    refine if_no (fun x => q2 ((G.kd hqn (i := 2) (by decide)).mp x)) (cg_d_of (cg_I_of e1 e2 ?_))
    by_cases q3 : (D y).2.1 = 3
    · have el := nd_leaf ok G.pre hy (by omega)
      have eq : q = y := by omega
      subst eq
      exact if_yes ((G.kd hy (i := 3) (by decide)).mpr q3) (yes (if_pos (Or.inr ⟨rfl, q3⟩)))
    refine if_no (fun x => q3 ((G.kd hy (i := 3) (by decide)).mp x)) ?_
    have en : svP D y q = [] := if_neg (fun x => x.elim q2 (fun x => q3 (by rw [← x.1]; exact x.2)))
    rw [en, List.nil_append] at ha
    unfold w_Walker_stringValueFits_65 mF w_Walker_stringValueFits_70 w_Walker_stringValueFits_142
    refine if_yes rfl ?_
    rw [nI_1]
    exact next c2 hc ha
theorem wk_sv (G : wk dA h z w a n B D) {c st v what y : Nat} {v0 v1 v2 v3 v4 v7 : Value} {str : List Nat} (c0 : h c = some (.inr (13, [v0, v1, v2, v3, v4, .int (nI (q_cmc what)), .ref st, v7]))) (hz2 : z st = some (v, str)) (hs : cs str) (hw : what < 7) (hy : y < n) {K : Int32 → hm_T → hz_T → Prop} (hK : K (bI (q_rd n D y str (decide (what = 6)))) h z) : w_Walker_stringValueFits dA w (some (B y)) (some c) K h z := by
  have hn := G.hn
  obtain ⟨fs2, tt2, u3, e1, e2, e3, e4, e5, e6⟩ := G.cell hy
  have es := mp_end_spec (pa := fun k => (D k).2.2.1) hy
  have ae : y < a_end n D y ∧ a_end n D y ≤ n := ⟨es.1, es.2.1⟩
  unfold w_Walker_stringValueFits
  refine cg_d_of (cg_R_ref c0 rfl (G.endOf hy (cg_d_of (cg_I_of e1 e4 ?_))))
  refine wk_sv24 G c0 hz2 hs hw hy (ans := q_rd n D y str (decide (what = 6))) hK (a_end n D y - y) mF y 0 (by omega) (Nat.le_refl _) (by unfold mF; omega) (Nat.zero_le _) ?_
  rw [List.drop_zero, fz_rd]
  rfl
theorem wk_goL (G : wk dA h z w a n B D) {c st v what : Nat} {v0 v1 v2 v3 v4 v7 : Value} {str : List Nat} (c0 : h c = some (.inr (13, [v0, v1, v2, v3, v4, .int (nI (q_cmc what)), .ref st, v7]))) (hz2 : z st = some (v, str)) (hs : cs str) (hw : what < 7) {K : Int64 → hm_T → hz_T → Prop} (hK : K (bO (fun y => q_rd n D y str (decide (what = 6))) n) h z) : ∀ (r fu k : Nat), k + r = n → r < fu → w_Walker_goals_26 dA w K fu (some c) (bO (fun y => q_rd n D y str (decide (what = 6))) k) (nI k) h z := by
  have hn := G.hn
  intro r
  induction r with
  | zero =>
    intro fu k hk hr
    obtain ⟨fu, rfl⟩ : ∃ f, fu = f + 1 := ⟨fu - 1, by omega⟩
    obtain rfl : k = n := by omega
    unfold w_Walker_goals_26
    exact G.size (if_yes (nI_le (Nat.le_refl _) (by omega)) hK)
  | succ r ih =>
    intro fu k hk hr
    obtain ⟨fu, rfl⟩ : ∃ f, fu = f + 1 := ⟨fu - 1, by omega⟩
    have i1 := ih fu (k + 1) (by omega) (by omega)
    unfold w_Walker_goals_26
    refine G.size (if_no (nI_ge (by omega) (by omega)) (G.node (by omega) (cg_c_of G.W (wk_sv G c0 hz2 hs hw (by omega) ?_))))
    unfold w_Walker_goals_65
    rw [nI_1]
    cases e : q_rd n D k str (decide (what = 6)) with
    | true =>
      refine if_no (by decide) ?_
      rw [bO_s1 (S := fun y => q_rd n D y str (decide (what = 6))) e]
      exact i1
    | false =>
      refine if_yes rfl ?_
      rw [bO_s0 (S := fun y => q_rd n D y str (decide (what = 6))) e]
      exact i1
/-- the places that a predicate's path may lead to -/
def goS (n : Nat) (D : Nat → nd) (what : Nat) (str : List Nat) (y : Nat) : Bool := if what = 4 then true else q_rd n D y str (decide (what = 6))
theorem wk_goals (G : wk dA h z w a n B D) {c st v what : Nat} {v0 v1 v2 v3 v4 v7 : Value} {str : List Nat} (c0 : h c = some (.inr (13, [v0, v1, v2, v3, v4, .int (nI (q_cmc what)), .ref st, v7]))) (hz2 : z st = some (v, str)) (hs : 5 ≤ what → cs str) (hw : what < 7) (hw4 : 4 ≤ what) {K : Int64 → hm_T → hz_T → Prop} (hK : ∀ m, bR m (fun y => decide (y < n) && goS n D what str y) → K m h z) : w_Walker_goals dA w (some c) K h z := by
  have hn := G.hn
  unfold w_Walker_goals
  refine cg_d_of (cg_I_of c0 rfl ?_)
  by_cases q : what = 4
  · refine if_yes (by rw [q]; decide) (G.size (wk_range (f := 0) (Nat.zero_le _) hn (fun v hv => hK v (bR_cg hv (fun y hy => ?_)))))
    unfold goS
    rw [if_pos q, Bool.and_true]
    exact decide_eq_decide.mpr ⟨fun h => h.2, fun h => ⟨Nat.zero_le _, h⟩⟩
  · have e32 : ¬ nI (q_cmc what) = 32 := by
      have : what = 5 ∨ what = 6 := by omega
      rcases this with e | e <;> (rw [e]; decide)
    refine if_no e32 (wk_goL G c0 hz2 (hs (by omega)) hw (hK _ (bR.mk (fun y hy => ?_))) n mF 0 (by omega) (by unfold mF; omega))
    rw [b_O hy n (by omega)]
    unfold goS
    rw [if_neg q]
end QV5
-- the class's walker: predicates and steps
/-- the long in a prepared step, in a prepared predicate -/
def kfD (n : Nat) (D : Nat → nd) (k : Nat) (nm : List Nat) : Int64 := bO (q_kd D k nm) n
def hbD (n : Nat) (D : Nat → nd) (N : Nat) (pr : qPr (N + 1)) (y : Nat) : Bool := if pr.2.1 < 4 then q_hat D pr.2.1 pr.2.2.2.1 pr.2.2.2.2.1 y else q_hit n D (q_H n D N) pr.2.1 pr.2.2.2.2.1 pr.2.2.2.2.2.1 pr.2.2.2.2.2.2 y
def hfD (n : Nat) (D : Nat → nd) : (N : Nat) → qPr N → Int64
  | 0, _ => 0
  | N + 1, pr => if pr.2.1 < 2 then 0 else bO (hbD n D N pr) n
/-- what is known of a path that was read -/
def vSt {α : Type} (V : α → Prop) (s : Nat × Nat × List Nat × List α) : Prop := s.1 ≤ 10 ∧ s.2.1 ≤ 4 ∧ cs s.2.2.1 ∧ ∀ pr ∈ s.2.2.2, V pr
def vPr : (N : Nat) → qPr N → Prop
  | 0, _ => False
  | N + 1, pr => pr.2.1 < 7 ∧ (pr.2.1 = 0 → pr.2.2.1 < 100) ∧ (pr.2.1 = 2 ∨ pr.2.1 = 3 → cs pr.2.2.2.1) ∧ (pr.2.1 = 3 ∨ 5 ≤ pr.2.1 → cs pr.2.2.2.2.1) ∧ (4 ≤ pr.2.1 → pr.2.2.2.2.2.2 ≠ [] ∧ ∀ s ∈ pr.2.2.2.2.2.2, vSt (vPr N) s)
section QV6
variable {dA : Nat → ClassId} {h h1 : hm_T} {z z1 : hz_T} {w a n : Nat} {B : Nat → Nat} {D : Nat → nd} {F : Nat → Prop}
theorem jF.sz {al : Nat} {rs : List Nat} (j : jF dA h F al rs) {K : Int32 → Prop} (hK : K (nI rs.length)) : jd_sz h al K := by
  obtain ⟨d, ⟨mo, c1, c2⟩, f1, f2⟩ := j
  exact ⟨d, rs.length, mo, c1, hK⟩
theorem jF.le {al : Nat} {rs : List Nat} (j : jF dA h F al rs) : rs.length ≤ 200 := by
  obtain ⟨d, ⟨mo, c1, c2⟩, f1, f2⟩ := j
  rcases c2 with ⟨e, _⟩ | ⟨e, n, f, c3, l1, l2, _⟩
  · rw [e]; exact Nat.zero_le _
  · omega
theorem jF.get {al : Nat} {ra rb : List Nat} {r : Nat} (j : jF dA h F al (ra ++ r :: rb)) {K : Nat → Prop} (hK : K r) : jd_get dA h al (nI ra.length) K := by
  have hl := j.le
  rw [List.length_append, List.length_cons] at hl
  obtain ⟨d, ⟨mo, c1, c2⟩, f1, f2⟩ := j
  rcases c2 with ⟨e, _⟩ | ⟨e, n, f, c3, l1, l2, l3⟩
  · simp at e
  · have l4 := l3 ra.length (by rw [List.length_append, List.length_cons]; omega)
    have e2 : (ra ++ r :: rb).getD ra.length 0 = r := by
      rw [List.getD_eq_getElem?_getD, List.getElem?_append_right (Nat.le_refl _), Nat.sub_self]
      rfl
    rw [e2] at l4
    exact ⟨d, (ra ++ r :: rb).length, mo, n, ra.length, r, f, c1, c3, rfl, by rw [List.length_append, List.length_cons]; omega, l1, by omega, l4, hK⟩
theorem flt_cg {f g : Nat → Nat → Nat → Bool} {of : Nat} : ∀ (l : List Nat) (k : Nat), (∀ x k, f x k of = g x k of) → q_flt f of k l = q_flt g of k l := by
  intro l
  induction l with
  | nil => intro k _; rfl
  | cons x l ih =>
    intro k e
    unfold q_flt
    rw [e x k, ih (k + 1) e]
theorem posB_cg {S S2 : Nat → Bool} {p : Nat} : ∀ (L : List Nat) (c y : Nat), (∀ x ∈ L, S x = S2 x) → posB S p L c y = posB S2 p L c y := by
  intro L
  induction L with
  | nil => intro c y _; rfl
  | cons x L ih =>
    intro c y e
    unfold posB
    rw [e x List.mem_cons_self, ih _ y (fun x hx => e x (List.mem_cons_of_mem _ hx)), ih _ y (fun x hx => e x (List.mem_cons_of_mem _ hx))]
theorem wk_posL (G : wk dA h z w a n B D) {p : Nat} (hp : p < 1000) {mm : Int64} {bk : Bool} {K : Int64 → hm_T → hz_T → Prop} : ∀ (r fu k c : Nat), k + r = n → r < fu → c ≤ k → (∀ v, (∀ y, y < 64 → bt v y = posB (bt mm) p ((dirL n bk).drop k) c y) → K v h z) → w_Walker_atPosition_6 dA w K fu (nI p) mm (bI bk) (nI c) (nI k) h z := by
  have hn := G.hn
  intro r
  induction r with
  | zero =>
    intro fu k c hk hr hc hK
    obtain ⟨fu, rfl⟩ : ∃ f, fu = f + 1 := ⟨fu - 1, by omega⟩
    obtain rfl : k = n := by omega
    unfold w_Walker_atPosition_6
    refine G.size (if_yes (nI_le (Nat.le_refl _) (by omega)) (hK 0 (fun y hy => ?_)))
    have e : (dirL k bk).drop k = [] := by
      refine List.drop_eq_nil_of_le ?_
      cases bk with
      | true => show (List.range k).reverse.length ≤ k; simp
      | false => show (List.range k).length ≤ k; simp
    rw [e, b_zero]
    rfl
  | succ r ih =>
    intro fu k c hk hr hc hK
    obtain ⟨fu, rfl⟩ : ∃ f, fu = f + 1 := ⟨fu - 1, by omega⟩
    have hkn : k < n := by omega
    rw [dir_drop hkn] at hK
    have hd : dpl n bk k < 64 := by unfold dpl; split <;> omega
    have go : w_Walker_atPosition_40 dA w K (w_Walker_atPosition_6 dA w K fu) (nI p) mm (bI bk) (nI c) (nI k) (nI (dpl n bk k)) h z := by
      unfold posB at hK
      unfold w_Walker_atPosition_40 w_Walker_atPosition_64 w_Walker_atPosition_83
      cases e : bt mm (dpl n bk k) with
      | false =>
        rw [e] at hK
        have e0 := (b_bit0 hd).mpr e
        refine if_yes e0 (if_yes e0 ?_)
        rw [nI_1, show nI c + 0 = nI c from Int32.add_zero _]
        exact ih fu (k + 1) c (by omega) (by omega) (by omega) hK
      | true =>
        rw [e] at hK
        have e0 : ¬ mm_cmp (mm &&& ((1 : Int64) <<< ((nI (dpl n bk k)).toInt64 &&& 63))) 0 = 0 := fun q => by rw [(b_bit0 hd).mp q] at e; cases e
        refine if_no e0 (if_no e0 ?_)
        rw [nI_1, nI_1]
        by_cases q : c + 1 = p
        · refine if_yes (by rw [q]) (hK _ (fun y hy => ?_))
          rw [b_bit hd hy, e, Bool.true_and, if_pos rfl, if_pos q]
        · refine if_no (fun x => q ((nI_eq (by omega) (by omega)).mp x)) ?_
          refine ih fu (k + 1) (c + 1) (by omega) (by omega) (by omega) (fun v hv => hK v (fun y hy => ?_))
          rw [if_pos rfl, if_neg q]
          exact hv y hy
    unfold w_Walker_atPosition_6
    refine G.size (if_no (nI_ge (by omega) (by omega)) ?_)
    cases bk with
    | false => exact if_yes rfl go
    | true =>
      refine if_no (by decide) (G.size ?_)
      have e : nI n - 1 - nI k = nI (n - 1 - k) := by rw [show (1 : Int32) = nI 1 from rfl, nI_sub (by omega), nI_sub (by omega)]
      rw [e]
      exact go
theorem wk_pos (G : wk dA h z w a n B D) {p : Nat} (hp : p < 1000) {mm : Int64} {bk : Bool} {K : Int64 → hm_T → hz_T → Prop} (hK : ∀ v, (∀ y, y < 64 → bt v y = posB (bt mm) p (dirL n bk) 0 y) → K v h z) : w_Walker_atPosition dA w (nI p) mm (bI bk) K h z := by
  have hn := G.hn
  unfold w_Walker_atPosition
  exact wk_posL G hp n mF 0 0 (by omega) (by unfold mF; omega) (Nat.le_refl _) (fun v hv => hK v (fun y hy => by rw [hv y hy, List.drop_zero]))
theorem wk_s53 {c : Nat} {v0 v2 v3 v4 v5 v6 v7 : Value} {neg : Bool} (c0 : h c = some (.inr (13, [v0, .int (bI neg), v2, v3, v4, v5, v6, v7]))) {mm x5 : Int64} {S T : Nat → Bool} (hm : bR mm S) (hx : ∀ y, y < 64 → S y = true → bt x5 y = T y) {K : Int64 → hm_T → hz_T → Prop} (hK : ∀ v, bR v (fun y => S y && (neg != T y)) → K v h z) : w_Walker_sift_53 dA w K (some c) mm x5 h z := by
  unfold w_Walker_sift_53 w_Walker_sift_72
  refine cg_d_of (cg_I_of c0 rfl ?_)
  cases neg with
  | false =>
    refine if_yes rfl (hK _ (bR.mk (fun y hy => ?_)))
    rw [b_and, (hm.at hy)]
    cases e : S y with
    | false => rfl
    | true => rw [hx y hy e]; cases T y <;> rfl
  | true =>
    refine if_no (by decide) (hK _ (bR.mk (fun y hy => ?_)))
    rw [b_and, (hm.at hy), b_not hy]
    cases e : S y with
    | false => rfl
    | true => rw [hx y hy e]; cases T y <;> rfl
theorem q_prc_in : ∀ i, i < 7 → ((nI (q_prc1 i) = 49 ↔ i = 0) ∧ (nI (q_prc1 i) = 36 ↔ i = 1) ∧ (nI (q_prc1 i) = 64 ↔ (i = 2 ∨ i = 3))) := by decide +kernel
theorem wk_sift (G : wk dA h z w a n B D) {N : Nat} {L : List Nat} {c : Nat} {pr : qPr N} (p : pP dA h z F (kfD n D) (hfD n D) N L c pr) (vp : vPr N pr) {bk : Bool} {l : List Nat} {mm : Int64} (s : srt bk l) (hl : ∀ y ∈ l, y < n) (hm : bR mm (fun y => decide (y ∈ l))) {K : Int64 → hm_T → hz_T → Prop} (hK : ∀ v, bR v (fun y => decide (y ∈ q_flt (q_H n D N pr) l.length 1 l)) → K v h z) : w_Walker_sift dA w (some c) mm (bI bk) K h z := by
  have hn := G.hn
  cases N with
  | zero => exact vp.elim
  | succ N =>
    obtain ⟨v1, v2, v3, v4, v5⟩ := vp
    obtain ⟨nm, st, u, v, po, L2, eL, f, c0, c1, c2, c3, c4⟩ := p
    obtain ⟨i0, i1, i2⟩ := q_prc_in pr.2.1 v1
    have can := srt_can s hl
    have hlen : l.length ≤ 64 := by
      have := srt_len hn s hl hm
      rw [← this]
      unfold pcB
      exact Nat.le_trans (List.length_filter_le _ _) (by rw [List.length_range]; exact Nat.le_refl _)
    have pos : ∀ (q : Nat), q < 1000 → (∀ x k, q_H n D (N + 1) pr x k l.length = (pr.1 != decide (k = q))) → ∀ v, (∀ y, y < 64 → bt v y = posB (bt mm) q (dirL n bk) 0 y) → w_Walker_sift_53 dA w K (some c) mm v h z := fun q hq hH v hv => by
      refine wk_s53 c0 hm (T := posB (fun y => decide (y ∈ l)) q (dirL n bk) 0) (fun y hy _ => ?_) (fun v9 hv9 => hK v9 (bR_cg hv9 (fun y hy => ?_)))
      · rw [hv y hy]
        exact posB_cg _ _ _ (fun x hx => hm.at (by have := dir_mem.mp hx; omega))
      · have e1 : q_flt (q_H n D (N + 1) pr) l.length 1 l = q_flt (fun _ k _ => pr.1 != decide (k = q)) l.length (0 + 1) ((dirL n bk).filter (fun y => decide (y ∈ l))) := by
          rw [can]
          exact flt_cg l 1 hH
        rw [e1]
        have e2 := flt_pos (S := fun y => decide (y ∈ l)) (neg := pr.1) (p := q) (of := l.length) (dirL n bk) 0 y srt_dir.nodup
        rw [Bool.eq_iff_iff, decide_eq_true_iff, e2, Bool.and_eq_true, decide_eq_true_iff]
        exact ⟨fun k => ⟨dir_mem.mpr (hl y k.1), k⟩, fun k => k.2⟩
    unfold w_Walker_sift
    refine cg_d_of (cg_L_of c0 rfl (cg_d_of (cg_I_of c0 rfl ?_)))
    by_cases q0 : pr.2.1 = 0
    · refine if_yes (i0.mpr q0) (cg_d_of (cg_I_of c0 rfl (cg_c_of G.W (wk_pos G (by have := v2 q0; omega) (fun v hv => pos pr.2.2.1 (by have := v2 q0; omega) (fun x k => ?_) v hv)))))
      show (pr.1 != (if pr.2.1 = 0 then _ else _)) = _
      rw [if_pos q0]
    refine if_no (fun e => q0 (i0.mp e)) (cg_d_of (cg_I_of c0 rfl ?_))
    by_cases q1 : pr.2.1 = 1
    · refine if_yes (i1.mpr q1) (cg_bits ?_)
      rw [srt_len hn s hl hm]
      refine cg_c_of G.W (wk_pos G (by omega) (fun v hv => pos l.length (by omega) (fun x k => ?_) v hv))
      show (pr.1 != (if pr.2.1 = 0 then _ else if pr.2.1 = 1 then _ else _)) = _
      rw [if_neg q0, if_pos q1]
    refine if_no (fun e => q1 (i1.mp e)) ?_
    have eh : hfD n D (N + 1) pr = bO (hbD n D N pr) n := if_neg (by omega)
    refine wk_s53 c0 hm (T := hbD n D N pr) (fun y hy e => ?_) (fun v9 hv9 => hK v9 (bR_cg hv9 (fun y hy => ?_)))
    · rw [eh, b_O hy n (by omega), decide_eq_true (hl y (of_decide_eq_true e)), Bool.true_and]
    · have e1 : q_flt (q_H n D (N + 1) pr) l.length 1 l = l.filter (fun y => pr.1 != hbD n D N pr y) := by
        rw [← flt_all (of := l.length) l 1]
        refine flt_cg l 1 (fun x k => ?_)
        show (pr.1 != (if pr.2.1 = 0 then _ else if pr.2.1 = 1 then _ else _)) = _
        rw [if_neg q0, if_neg q1]
        rfl
      rw [e1, Bool.eq_iff_iff, decide_eq_true_iff, List.mem_filter, Bool.and_eq_true, decide_eq_true_iff]
theorem wk_back (G : wk dA h z w a n B D) {c i : Nat} {v1 v2 v3 v4 : Value} (c0 : h c = some (.inr (12, [.int (nI (q_axc i)), v1, v2, v3, v4]))) (hi : i ≤ 10) {K : Int32 → hm_T → hz_T → Prop} (hK : K (bI (axB i)) h z) : w_Step_goesBackwards dA c K h z := by
  obtain ⟨i4, i5, i1, i2, i9, i8, i7, i3, i10, i6, i0⟩ := q_axc_in i (by omega)
  have yes : (i = 4 ∨ i = 5 ∨ i = 8 ∨ i = 10) → w_Step_goesBackwards_36 dA c K h z := fun q => by
    unfold w_Step_goesBackwards_36
    rw [show axB i = true from decide_eq_true q] at hK
    exact hK
  unfold w_Step_goesBackwards
  refine cg_I_of c0 rfl ?_
  by_cases q4 : i = 4
  · exact if_yes (i4.mpr q4) (yes (Or.inl q4))
  refine if_no (fun e => q4 (i4.mp e)) (cg_I_of c0 rfl ?_)
  by_cases q5 : i = 5
  · exact if_yes (i5.mpr q5) (yes (Or.inr (Or.inl q5)))
  refine if_no (fun e => q5 (i5.mp e)) (cg_I_of c0 rfl ?_)
  by_cases q8 : i = 8
  · exact if_yes (i8.mpr q8) (yes (Or.inr (Or.inr (Or.inl q8))))
  refine if_no (fun e => q8 (i8.mp e)) (cg_I_of c0 rfl ?_)
  by_cases q10 : i = 10
  · exact if_yes (i10.mpr q10) (yes (Or.inr (Or.inr (Or.inr q10))))
  refine if_no (fun e => q10 (i10.mp e)) ?_
  rw [show axB i = false from decide_eq_false (by omega)] at hK
  exact hK
theorem wk_l45 (G : wk dA h z w a n B D) {N : Nat} {c al i : Nat} {v1 v2 v4 : Value} (c0 : h c = some (.inr (12, [.int (nI (q_axc i)), v1, v2, .ref al, v4]))) (hi : i ≤ 10) {K : Int64 → hm_T → hz_T → Prop} : ∀ (ps : List (qPr N)) (ra rb L : List Nat) (fu : Nat) (l : List Nat) (mm : Int64), jF dA h F al (ra ++ rb) → pl (pP dA h z F (kfD n D) (hfD n D) N) L rb ps → (∀ pr ∈ ps, vPr N pr) → ps.length < fu → srt (axB i) l → (∀ y ∈ l, y < n) → bR mm (fun y => decide (y ∈ l)) → (∀ v, bR v (fun y => decide (y ∈ q_sft (q_H n D N) ps l)) → K v h z) → w_Walker_lead_45 dA w K fu (some c) mm (nI ra.length) h z := by
  intro ps
  induction ps with
  | nil =>
    intro ra rb L fu l mm j p vp hf s hl hm hK
    obtain ⟨fu, rfl⟩ : ∃ f, fu = f + 1 := ⟨fu - 1, by omega⟩
    have hle := j.le
    cases rb with
    | cons r rb => exact p.elim
    | nil =>
      unfold w_Walker_lead_45
      rw [List.append_nil] at j
      exact cg_d_of (cg_R_ref c0 rfl (cg_d_of (j.sz (if_yes (nI_le (Nat.le_refl _) (by rw [List.append_nil] at hle; omega)) (hK mm hm)))))
  | cons pr ps ih =>
    intro ra rb L fu l mm j p vp hf s hl hm hK
    obtain ⟨fu, rfl⟩ : ∃ f, fu = f + 1 := ⟨fu - 1, by omega⟩
    have hle := j.le
    cases rb with
    | nil => exact p.elim
    | cons r rb =>
      obtain ⟨L1, L2, eL, p1, p2⟩ := p
      rw [List.length_append, List.length_cons] at hle
      obtain ⟨fs, c13⟩ : ∃ fs, h r = some (.inr (13, fs)) := by
        cases N with
        | zero => exact p1.elim
        | succ N => obtain ⟨nm, st, u, v, po, L2, eL, f, c0, _⟩ := p1; exact ⟨_, c0⟩
      unfold w_Walker_lead_45
      refine cg_d_of (cg_R_ref c0 rfl (cg_d_of (j.sz (if_no (nI_ge (by rw [List.length_append, List.length_cons]; omega) (by rw [List.length_append, List.length_cons]; omega)) (cg_d_of (cg_R_ref c0 rfl (cg_d_of (j.get (cg_c_of c13 (cg_d_of (cg_c_of c0 (wk_back G c0 hi (cg_c_of G.W (wk_sift G p1 (vp pr List.mem_cons_self) s hl hm (fun v hv => ?_)))))))))))))))
      have e1 : nI ra.length + 1 = nI (ra ++ [r]).length := by rw [nI_1, List.length_append]; rfl
      rw [e1]
      exact ih (ra ++ [r]) rb L2 fu (q_flt (q_H n D N pr) l.length 1 l) v (by rw [List.append_assoc]; exact j) p2 (fun q hq => vp q (List.mem_cons_of_mem _ hq)) (by simp at hf; omega) s.flt (fun y hy => hl y (q_flt_mem _ _ _ hy)) hv hK
/-- where a prepared step leads -/
theorem wk_lead (G : wk dA h z w a n B D) {N : Nat} {L : List Nat} {c : Nat} {s : qSt N} (p : sP dA h z F (kfD n D) (pP dA h z F (kfD n D) (hfD n D) N) L c s) (vs : vSt (vPr N) s) (h0 : 0 < n) {xo : Option Nat} (hxo : ∀ x, xo = some x → x < n) {K : Int64 → hm_T → hz_T → Prop} (hK : ∀ v, bR v (fun y => decide (y ∈ q_stp n D (q_H n D N) s xo)) → K v h z) : w_Walker_lead dA w (some c) (oX xo) K h z := by
  have hn := G.hn
  obtain ⟨mk, ok⟩ := G.ok
  obtain ⟨nm, al, u, rs, L2, eL, f, c0, c1, j, p2⟩ := p
  obtain ⟨v1, v2, v3, v4⟩ := vs
  have hle := j.le
  have l33 : ∀ m, bR m (fun y => decide (y ∈ q_ax n D s.1 xo)) → w_Walker_lead_33 dA w K (some c) m h z := fun m hm => by
    unfold w_Walker_lead_33
    refine cg_d_of (cg_L_of c0 rfl ?_)
    have := wk_l45 (ra := []) G c0 v1 (K := K) s.2.2.2 rs L2 mF ((q_ax n D s.1 xo).filter (q_kd D s.2.1 s.2.2.1)) (m &&& kfD n D s.2.1 s.2.2.1) j p2 v4 (by rw [← pl.len _ _ _ p2]; unfold mF; omega) ((q_ax_srt ok v1 hxo).filter _) (fun y hy => q_ax_lt ok hxo y (List.mem_filter.mp hy).1) (fun y hy => ?_) hK
    · exact this
    · rw [b_and, (hm.at hy)]
      unfold kfD
      rw [b_O hy n (by omega), Bool.eq_iff_iff, Bool.and_eq_true, Bool.and_eq_true, decide_eq_true_iff, decide_eq_true_iff, decide_eq_true_iff, List.mem_filter]
      exact ⟨fun k => ⟨k.1, k.2.2⟩, fun k => ⟨k.1, q_ax_lt ok hxo y k.1, k.2⟩⟩
  unfold w_Walker_lead
  cases xo with
  | none => exact if_yes rfl (cg_d_of (cg_I_of c0 rfl (cg_c_of G.W (wk_docAxis G v1 h0 (fun v hv => l33 v hv)))))
  | some x =>
    have hx := hxo x rfl
    refine if_no (fun e => ?_) (cg_d_of (cg_I_of c0 rfl (G.node hx (cg_c_of G.W (wk_axis G v1 hx (fun v hv => l33 v hv))))))
    have := congrArg Int32.toInt e
    rw [show (oX (some x)).toInt = (x : Int) from nI_toInt (by omega), show (-1 : Int32).toInt = -1 by decide] at this
    omega
end QV6
-- the class's walker: steps from many places, paths forwards and backwards
section QV7
variable {dA : Nat → ClassId} {h h1 : hm_T} {z z1 : hz_T} {w a n : Nat} {B : Nat → Nat} {D : Nat → nd} {F : Nat → Prop}
theorem pl.at {α : Type} {R : List Nat → Nat → α → Prop} : ∀ (xs : List α) (rs L : List Nat), pl R L rs xs → ∀ (i : Nat) (x : α), xs[i]? = some x → ∃ L1, R L1 (rs.getD i 0) x := by
  intro xs
  induction xs with
  | nil => intro rs L h i x e; cases e
  | cons y xs ih =>
    intro rs L h i x e
    cases rs with
    | nil => exact h.elim
    | cons r rs =>
      obtain ⟨L1, L2, _, h1, h2⟩ := h
      cases i with
      | zero =>
        have e2 : y = x := Option.some.inj e
        subst e2
        exact ⟨L1, h1⟩
      | succ i => exact ih rs L2 h2 i x e
theorem jF.gi {al i : Nat} {rs : List Nat} (j : jF dA h F al rs) (hi : i < rs.length) {K : Nat → Prop} (hK : K (rs.getD i 0)) : jd_get dA h al (nI i) K := by
  obtain ⟨d, ⟨mo, c1, c2⟩, f1, f2⟩ := j
  rcases c2 with ⟨e, _⟩ | ⟨e, n, f, c3, l1, l2, l3⟩
  · rw [e] at hi; exact absurd hi (Nat.not_lt_zero _)
  · exact ⟨d, rs.length, mo, n, i, _, f, c1, c3, rfl, hi, l1, by omega, l3 i hi, hK⟩
theorem any_succ {k : Nat} {f : Nat → Bool} : (List.range (k + 1)).any f = ((List.range k).any f || f k) := by
  rw [List.range_succ, List.any_append]
  simp
theorem wk_has {m : Int64} {k : Nat} (hk : k < 64) {K : Int32 → hm_T → hz_T → Prop} (hK : K (bI (bt m k)) h z) : w_Walker_has dA m (nI k) K h z := by
  unfold w_Walker_has
  cases e : bt m k with
  | true => rw [e] at hK; exact if_yes ((b_test hk).mpr e) hK
  | false => rw [e] at hK; exact if_no (fun q => by rw [(b_test hk).mp q] at e; cases e) hK
theorem wk_lallL (G : wk dA h z w a n B D) {N : Nat} {L : List Nat} {c : Nat} {s : qSt N} (p : sP dA h z F (kfD n D) (pP dA h z F (kfD n D) (hfD n D) N) L c s) (vs : vSt (vPr N) s) {m : Int64} {S : Nat → Bool} (hm : bR m S) {K : Int64 → hm_T → hz_T → Prop} (hK : ∀ v, bR v (q_nx n D (q_H n D N) s S) → K v h z) : ∀ (r fu k : Nat) (acc : Int64), k + r = n → r < fu → bR acc (fun y => (List.range k).any (fun x => S x && decide (y ∈ q_stp n D (q_H n D N) s (some x)))) → w_Walker_leadAll_6 dA w K fu (some c) m acc (nI k) h z := by
  have hn := G.hn
  intro r
  induction r with
  | zero =>
    intro fu k acc hk hr ha
    obtain ⟨fu, rfl⟩ : ∃ f, fu = f + 1 := ⟨fu - 1, by omega⟩
    obtain rfl : k = n := by omega
    unfold w_Walker_leadAll_6
    exact G.size (if_yes (nI_le (Nat.le_refl _) (by omega)) (hK acc ha))
  | succ r ih =>
    intro fu k acc hk hr ha
    obtain ⟨fu, rfl⟩ : ∃ f, fu = f + 1 := ⟨fu - 1, by omega⟩
    unfold w_Walker_leadAll_6
    refine G.size (if_no (nI_ge (by omega) (by omega)) (wk_has (by omega) ?_))
    unfold w_Walker_leadAll_40
    rw [nI_1]
    have e := hm.at (y := k) (by omega)
    cases eb : bt m k with
    | false =>
      rw [eb] at e
      refine if_yes rfl (ih fu (k + 1) _ (by omega) (by omega) (bR.mk (fun y hy => ?_)))
      rw [b_or, b_zero, Bool.or_false, (ha.at hy), any_succ, ← e, Bool.false_and, Bool.or_false]
    | true =>
      rw [eb] at e
      refine if_no (by decide) (cg_c_of G.W (wk_lead (xo := some k) G p vs (by omega) (fun x hx => by cases hx; omega) (fun v hv => ih fu (k + 1) _ (by omega) (by omega) (bR.mk (fun y hy => ?_)))))
      rw [b_or, (ha.at hy), (hv.at hy), any_succ, ← e, Bool.true_and]
theorem wk_lall (G : wk dA h z w a n B D) {N : Nat} {L : List Nat} {c : Nat} {s : qSt N} (p : sP dA h z F (kfD n D) (pP dA h z F (kfD n D) (hfD n D) N) L c s) (vs : vSt (vPr N) s) {m : Int64} {S : Nat → Bool} (hm : bR m S) {K : Int64 → hm_T → hz_T → Prop} (hK : ∀ v, bR v (q_nx n D (q_H n D N) s S) → K v h z) : w_Walker_leadAll dA w (some c) m K h z := by
  have hn := G.hn
  unfold w_Walker_leadAll
  exact wk_lallL G p vs hm hK n mF 0 0 (by omega) (by unfold mF; omega) (fun y hy => b_zero)
/-- from where one step leads into G -/
def q_b1 {α : Type} (n : Nat) (D : Nat → nd) (H : α → Nat → Nat → Nat → Bool) (s : Nat × Nat × List Nat × List α) (G : Nat → Bool) (xo : Option Nat) : Bool := (List.range n).any (fun y => decide (y ∈ q_stp n D H s xo) && G y)
def q_bk {α : Type} (n : Nat) (D : Nat → nd) (H : α → Nat → Nat → Nat → Bool) : List (Nat × Nat × List Nat × List α) → (Nat → Bool) → Nat → Bool
  | [], G => G
  | s :: l, G => fun x => q_b1 n D H s (q_bk n D H l G) (some x)
theorem q_swap {α : Type} {H : α → Nat → Nat → Nat → Bool} : ∀ (l : List (Nat × Nat × List Nat × List α)) (S G : Nat → Bool), (List.range n).any (fun y => q_ld n D H l S y && G y) = (List.range n).any (fun x => S x && q_bk n D H l G x) := by
  intro l
  induction l with
  | nil => intro S G; rfl
  | cons s l ih =>
    intro S G
    show (List.range n).any (fun y => q_ld n D H l (q_nx n D H s S) y && G y) = _
    rw [ih (q_nx n D H s S) G, Bool.eq_iff_iff, List.any_eq_true, List.any_eq_true]
    constructor
    · rintro ⟨x, hx, e⟩
      rw [Bool.and_eq_true] at e
      obtain ⟨e1, e2⟩ := e
      obtain ⟨y, hy, e3⟩ := List.any_eq_true.mp e1
      rw [Bool.and_eq_true] at e3
      refine ⟨y, hy, ?_⟩
      rw [Bool.and_eq_true]
      refine ⟨e3.1, List.any_eq_true.mpr ⟨x, hx, ?_⟩⟩
      rw [Bool.and_eq_true]
      exact ⟨e3.2, e2⟩
    · rintro ⟨y, hy, e⟩
      rw [Bool.and_eq_true] at e
      obtain ⟨e1, e2⟩ := e
      obtain ⟨x, hx, e3⟩ := List.any_eq_true.mp e2
      rw [Bool.and_eq_true] at e3
      refine ⟨x, hx, ?_⟩
      rw [Bool.and_eq_true]
      refine ⟨List.any_eq_true.mpr ⟨y, hy, ?_⟩, e3.2⟩
      rw [Bool.and_eq_true]
      exact ⟨e1, e3.1⟩
theorem q_hit_eq {α : Type} {H : α → Nat → Nat → Nat → Bool} {what : Nat} {str : List Nat} {ab : Bool} {s : Nat × Nat × List Nat × List α} {l : List (Nat × Nat × List Nat × List α)} {x : Nat} : q_hit n D H what str ab (s :: l) x = q_b1 n D H s (q_bk n D H l (goS n D what str)) (if ab = true then none else some x) := q_swap l _ _
theorem q_b1_cmp {mk : Nat} (ok : nd_ok mk n D) {α : Type} {H : α → Nat → Nat → Nat → Bool} {s : Nat × Nat × List Nat × List α} {xo : Option Nat} (hxo : ∀ x, xo = some x → x < n) {v m : Int64} {G : Nat → Bool} (hv : bR v (fun y => decide (y ∈ q_stp n D H s xo))) (hm : bR m (fun y => decide (y < n) && G y)) : mm_cmp (v &&& m) 0 = 0 ↔ q_b1 n D H s G xo = false := by
  have hn := ok.1
  rw [b_cmp0]
  unfold q_b1
  rw [List.any_eq_false]
  constructor
  · intro k y hy w
    have hy := List.mem_range.mp hy
    have := k y (by omega)
    rw [b_and, hv.at (by omega), hm.at (by omega), decide_eq_true hy, Bool.true_and] at this
    rw [this] at w
    cases w
  · intro k y hy
    rw [b_and, (hv.at hy), (hm.at hy)]
    cases e : decide (y ∈ q_stp n D H s xo) with
    | false => rfl
    | true =>
      have hyn := q_stp_lt ok hxo y (of_decide_eq_true e)
      have := k y (List.mem_range.mpr hyn)
      rw [e, Bool.true_and] at this
      rw [decide_eq_true hyn, Bool.true_and, Bool.true_and]
      simpa using this
theorem wk_whL (G : wk dA h z w a n B D) {N : Nat} {L : List Nat} {c : Nat} {s : qSt N} (p : sP dA h z F (kfD n D) (pP dA h z F (kfD n D) (hfD n D) N) L c s) (vs : vSt (vPr N) s) {m : Int64} {S : Nat → Bool} (hm : bR m (fun y => decide (y < n) && S y)) {K : Int64 → hm_T → hz_T → Prop} (hK : ∀ v, bR v (fun x => decide (x < n) && q_b1 n D (q_H n D N) s S (some x)) → K v h z) : ∀ (r fu k : Nat), k + r = n → r < fu → w_Walker_whence_6 dA w K fu (some c) m (bO (fun x => q_b1 n D (q_H n D N) s S (some x)) k) (nI k) h z := by
  have hn := G.hn
  obtain ⟨mk, ok⟩ := G.ok
  intro r
  induction r with
  | zero =>
    intro fu k hk hr
    obtain ⟨fu, rfl⟩ : ∃ f, fu = f + 1 := ⟨fu - 1, by omega⟩
    obtain rfl : k = n := by omega
    unfold w_Walker_whence_6
    exact G.size (if_yes (nI_le (Nat.le_refl _) (by omega)) (hK _ (fun y hy => b_O hy k (by omega))))
  | succ r ih =>
    intro fu k hk hr
    obtain ⟨fu, rfl⟩ : ∃ f, fu = f + 1 := ⟨fu - 1, by omega⟩
    have i1 := ih fu (k + 1) (by omega) (by omega)
    unfold w_Walker_whence_6
    have hxo : ∀ x, some k = some x → x < n := fun x hx => by cases hx; omega
    refine G.size (if_no (nI_ge (by omega) (by omega)) (cg_c_of G.W (wk_lead (xo := some k) G p vs (by omega) hxo (fun v hv => ?_))))
    have e := q_b1_cmp ok hxo hv hm
    unfold w_Walker_whence_42
    rw [nI_1]
    cases eb : q_b1 n D (q_H n D N) s S (some k) with
    | false =>
      refine if_yes (e.mpr eb) ?_
      rw [bO_s0 (S := fun x => q_b1 n D (q_H n D N) s S (some x)) eb]
      exact i1
    | true =>
      refine if_no (fun q => by rw [e.mp q] at eb; cases eb) ?_
      rw [bO_s1 (S := fun x => q_b1 n D (q_H n D N) s S (some x)) eb]
      exact i1
theorem wk_wh (G : wk dA h z w a n B D) {N : Nat} {L : List Nat} {c : Nat} {s : qSt N} (p : sP dA h z F (kfD n D) (pP dA h z F (kfD n D) (hfD n D) N) L c s) (vs : vSt (vPr N) s) {m : Int64} {S : Nat → Bool} (hm : bR m (fun y => decide (y < n) && S y)) {K : Int64 → hm_T → hz_T → Prop} (hK : ∀ v, bR v (fun x => decide (x < n) && q_b1 n D (q_H n D N) s S (some x)) → K v h z) : w_Walker_whence dA w (some c) m K h z := by
  have hn := G.hn
  unfold w_Walker_whence
  exact wk_whL G p vs hm hK n mF 0 (by omega) (by unfold mF; omega)
theorem drop_g {α : Type} {l : List α} {k : Nat} (hk : k < l.length) : ∃ x, l[k]? = some x ∧ x ∈ l ∧ l.drop k = x :: l.drop (k + 1) := ⟨l[k], List.getElem?_eq_getElem hk, List.getElem_mem hk, List.drop_eq_getElem_cons hk⟩
theorem wk_goL5 (G : wk dA h z w a n B D) {N : Nat} {c al : Nat} {ab : Bool} {l : List (qSt N)} {rs L : List Nat} (c0 : h c = some (.inr (11, [.int (bI ab), .ref al]))) (j : jF dA h F al rs) (p : pl (sP dA h z F (kfD n D) (pP dA h z F (kfD n D) (hfD n D) N)) L rs l) (vs : ∀ s ∈ l, vSt (vPr N) s) {x1 : Int32} {K : Int64 → hm_T → hz_T → Prop} : ∀ (r fu k : Nat) (m : Int64) (S : Nat → Bool), k + r = l.length → r < fu → 1 ≤ k → bR m S → (∀ v, bR v (q_ld n D (q_H n D N) (l.drop k) S) → K v h z) → w_Walker_goFrom_5 dA w K fu x1 (some c) m (nI k) h z := by
  have hle := j.le
  have hlen := pl.len _ _ _ p
  intro r
  induction r with
  | zero =>
    intro fu k m S hk hr h1 hm hK
    obtain ⟨fu, rfl⟩ : ∃ f, fu = f + 1 := ⟨fu - 1, by omega⟩
    unfold w_Walker_goFrom_5
    rw [List.drop_eq_nil_of_le (by omega)] at hK
    exact cg_d_of (cg_R_ref c0 rfl (cg_d_of (j.sz (if_yes (nI_le (by omega) (by omega)) (hK m hm)))))
  | succ r ih =>
    intro fu k m S hk hr h1 hm hK
    obtain ⟨fu, rfl⟩ : ∃ f, fu = f + 1 := ⟨fu - 1, by omega⟩
    obtain ⟨s, es, ms, ed⟩ := drop_g (l := l) (k := k) (by omega)
    obtain ⟨L1, ps⟩ := pl.at _ _ _ p k s es
    obtain ⟨fs, cs12⟩ : ∃ fs, h (rs.getD k 0) = some (.inr (12, fs)) := by
      obtain ⟨nm, al2, u, rs2, L2, eL, f, c9, _⟩ := ps
      exact ⟨_, c9⟩
    rw [ed] at hK
    unfold w_Walker_goFrom_5
    refine cg_d_of (cg_R_ref c0 rfl (cg_d_of (j.sz (if_no (nI_ge (by omega) (by omega)) (cg_d_of (cg_R_ref c0 rfl (cg_d_of (j.gi (by omega) (cg_c_of cs12 (if_no (nI_ne (b := 0) (by omega) (by omega) (by omega)) (cg_c_of G.W (wk_lall G ps (vs s ms) hm (fun v hv => ?_)))))))))))))
    unfold w_Walker_goFrom_66
    rw [nI_1]
    exact ih fu (k + 1) v _ (by omega) (by omega) (by omega) hv hK
theorem wk_goFrom (G : wk dA h z w a n B D) {N : Nat} {c : Nat} {pt : qPt N} {L : List Nat} (p : tP dA h z F (kfD n D) (pP dA h z F (kfD n D) (hfD n D) N) L c pt) (vs : ∀ s ∈ pt.2, vSt (vPr N) s) (hne : pt.2 ≠ []) {x : Nat} (hx : x < n) {K : Int64 → hm_T → hz_T → Prop} (hK : ∀ v, bR v (q_rch n D (q_H n D N) pt.2 (if pt.1 = true then none else some x)) → K v h z) : w_Walker_goFrom dA w (nI x) (some c) K h z := by
  have hn := G.hn
  obtain ⟨al, rs, f, c0, j, p⟩ := p
  have hle := j.le
  have hlen := pl.len _ _ _ p
  have hl : 0 < pt.2.length := List.length_pos_iff.mpr hne
  obtain ⟨s, es, ms, ed⟩ := drop_g (l := pt.2) (k := 0) hl
  obtain ⟨L1, ps⟩ := pl.at _ _ _ p 0 s es
  obtain ⟨fs, cs12⟩ : ∃ fs, h (rs.getD 0 0) = some (.inr (12, fs)) := by
    obtain ⟨nm, al2, u, rs2, L2, eL, f, c9, _⟩ := ps
    exact ⟨_, c9⟩
  rw [List.drop_zero] at ed
  rw [ed] at hK
  have go : ∀ xo, (∀ x, xo = some x → x < n) → (∀ v, bR v (q_ld n D (q_H n D N) (pt.2.drop 1) (fun y => decide (y ∈ q_stp n D (q_H n D N) s xo))) → K v h z) → w_Walker_goFrom_51 dA w K (w_Walker_goFrom_5 dA w K 5999) (nI x) (some c) 0 (oX xo) (some (rs.getD 0 0)) h z := fun xo hxo k => by
    unfold w_Walker_goFrom_51 w_Walker_goFrom_66
    refine cg_c_of G.W (wk_lead G ps (vs s ms) (by omega) hxo (fun v hv => ?_))
    exact wk_goL5 G c0 j p vs (pt.2.length - 1) 5999 1 v _ (by omega) (by omega) (Nat.le_refl _) hv k
  unfold w_Walker_goFrom mF w_Walker_goFrom_5
  refine cg_d_of (cg_R_ref c0 rfl (cg_d_of (j.sz (if_no (nI_ge (b := rs.length) (a := 0) (by omega) (by omega)) (cg_d_of (cg_R_ref c0 rfl (cg_d_of (j.gi (i := 0) (by omega) (cg_c_of cs12 (if_yes rfl (cg_d_of (cg_I_of c0 rfl ?_))))))))))))
  cases e : pt.1 with
  | false =>
    rw [e] at hK
    exact if_yes rfl (go (some x) (fun y hy => by cases hy; exact hx) hK)
  | true =>
    rw [e] at hK
    exact if_no (by decide) (go none (fun y hy => by cases hy) hK)
theorem wk_orL (G : wk dA h z w a n B D) {N : Nat} {c al : Nat} {ab : Bool} {l : List (qSt N)} {rs L : List Nat} (c0 : h c = some (.inr (11, [.int (bI ab), .ref al]))) (j : jF dA h F al rs) (p : pl (sP dA h z F (kfD n D) (pP dA h z F (kfD n D) (hfD n D) N)) L rs l) (vs : ∀ s ∈ l, vSt (vPr N) s) (h0 : 0 < n) {what : Nat} {str : List Nat} {K : Int64 → hm_T → hz_T → Prop} (hK : ∀ v, bR v (fun x => decide (x < n) && q_hit n D (q_H n D N) what str ab l x) → K v h z) : ∀ (k fu : Nat) (m : Int64), k < l.length → k + 2 < fu → bR m (fun y => decide (y < n) && q_bk n D (q_H n D N) (l.drop (k + 1)) (goS n D what str) y) → w_Walker_origins_14 dA w K fu (some c) m (nI k) h z := by
  have hn := G.hn
  obtain ⟨mk, ok⟩ := G.ok
  have hle := j.le
  have hlen := pl.len _ _ _ p
  intro k
  induction k with
  | zero =>
    intro fu m hk hf hm
    obtain ⟨fu, rfl⟩ : ∃ f, fu = f + 1 + 1 := ⟨fu - 2, by omega⟩
    obtain ⟨s, es, ms, ed⟩ := drop_g (l := l) (k := 0) hk
    obtain ⟨L1, ps⟩ := pl.at _ _ _ p 0 s es
    obtain ⟨fs, cs12⟩ : ∃ fs, h (rs.getD 0 0) = some (.inr (12, fs)) := by
      obtain ⟨nm, al2, u, rs2, L2, eL, f, c9, _⟩ := ps
      exact ⟨_, c9⟩
    rw [List.drop_zero] at ed
    have fin : ∀ v, bR v (fun x => decide (x < n) && q_hit n D (q_H n D N) what str ab l x) → w_Walker_origins_90 dA w K (w_Walker_origins_14 dA w K (fu + 1)) (some c) v (nI 0) h z := fun v hv => by
      unfold w_Walker_origins_90 w_Walker_origins_14
      exact if_yes (by decide) (hK v hv)
    unfold w_Walker_origins_14
    refine if_no (nI_pos (by decide)) (cg_d_of (cg_R_ref c0 rfl (cg_d_of (j.gi (i := 0) (by omega) (cg_c_of cs12 (if_yes rfl (cg_d_of (cg_I_of c0 rfl ?_))))))))
    cases e : ab with
    | false =>
      rw [e] at fin
      unfold w_Walker_origins_80
      refine if_yes rfl (cg_c_of G.W (wk_wh G ps (vs s ms) hm (fun v hv => fin v (bR_cg hv (fun x hx => ?_)))))
      rw [ed, q_hit_eq]
      rfl
    | true =>
      rw [e] at fin
      refine if_no (by decide) (cg_c_of G.W (wk_lead (xo := none) G ps (vs s ms) h0 (fun x hx => by cases hx) (fun v hv => ?_)))
      have e2 := q_b1_cmp ok (fun x hx => by cases hx) hv hm
      have e3 : ∀ x, q_hit n D (q_H n D N) what str true l x = q_b1 n D (q_H n D N) s (q_bk n D (q_H n D N) (l.drop (0 + 1)) (goS n D what str)) none := fun x => by
        conv => lhs; rw [ed]
        rw [q_hit_eq]
        rfl
      cases eb : q_b1 n D (q_H n D N) s (q_bk n D (q_H n D N) (l.drop (0 + 1)) (goS n D what str)) none with
      | false =>
        refine if_yes (e2.mpr eb) ?_
        unfold w_Walker_origins_75
        refine fin 0 (bR.mk (fun y hy => ?_))
        rw [b_zero, e3, eb, Bool.and_false]
      | true =>
        refine if_no (fun q => by rw [e2.mp q] at eb; cases eb) (G.size (wk_range (f := 0) (Nat.zero_le _) hn (fun v2 hv2 => ?_)))
        unfold w_Walker_origins_75
        refine fin v2 (bR_cg hv2 (fun y hy => ?_))
        rw [e3, eb, Bool.and_true]
        exact decide_eq_decide.mpr ⟨fun k => k.2, fun k => ⟨Nat.zero_le _, k⟩⟩
  | succ k ih =>
    intro fu m hk hf hm
    obtain ⟨fu, rfl⟩ : ∃ f, fu = f + 1 := ⟨fu - 1, by omega⟩
    obtain ⟨s, es, ms, ed⟩ := drop_g (l := l) (k := k + 1) hk
    obtain ⟨L1, ps⟩ := pl.at _ _ _ p (k + 1) s es
    obtain ⟨fs, cs12⟩ : ∃ fs, h (rs.getD (k + 1) 0) = some (.inr (12, fs)) := by
      obtain ⟨nm, al2, u, rs2, L2, eL, f, c9, _⟩ := ps
      exact ⟨_, c9⟩
    unfold w_Walker_origins_14
    refine if_no (nI_pos (by omega)) (cg_d_of (cg_R_ref c0 rfl (cg_d_of (j.gi (by omega) (cg_c_of cs12 (if_no (nI_ne (b := 0) (by omega) (by omega) (by omega)) ?_))))))
    unfold w_Walker_origins_80 w_Walker_origins_90
    refine cg_c_of G.W (wk_wh G ps (vs s ms) hm (fun v hv => ?_))
    have e1 : nI (k + 1) + -1 = nI k := by rw [← nI_1, Int32.add_assoc, show (1 : Int32) + -1 = 0 by decide, Int32.add_zero]
    rw [e1]
    refine ih fu v (by omega) (by omega) (bR_cg hv (fun x hx => ?_))
    rw [ed]
    rfl
theorem wk_orig (G : wk dA h z w a n B D) {N : Nat} {c : Nat} {pt : qPt N} {L : List Nat} (p : tP dA h z F (kfD n D) (pP dA h z F (kfD n D) (hfD n D) N) L c pt) (vs : ∀ s ∈ pt.2, vSt (vPr N) s) (hne : pt.2 ≠ []) (h0 : 0 < n) {what : Nat} {str : List Nat} {m : Int64} (hm : bR m (fun y => decide (y < n) && goS n D what str y)) {K : Int64 → hm_T → hz_T → Prop} (hK : K (bO (q_hit n D (q_H n D N) what str pt.1 pt.2) n) h z) : w_Walker_origins dA w (some c) m K h z := by
  have hn := G.hn
  obtain ⟨al, rs, f, c0, j, p⟩ := p
  have hle := j.le
  have hlen := pl.len _ _ _ p
  have hl : 0 < pt.2.length := List.length_pos_iff.mpr hne
  unfold w_Walker_origins
  refine cg_d_of (cg_R_ref c0 rfl (cg_d_of (j.sz ?_)))
  rw [show (1 : Int32) = nI 1 from rfl, nI_sub (by omega)]
  refine wk_orL G c0 j p vs h0 (what := what) (str := str) (fun v hv => ?_) (rs.length - 1) mF m (by omega) (by unfold mF; omega) ?_
  · rw [bO_eq hn hv]; exact hK
  · rw [List.drop_eq_nil_of_le (by omega)]
    exact hm
end QV7
